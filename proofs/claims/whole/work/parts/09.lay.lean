/-! the cells as they stand behind the two constructors -/
def shl : List (Nat × Nat) := [(13, 11), (1, 6), (1, 4), (10, 13), (0, 5), (0, 5), (0, 8), (0, 8), (0, 8), (0, 40), (0, 40), (0, 40), (0, 5), (0, 5), (10, 13), (0, 5), (0, 5), (0, 8), (0, 8), (0, 8), (0, 40), (0, 40), (0, 40), (0, 5), (0, 5), (2, 3), (11, 8), (10, 13), (0, 5), (0, 5), (0, 8), (0, 8), (0, 8), (0, 40), (0, 40), (0, 40), (0, 5), (0, 5), (0, 5), (0, 5), (0, 5), (0, 6), (12, 2), (0, 40), (12, 2), (0, 40), (12, 2), (0, 40), (12, 2), (0, 40), (12, 2), (0, 40), (12, 2), (0, 40), (12, 2), (0, 60), (12, 2), (0, 60), (12, 2), (0, 60), (12, 2), (0, 60), (10, 13), (0, 5), (0, 5), (0, 8), (0, 8), (0, 8), (0, 40), (0, 40), (0, 40), (0, 5), (0, 5), (10, 13), (0, 5), (0, 5), (0, 8), (0, 8), (0, 8), (0, 40), (0, 40), (0, 40), (0, 5), (0, 5), (10, 13), (0, 5), (0, 5), (0, 8), (0, 8), (0, 8), (0, 40), (0, 40), (0, 40), (0, 5), (0, 5), (14, 20), (0, 5976), (0, 3), (0, 240), (0, 6), (0, 240), (0, 4), (0, 40), (0, 6), (0, 5), (0, 5), (0, 5)]
def vrl : List (List Nat) := [[2, 3, 4, 15, 26, 27, 42, 0, 0, 0, 0], [43, 45, 47, 49, 51, 53], [55, 57, 59, 61], [0, 5, 6, 0, 7, 8, 9, 0, 10, 11, 12, 13, 14], [], [], [], [], [], [], [], [], [], [], [0, 16, 17, 0, 18, 19, 20, 0, 21, 22, 23, 24, 25], [], [], [], [], [], [], [], [], [], [], [63, 74, 85], [28, 39, 40, 0, 0, 0, 0, 41], [0, 29, 30, 0, 31, 32, 33, 0, 34, 35, 36, 37, 38], [], [], [], [], [], [], [], [], [], [], [], [], [], [], [44, 0], [], [46, 0], [], [48, 0], [], [50, 0], [], [52, 0], [], [54, 0], [], [56, 0], [], [58, 0], [], [60, 0], [], [62, 0], [], [0, 64, 65, 0, 66, 67, 68, 0, 69, 70, 71, 72, 73], [], [], [], [], [], [], [], [], [], [], [0, 75, 76, 0, 77, 78, 79, 0, 80, 81, 82, 83, 84], [], [], [], [], [], [], [], [], [], [], [0, 86, 87, 0, 88, 89, 90, 0, 91, 92, 93, 94, 95], [], [], [], [], [], [], [], [], [], [], [97, 0, 98, 99, 100, 101, 102, 103, 0, 104, 0, 0, 0, 0, 105, 106, 0, 107, 0, 0], [], [], [], [], [], [], [], [], [], [], []]
def sh0 (i : Nat) : Nat × Nat := shl.getD i (99, 0)
def vr0 (i k : Nat) : Nat := (vrl.getD i []).getD k 0
abbrev mk (vi : Nat → Nat → Int32) (vl : Nat → Nat → Int64) : aN := (vi, vl, vr0, sh0, 107)
theorem sq_0 : sh0 0 = (13, 11) := rfl
theorem lq_0 : 0 < 107 := by decide
theorem vq_0_0 : vr0 0 0 = 1 + 1 := rfl
theorem vq_0_1 : vr0 0 1 = 2 + 1 := rfl
theorem vq_0_2 : vr0 0 2 = 3 + 1 := rfl
theorem vq_0_3 : vr0 0 3 = 14 + 1 := rfl
theorem vq_0_4 : vr0 0 4 = 25 + 1 := rfl
theorem vq_0_5 : vr0 0 5 = 26 + 1 := rfl
theorem vq_0_6 : vr0 0 6 = 41 + 1 := rfl
theorem sq_1 : sh0 1 = (1, 6) := rfl
theorem lq_1 : 1 < 107 := by decide
theorem sq_2 : sh0 2 = (1, 4) := rfl
theorem lq_2 : 2 < 107 := by decide
theorem sq_3 : sh0 3 = (10, 13) := rfl
theorem lq_3 : 3 < 107 := by decide
theorem vq_3_1 : vr0 3 1 = 4 + 1 := rfl
theorem vq_3_2 : vr0 3 2 = 5 + 1 := rfl
theorem vq_3_4 : vr0 3 4 = 6 + 1 := rfl
theorem vq_3_5 : vr0 3 5 = 7 + 1 := rfl
theorem vq_3_6 : vr0 3 6 = 8 + 1 := rfl
theorem vq_3_8 : vr0 3 8 = 9 + 1 := rfl
theorem vq_3_9 : vr0 3 9 = 10 + 1 := rfl
theorem vq_3_10 : vr0 3 10 = 11 + 1 := rfl
theorem vq_3_11 : vr0 3 11 = 12 + 1 := rfl
theorem vq_3_12 : vr0 3 12 = 13 + 1 := rfl
theorem sq_4 : sh0 4 = (0, 5) := rfl
theorem lq_4 : 4 < 107 := by decide
theorem sq_5 : sh0 5 = (0, 5) := rfl
theorem lq_5 : 5 < 107 := by decide
theorem sq_6 : sh0 6 = (0, 8) := rfl
theorem lq_6 : 6 < 107 := by decide
theorem sq_7 : sh0 7 = (0, 8) := rfl
theorem lq_7 : 7 < 107 := by decide
theorem sq_8 : sh0 8 = (0, 8) := rfl
theorem lq_8 : 8 < 107 := by decide
theorem sq_9 : sh0 9 = (0, 40) := rfl
theorem lq_9 : 9 < 107 := by decide
theorem sq_10 : sh0 10 = (0, 40) := rfl
theorem lq_10 : 10 < 107 := by decide
theorem sq_11 : sh0 11 = (0, 40) := rfl
theorem lq_11 : 11 < 107 := by decide
theorem sq_12 : sh0 12 = (0, 5) := rfl
theorem lq_12 : 12 < 107 := by decide
theorem sq_13 : sh0 13 = (0, 5) := rfl
theorem lq_13 : 13 < 107 := by decide
theorem sq_14 : sh0 14 = (10, 13) := rfl
theorem lq_14 : 14 < 107 := by decide
theorem vq_14_1 : vr0 14 1 = 15 + 1 := rfl
theorem vq_14_2 : vr0 14 2 = 16 + 1 := rfl
theorem vq_14_4 : vr0 14 4 = 17 + 1 := rfl
theorem vq_14_5 : vr0 14 5 = 18 + 1 := rfl
theorem vq_14_6 : vr0 14 6 = 19 + 1 := rfl
theorem vq_14_8 : vr0 14 8 = 20 + 1 := rfl
theorem vq_14_9 : vr0 14 9 = 21 + 1 := rfl
theorem vq_14_10 : vr0 14 10 = 22 + 1 := rfl
theorem vq_14_11 : vr0 14 11 = 23 + 1 := rfl
theorem vq_14_12 : vr0 14 12 = 24 + 1 := rfl
theorem sq_15 : sh0 15 = (0, 5) := rfl
theorem lq_15 : 15 < 107 := by decide
theorem sq_16 : sh0 16 = (0, 5) := rfl
theorem lq_16 : 16 < 107 := by decide
theorem sq_17 : sh0 17 = (0, 8) := rfl
theorem lq_17 : 17 < 107 := by decide
theorem sq_18 : sh0 18 = (0, 8) := rfl
theorem lq_18 : 18 < 107 := by decide
theorem sq_19 : sh0 19 = (0, 8) := rfl
theorem lq_19 : 19 < 107 := by decide
theorem sq_20 : sh0 20 = (0, 40) := rfl
theorem lq_20 : 20 < 107 := by decide
theorem sq_21 : sh0 21 = (0, 40) := rfl
theorem lq_21 : 21 < 107 := by decide
theorem sq_22 : sh0 22 = (0, 40) := rfl
theorem lq_22 : 22 < 107 := by decide
theorem sq_23 : sh0 23 = (0, 5) := rfl
theorem lq_23 : 23 < 107 := by decide
theorem sq_24 : sh0 24 = (0, 5) := rfl
theorem lq_24 : 24 < 107 := by decide
theorem sq_25 : sh0 25 = (2, 3) := rfl
theorem lq_25 : 25 < 107 := by decide
theorem sq_26 : sh0 26 = (11, 8) := rfl
theorem lq_26 : 26 < 107 := by decide
theorem vq_26_0 : vr0 26 0 = 27 + 1 := rfl
theorem vq_26_1 : vr0 26 1 = 38 + 1 := rfl
theorem vq_26_2 : vr0 26 2 = 39 + 1 := rfl
theorem vq_26_7 : vr0 26 7 = 40 + 1 := rfl
theorem sq_27 : sh0 27 = (10, 13) := rfl
theorem lq_27 : 27 < 107 := by decide
theorem vq_27_1 : vr0 27 1 = 28 + 1 := rfl
theorem vq_27_2 : vr0 27 2 = 29 + 1 := rfl
theorem vq_27_4 : vr0 27 4 = 30 + 1 := rfl
theorem vq_27_5 : vr0 27 5 = 31 + 1 := rfl
theorem vq_27_6 : vr0 27 6 = 32 + 1 := rfl
theorem vq_27_8 : vr0 27 8 = 33 + 1 := rfl
theorem vq_27_9 : vr0 27 9 = 34 + 1 := rfl
theorem vq_27_10 : vr0 27 10 = 35 + 1 := rfl
theorem vq_27_11 : vr0 27 11 = 36 + 1 := rfl
theorem vq_27_12 : vr0 27 12 = 37 + 1 := rfl
theorem sq_28 : sh0 28 = (0, 5) := rfl
theorem lq_28 : 28 < 107 := by decide
theorem sq_29 : sh0 29 = (0, 5) := rfl
theorem lq_29 : 29 < 107 := by decide
theorem sq_30 : sh0 30 = (0, 8) := rfl
theorem lq_30 : 30 < 107 := by decide
theorem sq_31 : sh0 31 = (0, 8) := rfl
theorem lq_31 : 31 < 107 := by decide
theorem sq_32 : sh0 32 = (0, 8) := rfl
theorem lq_32 : 32 < 107 := by decide
theorem sq_33 : sh0 33 = (0, 40) := rfl
theorem lq_33 : 33 < 107 := by decide
theorem sq_34 : sh0 34 = (0, 40) := rfl
theorem lq_34 : 34 < 107 := by decide
theorem sq_35 : sh0 35 = (0, 40) := rfl
theorem lq_35 : 35 < 107 := by decide
theorem sq_36 : sh0 36 = (0, 5) := rfl
theorem lq_36 : 36 < 107 := by decide
theorem sq_37 : sh0 37 = (0, 5) := rfl
theorem lq_37 : 37 < 107 := by decide
theorem sq_38 : sh0 38 = (0, 5) := rfl
theorem lq_38 : 38 < 107 := by decide
theorem sq_39 : sh0 39 = (0, 5) := rfl
theorem lq_39 : 39 < 107 := by decide
theorem sq_40 : sh0 40 = (0, 5) := rfl
theorem lq_40 : 40 < 107 := by decide
theorem sq_41 : sh0 41 = (0, 6) := rfl
theorem lq_41 : 41 < 107 := by decide
theorem sq_42 : sh0 42 = (12, 2) := rfl
theorem lq_42 : 42 < 107 := by decide
theorem vq_42_0 : vr0 42 0 = 43 + 1 := rfl
theorem sq_43 : sh0 43 = (0, 40) := rfl
theorem lq_43 : 43 < 107 := by decide
theorem sq_44 : sh0 44 = (12, 2) := rfl
theorem lq_44 : 44 < 107 := by decide
theorem vq_44_0 : vr0 44 0 = 45 + 1 := rfl
theorem sq_45 : sh0 45 = (0, 40) := rfl
theorem lq_45 : 45 < 107 := by decide
theorem sq_46 : sh0 46 = (12, 2) := rfl
theorem lq_46 : 46 < 107 := by decide
theorem vq_46_0 : vr0 46 0 = 47 + 1 := rfl
theorem sq_47 : sh0 47 = (0, 40) := rfl
theorem lq_47 : 47 < 107 := by decide
theorem sq_48 : sh0 48 = (12, 2) := rfl
theorem lq_48 : 48 < 107 := by decide
theorem vq_48_0 : vr0 48 0 = 49 + 1 := rfl
theorem sq_49 : sh0 49 = (0, 40) := rfl
theorem lq_49 : 49 < 107 := by decide
theorem sq_50 : sh0 50 = (12, 2) := rfl
theorem lq_50 : 50 < 107 := by decide
theorem vq_50_0 : vr0 50 0 = 51 + 1 := rfl
theorem sq_51 : sh0 51 = (0, 40) := rfl
theorem lq_51 : 51 < 107 := by decide
theorem sq_52 : sh0 52 = (12, 2) := rfl
theorem lq_52 : 52 < 107 := by decide
theorem vq_52_0 : vr0 52 0 = 53 + 1 := rfl
theorem sq_53 : sh0 53 = (0, 40) := rfl
theorem lq_53 : 53 < 107 := by decide
theorem sq_54 : sh0 54 = (12, 2) := rfl
theorem lq_54 : 54 < 107 := by decide
theorem vq_54_0 : vr0 54 0 = 55 + 1 := rfl
theorem sq_55 : sh0 55 = (0, 60) := rfl
theorem lq_55 : 55 < 107 := by decide
theorem sq_56 : sh0 56 = (12, 2) := rfl
theorem lq_56 : 56 < 107 := by decide
theorem vq_56_0 : vr0 56 0 = 57 + 1 := rfl
theorem sq_57 : sh0 57 = (0, 60) := rfl
theorem lq_57 : 57 < 107 := by decide
theorem sq_58 : sh0 58 = (12, 2) := rfl
theorem lq_58 : 58 < 107 := by decide
theorem vq_58_0 : vr0 58 0 = 59 + 1 := rfl
theorem sq_59 : sh0 59 = (0, 60) := rfl
theorem lq_59 : 59 < 107 := by decide
theorem sq_60 : sh0 60 = (12, 2) := rfl
theorem lq_60 : 60 < 107 := by decide
theorem vq_60_0 : vr0 60 0 = 61 + 1 := rfl
theorem sq_61 : sh0 61 = (0, 60) := rfl
theorem lq_61 : 61 < 107 := by decide
theorem sq_62 : sh0 62 = (10, 13) := rfl
theorem lq_62 : 62 < 107 := by decide
theorem vq_62_1 : vr0 62 1 = 63 + 1 := rfl
theorem vq_62_2 : vr0 62 2 = 64 + 1 := rfl
theorem vq_62_4 : vr0 62 4 = 65 + 1 := rfl
theorem vq_62_5 : vr0 62 5 = 66 + 1 := rfl
theorem vq_62_6 : vr0 62 6 = 67 + 1 := rfl
theorem vq_62_8 : vr0 62 8 = 68 + 1 := rfl
theorem vq_62_9 : vr0 62 9 = 69 + 1 := rfl
theorem vq_62_10 : vr0 62 10 = 70 + 1 := rfl
theorem vq_62_11 : vr0 62 11 = 71 + 1 := rfl
theorem vq_62_12 : vr0 62 12 = 72 + 1 := rfl
theorem sq_63 : sh0 63 = (0, 5) := rfl
theorem lq_63 : 63 < 107 := by decide
theorem sq_64 : sh0 64 = (0, 5) := rfl
theorem lq_64 : 64 < 107 := by decide
theorem sq_65 : sh0 65 = (0, 8) := rfl
theorem lq_65 : 65 < 107 := by decide
theorem sq_66 : sh0 66 = (0, 8) := rfl
theorem lq_66 : 66 < 107 := by decide
theorem sq_67 : sh0 67 = (0, 8) := rfl
theorem lq_67 : 67 < 107 := by decide
theorem sq_68 : sh0 68 = (0, 40) := rfl
theorem lq_68 : 68 < 107 := by decide
theorem sq_69 : sh0 69 = (0, 40) := rfl
theorem lq_69 : 69 < 107 := by decide
theorem sq_70 : sh0 70 = (0, 40) := rfl
theorem lq_70 : 70 < 107 := by decide
theorem sq_71 : sh0 71 = (0, 5) := rfl
theorem lq_71 : 71 < 107 := by decide
theorem sq_72 : sh0 72 = (0, 5) := rfl
theorem lq_72 : 72 < 107 := by decide
theorem sq_73 : sh0 73 = (10, 13) := rfl
theorem lq_73 : 73 < 107 := by decide
theorem vq_73_1 : vr0 73 1 = 74 + 1 := rfl
theorem vq_73_2 : vr0 73 2 = 75 + 1 := rfl
theorem vq_73_4 : vr0 73 4 = 76 + 1 := rfl
theorem vq_73_5 : vr0 73 5 = 77 + 1 := rfl
theorem vq_73_6 : vr0 73 6 = 78 + 1 := rfl
theorem vq_73_8 : vr0 73 8 = 79 + 1 := rfl
theorem vq_73_9 : vr0 73 9 = 80 + 1 := rfl
theorem vq_73_10 : vr0 73 10 = 81 + 1 := rfl
theorem vq_73_11 : vr0 73 11 = 82 + 1 := rfl
theorem vq_73_12 : vr0 73 12 = 83 + 1 := rfl
theorem sq_74 : sh0 74 = (0, 5) := rfl
theorem lq_74 : 74 < 107 := by decide
theorem sq_75 : sh0 75 = (0, 5) := rfl
theorem lq_75 : 75 < 107 := by decide
theorem sq_76 : sh0 76 = (0, 8) := rfl
theorem lq_76 : 76 < 107 := by decide
theorem sq_77 : sh0 77 = (0, 8) := rfl
theorem lq_77 : 77 < 107 := by decide
theorem sq_78 : sh0 78 = (0, 8) := rfl
theorem lq_78 : 78 < 107 := by decide
theorem sq_79 : sh0 79 = (0, 40) := rfl
theorem lq_79 : 79 < 107 := by decide
theorem sq_80 : sh0 80 = (0, 40) := rfl
theorem lq_80 : 80 < 107 := by decide
theorem sq_81 : sh0 81 = (0, 40) := rfl
theorem lq_81 : 81 < 107 := by decide
theorem sq_82 : sh0 82 = (0, 5) := rfl
theorem lq_82 : 82 < 107 := by decide
theorem sq_83 : sh0 83 = (0, 5) := rfl
theorem lq_83 : 83 < 107 := by decide
theorem sq_84 : sh0 84 = (10, 13) := rfl
theorem lq_84 : 84 < 107 := by decide
theorem vq_84_1 : vr0 84 1 = 85 + 1 := rfl
theorem vq_84_2 : vr0 84 2 = 86 + 1 := rfl
theorem vq_84_4 : vr0 84 4 = 87 + 1 := rfl
theorem vq_84_5 : vr0 84 5 = 88 + 1 := rfl
theorem vq_84_6 : vr0 84 6 = 89 + 1 := rfl
theorem vq_84_8 : vr0 84 8 = 90 + 1 := rfl
theorem vq_84_9 : vr0 84 9 = 91 + 1 := rfl
theorem vq_84_10 : vr0 84 10 = 92 + 1 := rfl
theorem vq_84_11 : vr0 84 11 = 93 + 1 := rfl
theorem vq_84_12 : vr0 84 12 = 94 + 1 := rfl
theorem sq_85 : sh0 85 = (0, 5) := rfl
theorem lq_85 : 85 < 107 := by decide
theorem sq_86 : sh0 86 = (0, 5) := rfl
theorem lq_86 : 86 < 107 := by decide
theorem sq_87 : sh0 87 = (0, 8) := rfl
theorem lq_87 : 87 < 107 := by decide
theorem sq_88 : sh0 88 = (0, 8) := rfl
theorem lq_88 : 88 < 107 := by decide
theorem sq_89 : sh0 89 = (0, 8) := rfl
theorem lq_89 : 89 < 107 := by decide
theorem sq_90 : sh0 90 = (0, 40) := rfl
theorem lq_90 : 90 < 107 := by decide
theorem sq_91 : sh0 91 = (0, 40) := rfl
theorem lq_91 : 91 < 107 := by decide
theorem sq_92 : sh0 92 = (0, 40) := rfl
theorem lq_92 : 92 < 107 := by decide
theorem sq_93 : sh0 93 = (0, 5) := rfl
theorem lq_93 : 93 < 107 := by decide
theorem sq_94 : sh0 94 = (0, 5) := rfl
theorem lq_94 : 94 < 107 := by decide
theorem sq_95 : sh0 95 = (14, 20) := rfl
theorem lq_95 : 95 < 107 := by decide
theorem vq_95_0 : vr0 95 0 = 96 + 1 := rfl
theorem vq_95_2 : vr0 95 2 = 97 + 1 := rfl
theorem vq_95_3 : vr0 95 3 = 98 + 1 := rfl
theorem vq_95_4 : vr0 95 4 = 99 + 1 := rfl
theorem vq_95_5 : vr0 95 5 = 100 + 1 := rfl
theorem vq_95_6 : vr0 95 6 = 101 + 1 := rfl
theorem vq_95_7 : vr0 95 7 = 102 + 1 := rfl
theorem vq_95_9 : vr0 95 9 = 103 + 1 := rfl
theorem vq_95_14 : vr0 95 14 = 104 + 1 := rfl
theorem vq_95_15 : vr0 95 15 = 105 + 1 := rfl
theorem vq_95_17 : vr0 95 17 = 106 + 1 := rfl
theorem sq_96 : sh0 96 = (0, 5976) := rfl
theorem lq_96 : 96 < 107 := by decide
theorem sq_97 : sh0 97 = (0, 3) := rfl
theorem lq_97 : 97 < 107 := by decide
theorem sq_98 : sh0 98 = (0, 240) := rfl
theorem lq_98 : 98 < 107 := by decide
theorem sq_99 : sh0 99 = (0, 6) := rfl
theorem lq_99 : 99 < 107 := by decide
theorem sq_100 : sh0 100 = (0, 240) := rfl
theorem lq_100 : 100 < 107 := by decide
theorem sq_101 : sh0 101 = (0, 4) := rfl
theorem lq_101 : 101 < 107 := by decide
theorem sq_102 : sh0 102 = (0, 40) := rfl
theorem lq_102 : 102 < 107 := by decide
theorem sq_103 : sh0 103 = (0, 6) := rfl
theorem lq_103 : 103 < 107 := by decide
theorem sq_104 : sh0 104 = (0, 5) := rfl
theorem lq_104 : 104 < 107 := by decide
theorem sq_105 : sh0 105 = (0, 5) := rfl
theorem lq_105 : 105 < 107 := by decide
theorem sq_106 : sh0 106 = (0, 5) := rfl
theorem lq_106 : 106 < 107 := by decide
def isCl (b : Nat) : Prop := b = 3 ∨ b = 14 ∨ b = 27 ∨ b = 62 ∨ b = 73 ∨ b = 84
def isRw (b : Nat) : Prop := b = 42 ∨ b = 44 ∨ b = 46 ∨ b = 48 ∨ b = 50 ∨ b = 52 ∨ b = 54 ∨ b = 56 ∨ b = 58 ∨ b = 60
theorem isCl_3 : isCl 3 := by simp [isCl]
theorem isCl_14 : isCl 14 := by simp [isCl]
theorem isCl_27 : isCl 27 := by simp [isCl]
theorem isCl_62 : isCl 62 := by simp [isCl]
theorem isCl_73 : isCl 73 := by simp [isCl]
theorem isCl_84 : isCl 84 := by simp [isCl]
theorem isRw_42 : isRw 42 := by simp [isRw]
theorem isRw_44 : isRw 44 := by simp [isRw]
theorem isRw_46 : isRw 46 := by simp [isRw]
theorem isRw_48 : isRw 48 := by simp [isRw]
theorem isRw_50 : isRw 50 := by simp [isRw]
theorem isRw_52 : isRw 52 := by simp [isRw]
theorem isRw_54 : isRw 54 := by simp [isRw]
theorem isRw_56 : isRw 56 := by simp [isRw]
theorem isRw_58 : isRw 58 := by simp [isRw]
theorem isRw_60 : isRw 60 := by simp [isRw]
theorem cl_lt {b : Nat} (h : isCl b) (j : Nat) (hj : j ≤ 10) : b + j < 107 := by unfold isCl at h; omega
theorem cl_lt0 {b : Nat} (h : isCl b) : b < 107 := by unfold isCl at h; omega
theorem cl_s0 {b : Nat} (h : isCl b) : sh0 b = (10 + 0, qM 0) := by rcases h with rfl | rfl | rfl | rfl | rfl | rfl <;> rfl
theorem cl_s1 {b : Nat} (h : isCl b) : sh0 (b + 1) = (0, 5) := by rcases h with rfl | rfl | rfl | rfl | rfl | rfl <;> rfl
theorem cl_v1 {b : Nat} (h : isCl b) : vr0 b 1 = b + 1 + 1 := by rcases h with rfl | rfl | rfl | rfl | rfl | rfl <;> rfl
theorem cl_s2 {b : Nat} (h : isCl b) : sh0 (b + 2) = (0, 5) := by rcases h with rfl | rfl | rfl | rfl | rfl | rfl <;> rfl
theorem cl_v2 {b : Nat} (h : isCl b) : vr0 b 2 = b + 2 + 1 := by rcases h with rfl | rfl | rfl | rfl | rfl | rfl <;> rfl
theorem cl_s3 {b : Nat} (h : isCl b) : sh0 (b + 3) = (0, 8) := by rcases h with rfl | rfl | rfl | rfl | rfl | rfl <;> rfl
theorem cl_v4 {b : Nat} (h : isCl b) : vr0 b 4 = b + 3 + 1 := by rcases h with rfl | rfl | rfl | rfl | rfl | rfl <;> rfl
theorem cl_s4 {b : Nat} (h : isCl b) : sh0 (b + 4) = (0, 8) := by rcases h with rfl | rfl | rfl | rfl | rfl | rfl <;> rfl
theorem cl_v5 {b : Nat} (h : isCl b) : vr0 b 5 = b + 4 + 1 := by rcases h with rfl | rfl | rfl | rfl | rfl | rfl <;> rfl
theorem cl_s5 {b : Nat} (h : isCl b) : sh0 (b + 5) = (0, 8) := by rcases h with rfl | rfl | rfl | rfl | rfl | rfl <;> rfl
theorem cl_v6 {b : Nat} (h : isCl b) : vr0 b 6 = b + 5 + 1 := by rcases h with rfl | rfl | rfl | rfl | rfl | rfl <;> rfl
theorem cl_s6 {b : Nat} (h : isCl b) : sh0 (b + 6) = (0, 40) := by rcases h with rfl | rfl | rfl | rfl | rfl | rfl <;> rfl
theorem cl_v8 {b : Nat} (h : isCl b) : vr0 b 8 = b + 6 + 1 := by rcases h with rfl | rfl | rfl | rfl | rfl | rfl <;> rfl
theorem cl_s7 {b : Nat} (h : isCl b) : sh0 (b + 7) = (0, 40) := by rcases h with rfl | rfl | rfl | rfl | rfl | rfl <;> rfl
theorem cl_v9 {b : Nat} (h : isCl b) : vr0 b 9 = b + 7 + 1 := by rcases h with rfl | rfl | rfl | rfl | rfl | rfl <;> rfl
theorem cl_s8 {b : Nat} (h : isCl b) : sh0 (b + 8) = (0, 40) := by rcases h with rfl | rfl | rfl | rfl | rfl | rfl <;> rfl
theorem cl_v10 {b : Nat} (h : isCl b) : vr0 b 10 = b + 8 + 1 := by rcases h with rfl | rfl | rfl | rfl | rfl | rfl <;> rfl
theorem cl_s9 {b : Nat} (h : isCl b) : sh0 (b + 9) = (0, 5) := by rcases h with rfl | rfl | rfl | rfl | rfl | rfl <;> rfl
theorem cl_v11 {b : Nat} (h : isCl b) : vr0 b 11 = b + 9 + 1 := by rcases h with rfl | rfl | rfl | rfl | rfl | rfl <;> rfl
theorem cl_s10 {b : Nat} (h : isCl b) : sh0 (b + 10) = (0, 5) := by rcases h with rfl | rfl | rfl | rfl | rfl | rfl <;> rfl
theorem cl_v12 {b : Nat} (h : isCl b) : vr0 b 12 = b + 10 + 1 := by rcases h with rfl | rfl | rfl | rfl | rfl | rfl <;> rfl
def rl (r : Nat) : Nat := if r < 54 then 40 else 60
theorem rw_lt0 {b : Nat} (h : isRw b) : b < 107 := by unfold isRw at h; omega
theorem rw_lt1 {b : Nat} (h : isRw b) : b + 1 < 107 := by unfold isRw at h; omega
theorem rw_s0 {b : Nat} (h : isRw b) : sh0 b = (10 + 2, qM 2) := by rcases h with rfl | rfl | rfl | rfl | rfl | rfl | rfl | rfl | rfl | rfl <;> rfl
theorem rw_s1 {b : Nat} (h : isRw b) : sh0 (b + 1) = (0, rl b) := by rcases h with rfl | rfl | rfl | rfl | rfl | rfl | rfl | rfl | rfl | rfl <;> rfl
theorem rw_v0 {b : Nat} (h : isRw b) : vr0 b 0 = b + 1 + 1 := by rcases h with rfl | rfl | rfl | rfl | rfl | rfl | rfl | rfl | rfl | rfl <;> rfl
theorem vin_lt {i : Int32} {n : Nat} (h : vp_in i n) : i.toNatClampNeg < n := Nat.not_le.mp fun q => h (Or.inr q)
theorem rows_v {j : Nat} (h : j < 6) : vr0 1 j = 42 + 2 * j + 1 := by
  rcases (show j = 0 ∨ j = 1 ∨ j = 2 ∨ j = 3 ∨ j = 4 ∨ j = 5 by omega) with rfl | rfl | rfl | rfl | rfl | rfl <;> rfl
theorem texts_v {j : Nat} (h : j < 4) : vr0 2 j = 54 + 2 * j + 1 := by
  rcases (show j = 0 ∨ j = 1 ∨ j = 2 ∨ j = 3 by omega) with rfl | rfl | rfl | rfl <;> rfl
theorem kept_v {j : Nat} (h : j < 3) : vr0 25 j = 62 + 11 * j + 1 := by
  rcases (show j = 0 ∨ j = 1 ∨ j = 2 by omega) with rfl | rfl | rfl <;> rfl
theorem rows_i {j : Nat} (h : j < 6) : isRw (42 + 2 * j) := by unfold isRw; omega
theorem texts_i {j : Nat} (h : j < 4) : isRw (54 + 2 * j) := by unfold isRw; omega
theorem kept_i {j : Nat} (h : j < 3) : isCl (62 + 11 * j) := by unfold isCl; omega
/-- rows or texts -/
def isRA (t : Nat) : Prop := t = 1 ∨ t = 2
def rn (t : Nat) : Nat := if t = 1 then 6 else 4
def re (t j : Nat) : Nat := 30 + 12 * t + 2 * j
theorem ra_lt {t : Nat} (h : isRA t) : t < 107 := by unfold isRA at h; omega
theorem ra_s {t : Nat} (h : isRA t) : sh0 t = (1, rn t) := by rcases h with rfl | rfl <;> rfl
theorem ra_v {t j : Nat} (h : isRA t) (hj : j < rn t) : vr0 t j = re t j + 1 := by
  rcases h with rfl | rfl
  · exact rows_v hj
  · exact texts_v hj
theorem ra_i {t j : Nat} (h : isRA t) (hj : j < rn t) : isRw (re t j) := by
  rcases h with rfl | rfl
  · exact rows_i hj
  · exact texts_i hj
section R5
variable {X : aX} {d mid bc bs pc : Nat} {ls : aL} {st : List Value} {N : aN} {post : aO}
theorem wr_getR2 {ci k0 idx a b : Nat} (ha : a < nC N) (hsh : sH N a = (10 + ci, qM ci)) (hci : ci < 5) (hk : k0 < qM ci) (hln : Cond.fieldLink (am_y mid).cls idx (qR ci) (qT ci k0).2.1 (qT ci k0).2.2.1 ∈ am_big) (hft : am_ft ci k0 = 2) (hv : vR N a k0 = b + 1) (hb : b < nC N) (hd : decode (am_c mid) pc = .ok (.getfield idx, 3)) (k : wp X d mid bc bs (pc + 3) ls (.ref b :: st) N post) : wp X d mid bc bs pc ls (.ref a :: st) N post :=
  wr_getR ha hsh hci hk hln hft (by rw [hv]; omega) (by rw [hv]; omega) hd (by rw [hv]; exact k)
theorem wr_aald2 {a n kd b : Nat} {i : Int32} (ha : a < nC N) (hsh : sH N a = (kd, n)) (hkd : kd = 1 ∨ kd = 2) (hi : vp_in i n) (hv : vR N a i.toNatClampNeg = b + 1) (hb : b < nC N) (hd : decode (am_c mid) pc = .ok (.aaload, 1)) (k : wp X d mid bc bs (pc + 1) ls (.ref b :: st) N post) : wp X d mid bc bs pc ls (.int i :: .ref a :: st) N post :=
  wr_aald ha hsh hkd hi (by rw [hv]; omega) (by rw [hv]; omega) hd (by rw [hv]; exact k)
end R5
theorem am_at {w : Cond} (p : Nat) (h : tables_1[p]? = some w) (hg : goodWord w = true) : w ∈ am_big := List.mem_filter.mpr ⟨List.mem_append_right _ (List.mem_of_getElem? h), hg⟩
theorem am_as {w : Cond} (p : Nat) (h : (k2_sels lw_privs)[p]? = some w) (hg : goodWord w = true) : w ∈ am_big := List.mem_filter.mpr ⟨List.mem_append_left _ (List.mem_of_getElem? h), hg⟩
theorem lf_C_9 : Cond.fieldLink "SewnAhead$Cloth" 9 (qR 0) (qT 0 0).2.1 (qT 0 0).2.2.1 ∈ am_big := am_at 27 (by decide +kernel) rfl
theorem lf_D_31 : Cond.fieldLink "SewnAhead$Reader" 31 (qR 0) (qT 0 0).2.1 (qT 0 0).2.2.1 ∈ am_big := am_at 28 (by decide +kernel) rfl
theorem lf_P_56 : Cond.fieldLink "SewnAhead$Plans" 56 (qR 0) (qT 0 0).2.1 (qT 0 0).2.2.1 ∈ am_big := am_at 29 (by decide +kernel) rfl
theorem lf_S_118 : Cond.fieldLink "SewnAhead" 118 (qR 0) (qT 0 0).2.1 (qT 0 0).2.2.1 ∈ am_big := am_at 30 (by decide +kernel) rfl
theorem lf_C_15 : Cond.fieldLink "SewnAhead$Cloth" 15 (qR 0) (qT 0 1).2.1 (qT 0 1).2.2.1 ∈ am_big := am_at 31 (by decide +kernel) rfl
theorem lf_P_62 : Cond.fieldLink "SewnAhead$Plans" 62 (qR 0) (qT 0 1).2.1 (qT 0 1).2.2.1 ∈ am_big := am_at 32 (by decide +kernel) rfl
theorem lf_S_179 : Cond.fieldLink "SewnAhead" 179 (qR 0) (qT 0 1).2.1 (qT 0 1).2.2.1 ∈ am_big := am_at 33 (by decide +kernel) rfl
theorem lf_C_19 : Cond.fieldLink "SewnAhead$Cloth" 19 (qR 0) (qT 0 2).2.1 (qT 0 2).2.2.1 ∈ am_big := am_at 34 (by decide +kernel) rfl
theorem lf_P_65 : Cond.fieldLink "SewnAhead$Plans" 65 (qR 0) (qT 0 2).2.1 (qT 0 2).2.2.1 ∈ am_big := am_at 35 (by decide +kernel) rfl
theorem lf_S_278 : Cond.fieldLink "SewnAhead" 278 (qR 0) (qT 0 2).2.1 (qT 0 2).2.2.1 ∈ am_big := am_at 36 (by decide +kernel) rfl
theorem lf_C_22 : Cond.fieldLink "SewnAhead$Cloth" 22 (qR 0) (qT 0 3).2.1 (qT 0 3).2.2.1 ∈ am_big := am_at 37 (by decide +kernel) rfl
theorem lf_S_225 : Cond.fieldLink "SewnAhead" 225 (qR 0) (qT 0 3).2.1 (qT 0 3).2.2.1 ∈ am_big := am_at 38 (by decide +kernel) rfl
theorem lf_C_25 : Cond.fieldLink "SewnAhead$Cloth" 25 (qR 0) (qT 0 4).2.1 (qT 0 4).2.2.1 ∈ am_big := am_at 39 (by decide +kernel) rfl
theorem lf_S_222 : Cond.fieldLink "SewnAhead" 222 (qR 0) (qT 0 4).2.1 (qT 0 4).2.2.1 ∈ am_big := am_at 40 (by decide +kernel) rfl
theorem lf_C_28 : Cond.fieldLink "SewnAhead$Cloth" 28 (qR 0) (qT 0 5).2.1 (qT 0 5).2.2.1 ∈ am_big := am_at 41 (by decide +kernel) rfl
theorem lf_S_137 : Cond.fieldLink "SewnAhead" 137 (qR 0) (qT 0 5).2.1 (qT 0 5).2.2.1 ∈ am_big := am_at 42 (by decide +kernel) rfl
theorem lf_C_31 : Cond.fieldLink "SewnAhead$Cloth" 31 (qR 0) (qT 0 6).2.1 (qT 0 6).2.2.1 ∈ am_big := am_at 43 (by decide +kernel) rfl
theorem lf_S_143 : Cond.fieldLink "SewnAhead" 143 (qR 0) (qT 0 6).2.1 (qT 0 6).2.2.1 ∈ am_big := am_at 44 (by decide +kernel) rfl
theorem lf_C_34 : Cond.fieldLink "SewnAhead$Cloth" 34 (qR 0) (qT 0 7).2.1 (qT 0 7).2.2.1 ∈ am_big := am_at 45 (by decide +kernel) rfl
theorem lf_S_157 : Cond.fieldLink "SewnAhead" 157 (qR 0) (qT 0 7).2.1 (qT 0 7).2.2.1 ∈ am_big := am_at 46 (by decide +kernel) rfl
theorem lf_C_37 : Cond.fieldLink "SewnAhead$Cloth" 37 (qR 0) (qT 0 8).2.1 (qT 0 8).2.2.1 ∈ am_big := am_at 47 (by decide +kernel) rfl
theorem lf_C_40 : Cond.fieldLink "SewnAhead$Cloth" 40 (qR 0) (qT 0 9).2.1 (qT 0 9).2.2.1 ∈ am_big := am_at 48 (by decide +kernel) rfl
theorem lf_C_43 : Cond.fieldLink "SewnAhead$Cloth" 43 (qR 0) (qT 0 10).2.1 (qT 0 10).2.2.1 ∈ am_big := am_at 49 (by decide +kernel) rfl
theorem lf_C_46 : Cond.fieldLink "SewnAhead$Cloth" 46 (qR 0) (qT 0 11).2.1 (qT 0 11).2.2.1 ∈ am_big := am_at 50 (by decide +kernel) rfl
theorem lf_P_90 : Cond.fieldLink "SewnAhead$Plans" 90 (qR 0) (qT 0 11).2.1 (qT 0 11).2.2.1 ∈ am_big := am_at 51 (by decide +kernel) rfl
theorem lf_S_228 : Cond.fieldLink "SewnAhead" 228 (qR 0) (qT 0 11).2.1 (qT 0 11).2.2.1 ∈ am_big := am_at 52 (by decide +kernel) rfl
theorem lf_C_49 : Cond.fieldLink "SewnAhead$Cloth" 49 (qR 0) (qT 0 12).2.1 (qT 0 12).2.2.1 ∈ am_big := am_at 53 (by decide +kernel) rfl
theorem lf_S_169 : Cond.fieldLink "SewnAhead" 169 (qR 0) (qT 0 12).2.1 (qT 0 12).2.2.1 ∈ am_big := am_at 54 (by decide +kernel) rfl
theorem lf_P_12 : Cond.fieldLink "SewnAhead$Plans" 12 (qR 1) (qT 1 0).2.1 (qT 1 0).2.2.1 ∈ am_big := am_at 92 (by decide +kernel) rfl
theorem lf_P_18 : Cond.fieldLink "SewnAhead$Plans" 18 (qR 1) (qT 1 1).2.1 (qT 1 1).2.2.1 ∈ am_big := am_at 93 (by decide +kernel) rfl
theorem lf_P_22 : Cond.fieldLink "SewnAhead$Plans" 22 (qR 1) (qT 1 2).2.1 (qT 1 2).2.2.1 ∈ am_big := am_at 94 (by decide +kernel) rfl
theorem lf_P_25 : Cond.fieldLink "SewnAhead$Plans" 25 (qR 1) (qT 1 3).2.1 (qT 1 3).2.2.1 ∈ am_big := am_at 95 (by decide +kernel) rfl
theorem lf_P_29 : Cond.fieldLink "SewnAhead$Plans" 29 (qR 1) (qT 1 4).2.1 (qT 1 4).2.2.1 ∈ am_big := am_at 96 (by decide +kernel) rfl
theorem lf_P_33 : Cond.fieldLink "SewnAhead$Plans" 33 (qR 1) (qT 1 5).2.1 (qT 1 5).2.2.1 ∈ am_big := am_at 97 (by decide +kernel) rfl
theorem lf_P_36 : Cond.fieldLink "SewnAhead$Plans" 36 (qR 1) (qT 1 6).2.1 (qT 1 6).2.2.1 ∈ am_big := am_at 98 (by decide +kernel) rfl
theorem lf_P_39 : Cond.fieldLink "SewnAhead$Plans" 39 (qR 1) (qT 1 7).2.1 (qT 1 7).2.2.1 ∈ am_big := am_at 99 (by decide +kernel) rfl
theorem lf_S_234 : Cond.fieldLink "SewnAhead" 234 (qR 1) (qT 1 7).2.1 (qT 1 7).2.2.1 ∈ am_big := am_at 100 (by decide +kernel) rfl
theorem lf_R_19 : Cond.fieldLink "SewnAhead$Row" 19 (qR 2) (qT 2 0).2.1 (qT 2 0).2.2.1 ∈ am_big := am_at 126 (by decide +kernel) rfl
theorem lf_S_76 : Cond.fieldLink "SewnAhead" 76 (qR 2) (qT 2 0).2.1 (qT 2 0).2.2.1 ∈ am_big := am_at 127 (by decide +kernel) rfl
theorem lf_D_58 : Cond.fieldLink "SewnAhead$Reader" 58 (qR 2) (qT 2 0).2.1 (qT 2 0).2.2.1 ∈ am_big := am_at 128 (by decide +kernel) rfl
theorem lf_R_9 : Cond.fieldLink "SewnAhead$Row" 9 (qR 2) (qT 2 1).2.1 (qT 2 1).2.2.1 ∈ am_big := am_at 129 (by decide +kernel) rfl
theorem lf_D_39 : Cond.fieldLink "SewnAhead$Reader" 39 (qR 2) (qT 2 1).2.1 (qT 2 1).2.2.1 ∈ am_big := am_at 130 (by decide +kernel) rfl
theorem lf_S_96 : Cond.fieldLink "SewnAhead" 96 (qR 2) (qT 2 1).2.1 (qT 2 1).2.2.1 ∈ am_big := am_at 131 (by decide +kernel) rfl
theorem lf_S_11 : Cond.fieldLink "SewnAhead" 11 (qR 3) (qT 3 0).2.1 (qT 3 0).2.2.1 ∈ am_big := am_at 137 (by decide +kernel) rfl
theorem lf_S_15 : Cond.fieldLink "SewnAhead" 15 (qR 3) (qT 3 1).2.1 (qT 3 1).2.2.1 ∈ am_big := am_at 138 (by decide +kernel) rfl
theorem lf_S_21 : Cond.fieldLink "SewnAhead" 21 (qR 3) (qT 3 2).2.1 (qT 3 2).2.2.1 ∈ am_big := am_at 139 (by decide +kernel) rfl
theorem lf_S_25 : Cond.fieldLink "SewnAhead" 25 (qR 3) (qT 3 3).2.1 (qT 3 3).2.2.1 ∈ am_big := am_at 140 (by decide +kernel) rfl
theorem lf_S_28 : Cond.fieldLink "SewnAhead" 28 (qR 3) (qT 3 4).2.1 (qT 3 4).2.2.1 ∈ am_big := am_at 141 (by decide +kernel) rfl
theorem lf_S_35 : Cond.fieldLink "SewnAhead" 35 (qR 3) (qT 3 5).2.1 (qT 3 5).2.2.1 ∈ am_big := am_at 142 (by decide +kernel) rfl
theorem lf_S_39 : Cond.fieldLink "SewnAhead" 39 (qR 3) (qT 3 6).2.1 (qT 3 6).2.2.1 ∈ am_big := am_at 143 (by decide +kernel) rfl
theorem lf_S_43 : Cond.fieldLink "SewnAhead" 43 (qR 3) (qT 3 7).2.1 (qT 3 7).2.2.1 ∈ am_big := am_at 144 (by decide +kernel) rfl
theorem lf_S_47 : Cond.fieldLink "SewnAhead" 47 (qR 3) (qT 3 8).2.1 (qT 3 8).2.2.1 ∈ am_big := am_at 145 (by decide +kernel) rfl
theorem lf_S_50 : Cond.fieldLink "SewnAhead" 50 (qR 3) (qT 3 9).2.1 (qT 3 9).2.2.1 ∈ am_big := am_at 146 (by decide +kernel) rfl
theorem lf_S_54 : Cond.fieldLink "SewnAhead" 54 (qR 3) (qT 3 10).2.1 (qT 3 10).2.2.1 ∈ am_big := am_at 147 (by decide +kernel) rfl
theorem lf_M_7 : Cond.fieldLink "SewnAheadModel" 7 (qR 4) (qT 4 0).2.1 (qT 4 0).2.2.1 ∈ am_big := am_at 634 (by decide +kernel) rfl
theorem lf_M_127 : Cond.fieldLink "SewnAheadModel" 127 (qR 4) (qT 4 1).2.1 (qT 4 1).2.2.1 ∈ am_big := am_at 635 (by decide +kernel) rfl
theorem lf_M_13 : Cond.fieldLink "SewnAheadModel" 13 (qR 4) (qT 4 2).2.1 (qT 4 2).2.2.1 ∈ am_big := am_at 636 (by decide +kernel) rfl
theorem lf_M_16 : Cond.fieldLink "SewnAheadModel" 16 (qR 4) (qT 4 3).2.1 (qT 4 3).2.2.1 ∈ am_big := am_at 637 (by decide +kernel) rfl
theorem lf_M_19 : Cond.fieldLink "SewnAheadModel" 19 (qR 4) (qT 4 4).2.1 (qT 4 4).2.2.1 ∈ am_big := am_at 638 (by decide +kernel) rfl
theorem lf_M_22 : Cond.fieldLink "SewnAheadModel" 22 (qR 4) (qT 4 5).2.1 (qT 4 5).2.2.1 ∈ am_big := am_at 639 (by decide +kernel) rfl
theorem lf_M_25 : Cond.fieldLink "SewnAheadModel" 25 (qR 4) (qT 4 6).2.1 (qT 4 6).2.2.1 ∈ am_big := am_at 640 (by decide +kernel) rfl
theorem lf_M_28 : Cond.fieldLink "SewnAheadModel" 28 (qR 4) (qT 4 7).2.1 (qT 4 7).2.2.1 ∈ am_big := am_at 641 (by decide +kernel) rfl
theorem lf_M_51 : Cond.fieldLink "SewnAheadModel" 51 (qR 4) (qT 4 8).2.1 (qT 4 8).2.2.1 ∈ am_big := am_at 642 (by decide +kernel) rfl
theorem lf_M_31 : Cond.fieldLink "SewnAheadModel" 31 (qR 4) (qT 4 9).2.1 (qT 4 9).2.2.1 ∈ am_big := am_at 643 (by decide +kernel) rfl
theorem lf_M_54 : Cond.fieldLink "SewnAheadModel" 54 (qR 4) (qT 4 10).2.1 (qT 4 10).2.2.1 ∈ am_big := am_at 644 (by decide +kernel) rfl
theorem lf_M_209 : Cond.fieldLink "SewnAheadModel" 209 (qR 4) (qT 4 11).2.1 (qT 4 11).2.2.1 ∈ am_big := am_at 645 (by decide +kernel) rfl
theorem lf_M_34 : Cond.fieldLink "SewnAheadModel" 34 (qR 4) (qT 4 12).2.1 (qT 4 12).2.2.1 ∈ am_big := am_at 646 (by decide +kernel) rfl
theorem lf_M_91 : Cond.fieldLink "SewnAheadModel" 91 (qR 4) (qT 4 13).2.1 (qT 4 13).2.2.1 ∈ am_big := am_at 647 (by decide +kernel) rfl
theorem lf_M_38 : Cond.fieldLink "SewnAheadModel" 38 (qR 4) (qT 4 14).2.1 (qT 4 14).2.2.1 ∈ am_big := am_at 648 (by decide +kernel) rfl
theorem lf_M_41 : Cond.fieldLink "SewnAheadModel" 41 (qR 4) (qT 4 15).2.1 (qT 4 15).2.2.1 ∈ am_big := am_at 649 (by decide +kernel) rfl
theorem lf_M_44 : Cond.fieldLink "SewnAheadModel" 44 (qR 4) (qT 4 16).2.1 (qT 4 16).2.2.1 ∈ am_big := am_at 650 (by decide +kernel) rfl
theorem lf_M_48 : Cond.fieldLink "SewnAheadModel" 48 (qR 4) (qT 4 17).2.1 (qT 4 17).2.2.1 ∈ am_big := am_at 651 (by decide +kernel) rfl
theorem lf_M_200 : Cond.fieldLink "SewnAheadModel" 200 (qR 4) (qT 4 18).2.1 (qT 4 18).2.2.1 ∈ am_big := am_at 652 (by decide +kernel) rfl
theorem lf_M_245 : Cond.fieldLink "SewnAheadModel" 245 (qR 4) (qT 4 19).2.1 (qT 4 19).2.2.1 ∈ am_big := am_at 653 (by decide +kernel) rfl
theorem lm_L_9 : Cond.methodLink "SewnAheadLaw" 9 (am_y 0) ∈ am_big := am_at 13 (by decide +kernel) rfl
theorem lm_S_3 : Cond.methodLink "SewnAhead" 3 (am_y 1) ∈ am_big := am_at 16 (by decide +kernel) rfl
theorem lm_C_3 : Cond.methodLink "SewnAhead$Cloth" 3 (am_y 1) ∈ am_big := am_at 26 (by decide +kernel) rfl
theorem lm_P_3 : Cond.methodLink "SewnAhead$Plans" 3 (am_y 1) ∈ am_big := am_at 89 (by decide +kernel) rfl
theorem lm_S_57 : Cond.methodLink "SewnAhead" 57 (am_y 4) ∈ am_big := am_at 119 (by decide +kernel) rfl
theorem lm_R_1 : Cond.methodLink "SewnAhead$Row" 1 (am_y 1) ∈ am_big := am_at 122 (by decide +kernel) rfl
theorem lm_R_13 : Cond.methodLink "SewnAhead$Row" 13 (am_y 5) ∈ am_big := am_at 123 (by decide +kernel) rfl
theorem lm_L_13 : Cond.methodLink "SewnAheadLaw" 13 (am_y 6) ∈ am_big := am_at 171 (by decide +kernel) rfl
theorem lm_S_60 : Cond.methodLink "SewnAhead" 60 (am_y 7) ∈ am_big := am_at 175 (by decide +kernel) rfl
theorem lm_S_64 : Cond.methodLink "SewnAhead" 64 (am_y 8) ∈ am_big := am_at 178 (by decide +kernel) rfl
theorem lm_S_68 : Cond.methodLink "SewnAhead" 68 (am_y 9) ∈ am_big := am_at 182 (by decide +kernel) rfl
theorem lm_R_23 : Cond.methodLink "SewnAhead$Row" 23 (am_y 10) ∈ am_big := am_at 186 (by decide +kernel) rfl
theorem lm_R_26 : Cond.methodLink "SewnAhead$Row" 26 (am_y 11) ∈ am_big := am_at 189 (by decide +kernel) rfl
theorem lm_L_18 : Cond.methodLink "SewnAheadLaw" 18 (am_y 12) ∈ am_big := am_at 192 (by decide +kernel) rfl
theorem lm_S_72 : Cond.methodLink "SewnAhead" 72 (am_y 13) ∈ am_big := am_at 196 (by decide +kernel) rfl
theorem lm_S_79 : Cond.methodLink "SewnAhead" 79 (am_y 14) ∈ am_big := am_at 200 (by decide +kernel) rfl
theorem lm_S_275 : Cond.methodLink "SewnAhead" 275 (am_y 15) ∈ am_big := am_at 204 (by decide +kernel) rfl
theorem lm_L_23 : Cond.methodLink "SewnAheadLaw" 23 (am_y 16) ∈ am_big := am_at 208 (by decide +kernel) rfl
theorem lm_L_27 : Cond.methodLink "SewnAheadLaw" 27 (am_y 17) ∈ am_big := am_at 212 (by decide +kernel) rfl
theorem lm_S_83 : Cond.methodLink "SewnAhead" 83 (am_y 18) ∈ am_big := am_at 216 (by decide +kernel) rfl
theorem lm_L_32 : Cond.methodLink "SewnAheadLaw" 32 (am_y 19) ∈ am_big := am_at 220 (by decide +kernel) rfl
theorem lm_S_86 : Cond.methodLink "SewnAhead" 86 (am_y 20) ∈ am_big := am_at 224 (by decide +kernel) rfl
theorem lm_L_37 : Cond.methodLink "SewnAheadLaw" 37 (am_y 21) ∈ am_big := am_at 231 (by decide +kernel) rfl
theorem lm_L_41 : Cond.methodLink "SewnAheadLaw" 41 (am_y 22) ∈ am_big := am_at 235 (by decide +kernel) rfl
theorem lm_S_99 : Cond.methodLink "SewnAhead" 99 (am_y 23) ∈ am_big := am_at 239 (by decide +kernel) rfl
theorem lm_L_45 : Cond.methodLink "SewnAheadLaw" 45 (am_y 24) ∈ am_big := am_at 242 (by decide +kernel) rfl
theorem lm_L_49 : Cond.methodLink "SewnAheadLaw" 49 (am_y 25) ∈ am_big := am_at 246 (by decide +kernel) rfl
theorem lm_S_102 : Cond.methodLink "SewnAhead" 102 (am_y 26) ∈ am_big := am_at 250 (by decide +kernel) rfl
theorem lm_D_9 : Cond.methodLink "SewnAhead$Reader" 9 (am_y 27) ∈ am_big := am_at 253 (by decide +kernel) rfl
theorem lm_D_14 : Cond.methodLink "SewnAhead$Reader" 14 (am_y 28) ∈ am_big := am_at 257 (by decide +kernel) rfl
theorem lm_D_20 : Cond.methodLink "SewnAhead$Reader" 20 (am_y 29) ∈ am_big := am_at 260 (by decide +kernel) rfl
theorem lm_D_55 : Cond.methodLink "SewnAhead$Reader" 55 (am_y 15) ∈ am_big := am_at 263 (by decide +kernel) rfl
theorem lm_D_23 : Cond.methodLink "SewnAhead$Reader" 23 (am_y 30) ∈ am_big := am_at 264 (by decide +kernel) rfl
theorem lm_D_27 : Cond.methodLink "SewnAhead$Reader" 27 (am_y 32) ∈ am_big := am_at 270 (by decide +kernel) rfl
theorem lm_C_58 : Cond.methodLink "SewnAhead$Cloth" 58 (am_y 33) ∈ am_big := am_at 274 (by decide +kernel) rfl
theorem lm_D_35 : Cond.methodLink "SewnAhead$Reader" 35 (am_y 34) ∈ am_big := am_at 278 (by decide +kernel) rfl
theorem lm_D_44 : Cond.methodLink "SewnAhead$Reader" 44 (am_y 35) ∈ am_big := am_at 281 (by decide +kernel) rfl
theorem lm_D_51 : Cond.methodLink "SewnAhead$Reader" 51 (am_y 36) ∈ am_big := am_at 286 (by decide +kernel) rfl
theorem lm_L_53 : Cond.methodLink "SewnAheadLaw" 53 (am_y 37) ∈ am_big := am_at 290 (by decide +kernel) rfl
theorem lm_S_108 : Cond.methodLink "SewnAhead" 108 (am_y 38) ∈ am_big := am_at 294 (by decide +kernel) rfl
theorem lm_S_112 : Cond.methodLink "SewnAhead" 112 (am_y 39) ∈ am_big := am_at 299 (by decide +kernel) rfl
theorem lm_C_74 : Cond.methodLink "SewnAhead$Cloth" 74 (am_y 40) ∈ am_big := am_at 303 (by decide +kernel) rfl
theorem lm_C_77 : Cond.methodLink "SewnAhead$Cloth" 77 (am_y 41) ∈ am_big := am_at 307 (by decide +kernel) rfl
theorem lm_C_81 : Cond.methodLink "SewnAhead$Cloth" 81 (am_y 42) ∈ am_big := am_at 311 (by decide +kernel) rfl
theorem lm_C_84 : Cond.methodLink "SewnAhead$Cloth" 84 (am_y 43) ∈ am_big := am_at 315 (by decide +kernel) rfl
theorem lm_S_115 : Cond.methodLink "SewnAhead" 115 (am_y 27) ∈ am_big := am_at 319 (by decide +kernel) rfl
theorem lm_L_57 : Cond.methodLink "SewnAheadLaw" 57 (am_y 44) ∈ am_big := am_at 320 (by decide +kernel) rfl
theorem lm_S_121 : Cond.methodLink "SewnAhead" 121 (am_y 45) ∈ am_big := am_at 324 (by decide +kernel) rfl
theorem lm_S_124 : Cond.methodLink "SewnAhead" 124 (am_y 46) ∈ am_big := am_at 328 (by decide +kernel) rfl
theorem lm_L_61 : Cond.methodLink "SewnAheadLaw" 61 (am_y 47) ∈ am_big := am_at 332 (by decide +kernel) rfl
theorem lm_S_128 : Cond.methodLink "SewnAhead" 128 (am_y 48) ∈ am_big := am_at 336 (by decide +kernel) rfl
theorem lm_S_131 : Cond.methodLink "SewnAhead" 131 (am_y 49) ∈ am_big := am_at 340 (by decide +kernel) rfl
theorem lm_S_281 : Cond.methodLink "SewnAhead" 281 (am_y 50) ∈ am_big := am_at 344 (by decide +kernel) rfl
theorem lm_C_103 : Cond.methodLink "SewnAhead$Cloth" 103 (am_y 51) ∈ am_big := am_at 348 (by decide +kernel) rfl
theorem lm_C_94 : Cond.methodLink "SewnAhead$Cloth" 94 (am_y 52) ∈ am_big := am_at 352 (by decide +kernel) rfl
theorem lm_C_97 : Cond.methodLink "SewnAhead$Cloth" 97 (am_y 5) ∈ am_big := am_at 358 (by decide +kernel) rfl
theorem lm_L_65 : Cond.methodLink "SewnAheadLaw" 65 (am_y 53) ∈ am_big := am_at 359 (by decide +kernel) rfl
theorem lm_S_134 : Cond.methodLink "SewnAhead" 134 (am_y 52) ∈ am_big := am_at 363 (by decide +kernel) rfl
theorem lm_S_140 : Cond.methodLink "SewnAhead" 140 (am_y 54) ∈ am_big := am_at 364 (by decide +kernel) rfl
theorem lm_S_146 : Cond.methodLink "SewnAhead" 146 (am_y 55) ∈ am_big := am_at 368 (by decide +kernel) rfl
theorem lm_S_151 : Cond.methodLink "SewnAhead" 151 (am_y 56) ∈ am_big := am_at 374 (by decide +kernel) rfl
theorem lm_L_69 : Cond.methodLink "SewnAheadLaw" 69 (am_y 57) ∈ am_big := am_at 378 (by decide +kernel) rfl
theorem lm_S_154 : Cond.methodLink "SewnAhead" 154 (am_y 31) ∈ am_big := am_at 382 (by decide +kernel) rfl
theorem lm_L_73 : Cond.methodLink "SewnAheadLaw" 73 (am_y 58) ∈ am_big := am_at 383 (by decide +kernel) rfl
theorem lm_S_160 : Cond.methodLink "SewnAhead" 160 (am_y 59) ∈ am_big := am_at 387 (by decide +kernel) rfl
theorem lm_S_206 : Cond.methodLink "SewnAhead" 206 (am_y 60) ∈ am_big := am_at 391 (by decide +kernel) rfl
theorem lm_S_251 : Cond.methodLink "SewnAhead" 251 (am_y 61) ∈ am_big := am_at 396 (by decide +kernel) rfl
theorem lm_C_66 : Cond.methodLink "SewnAhead$Cloth" 66 (am_y 62) ∈ am_big := am_at 400 (by decide +kernel) rfl
theorem lm_C_70 : Cond.methodLink "SewnAhead$Cloth" 70 (am_y 39) ∈ am_big := am_at 404 (by decide +kernel) rfl
theorem lm_S_172 : Cond.methodLink "SewnAhead" 172 (am_y 63) ∈ am_big := am_at 405 (by decide +kernel) rfl
theorem lm_C_106 : Cond.methodLink "SewnAhead$Cloth" 106 (am_y 50) ∈ am_big := am_at 409 (by decide +kernel) rfl
theorem lm_L_77 : Cond.methodLink "SewnAheadLaw" 77 (am_y 64) ∈ am_big := am_at 410 (by decide +kernel) rfl
theorem lm_L_81 : Cond.methodLink "SewnAheadLaw" 81 (am_y 65) ∈ am_big := am_at 414 (by decide +kernel) rfl
theorem lm_S_163 : Cond.methodLink "SewnAhead" 163 (am_y 66) ∈ am_big := am_at 418 (by decide +kernel) rfl
theorem lm_L_85 : Cond.methodLink "SewnAheadLaw" 85 (am_y 67) ∈ am_big := am_at 422 (by decide +kernel) rfl
theorem lm_S_166 : Cond.methodLink "SewnAhead" 166 (am_y 68) ∈ am_big := am_at 426 (by decide +kernel) rfl
theorem lm_L_89 : Cond.methodLink "SewnAheadLaw" 89 (am_y 69) ∈ am_big := am_at 429 (by decide +kernel) rfl
theorem lm_L_93 : Cond.methodLink "SewnAheadLaw" 93 (am_y 70) ∈ am_big := am_at 433 (by decide +kernel) rfl
theorem lm_L_97 : Cond.methodLink "SewnAheadLaw" 97 (am_y 71) ∈ am_big := am_at 437 (by decide +kernel) rfl
theorem lm_L_101 : Cond.methodLink "SewnAheadLaw" 101 (am_y 72) ∈ am_big := am_at 441 (by decide +kernel) rfl
theorem lm_S_176 : Cond.methodLink "SewnAhead" 176 (am_y 73) ∈ am_big := am_at 445 (by decide +kernel) rfl
theorem lm_C_88 : Cond.methodLink "SewnAhead$Cloth" 88 (am_y 54) ∈ am_big := am_at 449 (by decide +kernel) rfl
theorem lm_C_109 : Cond.methodLink "SewnAhead$Cloth" 109 (am_y 74) ∈ am_big := am_at 450 (by decide +kernel) rfl
theorem lm_L_106 : Cond.methodLink "SewnAheadLaw" 106 (am_y 75) ∈ am_big := am_at 454 (by decide +kernel) rfl
theorem lm_S_182 : Cond.methodLink "SewnAhead" 182 (am_y 33) ∈ am_big := am_at 458 (by decide +kernel) rfl
theorem lm_L_110 : Cond.methodLink "SewnAheadLaw" 110 (am_y 76) ∈ am_big := am_at 459 (by decide +kernel) rfl
theorem lm_S_186 : Cond.methodLink "SewnAhead" 186 (am_y 77) ∈ am_big := am_at 463 (by decide +kernel) rfl
theorem lm_L_114 : Cond.methodLink "SewnAheadLaw" 114 (am_y 78) ∈ am_big := am_at 467 (by decide +kernel) rfl
theorem lm_S_189 : Cond.methodLink "SewnAhead" 189 (am_y 79) ∈ am_big := am_at 471 (by decide +kernel) rfl
theorem lm_P_42 : Cond.methodLink "SewnAhead$Plans" 42 (am_y 11) ∈ am_big := am_at 475 (by decide +kernel) rfl
theorem lm_S_192 : Cond.methodLink "SewnAhead" 192 (am_y 80) ∈ am_big := am_at 476 (by decide +kernel) rfl
theorem lm_S_195 : Cond.methodLink "SewnAhead" 195 (am_y 81) ∈ am_big := am_at 480 (by decide +kernel) rfl
theorem lm_S_198 : Cond.methodLink "SewnAhead" 198 (am_y 82) ∈ am_big := am_at 484 (by decide +kernel) rfl
theorem lm_P_48 : Cond.methodLink "SewnAhead$Plans" 48 (am_y 38) ∈ am_big := am_at 488 (by decide +kernel) rfl
theorem lm_P_52 : Cond.methodLink "SewnAhead$Plans" 52 (am_y 83) ∈ am_big := am_at 489 (by decide +kernel) rfl
theorem lm_P_59 : Cond.methodLink "SewnAhead$Plans" 59 (am_y 84) ∈ am_big := am_at 493 (by decide +kernel) rfl
theorem lm_P_68 : Cond.methodLink "SewnAhead$Plans" 68 (am_y 85) ∈ am_big := am_at 498 (by decide +kernel) rfl
theorem lm_P_87 : Cond.methodLink "SewnAhead$Plans" 87 (am_y 60) ∈ am_big := am_at 502 (by decide +kernel) rfl
theorem lm_P_72 : Cond.methodLink "SewnAhead$Plans" 72 (am_y 62) ∈ am_big := am_at 503 (by decide +kernel) rfl
theorem lm_P_75 : Cond.methodLink "SewnAhead$Plans" 75 (am_y 40) ∈ am_big := am_at 504 (by decide +kernel) rfl
theorem lm_P_79 : Cond.methodLink "SewnAhead$Plans" 79 (am_y 86) ∈ am_big := am_at 505 (by decide +kernel) rfl
theorem lm_P_97 : Cond.methodLink "SewnAhead$Plans" 97 (am_y 88) ∈ am_big := am_at 512 (by decide +kernel) rfl
theorem lm_P_83 : Cond.methodLink "SewnAhead$Plans" 83 (am_y 33) ∈ am_big := am_at 516 (by decide +kernel) rfl
theorem lm_L_118 : Cond.methodLink "SewnAheadLaw" 118 (am_y 89) ∈ am_big := am_at 517 (by decide +kernel) rfl
theorem lm_S_202 : Cond.methodLink "SewnAhead" 202 (am_y 90) ∈ am_big := am_at 521 (by decide +kernel) rfl
theorem lm_S_284 : Cond.methodLink "SewnAhead" 284 (am_y 91) ∈ am_big := am_at 525 (by decide +kernel) rfl
theorem lm_L_122 : Cond.methodLink "SewnAheadLaw" 122 (am_y 92) ∈ am_big := am_at 528 (by decide +kernel) rfl
theorem lm_L_126 : Cond.methodLink "SewnAheadLaw" 126 (am_y 93) ∈ am_big := am_at 532 (by decide +kernel) rfl
theorem lm_S_209 : Cond.methodLink "SewnAhead" 209 (am_y 62) ∈ am_big := am_at 536 (by decide +kernel) rfl
theorem lm_S_212 : Cond.methodLink "SewnAhead" 212 (am_y 94) ∈ am_big := am_at 537 (by decide +kernel) rfl
theorem lm_L_130 : Cond.methodLink "SewnAheadLaw" 130 (am_y 95) ∈ am_big := am_at 541 (by decide +kernel) rfl
theorem lm_S_215 : Cond.methodLink "SewnAhead" 215 (am_y 96) ∈ am_big := am_at 545 (by decide +kernel) rfl
theorem lm_S_218 : Cond.methodLink "SewnAhead" 218 (am_y 97) ∈ am_big := am_at 549 (by decide +kernel) rfl
theorem lm_L_134 : Cond.methodLink "SewnAheadLaw" 134 (am_y 98) ∈ am_big := am_at 553 (by decide +kernel) rfl
theorem lm_L_138 : Cond.methodLink "SewnAheadLaw" 138 (am_y 99) ∈ am_big := am_at 557 (by decide +kernel) rfl
theorem lm_L_142 : Cond.methodLink "SewnAheadLaw" 142 (am_y 100) ∈ am_big := am_at 561 (by decide +kernel) rfl
theorem lm_S_231 : Cond.methodLink "SewnAhead" 231 (am_y 87) ∈ am_big := am_at 565 (by decide +kernel) rfl
theorem lm_S_237 : Cond.methodLink "SewnAhead" 237 (am_y 101) ∈ am_big := am_at 566 (by decide +kernel) rfl
theorem lm_L_146 : Cond.methodLink "SewnAheadLaw" 146 (am_y 102) ∈ am_big := am_at 570 (by decide +kernel) rfl
theorem lm_L_150 : Cond.methodLink "SewnAheadLaw" 150 (am_y 103) ∈ am_big := am_at 575 (by decide +kernel) rfl
theorem lm_L_154 : Cond.methodLink "SewnAheadLaw" 154 (am_y 104) ∈ am_big := am_at 583 (by decide +kernel) rfl
theorem lm_L_158 : Cond.methodLink "SewnAheadLaw" 158 (am_y 105) ∈ am_big := am_at 587 (by decide +kernel) rfl
theorem lm_L_163 : Cond.methodLink "SewnAheadLaw" 163 (am_y 106) ∈ am_big := am_at 591 (by decide +kernel) rfl
theorem lm_L_167 : Cond.methodLink "SewnAheadLaw" 167 (am_y 107) ∈ am_big := am_at 595 (by decide +kernel) rfl
theorem lm_S_254 : Cond.methodLink "SewnAhead" 254 (am_y 108) ∈ am_big := am_at 599 (by decide +kernel) rfl
theorem lm_S_257 : Cond.methodLink "SewnAhead" 257 (am_y 109) ∈ am_big := am_at 603 (by decide +kernel) rfl
theorem lm_S_261 : Cond.methodLink "SewnAhead" 261 (am_y 110) ∈ am_big := am_at 606 (by decide +kernel) rfl
theorem lm_L_171 : Cond.methodLink "SewnAheadLaw" 171 (am_y 111) ∈ am_big := am_at 610 (by decide +kernel) rfl
theorem lm_L_175 : Cond.methodLink "SewnAheadLaw" 175 (am_y 112) ∈ am_big := am_at 614 (by decide +kernel) rfl
theorem lm_L_179 : Cond.methodLink "SewnAheadLaw" 179 (am_y 113) ∈ am_big := am_at 618 (by decide +kernel) rfl
theorem lm_S_268 : Cond.methodLink "SewnAhead" 268 (am_y 107) ∈ am_big := am_at 624 (by decide +kernel) rfl
theorem lm_S_271 : Cond.methodLink "SewnAhead" 271 (am_y 114) ∈ am_big := am_at 625 (by decide +kernel) rfl
theorem lm_L_12 : Cond.methodLink "SewnAheadLaw" 12 (am_y 115) ∈ am_big := am_at 630 (by decide +kernel) rfl
theorem lm_M_1 : Cond.methodLink "SewnAheadModel" 1 (am_y 1) ∈ am_big := am_at 633 (by decide +kernel) rfl
theorem lm_L_17 : Cond.methodLink "SewnAheadLaw" 17 (am_y 116) ∈ am_big := am_at 695 (by decide +kernel) rfl
theorem lm_M_65 : Cond.methodLink "SewnAheadModel" 65 (am_y 117) ∈ am_big := am_at 699 (by decide +kernel) rfl
theorem lm_M_59 : Cond.methodLink "SewnAheadModel" 59 (am_y 118) ∈ am_big := am_at 703 (by decide +kernel) rfl
theorem lm_M_69 : Cond.methodLink "SewnAheadModel" 69 (am_y 119) ∈ am_big := am_at 706 (by decide +kernel) rfl
theorem lm_M_73 : Cond.methodLink "SewnAheadModel" 73 (am_y 120) ∈ am_big := am_at 710 (by decide +kernel) rfl
theorem lm_L_22 : Cond.methodLink "SewnAheadLaw" 22 (am_y 121) ∈ am_big := am_at 714 (by decide +kernel) rfl
theorem lm_M_77 : Cond.methodLink "SewnAheadModel" 77 (am_y 122) ∈ am_big := am_at 718 (by decide +kernel) rfl
theorem lm_M_81 : Cond.methodLink "SewnAheadModel" 81 (am_y 123) ∈ am_big := am_at 722 (by decide +kernel) rfl
theorem lm_L_26 : Cond.methodLink "SewnAheadLaw" 26 (am_y 122) ∈ am_big := am_at 726 (by decide +kernel) rfl
theorem lm_L_31 : Cond.methodLink "SewnAheadLaw" 31 (am_y 124) ∈ am_big := am_at 727 (by decide +kernel) rfl
theorem lm_L_36 : Cond.methodLink "SewnAheadLaw" 36 (am_y 125) ∈ am_big := am_at 731 (by decide +kernel) rfl
theorem lm_M_84 : Cond.methodLink "SewnAheadModel" 84 (am_y 126) ∈ am_big := am_at 735 (by decide +kernel) rfl
theorem lm_L_40 : Cond.methodLink "SewnAheadLaw" 40 (am_y 127) ∈ am_big := am_at 738 (by decide +kernel) rfl
theorem lm_L_44 : Cond.methodLink "SewnAheadLaw" 44 (am_y 128) ∈ am_big := am_at 742 (by decide +kernel) rfl
theorem lm_M_88 : Cond.methodLink "SewnAheadModel" 88 (am_y 129) ∈ am_big := am_at 746 (by decide +kernel) rfl
theorem lm_L_48 : Cond.methodLink "SewnAheadLaw" 48 (am_y 130) ∈ am_big := am_at 750 (by decide +kernel) rfl
theorem lm_L_52 : Cond.methodLink "SewnAheadLaw" 52 (am_y 131) ∈ am_big := am_at 754 (by decide +kernel) rfl
theorem lm_M_120 : Cond.methodLink "SewnAheadModel" 120 (am_y 132) ∈ am_big := am_at 758 (by decide +kernel) rfl
theorem lm_M_110 : Cond.methodLink "SewnAheadModel" 110 (am_y 133) ∈ am_big := am_at 762 (by decide +kernel) rfl
theorem lm_M_94 : Cond.methodLink "SewnAheadModel" 94 (am_y 134) ∈ am_big := am_at 766 (by decide +kernel) rfl
theorem lm_M_114 : Cond.methodLink "SewnAheadModel" 114 (am_y 135) ∈ am_big := am_at 770 (by decide +kernel) rfl
theorem lm_M_104 : Cond.methodLink "SewnAheadModel" 104 (am_y 136) ∈ am_big := am_at 774 (by decide +kernel) rfl
theorem lm_M_101 : Cond.methodLink "SewnAheadModel" 101 (am_y 137) ∈ am_big := am_at 778 (by decide +kernel) rfl
theorem lm_M_117 : Cond.methodLink "SewnAheadModel" 117 (am_y 138) ∈ am_big := am_at 784 (by decide +kernel) rfl
theorem lm_M_107 : Cond.methodLink "SewnAheadModel" 107 (am_y 139) ∈ am_big := am_at 788 (by decide +kernel) rfl
theorem lm_L_56 : Cond.methodLink "SewnAheadLaw" 56 (am_y 140) ∈ am_big := am_at 791 (by decide +kernel) rfl
theorem lm_M_123 : Cond.methodLink "SewnAheadModel" 123 (am_y 141) ∈ am_big := am_at 795 (by decide +kernel) rfl
theorem lm_L_60 : Cond.methodLink "SewnAheadLaw" 60 (am_y 142) ∈ am_big := am_at 799 (by decide +kernel) rfl
theorem lm_M_151 : Cond.methodLink "SewnAheadModel" 151 (am_y 143) ∈ am_big := am_at 803 (by decide +kernel) rfl
theorem lm_M_145 : Cond.methodLink "SewnAheadModel" 145 (am_y 144) ∈ am_big := am_at 808 (by decide +kernel) rfl
theorem lm_M_135 : Cond.methodLink "SewnAheadModel" 135 (am_y 145) ∈ am_big := am_at 812 (by decide +kernel) rfl
theorem lm_M_132 : Cond.methodLink "SewnAheadModel" 132 (am_y 146) ∈ am_big := am_at 816 (by decide +kernel) rfl
theorem lm_M_156 : Cond.methodLink "SewnAheadModel" 156 (am_y 147) ∈ am_big := am_at 820 (by decide +kernel) rfl
theorem lm_L_64 : Cond.methodLink "SewnAheadLaw" 64 (am_y 148) ∈ am_big := am_at 824 (by decide +kernel) rfl
theorem lm_M_159 : Cond.methodLink "SewnAheadModel" 159 (am_y 149) ∈ am_big := am_at 828 (by decide +kernel) rfl
theorem lm_M_162 : Cond.methodLink "SewnAheadModel" 162 (am_y 150) ∈ am_big := am_at 832 (by decide +kernel) rfl
theorem lm_M_148 : Cond.methodLink "SewnAheadModel" 148 (am_y 151) ∈ am_big := am_at 836 (by decide +kernel) rfl
theorem lm_M_139 : Cond.methodLink "SewnAheadModel" 139 (am_y 152) ∈ am_big := am_at 840 (by decide +kernel) rfl
theorem lm_M_142 : Cond.methodLink "SewnAheadModel" 142 (am_y 153) ∈ am_big := am_at 844 (by decide +kernel) rfl
theorem lm_L_68 : Cond.methodLink "SewnAheadLaw" 68 (am_y 154) ∈ am_big := am_at 847 (by decide +kernel) rfl
theorem lm_M_165 : Cond.methodLink "SewnAheadModel" 165 (am_y 155) ∈ am_big := am_at 851 (by decide +kernel) rfl
theorem lm_L_72 : Cond.methodLink "SewnAheadLaw" 72 (am_y 156) ∈ am_big := am_at 855 (by decide +kernel) rfl
theorem lm_M_168 : Cond.methodLink "SewnAheadModel" 168 (am_y 157) ∈ am_big := am_at 859 (by decide +kernel) rfl
theorem lm_L_76 : Cond.methodLink "SewnAheadLaw" 76 (am_y 158) ∈ am_big := am_at 863 (by decide +kernel) rfl
theorem lm_M_171 : Cond.methodLink "SewnAheadModel" 171 (am_y 159) ∈ am_big := am_at 867 (by decide +kernel) rfl
theorem lm_M_174 : Cond.methodLink "SewnAheadModel" 174 (am_y 160) ∈ am_big := am_at 871 (by decide +kernel) rfl
theorem lm_M_177 : Cond.methodLink "SewnAheadModel" 177 (am_y 161) ∈ am_big := am_at 875 (by decide +kernel) rfl
theorem lm_L_80 : Cond.methodLink "SewnAheadLaw" 80 (am_y 162) ∈ am_big := am_at 879 (by decide +kernel) rfl
theorem lm_L_84 : Cond.methodLink "SewnAheadLaw" 84 (am_y 163) ∈ am_big := am_at 883 (by decide +kernel) rfl
theorem lm_L_88 : Cond.methodLink "SewnAheadLaw" 88 (am_y 164) ∈ am_big := am_at 887 (by decide +kernel) rfl
theorem lm_L_92 : Cond.methodLink "SewnAheadLaw" 92 (am_y 165) ∈ am_big := am_at 891 (by decide +kernel) rfl
theorem lm_L_96 : Cond.methodLink "SewnAheadLaw" 96 (am_y 166) ∈ am_big := am_at 895 (by decide +kernel) rfl
theorem lm_L_100 : Cond.methodLink "SewnAheadLaw" 100 (am_y 167) ∈ am_big := am_at 899 (by decide +kernel) rfl
theorem lm_L_105 : Cond.methodLink "SewnAheadLaw" 105 (am_y 168) ∈ am_big := am_at 903 (by decide +kernel) rfl
theorem lm_M_181 : Cond.methodLink "SewnAheadModel" 181 (am_y 169) ∈ am_big := am_at 907 (by decide +kernel) rfl
theorem lm_L_109 : Cond.methodLink "SewnAheadLaw" 109 (am_y 170) ∈ am_big := am_at 910 (by decide +kernel) rfl
theorem lm_M_184 : Cond.methodLink "SewnAheadModel" 184 (am_y 171) ∈ am_big := am_at 914 (by decide +kernel) rfl
theorem lm_M_187 : Cond.methodLink "SewnAheadModel" 187 (am_y 172) ∈ am_big := am_at 918 (by decide +kernel) rfl
theorem lm_L_113 : Cond.methodLink "SewnAheadLaw" 113 (am_y 173) ∈ am_big := am_at 922 (by decide +kernel) rfl
theorem lm_L_117 : Cond.methodLink "SewnAheadLaw" 117 (am_y 174) ∈ am_big := am_at 926 (by decide +kernel) rfl
theorem lm_M_203 : Cond.methodLink "SewnAheadModel" 203 (am_y 175) ∈ am_big := am_at 930 (by decide +kernel) rfl
theorem lm_M_194 : Cond.methodLink "SewnAheadModel" 194 (am_y 176) ∈ am_big := am_at 935 (by decide +kernel) rfl
theorem lm_M_197 : Cond.methodLink "SewnAheadModel" 197 (am_y 177) ∈ am_big := am_at 939 (by decide +kernel) rfl
theorem lm_M_190 : Cond.methodLink "SewnAheadModel" 190 (am_y 178) ∈ am_big := am_at 943 (by decide +kernel) rfl
theorem lm_M_206 : Cond.methodLink "SewnAheadModel" 206 (am_y 179) ∈ am_big := am_at 947 (by decide +kernel) rfl
theorem lm_L_121 : Cond.methodLink "SewnAheadLaw" 121 (am_y 180) ∈ am_big := am_at 951 (by decide +kernel) rfl
theorem lm_L_125 : Cond.methodLink "SewnAheadLaw" 125 (am_y 181) ∈ am_big := am_at 955 (by decide +kernel) rfl
theorem lm_L_129 : Cond.methodLink "SewnAheadLaw" 129 (am_y 182) ∈ am_big := am_at 959 (by decide +kernel) rfl
theorem lm_M_214 : Cond.methodLink "SewnAheadModel" 214 (am_y 183) ∈ am_big := am_at 964 (by decide +kernel) rfl
theorem lm_L_133 : Cond.methodLink "SewnAheadLaw" 133 (am_y 184) ∈ am_big := am_at 968 (by decide +kernel) rfl
theorem lm_M_217 : Cond.methodLink "SewnAheadModel" 217 (am_y 185) ∈ am_big := am_at 972 (by decide +kernel) rfl
theorem lm_M_220 : Cond.methodLink "SewnAheadModel" 220 (am_y 186) ∈ am_big := am_at 976 (by decide +kernel) rfl
theorem lm_L_137 : Cond.methodLink "SewnAheadLaw" 137 (am_y 187) ∈ am_big := am_at 980 (by decide +kernel) rfl
theorem lm_L_141 : Cond.methodLink "SewnAheadLaw" 141 (am_y 188) ∈ am_big := am_at 984 (by decide +kernel) rfl
theorem lm_L_145 : Cond.methodLink "SewnAheadLaw" 145 (am_y 189) ∈ am_big := am_at 988 (by decide +kernel) rfl
theorem lm_L_149 : Cond.methodLink "SewnAheadLaw" 149 (am_y 190) ∈ am_big := am_at 992 (by decide +kernel) rfl
theorem lm_M_223 : Cond.methodLink "SewnAheadModel" 223 (am_y 191) ∈ am_big := am_at 996 (by decide +kernel) rfl
theorem lm_L_153 : Cond.methodLink "SewnAheadLaw" 153 (am_y 192) ∈ am_big := am_at 1000 (by decide +kernel) rfl
theorem lm_L_157 : Cond.methodLink "SewnAheadLaw" 157 (am_y 193) ∈ am_big := am_at 1009 (by decide +kernel) rfl
theorem lm_L_162 : Cond.methodLink "SewnAheadLaw" 162 (am_y 194) ∈ am_big := am_at 1013 (by decide +kernel) rfl
theorem lm_L_166 : Cond.methodLink "SewnAheadLaw" 166 (am_y 195) ∈ am_big := am_at 1017 (by decide +kernel) rfl
theorem lm_L_170 : Cond.methodLink "SewnAheadLaw" 170 (am_y 196) ∈ am_big := am_at 1021 (by decide +kernel) rfl
theorem lm_M_236 : Cond.methodLink "SewnAheadModel" 236 (am_y 197) ∈ am_big := am_at 1025 (by decide +kernel) rfl
theorem lm_M_239 : Cond.methodLink "SewnAheadModel" 239 (am_y 198) ∈ am_big := am_at 1029 (by decide +kernel) rfl
theorem lm_L_174 : Cond.methodLink "SewnAheadLaw" 174 (am_y 199) ∈ am_big := am_at 1032 (by decide +kernel) rfl
theorem lm_L_178 : Cond.methodLink "SewnAheadLaw" 178 (am_y 200) ∈ am_big := am_at 1036 (by decide +kernel) rfl
theorem lm_L_182 : Cond.methodLink "SewnAheadLaw" 182 (am_y 201) ∈ am_big := am_at 1040 (by decide +kernel) rfl
theorem lm_M_250 : Cond.methodLink "SewnAheadModel" 250 (am_y 196) ∈ am_big := am_at 1045 (by decide +kernel) rfl
theorem lm_M_253 : Cond.methodLink "SewnAheadModel" 253 (am_y 202) ∈ am_big := am_at 1046 (by decide +kernel) rfl
theorem lk_J_265 : Cond.constant "java/lang/Integer" 265 1431655765 ∈ am_big := am_at 371 (by decide +kernel) rfl
theorem lk_J_266 : Cond.constant "java/lang/Integer" 266 858993459 ∈ am_big := am_at 372 (by decide +kernel) rfl
theorem lk_J_267 : Cond.constant "java/lang/Integer" 267 252645135 ∈ am_big := am_at 373 (by decide +kernel) rfl
theorem lk_J_264 : Cond.constant "java/lang/Integer" 264 65536 ∈ am_big := am_at 453 (by decide +kernel) rfl
theorem lk_M_193 : Cond.constant "SewnAheadModel" 193 1000000 ∈ am_big := am_at 934 (by decide +kernel) rfl
theorem lj_S_241 : Cond.constantLong "SewnAhead" 241 6 ∈ am_big := am_at 574 (by decide +kernel) rfl
theorem lj_S_243 : Cond.constantLong "SewnAhead" 243 2147483647 ∈ am_big := am_at 579 (by decide +kernel) rfl
theorem lj_S_245 : Cond.constantLong "SewnAhead" 245 48271 ∈ am_big := am_at 580 (by decide +kernel) rfl
theorem lj_S_247 : Cond.constantLong "SewnAhead" 247 32 ∈ am_big := am_at 581 (by decide +kernel) rfl
theorem lj_S_249 : Cond.constantLong "SewnAhead" 249 5 ∈ am_big := am_at 582 (by decide +kernel) rfl
theorem lj_S_264 : Cond.constantLong "SewnAhead" 264 17 ∈ am_big := am_at 622 (by decide +kernel) rfl
theorem lj_S_266 : Cond.constantLong "SewnAhead" 266 31 ∈ am_big := am_at 623 (by decide +kernel) rfl
theorem lj_M_57 : Cond.constantLong "SewnAheadModel" 57 5 ∈ am_big := am_at 702 (by decide +kernel) rfl
theorem lj_M_63 : Cond.constantLong "SewnAheadModel" 63 3 ∈ am_big := am_at 749 (by decide +kernel) rfl
theorem lj_M_97 : Cond.constantLong "SewnAheadModel" 97 48 ∈ am_big := am_at 782 (by decide +kernel) rfl
theorem lj_M_99 : Cond.constantLong "SewnAheadModel" 99 52 ∈ am_big := am_at 783 (by decide +kernel) rfl
theorem lj_M_154 : Cond.constantLong "SewnAheadModel" 154 2 ∈ am_big := am_at 807 (by decide +kernel) rfl
theorem lj_M_130 : Cond.constantLong "SewnAheadModel" 130 4 ∈ am_big := am_at 862 (by decide +kernel) rfl
theorem lj_M_212 : Cond.constantLong "SewnAheadModel" 212 6 ∈ am_big := am_at 963 (by decide +kernel) rfl
theorem lj_M_226 : Cond.constantLong "SewnAheadModel" 226 10 ∈ am_big := am_at 1004 (by decide +kernel) rfl
theorem lj_M_228 : Cond.constantLong "SewnAheadModel" 228 2147483646 ∈ am_big := am_at 1005 (by decide +kernel) rfl
theorem lj_M_230 : Cond.constantLong "SewnAheadModel" 230 48271 ∈ am_big := am_at 1006 (by decide +kernel) rfl
theorem lj_M_232 : Cond.constantLong "SewnAheadModel" 232 2147483647 ∈ am_big := am_at 1007 (by decide +kernel) rfl
theorem lj_M_234 : Cond.constantLong "SewnAheadModel" 234 32 ∈ am_big := am_at 1008 (by decide +kernel) rfl
theorem lj_M_248 : Cond.constantLong "SewnAheadModel" 248 17 ∈ am_big := am_at 1044 (by decide +kernel) rfl
theorem lj_M_243 : Cond.constantLong "SewnAheadModel" 243 31 ∈ am_big := am_at 1050 (by decide +kernel) rfl
theorem lc_L_7 : Cond.classLink "SewnAheadLaw" 7 (qR 3) ∈ am_big := am_at 11 (by decide +kernel) rfl
theorem lc_S_9 : Cond.classLink "SewnAhead" 9 (qR 2) ∈ am_big := am_at 19 (by decide +kernel) rfl
theorem lc_S_18 : Cond.classLink "SewnAhead" 18 (qR 0) ∈ am_big := am_at 21 (by decide +kernel) rfl
theorem lc_S_32 : Cond.classLink "SewnAhead" 32 (qR 1) ∈ am_big := am_at 84 (by decide +kernel) rfl
theorem lc_P_9 : Cond.classLink "SewnAhead$Plans" 9 (qR 0) ∈ am_big := am_at 90 (by decide +kernel) rfl
theorem lc_L_10 : Cond.classLink "SewnAheadLaw" 10 (qR 4) ∈ am_big := am_at 628 (by decide +kernel) rfl
theorem in_J : Cond.initialized "java/lang/Integer" ∈ am_big := am_at 10 (by decide +kernel) rfl
theorem in_D : Cond.initialized "SewnAhead$Reader" ∈ am_big := am_at 9 (by decide +kernel) rfl
theorem in_java_lang_System : Cond.initialized "java/lang/System" ∈ am_big := am_at 8 (by decide +kernel) rfl
theorem in_java_util_Arrays : Cond.initialized "java/util/Arrays" ∈ am_big := am_at 7 (by decide +kernel) rfl
theorem in_M : Cond.initialized "SewnAheadModel" ∈ am_big := am_at 6 (by decide +kernel) rfl
theorem in_java_lang_Math : Cond.initialized "java/lang/Math" ∈ am_big := am_at 5 (by decide +kernel) rfl
theorem in_R : Cond.initialized "SewnAhead$Row" ∈ am_big := am_at 4 (by decide +kernel) rfl
theorem in_P : Cond.initialized "SewnAhead$Plans" ∈ am_big := am_at 3 (by decide +kernel) rfl
theorem in_C : Cond.initialized "SewnAhead$Cloth" ∈ am_big := am_at 2 (by decide +kernel) rfl
theorem in_S : Cond.initialized "SewnAhead" ∈ am_big := am_at 1 (by decide +kernel) rfl
theorem in_L : Cond.initialized "SewnAheadLaw" ∈ am_big := am_at 0 (by decide +kernel) rfl
theorem im_0 : Cond.instanceMethod (am_y 0) ∈ am_big := am_at 14 (by decide +kernel) rfl
theorem im_1 : Cond.instanceMethod (am_y 1) ∈ am_big := am_at 17 (by decide +kernel) rfl
theorem im_2 : Cond.instanceMethod (am_y 2) ∈ am_big := am_at 24 (by decide +kernel) rfl
theorem im_3 : Cond.instanceMethod (am_y 3) ∈ am_big := am_at 87 (by decide +kernel) rfl
theorem im_4 : Cond.instanceMethod (am_y 4) ∈ am_big := am_at 120 (by decide +kernel) rfl
theorem it_5 : Cond.static (am_y 5) ∈ am_big := am_at 124 (by decide +kernel) rfl
theorem im_6 : Cond.instanceMethod (am_y 6) ∈ am_big := am_at 172 (by decide +kernel) rfl
theorem is_6 : Cond.selects (am_y 6).cls (am_y 6) (am_y 6) ∈ am_big := am_at 173 (by decide +kernel) rfl
theorem it_7 : Cond.static (am_y 7) ∈ am_big := am_at 176 (by decide +kernel) rfl
theorem im_8 : Cond.instanceMethod (am_y 8) ∈ am_big := am_at 180 (by decide +kernel) rfl
theorem is_8 : Cond.selects (am_y 8).cls (am_y 8) (am_y 8) ∈ am_big := am_as 0 (by decide +kernel) rfl
theorem im_9 : Cond.instanceMethod (am_y 9) ∈ am_big := am_at 183 (by decide +kernel) rfl
theorem is_9 : Cond.selects (am_y 9).cls (am_y 9) (am_y 9) ∈ am_big := am_at 184 (by decide +kernel) rfl
theorem it_10 : Cond.static (am_y 10) ∈ am_big := am_at 187 (by decide +kernel) rfl
theorem it_11 : Cond.static (am_y 11) ∈ am_big := am_at 190 (by decide +kernel) rfl
theorem im_12 : Cond.instanceMethod (am_y 12) ∈ am_big := am_at 193 (by decide +kernel) rfl
theorem is_12 : Cond.selects (am_y 12).cls (am_y 12) (am_y 12) ∈ am_big := am_at 194 (by decide +kernel) rfl
theorem im_13 : Cond.instanceMethod (am_y 13) ∈ am_big := am_at 198 (by decide +kernel) rfl
theorem is_13 : Cond.selects (am_y 13).cls (am_y 13) (am_y 13) ∈ am_big := am_as 1 (by decide +kernel) rfl
theorem im_14 : Cond.instanceMethod (am_y 14) ∈ am_big := am_at 201 (by decide +kernel) rfl
theorem is_14 : Cond.selects (am_y 14).cls (am_y 14) (am_y 14) ∈ am_big := am_at 202 (by decide +kernel) rfl
theorem im_15 : Cond.instanceMethod (am_y 15) ∈ am_big := am_at 205 (by decide +kernel) rfl
theorem is_15 : Cond.selects (am_y 15).cls (am_y 15) (am_y 15) ∈ am_big := am_at 206 (by decide +kernel) rfl
theorem im_16 : Cond.instanceMethod (am_y 16) ∈ am_big := am_at 209 (by decide +kernel) rfl
theorem is_16 : Cond.selects (am_y 16).cls (am_y 16) (am_y 16) ∈ am_big := am_at 210 (by decide +kernel) rfl
theorem im_17 : Cond.instanceMethod (am_y 17) ∈ am_big := am_at 213 (by decide +kernel) rfl
theorem is_17 : Cond.selects (am_y 17).cls (am_y 17) (am_y 17) ∈ am_big := am_at 214 (by decide +kernel) rfl
theorem im_18 : Cond.instanceMethod (am_y 18) ∈ am_big := am_at 217 (by decide +kernel) rfl
theorem is_18 : Cond.selects (am_y 18).cls (am_y 18) (am_y 18) ∈ am_big := am_at 218 (by decide +kernel) rfl
theorem im_19 : Cond.instanceMethod (am_y 19) ∈ am_big := am_at 221 (by decide +kernel) rfl
theorem is_19 : Cond.selects (am_y 19).cls (am_y 19) (am_y 19) ∈ am_big := am_at 222 (by decide +kernel) rfl
theorem im_20 : Cond.instanceMethod (am_y 20) ∈ am_big := am_at 225 (by decide +kernel) rfl
theorem is_20 : Cond.selects (am_y 20).cls (am_y 20) (am_y 20) ∈ am_big := am_at 226 (by decide +kernel) rfl
theorem im_21 : Cond.instanceMethod (am_y 21) ∈ am_big := am_at 232 (by decide +kernel) rfl
theorem is_21 : Cond.selects (am_y 21).cls (am_y 21) (am_y 21) ∈ am_big := am_at 233 (by decide +kernel) rfl
theorem im_22 : Cond.instanceMethod (am_y 22) ∈ am_big := am_at 236 (by decide +kernel) rfl
theorem is_22 : Cond.selects (am_y 22).cls (am_y 22) (am_y 22) ∈ am_big := am_at 237 (by decide +kernel) rfl
theorem it_23 : Cond.static (am_y 23) ∈ am_big := am_at 240 (by decide +kernel) rfl
theorem im_24 : Cond.instanceMethod (am_y 24) ∈ am_big := am_at 243 (by decide +kernel) rfl
theorem is_24 : Cond.selects (am_y 24).cls (am_y 24) (am_y 24) ∈ am_big := am_at 244 (by decide +kernel) rfl
theorem im_25 : Cond.instanceMethod (am_y 25) ∈ am_big := am_at 247 (by decide +kernel) rfl
theorem is_25 : Cond.selects (am_y 25).cls (am_y 25) (am_y 25) ∈ am_big := am_at 248 (by decide +kernel) rfl
theorem it_26 : Cond.static (am_y 26) ∈ am_big := am_at 251 (by decide +kernel) rfl
theorem im_27 : Cond.instanceMethod (am_y 27) ∈ am_big := am_at 254 (by decide +kernel) rfl
theorem is_27 : Cond.selects (am_y 27).cls (am_y 27) (am_y 27) ∈ am_big := am_at 255 (by decide +kernel) rfl
theorem it_28 : Cond.static (am_y 28) ∈ am_big := am_at 258 (by decide +kernel) rfl
theorem it_29 : Cond.static (am_y 29) ∈ am_big := am_at 261 (by decide +kernel) rfl
theorem it_30 : Cond.static (am_y 30) ∈ am_big := am_at 265 (by decide +kernel) rfl
theorem it_31 : Cond.static (am_y 31) ∈ am_big := am_at 268 (by decide +kernel) rfl
theorem im_32 : Cond.instanceMethod (am_y 32) ∈ am_big := am_at 271 (by decide +kernel) rfl
theorem is_32 : Cond.selects (am_y 32).cls (am_y 32) (am_y 32) ∈ am_big := am_at 272 (by decide +kernel) rfl
theorem im_33 : Cond.instanceMethod (am_y 33) ∈ am_big := am_at 275 (by decide +kernel) rfl
theorem is_33 : Cond.selects (am_y 33).cls (am_y 33) (am_y 33) ∈ am_big := am_at 276 (by decide +kernel) rfl
theorem it_34 : Cond.static (am_y 34) ∈ am_big := am_at 279 (by decide +kernel) rfl
theorem it_35 : Cond.static (am_y 35) ∈ am_big := am_at 282 (by decide +kernel) rfl
theorem im_36 : Cond.instanceMethod (am_y 36) ∈ am_big := am_at 287 (by decide +kernel) rfl
theorem is_36 : Cond.selects (am_y 36).cls (am_y 36) (am_y 36) ∈ am_big := am_at 288 (by decide +kernel) rfl
theorem im_37 : Cond.instanceMethod (am_y 37) ∈ am_big := am_at 291 (by decide +kernel) rfl
theorem is_37 : Cond.selects (am_y 37).cls (am_y 37) (am_y 37) ∈ am_big := am_at 292 (by decide +kernel) rfl
theorem im_38 : Cond.instanceMethod (am_y 38) ∈ am_big := am_at 295 (by decide +kernel) rfl
theorem is_38 : Cond.selects (am_y 38).cls (am_y 38) (am_y 38) ∈ am_big := am_at 296 (by decide +kernel) rfl
theorem im_39 : Cond.instanceMethod (am_y 39) ∈ am_big := am_at 300 (by decide +kernel) rfl
theorem is_39 : Cond.selects (am_y 39).cls (am_y 39) (am_y 39) ∈ am_big := am_at 301 (by decide +kernel) rfl
theorem im_40 : Cond.instanceMethod (am_y 40) ∈ am_big := am_at 304 (by decide +kernel) rfl
theorem is_40 : Cond.selects (am_y 40).cls (am_y 40) (am_y 40) ∈ am_big := am_at 305 (by decide +kernel) rfl
theorem im_41 : Cond.instanceMethod (am_y 41) ∈ am_big := am_at 309 (by decide +kernel) rfl
theorem is_41 : Cond.selects (am_y 41).cls (am_y 41) (am_y 41) ∈ am_big := am_as 2 (by decide +kernel) rfl
theorem im_42 : Cond.instanceMethod (am_y 42) ∈ am_big := am_at 313 (by decide +kernel) rfl
theorem is_42 : Cond.selects (am_y 42).cls (am_y 42) (am_y 42) ∈ am_big := am_as 3 (by decide +kernel) rfl
theorem im_43 : Cond.instanceMethod (am_y 43) ∈ am_big := am_at 317 (by decide +kernel) rfl
theorem is_43 : Cond.selects (am_y 43).cls (am_y 43) (am_y 43) ∈ am_big := am_as 4 (by decide +kernel) rfl
theorem im_44 : Cond.instanceMethod (am_y 44) ∈ am_big := am_at 321 (by decide +kernel) rfl
theorem is_44 : Cond.selects (am_y 44).cls (am_y 44) (am_y 44) ∈ am_big := am_at 322 (by decide +kernel) rfl
theorem im_45 : Cond.instanceMethod (am_y 45) ∈ am_big := am_at 326 (by decide +kernel) rfl
theorem is_45 : Cond.selects (am_y 45).cls (am_y 45) (am_y 45) ∈ am_big := am_as 5 (by decide +kernel) rfl
theorem im_46 : Cond.instanceMethod (am_y 46) ∈ am_big := am_at 330 (by decide +kernel) rfl
theorem is_46 : Cond.selects (am_y 46).cls (am_y 46) (am_y 46) ∈ am_big := am_as 6 (by decide +kernel) rfl
theorem im_47 : Cond.instanceMethod (am_y 47) ∈ am_big := am_at 333 (by decide +kernel) rfl
theorem is_47 : Cond.selects (am_y 47).cls (am_y 47) (am_y 47) ∈ am_big := am_at 334 (by decide +kernel) rfl
theorem im_48 : Cond.instanceMethod (am_y 48) ∈ am_big := am_at 338 (by decide +kernel) rfl
theorem is_48 : Cond.selects (am_y 48).cls (am_y 48) (am_y 48) ∈ am_big := am_as 7 (by decide +kernel) rfl
theorem im_49 : Cond.instanceMethod (am_y 49) ∈ am_big := am_at 342 (by decide +kernel) rfl
theorem is_49 : Cond.selects (am_y 49).cls (am_y 49) (am_y 49) ∈ am_big := am_as 8 (by decide +kernel) rfl
theorem im_50 : Cond.instanceMethod (am_y 50) ∈ am_big := am_at 345 (by decide +kernel) rfl
theorem is_50 : Cond.selects (am_y 50).cls (am_y 50) (am_y 50) ∈ am_big := am_at 346 (by decide +kernel) rfl
theorem im_51 : Cond.instanceMethod (am_y 51) ∈ am_big := am_at 350 (by decide +kernel) rfl
theorem is_51 : Cond.selects (am_y 51).cls (am_y 51) (am_y 51) ∈ am_big := am_as 9 (by decide +kernel) rfl
theorem im_52 : Cond.instanceMethod (am_y 52) ∈ am_big := am_at 353 (by decide +kernel) rfl
theorem is_52 : Cond.selects (am_y 52).cls (am_y 52) (am_y 52) ∈ am_big := am_at 354 (by decide +kernel) rfl
theorem im_53 : Cond.instanceMethod (am_y 53) ∈ am_big := am_at 360 (by decide +kernel) rfl
theorem is_53 : Cond.selects (am_y 53).cls (am_y 53) (am_y 53) ∈ am_big := am_at 361 (by decide +kernel) rfl
theorem im_54 : Cond.instanceMethod (am_y 54) ∈ am_big := am_at 365 (by decide +kernel) rfl
theorem is_54 : Cond.selects (am_y 54).cls (am_y 54) (am_y 54) ∈ am_big := am_at 366 (by decide +kernel) rfl
theorem it_55 : Cond.static (am_y 55) ∈ am_big := am_at 369 (by decide +kernel) rfl
theorem im_56 : Cond.instanceMethod (am_y 56) ∈ am_big := am_at 375 (by decide +kernel) rfl
theorem is_56 : Cond.selects (am_y 56).cls (am_y 56) (am_y 56) ∈ am_big := am_at 376 (by decide +kernel) rfl
theorem im_57 : Cond.instanceMethod (am_y 57) ∈ am_big := am_at 379 (by decide +kernel) rfl
theorem is_57 : Cond.selects (am_y 57).cls (am_y 57) (am_y 57) ∈ am_big := am_at 380 (by decide +kernel) rfl
theorem im_58 : Cond.instanceMethod (am_y 58) ∈ am_big := am_at 384 (by decide +kernel) rfl
theorem is_58 : Cond.selects (am_y 58).cls (am_y 58) (am_y 58) ∈ am_big := am_at 385 (by decide +kernel) rfl
theorem im_59 : Cond.instanceMethod (am_y 59) ∈ am_big := am_at 389 (by decide +kernel) rfl
theorem is_59 : Cond.selects (am_y 59).cls (am_y 59) (am_y 59) ∈ am_big := am_as 10 (by decide +kernel) rfl
theorem im_60 : Cond.instanceMethod (am_y 60) ∈ am_big := am_at 392 (by decide +kernel) rfl
theorem is_60 : Cond.selects (am_y 60).cls (am_y 60) (am_y 60) ∈ am_big := am_at 393 (by decide +kernel) rfl
theorem im_61 : Cond.instanceMethod (am_y 61) ∈ am_big := am_at 397 (by decide +kernel) rfl
theorem is_61 : Cond.selects (am_y 61).cls (am_y 61) (am_y 61) ∈ am_big := am_at 398 (by decide +kernel) rfl
theorem im_62 : Cond.instanceMethod (am_y 62) ∈ am_big := am_at 401 (by decide +kernel) rfl
theorem is_62 : Cond.selects (am_y 62).cls (am_y 62) (am_y 62) ∈ am_big := am_at 402 (by decide +kernel) rfl
theorem im_63 : Cond.instanceMethod (am_y 63) ∈ am_big := am_at 406 (by decide +kernel) rfl
theorem is_63 : Cond.selects (am_y 63).cls (am_y 63) (am_y 63) ∈ am_big := am_at 407 (by decide +kernel) rfl
theorem im_64 : Cond.instanceMethod (am_y 64) ∈ am_big := am_at 411 (by decide +kernel) rfl
theorem is_64 : Cond.selects (am_y 64).cls (am_y 64) (am_y 64) ∈ am_big := am_at 412 (by decide +kernel) rfl
theorem im_65 : Cond.instanceMethod (am_y 65) ∈ am_big := am_at 415 (by decide +kernel) rfl
theorem is_65 : Cond.selects (am_y 65).cls (am_y 65) (am_y 65) ∈ am_big := am_at 416 (by decide +kernel) rfl
theorem im_66 : Cond.instanceMethod (am_y 66) ∈ am_big := am_at 419 (by decide +kernel) rfl
theorem is_66 : Cond.selects (am_y 66).cls (am_y 66) (am_y 66) ∈ am_big := am_at 420 (by decide +kernel) rfl
theorem im_67 : Cond.instanceMethod (am_y 67) ∈ am_big := am_at 423 (by decide +kernel) rfl
theorem is_67 : Cond.selects (am_y 67).cls (am_y 67) (am_y 67) ∈ am_big := am_at 424 (by decide +kernel) rfl
theorem it_68 : Cond.static (am_y 68) ∈ am_big := am_at 427 (by decide +kernel) rfl
theorem im_69 : Cond.instanceMethod (am_y 69) ∈ am_big := am_at 430 (by decide +kernel) rfl
theorem is_69 : Cond.selects (am_y 69).cls (am_y 69) (am_y 69) ∈ am_big := am_at 431 (by decide +kernel) rfl
theorem im_70 : Cond.instanceMethod (am_y 70) ∈ am_big := am_at 434 (by decide +kernel) rfl
theorem is_70 : Cond.selects (am_y 70).cls (am_y 70) (am_y 70) ∈ am_big := am_at 435 (by decide +kernel) rfl
theorem im_71 : Cond.instanceMethod (am_y 71) ∈ am_big := am_at 438 (by decide +kernel) rfl
theorem is_71 : Cond.selects (am_y 71).cls (am_y 71) (am_y 71) ∈ am_big := am_at 439 (by decide +kernel) rfl
theorem im_72 : Cond.instanceMethod (am_y 72) ∈ am_big := am_at 442 (by decide +kernel) rfl
theorem is_72 : Cond.selects (am_y 72).cls (am_y 72) (am_y 72) ∈ am_big := am_at 443 (by decide +kernel) rfl
theorem im_73 : Cond.instanceMethod (am_y 73) ∈ am_big := am_at 446 (by decide +kernel) rfl
theorem is_73 : Cond.selects (am_y 73).cls (am_y 73) (am_y 73) ∈ am_big := am_at 447 (by decide +kernel) rfl
theorem it_74 : Cond.static (am_y 74) ∈ am_big := am_at 451 (by decide +kernel) rfl
theorem im_75 : Cond.instanceMethod (am_y 75) ∈ am_big := am_at 455 (by decide +kernel) rfl
theorem is_75 : Cond.selects (am_y 75).cls (am_y 75) (am_y 75) ∈ am_big := am_at 456 (by decide +kernel) rfl
theorem im_76 : Cond.instanceMethod (am_y 76) ∈ am_big := am_at 460 (by decide +kernel) rfl
theorem is_76 : Cond.selects (am_y 76).cls (am_y 76) (am_y 76) ∈ am_big := am_at 461 (by decide +kernel) rfl
theorem im_77 : Cond.instanceMethod (am_y 77) ∈ am_big := am_at 465 (by decide +kernel) rfl
theorem is_77 : Cond.selects (am_y 77).cls (am_y 77) (am_y 77) ∈ am_big := am_as 11 (by decide +kernel) rfl
theorem im_78 : Cond.instanceMethod (am_y 78) ∈ am_big := am_at 468 (by decide +kernel) rfl
theorem is_78 : Cond.selects (am_y 78).cls (am_y 78) (am_y 78) ∈ am_big := am_at 469 (by decide +kernel) rfl
theorem im_79 : Cond.instanceMethod (am_y 79) ∈ am_big := am_at 472 (by decide +kernel) rfl
theorem is_79 : Cond.selects (am_y 79).cls (am_y 79) (am_y 79) ∈ am_big := am_at 473 (by decide +kernel) rfl
theorem im_80 : Cond.instanceMethod (am_y 80) ∈ am_big := am_at 477 (by decide +kernel) rfl
theorem is_80 : Cond.selects (am_y 80).cls (am_y 80) (am_y 80) ∈ am_big := am_at 478 (by decide +kernel) rfl
theorem im_81 : Cond.instanceMethod (am_y 81) ∈ am_big := am_at 482 (by decide +kernel) rfl
theorem is_81 : Cond.selects (am_y 81).cls (am_y 81) (am_y 81) ∈ am_big := am_as 12 (by decide +kernel) rfl
theorem im_82 : Cond.instanceMethod (am_y 82) ∈ am_big := am_at 485 (by decide +kernel) rfl
theorem is_82 : Cond.selects (am_y 82).cls (am_y 82) (am_y 82) ∈ am_big := am_at 486 (by decide +kernel) rfl
theorem im_83 : Cond.instanceMethod (am_y 83) ∈ am_big := am_at 491 (by decide +kernel) rfl
theorem is_83 : Cond.selects (am_y 83).cls (am_y 83) (am_y 83) ∈ am_big := am_as 13 (by decide +kernel) rfl
theorem im_84 : Cond.instanceMethod (am_y 84) ∈ am_big := am_at 495 (by decide +kernel) rfl
theorem is_84 : Cond.selects (am_y 84).cls (am_y 84) (am_y 84) ∈ am_big := am_as 14 (by decide +kernel) rfl
theorem im_85 : Cond.instanceMethod (am_y 85) ∈ am_big := am_at 500 (by decide +kernel) rfl
theorem is_85 : Cond.selects (am_y 85).cls (am_y 85) (am_y 85) ∈ am_big := am_as 15 (by decide +kernel) rfl
theorem im_86 : Cond.instanceMethod (am_y 86) ∈ am_big := am_at 507 (by decide +kernel) rfl
theorem is_86 : Cond.selects (am_y 86).cls (am_y 86) (am_y 86) ∈ am_big := am_as 16 (by decide +kernel) rfl
theorem it_87 : Cond.static (am_y 87) ∈ am_big := am_at 510 (by decide +kernel) rfl
theorem im_88 : Cond.instanceMethod (am_y 88) ∈ am_big := am_at 513 (by decide +kernel) rfl
theorem is_88 : Cond.selects (am_y 88).cls (am_y 88) (am_y 88) ∈ am_big := am_at 514 (by decide +kernel) rfl
theorem im_89 : Cond.instanceMethod (am_y 89) ∈ am_big := am_at 518 (by decide +kernel) rfl
theorem is_89 : Cond.selects (am_y 89).cls (am_y 89) (am_y 89) ∈ am_big := am_at 519 (by decide +kernel) rfl
theorem im_90 : Cond.instanceMethod (am_y 90) ∈ am_big := am_at 523 (by decide +kernel) rfl
theorem is_90 : Cond.selects (am_y 90).cls (am_y 90) (am_y 90) ∈ am_big := am_as 17 (by decide +kernel) rfl
theorem it_91 : Cond.static (am_y 91) ∈ am_big := am_at 526 (by decide +kernel) rfl
theorem im_92 : Cond.instanceMethod (am_y 92) ∈ am_big := am_at 529 (by decide +kernel) rfl
theorem is_92 : Cond.selects (am_y 92).cls (am_y 92) (am_y 92) ∈ am_big := am_at 530 (by decide +kernel) rfl
theorem im_93 : Cond.instanceMethod (am_y 93) ∈ am_big := am_at 533 (by decide +kernel) rfl
theorem is_93 : Cond.selects (am_y 93).cls (am_y 93) (am_y 93) ∈ am_big := am_at 534 (by decide +kernel) rfl
theorem im_94 : Cond.instanceMethod (am_y 94) ∈ am_big := am_at 538 (by decide +kernel) rfl
theorem is_94 : Cond.selects (am_y 94).cls (am_y 94) (am_y 94) ∈ am_big := am_at 539 (by decide +kernel) rfl
theorem im_95 : Cond.instanceMethod (am_y 95) ∈ am_big := am_at 542 (by decide +kernel) rfl
theorem is_95 : Cond.selects (am_y 95).cls (am_y 95) (am_y 95) ∈ am_big := am_at 543 (by decide +kernel) rfl
theorem im_96 : Cond.instanceMethod (am_y 96) ∈ am_big := am_at 547 (by decide +kernel) rfl
theorem is_96 : Cond.selects (am_y 96).cls (am_y 96) (am_y 96) ∈ am_big := am_as 18 (by decide +kernel) rfl
theorem im_97 : Cond.instanceMethod (am_y 97) ∈ am_big := am_at 550 (by decide +kernel) rfl
theorem is_97 : Cond.selects (am_y 97).cls (am_y 97) (am_y 97) ∈ am_big := am_at 551 (by decide +kernel) rfl
theorem im_98 : Cond.instanceMethod (am_y 98) ∈ am_big := am_at 554 (by decide +kernel) rfl
theorem is_98 : Cond.selects (am_y 98).cls (am_y 98) (am_y 98) ∈ am_big := am_at 555 (by decide +kernel) rfl
theorem im_99 : Cond.instanceMethod (am_y 99) ∈ am_big := am_at 558 (by decide +kernel) rfl
theorem is_99 : Cond.selects (am_y 99).cls (am_y 99) (am_y 99) ∈ am_big := am_at 559 (by decide +kernel) rfl
theorem im_100 : Cond.instanceMethod (am_y 100) ∈ am_big := am_at 562 (by decide +kernel) rfl
theorem is_100 : Cond.selects (am_y 100).cls (am_y 100) (am_y 100) ∈ am_big := am_at 563 (by decide +kernel) rfl
theorem im_101 : Cond.instanceMethod (am_y 101) ∈ am_big := am_at 568 (by decide +kernel) rfl
theorem is_101 : Cond.selects (am_y 101).cls (am_y 101) (am_y 101) ∈ am_big := am_as 19 (by decide +kernel) rfl
theorem im_102 : Cond.instanceMethod (am_y 102) ∈ am_big := am_at 571 (by decide +kernel) rfl
theorem is_102 : Cond.selects (am_y 102).cls (am_y 102) (am_y 102) ∈ am_big := am_at 572 (by decide +kernel) rfl
theorem im_103 : Cond.instanceMethod (am_y 103) ∈ am_big := am_at 576 (by decide +kernel) rfl
theorem is_103 : Cond.selects (am_y 103).cls (am_y 103) (am_y 103) ∈ am_big := am_at 577 (by decide +kernel) rfl
theorem im_104 : Cond.instanceMethod (am_y 104) ∈ am_big := am_at 584 (by decide +kernel) rfl
theorem is_104 : Cond.selects (am_y 104).cls (am_y 104) (am_y 104) ∈ am_big := am_at 585 (by decide +kernel) rfl
theorem im_105 : Cond.instanceMethod (am_y 105) ∈ am_big := am_at 588 (by decide +kernel) rfl
theorem is_105 : Cond.selects (am_y 105).cls (am_y 105) (am_y 105) ∈ am_big := am_at 589 (by decide +kernel) rfl
theorem im_106 : Cond.instanceMethod (am_y 106) ∈ am_big := am_at 592 (by decide +kernel) rfl
theorem is_106 : Cond.selects (am_y 106).cls (am_y 106) (am_y 106) ∈ am_big := am_at 593 (by decide +kernel) rfl
theorem im_107 : Cond.instanceMethod (am_y 107) ∈ am_big := am_at 596 (by decide +kernel) rfl
theorem is_107 : Cond.selects (am_y 107).cls (am_y 107) (am_y 107) ∈ am_big := am_at 597 (by decide +kernel) rfl
theorem im_108 : Cond.instanceMethod (am_y 108) ∈ am_big := am_at 600 (by decide +kernel) rfl
theorem is_108 : Cond.selects (am_y 108).cls (am_y 108) (am_y 108) ∈ am_big := am_at 601 (by decide +kernel) rfl
theorem it_109 : Cond.static (am_y 109) ∈ am_big := am_at 604 (by decide +kernel) rfl
theorem im_110 : Cond.instanceMethod (am_y 110) ∈ am_big := am_at 608 (by decide +kernel) rfl
theorem is_110 : Cond.selects (am_y 110).cls (am_y 110) (am_y 110) ∈ am_big := am_as 20 (by decide +kernel) rfl
theorem im_111 : Cond.instanceMethod (am_y 111) ∈ am_big := am_at 611 (by decide +kernel) rfl
theorem is_111 : Cond.selects (am_y 111).cls (am_y 111) (am_y 111) ∈ am_big := am_at 612 (by decide +kernel) rfl
theorem im_112 : Cond.instanceMethod (am_y 112) ∈ am_big := am_at 615 (by decide +kernel) rfl
theorem is_112 : Cond.selects (am_y 112).cls (am_y 112) (am_y 112) ∈ am_big := am_at 616 (by decide +kernel) rfl
theorem im_113 : Cond.instanceMethod (am_y 113) ∈ am_big := am_at 619 (by decide +kernel) rfl
theorem is_113 : Cond.selects (am_y 113).cls (am_y 113) (am_y 113) ∈ am_big := am_at 620 (by decide +kernel) rfl
theorem it_114 : Cond.static (am_y 114) ∈ am_big := am_at 626 (by decide +kernel) rfl
theorem im_115 : Cond.instanceMethod (am_y 115) ∈ am_big := am_at 631 (by decide +kernel) rfl
theorem im_116 : Cond.instanceMethod (am_y 116) ∈ am_big := am_at 696 (by decide +kernel) rfl
theorem is_116 : Cond.selects (am_y 116).cls (am_y 116) (am_y 116) ∈ am_big := am_at 697 (by decide +kernel) rfl
theorem it_117 : Cond.static (am_y 117) ∈ am_big := am_at 700 (by decide +kernel) rfl
theorem it_118 : Cond.static (am_y 118) ∈ am_big := am_at 704 (by decide +kernel) rfl
theorem im_119 : Cond.instanceMethod (am_y 119) ∈ am_big := am_at 708 (by decide +kernel) rfl
theorem is_119 : Cond.selects (am_y 119).cls (am_y 119) (am_y 119) ∈ am_big := am_as 21 (by decide +kernel) rfl
theorem im_120 : Cond.instanceMethod (am_y 120) ∈ am_big := am_at 712 (by decide +kernel) rfl
theorem is_120 : Cond.selects (am_y 120).cls (am_y 120) (am_y 120) ∈ am_big := am_as 22 (by decide +kernel) rfl
theorem im_121 : Cond.instanceMethod (am_y 121) ∈ am_big := am_at 715 (by decide +kernel) rfl
theorem is_121 : Cond.selects (am_y 121).cls (am_y 121) (am_y 121) ∈ am_big := am_at 716 (by decide +kernel) rfl
theorem im_122 : Cond.instanceMethod (am_y 122) ∈ am_big := am_at 719 (by decide +kernel) rfl
theorem is_122 : Cond.selects (am_y 122).cls (am_y 122) (am_y 122) ∈ am_big := am_at 720 (by decide +kernel) rfl
theorem im_123 : Cond.instanceMethod (am_y 123) ∈ am_big := am_at 724 (by decide +kernel) rfl
theorem is_123 : Cond.selects (am_y 123).cls (am_y 123) (am_y 123) ∈ am_big := am_as 23 (by decide +kernel) rfl
theorem im_124 : Cond.instanceMethod (am_y 124) ∈ am_big := am_at 728 (by decide +kernel) rfl
theorem is_124 : Cond.selects (am_y 124).cls (am_y 124) (am_y 124) ∈ am_big := am_at 729 (by decide +kernel) rfl
theorem im_125 : Cond.instanceMethod (am_y 125) ∈ am_big := am_at 732 (by decide +kernel) rfl
theorem is_125 : Cond.selects (am_y 125).cls (am_y 125) (am_y 125) ∈ am_big := am_at 733 (by decide +kernel) rfl
theorem it_126 : Cond.static (am_y 126) ∈ am_big := am_at 736 (by decide +kernel) rfl
theorem im_127 : Cond.instanceMethod (am_y 127) ∈ am_big := am_at 739 (by decide +kernel) rfl
theorem is_127 : Cond.selects (am_y 127).cls (am_y 127) (am_y 127) ∈ am_big := am_at 740 (by decide +kernel) rfl
theorem im_128 : Cond.instanceMethod (am_y 128) ∈ am_big := am_at 743 (by decide +kernel) rfl
theorem is_128 : Cond.selects (am_y 128).cls (am_y 128) (am_y 128) ∈ am_big := am_at 744 (by decide +kernel) rfl
theorem it_129 : Cond.static (am_y 129) ∈ am_big := am_at 747 (by decide +kernel) rfl
theorem im_130 : Cond.instanceMethod (am_y 130) ∈ am_big := am_at 751 (by decide +kernel) rfl
theorem is_130 : Cond.selects (am_y 130).cls (am_y 130) (am_y 130) ∈ am_big := am_at 752 (by decide +kernel) rfl
theorem im_131 : Cond.instanceMethod (am_y 131) ∈ am_big := am_at 755 (by decide +kernel) rfl
theorem is_131 : Cond.selects (am_y 131).cls (am_y 131) (am_y 131) ∈ am_big := am_at 756 (by decide +kernel) rfl
theorem im_132 : Cond.instanceMethod (am_y 132) ∈ am_big := am_at 760 (by decide +kernel) rfl
theorem is_132 : Cond.selects (am_y 132).cls (am_y 132) (am_y 132) ∈ am_big := am_as 24 (by decide +kernel) rfl
theorem im_133 : Cond.instanceMethod (am_y 133) ∈ am_big := am_at 764 (by decide +kernel) rfl
theorem is_133 : Cond.selects (am_y 133).cls (am_y 133) (am_y 133) ∈ am_big := am_as 25 (by decide +kernel) rfl
theorem im_134 : Cond.instanceMethod (am_y 134) ∈ am_big := am_at 768 (by decide +kernel) rfl
theorem is_134 : Cond.selects (am_y 134).cls (am_y 134) (am_y 134) ∈ am_big := am_as 26 (by decide +kernel) rfl
theorem im_135 : Cond.instanceMethod (am_y 135) ∈ am_big := am_at 772 (by decide +kernel) rfl
theorem is_135 : Cond.selects (am_y 135).cls (am_y 135) (am_y 135) ∈ am_big := am_as 27 (by decide +kernel) rfl
theorem im_136 : Cond.instanceMethod (am_y 136) ∈ am_big := am_at 776 (by decide +kernel) rfl
theorem is_136 : Cond.selects (am_y 136).cls (am_y 136) (am_y 136) ∈ am_big := am_as 28 (by decide +kernel) rfl
theorem im_137 : Cond.instanceMethod (am_y 137) ∈ am_big := am_at 780 (by decide +kernel) rfl
theorem is_137 : Cond.selects (am_y 137).cls (am_y 137) (am_y 137) ∈ am_big := am_as 29 (by decide +kernel) rfl
theorem im_138 : Cond.instanceMethod (am_y 138) ∈ am_big := am_at 786 (by decide +kernel) rfl
theorem is_138 : Cond.selects (am_y 138).cls (am_y 138) (am_y 138) ∈ am_big := am_as 30 (by decide +kernel) rfl
theorem it_139 : Cond.static (am_y 139) ∈ am_big := am_at 789 (by decide +kernel) rfl
theorem im_140 : Cond.instanceMethod (am_y 140) ∈ am_big := am_at 792 (by decide +kernel) rfl
theorem is_140 : Cond.selects (am_y 140).cls (am_y 140) (am_y 140) ∈ am_big := am_at 793 (by decide +kernel) rfl
theorem im_141 : Cond.instanceMethod (am_y 141) ∈ am_big := am_at 797 (by decide +kernel) rfl
theorem is_141 : Cond.selects (am_y 141).cls (am_y 141) (am_y 141) ∈ am_big := am_as 31 (by decide +kernel) rfl
theorem im_142 : Cond.instanceMethod (am_y 142) ∈ am_big := am_at 800 (by decide +kernel) rfl
theorem is_142 : Cond.selects (am_y 142).cls (am_y 142) (am_y 142) ∈ am_big := am_at 801 (by decide +kernel) rfl
theorem im_143 : Cond.instanceMethod (am_y 143) ∈ am_big := am_at 805 (by decide +kernel) rfl
theorem is_143 : Cond.selects (am_y 143).cls (am_y 143) (am_y 143) ∈ am_big := am_as 32 (by decide +kernel) rfl
theorem im_144 : Cond.instanceMethod (am_y 144) ∈ am_big := am_at 810 (by decide +kernel) rfl
theorem is_144 : Cond.selects (am_y 144).cls (am_y 144) (am_y 144) ∈ am_big := am_as 33 (by decide +kernel) rfl
theorem im_145 : Cond.instanceMethod (am_y 145) ∈ am_big := am_at 814 (by decide +kernel) rfl
theorem is_145 : Cond.selects (am_y 145).cls (am_y 145) (am_y 145) ∈ am_big := am_as 34 (by decide +kernel) rfl
theorem im_146 : Cond.instanceMethod (am_y 146) ∈ am_big := am_at 818 (by decide +kernel) rfl
theorem is_146 : Cond.selects (am_y 146).cls (am_y 146) (am_y 146) ∈ am_big := am_as 35 (by decide +kernel) rfl
theorem im_147 : Cond.instanceMethod (am_y 147) ∈ am_big := am_at 822 (by decide +kernel) rfl
theorem is_147 : Cond.selects (am_y 147).cls (am_y 147) (am_y 147) ∈ am_big := am_as 36 (by decide +kernel) rfl
theorem im_148 : Cond.instanceMethod (am_y 148) ∈ am_big := am_at 825 (by decide +kernel) rfl
theorem is_148 : Cond.selects (am_y 148).cls (am_y 148) (am_y 148) ∈ am_big := am_at 826 (by decide +kernel) rfl
theorem im_149 : Cond.instanceMethod (am_y 149) ∈ am_big := am_at 830 (by decide +kernel) rfl
theorem is_149 : Cond.selects (am_y 149).cls (am_y 149) (am_y 149) ∈ am_big := am_as 37 (by decide +kernel) rfl
theorem im_150 : Cond.instanceMethod (am_y 150) ∈ am_big := am_at 834 (by decide +kernel) rfl
theorem is_150 : Cond.selects (am_y 150).cls (am_y 150) (am_y 150) ∈ am_big := am_as 38 (by decide +kernel) rfl
theorem im_151 : Cond.instanceMethod (am_y 151) ∈ am_big := am_at 838 (by decide +kernel) rfl
theorem is_151 : Cond.selects (am_y 151).cls (am_y 151) (am_y 151) ∈ am_big := am_as 39 (by decide +kernel) rfl
theorem im_152 : Cond.instanceMethod (am_y 152) ∈ am_big := am_at 842 (by decide +kernel) rfl
theorem is_152 : Cond.selects (am_y 152).cls (am_y 152) (am_y 152) ∈ am_big := am_as 40 (by decide +kernel) rfl
theorem it_153 : Cond.static (am_y 153) ∈ am_big := am_at 845 (by decide +kernel) rfl
theorem im_154 : Cond.instanceMethod (am_y 154) ∈ am_big := am_at 848 (by decide +kernel) rfl
theorem is_154 : Cond.selects (am_y 154).cls (am_y 154) (am_y 154) ∈ am_big := am_at 849 (by decide +kernel) rfl
theorem im_155 : Cond.instanceMethod (am_y 155) ∈ am_big := am_at 853 (by decide +kernel) rfl
theorem is_155 : Cond.selects (am_y 155).cls (am_y 155) (am_y 155) ∈ am_big := am_as 41 (by decide +kernel) rfl
theorem im_156 : Cond.instanceMethod (am_y 156) ∈ am_big := am_at 856 (by decide +kernel) rfl
theorem is_156 : Cond.selects (am_y 156).cls (am_y 156) (am_y 156) ∈ am_big := am_at 857 (by decide +kernel) rfl
theorem it_157 : Cond.static (am_y 157) ∈ am_big := am_at 860 (by decide +kernel) rfl
theorem im_158 : Cond.instanceMethod (am_y 158) ∈ am_big := am_at 864 (by decide +kernel) rfl
theorem is_158 : Cond.selects (am_y 158).cls (am_y 158) (am_y 158) ∈ am_big := am_at 865 (by decide +kernel) rfl
theorem im_159 : Cond.instanceMethod (am_y 159) ∈ am_big := am_at 869 (by decide +kernel) rfl
theorem is_159 : Cond.selects (am_y 159).cls (am_y 159) (am_y 159) ∈ am_big := am_as 42 (by decide +kernel) rfl
theorem im_160 : Cond.instanceMethod (am_y 160) ∈ am_big := am_at 873 (by decide +kernel) rfl
theorem is_160 : Cond.selects (am_y 160).cls (am_y 160) (am_y 160) ∈ am_big := am_as 43 (by decide +kernel) rfl
theorem im_161 : Cond.instanceMethod (am_y 161) ∈ am_big := am_at 877 (by decide +kernel) rfl
theorem is_161 : Cond.selects (am_y 161).cls (am_y 161) (am_y 161) ∈ am_big := am_as 44 (by decide +kernel) rfl
theorem im_162 : Cond.instanceMethod (am_y 162) ∈ am_big := am_at 880 (by decide +kernel) rfl
theorem is_162 : Cond.selects (am_y 162).cls (am_y 162) (am_y 162) ∈ am_big := am_at 881 (by decide +kernel) rfl
theorem im_163 : Cond.instanceMethod (am_y 163) ∈ am_big := am_at 884 (by decide +kernel) rfl
theorem is_163 : Cond.selects (am_y 163).cls (am_y 163) (am_y 163) ∈ am_big := am_at 885 (by decide +kernel) rfl
theorem im_164 : Cond.instanceMethod (am_y 164) ∈ am_big := am_at 888 (by decide +kernel) rfl
theorem is_164 : Cond.selects (am_y 164).cls (am_y 164) (am_y 164) ∈ am_big := am_at 889 (by decide +kernel) rfl
theorem im_165 : Cond.instanceMethod (am_y 165) ∈ am_big := am_at 892 (by decide +kernel) rfl
theorem is_165 : Cond.selects (am_y 165).cls (am_y 165) (am_y 165) ∈ am_big := am_at 893 (by decide +kernel) rfl
theorem im_166 : Cond.instanceMethod (am_y 166) ∈ am_big := am_at 896 (by decide +kernel) rfl
theorem is_166 : Cond.selects (am_y 166).cls (am_y 166) (am_y 166) ∈ am_big := am_at 897 (by decide +kernel) rfl
theorem im_167 : Cond.instanceMethod (am_y 167) ∈ am_big := am_at 900 (by decide +kernel) rfl
theorem is_167 : Cond.selects (am_y 167).cls (am_y 167) (am_y 167) ∈ am_big := am_at 901 (by decide +kernel) rfl
theorem im_168 : Cond.instanceMethod (am_y 168) ∈ am_big := am_at 904 (by decide +kernel) rfl
theorem is_168 : Cond.selects (am_y 168).cls (am_y 168) (am_y 168) ∈ am_big := am_at 905 (by decide +kernel) rfl
theorem it_169 : Cond.static (am_y 169) ∈ am_big := am_at 908 (by decide +kernel) rfl
theorem im_170 : Cond.instanceMethod (am_y 170) ∈ am_big := am_at 911 (by decide +kernel) rfl
theorem is_170 : Cond.selects (am_y 170).cls (am_y 170) (am_y 170) ∈ am_big := am_at 912 (by decide +kernel) rfl
theorem im_171 : Cond.instanceMethod (am_y 171) ∈ am_big := am_at 916 (by decide +kernel) rfl
theorem is_171 : Cond.selects (am_y 171).cls (am_y 171) (am_y 171) ∈ am_big := am_as 45 (by decide +kernel) rfl
theorem im_172 : Cond.instanceMethod (am_y 172) ∈ am_big := am_at 920 (by decide +kernel) rfl
theorem is_172 : Cond.selects (am_y 172).cls (am_y 172) (am_y 172) ∈ am_big := am_as 46 (by decide +kernel) rfl
theorem im_173 : Cond.instanceMethod (am_y 173) ∈ am_big := am_at 923 (by decide +kernel) rfl
theorem is_173 : Cond.selects (am_y 173).cls (am_y 173) (am_y 173) ∈ am_big := am_at 924 (by decide +kernel) rfl
theorem im_174 : Cond.instanceMethod (am_y 174) ∈ am_big := am_at 927 (by decide +kernel) rfl
theorem is_174 : Cond.selects (am_y 174).cls (am_y 174) (am_y 174) ∈ am_big := am_at 928 (by decide +kernel) rfl
theorem im_175 : Cond.instanceMethod (am_y 175) ∈ am_big := am_at 932 (by decide +kernel) rfl
theorem is_175 : Cond.selects (am_y 175).cls (am_y 175) (am_y 175) ∈ am_big := am_as 47 (by decide +kernel) rfl
theorem im_176 : Cond.instanceMethod (am_y 176) ∈ am_big := am_at 937 (by decide +kernel) rfl
theorem is_176 : Cond.selects (am_y 176).cls (am_y 176) (am_y 176) ∈ am_big := am_as 48 (by decide +kernel) rfl
theorem im_177 : Cond.instanceMethod (am_y 177) ∈ am_big := am_at 941 (by decide +kernel) rfl
theorem is_177 : Cond.selects (am_y 177).cls (am_y 177) (am_y 177) ∈ am_big := am_as 49 (by decide +kernel) rfl
theorem im_178 : Cond.instanceMethod (am_y 178) ∈ am_big := am_at 945 (by decide +kernel) rfl
theorem is_178 : Cond.selects (am_y 178).cls (am_y 178) (am_y 178) ∈ am_big := am_as 50 (by decide +kernel) rfl
theorem im_179 : Cond.instanceMethod (am_y 179) ∈ am_big := am_at 949 (by decide +kernel) rfl
theorem is_179 : Cond.selects (am_y 179).cls (am_y 179) (am_y 179) ∈ am_big := am_as 51 (by decide +kernel) rfl
theorem im_180 : Cond.instanceMethod (am_y 180) ∈ am_big := am_at 952 (by decide +kernel) rfl
theorem is_180 : Cond.selects (am_y 180).cls (am_y 180) (am_y 180) ∈ am_big := am_at 953 (by decide +kernel) rfl
theorem im_181 : Cond.instanceMethod (am_y 181) ∈ am_big := am_at 956 (by decide +kernel) rfl
theorem is_181 : Cond.selects (am_y 181).cls (am_y 181) (am_y 181) ∈ am_big := am_at 957 (by decide +kernel) rfl
theorem im_182 : Cond.instanceMethod (am_y 182) ∈ am_big := am_at 960 (by decide +kernel) rfl
theorem is_182 : Cond.selects (am_y 182).cls (am_y 182) (am_y 182) ∈ am_big := am_at 961 (by decide +kernel) rfl
theorem im_183 : Cond.instanceMethod (am_y 183) ∈ am_big := am_at 966 (by decide +kernel) rfl
theorem is_183 : Cond.selects (am_y 183).cls (am_y 183) (am_y 183) ∈ am_big := am_as 52 (by decide +kernel) rfl
theorem im_184 : Cond.instanceMethod (am_y 184) ∈ am_big := am_at 969 (by decide +kernel) rfl
theorem is_184 : Cond.selects (am_y 184).cls (am_y 184) (am_y 184) ∈ am_big := am_at 970 (by decide +kernel) rfl
theorem im_185 : Cond.instanceMethod (am_y 185) ∈ am_big := am_at 974 (by decide +kernel) rfl
theorem is_185 : Cond.selects (am_y 185).cls (am_y 185) (am_y 185) ∈ am_big := am_as 53 (by decide +kernel) rfl
theorem im_186 : Cond.instanceMethod (am_y 186) ∈ am_big := am_at 978 (by decide +kernel) rfl
theorem is_186 : Cond.selects (am_y 186).cls (am_y 186) (am_y 186) ∈ am_big := am_as 54 (by decide +kernel) rfl
theorem im_187 : Cond.instanceMethod (am_y 187) ∈ am_big := am_at 981 (by decide +kernel) rfl
theorem is_187 : Cond.selects (am_y 187).cls (am_y 187) (am_y 187) ∈ am_big := am_at 982 (by decide +kernel) rfl
theorem im_188 : Cond.instanceMethod (am_y 188) ∈ am_big := am_at 985 (by decide +kernel) rfl
theorem is_188 : Cond.selects (am_y 188).cls (am_y 188) (am_y 188) ∈ am_big := am_at 986 (by decide +kernel) rfl
theorem im_189 : Cond.instanceMethod (am_y 189) ∈ am_big := am_at 989 (by decide +kernel) rfl
theorem is_189 : Cond.selects (am_y 189).cls (am_y 189) (am_y 189) ∈ am_big := am_at 990 (by decide +kernel) rfl
theorem im_190 : Cond.instanceMethod (am_y 190) ∈ am_big := am_at 993 (by decide +kernel) rfl
theorem is_190 : Cond.selects (am_y 190).cls (am_y 190) (am_y 190) ∈ am_big := am_at 994 (by decide +kernel) rfl
theorem im_191 : Cond.instanceMethod (am_y 191) ∈ am_big := am_at 998 (by decide +kernel) rfl
theorem is_191 : Cond.selects (am_y 191).cls (am_y 191) (am_y 191) ∈ am_big := am_as 55 (by decide +kernel) rfl
theorem im_192 : Cond.instanceMethod (am_y 192) ∈ am_big := am_at 1001 (by decide +kernel) rfl
theorem is_192 : Cond.selects (am_y 192).cls (am_y 192) (am_y 192) ∈ am_big := am_at 1002 (by decide +kernel) rfl
theorem im_193 : Cond.instanceMethod (am_y 193) ∈ am_big := am_at 1010 (by decide +kernel) rfl
theorem is_193 : Cond.selects (am_y 193).cls (am_y 193) (am_y 193) ∈ am_big := am_at 1011 (by decide +kernel) rfl
theorem im_194 : Cond.instanceMethod (am_y 194) ∈ am_big := am_at 1014 (by decide +kernel) rfl
theorem is_194 : Cond.selects (am_y 194).cls (am_y 194) (am_y 194) ∈ am_big := am_at 1015 (by decide +kernel) rfl
theorem im_195 : Cond.instanceMethod (am_y 195) ∈ am_big := am_at 1018 (by decide +kernel) rfl
theorem is_195 : Cond.selects (am_y 195).cls (am_y 195) (am_y 195) ∈ am_big := am_at 1019 (by decide +kernel) rfl
theorem im_196 : Cond.instanceMethod (am_y 196) ∈ am_big := am_at 1022 (by decide +kernel) rfl
theorem is_196 : Cond.selects (am_y 196).cls (am_y 196) (am_y 196) ∈ am_big := am_at 1023 (by decide +kernel) rfl
theorem im_197 : Cond.instanceMethod (am_y 197) ∈ am_big := am_at 1027 (by decide +kernel) rfl
theorem is_197 : Cond.selects (am_y 197).cls (am_y 197) (am_y 197) ∈ am_big := am_as 56 (by decide +kernel) rfl
theorem it_198 : Cond.static (am_y 198) ∈ am_big := am_at 1030 (by decide +kernel) rfl
theorem im_199 : Cond.instanceMethod (am_y 199) ∈ am_big := am_at 1033 (by decide +kernel) rfl
theorem is_199 : Cond.selects (am_y 199).cls (am_y 199) (am_y 199) ∈ am_big := am_at 1034 (by decide +kernel) rfl
theorem im_200 : Cond.instanceMethod (am_y 200) ∈ am_big := am_at 1037 (by decide +kernel) rfl
theorem is_200 : Cond.selects (am_y 200).cls (am_y 200) (am_y 200) ∈ am_big := am_at 1038 (by decide +kernel) rfl
theorem im_201 : Cond.instanceMethod (am_y 201) ∈ am_big := am_at 1041 (by decide +kernel) rfl
theorem is_201 : Cond.selects (am_y 201).cls (am_y 201) (am_y 201) ∈ am_big := am_at 1042 (by decide +kernel) rfl
theorem im_202 : Cond.instanceMethod (am_y 202) ∈ am_big := am_at 1048 (by decide +kernel) rfl
theorem is_202 : Cond.selects (am_y 202).cls (am_y 202) (am_y 202) ∈ am_big := am_as 57 (by decide +kernel) rfl
theorem pl_0 : am_pl 0 0 := ⟨by decide, by decide +kernel, by decide +kernel, by decide +kernel, by decide +kernel, in_S⟩
theorem pl_2 : am_pl 2 0 := ⟨by decide, by decide +kernel, by decide +kernel, by decide +kernel, by decide +kernel, in_C⟩
theorem pl_3 : am_pl 3 0 := ⟨by decide, by decide +kernel, by decide +kernel, by decide +kernel, by decide +kernel, in_P⟩
theorem pl_4 : am_pl 4 1 := ⟨by decide, by decide +kernel, by decide +kernel, by decide +kernel, by decide +kernel, in_R⟩
theorem pl_5 : am_pl 5 2 := ⟨by decide, by decide +kernel, by decide +kernel, by decide +kernel, by decide +kernel, in_java_lang_Math⟩
theorem pl_6 : am_pl 6 2 := ⟨by decide, by decide +kernel, by decide +kernel, by decide +kernel, by decide +kernel, in_S⟩
theorem pl_7 : am_pl 7 1 := ⟨by decide, by decide +kernel, by decide +kernel, by decide +kernel, by decide +kernel, in_S⟩
theorem pl_8 : am_pl 8 1 := ⟨by decide, by decide +kernel, by decide +kernel, by decide +kernel, by decide +kernel, in_S⟩
theorem pl_9 : am_pl 9 2 := ⟨by decide, by decide +kernel, by decide +kernel, by decide +kernel, by decide +kernel, in_R⟩
theorem pl_10 : am_pl 10 2 := ⟨by decide, by decide +kernel, by decide +kernel, by decide +kernel, by decide +kernel, in_java_lang_Math⟩
theorem pl_11 : am_pl 11 2 := ⟨by decide, by decide +kernel, by decide +kernel, by decide +kernel, by decide +kernel, in_java_util_Arrays⟩
theorem pl_12 : am_pl 12 3 := ⟨by decide, by decide +kernel, by decide +kernel, by decide +kernel, by decide +kernel, in_S⟩
theorem pl_13 : am_pl 13 2 := ⟨by decide, by decide +kernel, by decide +kernel, by decide +kernel, by decide +kernel, in_S⟩
theorem pl_14 : am_pl 14 0 := ⟨by decide, by decide +kernel, by decide +kernel, by decide +kernel, by decide +kernel, in_R⟩
theorem pl_15 : am_pl 15 1 := ⟨by decide, by decide +kernel, by decide +kernel, by decide +kernel, by decide +kernel, in_R⟩
theorem pl_16 : am_pl 16 2 := ⟨by decide, by decide +kernel, by decide +kernel, by decide +kernel, by decide +kernel, in_S⟩
theorem pl_17 : am_pl 17 1 := ⟨by decide, by decide +kernel, by decide +kernel, by decide +kernel, by decide +kernel, in_S⟩
theorem pl_18 : am_pl 18 0 := ⟨by decide, by decide +kernel, by decide +kernel, by decide +kernel, by decide +kernel, in_R⟩
theorem pl_19 : am_pl 19 5 := ⟨by decide, by decide +kernel, by decide +kernel, by decide +kernel, by decide +kernel, in_S⟩
theorem pl_20 : am_pl 20 2 := ⟨by decide, by decide +kernel, by decide +kernel, by decide +kernel, by decide +kernel, in_R⟩
theorem pl_21 : am_pl 21 1 := ⟨by decide, by decide +kernel, by decide +kernel, by decide +kernel, by decide +kernel, in_S⟩
theorem pl_22 : am_pl 22 2 := ⟨by decide, by decide +kernel, by decide +kernel, by decide +kernel, by decide +kernel, in_S⟩
theorem pl_23 : am_pl 23 1 := ⟨by decide, by decide +kernel, by decide +kernel, by decide +kernel, by decide +kernel, in_S⟩
theorem pl_24 : am_pl 24 3 := ⟨by decide, by decide +kernel, by decide +kernel, by decide +kernel, by decide +kernel, in_S⟩
theorem pl_25 : am_pl 25 1 := ⟨by decide, by decide +kernel, by decide +kernel, by decide +kernel, by decide +kernel, in_S⟩
theorem pl_26 : am_pl 26 2 := ⟨by decide, by decide +kernel, by decide +kernel, by decide +kernel, by decide +kernel, in_D⟩
theorem pl_27 : am_pl 27 0 := ⟨by decide, by decide +kernel, by decide +kernel, by decide +kernel, by decide +kernel, in_C⟩
theorem pl_28 : am_pl 28 2 := ⟨by decide, by decide +kernel, by decide +kernel, by decide +kernel, by decide +kernel, in_D⟩
theorem pl_29 : am_pl 29 2 := ⟨by decide, by decide +kernel, by decide +kernel, by decide +kernel, by decide +kernel, in_D⟩
theorem pl_30 : am_pl 30 1 := ⟨by decide, by decide +kernel, by decide +kernel, by decide +kernel, by decide +kernel, in_D⟩
theorem pl_31 : am_pl 31 1 := ⟨by decide, by decide +kernel, by decide +kernel, by decide +kernel, by decide +kernel, in_S⟩
theorem pl_32 : am_pl 32 1 := ⟨by decide, by decide +kernel, by decide +kernel, by decide +kernel, by decide +kernel, in_C⟩
theorem pl_33 : am_pl 33 3 := ⟨by decide, by decide +kernel, by decide +kernel, by decide +kernel, by decide +kernel, in_C⟩
theorem pl_34 : am_pl 34 3 := ⟨by decide, by decide +kernel, by decide +kernel, by decide +kernel, by decide +kernel, in_D⟩
theorem pl_35 : am_pl 35 1 := ⟨by decide, by decide +kernel, by decide +kernel, by decide +kernel, by decide +kernel, in_D⟩
theorem pl_36 : am_pl 36 3 := ⟨by decide, by decide +kernel, by decide +kernel, by decide +kernel, by decide +kernel, in_C⟩
theorem pl_37 : am_pl 37 1 := ⟨by decide, by decide +kernel, by decide +kernel, by decide +kernel, by decide +kernel, in_S⟩
theorem pl_38 : am_pl 38 1 := ⟨by decide, by decide +kernel, by decide +kernel, by decide +kernel, by decide +kernel, in_C⟩
theorem pl_39 : am_pl 39 1 := ⟨by decide, by decide +kernel, by decide +kernel, by decide +kernel, by decide +kernel, in_C⟩
theorem pl_40 : am_pl 40 1 := ⟨by decide, by decide +kernel, by decide +kernel, by decide +kernel, by decide +kernel, in_C⟩
theorem pl_41 : am_pl 41 1 := ⟨by decide, by decide +kernel, by decide +kernel, by decide +kernel, by decide +kernel, in_C⟩
theorem pl_42 : am_pl 42 1 := ⟨by decide, by decide +kernel, by decide +kernel, by decide +kernel, by decide +kernel, in_C⟩
theorem pl_43 : am_pl 43 2 := ⟨by decide, by decide +kernel, by decide +kernel, by decide +kernel, by decide +kernel, in_C⟩
theorem pl_44 : am_pl 44 2 := ⟨by decide, by decide +kernel, by decide +kernel, by decide +kernel, by decide +kernel, in_S⟩
theorem pl_45 : am_pl 45 1 := ⟨by decide, by decide +kernel, by decide +kernel, by decide +kernel, by decide +kernel, in_S⟩
theorem pl_46 : am_pl 46 2 := ⟨by decide, by decide +kernel, by decide +kernel, by decide +kernel, by decide +kernel, in_S⟩
theorem pl_47 : am_pl 47 2 := ⟨by decide, by decide +kernel, by decide +kernel, by decide +kernel, by decide +kernel, in_S⟩
theorem pl_48 : am_pl 48 1 := ⟨by decide, by decide +kernel, by decide +kernel, by decide +kernel, by decide +kernel, in_S⟩
theorem pl_49 : am_pl 49 2 := ⟨by decide, by decide +kernel, by decide +kernel, by decide +kernel, by decide +kernel, in_S⟩
theorem pl_50 : am_pl 50 1 := ⟨by decide, by decide +kernel, by decide +kernel, by decide +kernel, by decide +kernel, in_C⟩
theorem pl_51 : am_pl 51 2 := ⟨by decide, by decide +kernel, by decide +kernel, by decide +kernel, by decide +kernel, in_C⟩
theorem pl_52 : am_pl 52 2 := ⟨by decide, by decide +kernel, by decide +kernel, by decide +kernel, by decide +kernel, in_C⟩
theorem pl_53 : am_pl 53 2 := ⟨by decide, by decide +kernel, by decide +kernel, by decide +kernel, by decide +kernel, in_S⟩
theorem pl_54 : am_pl 54 1 := ⟨by decide, by decide +kernel, by decide +kernel, by decide +kernel, by decide +kernel, in_C⟩
theorem pl_55 : am_pl 55 1 := ⟨by decide, by decide +kernel, by decide +kernel, by decide +kernel, by decide +kernel, in_J⟩
theorem pl_56 : am_pl 56 1 := ⟨by decide, by decide +kernel, by decide +kernel, by decide +kernel, by decide +kernel, in_C⟩
theorem pl_57 : am_pl 57 2 := ⟨by decide, by decide +kernel, by decide +kernel, by decide +kernel, by decide +kernel, in_S⟩
theorem pl_58 : am_pl 58 2 := ⟨by decide, by decide +kernel, by decide +kernel, by decide +kernel, by decide +kernel, in_S⟩
theorem pl_59 : am_pl 59 2 := ⟨by decide, by decide +kernel, by decide +kernel, by decide +kernel, by decide +kernel, in_S⟩
theorem pl_60 : am_pl 60 2 := ⟨by decide, by decide +kernel, by decide +kernel, by decide +kernel, by decide +kernel, in_C⟩
theorem pl_61 : am_pl 61 2 := ⟨by decide, by decide +kernel, by decide +kernel, by decide +kernel, by decide +kernel, in_C⟩
theorem pl_62 : am_pl 62 2 := ⟨by decide, by decide +kernel, by decide +kernel, by decide +kernel, by decide +kernel, in_C⟩
theorem pl_63 : am_pl 63 0 := ⟨by decide, by decide +kernel, by decide +kernel, by decide +kernel, by decide +kernel, in_C⟩
theorem pl_64 : am_pl 64 1 := ⟨by decide, by decide +kernel, by decide +kernel, by decide +kernel, by decide +kernel, in_S⟩
theorem pl_65 : am_pl 65 1 := ⟨by decide, by decide +kernel, by decide +kernel, by decide +kernel, by decide +kernel, in_S⟩
theorem pl_66 : am_pl 66 1 := ⟨by decide, by decide +kernel, by decide +kernel, by decide +kernel, by decide +kernel, in_C⟩
theorem pl_67 : am_pl 67 1 := ⟨by decide, by decide +kernel, by decide +kernel, by decide +kernel, by decide +kernel, in_S⟩
theorem pl_68 : am_pl 68 1 := ⟨by decide, by decide +kernel, by decide +kernel, by decide +kernel, by decide +kernel, in_S⟩
theorem pl_69 : am_pl 69 1 := ⟨by decide, by decide +kernel, by decide +kernel, by decide +kernel, by decide +kernel, in_S⟩
theorem pl_70 : am_pl 70 1 := ⟨by decide, by decide +kernel, by decide +kernel, by decide +kernel, by decide +kernel, in_S⟩
theorem pl_71 : am_pl 71 1 := ⟨by decide, by decide +kernel, by decide +kernel, by decide +kernel, by decide +kernel, in_S⟩
theorem pl_72 : am_pl 72 0 := ⟨by decide, by decide +kernel, by decide +kernel, by decide +kernel, by decide +kernel, in_S⟩
theorem pl_73 : am_pl 73 1 := ⟨by decide, by decide +kernel, by decide +kernel, by decide +kernel, by decide +kernel, in_C⟩
theorem pl_74 : am_pl 74 1 := ⟨by decide, by decide +kernel, by decide +kernel, by decide +kernel, by decide +kernel, in_J⟩
theorem pl_75 : am_pl 75 1 := ⟨by decide, by decide +kernel, by decide +kernel, by decide +kernel, by decide +kernel, in_S⟩
theorem pl_76 : am_pl 76 1 := ⟨by decide, by decide +kernel, by decide +kernel, by decide +kernel, by decide +kernel, in_S⟩
theorem pl_77 : am_pl 77 1 := ⟨by decide, by decide +kernel, by decide +kernel, by decide +kernel, by decide +kernel, in_S⟩
theorem pl_78 : am_pl 78 3 := ⟨by decide, by decide +kernel, by decide +kernel, by decide +kernel, by decide +kernel, in_S⟩
theorem pl_79 : am_pl 79 2 := ⟨by decide, by decide +kernel, by decide +kernel, by decide +kernel, by decide +kernel, in_P⟩
theorem pl_80 : am_pl 80 2 := ⟨by decide, by decide +kernel, by decide +kernel, by decide +kernel, by decide +kernel, in_P⟩
theorem pl_81 : am_pl 81 1 := ⟨by decide, by decide +kernel, by decide +kernel, by decide +kernel, by decide +kernel, in_S⟩
theorem pl_82 : am_pl 82 2 := ⟨by decide, by decide +kernel, by decide +kernel, by decide +kernel, by decide +kernel, in_P⟩
theorem pl_83 : am_pl 83 2 := ⟨by decide, by decide +kernel, by decide +kernel, by decide +kernel, by decide +kernel, in_P⟩
theorem pl_84 : am_pl 84 0 := ⟨by decide, by decide +kernel, by decide +kernel, by decide +kernel, by decide +kernel, in_P⟩
theorem pl_85 : am_pl 85 2 := ⟨by decide, by decide +kernel, by decide +kernel, by decide +kernel, by decide +kernel, in_P⟩
theorem pl_86 : am_pl 86 1 := ⟨by decide, by decide +kernel, by decide +kernel, by decide +kernel, by decide +kernel, in_P⟩
theorem pl_87 : am_pl 87 1 := ⟨by decide, by decide +kernel, by decide +kernel, by decide +kernel, by decide +kernel, in_S⟩
theorem pl_88 : am_pl 88 1 := ⟨by decide, by decide +kernel, by decide +kernel, by decide +kernel, by decide +kernel, in_C⟩
theorem pl_89 : am_pl 89 3 := ⟨by decide, by decide +kernel, by decide +kernel, by decide +kernel, by decide +kernel, in_S⟩
theorem pl_90 : am_pl 90 2 := ⟨by decide, by decide +kernel, by decide +kernel, by decide +kernel, by decide +kernel, in_S⟩
theorem pl_91 : am_pl 91 2 := ⟨by decide, by decide +kernel, by decide +kernel, by decide +kernel, by decide +kernel, in_S⟩
theorem pl_92 : am_pl 92 2 := ⟨by decide, by decide +kernel, by decide +kernel, by decide +kernel, by decide +kernel, in_S⟩
theorem pl_93 : am_pl 93 1 := ⟨by decide, by decide +kernel, by decide +kernel, by decide +kernel, by decide +kernel, in_S⟩
theorem pl_94 : am_pl 94 0 := ⟨by decide, by decide +kernel, by decide +kernel, by decide +kernel, by decide +kernel, in_C⟩
theorem pl_95 : am_pl 95 2 := ⟨by decide, by decide +kernel, by decide +kernel, by decide +kernel, by decide +kernel, in_S⟩
theorem pl_96 : am_pl 96 1 := ⟨by decide, by decide +kernel, by decide +kernel, by decide +kernel, by decide +kernel, in_S⟩
theorem pl_97 : am_pl 97 1 := ⟨by decide, by decide +kernel, by decide +kernel, by decide +kernel, by decide +kernel, in_C⟩
theorem pl_98 : am_pl 98 2 := ⟨by decide, by decide +kernel, by decide +kernel, by decide +kernel, by decide +kernel, in_S⟩
theorem pl_99 : am_pl 99 0 := ⟨by decide, by decide +kernel, by decide +kernel, by decide +kernel, by decide +kernel, in_S⟩
theorem pl_100 : am_pl 100 1 := ⟨by decide, by decide +kernel, by decide +kernel, by decide +kernel, by decide +kernel, in_S⟩
theorem pl_101 : am_pl 101 1 := ⟨by decide, by decide +kernel, by decide +kernel, by decide +kernel, by decide +kernel, in_S⟩
theorem pl_102 : am_pl 102 2 := ⟨by decide, by decide +kernel, by decide +kernel, by decide +kernel, by decide +kernel, in_S⟩
theorem pl_103 : am_pl 103 2 := ⟨by decide, by decide +kernel, by decide +kernel, by decide +kernel, by decide +kernel, in_S⟩
theorem pl_104 : am_pl 104 0 := ⟨by decide, by decide +kernel, by decide +kernel, by decide +kernel, by decide +kernel, in_S⟩
theorem pl_105 : am_pl 105 0 := ⟨by decide, by decide +kernel, by decide +kernel, by decide +kernel, by decide +kernel, in_S⟩
theorem pl_106 : am_pl 106 0 := ⟨by decide, by decide +kernel, by decide +kernel, by decide +kernel, by decide +kernel, in_S⟩
theorem pl_107 : am_pl 107 1 := ⟨by decide, by decide +kernel, by decide +kernel, by decide +kernel, by decide +kernel, in_S⟩
theorem pl_108 : am_pl 108 1 := ⟨by decide, by decide +kernel, by decide +kernel, by decide +kernel, by decide +kernel, in_C⟩
theorem pl_109 : am_pl 109 1 := ⟨by decide, by decide +kernel, by decide +kernel, by decide +kernel, by decide +kernel, in_S⟩
theorem pl_110 : am_pl 110 0 := ⟨by decide, by decide +kernel, by decide +kernel, by decide +kernel, by decide +kernel, in_S⟩
theorem pl_111 : am_pl 111 0 := ⟨by decide, by decide +kernel, by decide +kernel, by decide +kernel, by decide +kernel, in_S⟩
theorem pl_112 : am_pl 112 1 := ⟨by decide, by decide +kernel, by decide +kernel, by decide +kernel, by decide +kernel, in_S⟩
theorem pl_113 : am_pl 113 0 := ⟨by decide, by decide +kernel, by decide +kernel, by decide +kernel, by decide +kernel, in_S⟩
theorem pl_114 : am_pl 114 2 := ⟨by decide, by decide +kernel, by decide +kernel, by decide +kernel, by decide +kernel, in_S⟩
theorem pl_115 : am_pl 115 0 := ⟨by decide, by decide +kernel, by decide +kernel, by decide +kernel, by decide +kernel, in_M⟩
theorem pl_116 : am_pl 116 2 := ⟨by decide, by decide +kernel, by decide +kernel, by decide +kernel, by decide +kernel, in_M⟩
theorem pl_117 : am_pl 117 1 := ⟨by decide, by decide +kernel, by decide +kernel, by decide +kernel, by decide +kernel, in_M⟩
theorem pl_118 : am_pl 118 3 := ⟨by decide, by decide +kernel, by decide +kernel, by decide +kernel, by decide +kernel, in_M⟩
theorem pl_119 : am_pl 119 1 := ⟨by decide, by decide +kernel, by decide +kernel, by decide +kernel, by decide +kernel, in_M⟩
theorem pl_120 : am_pl 120 2 := ⟨by decide, by decide +kernel, by decide +kernel, by decide +kernel, by decide +kernel, in_M⟩
theorem pl_121 : am_pl 121 3 := ⟨by decide, by decide +kernel, by decide +kernel, by decide +kernel, by decide +kernel, in_M⟩
theorem pl_122 : am_pl 122 2 := ⟨by decide, by decide +kernel, by decide +kernel, by decide +kernel, by decide +kernel, in_M⟩
theorem pl_123 : am_pl 123 2 := ⟨by decide, by decide +kernel, by decide +kernel, by decide +kernel, by decide +kernel, in_M⟩
theorem pl_124 : am_pl 124 1 := ⟨by decide, by decide +kernel, by decide +kernel, by decide +kernel, by decide +kernel, in_M⟩
theorem pl_125 : am_pl 125 5 := ⟨by decide, by decide +kernel, by decide +kernel, by decide +kernel, by decide +kernel, in_M⟩
theorem pl_126 : am_pl 126 3 := ⟨by decide, by decide +kernel, by decide +kernel, by decide +kernel, by decide +kernel, in_M⟩
theorem pl_127 : am_pl 127 1 := ⟨by decide, by decide +kernel, by decide +kernel, by decide +kernel, by decide +kernel, in_M⟩
theorem pl_128 : am_pl 128 2 := ⟨by decide, by decide +kernel, by decide +kernel, by decide +kernel, by decide +kernel, in_M⟩
theorem pl_129 : am_pl 129 1 := ⟨by decide, by decide +kernel, by decide +kernel, by decide +kernel, by decide +kernel, in_M⟩
theorem pl_130 : am_pl 130 3 := ⟨by decide, by decide +kernel, by decide +kernel, by decide +kernel, by decide +kernel, in_M⟩
theorem pl_131 : am_pl 131 1 := ⟨by decide, by decide +kernel, by decide +kernel, by decide +kernel, by decide +kernel, in_M⟩
theorem pl_132 : am_pl 132 1 := ⟨by decide, by decide +kernel, by decide +kernel, by decide +kernel, by decide +kernel, in_M⟩
theorem pl_133 : am_pl 133 1 := ⟨by decide, by decide +kernel, by decide +kernel, by decide +kernel, by decide +kernel, in_M⟩
theorem pl_134 : am_pl 134 2 := ⟨by decide, by decide +kernel, by decide +kernel, by decide +kernel, by decide +kernel, in_M⟩
theorem pl_135 : am_pl 135 1 := ⟨by decide, by decide +kernel, by decide +kernel, by decide +kernel, by decide +kernel, in_M⟩
theorem pl_136 : am_pl 136 1 := ⟨by decide, by decide +kernel, by decide +kernel, by decide +kernel, by decide +kernel, in_M⟩
theorem pl_137 : am_pl 137 1 := ⟨by decide, by decide +kernel, by decide +kernel, by decide +kernel, by decide +kernel, in_M⟩
theorem pl_138 : am_pl 138 1 := ⟨by decide, by decide +kernel, by decide +kernel, by decide +kernel, by decide +kernel, in_M⟩
theorem pl_139 : am_pl 139 1 := ⟨by decide, by decide +kernel, by decide +kernel, by decide +kernel, by decide +kernel, in_M⟩
theorem pl_140 : am_pl 140 1 := ⟨by decide, by decide +kernel, by decide +kernel, by decide +kernel, by decide +kernel, in_M⟩
theorem pl_141 : am_pl 141 3 := ⟨by decide, by decide +kernel, by decide +kernel, by decide +kernel, by decide +kernel, in_M⟩
theorem pl_142 : am_pl 142 2 := ⟨by decide, by decide +kernel, by decide +kernel, by decide +kernel, by decide +kernel, in_M⟩
theorem pl_143 : am_pl 143 1 := ⟨by decide, by decide +kernel, by decide +kernel, by decide +kernel, by decide +kernel, in_M⟩
theorem pl_144 : am_pl 144 0 := ⟨by decide, by decide +kernel, by decide +kernel, by decide +kernel, by decide +kernel, in_M⟩
theorem pl_145 : am_pl 145 2 := ⟨by decide, by decide +kernel, by decide +kernel, by decide +kernel, by decide +kernel, in_M⟩
theorem pl_146 : am_pl 146 3 := ⟨by decide, by decide +kernel, by decide +kernel, by decide +kernel, by decide +kernel, in_M⟩
theorem pl_147 : am_pl 147 2 := ⟨by decide, by decide +kernel, by decide +kernel, by decide +kernel, by decide +kernel, in_M⟩
theorem pl_148 : am_pl 148 2 := ⟨by decide, by decide +kernel, by decide +kernel, by decide +kernel, by decide +kernel, in_M⟩
theorem pl_149 : am_pl 149 1 := ⟨by decide, by decide +kernel, by decide +kernel, by decide +kernel, by decide +kernel, in_M⟩
theorem pl_150 : am_pl 150 2 := ⟨by decide, by decide +kernel, by decide +kernel, by decide +kernel, by decide +kernel, in_M⟩
theorem pl_151 : am_pl 151 1 := ⟨by decide, by decide +kernel, by decide +kernel, by decide +kernel, by decide +kernel, in_M⟩
theorem pl_152 : am_pl 152 1 := ⟨by decide, by decide +kernel, by decide +kernel, by decide +kernel, by decide +kernel, in_M⟩
theorem pl_153 : am_pl 153 1 := ⟨by decide, by decide +kernel, by decide +kernel, by decide +kernel, by decide +kernel, in_M⟩
theorem pl_154 : am_pl 154 2 := ⟨by decide, by decide +kernel, by decide +kernel, by decide +kernel, by decide +kernel, in_M⟩
theorem pl_155 : am_pl 155 1 := ⟨by decide, by decide +kernel, by decide +kernel, by decide +kernel, by decide +kernel, in_M⟩
theorem pl_156 : am_pl 156 2 := ⟨by decide, by decide +kernel, by decide +kernel, by decide +kernel, by decide +kernel, in_M⟩
theorem pl_157 : am_pl 157 1 := ⟨by decide, by decide +kernel, by decide +kernel, by decide +kernel, by decide +kernel, in_M⟩
theorem pl_158 : am_pl 158 2 := ⟨by decide, by decide +kernel, by decide +kernel, by decide +kernel, by decide +kernel, in_M⟩
theorem pl_159 : am_pl 159 0 := ⟨by decide, by decide +kernel, by decide +kernel, by decide +kernel, by decide +kernel, in_M⟩
theorem pl_160 : am_pl 160 2 := ⟨by decide, by decide +kernel, by decide +kernel, by decide +kernel, by decide +kernel, in_M⟩
theorem pl_161 : am_pl 161 0 := ⟨by decide, by decide +kernel, by decide +kernel, by decide +kernel, by decide +kernel, in_M⟩
theorem pl_162 : am_pl 162 1 := ⟨by decide, by decide +kernel, by decide +kernel, by decide +kernel, by decide +kernel, in_M⟩
theorem pl_163 : am_pl 163 1 := ⟨by decide, by decide +kernel, by decide +kernel, by decide +kernel, by decide +kernel, in_M⟩
theorem pl_164 : am_pl 164 1 := ⟨by decide, by decide +kernel, by decide +kernel, by decide +kernel, by decide +kernel, in_M⟩
theorem pl_165 : am_pl 165 1 := ⟨by decide, by decide +kernel, by decide +kernel, by decide +kernel, by decide +kernel, in_M⟩
theorem pl_166 : am_pl 166 1 := ⟨by decide, by decide +kernel, by decide +kernel, by decide +kernel, by decide +kernel, in_M⟩
theorem pl_167 : am_pl 167 1 := ⟨by decide, by decide +kernel, by decide +kernel, by decide +kernel, by decide +kernel, in_M⟩
theorem pl_168 : am_pl 168 0 := ⟨by decide, by decide +kernel, by decide +kernel, by decide +kernel, by decide +kernel, in_M⟩
theorem pl_169 : am_pl 169 2 := ⟨by decide, by decide +kernel, by decide +kernel, by decide +kernel, by decide +kernel, in_M⟩
theorem pl_170 : am_pl 170 1 := ⟨by decide, by decide +kernel, by decide +kernel, by decide +kernel, by decide +kernel, in_M⟩
theorem pl_171 : am_pl 171 0 := ⟨by decide, by decide +kernel, by decide +kernel, by decide +kernel, by decide +kernel, in_M⟩
theorem pl_172 : am_pl 172 0 := ⟨by decide, by decide +kernel, by decide +kernel, by decide +kernel, by decide +kernel, in_M⟩
theorem pl_173 : am_pl 173 1 := ⟨by decide, by decide +kernel, by decide +kernel, by decide +kernel, by decide +kernel, in_M⟩
theorem pl_174 : am_pl 174 3 := ⟨by decide, by decide +kernel, by decide +kernel, by decide +kernel, by decide +kernel, in_M⟩
theorem pl_175 : am_pl 175 2 := ⟨by decide, by decide +kernel, by decide +kernel, by decide +kernel, by decide +kernel, in_M⟩
theorem pl_176 : am_pl 176 0 := ⟨by decide, by decide +kernel, by decide +kernel, by decide +kernel, by decide +kernel, in_M⟩
theorem pl_177 : am_pl 177 1 := ⟨by decide, by decide +kernel, by decide +kernel, by decide +kernel, by decide +kernel, in_M⟩
theorem pl_178 : am_pl 178 2 := ⟨by decide, by decide +kernel, by decide +kernel, by decide +kernel, by decide +kernel, in_M⟩
theorem pl_179 : am_pl 179 2 := ⟨by decide, by decide +kernel, by decide +kernel, by decide +kernel, by decide +kernel, in_M⟩
theorem pl_180 : am_pl 180 3 := ⟨by decide, by decide +kernel, by decide +kernel, by decide +kernel, by decide +kernel, in_M⟩
theorem pl_181 : am_pl 181 2 := ⟨by decide, by decide +kernel, by decide +kernel, by decide +kernel, by decide +kernel, in_M⟩
theorem pl_182 : am_pl 182 1 := ⟨by decide, by decide +kernel, by decide +kernel, by decide +kernel, by decide +kernel, in_M⟩
theorem pl_183 : am_pl 183 0 := ⟨by decide, by decide +kernel, by decide +kernel, by decide +kernel, by decide +kernel, in_M⟩
theorem pl_184 : am_pl 184 2 := ⟨by decide, by decide +kernel, by decide +kernel, by decide +kernel, by decide +kernel, in_M⟩
theorem pl_185 : am_pl 185 1 := ⟨by decide, by decide +kernel, by decide +kernel, by decide +kernel, by decide +kernel, in_M⟩
theorem pl_186 : am_pl 186 1 := ⟨by decide, by decide +kernel, by decide +kernel, by decide +kernel, by decide +kernel, in_M⟩
theorem pl_187 : am_pl 187 2 := ⟨by decide, by decide +kernel, by decide +kernel, by decide +kernel, by decide +kernel, in_M⟩
theorem pl_188 : am_pl 188 0 := ⟨by decide, by decide +kernel, by decide +kernel, by decide +kernel, by decide +kernel, in_M⟩
theorem pl_189 : am_pl 189 1 := ⟨by decide, by decide +kernel, by decide +kernel, by decide +kernel, by decide +kernel, in_M⟩
theorem pl_190 : am_pl 190 2 := ⟨by decide, by decide +kernel, by decide +kernel, by decide +kernel, by decide +kernel, in_M⟩
theorem pl_191 : am_pl 191 2 := ⟨by decide, by decide +kernel, by decide +kernel, by decide +kernel, by decide +kernel, in_M⟩
theorem pl_192 : am_pl 192 2 := ⟨by decide, by decide +kernel, by decide +kernel, by decide +kernel, by decide +kernel, in_M⟩
theorem pl_193 : am_pl 193 0 := ⟨by decide, by decide +kernel, by decide +kernel, by decide +kernel, by decide +kernel, in_M⟩
theorem pl_194 : am_pl 194 0 := ⟨by decide, by decide +kernel, by decide +kernel, by decide +kernel, by decide +kernel, in_M⟩
theorem pl_195 : am_pl 195 0 := ⟨by decide, by decide +kernel, by decide +kernel, by decide +kernel, by decide +kernel, in_M⟩
theorem pl_196 : am_pl 196 1 := ⟨by decide, by decide +kernel, by decide +kernel, by decide +kernel, by decide +kernel, in_M⟩
theorem pl_197 : am_pl 197 0 := ⟨by decide, by decide +kernel, by decide +kernel, by decide +kernel, by decide +kernel, in_M⟩
theorem pl_198 : am_pl 198 2 := ⟨by decide, by decide +kernel, by decide +kernel, by decide +kernel, by decide +kernel, in_M⟩
theorem pl_199 : am_pl 199 0 := ⟨by decide, by decide +kernel, by decide +kernel, by decide +kernel, by decide +kernel, in_M⟩
theorem pl_200 : am_pl 200 1 := ⟨by decide, by decide +kernel, by decide +kernel, by decide +kernel, by decide +kernel, in_M⟩
theorem pl_201 : am_pl 201 0 := ⟨by decide, by decide +kernel, by decide +kernel, by decide +kernel, by decide +kernel, in_M⟩
theorem pl_202 : am_pl 202 1 := ⟨by decide, by decide +kernel, by decide +kernel, by decide +kernel, by decide +kernel, in_M⟩

/-! facts for the block equations: decoded instructions, links, fields, constants (printed by wip/gen) -/
theorem zo2 {c : ByteArray} {p n : Nat} {i j : Instr} (h : decode c p = .ok (i, n)) (e : i = j) : decode c p = .ok (j, n) := e ▸ h
theorem zite {α : Type} {c : Prop} [Decidable c] {A B C : α} (h1 : c → A = B) (h2 : ¬ c → A = C) : A = if c then B else C := by
  by_cases h : c
  · rw [if_pos h]; exact h1 h
  · rw [if_neg h]; exact h2 h
def isH (a : Nat) : Prop := zcl 140 a = (2, 9) ∧ (zlk zPH.2 a 0 = a + 1 ∧ zlk zPH.2 a 1 = a + 2 ∧ zlk zPH.2 a 2 = a + 3 ∧ zlk zPH.2 a 3 = a + 4 ∧ zlk zPH.2 a 4 = a + 5) ∧ (zcl 140 (a + 1) = (0, 6) ∧ zcl 140 (a + 2) = (0, 6) ∧ zcl 140 (a + 3) = (0, 6) ∧ zcl 140 (a + 4) = (0, 6) ∧ zcl 140 (a + 5) = (0, 6))
theorem isH.c {a : Nat} (H : isH a) : zcl 140 a = (2, 9) := H.1
theorem isH.r0 {a : Nat} (H : isH a) : zlk zPH.2 a 0 = a + 1 := H.2.1.1
theorem isH.r1 {a : Nat} (H : isH a) : zlk zPH.2 a 1 = a + 2 := H.2.1.2.1
theorem isH.r2 {a : Nat} (H : isH a) : zlk zPH.2 a 2 = a + 3 := H.2.1.2.2.1
theorem isH.r3 {a : Nat} (H : isH a) : zlk zPH.2 a 3 = a + 4 := H.2.1.2.2.2.1
theorem isH.r4 {a : Nat} (H : isH a) : zlk zPH.2 a 4 = a + 5 := H.2.1.2.2.2.2
theorem isH.k0 {a : Nat} (H : isH a) : zcl 140 (a + 1) = (0, 6) := H.2.2.1
theorem isH.k1 {a : Nat} (H : isH a) : zcl 140 (a + 2) = (0, 6) := H.2.2.2.1
theorem isH.k2 {a : Nat} (H : isH a) : zcl 140 (a + 3) = (0, 6) := H.2.2.2.2.1
theorem isH.k3 {a : Nat} (H : isH a) : zcl 140 (a + 4) = (0, 6) := H.2.2.2.2.2.1
theorem isH.k4 {a : Nat} (H : isH a) : zcl 140 (a + 5) = (0, 6) := H.2.2.2.2.2.2
def zHills : List Nat := [2, 8, 15, 23, 29, 35, 41, 47, 53, 59, 65, 75, 81, 87, 93, 99, 105, 111, 117]
theorem isH_ok : ∀ a ∈ zHills, isH a := by unfold isH; decide +kernel
theorem hH_2 : isH 2 := isH_ok 2 (by decide)
theorem hH_8 : isH 8 := isH_ok 8 (by decide)
theorem hH_15 : isH 15 := isH_ok 15 (by decide)
theorem hH_23 : isH 23 := isH_ok 23 (by decide)
theorem hH_29 : isH 29 := isH_ok 29 (by decide)
theorem hH_35 : isH 35 := isH_ok 35 (by decide)
theorem hH_41 : isH 41 := isH_ok 41 (by decide)
theorem hH_47 : isH 47 := isH_ok 47 (by decide)
theorem hH_53 : isH 53 := isH_ok 53 (by decide)
theorem hH_59 : isH 59 := isH_ok 59 (by decide)
theorem hH_65 : isH 65 := isH_ok 65 (by decide)
theorem hH_75 : isH 75 := isH_ok 75 (by decide)
theorem hH_81 : isH 81 := isH_ok 81 (by decide)
theorem hH_87 : isH 87 := isH_ok 87 (by decide)
theorem hH_93 : isH 93 := isH_ok 93 (by decide)
theorem hH_99 : isH 99 := isH_ok 99 (by decide)
theorem hH_105 : isH 105 := isH_ok 105 (by decide)
theorem hH_111 : isH 111 := isH_ok 111 (by decide)
theorem hH_117 : isH 117 := isH_ok 117 (by decide)
theorem zc_1 : zcl 140 1 = (5, 10) := by decide +kernel
theorem zc_2 : zcl 140 2 = (2, 9) := by decide +kernel
theorem zc_3 : zcl 140 3 = (0, 6) := by decide +kernel
theorem zc_4 : zcl 140 4 = (0, 6) := by decide +kernel
theorem zc_5 : zcl 140 5 = (0, 6) := by decide +kernel
theorem zc_6 : zcl 140 6 = (0, 6) := by decide +kernel
theorem zc_7 : zcl 140 7 = (0, 6) := by decide +kernel
theorem zc_8 : zcl 140 8 = (2, 9) := by decide +kernel
theorem zc_9 : zcl 140 9 = (0, 6) := by decide +kernel
theorem zc_10 : zcl 140 10 = (0, 6) := by decide +kernel
theorem zc_11 : zcl 140 11 = (0, 6) := by decide +kernel
theorem zc_12 : zcl 140 12 = (0, 6) := by decide +kernel
theorem zc_13 : zcl 140 13 = (0, 6) := by decide +kernel
theorem zc_14 : zcl 140 14 = (1, 8) := by decide +kernel
theorem zc_15 : zcl 140 15 = (2, 9) := by decide +kernel
theorem zc_16 : zcl 140 16 = (0, 6) := by decide +kernel
theorem zc_17 : zcl 140 17 = (0, 6) := by decide +kernel
theorem zc_18 : zcl 140 18 = (0, 6) := by decide +kernel
theorem zc_19 : zcl 140 19 = (0, 6) := by decide +kernel
theorem zc_20 : zcl 140 20 = (0, 6) := by decide +kernel
theorem zc_21 : zcl 140 21 = (3, 3) := by decide +kernel
theorem zc_22 : zcl 140 22 = (1, 8) := by decide +kernel
theorem zc_23 : zcl 140 23 = (2, 9) := by decide +kernel
theorem zc_24 : zcl 140 24 = (0, 6) := by decide +kernel
theorem zc_25 : zcl 140 25 = (0, 6) := by decide +kernel
theorem zc_26 : zcl 140 26 = (0, 6) := by decide +kernel
theorem zc_27 : zcl 140 27 = (0, 6) := by decide +kernel
theorem zc_28 : zcl 140 28 = (0, 6) := by decide +kernel
theorem zc_29 : zcl 140 29 = (2, 9) := by decide +kernel
theorem zc_30 : zcl 140 30 = (0, 6) := by decide +kernel
theorem zc_31 : zcl 140 31 = (0, 6) := by decide +kernel
theorem zc_32 : zcl 140 32 = (0, 6) := by decide +kernel
theorem zc_33 : zcl 140 33 = (0, 6) := by decide +kernel
theorem zc_34 : zcl 140 34 = (0, 6) := by decide +kernel
theorem zc_35 : zcl 140 35 = (2, 9) := by decide +kernel
theorem zc_36 : zcl 140 36 = (0, 6) := by decide +kernel
theorem zc_37 : zcl 140 37 = (0, 6) := by decide +kernel
theorem zc_38 : zcl 140 38 = (0, 6) := by decide +kernel
theorem zc_39 : zcl 140 39 = (0, 6) := by decide +kernel
theorem zc_40 : zcl 140 40 = (0, 6) := by decide +kernel
theorem zc_41 : zcl 140 41 = (2, 9) := by decide +kernel
theorem zc_42 : zcl 140 42 = (0, 6) := by decide +kernel
theorem zc_43 : zcl 140 43 = (0, 6) := by decide +kernel
theorem zc_44 : zcl 140 44 = (0, 6) := by decide +kernel
theorem zc_45 : zcl 140 45 = (0, 6) := by decide +kernel
theorem zc_46 : zcl 140 46 = (0, 6) := by decide +kernel
theorem zc_47 : zcl 140 47 = (2, 9) := by decide +kernel
theorem zc_48 : zcl 140 48 = (0, 6) := by decide +kernel
theorem zc_49 : zcl 140 49 = (0, 6) := by decide +kernel
theorem zc_50 : zcl 140 50 = (0, 6) := by decide +kernel
theorem zc_51 : zcl 140 51 = (0, 6) := by decide +kernel
theorem zc_52 : zcl 140 52 = (0, 6) := by decide +kernel
theorem zc_53 : zcl 140 53 = (2, 9) := by decide +kernel
theorem zc_54 : zcl 140 54 = (0, 6) := by decide +kernel
theorem zc_55 : zcl 140 55 = (0, 6) := by decide +kernel
theorem zc_56 : zcl 140 56 = (0, 6) := by decide +kernel
theorem zc_57 : zcl 140 57 = (0, 6) := by decide +kernel
theorem zc_58 : zcl 140 58 = (0, 6) := by decide +kernel
theorem zc_59 : zcl 140 59 = (2, 9) := by decide +kernel
theorem zc_60 : zcl 140 60 = (0, 6) := by decide +kernel
theorem zc_61 : zcl 140 61 = (0, 6) := by decide +kernel
theorem zc_62 : zcl 140 62 = (0, 6) := by decide +kernel
theorem zc_63 : zcl 140 63 = (0, 6) := by decide +kernel
theorem zc_64 : zcl 140 64 = (0, 6) := by decide +kernel
theorem zc_65 : zcl 140 65 = (2, 9) := by decide +kernel
theorem zc_66 : zcl 140 66 = (0, 6) := by decide +kernel
theorem zc_67 : zcl 140 67 = (0, 6) := by decide +kernel
theorem zc_68 : zcl 140 68 = (0, 6) := by decide +kernel
theorem zc_69 : zcl 140 69 = (0, 6) := by decide +kernel
theorem zc_70 : zcl 140 70 = (0, 6) := by decide +kernel
theorem zc_71 : zcl 140 71 = (4, 2) := by decide +kernel
theorem zc_72 : zcl 140 72 = (0, 96) := by decide +kernel
theorem zc_73 : zcl 140 73 = (0, 12) := by decide +kernel
theorem zc_74 : zcl 140 74 = (0, 7) := by decide +kernel
theorem zc_75 : zcl 140 75 = (2, 9) := by decide +kernel
theorem zc_76 : zcl 140 76 = (0, 6) := by decide +kernel
theorem zc_77 : zcl 140 77 = (0, 6) := by decide +kernel
theorem zc_78 : zcl 140 78 = (0, 6) := by decide +kernel
theorem zc_79 : zcl 140 79 = (0, 6) := by decide +kernel
theorem zc_80 : zcl 140 80 = (0, 6) := by decide +kernel
theorem zc_81 : zcl 140 81 = (2, 9) := by decide +kernel
theorem zc_82 : zcl 140 82 = (0, 6) := by decide +kernel
theorem zc_83 : zcl 140 83 = (0, 6) := by decide +kernel
theorem zc_84 : zcl 140 84 = (0, 6) := by decide +kernel
theorem zc_85 : zcl 140 85 = (0, 6) := by decide +kernel
theorem zc_86 : zcl 140 86 = (0, 6) := by decide +kernel
theorem zc_87 : zcl 140 87 = (2, 9) := by decide +kernel
theorem zc_88 : zcl 140 88 = (0, 6) := by decide +kernel
theorem zc_89 : zcl 140 89 = (0, 6) := by decide +kernel
theorem zc_90 : zcl 140 90 = (0, 6) := by decide +kernel
theorem zc_91 : zcl 140 91 = (0, 6) := by decide +kernel
theorem zc_92 : zcl 140 92 = (0, 6) := by decide +kernel
theorem zc_93 : zcl 140 93 = (2, 9) := by decide +kernel
theorem zc_94 : zcl 140 94 = (0, 6) := by decide +kernel
theorem zc_95 : zcl 140 95 = (0, 6) := by decide +kernel
theorem zc_96 : zcl 140 96 = (0, 6) := by decide +kernel
theorem zc_97 : zcl 140 97 = (0, 6) := by decide +kernel
theorem zc_98 : zcl 140 98 = (0, 6) := by decide +kernel
theorem zc_99 : zcl 140 99 = (2, 9) := by decide +kernel
theorem zc_100 : zcl 140 100 = (0, 6) := by decide +kernel
theorem zc_101 : zcl 140 101 = (0, 6) := by decide +kernel
theorem zc_102 : zcl 140 102 = (0, 6) := by decide +kernel
theorem zc_103 : zcl 140 103 = (0, 6) := by decide +kernel
theorem zc_104 : zcl 140 104 = (0, 6) := by decide +kernel
theorem zc_105 : zcl 140 105 = (2, 9) := by decide +kernel
theorem zc_106 : zcl 140 106 = (0, 6) := by decide +kernel
theorem zc_107 : zcl 140 107 = (0, 6) := by decide +kernel
theorem zc_108 : zcl 140 108 = (0, 6) := by decide +kernel
theorem zc_109 : zcl 140 109 = (0, 6) := by decide +kernel
theorem zc_110 : zcl 140 110 = (0, 6) := by decide +kernel
theorem zc_111 : zcl 140 111 = (2, 9) := by decide +kernel
theorem zc_112 : zcl 140 112 = (0, 6) := by decide +kernel
theorem zc_113 : zcl 140 113 = (0, 6) := by decide +kernel
theorem zc_114 : zcl 140 114 = (0, 6) := by decide +kernel
theorem zc_115 : zcl 140 115 = (0, 6) := by decide +kernel
theorem zc_116 : zcl 140 116 = (0, 6) := by decide +kernel
theorem zc_117 : zcl 140 117 = (2, 9) := by decide +kernel
theorem zc_118 : zcl 140 118 = (0, 6) := by decide +kernel
theorem zc_119 : zcl 140 119 = (0, 6) := by decide +kernel
theorem zc_120 : zcl 140 120 = (0, 6) := by decide +kernel
theorem zc_121 : zcl 140 121 = (0, 6) := by decide +kernel
theorem zc_122 : zcl 140 122 = (0, 6) := by decide +kernel
theorem zc_123 : zcl 140 123 = (6, 35) := by decide +kernel
theorem zc_124 : zcl 140 124 = (0, 7) := by decide +kernel
theorem zc_125 : zcl 140 125 = (0, 7) := by decide +kernel
theorem zc_126 : zcl 140 126 = (0, 7) := by decide +kernel
theorem zc_127 : zcl 140 127 = (0, 7) := by decide +kernel
theorem zc_128 : zcl 140 128 = (0, 7) := by decide +kernel
theorem zc_129 : zcl 140 129 = (0, 7) := by decide +kernel
theorem zc_130 : zcl 140 130 = (0, 96) := by decide +kernel
theorem zc_131 : zcl 140 131 = (0, 49) := by decide +kernel
theorem zc_132 : zcl 140 132 = (0, 49) := by decide +kernel
theorem zc_133 : zcl 140 133 = (0, 196) := by decide +kernel
theorem zc_134 : zcl 140 134 = (0, 37) := by decide +kernel
theorem zc_135 : zcl 140 135 = (0, 37) := by decide +kernel
theorem zc_136 : zcl 140 136 = (0, 296) := by decide +kernel
theorem zc_137 : zcl 140 137 = (0, 37) := by decide +kernel
theorem zc_138 : zcl 140 138 = (0, 7) := by decide +kernel
theorem zc_139 : zcl 140 139 = (0, 12) := by decide +kernel
theorem zc_140 : zcl 140 140 = (0, 20) := by decide +kernel
theorem zr_1_0 : zlk zPH.2 1 0 = 2 := by decide +kernel
theorem zr_1_1 : zlk zPH.2 1 1 = 8 := by decide +kernel
theorem zr_1_2 : zlk zPH.2 1 2 = 14 := by decide +kernel
theorem zr_1_3 : zlk zPH.2 1 3 = 15 := by decide +kernel
theorem zr_1_5 : zlk zPH.2 1 5 = 21 := by decide +kernel
theorem zr_1_6 : zlk zPH.2 1 6 = 71 := by decide +kernel
theorem zr_1_7 : zlk zPH.2 1 7 = 73 := by decide +kernel
theorem zr_1_9 : zlk zPH.2 1 9 = 74 := by decide +kernel
theorem zr_14_0 : zlk zPH.2 14 0 = 75 := by decide +kernel
theorem zr_14_1 : zlk zPH.2 14 1 = 81 := by decide +kernel
theorem zr_14_2 : zlk zPH.2 14 2 = 87 := by decide +kernel
theorem zr_14_3 : zlk zPH.2 14 3 = 93 := by decide +kernel
theorem zr_14_4 : zlk zPH.2 14 4 = 99 := by decide +kernel
theorem zr_14_5 : zlk zPH.2 14 5 = 105 := by decide +kernel
theorem zr_14_6 : zlk zPH.2 14 6 = 111 := by decide +kernel
theorem zr_14_7 : zlk zPH.2 14 7 = 117 := by decide +kernel
theorem zr_21_0 : zlk zPH.2 21 0 = 22 := by decide +kernel
theorem zr_22_0 : zlk zPH.2 22 0 = 23 := by decide +kernel
theorem zr_22_1 : zlk zPH.2 22 1 = 29 := by decide +kernel
theorem zr_22_2 : zlk zPH.2 22 2 = 35 := by decide +kernel
theorem zr_22_3 : zlk zPH.2 22 3 = 41 := by decide +kernel
theorem zr_22_4 : zlk zPH.2 22 4 = 47 := by decide +kernel
theorem zr_22_5 : zlk zPH.2 22 5 = 53 := by decide +kernel
theorem zr_22_6 : zlk zPH.2 22 6 = 59 := by decide +kernel
theorem zr_22_7 : zlk zPH.2 22 7 = 65 := by decide +kernel
theorem zr_71_0 : zlk zPH.2 71 0 = 72 := by decide +kernel
theorem zr_123_1 : zlk zPH.2 123 1 = 124 := by decide +kernel
theorem zr_123_2 : zlk zPH.2 123 2 = 125 := by decide +kernel
theorem zr_123_3 : zlk zPH.2 123 3 = 126 := by decide +kernel
theorem zr_123_4 : zlk zPH.2 123 4 = 127 := by decide +kernel
theorem zr_123_5 : zlk zPH.2 123 5 = 128 := by decide +kernel
theorem zr_123_8 : zlk zPH.2 123 8 = 129 := by decide +kernel
theorem zr_123_11 : zlk zPH.2 123 11 = 130 := by decide +kernel
theorem zr_123_16 : zlk zPH.2 123 16 = 131 := by decide +kernel
theorem zr_123_17 : zlk zPH.2 123 17 = 132 := by decide +kernel
theorem zr_123_18 : zlk zPH.2 123 18 = 133 := by decide +kernel
theorem zr_123_19 : zlk zPH.2 123 19 = 134 := by decide +kernel
theorem zr_123_20 : zlk zPH.2 123 20 = 135 := by decide +kernel
theorem zr_123_25 : zlk zPH.2 123 25 = 136 := by decide +kernel
theorem zr_123_26 : zlk zPH.2 123 26 = 137 := by decide +kernel
theorem zr_123_28 : zlk zPH.2 123 28 = 138 := by decide +kernel
theorem zr_123_31 : zlk zPH.2 123 31 = 139 := by decide +kernel
theorem zr_123_33 : zlk zPH.2 123 33 = 140 := by decide +kernel
theorem f_0_9 : zfd 0 9 = (0, 0, 2) := by decide +kernel
theorem f_0_15 : zfd 0 15 = (0, 1, 2) := by decide +kernel
theorem f_0_18 : zfd 0 18 = (0, 2, 2) := by decide +kernel
theorem f_0_21 : zfd 0 21 = (0, 3, 2) := by decide +kernel
theorem f_0_24 : zfd 0 24 = (0, 4, 2) := by decide +kernel
theorem f_0_27 : zfd 0 27 = (0, 5, 0) := by decide +kernel
theorem f_0_31 : zfd 0 31 = (0, 6, 0) := by decide +kernel
theorem f_0_34 : zfd 0 34 = (0, 7, 0) := by decide +kernel
theorem f_0_37 : zfd 0 37 = (0, 8, 0) := by decide +kernel
theorem f_1_11 : zfd 1 11 = (1, 0, 2) := by decide +kernel
theorem f_1_17 : zfd 1 17 = (1, 1, 0) := by decide +kernel
theorem f_1_21 : zfd 1 21 = (1, 2, 0) := by decide +kernel
theorem f_2_9 : zfd 2 9 = (2, 0, 2) := by decide +kernel
theorem f_2_15 : zfd 2 15 = (2, 1, 0) := by decide +kernel
theorem f_2_67 : zfd 2 67 = (0, 5, 0) := by decide +kernel
theorem f_3_10 : zfd 3 10 = (3, 0, 2) := by decide +kernel
theorem f_3_16 : zfd 3 16 = (3, 1, 2) := by decide +kernel
theorem f_3_19 : zfd 3 19 = (3, 2, 2) := by decide +kernel
theorem f_3_23 : zfd 3 23 = (3, 3, 2) := by decide +kernel
theorem f_3_26 : zfd 3 26 = (3, 4, 1) := by decide +kernel
theorem f_3_33 : zfd 3 33 = (3, 5, 2) := by decide +kernel
theorem f_3_40 : zfd 3 40 = (3, 6, 2) := by decide +kernel
theorem f_3_44 : zfd 3 44 = (3, 7, 2) := by decide +kernel
theorem f_3_48 : zfd 3 48 = (3, 8, 0) := by decide +kernel
theorem f_3_52 : zfd 3 52 = (3, 9, 2) := by decide +kernel
theorem f_3_59 : zfd 3 59 = (2, 1, 0) := by decide +kernel
theorem f_3_112 : zfd 3 112 = (0, 5, 0) := by decide +kernel
theorem f_3_146 : zfd 3 146 = (1, 1, 0) := by decide +kernel
theorem f_3_174 : zfd 3 174 = (0, 8, 0) := by decide +kernel
theorem f_3_245 : zfd 3 245 = (0, 7, 0) := by decide +kernel
theorem f_3_266 : zfd 3 266 = (0, 6, 0) := by decide +kernel
theorem f_4_7 : zfd 4 7 = (4, 1, 2) := by decide +kernel
theorem f_4_13 : zfd 4 13 = (4, 2, 2) := by decide +kernel
theorem f_4_16 : zfd 4 16 = (4, 3, 2) := by decide +kernel
theorem f_4_19 : zfd 4 19 = (4, 4, 2) := by decide +kernel
theorem f_4_22 : zfd 4 22 = (4, 5, 2) := by decide +kernel
theorem f_4_25 : zfd 4 25 = (4, 8, 2) := by decide +kernel
theorem f_4_28 : zfd 4 28 = (4, 11, 2) := by decide +kernel
theorem f_4_31 : zfd 4 31 = (4, 16, 2) := by decide +kernel
theorem f_4_34 : zfd 4 34 = (4, 17, 2) := by decide +kernel
theorem f_4_37 : zfd 4 37 = (4, 18, 2) := by decide +kernel
theorem f_4_40 : zfd 4 40 = (4, 19, 2) := by decide +kernel
theorem f_4_43 : zfd 4 43 = (4, 20, 2) := by decide +kernel
theorem f_4_46 : zfd 4 46 = (4, 25, 2) := by decide +kernel
theorem f_4_49 : zfd 4 49 = (4, 26, 2) := by decide +kernel
theorem f_4_52 : zfd 4 52 = (4, 28, 2) := by decide +kernel
theorem f_4_55 : zfd 4 55 = (4, 31, 2) := by decide +kernel
theorem f_4_58 : zfd 4 58 = (4, 33, 2) := by decide +kernel
theorem f_4_61 : zfd 4 61 = (4, 7, 0) := by decide +kernel
theorem f_4_65 : zfd 4 65 = (4, 0, 0) := by decide +kernel
theorem f_4_100 : zfd 4 100 = (4, 9, 0) := by decide +kernel
theorem f_4_107 : zfd 4 107 = (4, 6, 0) := by decide +kernel
theorem f_4_110 : zfd 4 110 = (4, 10, 0) := by decide +kernel
theorem f_4_126 : zfd 4 126 = (4, 12, 0) := by decide +kernel
theorem f_4_129 : zfd 4 129 = (4, 13, 0) := by decide +kernel
theorem f_4_132 : zfd 4 132 = (4, 14, 1) := by decide +kernel
theorem f_4_147 : zfd 4 147 = (4, 15, 0) := by decide +kernel
theorem f_4_177 : zfd 4 177 = (4, 27, 0) := by decide +kernel
theorem f_4_180 : zfd 4 180 = (4, 23, 1) := by decide +kernel
theorem f_4_183 : zfd 4 183 = (4, 24, 3) := by decide +kernel
theorem f_4_186 : zfd 4 186 = (4, 22, 0) := by decide +kernel
theorem f_4_196 : zfd 4 196 = (4, 21, 1) := by decide +kernel
theorem f_4_225 : zfd 4 225 = (4, 30, 0) := by decide +kernel
theorem f_4_228 : zfd 4 228 = (4, 29, 0) := by decide +kernel
theorem f_4_237 : zfd 4 237 = (4, 32, 0) := by decide +kernel
theorem f_4_266 : zfd 4 266 = (4, 34, 0) := by decide +kernel
set_option maxRecDepth 100000 in
theorem l_0_40 : zco0 zmtT 0 40 = some (3, m_X_at) := rfl
theorem nb_0_40 : zco0 zbiT 0 40 = none := by decide +kernel
set_option maxRecDepth 100000 in
theorem l_0_44 : zco0 zmtT 0 44 = some (3, m_X_put) := rfl
theorem nb_0_44 : zco0 zbiT 0 44 = none := by decide +kernel
set_option maxRecDepth 100000 in
theorem l_0_48 : zco0 zmtT 0 48 = some (3, m_X_bitOf) := rfl
theorem nb_0_48 : zco0 zbiT 0 48 = none := by decide +kernel
set_option maxRecDepth 100000 in
theorem l_0_52 : zco0 zmtT 0 52 = some (3, m_X_reach) := rfl
theorem nb_0_52 : zco0 zbiT 0 52 = none := by decide +kernel
set_option maxRecDepth 100000 in
theorem l_0_56 : zco0 zmtT 0 56 = some (3, m_X_depth) := rfl
theorem nb_0_56 : zco0 zbiT 0 56 = none := by decide +kernel
set_option maxRecDepth 100000 in
theorem l_0_59 : zco0 zmtT 0 59 = some (0, m_H_whoIsAt) := rfl
set_option maxRecDepth 100000 in
theorem l_0_62 : zco0 zmtT 0 62 = some (3, m_X_rowOf) := rfl
theorem nb_0_62 : zco0 zbiT 0 62 = none := by decide +kernel
set_option maxRecDepth 100000 in
theorem l_0_70 : zco0 zmtT 0 70 = some (3, m_X_columnOf) := rfl
theorem nb_0_70 : zco0 zbiT 0 70 = none := by decide +kernel
set_option maxRecDepth 100000 in
theorem l_0_73 : zco0 zmtT 0 73 = some (3, m_X_cellBeside) := rfl
theorem nb_0_73 : zco0 zbiT 0 73 = none := by decide +kernel
set_option maxRecDepth 100000 in
theorem l_0_76 : zco0 zmtT 0 76 = some (0, m_H_isFree) := rfl
set_option maxRecDepth 100000 in
theorem l_0_80 : zco0 zmtT 0 80 = some (0, m_H_reachOf) := rfl
set_option maxRecDepth 100000 in
theorem l_0_83 : zco0 zmtT 0 83 = some (0, m_H_nextTo) := rfl
set_option maxRecDepth 100000 in
theorem l_0_87 : zco0 zmtT 0 87 = some (3, m_X_turned) := rfl
theorem nb_0_87 : zco0 zbiT 0 87 = none := by decide +kernel
set_option maxRecDepth 100000 in
theorem l_0_90 : zco0 zmtT 0 90 = some (0, m_H_depthOf) := rfl
set_option maxRecDepth 100000 in
theorem l_0_93 : zco0 zmtT 0 93 = some (0, m_H_ahead) := rfl
set_option maxRecDepth 100000 in
theorem l_0_96 : zco0 zmtT 0 96 = some (0, m_H_inLens) := rfl
set_option maxRecDepth 100000 in
theorem l_0_99 : zco0 zmtT 0 99 = some (0, m_H_nightWithout) := rfl
set_option maxRecDepth 100000 in
theorem l_0_106 : zco0 zmtT 0 106 = some (0, m_H_stirs) := rfl
set_option maxRecDepth 100000 in
theorem l_0_110 : zco0 zmtT 0 110 = some (0, m_H_turnsBy) := rfl
set_option maxRecDepth 100000 in
theorem l_0_113 : zco0 zmtT 0 113 = some (0, m_H_stepsTo) := rfl
set_option maxRecDepth 100000 in
theorem l_1_24 : zco0 zmtT 1 24 = some (5, m_H_init) := rfl
set_option maxRecDepth 100000 in
theorem l_1_25 : zco0 zmtT 1 25 = some (0, m_P_placeAt) := rfl
set_option maxRecDepth 100000 in
theorem l_1_29 : zco0 zmtT 1 29 = some (1, m_H_become) := rfl
set_option maxRecDepth 100000 in
theorem l_2_19 : zco0 zmtT 2 19 = some (3, m_X_put) := rfl
theorem nb_2_19 : zco0 zbiT 2 19 = none := by decide +kernel
set_option maxRecDepth 100000 in
theorem l_2_23 : zco0 zmtT 2 23 = some (3, m_X_at) := rfl
theorem nb_2_23 : zco0 zbiT 2 23 = none := by decide +kernel
set_option maxRecDepth 100000 in
theorem l_2_27 : zco0 zmtT 2 27 = some (2, m_T_digitsBehind) := rfl
theorem nb_2_27 : zco0 zbiT 2 27 = none := by decide +kernel
set_option maxRecDepth 100000 in
theorem l_2_31 : zco0 zmtT 2 31 = some (0, m_T_digit) := rfl
set_option maxRecDepth 100000 in
theorem l_2_34 : zco0 zmtT 2 34 = some (0, m_T_number) := rfl
set_option maxRecDepth 100000 in
theorem l_2_37 : zco0 zmtT 2 37 = some (2, m_T_joins) := rfl
theorem nb_2_37 : zco0 zbiT 2 37 = none := by decide +kernel
set_option maxRecDepth 100000 in
theorem l_2_41 : zco0 zmtT 2 41 = some (2, m_T_facesSo) := rfl
theorem nb_2_41 : zco0 zbiT 2 41 = none := by decide +kernel
set_option maxRecDepth 100000 in
theorem l_2_45 : zco0 zmtT 2 45 = some (2, m_T_changesCell) := rfl
theorem nb_2_45 : zco0 zbiT 2 45 = none := by decide +kernel
set_option maxRecDepth 100000 in
theorem l_2_48 : zco0 zmtT 2 48 = some (1, m_H_hasRoomFor) := rfl
set_option maxRecDepth 100000 in
theorem l_2_54 : zco0 zmtT 2 54 = some (1, m_H_pass) := rfl
set_option maxRecDepth 100000 in
theorem l_2_58 : zco0 zmtT 2 58 = some (3, m_X_isKind) := rfl
theorem nb_2_58 : zco0 zbiT 2 58 = none := by decide +kernel
set_option maxRecDepth 100000 in
theorem l_2_61 : zco0 zmtT 2 61 = some (3, m_X_isCell) := rfl
theorem nb_2_61 : zco0 zbiT 2 61 = none := by decide +kernel
set_option maxRecDepth 100000 in
theorem l_2_64 : zco0 zmtT 2 64 = some (3, m_X_isWay) := rfl
theorem nb_2_64 : zco0 zbiT 2 64 = none := by decide +kernel
set_option maxRecDepth 100000 in
theorem l_2_68 : zco0 zmtT 2 68 = some (1, m_H_isFree) := rfl
set_option maxRecDepth 100000 in
theorem l_2_71 : zco0 zmtT 2 71 = some (1, m_H_join) := rfl
set_option maxRecDepth 100000 in
theorem l_2_75 : zco0 zmtT 2 75 = some (1, m_H_has) := rfl
set_option maxRecDepth 100000 in
theorem l_2_78 : zco0 zmtT 2 78 = some (1, m_H_face) := rfl
set_option maxRecDepth 100000 in
theorem l_2_82 : zco0 zmtT 2 82 = some (1, m_H_place) := rfl
set_option maxRecDepth 100000 in
theorem l_3_9 : zco0 zmtT 3 9 = some (5, m_H_init) := rfl
set_option maxRecDepth 100000 in
theorem l_3_32 : zco0 zmtT 3 32 = some (5, m_P_init) := rfl
set_option maxRecDepth 100000 in
theorem l_3_39 : zco0 zmtT 3 39 = some (5, m_T_init) := rfl
set_option maxRecDepth 100000 in
theorem l_3_55 : zco0 zmtT 3 55 = some (0, m_X_refuse) := rfl
set_option maxRecDepth 100000 in
theorem l_3_62 : zco0 zmtT 3 62 = some (1, m_T_append) := rfl
set_option maxRecDepth 100000 in
theorem l_3_65 : zco0 zmtT 3 65 = some (1, m_T_wrongPlace) := rfl
set_option maxRecDepth 100000 in
theorem l_3_69 : zco0 zmtT 3 69 = some (1, m_H_become) := rfl
set_option maxRecDepth 100000 in
theorem l_3_73 : zco0 zmtT 3 73 = some (1, m_T_beginsStatement) := rfl
set_option maxRecDepth 100000 in
theorem l_3_77 : zco0 zmtT 3 77 = some (1, m_T_comesTo) := rfl
set_option maxRecDepth 100000 in
theorem l_3_81 : zco0 zmtT 3 81 = some (1, m_T_forget) := rfl
set_option maxRecDepth 100000 in
theorem l_3_84 : zco0 zmtT 3 84 = some (1, m_P_forget) := rfl
set_option maxRecDepth 100000 in
theorem l_3_85 : zco0 zmtT 3 85 = some (1, m_H_has) := rfl
set_option maxRecDepth 100000 in
theorem l_3_88 : zco0 zmtT 3 88 = some (1, m_H_kindOf) := rfl
set_option maxRecDepth 100000 in
theorem l_3_91 : zco0 zmtT 3 91 = some (1, m_H_figureOf) := rfl
set_option maxRecDepth 100000 in
theorem l_3_94 : zco0 zmtT 3 94 = some (1, m_H_cellOf) := rfl
set_option maxRecDepth 100000 in
theorem l_3_97 : zco0 zmtT 3 97 = some (1, m_H_facesOf) := rfl
set_option maxRecDepth 100000 in
theorem l_3_100 : zco0 zmtT 3 100 = some (1, m_H_startsOf) := rfl
set_option maxRecDepth 100000 in
theorem l_3_103 : zco0 zmtT 3 103 = some (1, m_H_reachOf) := rfl
set_option maxRecDepth 100000 in
theorem l_3_106 : zco0 zmtT 3 106 = some (1, m_H_depthOf) := rfl
set_option maxRecDepth 100000 in
theorem l_3_109 : zco0 zmtT 3 109 = some (2, m_X_isKind) := rfl
theorem nb_3_109 : zco0 zbiT 3 109 = none := by decide +kernel
set_option maxRecDepth 100000 in
theorem l_3_113 : zco0 zmtT 3 113 = some (2, m_X_isCell) := rfl
theorem nb_3_113 : zco0 zbiT 3 113 = none := by decide +kernel
set_option maxRecDepth 100000 in
theorem l_3_116 : zco0 zmtT 3 116 = some (2, m_X_isWay) := rfl
theorem nb_3_116 : zco0 zbiT 3 116 = none := by decide +kernel
set_option maxRecDepth 100000 in
theorem l_3_119 : zco0 zmtT 3 119 = some (1, m_H_isFree) := rfl
set_option maxRecDepth 100000 in
theorem l_3_122 : zco0 zmtT 3 122 = some (1, m_H_join) := rfl
set_option maxRecDepth 100000 in
theorem l_3_126 : zco0 zmtT 3 126 = some (1, m_P_keep) := rfl
set_option maxRecDepth 100000 in
theorem l_3_129 : zco0 zmtT 3 129 = some (1, m_H_face) := rfl
set_option maxRecDepth 100000 in
theorem l_3_133 : zco0 zmtT 3 133 = some (1, m_H_place) := rfl
set_option maxRecDepth 100000 in
theorem l_3_136 : zco0 zmtT 3 136 = some (1, m_H_hasRoomFor) := rfl
set_option maxRecDepth 100000 in
theorem l_3_139 : zco0 zmtT 3 139 = some (1, m_H_pass) := rfl
set_option maxRecDepth 100000 in
theorem l_3_143 : zco0 zmtT 3 143 = some (1, m_H_startsTogether) := rfl
set_option maxRecDepth 100000 in
theorem l_3_147 : zco0 zmtT 3 147 = some (1, m_P_giveBack) := rfl
set_option maxRecDepth 100000 in
theorem l_3_151 : zco0 zmtT 3 151 = some (0, m_X_wrongNights) := rfl
set_option maxRecDepth 100000 in
theorem l_3_155 : zco0 zmtT 3 155 = some (0, m_X_lookAhead) := rfl
set_option maxRecDepth 100000 in
theorem l_3_158 : zco0 zmtT 3 158 = some (1, m_H_ahead) := rfl
set_option maxRecDepth 100000 in
theorem l_3_161 : zco0 zmtT 3 161 = some (1, m_H_inLens) := rfl
set_option maxRecDepth 100000 in
theorem l_3_164 : zco0 zmtT 3 164 = some (1, m_H_watchers) := rfl
set_option maxRecDepth 100000 in
theorem l_3_167 : zco0 zmtT 3 167 = some (0, m_X_wrongWhat) := rfl
set_option maxRecDepth 100000 in
theorem l_3_171 : zco0 zmtT 3 171 = some (1, m_H_nightWithout) := rfl
set_option maxRecDepth 100000 in
theorem l_3_177 : zco0 zmtT 3 177 = some (2, m_X_bitOf) := rfl
theorem nb_3_177 : zco0 zbiT 3 177 = none := by decide +kernel
set_option maxRecDepth 100000 in
theorem l_3_180 : zco0 zmtT 3 180 = some (1, m_H_everybody) := rfl
set_option maxRecDepth 100000 in
theorem l_3_183 : zco0 zmtT 3 183 = some (1, m_H_chainOf) := rfl
set_option maxRecDepth 100000 in
theorem l_3_186 : zco0 zmtT 3 186 = some (1, m_H_seenBy) := rfl
set_option maxRecDepth 100000 in
theorem l_3_189 : zco0 zmtT 3 189 = some (1, m_H_seesAllWays) := rfl
set_option maxRecDepth 100000 in
theorem l_3_192 : zco0 zmtT 3 192 = some (1, m_H_facesToSeeUnseen) := rfl
set_option maxRecDepth 100000 in
theorem l_3_195 : zco0 zmtT 3 195 = some (1, m_H_beOfKind) := rfl
set_option maxRecDepth 100000 in
theorem l_3_198 : zco0 zmtT 3 198 = some (1, m_H_beOfFigure) := rfl
set_option maxRecDepth 100000 in
theorem l_3_201 : zco0 zmtT 3 201 = some (0, m_X_turnsAsTold) := rfl
set_option maxRecDepth 100000 in
theorem l_3_204 : zco0 zmtT 3 204 = some (1, m_H_cellOfStep) := rfl
set_option maxRecDepth 100000 in
theorem l_3_207 : zco0 zmtT 3 207 = some (2, m_J_bitCount) := rfl
theorem nb_3_207 : zco0 zbiT 3 207 = none := by decide +kernel
set_option maxRecDepth 100000 in
theorem l_3_212 : zco0 zmtT 3 212 = some (0, m_X_areTwo) := rfl
set_option maxRecDepth 100000 in
theorem l_3_216 : zco0 zmtT 3 216 = some (0, m_X_stepsSeenByFaces) := rfl
set_option maxRecDepth 100000 in
theorem l_3_219 : zco0 zmtT 3 219 = some (2, m_X_neitherHasBetter) := rfl
theorem nb_3_219 : zco0 zbiT 3 219 = none := by decide +kernel
set_option maxRecDepth 100000 in
theorem l_3_225 : zco0 zmtT 3 225 = some (2, m_X_waysToFace) := rfl
theorem nb_3_225 : zco0 zbiT 3 225 = none := by decide +kernel
set_option maxRecDepth 100000 in
theorem l_3_229 : zco0 zmtT 3 229 = some (2, m_X_commonDivisor) := rfl
theorem nb_3_229 : zco0 zbiT 3 229 = none := by decide +kernel
set_option maxRecDepth 100000 in
theorem l_3_233 : zco0 zmtT 3 233 = some (1, m_H_cellsApart) := rfl
set_option maxRecDepth 100000 in
theorem l_3_236 : zco0 zmtT 3 236 = some (2, m_X_rowOf) := rfl
theorem nb_3_236 : zco0 zbiT 3 236 = none := by decide +kernel
set_option maxRecDepth 100000 in
theorem l_3_239 : zco0 zmtT 3 239 = some (2, m_X_columnOf) := rfl
theorem nb_3_239 : zco0 zbiT 3 239 = none := by decide +kernel
set_option maxRecDepth 100000 in
theorem l_3_242 : zco0 zmtT 3 242 = some (1, m_H_nextTo) := rfl
set_option maxRecDepth 100000 in
theorem l_3_248 : zco0 zmtT 3 248 = some (2, m_X_put) := rfl
theorem nb_3_248 : zco0 zbiT 3 248 = none := by decide +kernel
set_option maxRecDepth 100000 in
theorem l_3_252 : zco0 zmtT 3 252 = some (2, m_X_at) := rfl
theorem nb_3_252 : zco0 zbiT 3 252 = none := by decide +kernel
set_option maxRecDepth 100000 in
theorem l_3_256 : zco0 zmtT 3 256 = some (2, m_X_nextSeed) := rfl
theorem nb_3_256 : zco0 zbiT 3 256 = none := by decide +kernel
set_option maxRecDepth 100000 in
theorem l_3_259 : zco0 zmtT 3 259 = some (2, m_X_drawOf) := rfl
theorem nb_3_259 : zco0 zbiT 3 259 = none := by decide +kernel
set_option maxRecDepth 100000 in
theorem l_3_262 : zco0 zmtT 3 262 = some (1, m_H_howManySee) := rfl
set_option maxRecDepth 100000 in
theorem l_3_269 : zco0 zmtT 3 269 = some (2, m_X_pairBit) := rfl
theorem nb_3_269 : zco0 zbiT 3 269 = none := by decide +kernel
set_option maxRecDepth 100000 in
theorem l_4_68 : zco0 zmtT 4 68 = some (2, m_M_in) := rfl
theorem nb_4_68 : zco0 zbiT 4 68 = none := by decide +kernel
set_option maxRecDepth 100000 in
theorem l_4_72 : zco0 zmtT 4 72 = some (0, m_M_isOne) := rfl
set_option maxRecDepth 100000 in
theorem l_4_80 : zco0 zmtT 4 80 = some (2, m_M_straight) := rfl
theorem nb_4_80 : zco0 zbiT 4 80 = none := by decide +kernel
set_option maxRecDepth 100000 in
theorem l_4_84 : zco0 zmtT 4 84 = some (0, m_M_oneIn) := rfl
set_option maxRecDepth 100000 in
theorem l_4_88 : zco0 zmtT 4 88 = some (0, m_M_reachOf) := rfl
set_option maxRecDepth 100000 in
theorem l_4_91 : zco0 zmtT 4 91 = some (0, m_M_nextFrom) := rfl
set_option maxRecDepth 100000 in
theorem l_4_94 : zco0 zmtT 4 94 = some (0, m_M_depthOf) := rfl
set_option maxRecDepth 100000 in
theorem l_4_97 : zco0 zmtT 4 97 = some (0, m_M_aheadOf) := rfl
set_option maxRecDepth 100000 in
theorem l_4_103 : zco0 zmtT 4 103 = some (0, m_M_stepTo) := rfl
set_option maxRecDepth 100000 in
theorem l_4_113 : zco0 zmtT 4 113 = some (0, m_M_lensOf) := rfl
set_option maxRecDepth 100000 in
theorem l_4_116 : zco0 zmtT 4 116 = some (0, m_M_goesBy) := rfl
set_option maxRecDepth 100000 in
theorem l_4_119 : zco0 zmtT 4 119 = some (0, m_M_nightBy) := rfl
set_option maxRecDepth 100000 in
theorem l_4_123 : zco0 zmtT 4 123 = some (0, m_M_refuse) := rfl
set_option maxRecDepth 100000 in
theorem l_4_136 : zco0 zmtT 4 136 = some (0, m_M_here) := rfl
set_option maxRecDepth 100000 in
theorem l_4_144 : zco0 zmtT 4 144 = some (0, m_M_readDigits) := rfl
set_option maxRecDepth 100000 in
theorem l_4_150 : zco0 zmtT 4 150 = some (2, m_M_isLetter) := rfl
theorem nb_4_150 : zco0 zbiT 4 150 = none := by decide +kernel
set_option maxRecDepth 100000 in
theorem l_4_153 : zco0 zmtT 4 153 = some (0, m_M_readNumbers) := rfl
set_option maxRecDepth 100000 in
theorem l_4_156 : zco0 zmtT 4 156 = some (0, m_M_oneComes) := rfl
set_option maxRecDepth 100000 in
theorem l_4_162 : zco0 zmtT 4 162 = some (0, m_M_goNights) := rfl
set_option maxRecDepth 100000 in
theorem l_4_165 : zco0 zmtT 4 165 = some (0, m_M_readStatement) := rfl
set_option maxRecDepth 100000 in
theorem l_4_168 : zco0 zmtT 4 168 = some (0, m_M_think) := rfl
set_option maxRecDepth 100000 in
theorem l_4_171 : zco0 zmtT 4 171 = some (0, m_M_comesTold) := rfl
set_option maxRecDepth 100000 in
theorem l_4_174 : zco0 zmtT 4 174 = some (0, m_M_again) := rfl
set_option maxRecDepth 100000 in
theorem l_4_189 : zco0 zmtT 4 189 = some (0, m_M_carry) := rfl
set_option maxRecDepth 100000 in
theorem l_4_192 : zco0 zmtT 4 192 = some (0, m_M_carryAll) := rfl
set_option maxRecDepth 100000 in
theorem l_4_201 : zco0 zmtT 4 201 = some (2, m_M_wrongNumber) := rfl
theorem nb_4_201 : zco0 zbiT 4 201 = none := by decide +kernel
set_option maxRecDepth 100000 in
theorem l_4_204 : zco0 zmtT 4 204 = some (2, m_M_isCell) := rfl
theorem nb_4_204 : zco0 zbiT 4 204 = none := by decide +kernel
set_option maxRecDepth 100000 in
theorem l_4_209 : zco0 zmtT 4 209 = some (0, m_M_keepTurn) := rfl
set_option maxRecDepth 100000 in
theorem l_4_212 : zco0 zmtT 4 212 = some (0, m_M_allOfStarts) := rfl
set_option maxRecDepth 100000 in
theorem l_4_215 : zco0 zmtT 4 215 = some (2, m_M_wrongBit) := rfl
theorem nb_4_215 : zco0 zbiT 4 215 = none := by decide +kernel
set_option maxRecDepth 100000 in
theorem l_4_218 : zco0 zmtT 4 218 = some (0, m_M_watchersOf) := rfl
set_option maxRecDepth 100000 in
theorem l_4_221 : zco0 zmtT 4 221 = some (2, m_M_hasBit) := rfl
theorem nb_4_221 : zco0 zbiT 4 221 = none := by decide +kernel
set_option maxRecDepth 100000 in
theorem l_4_231 : zco0 zmtT 4 231 = some (2, m_M_onesOf) := rfl
theorem nb_4_231 : zco0 zbiT 4 231 = none := by decide +kernel
set_option maxRecDepth 100000 in
theorem l_4_234 : zco0 zmtT 4 234 = some (0, m_M_chainFrom) := rfl
set_option maxRecDepth 100000 in
theorem l_4_240 : zco0 zmtT 4 240 = some (0, m_M_isRow) := rfl
set_option maxRecDepth 100000 in
theorem l_4_243 : zco0 zmtT 4 243 = some (0, m_M_stepFrom) := rfl
set_option maxRecDepth 100000 in
theorem l_4_247 : zco0 zmtT 4 247 = some (0, m_M_areTwo) := rfl
set_option maxRecDepth 100000 in
theorem l_4_250 : zco0 zmtT 4 250 = some (0, m_M_areResting) := rfl
set_option maxRecDepth 100000 in
theorem l_4_253 : zco0 zmtT 4 253 = some (2, m_M_divisor) := rfl
theorem nb_4_253 : zco0 zbiT 4 253 = none := by decide +kernel
set_option maxRecDepth 100000 in
theorem l_4_259 : zco0 zmtT 4 259 = some (2, m_M_partOf) := rfl
theorem nb_4_259 : zco0 zbiT 4 259 = none := by decide +kernel
set_option maxRecDepth 100000 in
theorem l_4_263 : zco0 zmtT 4 263 = some (2, m_M_apart) := rfl
theorem nb_4_263 : zco0 zbiT 4 263 = none := by decide +kernel
set_option maxRecDepth 100000 in
theorem l_4_272 : zco0 zmtT 4 272 = some (0, m_M_drawBelow) := rfl
set_option maxRecDepth 100000 in
theorem l_5_9 : zco0 zmtT 5 9 = some (4, m_X_init) := rfl
set_option maxRecDepth 100000 in
theorem l_5_12 : zco0 zmtT 5 12 = some (4, m_M_init) := rfl
set_option maxRecDepth 100000 in
theorem l_5_13 : zco0 zmtT 5 13 = some (0, m_X_feed) := rfl
set_option maxRecDepth 100000 in
theorem l_5_17 : zco0 zmtT 5 17 = some (0, m_M_feed) := rfl
set_option maxRecDepth 100000 in
theorem l_5_18 : zco0 zmtT 5 18 = some (0, m_X_hill) := rfl
set_option maxRecDepth 100000 in
theorem l_5_22 : zco0 zmtT 5 22 = some (0, m_M_hill) := rfl
set_option maxRecDepth 100000 in
theorem l_5_23 : zco0 zmtT 5 23 = some (0, m_X_personOf) := rfl
set_option maxRecDepth 100000 in
theorem l_5_27 : zco0 zmtT 5 27 = some (0, m_M_personOf) := rfl
set_option maxRecDepth 100000 in
theorem l_5_28 : zco0 zmtT 5 28 = some (0, m_X_person) := rfl
set_option maxRecDepth 100000 in
theorem l_5_32 : zco0 zmtT 5 32 = some (0, m_M_person) := rfl
set_option maxRecDepth 100000 in
theorem l_5_33 : zco0 zmtT 5 33 = some (0, m_X_turns) := rfl
set_option maxRecDepth 100000 in
theorem l_5_36 : zco0 zmtT 5 36 = some (0, m_M_turns) := rfl
set_option maxRecDepth 100000 in
theorem l_5_37 : zco0 zmtT 5 37 = some (0, m_X_stands) := rfl
set_option maxRecDepth 100000 in
theorem l_5_40 : zco0 zmtT 5 40 = some (0, m_M_stands) := rfl
set_option maxRecDepth 100000 in
theorem l_5_41 : zco0 zmtT 5 41 = some (0, m_X_nights) := rfl
set_option maxRecDepth 100000 in
theorem l_5_44 : zco0 zmtT 5 44 = some (0, m_M_nights) := rfl
set_option maxRecDepth 100000 in
theorem l_5_45 : zco0 zmtT 5 45 = some (0, m_X_back) := rfl
set_option maxRecDepth 100000 in
theorem l_5_48 : zco0 zmtT 5 48 = some (0, m_M_back) := rfl
set_option maxRecDepth 100000 in
theorem l_5_49 : zco0 zmtT 5 49 = some (0, m_X_behind) := rfl
set_option maxRecDepth 100000 in
theorem l_5_53 : zco0 zmtT 5 53 = some (0, m_M_behind) := rfl
set_option maxRecDepth 100000 in
theorem l_5_54 : zco0 zmtT 5 54 = some (0, m_X_allStarts) := rfl
set_option maxRecDepth 100000 in
theorem l_5_57 : zco0 zmtT 5 57 = some (0, m_M_allStarts) := rfl
set_option maxRecDepth 100000 in
theorem l_5_58 : zco0 zmtT 5 58 = some (0, m_X_first) := rfl
set_option maxRecDepth 100000 in
theorem l_5_61 : zco0 zmtT 5 61 = some (0, m_M_first) := rfl
set_option maxRecDepth 100000 in
theorem l_5_62 : zco0 zmtT 5 62 = some (0, m_X_still) := rfl
set_option maxRecDepth 100000 in
theorem l_5_65 : zco0 zmtT 5 65 = some (0, m_M_still) := rfl
set_option maxRecDepth 100000 in
theorem l_5_66 : zco0 zmtT 5 66 = some (0, m_X_unseen) := rfl
set_option maxRecDepth 100000 in
theorem l_5_69 : zco0 zmtT 5 69 = some (0, m_M_unseen) := rfl
set_option maxRecDepth 100000 in
theorem l_5_70 : zco0 zmtT 5 70 = some (0, m_X_chain) := rfl
set_option maxRecDepth 100000 in
theorem l_5_73 : zco0 zmtT 5 73 = some (0, m_M_chain) := rfl
set_option maxRecDepth 100000 in
theorem l_5_74 : zco0 zmtT 5 74 = some (0, m_X_deepest) := rfl
set_option maxRecDepth 100000 in
theorem l_5_77 : zco0 zmtT 5 77 = some (0, m_M_deepest) := rfl
set_option maxRecDepth 100000 in
theorem l_5_78 : zco0 zmtT 5 78 = some (0, m_X_knows) := rfl
set_option maxRecDepth 100000 in
theorem l_5_81 : zco0 zmtT 5 81 = some (0, m_M_knows) := rfl
set_option maxRecDepth 100000 in
theorem l_5_82 : zco0 zmtT 5 82 = some (0, m_X_safe) := rfl
set_option maxRecDepth 100000 in
theorem l_5_85 : zco0 zmtT 5 85 = some (0, m_M_safe) := rfl
set_option maxRecDepth 100000 in
theorem l_5_86 : zco0 zmtT 5 86 = some (0, m_X_alone) := rfl
set_option maxRecDepth 100000 in
theorem l_5_89 : zco0 zmtT 5 89 = some (0, m_M_alone) := rfl
set_option maxRecDepth 100000 in
theorem l_5_90 : zco0 zmtT 5 90 = some (0, m_X_turnAll) := rfl
set_option maxRecDepth 100000 in
theorem l_5_93 : zco0 zmtT 5 93 = some (0, m_M_turnAll) := rfl
set_option maxRecDepth 100000 in
theorem l_5_94 : zco0 zmtT 5 94 = some (0, m_X_post) := rfl
set_option maxRecDepth 100000 in
theorem l_5_97 : zco0 zmtT 5 97 = some (0, m_M_post) := rfl
set_option maxRecDepth 100000 in
theorem l_5_98 : zco0 zmtT 5 98 = some (0, m_X_which) := rfl
set_option maxRecDepth 100000 in
theorem l_5_101 : zco0 zmtT 5 101 = some (0, m_M_which) := rfl
set_option maxRecDepth 100000 in
theorem l_5_102 : zco0 zmtT 5 102 = some (0, m_X_bestStep) := rfl
set_option maxRecDepth 100000 in
theorem l_5_105 : zco0 zmtT 5 105 = some (0, m_M_bestStep) := rfl
set_option maxRecDepth 100000 in
theorem l_5_106 : zco0 zmtT 5 106 = some (0, m_X_two) := rfl
set_option maxRecDepth 100000 in
theorem l_5_109 : zco0 zmtT 5 109 = some (0, m_M_two) := rfl
set_option maxRecDepth 100000 in
theorem l_5_110 : zco0 zmtT 5 110 = some (0, m_X_slept) := rfl
set_option maxRecDepth 100000 in
theorem l_5_114 : zco0 zmtT 5 114 = some (0, m_M_slept) := rfl
set_option maxRecDepth 100000 in
theorem l_5_115 : zco0 zmtT 5 115 = some (0, m_X_busiest) := rfl
set_option maxRecDepth 100000 in
theorem l_5_118 : zco0 zmtT 5 118 = some (0, m_M_busiest) := rfl
set_option maxRecDepth 100000 in
theorem l_5_119 : zco0 zmtT 5 119 = some (0, m_X_twos) := rfl
set_option maxRecDepth 100000 in
theorem l_5_122 : zco0 zmtT 5 122 = some (0, m_M_twos) := rfl
set_option maxRecDepth 100000 in
theorem l_5_123 : zco0 zmtT 5 123 = some (0, m_X_nearest) := rfl
set_option maxRecDepth 100000 in
theorem l_5_126 : zco0 zmtT 5 126 = some (0, m_M_nearest) := rfl
set_option maxRecDepth 100000 in
theorem l_5_127 : zco0 zmtT 5 127 = some (0, m_X_lines) := rfl
set_option maxRecDepth 100000 in
theorem l_5_130 : zco0 zmtT 5 130 = some (0, m_M_lines) := rfl
set_option maxRecDepth 100000 in
theorem l_5_131 : zco0 zmtT 5 131 = some (0, m_X_hidden) := rfl
set_option maxRecDepth 100000 in
theorem l_5_134 : zco0 zmtT 5 134 = some (0, m_M_hidden) := rfl
set_option maxRecDepth 100000 in
theorem l_5_135 : zco0 zmtT 5 135 = some (0, m_X_longest) := rfl
set_option maxRecDepth 100000 in
theorem l_5_138 : zco0 zmtT 5 138 = some (0, m_M_longest) := rfl
set_option maxRecDepth 100000 in
theorem l_5_139 : zco0 zmtT 5 139 = some (0, m_X_walks) := rfl
set_option maxRecDepth 100000 in
theorem l_5_142 : zco0 zmtT 5 142 = some (0, m_M_walks) := rfl
set_option maxRecDepth 100000 in
theorem l_5_143 : zco0 zmtT 5 143 = some (0, m_X_meets) := rfl
set_option maxRecDepth 100000 in
theorem l_5_146 : zco0 zmtT 5 146 = some (0, m_M_meets) := rfl
set_option maxRecDepth 100000 in
theorem l_5_147 : zco0 zmtT 5 147 = some (0, m_X_leave) := rfl
set_option maxRecDepth 100000 in
theorem l_5_150 : zco0 zmtT 5 150 = some (0, m_M_leave) := rfl
set_option maxRecDepth 100000 in
theorem l_5_151 : zco0 zmtT 5 151 = some (0, m_X_most) := rfl
set_option maxRecDepth 100000 in
theorem l_5_154 : zco0 zmtT 5 154 = some (0, m_M_most) := rfl
set_option maxRecDepth 100000 in
theorem l_5_155 : zco0 zmtT 5 155 = some (0, m_X_quiet) := rfl
set_option maxRecDepth 100000 in
theorem l_5_158 : zco0 zmtT 5 158 = some (0, m_M_quiet) := rfl
set_option maxRecDepth 100000 in
theorem l_5_159 : zco0 zmtT 5 159 = some (0, m_X_row) := rfl
set_option maxRecDepth 100000 in
theorem l_5_162 : zco0 zmtT 5 162 = some (0, m_M_row) := rfl
set_option maxRecDepth 100000 in
theorem l_5_163 : zco0 zmtT 5 163 = some (0, m_X_judge) := rfl
set_option maxRecDepth 100000 in
theorem l_5_166 : zco0 zmtT 5 166 = some (0, m_M_judge) := rfl
set_option maxRecDepth 100000 in
theorem l_5_167 : zco0 zmtT 5 167 = some (0, m_X_clear) := rfl
set_option maxRecDepth 100000 in
theorem l_5_170 : zco0 zmtT 5 170 = some (0, m_M_clear) := rfl
set_option maxRecDepth 100000 in
theorem l_5_171 : zco0 zmtT 5 171 = some (0, m_X_lots) := rfl
set_option maxRecDepth 100000 in
theorem l_5_174 : zco0 zmtT 5 174 = some (0, m_M_lots) := rfl
set_option maxRecDepth 100000 in
theorem l_5_175 : zco0 zmtT 5 175 = some (0, m_X_image) := rfl
set_option maxRecDepth 100000 in
theorem l_5_178 : zco0 zmtT 5 178 = some (0, m_M_image) := rfl
set_option maxRecDepth 100000 in
theorem l_5_179 : zco0 zmtT 5 179 = some (0, m_X_restore) := rfl
set_option maxRecDepth 100000 in
theorem l_5_182 : zco0 zmtT 5 182 = some (0, m_M_restore) := rfl
set_option maxRecDepth 100000 in
theorem l_5_183 : zco0 zmtT 5 183 = some (0, m_X_count) := rfl
set_option maxRecDepth 100000 in
theorem l_5_186 : zco0 zmtT 5 186 = some (0, m_M_count) := rfl
theorem zb_3_1 : zco0 zbiT 3 1 = some 1 := by decide +kernel
theorem zb_0_3 : zco0 zbiT 0 3 = some 1 := by decide +kernel
theorem zb_1_3 : zco0 zbiT 1 3 = some 1 := by decide +kernel
theorem zb_2_3 : zco0 zbiT 2 3 = some 1 := by decide +kernel
theorem zb_0_103 : zco0 zbiT 0 103 = some 2 := by decide +kernel
theorem zb_1_33 : zco0 zbiT 1 33 = some 2 := by decide +kernel
theorem zb_0_65 : zco0 zbiT 0 65 = some 3 := by decide +kernel
theorem zb_4_1 : zco0 zbiT 4 1 = some 1 := by decide +kernel
theorem zcs_bipush_m99 {o : Nat} : zcst o (.bipush (-99)) = some (.int (-99), 2) := by first | rfl | (show some (Value.int _, _) = _; decide +kernel)
theorem zcs_bipush_m9 {o : Nat} : zcst o (.bipush (-9)) = some (.int (-9), 2) := by first | rfl | (show some (Value.int _, _) = _; decide +kernel)
theorem zcs_bipush_m6 {o : Nat} : zcst o (.bipush (-6)) = some (.int (-6), 2) := by first | rfl | (show some (Value.int _, _) = _; decide +kernel)
theorem zcs_bipush_m4 {o : Nat} : zcst o (.bipush (-4)) = some (.int (-4), 2) := by first | rfl | (show some (Value.int _, _) = _; decide +kernel)
theorem zcs_bipush_m3 {o : Nat} : zcst o (.bipush (-3)) = some (.int (-3), 2) := by first | rfl | (show some (Value.int _, _) = _; decide +kernel)
theorem zcs_bipush_m2 {o : Nat} : zcst o (.bipush (-2)) = some (.int (-2), 2) := by first | rfl | (show some (Value.int _, _) = _; decide +kernel)
theorem zcs_bipush_6 {o : Nat} : zcst o (.bipush 6) = some (.int 6, 2) := by first | rfl | (show some (Value.int _, _) = _; decide +kernel)
theorem zcs_bipush_7 {o : Nat} : zcst o (.bipush 7) = some (.int 7, 2) := by first | rfl | (show some (Value.int _, _) = _; decide +kernel)
theorem zcs_bipush_8 {o : Nat} : zcst o (.bipush 8) = some (.int 8, 2) := by first | rfl | (show some (Value.int _, _) = _; decide +kernel)
theorem zcs_bipush_9 {o : Nat} : zcst o (.bipush 9) = some (.int 9, 2) := by first | rfl | (show some (Value.int _, _) = _; decide +kernel)
theorem zcs_bipush_10 {o : Nat} : zcst o (.bipush 10) = some (.int 10, 2) := by first | rfl | (show some (Value.int _, _) = _; decide +kernel)
theorem zcs_bipush_11 {o : Nat} : zcst o (.bipush 11) = some (.int 11, 2) := by first | rfl | (show some (Value.int _, _) = _; decide +kernel)
theorem zcs_bipush_12 {o : Nat} : zcst o (.bipush 12) = some (.int 12, 2) := by first | rfl | (show some (Value.int _, _) = _; decide +kernel)
theorem zcs_bipush_16 {o : Nat} : zcst o (.bipush 16) = some (.int 16, 2) := by first | rfl | (show some (Value.int _, _) = _; decide +kernel)
theorem zcs_bipush_20 {o : Nat} : zcst o (.bipush 20) = some (.int 20, 2) := by first | rfl | (show some (Value.int _, _) = _; decide +kernel)
theorem zcs_bipush_30 {o : Nat} : zcst o (.bipush 30) = some (.int 30, 2) := by first | rfl | (show some (Value.int _, _) = _; decide +kernel)
theorem zcs_bipush_32 {o : Nat} : zcst o (.bipush 32) = some (.int 32, 2) := by first | rfl | (show some (Value.int _, _) = _; decide +kernel)
theorem zcs_bipush_35 {o : Nat} : zcst o (.bipush 35) = some (.int 35, 2) := by first | rfl | (show some (Value.int _, _) = _; decide +kernel)
theorem zcs_bipush_36 {o : Nat} : zcst o (.bipush 36) = some (.int 36, 2) := by first | rfl | (show some (Value.int _, _) = _; decide +kernel)
theorem zcs_bipush_37 {o : Nat} : zcst o (.bipush 37) = some (.int 37, 2) := by first | rfl | (show some (Value.int _, _) = _; decide +kernel)
theorem zcs_bipush_48 {o : Nat} : zcst o (.bipush 48) = some (.int 48, 2) := by first | rfl | (show some (Value.int _, _) = _; decide +kernel)
theorem zcs_bipush_49 {o : Nat} : zcst o (.bipush 49) = some (.int 49, 2) := by first | rfl | (show some (Value.int _, _) = _; decide +kernel)
theorem zcs_bipush_57 {o : Nat} : zcst o (.bipush 57) = some (.int 57, 2) := by first | rfl | (show some (Value.int _, _) = _; decide +kernel)
theorem zcs_bipush_59 {o : Nat} : zcst o (.bipush 59) = some (.int 59, 2) := by first | rfl | (show some (Value.int _, _) = _; decide +kernel)
theorem zcs_bipush_60 {o : Nat} : zcst o (.bipush 60) = some (.int 60, 2) := by first | rfl | (show some (Value.int _, _) = _; decide +kernel)
theorem zcs_bipush_63 {o : Nat} : zcst o (.bipush 63) = some (.int 63, 2) := by first | rfl | (show some (Value.int _, _) = _; decide +kernel)
theorem zcs_bipush_96 {o : Nat} : zcst o (.bipush 96) = some (.int 96, 2) := by first | rfl | (show some (Value.int _, _) = _; decide +kernel)
theorem zcs_bipush_99 {o : Nat} : zcst o (.bipush 99) = some (.int 99, 2) := by first | rfl | (show some (Value.int _, _) = _; decide +kernel)
theorem zcs_bipush_102 {o : Nat} : zcst o (.bipush 102) = some (.int 102, 2) := by first | rfl | (show some (Value.int _, _) = _; decide +kernel)
theorem zcs_bipush_110 {o : Nat} : zcst o (.bipush 110) = some (.int 110, 2) := by first | rfl | (show some (Value.int _, _) = _; decide +kernel)
theorem zcs_bipush_112 {o : Nat} : zcst o (.bipush 112) = some (.int 112, 2) := by first | rfl | (show some (Value.int _, _) = _; decide +kernel)
theorem zcs_iconst_m1 {o : Nat} : zcst o (.iconst (-1)) = some (.int (-1), 1) := by first | rfl | (show some (Value.int _, _) = _; decide +kernel)
theorem zcs_iconst_0 {o : Nat} : zcst o (.iconst 0) = some (.int 0, 1) := by first | rfl | (show some (Value.int _, _) = _; decide +kernel)
theorem zcs_iconst_1 {o : Nat} : zcst o (.iconst 1) = some (.int 1, 1) := by first | rfl | (show some (Value.int _, _) = _; decide +kernel)
theorem zcs_iconst_2 {o : Nat} : zcst o (.iconst 2) = some (.int 2, 1) := by first | rfl | (show some (Value.int _, _) = _; decide +kernel)
theorem zcs_iconst_3 {o : Nat} : zcst o (.iconst 3) = some (.int 3, 1) := by first | rfl | (show some (Value.int _, _) = _; decide +kernel)
theorem zcs_iconst_4 {o : Nat} : zcst o (.iconst 4) = some (.int 4, 1) := by first | rfl | (show some (Value.int _, _) = _; decide +kernel)
theorem zcs_iconst_5 {o : Nat} : zcst o (.iconst 5) = some (.int 5, 1) := by first | rfl | (show some (Value.int _, _) = _; decide +kernel)
theorem zcs_lconst_0 {o : Nat} : zcst o (.lconst 0) = some (.long 0, 1) := by first | rfl | (show some (Value.long _, _) = _; decide +kernel)
theorem zcs_lconst_1 {o : Nat} : zcst o (.lconst 1) = some (.long 1, 1) := by first | rfl | (show some (Value.long _, _) = _; decide +kernel)
theorem zcs_sipush_m2000 {o : Nat} : zcst o (.sipush (-2000)) = some (.int (-2000), 3) := by first | rfl | (show some (Value.int _, _) = _; decide +kernel)
theorem zcs_sipush_m1000 {o : Nat} : zcst o (.sipush (-1000)) = some (.int (-1000), 3) := by first | rfl | (show some (Value.int _, _) = _; decide +kernel)
theorem zcs_sipush_143 {o : Nat} : zcst o (.sipush 143) = some (.int 143, 3) := by first | rfl | (show some (Value.int _, _) = _; decide +kernel)
theorem zcs_sipush_196 {o : Nat} : zcst o (.sipush 196) = some (.int 196, 3) := by first | rfl | (show some (Value.int _, _) = _; decide +kernel)
theorem zcs_sipush_255 {o : Nat} : zcst o (.sipush 255) = some (.int 255, 3) := by first | rfl | (show some (Value.int _, _) = _; decide +kernel)
theorem zcs_sipush_296 {o : Nat} : zcst o (.sipush 296) = some (.int 296, 3) := by first | rfl | (show some (Value.int _, _) = _; decide +kernel)
theorem zcs_sipush_999 {o : Nat} : zcst o (.sipush 999) = some (.int 999, 3) := by first | rfl | (show some (Value.int _, _) = _; decide +kernel)
theorem zcs_sipush_1000 {o : Nat} : zcst o (.sipush 1000) = some (.int 1000, 3) := by first | rfl | (show some (Value.int _, _) = _; decide +kernel)
theorem zcs_sipush_12345 {o : Nat} : zcst o (.sipush 12345) = some (.int 12345, 3) := by first | rfl | (show some (Value.int _, _) = _; decide +kernel)
theorem zcs_ldc_6_265 : zcst 6 (.ldc_w 265) = some (.int 1431655765, 3) := by decide +kernel
theorem zcs_ldc_6_266 : zcst 6 (.ldc_w 266) = some (.int 858993459, 3) := by decide +kernel
theorem zcs_ldc_6_267 : zcst 6 (.ldc_w 267) = some (.int 252645135, 3) := by decide +kernel
theorem zcs_ldc_3_272 : zcst 3 (.ldc_w 272) = some (.int 1103515245, 3) := by decide +kernel
theorem zcs_ldc_3_273 : zcst 3 (.ldc_w 273) = some (.int 2147483647, 3) := by decide +kernel
theorem zcs_ldc_3_274 : zcst 3 (.ldc_w 274) = some (.int 65536, 3) := by decide +kernel
theorem zcs_ldc_4_269 : zcst 4 (.ldc_w 269) = some (.int 1103515245, 3) := by decide +kernel
theorem zcs_ldc_4_270 : zcst 4 (.ldc_w 270) = some (.int 2147483647, 3) := by decide +kernel
theorem zcs_ldc_4_271 : zcst 4 (.ldc_w 271) = some (.int 65536, 3) := by decide +kernel
theorem zcs_ldc2_3_223 : zcst 3 (.ldc2_w 223) = some (.long 4000000000000000000, 3) := by decide +kernel
theorem zcs_ldc2_4_140 : zcst 4 (.ldc2_w 140) = some (.long 48, 3) := by decide +kernel
theorem zcs_ldc2_4_142 : zcst 4 (.ldc2_w 142) = some (.long 57, 3) := by decide +kernel
theorem zcs_ldc2_4_160 : zcst 4 (.ldc2_w 160) = some (.long 60, 3) := by decide +kernel
theorem zcs_ldc2_4_78 : zcst 4 (.ldc2_w 78) = some (.long 5, 3) := by decide +kernel
theorem zcs_ldc2_4_199 : zcst 4 (.ldc2_w 199) = some (.long 6, 3) := by decide +kernel
theorem zcs_ldc2_4_76 : zcst 4 (.ldc2_w 76) = some (.long 35, 3) := by decide +kernel
theorem zcs_ldc2_4_207 : zcst 4 (.ldc2_w 207) = some (.long 3, 3) := by decide +kernel
theorem zcs_ldc2_4_257 : zcst 4 (.ldc2_w 257) = some (.long 4000000000000000000, 3) := by decide +kernel
theorem zcs_ldc2_4_275 : zcst 4 (.ldc2_w 275) = some (.long 11, 3) := by decide +kernel
theorem zcs_ldc2_4_277 : zcst 4 (.ldc2_w 277) = some (.long 16, 3) := by decide +kernel
theorem zrk_wtf {a b d e f : Value} {n : Int32} : zrk m_X_waysToFace [a, b, .int n, d, e, f] < 14 := by
  show 5 + (if n < 1 ∨ 8 < n then 0 else n.toNatClampNeg) < 14
  by_cases h : n < 1 ∨ 8 < n
  · rw [if_pos h]; decide
  · rw [if_neg h]
    have h8 : ¬ 8 < n := fun q => h (Or.inr q)
    have h1 : n.toInt ≤ (8 : Int32).toInt := Int32.le_iff_toInt_le.mp (Int32.not_lt.mp h8)
    have h2 : (8 : Int32).toInt = 8 := by decide
    have h3 : n.toNatClampNeg = n.toInt.toNat := rfl
    omega
section zrows2
variable {X : zX} {r : Nat} {k : zM} {pc n : Nat} {ls ls' : zL} {st : List Value} {h : zH} {i : Instr}
theorem rn_rzg {v : Int32} (hd : decode (zb k) pc = .ok (.ireturn, 1)) (hr : zrt k = some .boolean) : zrn X r k pc ls [.int v] h = if v = 0 ∨ v = 1 then some (some (.int v), h) else none := by
  by_cases hv : v = 0 ∨ v = 1
  · rw [if_pos hv]; exact rn_rz hd hr hv
  · rw [if_neg hv]; exact rn_n hd rfl (by unfold zrtn; rw [hr]; dsimp only; rw [if_pos rfl, if_neg hv]) rfl
theorem zdz {x y : Int32} {o : Instr} (ho : o = .idiv ∨ o = .irem) (hd : decode (zb k) pc = .ok (o, 1)) (hy : y = 0) : zrn X r k pc ls (.int y :: .int x :: st) h = none := by
  subst hy
  rcases ho with rfl | rfl
  · exact rn_n hd (by rw [zsq_idiv]; rfl) rfl rfl
  · exact rn_n hd (by rw [zsq_irem]; rfl) rfl rfl
theorem zdzL {x y : Int64} {o : Instr} (ho : o = .ldiv ∨ o = .lrem) (hd : decode (zb k) pc = .ok (o, 1)) (hy : y = 0) : zrn X r k pc ls (.long y :: .long x :: st) h = none := by
  subst hy
  rcases ho with rfl | rfl
  · exact rn_n hd (by rw [zsq_ldiv]; rfl) rfl rfl
  · exact rn_n hd (by rw [zsq_lrem]; rfl) rfl rfl
theorem rn_gidiv {x y : Int32} (hd : decode (zb k) pc = .ok (.idiv, 1)) : zrn X r k pc ls (.int y :: .int x :: st) h = if y = 0 then none else zrn X r k (pc + 1) ls (.int (x / y) :: st) h := zite (fun q => zdz (Or.inl rfl) hd q) (fun q => rn_a2 hd (zar_div q))
theorem rn_girem {x y : Int32} (hd : decode (zb k) pc = .ok (.irem, 1)) : zrn X r k pc ls (.int y :: .int x :: st) h = if y = 0 then none else zrn X r k (pc + 1) ls (.int (zrem x y) :: st) h := zite (fun q => zdz (Or.inr rfl) hd q) (fun q => rn_a2 hd (zar_rem q))
theorem rn_gldiv {x y : Int64} (hd : decode (zb k) pc = .ok (.ldiv, 1)) : zrn X r k pc ls (.long y :: .long x :: st) h = if y = 0 then none else zrn X r k (pc + 1) ls (.long (x / y) :: st) h := zite (fun q => zdzL (Or.inl rfl) hd q) (fun q => rn_al hd (zal_div q))
theorem rn_glrem {x y : Int64} (hd : decode (zb k) pc = .ok (.lrem, 1)) : zrn X r k pc ls (.long y :: .long x :: st) h = if y = 0 then none else zrn X r k (pc + 1) ls (.long (zrmL x y) :: st) h := zite (fun q => zdzL (Or.inr rfl) hd q) (fun q => rn_al hd (zal_rem q))
theorem rn_aalc {a m q : Nat} {x : Int32} (hd : decode (zb k) pc = .ok (.aaload, 1)) (ha : zcl 140 a = (1, m)) (hx : zin x m = true) (hq : zlk zPH.2 a x.toNatClampNeg = q + 1) : zrn X r k pc ls (.int x :: .ref a :: st) h = zrn X r k (pc + 1) ls (.ref (q + 1) :: st) h := by
  rw [rn_aal hd ha, if_pos hx, hq]
  rfl
theorem rn_vR {nm : String} {m : zM} {as rest : List Value} {ix : Nat} (hd : decode (zb k) pc = .ok (.invokevirtual ix, 3)) (hi : zinv k (.invokevirtual ix) 3 (pc, ls, st, zPH, h) = some (m, as, rest, false)) (hk : zrk m as < r) (hr : zrt m = some (.object nm)) : zrn X r k pc ls st h = zbR (zcf X m as h) fun v h' => zrn X r k (pc + 3) ls (.ref v :: rest) h' := (rn_c hd zsim_iv zrtn_iv hi hk).trans (zcR hr)
theorem rn_tsw {d lo hi : Int} {offs : Array Int} {x : Int32} {t : Nat} (hd : decode (zb k) pc = .ok (.tableswitch d lo hi offs, n)) (ht : zsw pc d lo hi offs x = some t) : zrn X r k pc ls (.int x :: st) h = zrn X r k t ls st h := rn_s hd (by
  show zgo (zsw pc d lo hi offs x) ls st zPH h = _
  rw [ht]
  rfl)
theorem rn_lsw {d : Int} {ps : Array (Int × Int)} {x : Int32} {t : Nat} (hd : decode (zb k) pc = .ok (.lookupswitch d ps, n)) (ht : zlw pc d ps x = some t) : zrn X r k pc ls (.int x :: st) h = zrn X r k t ls st h := rn_s hd (by
  show zgo (zlw pc d ps x) ls st zPH h = _
  rw [ht]
  rfl)
theorem zsw_out {d lo hi : Int} {offs : Array Int} {x : Int32} {t : Nat} (h : x.toInt < lo ∨ hi < x.toInt) (ht : ztg pc d = some t) : zsw pc d lo hi offs x = some t := by
  unfold zsw
  rw [if_pos h, ht]
end zrows2

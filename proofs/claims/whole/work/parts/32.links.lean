/-! EACH LINK AS A ROW -/
theorem gf_of {L : Nat} {xs : Nat → Int32} {a k : Nat} {v : Option (Nat × Nat)} (h : tb_find tb_fl a k = v) : ig_fT (tb_G L xs) a k = v := h
theorem gc_of {L : Nat} {xs : Nat → Int32} {a k : Nat} {v : Option Nat} (h : tb_cal a k = v) : ig_cal (tb_G L xs) a k = v := h
theorem gn_of {L : Nat} {xs : Nat → Int32} {a k : Nat} {v : Option Nat} (h : tb_find tb_nl a k = v) : ig_nT (tb_G L xs) a k = v := h
theorem gk_of {L : Nat} {xs : Nat → Int32} {a k : Nat} {v : Option Value} (h : tb_find tb_cn a k = v) : ig_cT (tb_G L xs) a k = v := h
theorem gT_of {L : Nat} {xs : Nat → Int32} {j : Nat} {v : Option im_J} (h : tb_M[j]? = v) : ig_T (tb_G L xs) j = v := h
theorem go_of {L : Nat} {xs : Nat → Int32} {a k : Nat} {v : Bool} (h : tb_oT a k = v) : ig_oT (tb_G L xs) a k = v := h
theorem ga_of {L : Nat} {xs : Nat → Int32} {a k : Nat} {v : Bool} (h : tb_aT a k = v) : ig_aT (tb_G L xs) a k = v := h
theorem lf_10_11 {L : Nat} {xs : Nat → Int32} : ig_fT (tb_G L xs) 10 11 = some (10, 0) := gf_of (by decide +kernel)
theorem lf_10_40 {L : Nat} {xs : Nat → Int32} : ig_fT (tb_G L xs) 10 40 = some (10, 1) := gf_of (by decide +kernel)
theorem lf_8_57 {L : Nat} {xs : Nat → Int32} : ig_fT (tb_G L xs) 8 57 = some (10, 1) := gf_of (by decide +kernel)
theorem lf_11_91 {L : Nat} {xs : Nat → Int32} : ig_fT (tb_G L xs) 11 91 = some (10, 1) := gf_of (by decide +kernel)
theorem lf_10_15 {L : Nat} {xs : Nat → Int32} : ig_fT (tb_G L xs) 10 15 = some (10, 2) := gf_of (by decide +kernel)
theorem lf_10_18 {L : Nat} {xs : Nat → Int32} : ig_fT (tb_G L xs) 10 18 = some (10, 3) := gf_of (by decide +kernel)
theorem lf_8_156 {L : Nat} {xs : Nat → Int32} : ig_fT (tb_G L xs) 8 156 = some (10, 3) := gf_of (by decide +kernel)
theorem lf_10_22 {L : Nat} {xs : Nat → Int32} : ig_fT (tb_G L xs) 10 22 = some (10, 4) := gf_of (by decide +kernel)
theorem lf_8_210 {L : Nat} {xs : Nat → Int32} : ig_fT (tb_G L xs) 8 210 = some (10, 4) := gf_of (by decide +kernel)
theorem lf_10_25 {L : Nat} {xs : Nat → Int32} : ig_fT (tb_G L xs) 10 25 = some (10, 5) := gf_of (by decide +kernel)
theorem lf_8_213 {L : Nat} {xs : Nat → Int32} : ig_fT (tb_G L xs) 8 213 = some (10, 5) := gf_of (by decide +kernel)
theorem lf_10_44 {L : Nat} {xs : Nat → Int32} : ig_fT (tb_G L xs) 10 44 = some (10, 6) := gf_of (by decide +kernel)
theorem lf_8_79 {L : Nat} {xs : Nat → Int32} : ig_fT (tb_G L xs) 8 79 = some (10, 6) := gf_of (by decide +kernel)
theorem lf_10_28 {L : Nat} {xs : Nat → Int32} : ig_fT (tb_G L xs) 10 28 = some (10, 7) := gf_of (by decide +kernel)
theorem lf_10_31 {L : Nat} {xs : Nat → Int32} : ig_fT (tb_G L xs) 10 31 = some (10, 8) := gf_of (by decide +kernel)
theorem lf_8_82 {L : Nat} {xs : Nat → Int32} : ig_fT (tb_G L xs) 8 82 = some (10, 8) := gf_of (by decide +kernel)
theorem lf_10_34 {L : Nat} {xs : Nat → Int32} : ig_fT (tb_G L xs) 10 34 = some (10, 9) := gf_of (by decide +kernel)
theorem lf_8_131 {L : Nat} {xs : Nat → Int32} : ig_fT (tb_G L xs) 8 131 = some (10, 9) := gf_of (by decide +kernel)
theorem lf_10_37 {L : Nat} {xs : Nat → Int32} : ig_fT (tb_G L xs) 10 37 = some (10, 10) := gf_of (by decide +kernel)
theorem lf_8_199 {L : Nat} {xs : Nat → Int32} : ig_fT (tb_G L xs) 8 199 = some (10, 10) := gf_of (by decide +kernel)
theorem lf_10_61 {L : Nat} {xs : Nat → Int32} : ig_fT (tb_G L xs) 10 61 = some (10, 11) := gf_of (by decide +kernel)
theorem lf_8_203 {L : Nat} {xs : Nat → Int32} : ig_fT (tb_G L xs) 8 203 = some (10, 11) := gf_of (by decide +kernel)
theorem lf_5_13 {L : Nat} {xs : Nat → Int32} : ig_fT (tb_G L xs) 5 13 = some (5, 0) := gf_of (by decide +kernel)
theorem lf_2_84 {L : Nat} {xs : Nat → Int32} : ig_fT (tb_G L xs) 2 84 = some (5, 0) := gf_of (by decide +kernel)
theorem lf_5_17 {L : Nat} {xs : Nat → Int32} : ig_fT (tb_G L xs) 5 17 = some (5, 1) := gf_of (by decide +kernel)
theorem lf_6_66 {L : Nat} {xs : Nat → Int32} : ig_fT (tb_G L xs) 6 66 = some (5, 1) := gf_of (by decide +kernel)
theorem lf_2_78 {L : Nat} {xs : Nat → Int32} : ig_fT (tb_G L xs) 2 78 = some (5, 1) := gf_of (by decide +kernel)
theorem lf_11_135 {L : Nat} {xs : Nat → Int32} : ig_fT (tb_G L xs) 11 135 = some (5, 1) := gf_of (by decide +kernel)
theorem lf_5_9 {L : Nat} {xs : Nat → Int32} : ig_fT (tb_G L xs) 5 9 = some (5, 2) := gf_of (by decide +kernel)
theorem lf_8_54 {L : Nat} {xs : Nat → Int32} : ig_fT (tb_G L xs) 8 54 = some (5, 3) := gf_of (by decide +kernel)
theorem lf_2_81 {L : Nat} {xs : Nat → Int32} : ig_fT (tb_G L xs) 2 81 = some (5, 3) := gf_of (by decide +kernel)
theorem lf_5_26 {L : Nat} {xs : Nat → Int32} : ig_fT (tb_G L xs) 5 26 = some (5, 3) := gf_of (by decide +kernel)
theorem lf_11_128 {L : Nat} {xs : Nat → Int32} : ig_fT (tb_G L xs) 11 128 = some (5, 3) := gf_of (by decide +kernel)
theorem lf_2_27 {L : Nat} {xs : Nat → Int32} : ig_fT (tb_G L xs) 2 27 = some (2, 0) := gf_of (by decide +kernel)
theorem lf_8_190 {L : Nat} {xs : Nat → Int32} : ig_fT (tb_G L xs) 8 190 = some (2, 0) := gf_of (by decide +kernel)
theorem lf_2_31 {L : Nat} {xs : Nat → Int32} : ig_fT (tb_G L xs) 2 31 = some (2, 1) := gf_of (by decide +kernel)
theorem lf_8_193 {L : Nat} {xs : Nat → Int32} : ig_fT (tb_G L xs) 8 193 = some (2, 1) := gf_of (by decide +kernel)
theorem lf_2_34 {L : Nat} {xs : Nat → Int32} : ig_fT (tb_G L xs) 2 34 = some (2, 2) := gf_of (by decide +kernel)
theorem lf_8_128 {L : Nat} {xs : Nat → Int32} : ig_fT (tb_G L xs) 8 128 = some (2, 2) := gf_of (by decide +kernel)
theorem lf_2_9 {L : Nat} {xs : Nat → Int32} : ig_fT (tb_G L xs) 2 9 = some (2, 3) := gf_of (by decide +kernel)
theorem lf_2_37 {L : Nat} {xs : Nat → Int32} : ig_fT (tb_G L xs) 2 37 = some (2, 4) := gf_of (by decide +kernel)
theorem lf_8_196 {L : Nat} {xs : Nat → Int32} : ig_fT (tb_G L xs) 8 196 = some (2, 4) := gf_of (by decide +kernel)
theorem lf_2_41 {L : Nat} {xs : Nat → Int32} : ig_fT (tb_G L xs) 2 41 = some (2, 5) := gf_of (by decide +kernel)
theorem lf_8_216 {L : Nat} {xs : Nat → Int32} : ig_fT (tb_G L xs) 8 216 = some (2, 5) := gf_of (by decide +kernel)
theorem lf_2_44 {L : Nat} {xs : Nat → Int32} : ig_fT (tb_G L xs) 2 44 = some (2, 6) := gf_of (by decide +kernel)
theorem lf_8_219 {L : Nat} {xs : Nat → Int32} : ig_fT (tb_G L xs) 8 219 = some (2, 6) := gf_of (by decide +kernel)
theorem lf_2_17 {L : Nat} {xs : Nat → Int32} : ig_fT (tb_G L xs) 2 17 = some (2, 7) := gf_of (by decide +kernel)
theorem lf_2_47 {L : Nat} {xs : Nat → Int32} : ig_fT (tb_G L xs) 2 47 = some (2, 8) := gf_of (by decide +kernel)
theorem lf_2_105 {L : Nat} {xs : Nat → Int32} : ig_fT (tb_G L xs) 2 105 = some (2, 9) := gf_of (by decide +kernel)
theorem lf_2_21 {L : Nat} {xs : Nat → Int32} : ig_fT (tb_G L xs) 2 21 = some (2, 10) := gf_of (by decide +kernel)
theorem lf_2_24 {L : Nat} {xs : Nat → Int32} : ig_fT (tb_G L xs) 2 24 = some (2, 11) := gf_of (by decide +kernel)
theorem lf_8_25 {L : Nat} {xs : Nat → Int32} : ig_fT (tb_G L xs) 8 25 = some (8, 0) := gf_of (by decide +kernel)
theorem lf_8_29 {L : Nat} {xs : Nat → Int32} : ig_fT (tb_G L xs) 8 29 = some (8, 1) := gf_of (by decide +kernel)
theorem lf_8_40 {L : Nat} {xs : Nat → Int32} : ig_fT (tb_G L xs) 8 40 = some (8, 2) := gf_of (by decide +kernel)
theorem lf_8_44 {L : Nat} {xs : Nat → Int32} : ig_fT (tb_G L xs) 8 44 = some (8, 3) := gf_of (by decide +kernel)
theorem lf_8_51 {L : Nat} {xs : Nat → Int32} : ig_fT (tb_G L xs) 8 51 = some (8, 4) := gf_of (by decide +kernel)
theorem lf_11_122 {L : Nat} {xs : Nat → Int32} : ig_fT (tb_G L xs) 11 122 = some (8, 4) := gf_of (by decide +kernel)
theorem lf_8_11 {L : Nat} {xs : Nat → Int32} : ig_fT (tb_G L xs) 8 11 = some (8, 5) := gf_of (by decide +kernel)
theorem lf_11_125 {L : Nat} {xs : Nat → Int32} : ig_fT (tb_G L xs) 11 125 = some (8, 5) := gf_of (by decide +kernel)
theorem lf_8_48 {L : Nat} {xs : Nat → Int32} : ig_fT (tb_G L xs) 8 48 = some (8, 6) := gf_of (by decide +kernel)
theorem lf_11_116 {L : Nat} {xs : Nat → Int32} : ig_fT (tb_G L xs) 11 116 = some (8, 6) := gf_of (by decide +kernel)
theorem lf_8_15 {L : Nat} {xs : Nat → Int32} : ig_fT (tb_G L xs) 8 15 = some (8, 7) := gf_of (by decide +kernel)
theorem lf_11_119 {L : Nat} {xs : Nat → Int32} : ig_fT (tb_G L xs) 11 119 = some (8, 7) := gf_of (by decide +kernel)
theorem lf_8_62 {L : Nat} {xs : Nat → Int32} : ig_fT (tb_G L xs) 8 62 = some (8, 8) := gf_of (by decide +kernel)
theorem lf_8_66 {L : Nat} {xs : Nat → Int32} : ig_fT (tb_G L xs) 8 66 = some (8, 9) := gf_of (by decide +kernel)
theorem lf_8_232 {L : Nat} {xs : Nat → Int32} : ig_fT (tb_G L xs) 8 232 = some (8, 10) := gf_of (by decide +kernel)
theorem lf_8_235 {L : Nat} {xs : Nat → Int32} : ig_fT (tb_G L xs) 8 235 = some (8, 11) := gf_of (by decide +kernel)
theorem lf_8_162 {L : Nat} {xs : Nat → Int32} : ig_fT (tb_G L xs) 8 162 = some (8, 12) := gf_of (by decide +kernel)
theorem lf_8_19 {L : Nat} {xs : Nat → Int32} : ig_fT (tb_G L xs) 8 19 = some (8, 13) := gf_of (by decide +kernel)
theorem lf_8_22 {L : Nat} {xs : Nat → Int32} : ig_fT (tb_G L xs) 8 22 = some (8, 14) := gf_of (by decide +kernel)
theorem lf_8_140 {L : Nat} {xs : Nat → Int32} : ig_fT (tb_G L xs) 8 140 = some (8, 15) := gf_of (by decide +kernel)
theorem lf_8_153 {L : Nat} {xs : Nat → Int32} : ig_fT (tb_G L xs) 8 153 = some (8, 16) := gf_of (by decide +kernel)
theorem lf_9_9 {L : Nat} {xs : Nat → Int32} : ig_fT (tb_G L xs) 9 9 = some (9, 0) := gf_of (by decide +kernel)
theorem lf_3_54 {L : Nat} {xs : Nat → Int32} : ig_fT (tb_G L xs) 3 54 = some (9, 0) := gf_of (by decide +kernel)
theorem lf_11_163 {L : Nat} {xs : Nat → Int32} : ig_fT (tb_G L xs) 11 163 = some (9, 0) := gf_of (by decide +kernel)
theorem lf_9_15 {L : Nat} {xs : Nat → Int32} : ig_fT (tb_G L xs) 9 15 = some (9, 1) := gf_of (by decide +kernel)
theorem lf_3_57 {L : Nat} {xs : Nat → Int32} : ig_fT (tb_G L xs) 3 57 = some (9, 1) := gf_of (by decide +kernel)
theorem lf_6_134 {L : Nat} {xs : Nat → Int32} : ig_fT (tb_G L xs) 6 134 = some (9, 1) := gf_of (by decide +kernel)
theorem lf_11_166 {L : Nat} {xs : Nat → Int32} : ig_fT (tb_G L xs) 11 166 = some (9, 1) := gf_of (by decide +kernel)
theorem lf_6_53 {L : Nat} {xs : Nat → Int32} : ig_fT (tb_G L xs) 6 53 = some (9, 2) := gf_of (by decide +kernel)
theorem lf_9_49 {L : Nat} {xs : Nat → Int32} : ig_fT (tb_G L xs) 9 49 = some (9, 2) := gf_of (by decide +kernel)
theorem lf_9_40 {L : Nat} {xs : Nat → Int32} : ig_fT (tb_G L xs) 9 40 = some (9, 3) := gf_of (by decide +kernel)
theorem lf_6_59 {L : Nat} {xs : Nat → Int32} : ig_fT (tb_G L xs) 6 59 = some (9, 3) := gf_of (by decide +kernel)
theorem lf_9_18 {L : Nat} {xs : Nat → Int32} : ig_fT (tb_G L xs) 9 18 = some (9, 4) := gf_of (by decide +kernel)
theorem lf_9_22 {L : Nat} {xs : Nat → Int32} : ig_fT (tb_G L xs) 9 22 = some (9, 5) := gf_of (by decide +kernel)
theorem lf_0_11 {L : Nat} {xs : Nat → Int32} : ig_fT (tb_G L xs) 0 11 = some (0, 0) := gf_of (by decide +kernel)
theorem lf_11_186 {L : Nat} {xs : Nat → Int32} : ig_fT (tb_G L xs) 11 186 = some (0, 0) := gf_of (by decide +kernel)
theorem lf_0_17 {L : Nat} {xs : Nat → Int32} : ig_fT (tb_G L xs) 0 17 = some (0, 1) := gf_of (by decide +kernel)
theorem lf_6_124 {L : Nat} {xs : Nat → Int32} : ig_fT (tb_G L xs) 6 124 = some (0, 1) := gf_of (by decide +kernel)
theorem lf_6_121 {L : Nat} {xs : Nat → Int32} : ig_fT (tb_G L xs) 6 121 = some (0, 2) := gf_of (by decide +kernel)
theorem lf_0_86 {L : Nat} {xs : Nat → Int32} : ig_fT (tb_G L xs) 0 86 = some (0, 2) := gf_of (by decide +kernel)
theorem lf_0_122 {L : Nat} {xs : Nat → Int32} : ig_fT (tb_G L xs) 0 122 = some (0, 3) := gf_of (by decide +kernel)
theorem lf_11_240 {L : Nat} {xs : Nat → Int32} : ig_fT (tb_G L xs) 11 240 = some (0, 3) := gf_of (by decide +kernel)
theorem lf_0_118 {L : Nat} {xs : Nat → Int32} : ig_fT (tb_G L xs) 0 118 = some (0, 4) := gf_of (by decide +kernel)
theorem lf_11_244 {L : Nat} {xs : Nat → Int32} : ig_fT (tb_G L xs) 11 244 = some (0, 4) := gf_of (by decide +kernel)
theorem lf_0_20 {L : Nat} {xs : Nat → Int32} : ig_fT (tb_G L xs) 0 20 = some (0, 5) := gf_of (by decide +kernel)
theorem lf_0_32 {L : Nat} {xs : Nat → Int32} : ig_fT (tb_G L xs) 0 32 = some (0, 6) := gf_of (by decide +kernel)
theorem lf_0_23 {L : Nat} {xs : Nat → Int32} : ig_fT (tb_G L xs) 0 23 = some (0, 7) := gf_of (by decide +kernel)
theorem lf_0_26 {L : Nat} {xs : Nat → Int32} : ig_fT (tb_G L xs) 0 26 = some (0, 8) := gf_of (by decide +kernel)
theorem lf_0_73 {L : Nat} {xs : Nat → Int32} : ig_fT (tb_G L xs) 0 73 = some (0, 9) := gf_of (by decide +kernel)
theorem lf_0_29 {L : Nat} {xs : Nat → Int32} : ig_fT (tb_G L xs) 0 29 = some (0, 10) := gf_of (by decide +kernel)
theorem lf_0_115 {L : Nat} {xs : Nat → Int32} : ig_fT (tb_G L xs) 0 115 = some (0, 11) := gf_of (by decide +kernel)
theorem lf_0_132 {L : Nat} {xs : Nat → Int32} : ig_fT (tb_G L xs) 0 132 = some (0, 12) := gf_of (by decide +kernel)
theorem lf_7_11 {L : Nat} {xs : Nat → Int32} : ig_fT (tb_G L xs) 7 11 = some (7, 0) := gf_of (by decide +kernel)
theorem lf_4_36 {L : Nat} {xs : Nat → Int32} : ig_fT (tb_G L xs) 4 36 = some (7, 0) := gf_of (by decide +kernel)
theorem lf_7_107 {L : Nat} {xs : Nat → Int32} : ig_fT (tb_G L xs) 7 107 = some (7, 1) := gf_of (by decide +kernel)
theorem lf_11_227 {L : Nat} {xs : Nat → Int32} : ig_fT (tb_G L xs) 11 227 = some (7, 1) := gf_of (by decide +kernel)
theorem lf_7_110 {L : Nat} {xs : Nat → Int32} : ig_fT (tb_G L xs) 7 110 = some (7, 2) := gf_of (by decide +kernel)
theorem lf_11_230 {L : Nat} {xs : Nat → Int32} : ig_fT (tb_G L xs) 11 230 = some (7, 2) := gf_of (by decide +kernel)
theorem lf_7_17 {L : Nat} {xs : Nat → Int32} : ig_fT (tb_G L xs) 7 17 = some (7, 3) := gf_of (by decide +kernel)
theorem lf_7_21 {L : Nat} {xs : Nat → Int32} : ig_fT (tb_G L xs) 7 21 = some (7, 4) := gf_of (by decide +kernel)
theorem lf_7_81 {L : Nat} {xs : Nat → Int32} : ig_fT (tb_G L xs) 7 81 = some (7, 5) := gf_of (by decide +kernel)
theorem lf_7_104 {L : Nat} {xs : Nat → Int32} : ig_fT (tb_G L xs) 7 104 = some (7, 6) := gf_of (by decide +kernel)
theorem lf_1_11 {L : Nat} {xs : Nat → Int32} : ig_fT (tb_G L xs) 1 11 = some (1, 0) := gf_of (by decide +kernel)
theorem lf_1_15 {L : Nat} {xs : Nat → Int32} : ig_fT (tb_G L xs) 1 15 = some (1, 1) := gf_of (by decide +kernel)
theorem lf_1_19 {L : Nat} {xs : Nat → Int32} : ig_fT (tb_G L xs) 1 19 = some (1, 2) := gf_of (by decide +kernel)
theorem lf_1_22 {L : Nat} {xs : Nat → Int32} : ig_fT (tb_G L xs) 1 22 = some (1, 3) := gf_of (by decide +kernel)
theorem lf_1_25 {L : Nat} {xs : Nat → Int32} : ig_fT (tb_G L xs) 1 25 = some (1, 4) := gf_of (by decide +kernel)
theorem lf_1_28 {L : Nat} {xs : Nat → Int32} : ig_fT (tb_G L xs) 1 28 = some (1, 5) := gf_of (by decide +kernel)
theorem lf_1_31 {L : Nat} {xs : Nat → Int32} : ig_fT (tb_G L xs) 1 31 = some (1, 6) := gf_of (by decide +kernel)
theorem lf_1_34 {L : Nat} {xs : Nat → Int32} : ig_fT (tb_G L xs) 1 34 = some (1, 7) := gf_of (by decide +kernel)
theorem lf_1_37 {L : Nat} {xs : Nat → Int32} : ig_fT (tb_G L xs) 1 37 = some (1, 8) := gf_of (by decide +kernel)
theorem lf_1_40 {L : Nat} {xs : Nat → Int32} : ig_fT (tb_G L xs) 1 40 = some (1, 9) := gf_of (by decide +kernel)
theorem lf_1_64 {L : Nat} {xs : Nat → Int32} : ig_fT (tb_G L xs) 1 64 = some (1, 10) := gf_of (by decide +kernel)
theorem lf_1_53 {L : Nat} {xs : Nat → Int32} : ig_fT (tb_G L xs) 1 53 = some (1, 11) := gf_of (by decide +kernel)
theorem lf_1_57 {L : Nat} {xs : Nat → Int32} : ig_fT (tb_G L xs) 1 57 = some (1, 12) := gf_of (by decide +kernel)
theorem lf_1_67 {L : Nat} {xs : Nat → Int32} : ig_fT (tb_G L xs) 1 67 = some (1, 13) := gf_of (by decide +kernel)
theorem lf_4_12 {L : Nat} {xs : Nat → Int32} : ig_fT (tb_G L xs) 4 12 = some (4, 0) := gf_of (by decide +kernel)
theorem lf_11_223 {L : Nat} {xs : Nat → Int32} : ig_fT (tb_G L xs) 11 223 = some (4, 0) := gf_of (by decide +kernel)
theorem lf_4_74 {L : Nat} {xs : Nat → Int32} : ig_fT (tb_G L xs) 4 74 = some (4, 1) := gf_of (by decide +kernel)
theorem lf_6_127 {L : Nat} {xs : Nat → Int32} : ig_fT (tb_G L xs) 6 127 = some (4, 1) := gf_of (by decide +kernel)
theorem lf_3_151 {L : Nat} {xs : Nat → Int32} : ig_fT (tb_G L xs) 3 151 = some (4, 1) := gf_of (by decide +kernel)
theorem lf_11_214 {L : Nat} {xs : Nat → Int32} : ig_fT (tb_G L xs) 11 214 = some (4, 2) := gf_of (by decide +kernel)
theorem lf_4_154 {L : Nat} {xs : Nat → Int32} : ig_fT (tb_G L xs) 4 154 = some (4, 2) := gf_of (by decide +kernel)
theorem lf_4_55 {L : Nat} {xs : Nat → Int32} : ig_fT (tb_G L xs) 4 55 = some (4, 3) := gf_of (by decide +kernel)
theorem lf_11_217 {L : Nat} {xs : Nat → Int32} : ig_fT (tb_G L xs) 11 217 = some (4, 3) := gf_of (by decide +kernel)
theorem lf_11_220 {L : Nat} {xs : Nat → Int32} : ig_fT (tb_G L xs) 11 220 = some (4, 4) := gf_of (by decide +kernel)
theorem lf_4_161 {L : Nat} {xs : Nat → Int32} : ig_fT (tb_G L xs) 4 161 = some (4, 4) := gf_of (by decide +kernel)
theorem lf_4_21 {L : Nat} {xs : Nat → Int32} : ig_fT (tb_G L xs) 4 21 = some (4, 5) := gf_of (by decide +kernel)
theorem lf_4_71 {L : Nat} {xs : Nat → Int32} : ig_fT (tb_G L xs) 4 71 = some (4, 6) := gf_of (by decide +kernel)
theorem lf_4_25 {L : Nat} {xs : Nat → Int32} : ig_fT (tb_G L xs) 4 25 = some (4, 7) := gf_of (by decide +kernel)
theorem lf_4_29 {L : Nat} {xs : Nat → Int32} : ig_fT (tb_G L xs) 4 29 = some (4, 8) := gf_of (by decide +kernel)
theorem lf_6_19 {L : Nat} {xs : Nat → Int32} : ig_fT (tb_G L xs) 6 19 = some (6, 0) := gf_of (by decide +kernel)
theorem lf_6_23 {L : Nat} {xs : Nat → Int32} : ig_fT (tb_G L xs) 6 23 = some (6, 1) := gf_of (by decide +kernel)
theorem lf_6_27 {L : Nat} {xs : Nat → Int32} : ig_fT (tb_G L xs) 6 27 = some (6, 2) := gf_of (by decide +kernel)
theorem lf_6_9 {L : Nat} {xs : Nat → Int32} : ig_fT (tb_G L xs) 6 9 = some (6, 3) := gf_of (by decide +kernel)
theorem lf_6_16 {L : Nat} {xs : Nat → Int32} : ig_fT (tb_G L xs) 6 16 = some (6, 4) := gf_of (by decide +kernel)
theorem lf_6_43 {L : Nat} {xs : Nat → Int32} : ig_fT (tb_G L xs) 6 43 = some (6, 5) := gf_of (by decide +kernel)
theorem lf_6_47 {L : Nat} {xs : Nat → Int32} : ig_fT (tb_G L xs) 6 47 = some (6, 6) := gf_of (by decide +kernel)
theorem lf_6_50 {L : Nat} {xs : Nat → Int32} : ig_fT (tb_G L xs) 6 50 = some (6, 7) := gf_of (by decide +kernel)
theorem lf_3_41 {L : Nat} {xs : Nat → Int32} : ig_fT (tb_G L xs) 3 41 = some (3, 0) := gf_of (by decide +kernel)
theorem lf_11_146 {L : Nat} {xs : Nat → Int32} : ig_fT (tb_G L xs) 11 146 = some (3, 0) := gf_of (by decide +kernel)
theorem lf_3_37 {L : Nat} {xs : Nat → Int32} : ig_fT (tb_G L xs) 3 37 = some (3, 1) := gf_of (by decide +kernel)
theorem lf_3_14 {L : Nat} {xs : Nat → Int32} : ig_fT (tb_G L xs) 3 14 = some (3, 2) := gf_of (by decide +kernel)
theorem lf_3_19 {L : Nat} {xs : Nat → Int32} : ig_fT (tb_G L xs) 3 19 = some (3, 3) := gf_of (by decide +kernel)
theorem lf_3_23 {L : Nat} {xs : Nat → Int32} : ig_fT (tb_G L xs) 3 23 = some (3, 4) := gf_of (by decide +kernel)
theorem lf_3_27 {L : Nat} {xs : Nat → Int32} : ig_fT (tb_G L xs) 3 27 = some (3, 5) := gf_of (by decide +kernel)
theorem lf_3_30 {L : Nat} {xs : Nat → Int32} : ig_fT (tb_G L xs) 3 30 = some (3, 6) := gf_of (by decide +kernel)
theorem lf_3_34 {L : Nat} {xs : Nat → Int32} : ig_fT (tb_G L xs) 3 34 = some (3, 7) := gf_of (by decide +kernel)
theorem lf_3_45 {L : Nat} {xs : Nat → Int32} : ig_fT (tb_G L xs) 3 45 = some (3, 8) := gf_of (by decide +kernel)
theorem lf_3_66 {L : Nat} {xs : Nat → Int32} : ig_fT (tb_G L xs) 3 66 = some (3, 9) := gf_of (by decide +kernel)
theorem lf_3_48 {L : Nat} {xs : Nat → Int32} : ig_fT (tb_G L xs) 3 48 = some (3, 10) := gf_of (by decide +kernel)
theorem lf_11_10 {L : Nat} {xs : Nat → Int32} : ig_fT (tb_G L xs) 11 10 = some (11, 0) := gf_of (by decide +kernel)
theorem lf_11_21 {L : Nat} {xs : Nat → Int32} : ig_fT (tb_G L xs) 11 21 = some (11, 1) := gf_of (by decide +kernel)
theorem lf_11_30 {L : Nat} {xs : Nat → Int32} : ig_fT (tb_G L xs) 11 30 = some (11, 2) := gf_of (by decide +kernel)
theorem lf_11_37 {L : Nat} {xs : Nat → Int32} : ig_fT (tb_G L xs) 11 37 = some (11, 3) := gf_of (by decide +kernel)
theorem lf_11_60 {L : Nat} {xs : Nat → Int32} : ig_fT (tb_G L xs) 11 60 = some (11, 4) := gf_of (by decide +kernel)
theorem lf_11_44 {L : Nat} {xs : Nat → Int32} : ig_fT (tb_G L xs) 11 44 = some (11, 5) := gf_of (by decide +kernel)
theorem lf_11_51 {L : Nat} {xs : Nat → Int32} : ig_fT (tb_G L xs) 11 51 = some (11, 6) := gf_of (by decide +kernel)
theorem lf_11_69 {L : Nat} {xs : Nat → Int32} : ig_fT (tb_G L xs) 11 69 = some (11, 7) := gf_of (by decide +kernel)
theorem lf_11_73 {L : Nat} {xs : Nat → Int32} : ig_fT (tb_G L xs) 11 73 = some (11, 8) := gf_of (by decide +kernel)
theorem lf_11_149 {L : Nat} {xs : Nat → Int32} : ig_fT (tb_G L xs) 11 149 = some (11, 9) := gf_of (by decide +kernel)
theorem lf_11_77 {L : Nat} {xs : Nat → Int32} : ig_fT (tb_G L xs) 11 77 = some (11, 10) := gf_of (by decide +kernel)
theorem lf_11_80 {L : Nat} {xs : Nat → Int32} : ig_fT (tb_G L xs) 11 80 = some (11, 11) := gf_of (by decide +kernel)
theorem lf_11_231 {L : Nat} {xs : Nat → Int32} : ig_fT (tb_G L xs) 11 231 = some (11, 12) := gf_of (by decide +kernel)
theorem lf_15_65 {L : Nat} {xs : Nat → Int32} : ig_fT (tb_G L xs) 15 65 = some (15, 0) := gf_of (by decide +kernel)
theorem lf_15_7 {L : Nat} {xs : Nat → Int32} : ig_fT (tb_G L xs) 15 7 = some (15, 1) := gf_of (by decide +kernel)
theorem lf_15_68 {L : Nat} {xs : Nat → Int32} : ig_fT (tb_G L xs) 15 68 = some (15, 2) := gf_of (by decide +kernel)
theorem lf_15_13 {L : Nat} {xs : Nat → Int32} : ig_fT (tb_G L xs) 15 13 = some (15, 3) := gf_of (by decide +kernel)
theorem lf_15_16 {L : Nat} {xs : Nat → Int32} : ig_fT (tb_G L xs) 15 16 = some (15, 4) := gf_of (by decide +kernel)
theorem lf_15_19 {L : Nat} {xs : Nat → Int32} : ig_fT (tb_G L xs) 15 19 = some (15, 5) := gf_of (by decide +kernel)
theorem lf_15_22 {L : Nat} {xs : Nat → Int32} : ig_fT (tb_G L xs) 15 22 = some (15, 6) := gf_of (by decide +kernel)
theorem lf_15_25 {L : Nat} {xs : Nat → Int32} : ig_fT (tb_G L xs) 15 25 = some (15, 7) := gf_of (by decide +kernel)
theorem lf_15_73 {L : Nat} {xs : Nat → Int32} : ig_fT (tb_G L xs) 15 73 = some (15, 8) := gf_of (by decide +kernel)
theorem lf_15_183 {L : Nat} {xs : Nat → Int32} : ig_fT (tb_G L xs) 15 183 = some (15, 9) := gf_of (by decide +kernel)
theorem lf_15_216 {L : Nat} {xs : Nat → Int32} : ig_fT (tb_G L xs) 15 216 = some (15, 10) := gf_of (by decide +kernel)
theorem lf_15_210 {L : Nat} {xs : Nat → Int32} : ig_fT (tb_G L xs) 15 210 = some (15, 11) := gf_of (by decide +kernel)
theorem lf_15_213 {L : Nat} {xs : Nat → Int32} : ig_fT (tb_G L xs) 15 213 = some (15, 12) := gf_of (by decide +kernel)
theorem lf_15_249 {L : Nat} {xs : Nat → Int32} : ig_fT (tb_G L xs) 15 249 = some (15, 13) := gf_of (by decide +kernel)
theorem lf_15_28 {L : Nat} {xs : Nat → Int32} : ig_fT (tb_G L xs) 15 28 = some (15, 14) := gf_of (by decide +kernel)
theorem lf_15_32 {L : Nat} {xs : Nat → Int32} : ig_fT (tb_G L xs) 15 32 = some (15, 15) := gf_of (by decide +kernel)
theorem lf_15_35 {L : Nat} {xs : Nat → Int32} : ig_fT (tb_G L xs) 15 35 = some (15, 16) := gf_of (by decide +kernel)
theorem lf_15_101 {L : Nat} {xs : Nat → Int32} : ig_fT (tb_G L xs) 15 101 = some (15, 17) := gf_of (by decide +kernel)
theorem lf_15_180 {L : Nat} {xs : Nat → Int32} : ig_fT (tb_G L xs) 15 180 = some (15, 18) := gf_of (by decide +kernel)
theorem lf_15_219 {L : Nat} {xs : Nat → Int32} : ig_fT (tb_G L xs) 15 219 = some (15, 19) := gf_of (by decide +kernel)
theorem lf_15_222 {L : Nat} {xs : Nat → Int32} : ig_fT (tb_G L xs) 15 222 = some (15, 20) := gf_of (by decide +kernel)
theorem lf_15_207 {L : Nat} {xs : Nat → Int32} : ig_fT (tb_G L xs) 15 207 = some (15, 21) := gf_of (by decide +kernel)
theorem lf_15_107 {L : Nat} {xs : Nat → Int32} : ig_fT (tb_G L xs) 15 107 = some (15, 22) := gf_of (by decide +kernel)
theorem lf_15_110 {L : Nat} {xs : Nat → Int32} : ig_fT (tb_G L xs) 15 110 = some (15, 23) := gf_of (by decide +kernel)
theorem lf_15_38 {L : Nat} {xs : Nat → Int32} : ig_fT (tb_G L xs) 15 38 = some (15, 24) := gf_of (by decide +kernel)
theorem lf_15_113 {L : Nat} {xs : Nat → Int32} : ig_fT (tb_G L xs) 15 113 = some (15, 25) := gf_of (by decide +kernel)
theorem lf_15_123 {L : Nat} {xs : Nat → Int32} : ig_fT (tb_G L xs) 15 123 = some (15, 26) := gf_of (by decide +kernel)
theorem lf_15_41 {L : Nat} {xs : Nat → Int32} : ig_fT (tb_G L xs) 15 41 = some (15, 27) := gf_of (by decide +kernel)
theorem lf_15_44 {L : Nat} {xs : Nat → Int32} : ig_fT (tb_G L xs) 15 44 = some (15, 28) := gf_of (by decide +kernel)
theorem lf_15_47 {L : Nat} {xs : Nat → Int32} : ig_fT (tb_G L xs) 15 47 = some (15, 29) := gf_of (by decide +kernel)
theorem lf_15_50 {L : Nat} {xs : Nat → Int32} : ig_fT (tb_G L xs) 15 50 = some (15, 30) := gf_of (by decide +kernel)
theorem lf_15_53 {L : Nat} {xs : Nat → Int32} : ig_fT (tb_G L xs) 15 53 = some (15, 31) := gf_of (by decide +kernel)
theorem lf_15_132 {L : Nat} {xs : Nat → Int32} : ig_fT (tb_G L xs) 15 132 = some (15, 32) := gf_of (by decide +kernel)
theorem lf_15_136 {L : Nat} {xs : Nat → Int32} : ig_fT (tb_G L xs) 15 136 = some (15, 33) := gf_of (by decide +kernel)
theorem lf_15_126 {L : Nat} {xs : Nat → Int32} : ig_fT (tb_G L xs) 15 126 = some (15, 34) := gf_of (by decide +kernel)
theorem lf_15_204 {L : Nat} {xs : Nat → Int32} : ig_fT (tb_G L xs) 15 204 = some (15, 35) := gf_of (by decide +kernel)
theorem lf_15_56 {L : Nat} {xs : Nat → Int32} : ig_fT (tb_G L xs) 15 56 = some (15, 36) := gf_of (by decide +kernel)
theorem lf_15_155 {L : Nat} {xs : Nat → Int32} : ig_fT (tb_G L xs) 15 155 = some (15, 37) := gf_of (by decide +kernel)
theorem lf_15_59 {L : Nat} {xs : Nat → Int32} : ig_fT (tb_G L xs) 15 59 = some (15, 38) := gf_of (by decide +kernel)
theorem lf_15_62 {L : Nat} {xs : Nat → Int32} : ig_fT (tb_G L xs) 15 62 = some (15, 39) := gf_of (by decide +kernel)
theorem lf_12_37 {L : Nat} {xs : Nat → Int32} : ig_fT (tb_G L xs) 12 37 = some (12, 0) := gf_of (by decide +kernel)
theorem lf_12_7 {L : Nat} {xs : Nat → Int32} : ig_fT (tb_G L xs) 12 7 = some (12, 1) := gf_of (by decide +kernel)
theorem lf_12_13 {L : Nat} {xs : Nat → Int32} : ig_fT (tb_G L xs) 12 13 = some (12, 2) := gf_of (by decide +kernel)
theorem lf_12_44 {L : Nat} {xs : Nat → Int32} : ig_fT (tb_G L xs) 12 44 = some (12, 3) := gf_of (by decide +kernel)
theorem lf_12_17 {L : Nat} {xs : Nat → Int32} : ig_fT (tb_G L xs) 12 17 = some (12, 4) := gf_of (by decide +kernel)
theorem lf_12_21 {L : Nat} {xs : Nat → Int32} : ig_fT (tb_G L xs) 12 21 = some (12, 5) := gf_of (by decide +kernel)
theorem lf_12_24 {L : Nat} {xs : Nat → Int32} : ig_fT (tb_G L xs) 12 24 = some (12, 6) := gf_of (by decide +kernel)
theorem lf_12_47 {L : Nat} {xs : Nat → Int32} : ig_fT (tb_G L xs) 12 47 = some (12, 7) := gf_of (by decide +kernel)
theorem lf_12_27 {L : Nat} {xs : Nat → Int32} : ig_fT (tb_G L xs) 12 27 = some (12, 8) := gf_of (by decide +kernel)
theorem lf_12_30 {L : Nat} {xs : Nat → Int32} : ig_fT (tb_G L xs) 12 30 = some (12, 9) := gf_of (by decide +kernel)
theorem lf_12_52 {L : Nat} {xs : Nat → Int32} : ig_fT (tb_G L xs) 12 52 = some (12, 10) := gf_of (by decide +kernel)
theorem lf_12_58 {L : Nat} {xs : Nat → Int32} : ig_fT (tb_G L xs) 12 58 = some (12, 11) := gf_of (by decide +kernel)
theorem lf_12_55 {L : Nat} {xs : Nat → Int32} : ig_fT (tb_G L xs) 12 55 = some (12, 12) := gf_of (by decide +kernel)
theorem lf_12_61 {L : Nat} {xs : Nat → Int32} : ig_fT (tb_G L xs) 12 61 = some (12, 13) := gf_of (by decide +kernel)
theorem lf_12_64 {L : Nat} {xs : Nat → Int32} : ig_fT (tb_G L xs) 12 64 = some (12, 14) := gf_of (by decide +kernel)
theorem lf_12_75 {L : Nat} {xs : Nat → Int32} : ig_fT (tb_G L xs) 12 75 = some (12, 15) := gf_of (by decide +kernel)
theorem lf_12_78 {L : Nat} {xs : Nat → Int32} : ig_fT (tb_G L xs) 12 78 = some (12, 16) := gf_of (by decide +kernel)
theorem lf_12_33 {L : Nat} {xs : Nat → Int32} : ig_fT (tb_G L xs) 12 33 = some (12, 17) := gf_of (by decide +kernel)
theorem lf_13_113 {L : Nat} {xs : Nat → Int32} : ig_fT (tb_G L xs) 13 113 = some (13, 0) := gf_of (by decide +kernel)
theorem lf_13_119 {L : Nat} {xs : Nat → Int32} : ig_fT (tb_G L xs) 13 119 = some (13, 1) := gf_of (by decide +kernel)
theorem lf_13_122 {L : Nat} {xs : Nat → Int32} : ig_fT (tb_G L xs) 13 122 = some (13, 2) := gf_of (by decide +kernel)
theorem lf_13_149 {L : Nat} {xs : Nat → Int32} : ig_fT (tb_G L xs) 13 149 = some (13, 3) := gf_of (by decide +kernel)
theorem lf_13_125 {L : Nat} {xs : Nat → Int32} : ig_fT (tb_G L xs) 13 125 = some (13, 4) := gf_of (by decide +kernel)
theorem lf_13_157 {L : Nat} {xs : Nat → Int32} : ig_fT (tb_G L xs) 13 157 = some (13, 5) := gf_of (by decide +kernel)
theorem lf_13_128 {L : Nat} {xs : Nat → Int32} : ig_fT (tb_G L xs) 13 128 = some (13, 6) := gf_of (by decide +kernel)
theorem lf_13_131 {L : Nat} {xs : Nat → Int32} : ig_fT (tb_G L xs) 13 131 = some (13, 7) := gf_of (by decide +kernel)
theorem lf_13_188 {L : Nat} {xs : Nat → Int32} : ig_fT (tb_G L xs) 13 188 = some (13, 8) := gf_of (by decide +kernel)
theorem lf_13_134 {L : Nat} {xs : Nat → Int32} : ig_fT (tb_G L xs) 13 134 = some (13, 9) := gf_of (by decide +kernel)
theorem lf_13_202 {L : Nat} {xs : Nat → Int32} : ig_fT (tb_G L xs) 13 202 = some (13, 10) := gf_of (by decide +kernel)
theorem lf_13_137 {L : Nat} {xs : Nat → Int32} : ig_fT (tb_G L xs) 13 137 = some (13, 11) := gf_of (by decide +kernel)
theorem lf_13_140 {L : Nat} {xs : Nat → Int32} : ig_fT (tb_G L xs) 13 140 = some (13, 12) := gf_of (by decide +kernel)
theorem lf_13_143 {L : Nat} {xs : Nat → Int32} : ig_fT (tb_G L xs) 13 143 = some (13, 13) := gf_of (by decide +kernel)
theorem lf_13_270 {L : Nat} {xs : Nat → Int32} : ig_fT (tb_G L xs) 13 270 = some (13, 14) := gf_of (by decide +kernel)
theorem lf_13_266 {L : Nat} {xs : Nat → Int32} : ig_fT (tb_G L xs) 13 266 = some (13, 15) := gf_of (by decide +kernel)
theorem lf_13_146 {L : Nat} {xs : Nat → Int32} : ig_fT (tb_G L xs) 13 146 = some (13, 16) := gf_of (by decide +kernel)
theorem lf_13_250 {L : Nat} {xs : Nat → Int32} : ig_fT (tb_G L xs) 13 250 = some (13, 17) := gf_of (by decide +kernel)
theorem lf_16_73 {L : Nat} {xs : Nat → Int32} : ig_fT (tb_G L xs) 16 73 = some (16, 0) := gf_of (by decide +kernel)
theorem lf_16_7 {L : Nat} {xs : Nat → Int32} : ig_fT (tb_G L xs) 16 7 = some (16, 1) := gf_of (by decide +kernel)
theorem lf_16_13 {L : Nat} {xs : Nat → Int32} : ig_fT (tb_G L xs) 16 13 = some (16, 2) := gf_of (by decide +kernel)
theorem lf_16_16 {L : Nat} {xs : Nat → Int32} : ig_fT (tb_G L xs) 16 16 = some (16, 3) := gf_of (by decide +kernel)
theorem lf_16_77 {L : Nat} {xs : Nat → Int32} : ig_fT (tb_G L xs) 16 77 = some (16, 4) := gf_of (by decide +kernel)
theorem lf_16_19 {L : Nat} {xs : Nat → Int32} : ig_fT (tb_G L xs) 16 19 = some (16, 5) := gf_of (by decide +kernel)
theorem lf_16_22 {L : Nat} {xs : Nat → Int32} : ig_fT (tb_G L xs) 16 22 = some (16, 6) := gf_of (by decide +kernel)
theorem lf_16_229 {L : Nat} {xs : Nat → Int32} : ig_fT (tb_G L xs) 16 229 = some (16, 7) := gf_of (by decide +kernel)
theorem lf_16_163 {L : Nat} {xs : Nat → Int32} : ig_fT (tb_G L xs) 16 163 = some (16, 8) := gf_of (by decide +kernel)
theorem lf_16_246 {L : Nat} {xs : Nat → Int32} : ig_fT (tb_G L xs) 16 246 = some (16, 9) := gf_of (by decide +kernel)
theorem lf_16_25 {L : Nat} {xs : Nat → Int32} : ig_fT (tb_G L xs) 16 25 = some (16, 10) := gf_of (by decide +kernel)
theorem lf_16_28 {L : Nat} {xs : Nat → Int32} : ig_fT (tb_G L xs) 16 28 = some (16, 11) := gf_of (by decide +kernel)
theorem lf_16_31 {L : Nat} {xs : Nat → Int32} : ig_fT (tb_G L xs) 16 31 = some (16, 12) := gf_of (by decide +kernel)
theorem lf_16_127 {L : Nat} {xs : Nat → Int32} : ig_fT (tb_G L xs) 16 127 = some (16, 13) := gf_of (by decide +kernel)
theorem lf_16_34 {L : Nat} {xs : Nat → Int32} : ig_fT (tb_G L xs) 16 34 = some (16, 14) := gf_of (by decide +kernel)
theorem lf_16_37 {L : Nat} {xs : Nat → Int32} : ig_fT (tb_G L xs) 16 37 = some (16, 15) := gf_of (by decide +kernel)
theorem lf_16_121 {L : Nat} {xs : Nat → Int32} : ig_fT (tb_G L xs) 16 121 = some (16, 16) := gf_of (by decide +kernel)
theorem lf_16_40 {L : Nat} {xs : Nat → Int32} : ig_fT (tb_G L xs) 16 40 = some (16, 17) := gf_of (by decide +kernel)
theorem lf_16_43 {L : Nat} {xs : Nat → Int32} : ig_fT (tb_G L xs) 16 43 = some (16, 18) := gf_of (by decide +kernel)
theorem lf_16_124 {L : Nat} {xs : Nat → Int32} : ig_fT (tb_G L xs) 16 124 = some (16, 19) := gf_of (by decide +kernel)
theorem lf_16_46 {L : Nat} {xs : Nat → Int32} : ig_fT (tb_G L xs) 16 46 = some (16, 20) := gf_of (by decide +kernel)
theorem lf_16_49 {L : Nat} {xs : Nat → Int32} : ig_fT (tb_G L xs) 16 49 = some (16, 21) := gf_of (by decide +kernel)
theorem lf_16_52 {L : Nat} {xs : Nat → Int32} : ig_fT (tb_G L xs) 16 52 = some (16, 22) := gf_of (by decide +kernel)
theorem lf_16_55 {L : Nat} {xs : Nat → Int32} : ig_fT (tb_G L xs) 16 55 = some (16, 23) := gf_of (by decide +kernel)
theorem lf_16_58 {L : Nat} {xs : Nat → Int32} : ig_fT (tb_G L xs) 16 58 = some (16, 24) := gf_of (by decide +kernel)
theorem lf_16_61 {L : Nat} {xs : Nat → Int32} : ig_fT (tb_G L xs) 16 61 = some (16, 25) := gf_of (by decide +kernel)
theorem lf_16_64 {L : Nat} {xs : Nat → Int32} : ig_fT (tb_G L xs) 16 64 = some (16, 26) := gf_of (by decide +kernel)
theorem lf_16_67 {L : Nat} {xs : Nat → Int32} : ig_fT (tb_G L xs) 16 67 = some (16, 27) := gf_of (by decide +kernel)
theorem lf_16_288 {L : Nat} {xs : Nat → Int32} : ig_fT (tb_G L xs) 16 288 = some (16, 28) := gf_of (by decide +kernel)
theorem lf_16_279 {L : Nat} {xs : Nat → Int32} : ig_fT (tb_G L xs) 16 279 = some (16, 29) := gf_of (by decide +kernel)
theorem lf_16_282 {L : Nat} {xs : Nat → Int32} : ig_fT (tb_G L xs) 16 282 = some (16, 30) := gf_of (by decide +kernel)
theorem lf_16_285 {L : Nat} {xs : Nat → Int32} : ig_fT (tb_G L xs) 16 285 = some (16, 31) := gf_of (by decide +kernel)
theorem lf_16_303 {L : Nat} {xs : Nat → Int32} : ig_fT (tb_G L xs) 16 303 = some (16, 32) := gf_of (by decide +kernel)
theorem lf_16_70 {L : Nat} {xs : Nat → Int32} : ig_fT (tb_G L xs) 16 70 = some (16, 33) := gf_of (by decide +kernel)
theorem lf_14_35 {L : Nat} {xs : Nat → Int32} : ig_fT (tb_G L xs) 14 35 = some (14, 0) := gf_of (by decide +kernel)
theorem lf_14_7 {L : Nat} {xs : Nat → Int32} : ig_fT (tb_G L xs) 14 7 = some (14, 1) := gf_of (by decide +kernel)
theorem lf_14_13 {L : Nat} {xs : Nat → Int32} : ig_fT (tb_G L xs) 14 13 = some (14, 2) := gf_of (by decide +kernel)
theorem lf_14_17 {L : Nat} {xs : Nat → Int32} : ig_fT (tb_G L xs) 14 17 = some (14, 3) := gf_of (by decide +kernel)
theorem lf_14_22 {L : Nat} {xs : Nat → Int32} : ig_fT (tb_G L xs) 14 22 = some (14, 4) := gf_of (by decide +kernel)
theorem lf_14_26 {L : Nat} {xs : Nat → Int32} : ig_fT (tb_G L xs) 14 26 = some (14, 5) := gf_of (by decide +kernel)
theorem lf_14_85 {L : Nat} {xs : Nat → Int32} : ig_fT (tb_G L xs) 14 85 = some (14, 6) := gf_of (by decide +kernel)
theorem lf_14_29 {L : Nat} {xs : Nat → Int32} : ig_fT (tb_G L xs) 14 29 = some (14, 7) := gf_of (by decide +kernel)
theorem lf_14_38 {L : Nat} {xs : Nat → Int32} : ig_fT (tb_G L xs) 14 38 = some (14, 8) := gf_of (by decide +kernel)
theorem lf_14_32 {L : Nat} {xs : Nat → Int32} : ig_fT (tb_G L xs) 14 32 = some (14, 9) := gf_of (by decide +kernel)
theorem lf_14_41 {L : Nat} {xs : Nat → Int32} : ig_fT (tb_G L xs) 14 41 = some (14, 10) := gf_of (by decide +kernel)
theorem lf_17_58 {L : Nat} {xs : Nat → Int32} : ig_fT (tb_G L xs) 17 58 = some (17, 0) := gf_of (by decide +kernel)
theorem lf_17_7 {L : Nat} {xs : Nat → Int32} : ig_fT (tb_G L xs) 17 7 = some (17, 1) := gf_of (by decide +kernel)
theorem lf_17_61 {L : Nat} {xs : Nat → Int32} : ig_fT (tb_G L xs) 17 61 = some (17, 2) := gf_of (by decide +kernel)
theorem lf_17_16 {L : Nat} {xs : Nat → Int32} : ig_fT (tb_G L xs) 17 16 = some (17, 3) := gf_of (by decide +kernel)
theorem lf_17_23 {L : Nat} {xs : Nat → Int32} : ig_fT (tb_G L xs) 17 23 = some (17, 4) := gf_of (by decide +kernel)
theorem lf_17_30 {L : Nat} {xs : Nat → Int32} : ig_fT (tb_G L xs) 17 30 = some (17, 5) := gf_of (by decide +kernel)
theorem lf_17_37 {L : Nat} {xs : Nat → Int32} : ig_fT (tb_G L xs) 17 37 = some (17, 6) := gf_of (by decide +kernel)
theorem lf_17_44 {L : Nat} {xs : Nat → Int32} : ig_fT (tb_G L xs) 17 44 = some (17, 7) := gf_of (by decide +kernel)
theorem lf_17_48 {L : Nat} {xs : Nat → Int32} : ig_fT (tb_G L xs) 17 48 = some (17, 8) := gf_of (by decide +kernel)
theorem lf_17_197 {L : Nat} {xs : Nat → Int32} : ig_fT (tb_G L xs) 17 197 = some (17, 9) := gf_of (by decide +kernel)
theorem lf_17_51 {L : Nat} {xs : Nat → Int32} : ig_fT (tb_G L xs) 17 51 = some (17, 10) := gf_of (by decide +kernel)
theorem lf_17_55 {L : Nat} {xs : Nat → Int32} : ig_fT (tb_G L xs) 17 55 = some (17, 11) := gf_of (by decide +kernel)
theorem lf_17_229 {L : Nat} {xs : Nat → Int32} : ig_fT (tb_G L xs) 17 229 = some (17, 12) := gf_of (by decide +kernel)
theorem lc_18_67 {L : Nat} {xs : Nat → Int32} : ig_cal (tb_G L xs) 18 67 = some 0 := gc_of (by decide +kernel)
theorem lc_11_18 {L : Nat} {xs : Nat → Int32} : ig_cal (tb_G L xs) 11 18 = some 2 := gc_of (by decide +kernel)
theorem lc_11_27 {L : Nat} {xs : Nat → Int32} : ig_cal (tb_G L xs) 11 27 = some 3 := gc_of (by decide +kernel)
theorem lc_8_37 {L : Nat} {xs : Nat → Int32} : ig_cal (tb_G L xs) 8 37 = some 2 := gc_of (by decide +kernel)
theorem lc_4_20 {L : Nat} {xs : Nat → Int32} : ig_cal (tb_G L xs) 4 20 = some 9 := gc_of (by decide +kernel)
theorem lc_11_57 {L : Nat} {xs : Nat → Int32} : ig_cal (tb_G L xs) 11 57 = some 10 := gc_of (by decide +kernel)
theorem lc_11_66 {L : Nat} {xs : Nat → Int32} : ig_cal (tb_G L xs) 11 66 = some 11 := gc_of (by decide +kernel)
theorem lc_18_83 {L : Nat} {xs : Nat → Int32} : ig_cal (tb_G L xs) 18 83 = some 12 := gc_of (by decide +kernel)
theorem lc_18_94 {L : Nat} {xs : Nat → Int32} : ig_cal (tb_G L xs) 18 94 = some 13 := gc_of (by decide +kernel)
theorem lc_11_109 {L : Nat} {xs : Nat → Int32} : ig_cal (tb_G L xs) 11 109 = some 14 := gc_of (by decide +kernel)
theorem lc_8_69 {L : Nat} {xs : Nat → Int32} : ig_cal (tb_G L xs) 8 69 = some 15 := gc_of (by decide +kernel)
theorem lc_8_72 {L : Nat} {xs : Nat → Int32} : ig_cal (tb_G L xs) 8 72 = some 16 := gc_of (by decide +kernel)
theorem lc_10_47 {L : Nat} {xs : Nat → Int32} : ig_cal (tb_G L xs) 10 47 = some 17 := gc_of (by decide +kernel)
theorem lc_10_51 {L : Nat} {xs : Nat → Int32} : ig_cal (tb_G L xs) 10 51 = some 18 := gc_of (by decide +kernel)
theorem lc_8_75 {L : Nat} {xs : Nat → Int32} : ig_cal (tb_G L xs) 8 75 = some 17 := gc_of (by decide +kernel)
theorem lc_8_85 {L : Nat} {xs : Nat → Int32} : ig_cal (tb_G L xs) 8 85 = some 18 := gc_of (by decide +kernel)
theorem lc_8_88 {L : Nat} {xs : Nat → Int32} : ig_cal (tb_G L xs) 8 88 = some 19 := gc_of (by decide +kernel)
theorem lc_8_93 {L : Nat} {xs : Nat → Int32} : ig_cal (tb_G L xs) 8 93 = some 20 := gc_of (by decide +kernel)
theorem lc_19_633 {L : Nat} {xs : Nat → Int32} : ig_cal (tb_G L xs) 19 633 = some 21 := gc_of (by decide +kernel)
theorem lc_19_492 {L : Nat} {xs : Nat → Int32} : ig_cal (tb_G L xs) 19 492 = some 22 := gc_of (by decide +kernel)
theorem lc_19_505 {L : Nat} {xs : Nat → Int32} : ig_cal (tb_G L xs) 19 505 = some 23 := gc_of (by decide +kernel)
theorem lc_19_335 {L : Nat} {xs : Nat → Int32} : ig_cal (tb_G L xs) 19 335 = some 24 := gc_of (by decide +kernel)
theorem lc_19_637 {L : Nat} {xs : Nat → Int32} : ig_cal (tb_G L xs) 19 637 = some 25 := gc_of (by decide +kernel)
theorem lc_20_88 {L : Nat} {xs : Nat → Int32} : ig_cal (tb_G L xs) 20 88 = some 26 := gc_of (by decide +kernel)
theorem lc_20_92 {L : Nat} {xs : Nat → Int32} : ig_cal (tb_G L xs) 20 92 = some 27 := gc_of (by decide +kernel)
theorem lc_20_38 {L : Nat} {xs : Nat → Int32} : ig_cal (tb_G L xs) 20 38 = some 28 := gc_of (by decide +kernel)
theorem lc_20_95 {L : Nat} {xs : Nat → Int32} : ig_cal (tb_G L xs) 20 95 = some 29 := gc_of (by decide +kernel)
theorem lc_8_99 {L : Nat} {xs : Nat → Int32} : ig_cal (tb_G L xs) 8 99 = some 31 := gc_of (by decide +kernel)
theorem lc_8_103 {L : Nat} {xs : Nat → Int32} : ig_cal (tb_G L xs) 8 103 = some 32 := gc_of (by decide +kernel)
theorem lc_8_106 {L : Nat} {xs : Nat → Int32} : ig_cal (tb_G L xs) 8 106 = some 33 := gc_of (by decide +kernel)
theorem lc_10_54 {L : Nat} {xs : Nat → Int32} : ig_cal (tb_G L xs) 10 54 = some 34 := gc_of (by decide +kernel)
theorem lc_10_58 {L : Nat} {xs : Nat → Int32} : ig_cal (tb_G L xs) 10 58 = some 35 := gc_of (by decide +kernel)
theorem lc_8_113 {L : Nat} {xs : Nat → Int32} : ig_cal (tb_G L xs) 8 113 = some 36 := gc_of (by decide +kernel)
theorem lc_8_116 {L : Nat} {xs : Nat → Int32} : ig_cal (tb_G L xs) 8 116 = some 37 := gc_of (by decide +kernel)
theorem lc_8_119 {L : Nat} {xs : Nat → Int32} : ig_cal (tb_G L xs) 8 119 = some 38 := gc_of (by decide +kernel)
theorem lc_10_64 {L : Nat} {xs : Nat → Int32} : ig_cal (tb_G L xs) 10 64 = some 39 := gc_of (by decide +kernel)
theorem lc_10_67 {L : Nat} {xs : Nat → Int32} : ig_cal (tb_G L xs) 10 67 = some 40 := gc_of (by decide +kernel)
theorem lc_8_122 {L : Nat} {xs : Nat → Int32} : ig_cal (tb_G L xs) 8 122 = some 41 := gc_of (by decide +kernel)
theorem lc_8_137 {L : Nat} {xs : Nat → Int32} : ig_cal (tb_G L xs) 8 137 = some 42 := gc_of (by decide +kernel)
theorem lc_8_143 {L : Nat} {xs : Nat → Int32} : ig_cal (tb_G L xs) 8 143 = some 43 := gc_of (by decide +kernel)
theorem lc_2_108 {L : Nat} {xs : Nat → Int32} : ig_cal (tb_G L xs) 2 108 = some 44 := gc_of (by decide +kernel)
theorem lc_2_111 {L : Nat} {xs : Nat → Int32} : ig_cal (tb_G L xs) 2 111 = some 45 := gc_of (by decide +kernel)
theorem lc_2_115 {L : Nat} {xs : Nat → Int32} : ig_cal (tb_G L xs) 2 115 = some 46 := gc_of (by decide +kernel)
theorem lc_8_146 {L : Nat} {xs : Nat → Int32} : ig_cal (tb_G L xs) 8 146 = some 47 := gc_of (by decide +kernel)
theorem lc_2_56 {L : Nat} {xs : Nat → Int32} : ig_cal (tb_G L xs) 2 56 = some 35 := gc_of (by decide +kernel)
theorem lc_2_60 {L : Nat} {xs : Nat → Int32} : ig_cal (tb_G L xs) 2 60 = some 48 := gc_of (by decide +kernel)
theorem lc_2_64 {L : Nat} {xs : Nat → Int32} : ig_cal (tb_G L xs) 2 64 = some 49 := gc_of (by decide +kernel)
theorem lc_2_67 {L : Nat} {xs : Nat → Int32} : ig_cal (tb_G L xs) 2 67 = some 40 := gc_of (by decide +kernel)
theorem lc_8_149 {L : Nat} {xs : Nat → Int32} : ig_cal (tb_G L xs) 8 149 = some 50 := gc_of (by decide +kernel)
theorem lc_2_71 {L : Nat} {xs : Nat → Int32} : ig_cal (tb_G L xs) 2 71 = some 51 := gc_of (by decide +kernel)
theorem lc_2_90 {L : Nat} {xs : Nat → Int32} : ig_cal (tb_G L xs) 2 90 = some 52 := gc_of (by decide +kernel)
theorem lc_5_20 {L : Nat} {xs : Nat → Int32} : ig_cal (tb_G L xs) 5 20 = some 53 := gc_of (by decide +kernel)
theorem lc_22_13 {L : Nat} {xs : Nat → Int32} : ig_cal (tb_G L xs) 22 13 = some 54 := gc_of (by decide +kernel)
theorem lc_22_304 {L : Nat} {xs : Nat → Int32} : ig_cal (tb_G L xs) 22 304 = some 28 := gc_of (by decide +kernel)
theorem lc_19_106 {L : Nat} {xs : Nat → Int32} : ig_cal (tb_G L xs) 19 106 = some 56 := gc_of (by decide +kernel)
theorem lc_19_54 {L : Nat} {xs : Nat → Int32} : ig_cal (tb_G L xs) 19 54 = some 61 := gc_of (by decide +kernel)
theorem lc_22_339 {L : Nat} {xs : Nat → Int32} : ig_cal (tb_G L xs) 22 339 = some 62 := gc_of (by decide +kernel)
theorem lc_22_343 {L : Nat} {xs : Nat → Int32} : ig_cal (tb_G L xs) 22 343 = some 63 := gc_of (by decide +kernel)
theorem lc_2_101 {L : Nat} {xs : Nat → Int32} : ig_cal (tb_G L xs) 2 101 = some 64 := gc_of (by decide +kernel)
theorem lc_2_94 {L : Nat} {xs : Nat → Int32} : ig_cal (tb_G L xs) 2 94 = some 65 := gc_of (by decide +kernel)
theorem lc_2_98 {L : Nat} {xs : Nat → Int32} : ig_cal (tb_G L xs) 2 98 = some 66 := gc_of (by decide +kernel)
theorem lc_2_75 {L : Nat} {xs : Nat → Int32} : ig_cal (tb_G L xs) 2 75 = some 67 := gc_of (by decide +kernel)
theorem lc_2_87 {L : Nat} {xs : Nat → Int32} : ig_cal (tb_G L xs) 2 87 = some 68 := gc_of (by decide +kernel)
theorem lc_8_159 {L : Nat} {xs : Nat → Int32} : ig_cal (tb_G L xs) 8 159 = some 69 := gc_of (by decide +kernel)
theorem lc_8_125 {L : Nat} {xs : Nat → Int32} : ig_cal (tb_G L xs) 8 125 = some 70 := gc_of (by decide +kernel)
theorem lc_8_165 {L : Nat} {xs : Nat → Int32} : ig_cal (tb_G L xs) 8 165 = some 71 := gc_of (by decide +kernel)
theorem lc_8_169 {L : Nat} {xs : Nat → Int32} : ig_cal (tb_G L xs) 8 169 = some 72 := gc_of (by decide +kernel)
theorem lc_8_222 {L : Nat} {xs : Nat → Int32} : ig_cal (tb_G L xs) 8 222 = some 73 := gc_of (by decide +kernel)
theorem lc_8_172 {L : Nat} {xs : Nat → Int32} : ig_cal (tb_G L xs) 8 172 = some 74 := gc_of (by decide +kernel)
theorem lc_8_175 {L : Nat} {xs : Nat → Int32} : ig_cal (tb_G L xs) 8 175 = some 75 := gc_of (by decide +kernel)
theorem lc_8_238 {L : Nat} {xs : Nat → Int32} : ig_cal (tb_G L xs) 8 238 = some 76 := gc_of (by decide +kernel)
theorem lc_5_36 {L : Nat} {xs : Nat → Int32} : ig_cal (tb_G L xs) 5 36 = some 77 := gc_of (by decide +kernel)
theorem lc_5_40 {L : Nat} {xs : Nat → Int32} : ig_cal (tb_G L xs) 5 40 = some 78 := gc_of (by decide +kernel)
theorem lc_5_52 {L : Nat} {xs : Nat → Int32} : ig_cal (tb_G L xs) 5 52 = some 79 := gc_of (by decide +kernel)
theorem lc_5_44 {L : Nat} {xs : Nat → Int32} : ig_cal (tb_G L xs) 5 44 = some 40 := gc_of (by decide +kernel)
theorem lc_8_184 {L : Nat} {xs : Nat → Int32} : ig_cal (tb_G L xs) 8 184 = some 80 := gc_of (by decide +kernel)
theorem lc_8_187 {L : Nat} {xs : Nat → Int32} : ig_cal (tb_G L xs) 8 187 = some 81 := gc_of (by decide +kernel)
theorem lc_8_206 {L : Nat} {xs : Nat → Int32} : ig_cal (tb_G L xs) 8 206 = some 82 := gc_of (by decide +kernel)
theorem lc_8_228 {L : Nat} {xs : Nat → Int32} : ig_cal (tb_G L xs) 8 228 = some 83 := gc_of (by decide +kernel)
theorem lc_11_113 {L : Nat} {xs : Nat → Int32} : ig_cal (tb_G L xs) 11 113 = some 84 := gc_of (by decide +kernel)
theorem lc_18_98 {L : Nat} {xs : Nat → Int32} : ig_cal (tb_G L xs) 18 98 = some 85 := gc_of (by decide +kernel)
theorem lc_18_102 {L : Nat} {xs : Nat → Int32} : ig_cal (tb_G L xs) 18 102 = some 86 := gc_of (by decide +kernel)
theorem lc_18_120 {L : Nat} {xs : Nat → Int32} : ig_cal (tb_G L xs) 18 120 = some 87 := gc_of (by decide +kernel)
theorem lc_18_124 {L : Nat} {xs : Nat → Int32} : ig_cal (tb_G L xs) 18 124 = some 88 := gc_of (by decide +kernel)
theorem lc_11_156 {L : Nat} {xs : Nat → Int32} : ig_cal (tb_G L xs) 11 156 = some 89 := gc_of (by decide +kernel)
theorem lc_18_136 {L : Nat} {xs : Nat → Int32} : ig_cal (tb_G L xs) 18 136 = some 90 := gc_of (by decide +kernel)
theorem lc_11_178 {L : Nat} {xs : Nat → Int32} : ig_cal (tb_G L xs) 11 178 = some 91 := gc_of (by decide +kernel)
theorem lc_9_55 {L : Nat} {xs : Nat → Int32} : ig_cal (tb_G L xs) 9 55 = some 92 := gc_of (by decide +kernel)
theorem lc_18_161 {L : Nat} {xs : Nat → Int32} : ig_cal (tb_G L xs) 18 161 = some 93 := gc_of (by decide +kernel)
theorem lc_11_138 {L : Nat} {xs : Nat → Int32} : ig_cal (tb_G L xs) 11 138 = some 94 := gc_of (by decide +kernel)
theorem lc_18_7 {L : Nat} {xs : Nat → Int32} : ig_cal (tb_G L xs) 18 7 = some 95 := gc_of (by decide +kernel)
theorem lc_11_87 {L : Nat} {xs : Nat → Int32} : ig_cal (tb_G L xs) 11 87 = some 96 := gc_of (by decide +kernel)
theorem lc_18_15 {L : Nat} {xs : Nat → Int32} : ig_cal (tb_G L xs) 18 15 = some 97 := gc_of (by decide +kernel)
theorem lc_11_95 {L : Nat} {xs : Nat → Int32} : ig_cal (tb_G L xs) 11 95 = some 98 := gc_of (by decide +kernel)
theorem lc_6_31 {L : Nat} {xs : Nat → Int32} : ig_cal (tb_G L xs) 6 31 = some 53 := gc_of (by decide +kernel)
theorem lc_18_19 {L : Nat} {xs : Nat → Int32} : ig_cal (tb_G L xs) 18 19 = some 99 := gc_of (by decide +kernel)
theorem lc_11_99 {L : Nat} {xs : Nat → Int32} : ig_cal (tb_G L xs) 11 99 = some 100 := gc_of (by decide +kernel)
theorem lc_11_106 {L : Nat} {xs : Nat → Int32} : ig_cal (tb_G L xs) 11 106 = some 101 := gc_of (by decide +kernel)
theorem lc_18_24 {L : Nat} {xs : Nat → Int32} : ig_cal (tb_G L xs) 18 24 = some 102 := gc_of (by decide +kernel)
theorem lc_18_28 {L : Nat} {xs : Nat → Int32} : ig_cal (tb_G L xs) 18 28 = some 103 := gc_of (by decide +kernel)
theorem lc_11_131 {L : Nat} {xs : Nat → Int32} : ig_cal (tb_G L xs) 11 131 = some 77 := gc_of (by decide +kernel)
theorem lc_18_31 {L : Nat} {xs : Nat → Int32} : ig_cal (tb_G L xs) 18 31 = some 104 := gc_of (by decide +kernel)
theorem lc_18_35 {L : Nat} {xs : Nat → Int32} : ig_cal (tb_G L xs) 18 35 = some 105 := gc_of (by decide +kernel)
theorem lc_11_142 {L : Nat} {xs : Nat → Int32} : ig_cal (tb_G L xs) 11 142 = some 106 := gc_of (by decide +kernel)
theorem lc_9_25 {L : Nat} {xs : Nat → Int32} : ig_cal (tb_G L xs) 9 25 = some 107 := gc_of (by decide +kernel)
theorem lc_11_152 {L : Nat} {xs : Nat → Int32} : ig_cal (tb_G L xs) 11 152 = some 108 := gc_of (by decide +kernel)
theorem lc_6_39 {L : Nat} {xs : Nat → Int32} : ig_cal (tb_G L xs) 6 39 = some 77 := gc_of (by decide +kernel)
theorem lc_6_62 {L : Nat} {xs : Nat → Int32} : ig_cal (tb_G L xs) 6 62 = some 109 := gc_of (by decide +kernel)
theorem lc_6_111 {L : Nat} {xs : Nat → Int32} : ig_cal (tb_G L xs) 6 111 = some 110 := gc_of (by decide +kernel)
theorem lc_6_114 {L : Nat} {xs : Nat → Int32} : ig_cal (tb_G L xs) 6 114 = some 111 := gc_of (by decide +kernel)
theorem lc_6_118 {L : Nat} {xs : Nat → Int32} : ig_cal (tb_G L xs) 6 118 = some 112 := gc_of (by decide +kernel)
theorem lc_6_107 {L : Nat} {xs : Nat → Int32} : ig_cal (tb_G L xs) 6 107 = some 113 := gc_of (by decide +kernel)
theorem lc_9_31 {L : Nat} {xs : Nat → Int32} : ig_cal (tb_G L xs) 9 31 = some 27 := gc_of (by decide +kernel)
theorem lc_9_37 {L : Nat} {xs : Nat → Int32} : ig_cal (tb_G L xs) 9 37 = some 28 := gc_of (by decide +kernel)
theorem lc_9_45 {L : Nat} {xs : Nat → Int32} : ig_cal (tb_G L xs) 9 45 = some 114 := gc_of (by decide +kernel)
theorem lc_6_70 {L : Nat} {xs : Nat → Int32} : ig_cal (tb_G L xs) 6 70 = some 115 := gc_of (by decide +kernel)
theorem lc_0_36 {L : Nat} {xs : Nat → Int32} : ig_cal (tb_G L xs) 0 36 = some 116 := gc_of (by decide +kernel)
theorem lc_0_45 {L : Nat} {xs : Nat → Int32} : ig_cal (tb_G L xs) 0 45 = some 53 := gc_of (by decide +kernel)
theorem lc_0_51 {L : Nat} {xs : Nat → Int32} : ig_cal (tb_G L xs) 0 51 = some 117 := gc_of (by decide +kernel)
theorem lc_0_60 {L : Nat} {xs : Nat → Int32} : ig_cal (tb_G L xs) 0 60 = some 118 := gc_of (by decide +kernel)
theorem lc_0_66 {L : Nat} {xs : Nat → Int32} : ig_cal (tb_G L xs) 0 66 = some 119 := gc_of (by decide +kernel)
theorem lc_0_69 {L : Nat} {xs : Nat → Int32} : ig_cal (tb_G L xs) 0 69 = some 120 := gc_of (by decide +kernel)
theorem lc_0_63 {L : Nat} {xs : Nat → Int32} : ig_cal (tb_G L xs) 0 63 = some 121 := gc_of (by decide +kernel)
theorem lc_0_55 {L : Nat} {xs : Nat → Int32} : ig_cal (tb_G L xs) 0 55 = some 28 := gc_of (by decide +kernel)
theorem lc_0_39 {L : Nat} {xs : Nat → Int32} : ig_cal (tb_G L xs) 0 39 = some 122 := gc_of (by decide +kernel)
theorem lc_0_76 {L : Nat} {xs : Nat → Int32} : ig_cal (tb_G L xs) 0 76 = some 123 := gc_of (by decide +kernel)
theorem lc_0_79 {L : Nat} {xs : Nat → Int32} : ig_cal (tb_G L xs) 0 79 = some 124 := gc_of (by decide +kernel)
theorem lc_0_83 {L : Nat} {xs : Nat → Int32} : ig_cal (tb_G L xs) 0 83 = some 125 := gc_of (by decide +kernel)
theorem lc_0_42 {L : Nat} {xs : Nat → Int32} : ig_cal (tb_G L xs) 0 42 = some 126 := gc_of (by decide +kernel)
theorem lc_0_93 {L : Nat} {xs : Nat → Int32} : ig_cal (tb_G L xs) 0 93 = some 127 := gc_of (by decide +kernel)
theorem lc_6_76 {L : Nat} {xs : Nat → Int32} : ig_cal (tb_G L xs) 6 76 = some 128 := gc_of (by decide +kernel)
theorem lc_6_80 {L : Nat} {xs : Nat → Int32} : ig_cal (tb_G L xs) 6 80 = some 129 := gc_of (by decide +kernel)
theorem lc_0_99 {L : Nat} {xs : Nat → Int32} : ig_cal (tb_G L xs) 0 99 = some 130 := gc_of (by decide +kernel)
theorem lc_0_102 {L : Nat} {xs : Nat → Int32} : ig_cal (tb_G L xs) 0 102 = some 131 := gc_of (by decide +kernel)
theorem lc_6_84 {L : Nat} {xs : Nat → Int32} : ig_cal (tb_G L xs) 6 84 = some 132 := gc_of (by decide +kernel)
theorem lc_4_32 {L : Nat} {xs : Nat → Int32} : ig_cal (tb_G L xs) 4 32 = some 133 := gc_of (by decide +kernel)
theorem lc_7_24 {L : Nat} {xs : Nat → Int32} : ig_cal (tb_G L xs) 7 24 = some 134 := gc_of (by decide +kernel)
theorem lc_7_28 {L : Nat} {xs : Nat → Int32} : ig_cal (tb_G L xs) 7 28 = some 135 := gc_of (by decide +kernel)
theorem lc_7_49 {L : Nat} {xs : Nat → Int32} : ig_cal (tb_G L xs) 7 49 = some 53 := gc_of (by decide +kernel)
theorem lc_7_55 {L : Nat} {xs : Nat → Int32} : ig_cal (tb_G L xs) 7 55 = some 136 := gc_of (by decide +kernel)
theorem lc_7_65 {L : Nat} {xs : Nat → Int32} : ig_cal (tb_G L xs) 7 65 = some 137 := gc_of (by decide +kernel)
theorem lc_7_44 {L : Nat} {xs : Nat → Int32} : ig_cal (tb_G L xs) 7 44 = some 20 := gc_of (by decide +kernel)
theorem lc_7_59 {L : Nat} {xs : Nat → Int32} : ig_cal (tb_G L xs) 7 59 = some 138 := gc_of (by decide +kernel)
theorem lc_7_32 {L : Nat} {xs : Nat → Int32} : ig_cal (tb_G L xs) 7 32 = some 139 := gc_of (by decide +kernel)
theorem lc_1_43 {L : Nat} {xs : Nat → Int32} : ig_cal (tb_G L xs) 1 43 = some 140 := gc_of (by decide +kernel)
theorem lc_7_38 {L : Nat} {xs : Nat → Int32} : ig_cal (tb_G L xs) 7 38 = some 141 := gc_of (by decide +kernel)
theorem lc_7_78 {L : Nat} {xs : Nat → Int32} : ig_cal (tb_G L xs) 7 78 = some 142 := gc_of (by decide +kernel)
theorem lc_7_85 {L : Nat} {xs : Nat → Int32} : ig_cal (tb_G L xs) 7 85 = some 143 := gc_of (by decide +kernel)
theorem lc_7_89 {L : Nat} {xs : Nat → Int32} : ig_cal (tb_G L xs) 7 89 = some 144 := gc_of (by decide +kernel)
theorem lc_7_93 {L : Nat} {xs : Nat → Int32} : ig_cal (tb_G L xs) 7 93 = some 28 := gc_of (by decide +kernel)
theorem lc_7_98 {L : Nat} {xs : Nat → Int32} : ig_cal (tb_G L xs) 7 98 = some 145 := gc_of (by decide +kernel)
theorem lc_7_101 {L : Nat} {xs : Nat → Int32} : ig_cal (tb_G L xs) 7 101 = some 146 := gc_of (by decide +kernel)
theorem lc_4_39 {L : Nat} {xs : Nat → Int32} : ig_cal (tb_G L xs) 4 39 = some 147 := gc_of (by decide +kernel)
theorem lc_1_73 {L : Nat} {xs : Nat → Int32} : ig_cal (tb_G L xs) 1 73 = some 148 := gc_of (by decide +kernel)
theorem lc_1_60 {L : Nat} {xs : Nat → Int32} : ig_cal (tb_G L xs) 1 60 = some 139 := gc_of (by decide +kernel)
theorem lc_1_77 {L : Nat} {xs : Nat → Int32} : ig_cal (tb_G L xs) 1 77 = some 149 := gc_of (by decide +kernel)
theorem lc_1_87 {L : Nat} {xs : Nat → Int32} : ig_cal (tb_G L xs) 1 87 = some 150 := gc_of (by decide +kernel)
theorem lc_1_93 {L : Nat} {xs : Nat → Int32} : ig_cal (tb_G L xs) 1 93 = some 151 := gc_of (by decide +kernel)
theorem lc_1_70 {L : Nat} {xs : Nat → Int32} : ig_cal (tb_G L xs) 1 70 = some 152 := gc_of (by decide +kernel)
theorem lc_1_80 {L : Nat} {xs : Nat → Int32} : ig_cal (tb_G L xs) 1 80 = some 153 := gc_of (by decide +kernel)
theorem lc_1_83 {L : Nat} {xs : Nat → Int32} : ig_cal (tb_G L xs) 1 83 = some 154 := gc_of (by decide +kernel)
theorem lc_1_96 {L : Nat} {xs : Nat → Int32} : ig_cal (tb_G L xs) 1 96 = some 53 := gc_of (by decide +kernel)
theorem lc_4_43 {L : Nat} {xs : Nat → Int32} : ig_cal (tb_G L xs) 4 43 = some 155 := gc_of (by decide +kernel)
theorem lc_4_77 {L : Nat} {xs : Nat → Int32} : ig_cal (tb_G L xs) 4 77 = some 142 := gc_of (by decide +kernel)
theorem lc_4_83 {L : Nat} {xs : Nat → Int32} : ig_cal (tb_G L xs) 4 83 = some 156 := gc_of (by decide +kernel)
theorem lc_4_87 {L : Nat} {xs : Nat → Int32} : ig_cal (tb_G L xs) 4 87 = some 157 := gc_of (by decide +kernel)
theorem lc_4_97 {L : Nat} {xs : Nat → Int32} : ig_cal (tb_G L xs) 4 97 = some 158 := gc_of (by decide +kernel)
theorem lc_4_102 {L : Nat} {xs : Nat → Int32} : ig_cal (tb_G L xs) 4 102 = some 27 := gc_of (by decide +kernel)
theorem lc_4_91 {L : Nat} {xs : Nat → Int32} : ig_cal (tb_G L xs) 4 91 = some 159 := gc_of (by decide +kernel)
theorem lc_4_106 {L : Nat} {xs : Nat → Int32} : ig_cal (tb_G L xs) 4 106 = some 160 := gc_of (by decide +kernel)
theorem lc_4_62 {L : Nat} {xs : Nat → Int32} : ig_cal (tb_G L xs) 4 62 = some 161 := gc_of (by decide +kernel)
theorem lc_4_113 {L : Nat} {xs : Nat → Int32} : ig_cal (tb_G L xs) 4 113 = some 162 := gc_of (by decide +kernel)
theorem lc_4_109 {L : Nat} {xs : Nat → Int32} : ig_cal (tb_G L xs) 4 109 = some 163 := gc_of (by decide +kernel)
theorem lc_4_116 {L : Nat} {xs : Nat → Int32} : ig_cal (tb_G L xs) 4 116 = some 164 := gc_of (by decide +kernel)
theorem lc_4_119 {L : Nat} {xs : Nat → Int32} : ig_cal (tb_G L xs) 4 119 = some 165 := gc_of (by decide +kernel)
theorem lc_4_94 {L : Nat} {xs : Nat → Int32} : ig_cal (tb_G L xs) 4 94 = some 166 := gc_of (by decide +kernel)
theorem lc_4_47 {L : Nat} {xs : Nat → Int32} : ig_cal (tb_G L xs) 4 47 = some 167 := gc_of (by decide +kernel)
theorem lc_4_122 {L : Nat} {xs : Nat → Int32} : ig_cal (tb_G L xs) 4 122 = some 168 := gc_of (by decide +kernel)
theorem lc_4_126 {L : Nat} {xs : Nat → Int32} : ig_cal (tb_G L xs) 4 126 = some 169 := gc_of (by decide +kernel)
theorem lc_4_130 {L : Nat} {xs : Nat → Int32} : ig_cal (tb_G L xs) 4 130 = some 170 := gc_of (by decide +kernel)
theorem lc_4_133 {L : Nat} {xs : Nat → Int32} : ig_cal (tb_G L xs) 4 133 = some 171 := gc_of (by decide +kernel)
theorem lc_4_137 {L : Nat} {xs : Nat → Int32} : ig_cal (tb_G L xs) 4 137 = some 172 := gc_of (by decide +kernel)
theorem lc_4_51 {L : Nat} {xs : Nat → Int32} : ig_cal (tb_G L xs) 4 51 = some 173 := gc_of (by decide +kernel)
theorem lc_4_59 {L : Nat} {xs : Nat → Int32} : ig_cal (tb_G L xs) 4 59 = some 174 := gc_of (by decide +kernel)
theorem lc_4_141 {L : Nat} {xs : Nat → Int32} : ig_cal (tb_G L xs) 4 141 = some 175 := gc_of (by decide +kernel)
theorem lc_4_67 {L : Nat} {xs : Nat → Int32} : ig_cal (tb_G L xs) 4 67 = some 176 := gc_of (by decide +kernel)
theorem lc_4_145 {L : Nat} {xs : Nat → Int32} : ig_cal (tb_G L xs) 4 145 = some 177 := gc_of (by decide +kernel)
theorem lc_4_148 {L : Nat} {xs : Nat → Int32} : ig_cal (tb_G L xs) 4 148 = some 178 := gc_of (by decide +kernel)
theorem lc_6_90 {L : Nat} {xs : Nat → Int32} : ig_cal (tb_G L xs) 6 90 = some 179 := gc_of (by decide +kernel)
theorem lc_6_130 {L : Nat} {xs : Nat → Int32} : ig_cal (tb_G L xs) 6 130 = some 171 := gc_of (by decide +kernel)
theorem lc_6_94 {L : Nat} {xs : Nat → Int32} : ig_cal (tb_G L xs) 6 94 = some 180 := gc_of (by decide +kernel)
theorem lc_6_98 {L : Nat} {xs : Nat → Int32} : ig_cal (tb_G L xs) 6 98 = some 181 := gc_of (by decide +kernel)
theorem lc_6_139 {L : Nat} {xs : Nat → Int32} : ig_cal (tb_G L xs) 6 139 = some 182 := gc_of (by decide +kernel)
theorem lc_6_101 {L : Nat} {xs : Nat → Int32} : ig_cal (tb_G L xs) 6 101 = some 183 := gc_of (by decide +kernel)
theorem lc_6_143 {L : Nat} {xs : Nat → Int32} : ig_cal (tb_G L xs) 6 143 = some 28 := gc_of (by decide +kernel)
theorem lc_6_148 {L : Nat} {xs : Nat → Int32} : ig_cal (tb_G L xs) 6 148 = some 27 := gc_of (by decide +kernel)
theorem lc_6_151 {L : Nat} {xs : Nat → Int32} : ig_cal (tb_G L xs) 6 151 = some 184 := gc_of (by decide +kernel)
theorem lc_6_154 {L : Nat} {xs : Nat → Int32} : ig_cal (tb_G L xs) 6 154 = some 185 := gc_of (by decide +kernel)
theorem lc_6_158 {L : Nat} {xs : Nat → Int32} : ig_cal (tb_G L xs) 6 158 = some 186 := gc_of (by decide +kernel)
theorem lc_6_162 {L : Nat} {xs : Nat → Int32} : ig_cal (tb_G L xs) 6 162 = some 158 := gc_of (by decide +kernel)
theorem lc_6_104 {L : Nat} {xs : Nat → Int32} : ig_cal (tb_G L xs) 6 104 = some 187 := gc_of (by decide +kernel)
theorem lc_18_39 {L : Nat} {xs : Nat → Int32} : ig_cal (tb_G L xs) 18 39 = some 188 := gc_of (by decide +kernel)
theorem lc_11_160 {L : Nat} {xs : Nat → Int32} : ig_cal (tb_G L xs) 11 160 = some 189 := gc_of (by decide +kernel)
theorem lc_9_59 {L : Nat} {xs : Nat → Int32} : ig_cal (tb_G L xs) 9 59 = some 190 := gc_of (by decide +kernel)
theorem lc_18_43 {L : Nat} {xs : Nat → Int32} : ig_cal (tb_G L xs) 18 43 = some 191 := gc_of (by decide +kernel)
theorem lc_11_169 {L : Nat} {xs : Nat → Int32} : ig_cal (tb_G L xs) 11 169 = some 192 := gc_of (by decide +kernel)
theorem lc_9_69 {L : Nat} {xs : Nat → Int32} : ig_cal (tb_G L xs) 9 69 = some 193 := gc_of (by decide +kernel)
theorem lc_11_172 {L : Nat} {xs : Nat → Int32} : ig_cal (tb_G L xs) 11 172 = some 194 := gc_of (by decide +kernel)
theorem lc_11_175 {L : Nat} {xs : Nat → Int32} : ig_cal (tb_G L xs) 11 175 = some 195 := gc_of (by decide +kernel)
theorem lc_9_63 {L : Nat} {xs : Nat → Int32} : ig_cal (tb_G L xs) 9 63 = some 196 := gc_of (by decide +kernel)
theorem lc_18_46 {L : Nat} {xs : Nat → Int32} : ig_cal (tb_G L xs) 18 46 = some 197 := gc_of (by decide +kernel)
theorem lc_11_182 {L : Nat} {xs : Nat → Int32} : ig_cal (tb_G L xs) 11 182 = some 198 := gc_of (by decide +kernel)
theorem lc_11_189 {L : Nat} {xs : Nat → Int32} : ig_cal (tb_G L xs) 11 189 = some 199 := gc_of (by decide +kernel)
theorem lc_9_73 {L : Nat} {xs : Nat → Int32} : ig_cal (tb_G L xs) 9 73 = some 200 := gc_of (by decide +kernel)
theorem lc_18_50 {L : Nat} {xs : Nat → Int32} : ig_cal (tb_G L xs) 18 50 = some 201 := gc_of (by decide +kernel)
theorem lc_11_193 {L : Nat} {xs : Nat → Int32} : ig_cal (tb_G L xs) 11 193 = some 202 := gc_of (by decide +kernel)
theorem lc_3_51 {L : Nat} {xs : Nat → Int32} : ig_cal (tb_G L xs) 3 51 = some 203 := gc_of (by decide +kernel)
theorem lc_3_83 {L : Nat} {xs : Nat → Int32} : ig_cal (tb_G L xs) 3 83 = some 200 := gc_of (by decide +kernel)
theorem lc_3_60 {L : Nat} {xs : Nat → Int32} : ig_cal (tb_G L xs) 3 60 = some 28 := gc_of (by decide +kernel)
theorem lc_3_69 {L : Nat} {xs : Nat → Int32} : ig_cal (tb_G L xs) 3 69 = some 204 := gc_of (by decide +kernel)
theorem lc_3_73 {L : Nat} {xs : Nat → Int32} : ig_cal (tb_G L xs) 3 73 = some 205 := gc_of (by decide +kernel)
theorem lc_3_87 {L : Nat} {xs : Nat → Int32} : ig_cal (tb_G L xs) 3 87 = some 206 := gc_of (by decide +kernel)
theorem lc_3_91 {L : Nat} {xs : Nat → Int32} : ig_cal (tb_G L xs) 3 91 = some 207 := gc_of (by decide +kernel)
theorem lc_3_76 {L : Nat} {xs : Nat → Int32} : ig_cal (tb_G L xs) 3 76 = some 208 := gc_of (by decide +kernel)
theorem lc_3_94 {L : Nat} {xs : Nat → Int32} : ig_cal (tb_G L xs) 3 94 = some 209 := gc_of (by decide +kernel)
theorem lc_3_97 {L : Nat} {xs : Nat → Int32} : ig_cal (tb_G L xs) 3 97 = some 210 := gc_of (by decide +kernel)
theorem lc_3_101 {L : Nat} {xs : Nat → Int32} : ig_cal (tb_G L xs) 3 101 = some 211 := gc_of (by decide +kernel)
theorem lc_3_104 {L : Nat} {xs : Nat → Int32} : ig_cal (tb_G L xs) 3 104 = some 212 := gc_of (by decide +kernel)
theorem lc_3_114 {L : Nat} {xs : Nat → Int32} : ig_cal (tb_G L xs) 3 114 = some 213 := gc_of (by decide +kernel)
theorem lc_3_117 {L : Nat} {xs : Nat → Int32} : ig_cal (tb_G L xs) 3 117 = some 214 := gc_of (by decide +kernel)
theorem lc_3_128 {L : Nat} {xs : Nat → Int32} : ig_cal (tb_G L xs) 3 128 = some 215 := gc_of (by decide +kernel)
theorem lc_3_120 {L : Nat} {xs : Nat → Int32} : ig_cal (tb_G L xs) 3 120 = some 216 := gc_of (by decide +kernel)
theorem lc_3_131 {L : Nat} {xs : Nat → Int32} : ig_cal (tb_G L xs) 3 131 = some 217 := gc_of (by decide +kernel)
theorem lc_3_134 {L : Nat} {xs : Nat → Int32} : ig_cal (tb_G L xs) 3 134 = some 218 := gc_of (by decide +kernel)
theorem lc_3_124 {L : Nat} {xs : Nat → Int32} : ig_cal (tb_G L xs) 3 124 = some 219 := gc_of (by decide +kernel)
theorem lc_3_80 {L : Nat} {xs : Nat → Int32} : ig_cal (tb_G L xs) 3 80 = some 220 := gc_of (by decide +kernel)
theorem lc_3_145 {L : Nat} {xs : Nat → Int32} : ig_cal (tb_G L xs) 3 145 = some 221 := gc_of (by decide +kernel)
theorem lc_3_148 {L : Nat} {xs : Nat → Int32} : ig_cal (tb_G L xs) 3 148 = some 222 := gc_of (by decide +kernel)
theorem lc_18_54 {L : Nat} {xs : Nat → Int32} : ig_cal (tb_G L xs) 18 54 = some 223 := gc_of (by decide +kernel)
theorem lc_11_197 {L : Nat} {xs : Nat → Int32} : ig_cal (tb_G L xs) 11 197 = some 222 := gc_of (by decide +kernel)
theorem lc_18_57 {L : Nat} {xs : Nat → Int32} : ig_cal (tb_G L xs) 18 57 = some 224 := gc_of (by decide +kernel)
theorem lc_11_200 {L : Nat} {xs : Nat → Int32} : ig_cal (tb_G L xs) 11 200 = some 225 := gc_of (by decide +kernel)
theorem lc_11_247 {L : Nat} {xs : Nat → Int32} : ig_cal (tb_G L xs) 11 247 = some 53 := gc_of (by decide +kernel)
theorem lc_11_203 {L : Nat} {xs : Nat → Int32} : ig_cal (tb_G L xs) 11 203 = some 155 := gc_of (by decide +kernel)
theorem lc_11_206 {L : Nat} {xs : Nat → Int32} : ig_cal (tb_G L xs) 11 206 = some 226 := gc_of (by decide +kernel)
theorem lc_3_156 {L : Nat} {xs : Nat → Int32} : ig_cal (tb_G L xs) 3 156 = some 227 := gc_of (by decide +kernel)
theorem lc_3_163 {L : Nat} {xs : Nat → Int32} : ig_cal (tb_G L xs) 3 163 = some 91 := gc_of (by decide +kernel)
theorem lc_3_167 {L : Nat} {xs : Nat → Int32} : ig_cal (tb_G L xs) 3 167 = some 196 := gc_of (by decide +kernel)
theorem lc_3_159 {L : Nat} {xs : Nat → Int32} : ig_cal (tb_G L xs) 3 159 = some 170 := gc_of (by decide +kernel)
theorem lc_11_210 {L : Nat} {xs : Nat → Int32} : ig_cal (tb_G L xs) 11 210 = some 228 := gc_of (by decide +kernel)
theorem lc_4_151 {L : Nat} {xs : Nat → Int32} : ig_cal (tb_G L xs) 4 151 = some 229 := gc_of (by decide +kernel)
theorem lc_4_167 {L : Nat} {xs : Nat → Int32} : ig_cal (tb_G L xs) 4 167 = some 230 := gc_of (by decide +kernel)
theorem lc_4_157 {L : Nat} {xs : Nat → Int32} : ig_cal (tb_G L xs) 4 157 = some 231 := gc_of (by decide +kernel)
theorem lc_1_99 {L : Nat} {xs : Nat → Int32} : ig_cal (tb_G L xs) 1 99 = some 232 := gc_of (by decide +kernel)
theorem lc_1_102 {L : Nat} {xs : Nat → Int32} : ig_cal (tb_G L xs) 1 102 = some 233 := gc_of (by decide +kernel)
theorem lc_1_105 {L : Nat} {xs : Nat → Int32} : ig_cal (tb_G L xs) 1 105 = some 234 := gc_of (by decide +kernel)
theorem lc_1_109 {L : Nat} {xs : Nat → Int32} : ig_cal (tb_G L xs) 1 109 = some 235 := gc_of (by decide +kernel)
theorem lc_1_123 {L : Nat} {xs : Nat → Int32} : ig_cal (tb_G L xs) 1 123 = some 236 := gc_of (by decide +kernel)
theorem lc_1_113 {L : Nat} {xs : Nat → Int32} : ig_cal (tb_G L xs) 1 113 = some 237 := gc_of (by decide +kernel)
theorem lc_1_116 {L : Nat} {xs : Nat → Int32} : ig_cal (tb_G L xs) 1 116 = some 238 := gc_of (by decide +kernel)
theorem lc_1_120 {L : Nat} {xs : Nat → Int32} : ig_cal (tb_G L xs) 1 120 = some 239 := gc_of (by decide +kernel)
theorem lc_4_164 {L : Nat} {xs : Nat → Int32} : ig_cal (tb_G L xs) 4 164 = some 240 := gc_of (by decide +kernel)
theorem lc_7_113 {L : Nat} {xs : Nat → Int32} : ig_cal (tb_G L xs) 7 113 = some 241 := gc_of (by decide +kernel)
theorem lc_7_116 {L : Nat} {xs : Nat → Int32} : ig_cal (tb_G L xs) 7 116 = some 242 := gc_of (by decide +kernel)
theorem lc_7_119 {L : Nat} {xs : Nat → Int32} : ig_cal (tb_G L xs) 7 119 = some 243 := gc_of (by decide +kernel)
theorem lc_7_123 {L : Nat} {xs : Nat → Int32} : ig_cal (tb_G L xs) 7 123 = some 244 := gc_of (by decide +kernel)
theorem lc_7_127 {L : Nat} {xs : Nat → Int32} : ig_cal (tb_G L xs) 7 127 = some 245 := gc_of (by decide +kernel)
theorem lc_19_495 {L : Nat} {xs : Nat → Int32} : ig_cal (tb_G L xs) 19 495 = some 246 := gc_of (by decide +kernel)
theorem lc_20_9 {L : Nat} {xs : Nat → Int32} : ig_cal (tb_G L xs) 20 9 = some 247 := gc_of (by decide +kernel)
theorem lc_19_1059 {L : Nat} {xs : Nat → Int32} : ig_cal (tb_G L xs) 19 1059 = some 526 := gc_of (by decide +kernel)
theorem lc_18_60 {L : Nat} {xs : Nat → Int32} : ig_cal (tb_G L xs) 18 60 = some 248 := gc_of (by decide +kernel)
theorem lc_11_234 {L : Nat} {xs : Nat → Int32} : ig_cal (tb_G L xs) 11 234 = some 200 := gc_of (by decide +kernel)
theorem lc_11_237 {L : Nat} {xs : Nat → Int32} : ig_cal (tb_G L xs) 11 237 = some 249 := gc_of (by decide +kernel)
theorem lc_0_125 {L : Nat} {xs : Nat → Int32} : ig_cal (tb_G L xs) 0 125 = some 250 := gc_of (by decide +kernel)
theorem lc_0_145 {L : Nat} {xs : Nat → Int32} : ig_cal (tb_G L xs) 0 145 = some 251 := gc_of (by decide +kernel)
theorem lc_0_138 {L : Nat} {xs : Nat → Int32} : ig_cal (tb_G L xs) 0 138 = some 252 := gc_of (by decide +kernel)
theorem lc_0_135 {L : Nat} {xs : Nat → Int32} : ig_cal (tb_G L xs) 0 135 = some 253 := gc_of (by decide +kernel)
theorem lc_0_141 {L : Nat} {xs : Nat → Int32} : ig_cal (tb_G L xs) 0 141 = some 254 := gc_of (by decide +kernel)
theorem lc_0_149 {L : Nat} {xs : Nat → Int32} : ig_cal (tb_G L xs) 0 149 = some 255 := gc_of (by decide +kernel)
theorem lc_0_152 {L : Nat} {xs : Nat → Int32} : ig_cal (tb_G L xs) 0 152 = some 256 := gc_of (by decide +kernel)
theorem lc_0_129 {L : Nat} {xs : Nat → Int32} : ig_cal (tb_G L xs) 0 129 = some 257 := gc_of (by decide +kernel)
theorem lc_0_156 {L : Nat} {xs : Nat → Int32} : ig_cal (tb_G L xs) 0 156 = some 258 := gc_of (by decide +kernel)
theorem lc_0_160 {L : Nat} {xs : Nat → Int32} : ig_cal (tb_G L xs) 0 160 = some 259 := gc_of (by decide +kernel)
theorem lc_0_164 {L : Nat} {xs : Nat → Int32} : ig_cal (tb_G L xs) 0 164 = some 260 := gc_of (by decide +kernel)
theorem lc_18_64 {L : Nat} {xs : Nat → Int32} : ig_cal (tb_G L xs) 18 64 = some 261 := gc_of (by decide +kernel)
theorem lc_18_70 {L : Nat} {xs : Nat → Int32} : ig_cal (tb_G L xs) 18 70 = some 262 := gc_of (by decide +kernel)
theorem lc_17_15 {L : Nat} {xs : Nat → Int32} : ig_cal (tb_G L xs) 17 15 = some 263 := gc_of (by decide +kernel)
theorem lc_17_22 {L : Nat} {xs : Nat → Int32} : ig_cal (tb_G L xs) 17 22 = some 264 := gc_of (by decide +kernel)
theorem lc_17_29 {L : Nat} {xs : Nat → Int32} : ig_cal (tb_G L xs) 17 29 = some 265 := gc_of (by decide +kernel)
theorem lc_17_36 {L : Nat} {xs : Nat → Int32} : ig_cal (tb_G L xs) 17 36 = some 266 := gc_of (by decide +kernel)
theorem lc_17_43 {L : Nat} {xs : Nat → Int32} : ig_cal (tb_G L xs) 17 43 = some 267 := gc_of (by decide +kernel)
theorem lc_18_79 {L : Nat} {xs : Nat → Int32} : ig_cal (tb_G L xs) 18 79 = some 268 := gc_of (by decide +kernel)
theorem lc_18_78 {L : Nat} {xs : Nat → Int32} : ig_cal (tb_G L xs) 18 78 = some 269 := gc_of (by decide +kernel)
theorem lc_18_86 {L : Nat} {xs : Nat → Int32} : ig_cal (tb_G L xs) 18 86 = some 270 := gc_of (by decide +kernel)
theorem lc_18_90 {L : Nat} {xs : Nat → Int32} : ig_cal (tb_G L xs) 18 90 = some 271 := gc_of (by decide +kernel)
theorem lc_17_66 {L : Nat} {xs : Nat → Int32} : ig_cal (tb_G L xs) 17 66 = some 272 := gc_of (by decide +kernel)
theorem lc_12_121 {L : Nat} {xs : Nat → Int32} : ig_cal (tb_G L xs) 12 121 = some 273 := gc_of (by decide +kernel)
theorem lc_17_70 {L : Nat} {xs : Nat → Int32} : ig_cal (tb_G L xs) 17 70 = some 274 := gc_of (by decide +kernel)
theorem lc_18_93 {L : Nat} {xs : Nat → Int32} : ig_cal (tb_G L xs) 18 93 = some 275 := gc_of (by decide +kernel)
theorem lc_17_73 {L : Nat} {xs : Nat → Int32} : ig_cal (tb_G L xs) 17 73 = some 276 := gc_of (by decide +kernel)
theorem lc_18_97 {L : Nat} {xs : Nat → Int32} : ig_cal (tb_G L xs) 18 97 = some 277 := gc_of (by decide +kernel)
theorem lc_17_76 {L : Nat} {xs : Nat → Int32} : ig_cal (tb_G L xs) 17 76 = some 278 := gc_of (by decide +kernel)
theorem lc_17_79 {L : Nat} {xs : Nat → Int32} : ig_cal (tb_G L xs) 17 79 = some 279 := gc_of (by decide +kernel)
theorem lc_17_83 {L : Nat} {xs : Nat → Int32} : ig_cal (tb_G L xs) 17 83 = some 280 := gc_of (by decide +kernel)
theorem lc_15_258 {L : Nat} {xs : Nat → Int32} : ig_cal (tb_G L xs) 15 258 = some 281 := gc_of (by decide +kernel)
theorem lc_15_76 {L : Nat} {xs : Nat → Int32} : ig_cal (tb_G L xs) 15 76 = some 282 := gc_of (by decide +kernel)
theorem lc_15_95 {L : Nat} {xs : Nat → Int32} : ig_cal (tb_G L xs) 15 95 = some 283 := gc_of (by decide +kernel)
theorem lc_15_252 {L : Nat} {xs : Nat → Int32} : ig_cal (tb_G L xs) 15 252 = some 284 := gc_of (by decide +kernel)
theorem lc_15_88 {L : Nat} {xs : Nat → Int32} : ig_cal (tb_G L xs) 15 88 = some 285 := gc_of (by decide +kernel)
theorem lc_15_186 {L : Nat} {xs : Nat → Int32} : ig_cal (tb_G L xs) 15 186 = some 286 := gc_of (by decide +kernel)
theorem lc_15_189 {L : Nat} {xs : Nat → Int32} : ig_cal (tb_G L xs) 15 189 = some 287 := gc_of (by decide +kernel)
theorem lc_15_92 {L : Nat} {xs : Nat → Int32} : ig_cal (tb_G L xs) 15 92 = some 288 := gc_of (by decide +kernel)
theorem lc_15_80 {L : Nat} {xs : Nat → Int32} : ig_cal (tb_G L xs) 15 80 = some 289 := gc_of (by decide +kernel)
theorem lc_15_192 {L : Nat} {xs : Nat → Int32} : ig_cal (tb_G L xs) 15 192 = some 290 := gc_of (by decide +kernel)
theorem lc_15_98 {L : Nat} {xs : Nat → Int32} : ig_cal (tb_G L xs) 15 98 = some 291 := gc_of (by decide +kernel)
theorem lc_15_84 {L : Nat} {xs : Nat → Int32} : ig_cal (tb_G L xs) 15 84 = some 292 := gc_of (by decide +kernel)
theorem lc_15_195 {L : Nat} {xs : Nat → Int32} : ig_cal (tb_G L xs) 15 195 = some 293 := gc_of (by decide +kernel)
theorem lc_15_104 {L : Nat} {xs : Nat → Int32} : ig_cal (tb_G L xs) 15 104 = some 294 := gc_of (by decide +kernel)
theorem lc_15_198 {L : Nat} {xs : Nat → Int32} : ig_cal (tb_G L xs) 15 198 = some 295 := gc_of (by decide +kernel)
theorem lc_15_201 {L : Nat} {xs : Nat → Int32} : ig_cal (tb_G L xs) 15 201 = some 296 := gc_of (by decide +kernel)
theorem lc_15_116 {L : Nat} {xs : Nat → Int32} : ig_cal (tb_G L xs) 15 116 = some 297 := gc_of (by decide +kernel)
theorem lc_15_120 {L : Nat} {xs : Nat → Int32} : ig_cal (tb_G L xs) 15 120 = some 298 := gc_of (by decide +kernel)
theorem lc_15_129 {L : Nat} {xs : Nat → Int32} : ig_cal (tb_G L xs) 15 129 = some 299 := gc_of (by decide +kernel)
theorem lc_15_139 {L : Nat} {xs : Nat → Int32} : ig_cal (tb_G L xs) 15 139 = some 300 := gc_of (by decide +kernel)
theorem lc_15_158 {L : Nat} {xs : Nat → Int32} : ig_cal (tb_G L xs) 15 158 = some 301 := gc_of (by decide +kernel)
theorem lc_15_161 {L : Nat} {xs : Nat → Int32} : ig_cal (tb_G L xs) 15 161 = some 302 := gc_of (by decide +kernel)
theorem lc_15_145 {L : Nat} {xs : Nat → Int32} : ig_cal (tb_G L xs) 15 145 = some 303 := gc_of (by decide +kernel)
theorem lc_15_149 {L : Nat} {xs : Nat → Int32} : ig_cal (tb_G L xs) 15 149 = some 304 := gc_of (by decide +kernel)
theorem lc_15_152 {L : Nat} {xs : Nat → Int32} : ig_cal (tb_G L xs) 15 152 = some 305 := gc_of (by decide +kernel)
theorem lc_15_165 {L : Nat} {xs : Nat → Int32} : ig_cal (tb_G L xs) 15 165 = some 306 := gc_of (by decide +kernel)
theorem lc_15_169 {L : Nat} {xs : Nat → Int32} : ig_cal (tb_G L xs) 15 169 = some 307 := gc_of (by decide +kernel)
theorem lc_15_173 {L : Nat} {xs : Nat → Int32} : ig_cal (tb_G L xs) 15 173 = some 308 := gc_of (by decide +kernel)
theorem lc_15_176 {L : Nat} {xs : Nat → Int32} : ig_cal (tb_G L xs) 15 176 = some 309 := gc_of (by decide +kernel)
theorem lc_15_255 {L : Nat} {xs : Nat → Int32} : ig_cal (tb_G L xs) 15 255 = some 310 := gc_of (by decide +kernel)
theorem lc_15_228 {L : Nat} {xs : Nat → Int32} : ig_cal (tb_G L xs) 15 228 = some 311 := gc_of (by decide +kernel)
theorem lc_15_231 {L : Nat} {xs : Nat → Int32} : ig_cal (tb_G L xs) 15 231 = some 312 := gc_of (by decide +kernel)
theorem lc_15_234 {L : Nat} {xs : Nat → Int32} : ig_cal (tb_G L xs) 15 234 = some 313 := gc_of (by decide +kernel)
theorem lc_15_225 {L : Nat} {xs : Nat → Int32} : ig_cal (tb_G L xs) 15 225 = some 314 := gc_of (by decide +kernel)
theorem lc_15_237 {L : Nat} {xs : Nat → Int32} : ig_cal (tb_G L xs) 15 237 = some 315 := gc_of (by decide +kernel)
theorem lc_15_240 {L : Nat} {xs : Nat → Int32} : ig_cal (tb_G L xs) 15 240 = some 316 := gc_of (by decide +kernel)
theorem lc_15_243 {L : Nat} {xs : Nat → Int32} : ig_cal (tb_G L xs) 15 243 = some 317 := gc_of (by decide +kernel)
theorem lc_15_246 {L : Nat} {xs : Nat → Int32} : ig_cal (tb_G L xs) 15 246 = some 318 := gc_of (by decide +kernel)
theorem lc_18_101 {L : Nat} {xs : Nat → Int32} : ig_cal (tb_G L xs) 18 101 = some 319 := gc_of (by decide +kernel)
theorem lc_17_86 {L : Nat} {xs : Nat → Int32} : ig_cal (tb_G L xs) 17 86 = some 320 := gc_of (by decide +kernel)
theorem lc_18_105 {L : Nat} {xs : Nat → Int32} : ig_cal (tb_G L xs) 18 105 = some 321 := gc_of (by decide +kernel)
theorem lc_17_89 {L : Nat} {xs : Nat → Int32} : ig_cal (tb_G L xs) 17 89 = some 322 := gc_of (by decide +kernel)
theorem lc_18_109 {L : Nat} {xs : Nat → Int32} : ig_cal (tb_G L xs) 18 109 = some 323 := gc_of (by decide +kernel)
theorem lc_17_92 {L : Nat} {xs : Nat → Int32} : ig_cal (tb_G L xs) 17 92 = some 324 := gc_of (by decide +kernel)
theorem lc_17_96 {L : Nat} {xs : Nat → Int32} : ig_cal (tb_G L xs) 17 96 = some 325 := gc_of (by decide +kernel)
theorem lc_18_112 {L : Nat} {xs : Nat → Int32} : ig_cal (tb_G L xs) 18 112 = some 326 := gc_of (by decide +kernel)
theorem lc_17_97 {L : Nat} {xs : Nat → Int32} : ig_cal (tb_G L xs) 17 97 = some 327 := gc_of (by decide +kernel)
theorem lc_18_115 {L : Nat} {xs : Nat → Int32} : ig_cal (tb_G L xs) 18 115 = some 328 := gc_of (by decide +kernel)
theorem lc_17_100 {L : Nat} {xs : Nat → Int32} : ig_cal (tb_G L xs) 17 100 = some 329 := gc_of (by decide +kernel)
theorem lc_18_119 {L : Nat} {xs : Nat → Int32} : ig_cal (tb_G L xs) 18 119 = some 330 := gc_of (by decide +kernel)
theorem lc_17_196 {L : Nat} {xs : Nat → Int32} : ig_cal (tb_G L xs) 17 196 = some 331 := gc_of (by decide +kernel)
theorem lc_17_200 {L : Nat} {xs : Nat → Int32} : ig_cal (tb_G L xs) 17 200 = some 332 := gc_of (by decide +kernel)
theorem lc_17_146 {L : Nat} {xs : Nat → Int32} : ig_cal (tb_G L xs) 17 146 = some 333 := gc_of (by decide +kernel)
theorem lc_17_149 {L : Nat} {xs : Nat → Int32} : ig_cal (tb_G L xs) 17 149 = some 334 := gc_of (by decide +kernel)
theorem lc_17_150 {L : Nat} {xs : Nat → Int32} : ig_cal (tb_G L xs) 17 150 = some 335 := gc_of (by decide +kernel)
theorem lc_17_105 {L : Nat} {xs : Nat → Int32} : ig_cal (tb_G L xs) 17 105 = some 336 := gc_of (by decide +kernel)
theorem lc_17_108 {L : Nat} {xs : Nat → Int32} : ig_cal (tb_G L xs) 17 108 = some 337 := gc_of (by decide +kernel)
theorem lc_17_104 {L : Nat} {xs : Nat → Int32} : ig_cal (tb_G L xs) 17 104 = some 338 := gc_of (by decide +kernel)
theorem lc_17_153 {L : Nat} {xs : Nat → Int32} : ig_cal (tb_G L xs) 17 153 = some 339 := gc_of (by decide +kernel)
theorem lc_12_124 {L : Nat} {xs : Nat → Int32} : ig_cal (tb_G L xs) 12 124 = some 340 := gc_of (by decide +kernel)
theorem lc_12_130 {L : Nat} {xs : Nat → Int32} : ig_cal (tb_G L xs) 12 130 = some 341 := gc_of (by decide +kernel)
theorem lc_12_134 {L : Nat} {xs : Nat → Int32} : ig_cal (tb_G L xs) 12 134 = some 342 := gc_of (by decide +kernel)
theorem lc_12_110 {L : Nat} {xs : Nat → Int32} : ig_cal (tb_G L xs) 12 110 = some 343 := gc_of (by decide +kernel)
theorem lc_12_85 {L : Nat} {xs : Nat → Int32} : ig_cal (tb_G L xs) 12 85 = some 344 := gc_of (by decide +kernel)
theorem lc_12_88 {L : Nat} {xs : Nat → Int32} : ig_cal (tb_G L xs) 12 88 = some 345 := gc_of (by decide +kernel)
theorem lc_12_91 {L : Nat} {xs : Nat → Int32} : ig_cal (tb_G L xs) 12 91 = some 346 := gc_of (by decide +kernel)
theorem lc_12_71 {L : Nat} {xs : Nat → Int32} : ig_cal (tb_G L xs) 12 71 = some 347 := gc_of (by decide +kernel)
theorem lc_12_94 {L : Nat} {xs : Nat → Int32} : ig_cal (tb_G L xs) 12 94 = some 348 := gc_of (by decide +kernel)
theorem lc_12_81 {L : Nat} {xs : Nat → Int32} : ig_cal (tb_G L xs) 12 81 = some 349 := gc_of (by decide +kernel)
theorem lc_12_97 {L : Nat} {xs : Nat → Int32} : ig_cal (tb_G L xs) 12 97 = some 350 := gc_of (by decide +kernel)
theorem lc_12_101 {L : Nat} {xs : Nat → Int32} : ig_cal (tb_G L xs) 12 101 = some 351 := gc_of (by decide +kernel)
theorem lc_12_104 {L : Nat} {xs : Nat → Int32} : ig_cal (tb_G L xs) 12 104 = some 352 := gc_of (by decide +kernel)
theorem lc_12_107 {L : Nat} {xs : Nat → Int32} : ig_cal (tb_G L xs) 12 107 = some 353 := gc_of (by decide +kernel)
theorem lc_12_114 {L : Nat} {xs : Nat → Int32} : ig_cal (tb_G L xs) 12 114 = some 354 := gc_of (by decide +kernel)
theorem lc_12_40 {L : Nat} {xs : Nat → Int32} : ig_cal (tb_G L xs) 12 40 = some 355 := gc_of (by decide +kernel)
theorem lc_12_117 {L : Nat} {xs : Nat → Int32} : ig_cal (tb_G L xs) 12 117 = some 356 := gc_of (by decide +kernel)
theorem lc_17_157 {L : Nat} {xs : Nat → Int32} : ig_cal (tb_G L xs) 17 157 = some 357 := gc_of (by decide +kernel)
theorem lc_17_116 {L : Nat} {xs : Nat → Int32} : ig_cal (tb_G L xs) 17 116 = some 358 := gc_of (by decide +kernel)
theorem lc_17_117 {L : Nat} {xs : Nat → Int32} : ig_cal (tb_G L xs) 17 117 = some 359 := gc_of (by decide +kernel)
theorem lc_17_118 {L : Nat} {xs : Nat → Int32} : ig_cal (tb_G L xs) 17 118 = some 360 := gc_of (by decide +kernel)
theorem lc_13_191 {L : Nat} {xs : Nat → Int32} : ig_cal (tb_G L xs) 13 191 = some 361 := gc_of (by decide +kernel)
theorem lc_13_185 {L : Nat} {xs : Nat → Int32} : ig_cal (tb_G L xs) 13 185 = some 362 := gc_of (by decide +kernel)
theorem lc_13_172 {L : Nat} {xs : Nat → Int32} : ig_cal (tb_G L xs) 13 172 = some 363 := gc_of (by decide +kernel)
theorem lc_13_160 {L : Nat} {xs : Nat → Int32} : ig_cal (tb_G L xs) 13 160 = some 364 := gc_of (by decide +kernel)
theorem lc_13_164 {L : Nat} {xs : Nat → Int32} : ig_cal (tb_G L xs) 13 164 = some 365 := gc_of (by decide +kernel)
theorem lc_13_168 {L : Nat} {xs : Nat → Int32} : ig_cal (tb_G L xs) 13 168 = some 366 := gc_of (by decide +kernel)
theorem lc_13_176 {L : Nat} {xs : Nat → Int32} : ig_cal (tb_G L xs) 13 176 = some 367 := gc_of (by decide +kernel)
theorem lc_13_179 {L : Nat} {xs : Nat → Int32} : ig_cal (tb_G L xs) 13 179 = some 368 := gc_of (by decide +kernel)
theorem lc_13_182 {L : Nat} {xs : Nat → Int32} : ig_cal (tb_G L xs) 13 182 = some 369 := gc_of (by decide +kernel)
theorem lc_13_194 {L : Nat} {xs : Nat → Int32} : ig_cal (tb_G L xs) 13 194 = some 370 := gc_of (by decide +kernel)
theorem lc_13_198 {L : Nat} {xs : Nat → Int32} : ig_cal (tb_G L xs) 13 198 = some 371 := gc_of (by decide +kernel)
theorem lc_17_121 {L : Nat} {xs : Nat → Int32} : ig_cal (tb_G L xs) 17 121 = some 372 := gc_of (by decide +kernel)
theorem lc_13_205 {L : Nat} {xs : Nat → Int32} : ig_cal (tb_G L xs) 13 205 = some 373 := gc_of (by decide +kernel)
theorem lc_13_209 {L : Nat} {xs : Nat → Int32} : ig_cal (tb_G L xs) 13 209 = some 374 := gc_of (by decide +kernel)
theorem lc_17_124 {L : Nat} {xs : Nat → Int32} : ig_cal (tb_G L xs) 17 124 = some 375 := gc_of (by decide +kernel)
theorem lc_17_112 {L : Nat} {xs : Nat → Int32} : ig_cal (tb_G L xs) 17 112 = some 376 := gc_of (by decide +kernel)
theorem lc_17_161 {L : Nat} {xs : Nat → Int32} : ig_cal (tb_G L xs) 17 161 = some 377 := gc_of (by decide +kernel)
theorem lc_17_163 {L : Nat} {xs : Nat → Int32} : ig_cal (tb_G L xs) 17 163 = some 378 := gc_of (by decide +kernel)
theorem lc_17_131 {L : Nat} {xs : Nat → Int32} : ig_cal (tb_G L xs) 17 131 = some 379 := gc_of (by decide +kernel)
theorem lc_13_218 {L : Nat} {xs : Nat → Int32} : ig_cal (tb_G L xs) 13 218 = some 380 := gc_of (by decide +kernel)
theorem lc_13_226 {L : Nat} {xs : Nat → Int32} : ig_cal (tb_G L xs) 13 226 = some 381 := gc_of (by decide +kernel)
theorem lc_13_222 {L : Nat} {xs : Nat → Int32} : ig_cal (tb_G L xs) 13 222 = some 382 := gc_of (by decide +kernel)
theorem lc_13_230 {L : Nat} {xs : Nat → Int32} : ig_cal (tb_G L xs) 13 230 = some 383 := gc_of (by decide +kernel)
theorem lc_13_233 {L : Nat} {xs : Nat → Int32} : ig_cal (tb_G L xs) 13 233 = some 384 := gc_of (by decide +kernel)
theorem lc_17_166 {L : Nat} {xs : Nat → Int32} : ig_cal (tb_G L xs) 17 166 = some 385 := gc_of (by decide +kernel)
theorem lc_17_135 {L : Nat} {xs : Nat → Int32} : ig_cal (tb_G L xs) 17 135 = some 386 := gc_of (by decide +kernel)
theorem lc_17_136 {L : Nat} {xs : Nat → Int32} : ig_cal (tb_G L xs) 17 136 = some 387 := gc_of (by decide +kernel)
theorem lc_17_139 {L : Nat} {xs : Nat → Int32} : ig_cal (tb_G L xs) 17 139 = some 388 := gc_of (by decide +kernel)
theorem lc_16_220 {L : Nat} {xs : Nat → Int32} : ig_cal (tb_G L xs) 16 220 = some 389 := gc_of (by decide +kernel)
theorem lc_16_217 {L : Nat} {xs : Nat → Int32} : ig_cal (tb_G L xs) 16 217 = some 390 := gc_of (by decide +kernel)
theorem lc_16_134 {L : Nat} {xs : Nat → Int32} : ig_cal (tb_G L xs) 16 134 = some 391 := gc_of (by decide +kernel)
theorem lc_16_214 {L : Nat} {xs : Nat → Int32} : ig_cal (tb_G L xs) 16 214 = some 392 := gc_of (by decide +kernel)
theorem lc_16_118 {L : Nat} {xs : Nat → Int32} : ig_cal (tb_G L xs) 16 118 = some 393 := gc_of (by decide +kernel)
theorem lc_16_114 {L : Nat} {xs : Nat → Int32} : ig_cal (tb_G L xs) 16 114 = some 394 := gc_of (by decide +kernel)
theorem lc_16_105 {L : Nat} {xs : Nat → Int32} : ig_cal (tb_G L xs) 16 105 = some 395 := gc_of (by decide +kernel)
theorem lc_16_93 {L : Nat} {xs : Nat → Int32} : ig_cal (tb_G L xs) 16 93 = some 396 := gc_of (by decide +kernel)
theorem lc_16_109 {L : Nat} {xs : Nat → Int32} : ig_cal (tb_G L xs) 16 109 = some 397 := gc_of (by decide +kernel)
theorem lc_16_96 {L : Nat} {xs : Nat → Int32} : ig_cal (tb_G L xs) 16 96 = some 398 := gc_of (by decide +kernel)
theorem lc_16_99 {L : Nat} {xs : Nat → Int32} : ig_cal (tb_G L xs) 16 99 = some 399 := gc_of (by decide +kernel)
theorem lc_16_102 {L : Nat} {xs : Nat → Int32} : ig_cal (tb_G L xs) 16 102 = some 400 := gc_of (by decide +kernel)
theorem lc_16_141 {L : Nat} {xs : Nat → Int32} : ig_cal (tb_G L xs) 16 141 = some 401 := gc_of (by decide +kernel)
theorem lc_16_82 {L : Nat} {xs : Nat → Int32} : ig_cal (tb_G L xs) 16 82 = some 402 := gc_of (by decide +kernel)
theorem lc_16_86 {L : Nat} {xs : Nat → Int32} : ig_cal (tb_G L xs) 16 86 = some 403 := gc_of (by decide +kernel)
theorem lc_16_90 {L : Nat} {xs : Nat → Int32} : ig_cal (tb_G L xs) 16 90 = some 404 := gc_of (by decide +kernel)
theorem lc_16_223 {L : Nat} {xs : Nat → Int32} : ig_cal (tb_G L xs) 16 223 = some 405 := gc_of (by decide +kernel)
theorem lc_16_137 {L : Nat} {xs : Nat → Int32} : ig_cal (tb_G L xs) 16 137 = some 406 := gc_of (by decide +kernel)
theorem lc_16_130 {L : Nat} {xs : Nat → Int32} : ig_cal (tb_G L xs) 16 130 = some 407 := gc_of (by decide +kernel)
theorem lc_16_226 {L : Nat} {xs : Nat → Int32} : ig_cal (tb_G L xs) 16 226 = some 408 := gc_of (by decide +kernel)
theorem lc_16_153 {L : Nat} {xs : Nat → Int32} : ig_cal (tb_G L xs) 16 153 = some 409 := gc_of (by decide +kernel)
theorem lc_16_144 {L : Nat} {xs : Nat → Int32} : ig_cal (tb_G L xs) 16 144 = some 410 := gc_of (by decide +kernel)
theorem lc_16_147 {L : Nat} {xs : Nat → Int32} : ig_cal (tb_G L xs) 16 147 = some 411 := gc_of (by decide +kernel)
theorem lc_16_150 {L : Nat} {xs : Nat → Int32} : ig_cal (tb_G L xs) 16 150 = some 412 := gc_of (by decide +kernel)
theorem lc_16_157 {L : Nat} {xs : Nat → Int32} : ig_cal (tb_G L xs) 16 157 = some 413 := gc_of (by decide +kernel)
theorem lc_16_160 {L : Nat} {xs : Nat → Int32} : ig_cal (tb_G L xs) 16 160 = some 414 := gc_of (by decide +kernel)
theorem lc_16_232 {L : Nat} {xs : Nat → Int32} : ig_cal (tb_G L xs) 16 232 = some 415 := gc_of (by decide +kernel)
theorem lc_16_169 {L : Nat} {xs : Nat → Int32} : ig_cal (tb_G L xs) 16 169 = some 416 := gc_of (by decide +kernel)
theorem lc_16_185 {L : Nat} {xs : Nat → Int32} : ig_cal (tb_G L xs) 16 185 = some 417 := gc_of (by decide +kernel)
theorem lc_16_166 {L : Nat} {xs : Nat → Int32} : ig_cal (tb_G L xs) 16 166 = some 418 := gc_of (by decide +kernel)
theorem lc_16_192 {L : Nat} {xs : Nat → Int32} : ig_cal (tb_G L xs) 16 192 = some 419 := gc_of (by decide +kernel)
theorem lc_16_189 {L : Nat} {xs : Nat → Int32} : ig_cal (tb_G L xs) 16 189 = some 420 := gc_of (by decide +kernel)
theorem lc_16_196 {L : Nat} {xs : Nat → Int32} : ig_cal (tb_G L xs) 16 196 = some 421 := gc_of (by decide +kernel)
theorem lc_16_199 {L : Nat} {xs : Nat → Int32} : ig_cal (tb_G L xs) 16 199 = some 422 := gc_of (by decide +kernel)
theorem lc_16_175 {L : Nat} {xs : Nat → Int32} : ig_cal (tb_G L xs) 16 175 = some 423 := gc_of (by decide +kernel)
theorem lc_16_172 {L : Nat} {xs : Nat → Int32} : ig_cal (tb_G L xs) 16 172 = some 424 := gc_of (by decide +kernel)
theorem lc_16_178 {L : Nat} {xs : Nat → Int32} : ig_cal (tb_G L xs) 16 178 = some 425 := gc_of (by decide +kernel)
theorem lc_16_182 {L : Nat} {xs : Nat → Int32} : ig_cal (tb_G L xs) 16 182 = some 426 := gc_of (by decide +kernel)
theorem lc_16_235 {L : Nat} {xs : Nat → Int32} : ig_cal (tb_G L xs) 16 235 = some 427 := gc_of (by decide +kernel)
theorem lc_16_238 {L : Nat} {xs : Nat → Int32} : ig_cal (tb_G L xs) 16 238 = some 428 := gc_of (by decide +kernel)
theorem lc_16_202 {L : Nat} {xs : Nat → Int32} : ig_cal (tb_G L xs) 16 202 = some 429 := gc_of (by decide +kernel)
theorem lc_16_242 {L : Nat} {xs : Nat → Int32} : ig_cal (tb_G L xs) 16 242 = some 430 := gc_of (by decide +kernel)
theorem lc_16_210 {L : Nat} {xs : Nat → Int32} : ig_cal (tb_G L xs) 16 210 = some 431 := gc_of (by decide +kernel)
theorem lc_16_206 {L : Nat} {xs : Nat → Int32} : ig_cal (tb_G L xs) 16 206 = some 432 := gc_of (by decide +kernel)
theorem lc_17_143 {L : Nat} {xs : Nat → Int32} : ig_cal (tb_G L xs) 17 143 = some 433 := gc_of (by decide +kernel)
theorem lc_17_169 {L : Nat} {xs : Nat → Int32} : ig_cal (tb_G L xs) 17 169 = some 434 := gc_of (by decide +kernel)
theorem lc_17_172 {L : Nat} {xs : Nat → Int32} : ig_cal (tb_G L xs) 17 172 = some 435 := gc_of (by decide +kernel)
theorem lc_12_127 {L : Nat} {xs : Nat → Int32} : ig_cal (tb_G L xs) 12 127 = some 436 := gc_of (by decide +kernel)
theorem lc_17_175 {L : Nat} {xs : Nat → Int32} : ig_cal (tb_G L xs) 17 175 = some 437 := gc_of (by decide +kernel)
theorem lc_17_178 {L : Nat} {xs : Nat → Int32} : ig_cal (tb_G L xs) 17 178 = some 438 := gc_of (by decide +kernel)
theorem lc_17_181 {L : Nat} {xs : Nat → Int32} : ig_cal (tb_G L xs) 17 181 = some 439 := gc_of (by decide +kernel)
theorem lc_17_203 {L : Nat} {xs : Nat → Int32} : ig_cal (tb_G L xs) 17 203 = some 440 := gc_of (by decide +kernel)
theorem lc_17_184 {L : Nat} {xs : Nat → Int32} : ig_cal (tb_G L xs) 17 184 = some 441 := gc_of (by decide +kernel)
theorem lc_17_187 {L : Nat} {xs : Nat → Int32} : ig_cal (tb_G L xs) 17 187 = some 442 := gc_of (by decide +kernel)
theorem lc_14_44 {L : Nat} {xs : Nat → Int32} : ig_cal (tb_G L xs) 14 44 = some 443 := gc_of (by decide +kernel)
theorem lc_17_191 {L : Nat} {xs : Nat → Int32} : ig_cal (tb_G L xs) 17 191 = some 444 := gc_of (by decide +kernel)
theorem lc_17_209 {L : Nat} {xs : Nat → Int32} : ig_cal (tb_G L xs) 17 209 = some 445 := gc_of (by decide +kernel)
theorem lc_17_213 {L : Nat} {xs : Nat → Int32} : ig_cal (tb_G L xs) 17 213 = some 446 := gc_of (by decide +kernel)
theorem lc_17_206 {L : Nat} {xs : Nat → Int32} : ig_cal (tb_G L xs) 17 206 = some 447 := gc_of (by decide +kernel)
theorem lc_17_192 {L : Nat} {xs : Nat → Int32} : ig_cal (tb_G L xs) 17 192 = some 448 := gc_of (by decide +kernel)
theorem lc_14_47 {L : Nat} {xs : Nat → Int32} : ig_cal (tb_G L xs) 14 47 = some 449 := gc_of (by decide +kernel)
theorem lc_14_51 {L : Nat} {xs : Nat → Int32} : ig_cal (tb_G L xs) 14 51 = some 450 := gc_of (by decide +kernel)
theorem lc_18_123 {L : Nat} {xs : Nat → Int32} : ig_cal (tb_G L xs) 18 123 = some 451 := gc_of (by decide +kernel)
theorem lc_18_128 {L : Nat} {xs : Nat → Int32} : ig_cal (tb_G L xs) 18 128 = some 452 := gc_of (by decide +kernel)
theorem lc_18_132 {L : Nat} {xs : Nat → Int32} : ig_cal (tb_G L xs) 18 132 = some 453 := gc_of (by decide +kernel)
theorem lc_17_217 {L : Nat} {xs : Nat → Int32} : ig_cal (tb_G L xs) 17 217 = some 454 := gc_of (by decide +kernel)
theorem lc_12_138 {L : Nat} {xs : Nat → Int32} : ig_cal (tb_G L xs) 12 138 = some 455 := gc_of (by decide +kernel)
theorem lc_18_135 {L : Nat} {xs : Nat → Int32} : ig_cal (tb_G L xs) 18 135 = some 456 := gc_of (by decide +kernel)
theorem lc_18_139 {L : Nat} {xs : Nat → Int32} : ig_cal (tb_G L xs) 18 139 = some 457 := gc_of (by decide +kernel)
theorem lc_18_143 {L : Nat} {xs : Nat → Int32} : ig_cal (tb_G L xs) 18 143 = some 458 := gc_of (by decide +kernel)
theorem lc_17_219 {L : Nat} {xs : Nat → Int32} : ig_cal (tb_G L xs) 17 219 = some 459 := gc_of (by decide +kernel)
theorem lc_18_147 {L : Nat} {xs : Nat → Int32} : ig_cal (tb_G L xs) 18 147 = some 460 := gc_of (by decide +kernel)
theorem lc_17_223 {L : Nat} {xs : Nat → Int32} : ig_cal (tb_G L xs) 17 223 = some 461 := gc_of (by decide +kernel)
theorem lc_14_112 {L : Nat} {xs : Nat → Int32} : ig_cal (tb_G L xs) 14 112 = some 462 := gc_of (by decide +kernel)
theorem lc_14_115 {L : Nat} {xs : Nat → Int32} : ig_cal (tb_G L xs) 14 115 = some 463 := gc_of (by decide +kernel)
theorem lc_14_59 {L : Nat} {xs : Nat → Int32} : ig_cal (tb_G L xs) 14 59 = some 464 := gc_of (by decide +kernel)
theorem lc_14_71 {L : Nat} {xs : Nat → Int32} : ig_cal (tb_G L xs) 14 71 = some 465 := gc_of (by decide +kernel)
theorem lc_14_63 {L : Nat} {xs : Nat → Int32} : ig_cal (tb_G L xs) 14 63 = some 466 := gc_of (by decide +kernel)
theorem lc_14_55 {L : Nat} {xs : Nat → Int32} : ig_cal (tb_G L xs) 14 55 = some 467 := gc_of (by decide +kernel)
theorem lc_14_119 {L : Nat} {xs : Nat → Int32} : ig_cal (tb_G L xs) 14 119 = some 468 := gc_of (by decide +kernel)
theorem lc_14_67 {L : Nat} {xs : Nat → Int32} : ig_cal (tb_G L xs) 14 67 = some 469 := gc_of (by decide +kernel)
theorem lc_14_95 {L : Nat} {xs : Nat → Int32} : ig_cal (tb_G L xs) 14 95 = some 470 := gc_of (by decide +kernel)
theorem lc_14_91 {L : Nat} {xs : Nat → Int32} : ig_cal (tb_G L xs) 14 91 = some 471 := gc_of (by decide +kernel)
theorem lc_14_75 {L : Nat} {xs : Nat → Int32} : ig_cal (tb_G L xs) 14 75 = some 472 := gc_of (by decide +kernel)
theorem lc_14_88 {L : Nat} {xs : Nat → Int32} : ig_cal (tb_G L xs) 14 88 = some 473 := gc_of (by decide +kernel)
theorem lc_14_78 {L : Nat} {xs : Nat → Int32} : ig_cal (tb_G L xs) 14 78 = some 474 := gc_of (by decide +kernel)
theorem lc_14_98 {L : Nat} {xs : Nat → Int32} : ig_cal (tb_G L xs) 14 98 = some 475 := gc_of (by decide +kernel)
theorem lc_14_122 {L : Nat} {xs : Nat → Int32} : ig_cal (tb_G L xs) 14 122 = some 476 := gc_of (by decide +kernel)
theorem lc_14_105 {L : Nat} {xs : Nat → Int32} : ig_cal (tb_G L xs) 14 105 = some 477 := gc_of (by decide +kernel)
theorem lc_14_108 {L : Nat} {xs : Nat → Int32} : ig_cal (tb_G L xs) 14 108 = some 478 := gc_of (by decide +kernel)
theorem lc_14_102 {L : Nat} {xs : Nat → Int32} : ig_cal (tb_G L xs) 14 102 = some 479 := gc_of (by decide +kernel)
theorem lc_17_226 {L : Nat} {xs : Nat → Int32} : ig_cal (tb_G L xs) 17 226 = some 480 := gc_of (by decide +kernel)
theorem lc_18_150 {L : Nat} {xs : Nat → Int32} : ig_cal (tb_G L xs) 18 150 = some 481 := gc_of (by decide +kernel)
theorem lc_17_227 {L : Nat} {xs : Nat → Int32} : ig_cal (tb_G L xs) 17 227 = some 482 := gc_of (by decide +kernel)
theorem lc_18_153 {L : Nat} {xs : Nat → Int32} : ig_cal (tb_G L xs) 18 153 = some 483 := gc_of (by decide +kernel)
theorem lc_17_232 {L : Nat} {xs : Nat → Int32} : ig_cal (tb_G L xs) 17 232 = some 484 := gc_of (by decide +kernel)
theorem lc_17_235 {L : Nat} {xs : Nat → Int32} : ig_cal (tb_G L xs) 17 235 = some 485 := gc_of (by decide +kernel)
theorem lc_14_81 {L : Nat} {xs : Nat → Int32} : ig_cal (tb_G L xs) 14 81 = some 486 := gc_of (by decide +kernel)
theorem lc_17_238 {L : Nat} {xs : Nat → Int32} : ig_cal (tb_G L xs) 17 238 = some 487 := gc_of (by decide +kernel)
theorem lc_17_241 {L : Nat} {xs : Nat → Int32} : ig_cal (tb_G L xs) 17 241 = some 488 := gc_of (by decide +kernel)
theorem lc_16_306 {L : Nat} {xs : Nat → Int32} : ig_cal (tb_G L xs) 16 306 = some 489 := gc_of (by decide +kernel)
theorem lc_16_267 {L : Nat} {xs : Nat → Int32} : ig_cal (tb_G L xs) 16 267 = some 490 := gc_of (by decide +kernel)
theorem lc_16_270 {L : Nat} {xs : Nat → Int32} : ig_cal (tb_G L xs) 16 270 = some 491 := gc_of (by decide +kernel)
theorem lc_16_309 {L : Nat} {xs : Nat → Int32} : ig_cal (tb_G L xs) 16 309 = some 492 := gc_of (by decide +kernel)
theorem lc_16_273 {L : Nat} {xs : Nat → Int32} : ig_cal (tb_G L xs) 16 273 = some 493 := gc_of (by decide +kernel)
theorem lc_16_276 {L : Nat} {xs : Nat → Int32} : ig_cal (tb_G L xs) 16 276 = some 494 := gc_of (by decide +kernel)
theorem lc_16_257 {L : Nat} {xs : Nat → Int32} : ig_cal (tb_G L xs) 16 257 = some 495 := gc_of (by decide +kernel)
theorem lc_16_261 {L : Nat} {xs : Nat → Int32} : ig_cal (tb_G L xs) 16 261 = some 496 := gc_of (by decide +kernel)
theorem lc_16_253 {L : Nat} {xs : Nat → Int32} : ig_cal (tb_G L xs) 16 253 = some 497 := gc_of (by decide +kernel)
theorem lc_16_250 {L : Nat} {xs : Nat → Int32} : ig_cal (tb_G L xs) 16 250 = some 498 := gc_of (by decide +kernel)
theorem lc_16_264 {L : Nat} {xs : Nat → Int32} : ig_cal (tb_G L xs) 16 264 = some 499 := gc_of (by decide +kernel)
theorem lc_16_312 {L : Nat} {xs : Nat → Int32} : ig_cal (tb_G L xs) 16 312 = some 500 := gc_of (by decide +kernel)
theorem lc_16_291 {L : Nat} {xs : Nat → Int32} : ig_cal (tb_G L xs) 16 291 = some 501 := gc_of (by decide +kernel)
theorem lc_16_300 {L : Nat} {xs : Nat → Int32} : ig_cal (tb_G L xs) 16 300 = some 502 := gc_of (by decide +kernel)
theorem lc_16_294 {L : Nat} {xs : Nat → Int32} : ig_cal (tb_G L xs) 16 294 = some 503 := gc_of (by decide +kernel)
theorem lc_16_297 {L : Nat} {xs : Nat → Int32} : ig_cal (tb_G L xs) 16 297 = some 504 := gc_of (by decide +kernel)
theorem lc_17_242 {L : Nat} {xs : Nat → Int32} : ig_cal (tb_G L xs) 17 242 = some 505 := gc_of (by decide +kernel)
theorem lc_18_157 {L : Nat} {xs : Nat → Int32} : ig_cal (tb_G L xs) 18 157 = some 506 := gc_of (by decide +kernel)
theorem lc_17_251 {L : Nat} {xs : Nat → Int32} : ig_cal (tb_G L xs) 17 251 = some 507 := gc_of (by decide +kernel)
theorem lc_17_245 {L : Nat} {xs : Nat → Int32} : ig_cal (tb_G L xs) 17 245 = some 508 := gc_of (by decide +kernel)
theorem lc_17_248 {L : Nat} {xs : Nat → Int32} : ig_cal (tb_G L xs) 17 248 = some 509 := gc_of (by decide +kernel)
theorem lc_17_249 {L : Nat} {xs : Nat → Int32} : ig_cal (tb_G L xs) 17 249 = some 510 := gc_of (by decide +kernel)
theorem lc_17_255 {L : Nat} {xs : Nat → Int32} : ig_cal (tb_G L xs) 17 255 = some 511 := gc_of (by decide +kernel)
theorem lc_13_263 {L : Nat} {xs : Nat → Int32} : ig_cal (tb_G L xs) 13 263 = some 512 := gc_of (by decide +kernel)
theorem lc_13_256 {L : Nat} {xs : Nat → Int32} : ig_cal (tb_G L xs) 13 256 = some 513 := gc_of (by decide +kernel)
theorem lc_13_240 {L : Nat} {xs : Nat → Int32} : ig_cal (tb_G L xs) 13 240 = some 514 := gc_of (by decide +kernel)
theorem lc_13_243 {L : Nat} {xs : Nat → Int32} : ig_cal (tb_G L xs) 13 243 = some 515 := gc_of (by decide +kernel)
theorem lc_13_247 {L : Nat} {xs : Nat → Int32} : ig_cal (tb_G L xs) 13 247 = some 516 := gc_of (by decide +kernel)
theorem lc_13_253 {L : Nat} {xs : Nat → Int32} : ig_cal (tb_G L xs) 13 253 = some 517 := gc_of (by decide +kernel)
theorem lc_13_260 {L : Nat} {xs : Nat → Int32} : ig_cal (tb_G L xs) 13 260 = some 518 := gc_of (by decide +kernel)
theorem lc_13_236 {L : Nat} {xs : Nat → Int32} : ig_cal (tb_G L xs) 13 236 = some 519 := gc_of (by decide +kernel)
theorem lc_17_256 {L : Nat} {xs : Nat → Int32} : ig_cal (tb_G L xs) 17 256 = some 520 := gc_of (by decide +kernel)
theorem lc_18_160 {L : Nat} {xs : Nat → Int32} : ig_cal (tb_G L xs) 18 160 = some 521 := gc_of (by decide +kernel)
theorem lc_17_259 {L : Nat} {xs : Nat → Int32} : ig_cal (tb_G L xs) 17 259 = some 522 := gc_of (by decide +kernel)
theorem lc_17_260 {L : Nat} {xs : Nat → Int32} : ig_cal (tb_G L xs) 17 260 = some 523 := gc_of (by decide +kernel)
theorem lc_17_264 {L : Nat} {xs : Nat → Int32} : ig_cal (tb_G L xs) 17 264 = some 524 := gc_of (by decide +kernel)
theorem lc_18_165 {L : Nat} {xs : Nat → Int32} : ig_cal (tb_G L xs) 18 165 = some 525 := gc_of (by decide +kernel)
theorem lc_11_9 {L : Nat} {xs : Nat → Int32} : ig_cal (tb_G L xs) 11 9 = some 1 := gc_of (by decide +kernel)
theorem lc_8_43 {L : Nat} {xs : Nat → Int32} : ig_cal (tb_G L xs) 8 43 = some 4 := gc_of (by decide +kernel)
theorem lc_11_36 {L : Nat} {xs : Nat → Int32} : ig_cal (tb_G L xs) 11 36 = some 5 := gc_of (by decide +kernel)
theorem lc_11_43 {L : Nat} {xs : Nat → Int32} : ig_cal (tb_G L xs) 11 43 = some 6 := gc_of (by decide +kernel)
theorem lc_11_50 {L : Nat} {xs : Nat → Int32} : ig_cal (tb_G L xs) 11 50 = some 7 := gc_of (by decide +kernel)
theorem lc_4_11 {L : Nat} {xs : Nat → Int32} : ig_cal (tb_G L xs) 4 11 = some 8 := gc_of (by decide +kernel)
set_option maxRecDepth 100000 in
theorem lT_0 {L : Nat} {xs : Nat → Int32} : ig_T (tb_G L xs) 0 = some J_H_init := gT_of rfl
set_option maxRecDepth 100000 in
theorem lT_1 {L : Nat} {xs : Nat → Int32} : ig_T (tb_G L xs) 1 = some J_HTape_init := gT_of rfl
set_option maxRecDepth 100000 in
theorem lT_2 {L : Nat} {xs : Nat → Int32} : ig_T (tb_G L xs) 2 = some J_HOrders_init := gT_of rfl
set_option maxRecDepth 100000 in
theorem lT_3 {L : Nat} {xs : Nat → Int32} : ig_T (tb_G L xs) 3 = some J_HSetter_init := gT_of rfl
set_option maxRecDepth 100000 in
theorem lT_4 {L : Nat} {xs : Nat → Int32} : ig_T (tb_G L xs) 4 = some J_HField_init := gT_of rfl
set_option maxRecDepth 100000 in
theorem lT_5 {L : Nat} {xs : Nat → Int32} : ig_T (tb_G L xs) 5 = some J_HSheet_init := gT_of rfl
set_option maxRecDepth 100000 in
theorem lT_6 {L : Nat} {xs : Nat → Int32} : ig_T (tb_G L xs) 6 = some J_HBars_init := gT_of rfl
set_option maxRecDepth 100000 in
theorem lT_7 {L : Nat} {xs : Nat → Int32} : ig_T (tb_G L xs) 7 = some J_HGrid_init := gT_of rfl
set_option maxRecDepth 100000 in
theorem lT_8 {L : Nat} {xs : Nat → Int32} : ig_T (tb_G L xs) 8 = some J_HSegments_init := gT_of rfl
set_option maxRecDepth 100000 in
theorem lT_9 {L : Nat} {xs : Nat → Int32} : ig_T (tb_G L xs) 9 = some J_HBlocks_init := gT_of rfl
set_option maxRecDepth 100000 in
theorem lT_10 {L : Nat} {xs : Nat → Int32} : ig_T (tb_G L xs) 10 = some J_HPen_init := gT_of rfl
set_option maxRecDepth 100000 in
theorem lT_11 {L : Nat} {xs : Nat → Int32} : ig_T (tb_G L xs) 11 = some J_HFinder_init := gT_of rfl
set_option maxRecDepth 100000 in
theorem lT_12 {L : Nat} {xs : Nat → Int32} : ig_T (tb_G L xs) 12 = some J_H_wipe := gT_of rfl
set_option maxRecDepth 100000 in
theorem lT_13 {L : Nat} {xs : Nat → Int32} : ig_T (tb_G L xs) 13 = some J_H_read := gT_of rfl
set_option maxRecDepth 100000 in
theorem lT_14 {L : Nat} {xs : Nat → Int32} : ig_T (tb_G L xs) 14 = some J_HSetter_followAll := gT_of rfl
set_option maxRecDepth 100000 in
theorem lT_15 {L : Nat} {xs : Nat → Int32} : ig_T (tb_G L xs) 15 = some J_HTape_rewind := gT_of rfl
set_option maxRecDepth 100000 in
theorem lT_16 {L : Nat} {xs : Nat → Int32} : ig_T (tb_G L xs) 16 = some J_HTape_passBlanks := gT_of rfl
set_option maxRecDepth 100000 in
theorem lT_17 {L : Nat} {xs : Nat → Int32} : ig_T (tb_G L xs) 17 = some J_HTape_next := gT_of rfl
set_option maxRecDepth 100000 in
theorem lT_18 {L : Nat} {xs : Nat → Int32} : ig_T (tb_G L xs) 18 = some J_HTape_pass := gT_of rfl
set_option maxRecDepth 100000 in
theorem lT_19 {L : Nat} {xs : Nat → Int32} : ig_T (tb_G L xs) 19 = some J_HSetter_follow := gT_of rfl
set_option maxRecDepth 100000 in
theorem lT_20 {L : Nat} {xs : Nat → Int32} : ig_T (tb_G L xs) 20 = some J_String_indexOf := gT_of rfl
set_option maxRecDepth 100000 in
theorem lT_21 {L : Nat} {xs : Nat → Int32} : ig_T (tb_G L xs) 21 = some J_String_indexOf2 := gT_of rfl
set_option maxRecDepth 100000 in
theorem lT_22 {L : Nat} {xs : Nat → Int32} : ig_T (tb_G L xs) 22 = some J_String_isLatin1 := gT_of rfl
set_option maxRecDepth 100000 in
theorem lT_23 {L : Nat} {xs : Nat → Int32} : ig_T (tb_G L xs) 23 = some J_String_length := gT_of rfl
set_option maxRecDepth 100000 in
theorem lT_24 {L : Nat} {xs : Nat → Int32} : ig_T (tb_G L xs) 24 = some J_String_coder := gT_of rfl
set_option maxRecDepth 100000 in
theorem lT_25 {L : Nat} {xs : Nat → Int32} : ig_T (tb_G L xs) 25 = some J_StringLatin1_indexOf := gT_of rfl
set_option maxRecDepth 100000 in
theorem lT_26 {L : Nat} {xs : Nat → Int32} : ig_T (tb_G L xs) 26 = some J_StringLatin1_canEncode := gT_of rfl
set_option maxRecDepth 100000 in
theorem lT_27 {L : Nat} {xs : Nat → Int32} : ig_T (tb_G L xs) 27 = some J_Math_max := gT_of rfl
set_option maxRecDepth 100000 in
theorem lT_28 {L : Nat} {xs : Nat → Int32} : ig_T (tb_G L xs) 28 = some J_Math_min := gT_of rfl
set_option maxRecDepth 100000 in
theorem lT_29 {L : Nat} {xs : Nat → Int32} : ig_T (tb_G L xs) 29 = some J_StringLatin1_indexOfChar := gT_of rfl
set_option maxRecDepth 100000 in
theorem lT_30 {L : Nat} {xs : Nat → Int32} : ig_T (tb_G L xs) 30 = some J_String_checkBoundsBeginEnd := gT_of rfl
set_option maxRecDepth 100000 in
theorem lT_31 {L : Nat} {xs : Nat → Int32} : ig_T (tb_G L xs) 31 = some J_HSetter_canStand := gT_of rfl
set_option maxRecDepth 100000 in
theorem lT_32 {L : Nat} {xs : Nat → Int32} : ig_T (tb_G L xs) 32 = some J_HSetter_leaveOut := gT_of rfl
set_option maxRecDepth 100000 in
theorem lT_33 {L : Nat} {xs : Nat → Int32} : ig_T (tb_G L xs) 33 = some J_HTape_takeNumberAndComma := gT_of rfl
set_option maxRecDepth 100000 in
theorem lT_34 {L : Nat} {xs : Nat → Int32} : ig_T (tb_G L xs) 34 = some J_HTape_takeNumber := gT_of rfl
set_option maxRecDepth 100000 in
theorem lT_35 {L : Nat} {xs : Nat → Int32} : ig_T (tb_G L xs) 35 = some J_HTape_isDigit := gT_of rfl
set_option maxRecDepth 100000 in
theorem lT_36 {L : Nat} {xs : Nat → Int32} : ig_T (tb_G L xs) 36 = some J_HTape_takeNumbers := gT_of rfl
set_option maxRecDepth 100000 in
theorem lT_37 {L : Nat} {xs : Nat → Int32} : ig_T (tb_G L xs) 37 = some J_HSetter_inRanges := gT_of rfl
set_option maxRecDepth 100000 in
theorem lT_38 {L : Nat} {xs : Nat → Int32} : ig_T (tb_G L xs) 38 = some J_HTape_takeData := gT_of rfl
set_option maxRecDepth 100000 in
theorem lT_39 {L : Nat} {xs : Nat → Int32} : ig_T (tb_G L xs) 39 = some J_HTape_takeHexPair := gT_of rfl
set_option maxRecDepth 100000 in
theorem lT_40 {L : Nat} {xs : Nat → Int32} : ig_T (tb_G L xs) 40 = some J_HTape_hexValue := gT_of rfl
set_option maxRecDepth 100000 in
theorem lT_41 {L : Nat} {xs : Nat → Int32} : ig_T (tb_G L xs) 41 = some J_HSetter_laterFault := gT_of rfl
set_option maxRecDepth 100000 in
theorem lT_42 {L : Nat} {xs : Nat → Int32} : ig_T (tb_G L xs) 42 = some J_HTape_endOfForm := gT_of rfl
set_option maxRecDepth 100000 in
theorem lT_43 {L : Nat} {xs : Nat → Int32} : ig_T (tb_G L xs) 43 = some J_HField_cutLines := gT_of rfl
set_option maxRecDepth 100000 in
theorem lT_44 {L : Nat} {xs : Nat → Int32} : ig_T (tb_G L xs) 44 = some J_HField_endOfPiece := gT_of rfl
set_option maxRecDepth 100000 in
theorem lT_45 {L : Nat} {xs : Nat → Int32} : ig_T (tb_G L xs) 45 = some J_HField_lastBlank := gT_of rfl
set_option maxRecDepth 100000 in
theorem lT_46 {L : Nat} {xs : Nat → Int32} : ig_T (tb_G L xs) 46 = some J_HField_addLine := gT_of rfl
set_option maxRecDepth 100000 in
theorem lT_47 {L : Nat} {xs : Nat → Int32} : ig_T (tb_G L xs) 47 = some J_HField_hasItsData := gT_of rfl
set_option maxRecDepth 100000 in
theorem lT_48 {L : Nat} {xs : Nat → Int32} : ig_T (tb_G L xs) 48 = some J_HField_allDigits := gT_of rfl
set_option maxRecDepth 100000 in
theorem lT_49 {L : Nat} {xs : Nat → Int32} : ig_T (tb_G L xs) 49 = some J_HField_isPicture := gT_of rfl
set_option maxRecDepth 100000 in
theorem lT_50 {L : Nat} {xs : Nat → Int32} : ig_T (tb_G L xs) 50 = some J_HField_build := gT_of rfl
set_option maxRecDepth 100000 in
theorem lT_51 {L : Nat} {xs : Nat → Int32} : ig_T (tb_G L xs) 51 = some J_HField_layLines := gT_of rfl
set_option maxRecDepth 100000 in
theorem lT_52 {L : Nat} {xs : Nat → Int32} : ig_T (tb_G L xs) 52 = some J_HOrders_lay := gT_of rfl
set_option maxRecDepth 100000 in
theorem lT_53 {L : Nat} {xs : Nat → Int32} : ig_T (tb_G L xs) 53 = some J_Arrays_fill := gT_of rfl
set_option maxRecDepth 100000 in
theorem lT_54 {L : Nat} {xs : Nat → Int32} : ig_T (tb_G L xs) 54 = some J_Arrays_rangeCheck := gT_of rfl
set_option maxRecDepth 100000 in
theorem lT_55 {L : Nat} {xs : Nat → Int32} : ig_T (tb_G L xs) 55 = some J_Arrays_copyOf := gT_of rfl
set_option maxRecDepth 100000 in
theorem lT_56 {L : Nat} {xs : Nat → Int32} : ig_T (tb_G L xs) 56 = some J_StringLatin1_inflate := gT_of rfl
set_option maxRecDepth 100000 in
theorem lT_57 {L : Nat} {xs : Nat → Int32} : ig_T (tb_G L xs) 57 = some J_String_checkBoundsOffCount := gT_of rfl
set_option maxRecDepth 100000 in
theorem lT_58 {L : Nat} {xs : Nat → Int32} : ig_T (tb_G L xs) 58 = some J_String_getBytes := gT_of rfl
set_option maxRecDepth 100000 in
theorem lT_59 {L : Nat} {xs : Nat → Int32} : ig_T (tb_G L xs) 59 = some J_Integer_stringSize := gT_of rfl
set_option maxRecDepth 100000 in
theorem lT_60 {L : Nat} {xs : Nat → Int32} : ig_T (tb_G L xs) 60 = some J_Integer_getChars := gT_of rfl
set_option maxRecDepth 100000 in
theorem lT_61 {L : Nat} {xs : Nat → Int32} : ig_T (tb_G L xs) 61 = some J_Arrays_copyOfRange := gT_of rfl
set_option maxRecDepth 100000 in
theorem lT_62 {L : Nat} {xs : Nat → Int32} : ig_T (tb_G L xs) 62 = some J_Arrays_copyOfRangeByte := gT_of rfl
set_option maxRecDepth 100000 in
theorem lT_63 {L : Nat} {xs : Nat → Int32} : ig_T (tb_G L xs) 63 = some J_Arrays_checkLength := gT_of rfl
set_option maxRecDepth 100000 in
theorem lT_64 {L : Nat} {xs : Nat → Int32} : ig_T (tb_G L xs) 64 = some J_HOrders_move := gT_of rfl
set_option maxRecDepth 100000 in
theorem lT_65 {L : Nat} {xs : Nat → Int32} : ig_T (tb_G L xs) 65 = some J_HOrders_number := gT_of rfl
set_option maxRecDepth 100000 in
theorem lT_66 {L : Nat} {xs : Nat → Int32} : ig_T (tb_G L xs) 66 = some J_HOrders_slice := gT_of rfl
set_option maxRecDepth 100000 in
theorem lT_67 {L : Nat} {xs : Nat → Int32} : ig_T (tb_G L xs) 67 = some J_HField_layOthers := gT_of rfl
set_option maxRecDepth 100000 in
theorem lT_68 {L : Nat} {xs : Nat → Int32} : ig_T (tb_G L xs) 68 = some J_HOrders_inRange := gT_of rfl
set_option maxRecDepth 100000 in
theorem lT_69 {L : Nat} {xs : Nat → Int32} : ig_T (tb_G L xs) 69 = some J_HSetter_isTooMuch := gT_of rfl
set_option maxRecDepth 100000 in
theorem lT_70 {L : Nat} {xs : Nat → Int32} : ig_T (tb_G L xs) 70 = some J_HSetter_perform := gT_of rfl
set_option maxRecDepth 100000 in
theorem lT_71 {L : Nat} {xs : Nat → Int32} : ig_T (tb_G L xs) 71 = some J_HTape_keepForm := gT_of rfl
set_option maxRecDepth 100000 in
theorem lT_72 {L : Nat} {xs : Nat → Int32} : ig_T (tb_G L xs) 72 = some J_HSetter_beginLabel := gT_of rfl
set_option maxRecDepth 100000 in
theorem lT_73 {L : Nat} {xs : Nat → Int32} : ig_T (tb_G L xs) 73 = some J_HField_clear := gT_of rfl
set_option maxRecDepth 100000 in
theorem lT_74 {L : Nat} {xs : Nat → Int32} : ig_T (tb_G L xs) 74 = some J_HTape_keepVariable := gT_of rfl
set_option maxRecDepth 100000 in
theorem lT_75 {L : Nat} {xs : Nat → Int32} : ig_T (tb_G L xs) 75 = some J_HSetter_endLabel := gT_of rfl
set_option maxRecDepth 100000 in
theorem lT_76 {L : Nat} {xs : Nat → Int32} : ig_T (tb_G L xs) 76 = some J_HOrders_addCopy := gT_of rfl
set_option maxRecDepth 100000 in
theorem lT_77 {L : Nat} {xs : Nat → Int32} : ig_T (tb_G L xs) 77 = some J_HOrders_value := gT_of rfl
set_option maxRecDepth 100000 in
theorem lT_78 {L : Nat} {xs : Nat → Int32} : ig_T (tb_G L xs) 78 = some J_HOrders_countOn := gT_of rfl
set_option maxRecDepth 100000 in
theorem lT_79 {L : Nat} {xs : Nat → Int32} : ig_T (tb_G L xs) 79 = some J_Math_floorMod := gT_of rfl
set_option maxRecDepth 100000 in
theorem lT_80 {L : Nat} {xs : Nat → Int32} : ig_T (tb_G L xs) 80 = some J_HTape_enterForm := gT_of rfl
set_option maxRecDepth 100000 in
theorem lT_81 {L : Nat} {xs : Nat → Int32} : ig_T (tb_G L xs) 81 = some J_HSetter_performOfField := gT_of rfl
set_option maxRecDepth 100000 in
theorem lT_82 {L : Nat} {xs : Nat → Int32} : ig_T (tb_G L xs) 82 = some J_HField_hold := gT_of rfl
set_option maxRecDepth 100000 in
theorem lT_83 {L : Nat} {xs : Nat → Int32} : ig_T (tb_G L xs) 83 = some J_HField_become := gT_of rfl
set_option maxRecDepth 100000 in
theorem lT_84 {L : Nat} {xs : Nat → Int32} : ig_T (tb_G L xs) 84 = some J_HSetter_finish := gT_of rfl
set_option maxRecDepth 100000 in
theorem lT_85 {L : Nat} {xs : Nat → Int32} : ig_T (tb_G L xs) 85 = some J_H_fault := gT_of rfl
set_option maxRecDepth 100000 in
theorem lT_86 {L : Nat} {xs : Nat → Int32} : ig_T (tb_G L xs) 86 = some J_H_place := gT_of rfl
set_option maxRecDepth 100000 in
theorem lT_87 {L : Nat} {xs : Nat → Int32} : ig_T (tb_G L xs) 87 = some J_H_drawn := gT_of rfl
set_option maxRecDepth 100000 in
theorem lT_88 {L : Nat} {xs : Nat → Int32} : ig_T (tb_G L xs) 88 = some J_H_spoil := gT_of rfl
set_option maxRecDepth 100000 in
theorem lT_89 {L : Nat} {xs : Nat → Int32} : ig_T (tb_G L xs) 89 = some J_HSheet_flip := gT_of rfl
set_option maxRecDepth 100000 in
theorem lT_90 {L : Nat} {xs : Nat → Int32} : ig_T (tb_G L xs) 90 = some J_H_dots := gT_of rfl
set_option maxRecDepth 100000 in
theorem lT_91 {L : Nat} {xs : Nat → Int32} : ig_T (tb_G L xs) 91 = some J_HSheet_wordFrom := gT_of rfl
set_option maxRecDepth 100000 in
theorem lT_92 {L : Nat} {xs : Nat → Int32} : ig_T (tb_G L xs) 92 = some J_HSheet_word := gT_of rfl
set_option maxRecDepth 100000 in
theorem lT_93 {L : Nat} {xs : Nat → Int32} : ig_T (tb_G L xs) 93 = some J_H_got := gT_of rfl
set_option maxRecDepth 100000 in
theorem lT_94 {L : Nat} {xs : Nat → Int32} : ig_T (tb_G L xs) 94 = some J_H_eightBytes := gT_of rfl
set_option maxRecDepth 100000 in
theorem lT_95 {L : Nat} {xs : Nat → Int32} : ig_T (tb_G L xs) 95 = some J_H_feed := gT_of rfl
set_option maxRecDepth 100000 in
theorem lT_96 {L : Nat} {xs : Nat → Int32} : ig_T (tb_G L xs) 96 = some J_HTape_append := gT_of rfl
set_option maxRecDepth 100000 in
theorem lT_97 {L : Nat} {xs : Nat → Int32} : ig_T (tb_G L xs) 97 = some J_H_font := gT_of rfl
set_option maxRecDepth 100000 in
theorem lT_98 {L : Nat} {xs : Nat → Int32} : ig_T (tb_G L xs) 98 = some J_HPen_newFont := gT_of rfl
set_option maxRecDepth 100000 in
theorem lT_99 {L : Nat} {xs : Nat → Int32} : ig_T (tb_G L xs) 99 = some J_H_cell := gT_of rfl
set_option maxRecDepth 100000 in
theorem lT_100 {L : Nat} {xs : Nat → Int32} : ig_T (tb_G L xs) 100 = some J_HPen_rowsOf := gT_of rfl
set_option maxRecDepth 100000 in
theorem lT_101 {L : Nat} {xs : Nat → Int32} : ig_T (tb_G L xs) 101 = some J_HPen_newRow := gT_of rfl
set_option maxRecDepth 100000 in
theorem lT_102 {L : Nat} {xs : Nat → Int32} : ig_T (tb_G L xs) 102 = some J_H_label := gT_of rfl
set_option maxRecDepth 100000 in
theorem lT_103 {L : Nat} {xs : Nat → Int32} : ig_T (tb_G L xs) 103 = some J_H_order := gT_of rfl
set_option maxRecDepth 100000 in
theorem lT_104 {L : Nat} {xs : Nat → Int32} : ig_T (tb_G L xs) 104 = some J_H_data := gT_of rfl
set_option maxRecDepth 100000 in
theorem lT_105 {L : Nat} {xs : Nat → Int32} : ig_T (tb_G L xs) 105 = some J_H_print := gT_of rfl
set_option maxRecDepth 100000 in
theorem lT_106 {L : Nat} {xs : Nat → Int32} : ig_T (tb_G L xs) 106 = some J_HSheet_renew := gT_of rfl
set_option maxRecDepth 100000 in
theorem lT_107 {L : Nat} {xs : Nat → Int32} : ig_T (tb_G L xs) 107 = some J_Arrays_fill2 := gT_of rfl
set_option maxRecDepth 100000 in
theorem lT_108 {L : Nat} {xs : Nat → Int32} : ig_T (tb_G L xs) 108 = some J_HPen_follow := gT_of rfl
set_option maxRecDepth 100000 in
theorem lT_109 {L : Nat} {xs : Nat → Int32} : ig_T (tb_G L xs) 109 = some J_HPen_drawText := gT_of rfl
set_option maxRecDepth 100000 in
theorem lT_110 {L : Nat} {xs : Nat → Int32} : ig_T (tb_G L xs) 110 = some J_HOrders_byteAt := gT_of rfl
set_option maxRecDepth 100000 in
theorem lT_111 {L : Nat} {xs : Nat → Int32} : ig_T (tb_G L xs) 111 = some J_HPen_drawCellRow := gT_of rfl
set_option maxRecDepth 100000 in
theorem lT_112 {L : Nat} {xs : Nat → Int32} : ig_T (tb_G L xs) 112 = some J_HPen_strike := gT_of rfl
set_option maxRecDepth 100000 in
theorem lT_113 {L : Nat} {xs : Nat → Int32} : ig_T (tb_G L xs) 113 = some J_HSheet_box := gT_of rfl
set_option maxRecDepth 100000 in
theorem lT_114 {L : Nat} {xs : Nat → Int32} : ig_T (tb_G L xs) 114 = some J_HSheet_strikeColumn := gT_of rfl
set_option maxRecDepth 100000 in
theorem lT_115 {L : Nat} {xs : Nat → Int32} : ig_T (tb_G L xs) 115 = some J_HBars_layText := gT_of rfl
set_option maxRecDepth 100000 in
theorem lT_116 {L : Nat} {xs : Nat → Int32} : ig_T (tb_G L xs) 116 = some J_HBars_countFewest := gT_of rfl
set_option maxRecDepth 100000 in
theorem lT_117 {L : Nat} {xs : Nat → Int32} : ig_T (tb_G L xs) 117 = some J_HBars_fewestBySign := gT_of rfl
set_option maxRecDepth 100000 in
theorem lT_118 {L : Nat} {xs : Nat → Int32} : ig_T (tb_G L xs) 118 = some J_HBars_straight := gT_of rfl
set_option maxRecDepth 100000 in
theorem lT_119 {L : Nat} {xs : Nat → Int32} : ig_T (tb_G L xs) 119 = some J_HBars_symbolFor := gT_of rfl
set_option maxRecDepth 100000 in
theorem lT_120 {L : Nat} {xs : Nat → Int32} : ig_T (tb_G L xs) 120 = some J_HBars_signsEach := gT_of rfl
set_option maxRecDepth 100000 in
theorem lT_121 {L : Nat} {xs : Nat → Int32} : ig_T (tb_G L xs) 121 = some J_HBars_shifted := gT_of rfl
set_option maxRecDepth 100000 in
theorem lT_122 {L : Nat} {xs : Nat → Int32} : ig_T (tb_G L xs) 122 = some J_HBars_chooseSymbols := gT_of rfl
set_option maxRecDepth 100000 in
theorem lT_123 {L : Nat} {xs : Nat → Int32} : ig_T (tb_G L xs) 123 = some J_HBars_leastSymbol := gT_of rfl
set_option maxRecDepth 100000 in
theorem lT_124 {L : Nat} {xs : Nat → Int32} : ig_T (tb_G L xs) 124 = some J_HBars_addSymbol := gT_of rfl
set_option maxRecDepth 100000 in
theorem lT_125 {L : Nat} {xs : Nat → Int32} : ig_T (tb_G L xs) 125 = some J_HBars_checkSymbol := gT_of rfl
set_option maxRecDepth 100000 in
theorem lT_126 {L : Nat} {xs : Nat → Int32} : ig_T (tb_G L xs) 126 = some J_HBars_layWidths := gT_of rfl
set_option maxRecDepth 100000 in
theorem lT_127 {L : Nat} {xs : Nat → Int32} : ig_T (tb_G L xs) 127 = some J_HBars_addWidths := gT_of rfl
set_option maxRecDepth 100000 in
theorem lT_128 {L : Nat} {xs : Nat → Int32} : ig_T (tb_G L xs) 128 = some J_HPen_drawBars := gT_of rfl
set_option maxRecDepth 100000 in
theorem lT_129 {L : Nat} {xs : Nat → Int32} : ig_T (tb_G L xs) 129 = some J_HBars_layFigures := gT_of rfl
set_option maxRecDepth 100000 in
theorem lT_130 {L : Nat} {xs : Nat → Int32} : ig_T (tb_G L xs) 130 = some J_Math_floorMod2 := gT_of rfl
set_option maxRecDepth 100000 in
theorem lT_131 {L : Nat} {xs : Nat → Int32} : ig_T (tb_G L xs) 131 = some J_HBars_checkFigure := gT_of rfl
set_option maxRecDepth 100000 in
theorem lT_132 {L : Nat} {xs : Nat → Int32} : ig_T (tb_G L xs) 132 = some J_HGrid_make := gT_of rfl
set_option maxRecDepth 100000 in
theorem lT_133 {L : Nat} {xs : Nat → Int32} : ig_T (tb_G L xs) 133 = some J_HSegments_pack := gT_of rfl
set_option maxRecDepth 100000 in
theorem lT_134 {L : Nat} {xs : Nat → Int32} : ig_T (tb_G L xs) 134 = some J_HSegments_groupOf := gT_of rfl
set_option maxRecDepth 100000 in
theorem lT_135 {L : Nat} {xs : Nat → Int32} : ig_T (tb_G L xs) 135 = some J_HSegments_plan := gT_of rfl
set_option maxRecDepth 100000 in
theorem lT_136 {L : Nat} {xs : Nat → Int32} : ig_T (tb_G L xs) 136 = some J_HSegments_leastMode := gT_of rfl
set_option maxRecDepth 100000 in
theorem lT_137 {L : Nat} {xs : Nat → Int32} : ig_T (tb_G L xs) 137 = some J_HSegments_isOf := gT_of rfl
set_option maxRecDepth 100000 in
theorem lT_138 {L : Nat} {xs : Nat → Int32} : ig_T (tb_G L xs) 138 = some J_HSegments_bitsBy := gT_of rfl
set_option maxRecDepth 100000 in
theorem lT_139 {L : Nat} {xs : Nat → Int32} : ig_T (tb_G L xs) 139 = some J_HBlocks_holds := gT_of rfl
set_option maxRecDepth 100000 in
theorem lT_140 {L : Nat} {xs : Nat → Int32} : ig_T (tb_G L xs) 140 = some J_HBlocks_codewordsOf := gT_of rfl
set_option maxRecDepth 100000 in
theorem lT_141 {L : Nat} {xs : Nat → Int32} : ig_T (tb_G L xs) 141 = some J_HSegments_write := gT_of rfl
set_option maxRecDepth 100000 in
theorem lT_142 {L : Nat} {xs : Nat → Int32} : ig_T (tb_G L xs) 142 = some J_Arrays_fill3 := gT_of rfl
set_option maxRecDepth 100000 in
theorem lT_143 {L : Nat} {xs : Nat → Int32} : ig_T (tb_G L xs) 143 = some J_HSegments_put := gT_of rfl
set_option maxRecDepth 100000 in
theorem lT_144 {L : Nat} {xs : Nat → Int32} : ig_T (tb_G L xs) 144 = some J_HSegments_writeBytes := gT_of rfl
set_option maxRecDepth 100000 in
theorem lT_145 {L : Nat} {xs : Nat → Int32} : ig_T (tb_G L xs) 145 = some J_HSegments_base := gT_of rfl
set_option maxRecDepth 100000 in
theorem lT_146 {L : Nat} {xs : Nat → Int32} : ig_T (tb_G L xs) 146 = some J_HSegments_partBits := gT_of rfl
set_option maxRecDepth 100000 in
theorem lT_147 {L : Nat} {xs : Nat → Int32} : ig_T (tb_G L xs) 147 = some J_HBlocks_spread := gT_of rfl
set_option maxRecDepth 100000 in
theorem lT_148 {L : Nat} {xs : Nat → Int32} : ig_T (tb_G L xs) 148 = some J_HBlocks_begin := gT_of rfl
set_option maxRecDepth 100000 in
theorem lT_149 {L : Nat} {xs : Nat → Int32} : ig_T (tb_G L xs) 149 = some J_HBlocks_makeGenerator := gT_of rfl
set_option maxRecDepth 100000 in
theorem lT_150 {L : Nat} {xs : Nat → Int32} : ig_T (tb_G L xs) 150 = some J_Arrays_fill4 := gT_of rfl
set_option maxRecDepth 100000 in
theorem lT_151 {L : Nat} {xs : Nat → Int32} : ig_T (tb_G L xs) 151 = some J_HBlocks_times := gT_of rfl
set_option maxRecDepth 100000 in
theorem lT_152 {L : Nat} {xs : Nat → Int32} : ig_T (tb_G L xs) 152 = some J_HBlocks_sizeOf := gT_of rfl
set_option maxRecDepth 100000 in
theorem lT_153 {L : Nat} {xs : Nat → Int32} : ig_T (tb_G L xs) 153 = some J_HBlocks_placeOf := gT_of rfl
set_option maxRecDepth 100000 in
theorem lT_154 {L : Nat} {xs : Nat → Int32} : ig_T (tb_G L xs) 154 = some J_HBlocks_divide := gT_of rfl
set_option maxRecDepth 100000 in
theorem lT_155 {L : Nat} {xs : Nat → Int32} : ig_T (tb_G L xs) 155 = some J_HGrid_begin := gT_of rfl
set_option maxRecDepth 100000 in
theorem lT_156 {L : Nat} {xs : Nat → Int32} : ig_T (tb_G L xs) 156 = some J_HGrid_fix := gT_of rfl
set_option maxRecDepth 100000 in
theorem lT_157 {L : Nat} {xs : Nat → Int32} : ig_T (tb_G L xs) 157 = some J_HGrid_fixSquares := gT_of rfl
set_option maxRecDepth 100000 in
theorem lT_158 {L : Nat} {xs : Nat → Int32} : ig_T (tb_G L xs) 158 = some J_Math_abs := gT_of rfl
set_option maxRecDepth 100000 in
theorem lT_159 {L : Nat} {xs : Nat → Int32} : ig_T (tb_G L xs) 159 = some J_HGrid_fixSmallSquares := gT_of rfl
set_option maxRecDepth 100000 in
theorem lT_160 {L : Nat} {xs : Nat → Int32} : ig_T (tb_G L xs) 160 = some J_HGrid_smallPlace := gT_of rfl
set_option maxRecDepth 100000 in
theorem lT_161 {L : Nat} {xs : Nat → Int32} : ig_T (tb_G L xs) 161 = some J_HGrid_fixForm := gT_of rfl
set_option maxRecDepth 100000 in
theorem lT_162 {L : Nat} {xs : Nat → Int32} : ig_T (tb_G L xs) 162 = some J_HGrid_formWord := gT_of rfl
set_option maxRecDepth 100000 in
theorem lT_163 {L : Nat} {xs : Nat → Int32} : ig_T (tb_G L xs) 163 = some J_HGrid_rest := gT_of rfl
set_option maxRecDepth 100000 in
theorem lT_164 {L : Nat} {xs : Nat → Int32} : ig_T (tb_G L xs) 164 = some J_HGrid_formX := gT_of rfl
set_option maxRecDepth 100000 in
theorem lT_165 {L : Nat} {xs : Nat → Int32} : ig_T (tb_G L xs) 165 = some J_HGrid_formY := gT_of rfl
set_option maxRecDepth 100000 in
theorem lT_166 {L : Nat} {xs : Nat → Int32} : ig_T (tb_G L xs) 166 = some J_HGrid_fixVersion := gT_of rfl
set_option maxRecDepth 100000 in
theorem lT_167 {L : Nat} {xs : Nat → Int32} : ig_T (tb_G L xs) 167 = some J_HGrid_carry := gT_of rfl
set_option maxRecDepth 100000 in
theorem lT_168 {L : Nat} {xs : Nat → Int32} : ig_T (tb_G L xs) 168 = some J_HGrid_carryBit := gT_of rfl
set_option maxRecDepth 100000 in
theorem lT_169 {L : Nat} {xs : Nat → Int32} : ig_T (tb_G L xs) 169 = some J_HBlocks_bitAt := gT_of rfl
set_option maxRecDepth 100000 in
theorem lT_170 {L : Nat} {xs : Nat → Int32} : ig_T (tb_G L xs) 170 = some J_HGrid_set := gT_of rfl
set_option maxRecDepth 100000 in
theorem lT_171 {L : Nat} {xs : Nat → Int32} : ig_T (tb_G L xs) 171 = some J_HGrid_isDark := gT_of rfl
set_option maxRecDepth 100000 in
theorem lT_172 {L : Nat} {xs : Nat → Int32} : ig_T (tb_G L xs) 172 = some J_HBlocks_putBit := gT_of rfl
set_option maxRecDepth 100000 in
theorem lT_173 {L : Nat} {xs : Nat → Int32} : ig_T (tb_G L xs) 173 = some J_HGrid_bestMask := gT_of rfl
set_option maxRecDepth 100000 in
theorem lT_174 {L : Nat} {xs : Nat → Int32} : ig_T (tb_G L xs) 174 = some J_HGrid_turnMask := gT_of rfl
set_option maxRecDepth 100000 in
theorem lT_175 {L : Nat} {xs : Nat → Int32} : ig_T (tb_G L xs) 175 = some J_HGrid_isTurned := gT_of rfl
set_option maxRecDepth 100000 in
theorem lT_176 {L : Nat} {xs : Nat → Int32} : ig_T (tb_G L xs) 176 = some J_HGrid_penalty := gT_of rfl
set_option maxRecDepth 100000 in
theorem lT_177 {L : Nat} {xs : Nat → Int32} : ig_T (tb_G L xs) 177 = some J_HGrid_linePenalty := gT_of rfl
set_option maxRecDepth 100000 in
theorem lT_178 {L : Nat} {xs : Nat → Int32} : ig_T (tb_G L xs) 178 = some J_HGrid_isSquareAlike := gT_of rfl
set_option maxRecDepth 100000 in
theorem lT_179 {L : Nat} {xs : Nat → Int32} : ig_T (tb_G L xs) 179 = some J_HPen_drawSquare := gT_of rfl
set_option maxRecDepth 100000 in
theorem lT_180 {L : Nat} {xs : Nat → Int32} : ig_T (tb_G L xs) 180 = some J_HPen_drawFrame := gT_of rfl
set_option maxRecDepth 100000 in
theorem lT_181 {L : Nat} {xs : Nat → Int32} : ig_T (tb_G L xs) 181 = some J_HPen_drawEllipse := gT_of rfl
set_option maxRecDepth 100000 in
theorem lT_182 {L : Nat} {xs : Nat → Int32} : ig_T (tb_G L xs) 182 = some J_HPen_indent := gT_of rfl
set_option maxRecDepth 100000 in
theorem lT_183 {L : Nat} {xs : Nat → Int32} : ig_T (tb_G L xs) 183 = some J_HPen_drawLine := gT_of rfl
set_option maxRecDepth 100000 in
theorem lT_184 {L : Nat} {xs : Nat → Int32} : ig_T (tb_G L xs) 184 = some J_Math_floorDiv := gT_of rfl
set_option maxRecDepth 100000 in
theorem lT_185 {L : Nat} {xs : Nat → Int32} : ig_T (tb_G L xs) 185 = some J_HPen_isNear := gT_of rfl
set_option maxRecDepth 100000 in
theorem lT_186 {L : Nat} {xs : Nat → Int32} : ig_T (tb_G L xs) 186 = some J_HPen_lastNear := gT_of rfl
set_option maxRecDepth 100000 in
theorem lT_187 {L : Nat} {xs : Nat → Int32} : ig_T (tb_G L xs) 187 = some J_HPen_drawPicture := gT_of rfl
set_option maxRecDepth 100000 in
theorem lT_188 {L : Nat} {xs : Nat → Int32} : ig_T (tb_G L xs) 188 = some J_H_turn := gT_of rfl
set_option maxRecDepth 100000 in
theorem lT_189 {L : Nat} {xs : Nat → Int32} : ig_T (tb_G L xs) 189 = some J_HSheet_rotate := gT_of rfl
set_option maxRecDepth 100000 in
theorem lT_190 {L : Nat} {xs : Nat → Int32} : ig_T (tb_G L xs) 190 = some J_HSheet_rotateWord := gT_of rfl
set_option maxRecDepth 100000 in
theorem lT_191 {L : Nat} {xs : Nat → Int32} : ig_T (tb_G L xs) 191 = some J_H_told := gT_of rfl
set_option maxRecDepth 100000 in
theorem lT_192 {L : Nat} {xs : Nat → Int32} : ig_T (tb_G L xs) 192 = some J_HSheet_edgeColumn := gT_of rfl
set_option maxRecDepth 100000 in
theorem lT_193 {L : Nat} {xs : Nat → Int32} : ig_T (tb_G L xs) 193 = some J_HSheet_edgeBit := gT_of rfl
set_option maxRecDepth 100000 in
theorem lT_194 {L : Nat} {xs : Nat → Int32} : ig_T (tb_G L xs) 194 = some J_HSheet_edgeRow := gT_of rfl
set_option maxRecDepth 100000 in
theorem lT_195 {L : Nat} {xs : Nat → Int32} : ig_T (tb_G L xs) 195 = some J_HSheet_darkCount := gT_of rfl
set_option maxRecDepth 100000 in
theorem lT_196 {L : Nat} {xs : Nat → Int32} : ig_T (tb_G L xs) 196 = some J_Long_bitCount := gT_of rfl
set_option maxRecDepth 100000 in
theorem lT_197 {L : Nat} {xs : Nat → Int32} : ig_T (tb_G L xs) 197 = some J_H_run := gT_of rfl
set_option maxRecDepth 100000 in
theorem lT_198 {L : Nat} {xs : Nat → Int32} : ig_T (tb_G L xs) 198 = some J_HSheet_has := gT_of rfl
set_option maxRecDepth 100000 in
theorem lT_199 {L : Nat} {xs : Nat → Int32} : ig_T (tb_G L xs) 199 = some J_HSheet_takeRuns := gT_of rfl
set_option maxRecDepth 100000 in
theorem lT_200 {L : Nat} {xs : Nat → Int32} : ig_T (tb_G L xs) 200 = some J_HSheet_isDark := gT_of rfl
set_option maxRecDepth 100000 in
theorem lT_201 {L : Nat} {xs : Nat → Int32} : ig_T (tb_G L xs) 201 = some J_H_scan := gT_of rfl
set_option maxRecDepth 100000 in
theorem lT_202 {L : Nat} {xs : Nat → Int32} : ig_T (tb_G L xs) 202 = some J_HFinder_search := gT_of rfl
set_option maxRecDepth 100000 in
theorem lT_203 {L : Nat} {xs : Nat → Int32} : ig_T (tb_G L xs) 203 = some J_HFinder_addUp := gT_of rfl
set_option maxRecDepth 100000 in
theorem lT_204 {L : Nat} {xs : Nat → Int32} : ig_T (tb_G L xs) 204 = some J_HFinder_darkMarks := gT_of rfl
set_option maxRecDepth 100000 in
theorem lT_205 {L : Nat} {xs : Nat → Int32} : ig_T (tb_G L xs) 205 = some J_HFinder_lookAtCorners := gT_of rfl
set_option maxRecDepth 100000 in
theorem lT_206 {L : Nat} {xs : Nat → Int32} : ig_T (tb_G L xs) 206 = some J_HFinder_darkIn := gT_of rfl
set_option maxRecDepth 100000 in
theorem lT_207 {L : Nat} {xs : Nat → Int32} : ig_T (tb_G L xs) 207 = some J_HFinder_ringsWrong := gT_of rfl
set_option maxRecDepth 100000 in
theorem lT_208 {L : Nat} {xs : Nat → Int32} : ig_T (tb_G L xs) 208 = some J_HFinder_lookAtAll := gT_of rfl
set_option maxRecDepth 100000 in
theorem lT_209 {L : Nat} {xs : Nat → Int32} : ig_T (tb_G L xs) 209 = some J_HFinder_leadsOn := gT_of rfl
set_option maxRecDepth 100000 in
theorem lT_210 {L : Nat} {xs : Nat → Int32} : ig_T (tb_G L xs) 210 = some J_HFinder_hasEdges := gT_of rfl
set_option maxRecDepth 100000 in
theorem lT_211 {L : Nat} {xs : Nat → Int32} : ig_T (tb_G L xs) 211 = some J_HFinder_edgedWrong := gT_of rfl
set_option maxRecDepth 100000 in
theorem lT_212 {L : Nat} {xs : Nat → Int32} : ig_T (tb_G L xs) 212 = some J_HFinder_lookFrom := gT_of rfl
set_option maxRecDepth 100000 in
theorem lT_213 {L : Nat} {xs : Nat → Int32} : ig_T (tb_G L xs) 213 = some J_HFinder_lookAt := gT_of rfl
set_option maxRecDepth 100000 in
theorem lT_214 {L : Nat} {xs : Nat → Int32} : ig_T (tb_G L xs) 214 = some J_HFinder_hasShades := gT_of rfl
set_option maxRecDepth 100000 in
theorem lT_215 {L : Nat} {xs : Nat → Int32} : ig_T (tb_G L xs) 215 = some J_HFinder_lightMarks := gT_of rfl
set_option maxRecDepth 100000 in
theorem lT_216 {L : Nat} {xs : Nat → Int32} : ig_T (tb_G L xs) 216 = some J_HFinder_wrongAt := gT_of rfl
set_option maxRecDepth 100000 in
theorem lT_217 {L : Nat} {xs : Nat → Int32} : ig_T (tb_G L xs) 217 = some J_HFinder_loneX := gT_of rfl
set_option maxRecDepth 100000 in
theorem lT_218 {L : Nat} {xs : Nat → Int32} : ig_T (tb_G L xs) 218 = some J_HFinder_loneY := gT_of rfl
set_option maxRecDepth 100000 in
theorem lT_219 {L : Nat} {xs : Nat → Int32} : ig_T (tb_G L xs) 219 = some J_HFinder_add := gT_of rfl
set_option maxRecDepth 100000 in
theorem lT_220 {L : Nat} {xs : Nat → Int32} : ig_T (tb_G L xs) 220 = some J_HFinder_keepLeaders := gT_of rfl
set_option maxRecDepth 100000 in
theorem lT_221 {L : Nat} {xs : Nat → Int32} : ig_T (tb_G L xs) 221 = some J_HFinder_haveCommonDot := gT_of rfl
set_option maxRecDepth 100000 in
theorem lT_222 {L : Nat} {xs : Nat → Int32} : ig_T (tb_G L xs) 222 = some J_HFinder_part := gT_of rfl
set_option maxRecDepth 100000 in
theorem lT_223 {L : Nat} {xs : Nat → Int32} : ig_T (tb_G L xs) 223 = some J_H_found := gT_of rfl
set_option maxRecDepth 100000 in
theorem lT_224 {L : Nat} {xs : Nat → Int32} : ig_T (tb_G L xs) 224 = some J_H_decode := gT_of rfl
set_option maxRecDepth 100000 in
theorem lT_225 {L : Nat} {xs : Nat → Int32} : ig_T (tb_G L xs) 225 = some J_H_forgetReading := gT_of rfl
set_option maxRecDepth 100000 in
theorem lT_226 {L : Nat} {xs : Nat → Int32} : ig_T (tb_G L xs) 226 = some J_HFinder_fill := gT_of rfl
set_option maxRecDepth 100000 in
theorem lT_227 {L : Nat} {xs : Nat → Int32} : ig_T (tb_G L xs) 227 = some J_HFinder_darkNow := gT_of rfl
set_option maxRecDepth 100000 in
theorem lT_228 {L : Nat} {xs : Nat → Int32} : ig_T (tb_G L xs) 228 = some J_HGrid_understand := gT_of rfl
set_option maxRecDepth 100000 in
theorem lT_229 {L : Nat} {xs : Nat → Int32} : ig_T (tb_G L xs) 229 = some J_HGrid_formNumber := gT_of rfl
set_option maxRecDepth 100000 in
theorem lT_230 {L : Nat} {xs : Nat → Int32} : ig_T (tb_G L xs) 230 = some J_Integer_bitCount := gT_of rfl
set_option maxRecDepth 100000 in
theorem lT_231 {L : Nat} {xs : Nat → Int32} : ig_T (tb_G L xs) 231 = some J_HBlocks_mend := gT_of rfl
set_option maxRecDepth 100000 in
theorem lT_232 {L : Nat} {xs : Nat → Int32} : ig_T (tb_G L xs) 232 = some J_HBlocks_kept := gT_of rfl
set_option maxRecDepth 100000 in
theorem lT_233 {L : Nat} {xs : Nat → Int32} : ig_T (tb_G L xs) 233 = some J_HBlocks_mendWord := gT_of rfl
set_option maxRecDepth 100000 in
theorem lT_234 {L : Nat} {xs : Nat → Int32} : ig_T (tb_G L xs) 234 = some J_HBlocks_isCodeword := gT_of rfl
set_option maxRecDepth 100000 in
theorem lT_235 {L : Nat} {xs : Nat → Int32} : ig_T (tb_G L xs) 235 = some J_HBlocks_findLocator := gT_of rfl
set_option maxRecDepth 100000 in
theorem lT_236 {L : Nat} {xs : Nat → Int32} : ig_T (tb_G L xs) 236 = some J_HBlocks_over := gT_of rfl
set_option maxRecDepth 100000 in
theorem lT_237 {L : Nat} {xs : Nat → Int32} : ig_T (tb_G L xs) 237 = some J_HBlocks_makeEvaluator := gT_of rfl
set_option maxRecDepth 100000 in
theorem lT_238 {L : Nat} {xs : Nat → Int32} : ig_T (tb_G L xs) 238 = some J_HBlocks_valueAt := gT_of rfl
set_option maxRecDepth 100000 in
theorem lT_239 {L : Nat} {xs : Nat → Int32} : ig_T (tb_G L xs) 239 = some J_HBlocks_slopeAt := gT_of rfl
set_option maxRecDepth 100000 in
theorem lT_240 {L : Nat} {xs : Nat → Int32} : ig_T (tb_G L xs) 240 = some J_HSegments_unpack := gT_of rfl
set_option maxRecDepth 100000 in
theorem lT_241 {L : Nat} {xs : Nat → Int32} : ig_T (tb_G L xs) 241 = some J_HSegments_take := gT_of rfl
set_option maxRecDepth 100000 in
theorem lT_242 {L : Nat} {xs : Nat → Int32} : ig_T (tb_G L xs) 242 = some J_HSegments_modeOf := gT_of rfl
set_option maxRecDepth 100000 in
theorem lT_243 {L : Nat} {xs : Nat → Int32} : ig_T (tb_G L xs) 243 = some J_HSegments_unpackOne := gT_of rfl
set_option maxRecDepth 100000 in
theorem lT_244 {L : Nat} {xs : Nat → Int32} : ig_T (tb_G L xs) 244 = some J_HSegments_unpackPart := gT_of rfl
set_option maxRecDepth 100000 in
theorem lT_245 {L : Nat} {xs : Nat → Int32} : ig_T (tb_G L xs) 245 = some J_String_charAt := gT_of rfl
set_option maxRecDepth 100000 in
theorem lT_246 {L : Nat} {xs : Nat → Int32} : ig_T (tb_G L xs) 246 = some J_StringLatin1_charAt := gT_of rfl
set_option maxRecDepth 100000 in
theorem lT_247 {L : Nat} {xs : Nat → Int32} : ig_T (tb_G L xs) 247 = some J_String_checkIndex := gT_of rfl
set_option maxRecDepth 100000 in
theorem lT_248 {L : Nat} {xs : Nat → Int32} : ig_T (tb_G L xs) 248 = some J_H_bars := gT_of rfl
set_option maxRecDepth 100000 in
theorem lT_249 {L : Nat} {xs : Nat → Int32} : ig_T (tb_G L xs) 249 = some J_HBars_understand := gT_of rfl
set_option maxRecDepth 100000 in
theorem lT_250 {L : Nat} {xs : Nat → Int32} : ig_T (tb_G L xs) 250 = some J_HBars_readFigures := gT_of rfl
set_option maxRecDepth 100000 in
theorem lT_251 {L : Nat} {xs : Nat → Int32} : ig_T (tb_G L xs) 251 = some J_HBars_hasGuards := gT_of rfl
set_option maxRecDepth 100000 in
theorem lT_252 {L : Nat} {xs : Nat → Int32} : ig_T (tb_G L xs) 252 = some J_HBars_sumOf := gT_of rfl
set_option maxRecDepth 100000 in
theorem lT_253 {L : Nat} {xs : Nat → Int32} : ig_T (tb_G L xs) 253 = some J_HBars_widthAt := gT_of rfl
set_option maxRecDepth 100000 in
theorem lT_254 {L : Nat} {xs : Nat → Int32} : ig_T (tb_G L xs) 254 = some J_HBars_nearest := gT_of rfl
set_option maxRecDepth 100000 in
theorem lT_255 {L : Nat} {xs : Nat → Int32} : ig_T (tb_G L xs) 255 = some J_HBars_patternAt := gT_of rfl
set_option maxRecDepth 100000 in
theorem lT_256 {L : Nat} {xs : Nat → Int32} : ig_T (tb_G L xs) 256 = some J_HBars_indexOf := gT_of rfl
set_option maxRecDepth 100000 in
theorem lT_257 {L : Nat} {xs : Nat → Int32} : ig_T (tb_G L xs) 257 = some J_HBars_readSymbols := gT_of rfl
set_option maxRecDepth 100000 in
theorem lT_258 {L : Nat} {xs : Nat → Int32} : ig_T (tb_G L xs) 258 = some J_HBars_tell := gT_of rfl
set_option maxRecDepth 100000 in
theorem lT_259 {L : Nat} {xs : Nat → Int32} : ig_T (tb_G L xs) 259 = some J_HBars_write := gT_of rfl
set_option maxRecDepth 100000 in
theorem lT_260 {L : Nat} {xs : Nat → Int32} : ig_T (tb_G L xs) 260 = some J_HBars_signOf := gT_of rfl
set_option maxRecDepth 100000 in
theorem lT_261 {L : Nat} {xs : Nat → Int32} : ig_T (tb_G L xs) 261 = some J_H_reading := gT_of rfl
set_option maxRecDepth 100000 in
theorem lT_262 {L : Nat} {xs : Nat → Int32} : ig_T (tb_G L xs) 262 = some J_M_init := gT_of rfl
set_option maxRecDepth 100000 in
theorem lT_263 {L : Nat} {xs : Nat → Int32} : ig_T (tb_G L xs) 263 = some J_MScriptRows_init := gT_of rfl
set_option maxRecDepth 100000 in
theorem lT_264 {L : Nat} {xs : Nat → Int32} : ig_T (tb_G L xs) 264 = some J_MDotRows_init := gT_of rfl
set_option maxRecDepth 100000 in
theorem lT_265 {L : Nat} {xs : Nat → Int32} : ig_T (tb_G L xs) 265 = some J_MLineRows_init := gT_of rfl
set_option maxRecDepth 100000 in
theorem lT_266 {L : Nat} {xs : Nat → Int32} : ig_T (tb_G L xs) 266 = some J_MSquareRows_init := gT_of rfl
set_option maxRecDepth 100000 in
theorem lT_267 {L : Nat} {xs : Nat → Int32} : ig_T (tb_G L xs) 267 = some J_MPlaceRows_init := gT_of rfl
set_option maxRecDepth 100000 in
theorem lT_268 {L : Nat} {xs : Nat → Int32} : ig_T (tb_G L xs) 268 = some J_M_thrown := gT_of rfl
set_option maxRecDepth 100000 in
theorem lT_269 {L : Nat} {xs : Nat → Int32} : ig_T (tb_G L xs) 269 = some J_M_feed := gT_of rfl
set_option maxRecDepth 100000 in
theorem lT_270 {L : Nat} {xs : Nat → Int32} : ig_T (tb_G L xs) 270 = some J_M_wipe := gT_of rfl
set_option maxRecDepth 100000 in
theorem lT_271 {L : Nat} {xs : Nat → Int32} : ig_T (tb_G L xs) 271 = some J_M_font := gT_of rfl
set_option maxRecDepth 100000 in
theorem lT_272 {L : Nat} {xs : Nat → Int32} : ig_T (tb_G L xs) 272 = some J_MDotRows_font := gT_of rfl
set_option maxRecDepth 100000 in
theorem lT_273 {L : Nat} {xs : Nat → Int32} : ig_T (tb_G L xs) 273 = some J_MDotRows_isNot := gT_of rfl
set_option maxRecDepth 100000 in
theorem lT_274 {L : Nat} {xs : Nat → Int32} : ig_T (tb_G L xs) 274 = some J_MDotRows_thrown := gT_of rfl
set_option maxRecDepth 100000 in
theorem lT_275 {L : Nat} {xs : Nat → Int32} : ig_T (tb_G L xs) 275 = some J_M_cell := gT_of rfl
set_option maxRecDepth 100000 in
theorem lT_276 {L : Nat} {xs : Nat → Int32} : ig_T (tb_G L xs) 276 = some J_MDotRows_cell := gT_of rfl
set_option maxRecDepth 100000 in
theorem lT_277 {L : Nat} {xs : Nat → Int32} : ig_T (tb_G L xs) 277 = some J_M_read := gT_of rfl
set_option maxRecDepth 100000 in
theorem lT_278 {L : Nat} {xs : Nat → Int32} : ig_T (tb_G L xs) 278 = some J_MScriptRows_wipe := gT_of rfl
set_option maxRecDepth 100000 in
theorem lT_279 {L : Nat} {xs : Nat → Int32} : ig_T (tb_G L xs) 279 = some J_MScriptRows_write := gT_of rfl
set_option maxRecDepth 100000 in
theorem lT_280 {L : Nat} {xs : Nat → Int32} : ig_T (tb_G L xs) 280 = some J_MScriptRows_read := gT_of rfl
set_option maxRecDepth 100000 in
theorem lT_281 {L : Nat} {xs : Nat → Int32} : ig_T (tb_G L xs) 281 = some J_MScriptRows_step := gT_of rfl
set_option maxRecDepth 100000 in
theorem lT_282 {L : Nat} {xs : Nat → Int32} : ig_T (tb_G L xs) 282 = some J_MScriptRows_peek := gT_of rfl
set_option maxRecDepth 100000 in
theorem lT_283 {L : Nat} {xs : Nat → Int32} : ig_T (tb_G L xs) 283 = some J_MScriptRows_next := gT_of rfl
set_option maxRecDepth 100000 in
theorem lT_284 {L : Nat} {xs : Nat → Int32} : ig_T (tb_G L xs) 284 = some J_MScriptRows_test := gT_of rfl
set_option maxRecDepth 100000 in
theorem lT_285 {L : Nat} {xs : Nat → Int32} : ig_T (tb_G L xs) 285 = some J_MScriptRows_numbers := gT_of rfl
set_option maxRecDepth 100000 in
theorem lT_286 {L : Nat} {xs : Nat → Int32} : ig_T (tb_G L xs) 286 = some J_MScriptRows_mayStand := gT_of rfl
set_option maxRecDepth 100000 in
theorem lT_287 {L : Nat} {xs : Nat → Int32} : ig_T (tb_G L xs) 287 = some J_MScriptRows_takeNumbers := gT_of rfl
set_option maxRecDepth 100000 in
theorem lT_288 {L : Nat} {xs : Nat → Int32} : ig_T (tb_G L xs) 288 = some J_MScriptRows_preset := gT_of rfl
set_option maxRecDepth 100000 in
theorem lT_289 {L : Nat} {xs : Nat → Int32} : ig_T (tb_G L xs) 289 = some J_MScriptRows_isDigit := gT_of rfl
set_option maxRecDepth 100000 in
theorem lT_290 {L : Nat} {xs : Nat → Int32} : ig_T (tb_G L xs) 290 = some J_MScriptRows_testRanges := gT_of rfl
set_option maxRecDepth 100000 in
theorem lT_291 {L : Nat} {xs : Nat → Int32} : ig_T (tb_G L xs) 291 = some J_MScriptRows_range := gT_of rfl
set_option maxRecDepth 100000 in
theorem lT_292 {L : Nat} {xs : Nat → Int32} : ig_T (tb_G L xs) 292 = some J_MScriptRows_picture := gT_of rfl
set_option maxRecDepth 100000 in
theorem lT_293 {L : Nat} {xs : Nat → Int32} : ig_T (tb_G L xs) 293 = some J_MScriptRows_takeData := gT_of rfl
set_option maxRecDepth 100000 in
theorem lT_294 {L : Nat} {xs : Nat → Int32} : ig_T (tb_G L xs) 294 = some J_MScriptRows_hex := gT_of rfl
set_option maxRecDepth 100000 in
theorem lT_295 {L : Nat} {xs : Nat → Int32} : ig_T (tb_G L xs) 295 = some J_MScriptRows_formSize := gT_of rfl
set_option maxRecDepth 100000 in
theorem lT_296 {L : Nat} {xs : Nat → Int32} : ig_T (tb_G L xs) 296 = some J_MScriptRows_tryField := gT_of rfl
set_option maxRecDepth 100000 in
theorem lT_297 {L : Nat} {xs : Nat → Int32} : ig_T (tb_G L xs) 297 = some J_MScriptRows_fits := gT_of rfl
set_option maxRecDepth 100000 in
theorem lT_298 {L : Nat} {xs : Nat → Int32} : ig_T (tb_G L xs) 298 = some J_MScriptRows_isPlaced := gT_of rfl
set_option maxRecDepth 100000 in
theorem lT_299 {L : Nat} {xs : Nat → Int32} : ig_T (tb_G L xs) 299 = some J_MScriptRows_lay := gT_of rfl
set_option maxRecDepth 100000 in
theorem lT_300 {L : Nat} {xs : Nat → Int32} : ig_T (tb_G L xs) 300 = some J_MScriptRows_makeField := gT_of rfl
set_option maxRecDepth 100000 in
theorem lT_301 {L : Nat} {xs : Nat → Int32} : ig_T (tb_G L xs) 301 = some J_MScriptRows_takeCopy := gT_of rfl
set_option maxRecDepth 100000 in
theorem lT_302 {L : Nat} {xs : Nat → Int32} : ig_T (tb_G L xs) 302 = some J_MScriptRows_give := gT_of rfl
set_option maxRecDepth 100000 in
theorem lT_303 {L : Nat} {xs : Nat → Int32} : ig_T (tb_G L xs) 303 = some J_MScriptRows_stepX := gT_of rfl
set_option maxRecDepth 100000 in
theorem lT_304 {L : Nat} {xs : Nat → Int32} : ig_T (tb_G L xs) 304 = some J_MScriptRows_stepY := gT_of rfl
set_option maxRecDepth 100000 in
theorem lT_305 {L : Nat} {xs : Nat → Int32} : ig_T (tb_G L xs) 305 = some J_MScriptRows_isFar := gT_of rfl
set_option maxRecDepth 100000 in
theorem lT_306 {L : Nat} {xs : Nat → Int32} : ig_T (tb_G L xs) 306 = some J_MScriptRows_have := gT_of rfl
set_option maxRecDepth 100000 in
theorem lT_307 {L : Nat} {xs : Nat → Int32} : ig_T (tb_G L xs) 307 = some J_MScriptRows_makeLines := gT_of rfl
set_option maxRecDepth 100000 in
theorem lT_308 {L : Nat} {xs : Nat → Int32} : ig_T (tb_G L xs) 308 = some J_MScriptRows_pieceEnd := gT_of rfl
set_option maxRecDepth 100000 in
theorem lT_309 {L : Nat} {xs : Nat → Int32} : ig_T (tb_G L xs) 309 = some J_MScriptRows_giveLine := gT_of rfl
set_option maxRecDepth 100000 in
theorem lT_310 {L : Nat} {xs : Nat → Int32} : ig_T (tb_G L xs) 310 = some J_MScriptRows_obey := gT_of rfl
set_option maxRecDepth 100000 in
theorem lT_311 {L : Nat} {xs : Nat → Int32} : ig_T (tb_G L xs) 311 = some J_MScriptRows_storeForm := gT_of rfl
set_option maxRecDepth 100000 in
theorem lT_312 {L : Nat} {xs : Nat → Int32} : ig_T (tb_G L xs) 312 = some J_MScriptRows_storeData := gT_of rfl
set_option maxRecDepth 100000 in
theorem lT_313 {L : Nat} {xs : Nat → Int32} : ig_T (tb_G L xs) 313 = some J_MScriptRows_beginLabel := gT_of rfl
set_option maxRecDepth 100000 in
theorem lT_314 {L : Nat} {xs : Nat → Int32} : ig_T (tb_G L xs) 314 = some J_MScriptRows_newField := gT_of rfl
set_option maxRecDepth 100000 in
theorem lT_315 {L : Nat} {xs : Nat → Int32} : ig_T (tb_G L xs) 315 = some J_MScriptRows_endLabel := gT_of rfl
set_option maxRecDepth 100000 in
theorem lT_316 {L : Nat} {xs : Nat → Int32} : ig_T (tb_G L xs) 316 = some J_MScriptRows_layForm := gT_of rfl
set_option maxRecDepth 100000 in
theorem lT_317 {L : Nat} {xs : Nat → Int32} : ig_T (tb_G L xs) 317 = some J_MScriptRows_set := gT_of rfl
set_option maxRecDepth 100000 in
theorem lT_318 {L : Nat} {xs : Nat → Int32} : ig_T (tb_G L xs) 318 = some J_MScriptRows_kindOf := gT_of rfl
set_option maxRecDepth 100000 in
theorem lT_319 {L : Nat} {xs : Nat → Int32} : ig_T (tb_G L xs) 319 = some J_M_fault := gT_of rfl
set_option maxRecDepth 100000 in
theorem lT_320 {L : Nat} {xs : Nat → Int32} : ig_T (tb_G L xs) 320 = some J_MScriptRows_fault := gT_of rfl
set_option maxRecDepth 100000 in
theorem lT_321 {L : Nat} {xs : Nat → Int32} : ig_T (tb_G L xs) 321 = some J_M_place := gT_of rfl
set_option maxRecDepth 100000 in
theorem lT_322 {L : Nat} {xs : Nat → Int32} : ig_T (tb_G L xs) 322 = some J_MScriptRows_place := gT_of rfl
set_option maxRecDepth 100000 in
theorem lT_323 {L : Nat} {xs : Nat → Int32} : ig_T (tb_G L xs) 323 = some J_M_label := gT_of rfl
set_option maxRecDepth 100000 in
theorem lT_324 {L : Nat} {xs : Nat → Int32} : ig_T (tb_G L xs) 324 = some J_MScriptRows_label := gT_of rfl
set_option maxRecDepth 100000 in
theorem lT_325 {L : Nat} {xs : Nat → Int32} : ig_T (tb_G L xs) 325 = some J_MScriptRows_thrown := gT_of rfl
set_option maxRecDepth 100000 in
theorem lT_326 {L : Nat} {xs : Nat → Int32} : ig_T (tb_G L xs) 326 = some J_M_order := gT_of rfl
set_option maxRecDepth 100000 in
theorem lT_327 {L : Nat} {xs : Nat → Int32} : ig_T (tb_G L xs) 327 = some J_MScriptRows_order := gT_of rfl
set_option maxRecDepth 100000 in
theorem lT_328 {L : Nat} {xs : Nat → Int32} : ig_T (tb_G L xs) 328 = some J_M_data := gT_of rfl
set_option maxRecDepth 100000 in
theorem lT_329 {L : Nat} {xs : Nat → Int32} : ig_T (tb_G L xs) 329 = some J_MScriptRows_data := gT_of rfl
set_option maxRecDepth 100000 in
theorem lT_330 {L : Nat} {xs : Nat → Int32} : ig_T (tb_G L xs) 330 = some J_M_print := gT_of rfl
set_option maxRecDepth 100000 in
theorem lT_331 {L : Nat} {xs : Nat → Int32} : ig_T (tb_G L xs) 331 = some J_MDotRows_sheet := gT_of rfl
set_option maxRecDepth 100000 in
theorem lT_332 {L : Nat} {xs : Nat → Int32} : ig_T (tb_G L xs) 332 = some J_M_draw := gT_of rfl
set_option maxRecDepth 100000 in
theorem lT_333 {L : Nat} {xs : Nat → Int32} : ig_T (tb_G L xs) 333 = some J_MDotRows_way := gT_of rfl
set_option maxRecDepth 100000 in
theorem lT_334 {L : Nat} {xs : Nat → Int32} : ig_T (tb_G L xs) 334 = some J_MDotRows_wipe := gT_of rfl
set_option maxRecDepth 100000 in
theorem lT_335 {L : Nat} {xs : Nat → Int32} : ig_T (tb_G L xs) 335 = some J_M_draftData := gT_of rfl
set_option maxRecDepth 100000 in
theorem lT_336 {L : Nat} {xs : Nat → Int32} : ig_T (tb_G L xs) 336 = some J_M_byteOf := gT_of rfl
set_option maxRecDepth 100000 in
theorem lT_337 {L : Nat} {xs : Nat → Int32} : ig_T (tb_G L xs) 337 = some J_M_draft := gT_of rfl
set_option maxRecDepth 100000 in
theorem lT_338 {L : Nat} {xs : Nat → Int32} : ig_T (tb_G L xs) 338 = some J_MDotRows_write := gT_of rfl
set_option maxRecDepth 100000 in
theorem lT_339 {L : Nat} {xs : Nat → Int32} : ig_T (tb_G L xs) 339 = some J_MDotRows_text := gT_of rfl
set_option maxRecDepth 100000 in
theorem lT_340 {L : Nat} {xs : Nat → Int32} : ig_T (tb_G L xs) 340 = some J_MDotRows_noPlace := gT_of rfl
set_option maxRecDepth 100000 in
theorem lT_341 {L : Nat} {xs : Nat → Int32} : ig_T (tb_G L xs) 341 = some J_MDotRows_at := gT_of rfl
set_option maxRecDepth 100000 in
theorem lT_342 {L : Nat} {xs : Nat → Int32} : ig_T (tb_G L xs) 342 = some J_MDotRows_draw := gT_of rfl
set_option maxRecDepth 100000 in
theorem lT_343 {L : Nat} {xs : Nat → Int32} : ig_T (tb_G L xs) 343 = some J_MDotRows_belongs := gT_of rfl
set_option maxRecDepth 100000 in
theorem lT_344 {L : Nat} {xs : Nat → Int32} : ig_T (tb_G L xs) 344 = some J_MDotRows_inFrame := gT_of rfl
set_option maxRecDepth 100000 in
theorem lT_345 {L : Nat} {xs : Nat → Int32} : ig_T (tb_G L xs) 345 = some J_MDotRows_inLine := gT_of rfl
set_option maxRecDepth 100000 in
theorem lT_346 {L : Nat} {xs : Nat → Int32} : ig_T (tb_G L xs) 346 = some J_MDotRows_inEllipse := gT_of rfl
set_option maxRecDepth 100000 in
theorem lT_347 {L : Nat} {xs : Nat → Int32} : ig_T (tb_G L xs) 347 = some J_MDotRows_inOval := gT_of rfl
set_option maxRecDepth 100000 in
theorem lT_348 {L : Nat} {xs : Nat → Int32} : ig_T (tb_G L xs) 348 = some J_MDotRows_inPicture := gT_of rfl
set_option maxRecDepth 100000 in
theorem lT_349 {L : Nat} {xs : Nat → Int32} : ig_T (tb_G L xs) 349 = some J_MDotRows_bit := gT_of rfl
set_option maxRecDepth 100000 in
theorem lT_350 {L : Nat} {xs : Nat → Int32} : ig_T (tb_G L xs) 350 = some J_MDotRows_along := gT_of rfl
set_option maxRecDepth 100000 in
theorem lT_351 {L : Nat} {xs : Nat → Int32} : ig_T (tb_G L xs) 351 = some J_MDotRows_across := gT_of rfl
set_option maxRecDepth 100000 in
theorem lT_352 {L : Nat} {xs : Nat → Int32} : ig_T (tb_G L xs) 352 = some J_MDotRows_inText := gT_of rfl
set_option maxRecDepth 100000 in
theorem lT_353 {L : Nat} {xs : Nat → Int32} : ig_T (tb_G L xs) 353 = some J_MDotRows_inSquare := gT_of rfl
set_option maxRecDepth 100000 in
theorem lT_354 {L : Nat} {xs : Nat → Int32} : ig_T (tb_G L xs) 354 = some J_MDotRows_isDark := gT_of rfl
set_option maxRecDepth 100000 in
theorem lT_355 {L : Nat} {xs : Nat → Int32} : ig_T (tb_G L xs) 355 = some J_MDotRows_isOn := gT_of rfl
set_option maxRecDepth 100000 in
theorem lT_356 {L : Nat} {xs : Nat → Int32} : ig_T (tb_G L xs) 356 = some J_MDotRows_other := gT_of rfl
set_option maxRecDepth 100000 in
theorem lT_357 {L : Nat} {xs : Nat → Int32} : ig_T (tb_G L xs) 357 = some J_M_draftRow := gT_of rfl
set_option maxRecDepth 100000 in
theorem lT_358 {L : Nat} {xs : Nat → Int32} : ig_T (tb_G L xs) 358 = some J_MLineRows_wipe := gT_of rfl
set_option maxRecDepth 100000 in
theorem lT_359 {L : Nat} {xs : Nat → Int32} : ig_T (tb_G L xs) 359 = some J_MLineRows_write := gT_of rfl
set_option maxRecDepth 100000 in
theorem lT_360 {L : Nat} {xs : Nat → Int32} : ig_T (tb_G L xs) 360 = some J_MLineRows_pack := gT_of rfl
set_option maxRecDepth 100000 in
theorem lT_361 {L : Nat} {xs : Nat → Int32} : ig_T (tb_G L xs) 361 = some J_MLineRows_relax := gT_of rfl
set_option maxRecDepth 100000 in
theorem lT_362 {L : Nat} {xs : Nat → Int32} : ig_T (tb_G L xs) 362 = some J_MLineRows_with := gT_of rfl
set_option maxRecDepth 100000 in
theorem lT_363 {L : Nat} {xs : Nat → Int32} : ig_T (tb_G L xs) 363 = some J_MLineRows_tells := gT_of rfl
set_option maxRecDepth 100000 in
theorem lT_364 {L : Nat} {xs : Nat → Int32} : ig_T (tb_G L xs) 364 = some J_MLineRows_at := gT_of rfl
set_option maxRecDepth 100000 in
theorem lT_365 {L : Nat} {xs : Nat → Int32} : ig_T (tb_G L xs) 365 = some J_MLineRows_isPair := gT_of rfl
set_option maxRecDepth 100000 in
theorem lT_366 {L : Nat} {xs : Nat → Int32} : ig_T (tb_G L xs) 366 = some J_MLineRows_signOf := gT_of rfl
set_option maxRecDepth 100000 in
theorem lT_367 {L : Nat} {xs : Nat → Int32} : ig_T (tb_G L xs) 367 = some J_MLineRows_leastAt := gT_of rfl
set_option maxRecDepth 100000 in
theorem lT_368 {L : Nat} {xs : Nat → Int32} : ig_T (tb_G L xs) 368 = some J_MLineRows_goes := gT_of rfl
set_option maxRecDepth 100000 in
theorem lT_369 {L : Nat} {xs : Nat → Int32} : ig_T (tb_G L xs) 369 = some J_MLineRows_isOther := gT_of rfl
set_option maxRecDepth 100000 in
theorem lT_370 {L : Nat} {xs : Nat → Int32} : ig_T (tb_G L xs) 370 = some J_MLineRows_add := gT_of rfl
set_option maxRecDepth 100000 in
theorem lT_371 {L : Nat} {xs : Nat → Int32} : ig_T (tb_G L xs) 371 = some J_MLineRows_check := gT_of rfl
set_option maxRecDepth 100000 in
theorem lT_372 {L : Nat} {xs : Nat → Int32} : ig_T (tb_G L xs) 372 = some J_MLineRows_bars := gT_of rfl
set_option maxRecDepth 100000 in
theorem lT_373 {L : Nat} {xs : Nat → Int32} : ig_T (tb_G L xs) 373 = some J_MLineRows_noModule := gT_of rfl
set_option maxRecDepth 100000 in
theorem lT_374 {L : Nat} {xs : Nat → Int32} : ig_T (tb_G L xs) 374 = some J_MLineRows_lay := gT_of rfl
set_option maxRecDepth 100000 in
theorem lT_375 {L : Nat} {xs : Nat → Int32} : ig_T (tb_G L xs) 375 = some J_M_draftWidths := gT_of rfl
set_option maxRecDepth 100000 in
theorem lT_376 {L : Nat} {xs : Nat → Int32} : ig_T (tb_G L xs) 376 = some J_MLineRows_width := gT_of rfl
set_option maxRecDepth 100000 in
theorem lT_377 {L : Nat} {xs : Nat → Int32} : ig_T (tb_G L xs) 377 = some J_MDotRows_bars := gT_of rfl
set_option maxRecDepth 100000 in
theorem lT_378 {L : Nat} {xs : Nat → Int32} : ig_T (tb_G L xs) 378 = some J_M_draftThirteen := gT_of rfl
set_option maxRecDepth 100000 in
theorem lT_379 {L : Nat} {xs : Nat → Int32} : ig_T (tb_G L xs) 379 = some J_MLineRows_thirteen := gT_of rfl
set_option maxRecDepth 100000 in
theorem lT_380 {L : Nat} {xs : Nat → Int32} : ig_T (tb_G L xs) 380 = some J_MLineRows_noTwelve := gT_of rfl
set_option maxRecDepth 100000 in
theorem lT_381 {L : Nat} {xs : Nat → Int32} : ig_T (tb_G L xs) 381 = some J_MLineRows_checkFigure := gT_of rfl
set_option maxRecDepth 100000 in
theorem lT_382 {L : Nat} {xs : Nat → Int32} : ig_T (tb_G L xs) 382 = some J_MLineRows_figure := gT_of rfl
set_option maxRecDepth 100000 in
theorem lT_383 {L : Nat} {xs : Nat → Int32} : ig_T (tb_G L xs) 383 = some J_MLineRows_isTurned := gT_of rfl
set_option maxRecDepth 100000 in
theorem lT_384 {L : Nat} {xs : Nat → Int32} : ig_T (tb_G L xs) 384 = some J_MLineRows_reversed := gT_of rfl
set_option maxRecDepth 100000 in
theorem lT_385 {L : Nat} {xs : Nat → Int32} : ig_T (tb_G L xs) 385 = some J_M_draftSymbol := gT_of rfl
set_option maxRecDepth 100000 in
theorem lT_386 {L : Nat} {xs : Nat → Int32} : ig_T (tb_G L xs) 386 = some J_MSquareRows_wipe := gT_of rfl
set_option maxRecDepth 100000 in
theorem lT_387 {L : Nat} {xs : Nat → Int32} : ig_T (tb_G L xs) 387 = some J_MSquareRows_put := gT_of rfl
set_option maxRecDepth 100000 in
theorem lT_388 {L : Nat} {xs : Nat → Int32} : ig_T (tb_G L xs) 388 = some J_MSquareRows_make := gT_of rfl
set_option maxRecDepth 100000 in
theorem lT_389 {L : Nat} {xs : Nat → Int32} : ig_T (tb_G L xs) 389 = some J_MSquareRows_versionFor := gT_of rfl
set_option maxRecDepth 100000 in
theorem lT_390 {L : Nat} {xs : Nat → Int32} : ig_T (tb_G L xs) 390 = some J_MSquareRows_fits := gT_of rfl
set_option maxRecDepth 100000 in
theorem lT_391 {L : Nat} {xs : Nat → Int32} : ig_T (tb_G L xs) 391 = some J_MSquareRows_rank := gT_of rfl
set_option maxRecDepth 100000 in
theorem lT_392 {L : Nat} {xs : Nat → Int32} : ig_T (tb_G L xs) 392 = some J_MSquareRows_divide := gT_of rfl
set_option maxRecDepth 100000 in
theorem lT_393 {L : Nat} {xs : Nat → Int32} : ig_T (tb_G L xs) 393 = some J_MSquareRows_least := gT_of rfl
set_option maxRecDepth 100000 in
theorem lT_394 {L : Nat} {xs : Nat → Int32} : ig_T (tb_G L xs) 394 = some J_MSquareRows_restOf := gT_of rfl
set_option maxRecDepth 100000 in
theorem lT_395 {L : Nat} {xs : Nat → Int32} : ig_T (tb_G L xs) 395 = some J_MSquareRows_may := gT_of rfl
set_option maxRecDepth 100000 in
theorem lT_396 {L : Nat} {xs : Nat → Int32} : ig_T (tb_G L xs) 396 = some J_MSquareRows_signOf := gT_of rfl
set_option maxRecDepth 100000 in
theorem lT_397 {L : Nat} {xs : Nat → Int32} : ig_T (tb_G L xs) 397 = some J_MSquareRows_costOf := gT_of rfl
set_option maxRecDepth 100000 in
theorem lT_398 {L : Nat} {xs : Nat → Int32} : ig_T (tb_G L xs) 398 = some J_MSquareRows_modeOf := gT_of rfl
set_option maxRecDepth 100000 in
theorem lT_399 {L : Nat} {xs : Nat → Int32} : ig_T (tb_G L xs) 399 = some J_MSquareRows_lengthBits := gT_of rfl
set_option maxRecDepth 100000 in
theorem lT_400 {L : Nat} {xs : Nat → Int32} : ig_T (tb_G L xs) 400 = some J_MSquareRows_stateAfter := gT_of rfl
set_option maxRecDepth 100000 in
theorem lT_401 {L : Nat} {xs : Nat → Int32} : ig_T (tb_G L xs) 401 = some J_MSquareRows_holds := gT_of rfl
set_option maxRecDepth 100000 in
theorem lT_402 {L : Nat} {xs : Nat → Int32} : ig_T (tb_G L xs) 402 = some J_MSquareRows_allCodewords := gT_of rfl
set_option maxRecDepth 100000 in
theorem lT_403 {L : Nat} {xs : Nat → Int32} : ig_T (tb_G L xs) 403 = some J_MSquareRows_checkOf := gT_of rfl
set_option maxRecDepth 100000 in
theorem lT_404 {L : Nat} {xs : Nat → Int32} : ig_T (tb_G L xs) 404 = some J_MSquareRows_blocksOf := gT_of rfl
set_option maxRecDepth 100000 in
theorem lT_405 {L : Nat} {xs : Nat → Int32} : ig_T (tb_G L xs) 405 = some J_MSquareRows_layAll := gT_of rfl
set_option maxRecDepth 100000 in
theorem lT_406 {L : Nat} {xs : Nat → Int32} : ig_T (tb_G L xs) 406 = some J_MSquareRows_laySegment := gT_of rfl
set_option maxRecDepth 100000 in
theorem lT_407 {L : Nat} {xs : Nat → Int32} : ig_T (tb_G L xs) 407 = some J_MSquareRows_lay := gT_of rfl
set_option maxRecDepth 100000 in
theorem lT_408 {L : Nat} {xs : Nat → Int32} : ig_T (tb_G L xs) 408 = some J_MSquareRows_check := gT_of rfl
set_option maxRecDepth 100000 in
theorem lT_409 {L : Nat} {xs : Nat → Int32} : ig_T (tb_G L xs) 409 = some J_MSquareRows_generate := gT_of rfl
set_option maxRecDepth 100000 in
theorem lT_410 {L : Nat} {xs : Nat → Int32} : ig_T (tb_G L xs) 410 = some J_MSquareRows_two := gT_of rfl
set_option maxRecDepth 100000 in
theorem lT_411 {L : Nat} {xs : Nat → Int32} : ig_T (tb_G L xs) 411 = some J_MSquareRows_times := gT_of rfl
set_option maxRecDepth 100000 in
theorem lT_412 {L : Nat} {xs : Nat → Int32} : ig_T (tb_G L xs) 412 = some J_MSquareRows_shareOf := gT_of rfl
set_option maxRecDepth 100000 in
theorem lT_413 {L : Nat} {xs : Nat → Int32} : ig_T (tb_G L xs) 413 = some J_MSquareRows_startOf := gT_of rfl
set_option maxRecDepth 100000 in
theorem lT_414 {L : Nat} {xs : Nat → Int32} : ig_T (tb_G L xs) 414 = some J_MSquareRows_placeOf := gT_of rfl
set_option maxRecDepth 100000 in
theorem lT_415 {L : Nat} {xs : Nat → Int32} : ig_T (tb_G L xs) 415 = some J_MSquareRows_frame := gT_of rfl
set_option maxRecDepth 100000 in
theorem lT_416 {L : Nat} {xs : Nat → Int32} : ig_T (tb_G L xs) 416 = some J_MSquareRows_sideOf := gT_of rfl
set_option maxRecDepth 100000 in
theorem lT_417 {L : Nat} {xs : Nat → Int32} : ig_T (tb_G L xs) 417 = some J_MSquareRows_fix := gT_of rfl
set_option maxRecDepth 100000 in
theorem lT_418 {L : Nat} {xs : Nat → Int32} : ig_T (tb_G L xs) 418 = some J_MSquareRows_moduleAt := gT_of rfl
set_option maxRecDepth 100000 in
theorem lT_419 {L : Nat} {xs : Nat → Int32} : ig_T (tb_G L xs) 419 = some J_MSquareRows_square := gT_of rfl
set_option maxRecDepth 100000 in
theorem lT_420 {L : Nat} {xs : Nat → Int32} : ig_T (tb_G L xs) 420 = some J_MSquareRows_greater := gT_of rfl
set_option maxRecDepth 100000 in
theorem lT_421 {L : Nat} {xs : Nat → Int32} : ig_T (tb_G L xs) 421 = some J_MSquareRows_alignmentAt := gT_of rfl
set_option maxRecDepth 100000 in
theorem lT_422 {L : Nat} {xs : Nat → Int32} : ig_T (tb_G L xs) 422 = some J_MSquareRows_layForm := gT_of rfl
set_option maxRecDepth 100000 in
theorem lT_423 {L : Nat} {xs : Nat → Int32} : ig_T (tb_G L xs) 423 = some J_MSquareRows_formWord := gT_of rfl
set_option maxRecDepth 100000 in
theorem lT_424 {L : Nat} {xs : Nat → Int32} : ig_T (tb_G L xs) 424 = some J_MSquareRows_shortWord := gT_of rfl
set_option maxRecDepth 100000 in
theorem lT_425 {L : Nat} {xs : Nat → Int32} : ig_T (tb_G L xs) 425 = some J_MSquareRows_formX := gT_of rfl
set_option maxRecDepth 100000 in
theorem lT_426 {L : Nat} {xs : Nat → Int32} : ig_T (tb_G L xs) 426 = some J_MSquareRows_formY := gT_of rfl
set_option maxRecDepth 100000 in
theorem lT_427 {L : Nat} {xs : Nat → Int32} : ig_T (tb_G L xs) 427 = some J_MSquareRows_formNumber := gT_of rfl
set_option maxRecDepth 100000 in
theorem lT_428 {L : Nat} {xs : Nat → Int32} : ig_T (tb_G L xs) 428 = some J_MSquareRows_goThrough := gT_of rfl
set_option maxRecDepth 100000 in
theorem lT_429 {L : Nat} {xs : Nat → Int32} : ig_T (tb_G L xs) 429 = some J_MSquareRows_masked := gT_of rfl
set_option maxRecDepth 100000 in
theorem lT_430 {L : Nat} {xs : Nat → Int32} : ig_T (tb_G L xs) 430 = some J_MSquareRows_penalty := gT_of rfl
set_option maxRecDepth 100000 in
theorem lT_431 {L : Nat} {xs : Nat → Int32} : ig_T (tb_G L xs) 431 = some J_MSquareRows_lines := gT_of rfl
set_option maxRecDepth 100000 in
theorem lT_432 {L : Nat} {xs : Nat → Int32} : ig_T (tb_G L xs) 432 = some J_MSquareRows_module := gT_of rfl
set_option maxRecDepth 100000 in
theorem lT_433 {L : Nat} {xs : Nat → Int32} : ig_T (tb_G L xs) 433 = some J_MSquareRows_row := gT_of rfl
set_option maxRecDepth 100000 in
theorem lT_434 {L : Nat} {xs : Nat → Int32} : ig_T (tb_G L xs) 434 = some J_MDotRows_square := gT_of rfl
set_option maxRecDepth 100000 in
theorem lT_435 {L : Nat} {xs : Nat → Int32} : ig_T (tb_G L xs) 435 = some J_MDotRows_frame := gT_of rfl
set_option maxRecDepth 100000 in
theorem lT_436 {L : Nat} {xs : Nat → Int32} : ig_T (tb_G L xs) 436 = some J_MDotRows_noRing := gT_of rfl
set_option maxRecDepth 100000 in
theorem lT_437 {L : Nat} {xs : Nat → Int32} : ig_T (tb_G L xs) 437 = some J_MDotRows_ellipse := gT_of rfl
set_option maxRecDepth 100000 in
theorem lT_438 {L : Nat} {xs : Nat → Int32} : ig_T (tb_G L xs) 438 = some J_MDotRows_line := gT_of rfl
set_option maxRecDepth 100000 in
theorem lT_439 {L : Nat} {xs : Nat → Int32} : ig_T (tb_G L xs) 439 = some J_MDotRows_picture := gT_of rfl
set_option maxRecDepth 100000 in
theorem lT_440 {L : Nat} {xs : Nat → Int32} : ig_T (tb_G L xs) 440 = some J_M_follow := gT_of rfl
set_option maxRecDepth 100000 in
theorem lT_441 {L : Nat} {xs : Nat → Int32} : ig_T (tb_G L xs) 441 = some J_MDotRows_told := gT_of rfl
set_option maxRecDepth 100000 in
theorem lT_442 {L : Nat} {xs : Nat → Int32} : ig_T (tb_G L xs) 442 = some J_MPlaceRows_sheet := gT_of rfl
set_option maxRecDepth 100000 in
theorem lT_443 {L : Nat} {xs : Nat → Int32} : ig_T (tb_G L xs) 443 = some J_MPlaceRows_forget := gT_of rfl
set_option maxRecDepth 100000 in
theorem lT_444 {L : Nat} {xs : Nat → Int32} : ig_T (tb_G L xs) 444 = some J_M_row := gT_of rfl
set_option maxRecDepth 100000 in
theorem lT_445 {L : Nat} {xs : Nat → Int32} : ig_T (tb_G L xs) 445 = some J_M_isOn := gT_of rfl
set_option maxRecDepth 100000 in
theorem lT_446 {L : Nat} {xs : Nat → Int32} : ig_T (tb_G L xs) 446 = some J_M_isDark := gT_of rfl
set_option maxRecDepth 100000 in
theorem lT_447 {L : Nat} {xs : Nat → Int32} : ig_T (tb_G L xs) 447 = some J_MDotRows_dots := gT_of rfl
set_option maxRecDepth 100000 in
theorem lT_448 {L : Nat} {xs : Nat → Int32} : ig_T (tb_G L xs) 448 = some J_MPlaceRows_turn := gT_of rfl
set_option maxRecDepth 100000 in
theorem lT_449 {L : Nat} {xs : Nat → Int32} : ig_T (tb_G L xs) 449 = some J_MPlaceRows_isOn := gT_of rfl
set_option maxRecDepth 100000 in
theorem lT_450 {L : Nat} {xs : Nat → Int32} : ig_T (tb_G L xs) 450 = some J_MPlaceRows_isDark := gT_of rfl
set_option maxRecDepth 100000 in
theorem lT_451 {L : Nat} {xs : Nat → Int32} : ig_T (tb_G L xs) 451 = some J_M_drawn := gT_of rfl
set_option maxRecDepth 100000 in
theorem lT_452 {L : Nat} {xs : Nat → Int32} : ig_T (tb_G L xs) 452 = some J_M_spoil := gT_of rfl
set_option maxRecDepth 100000 in
theorem lT_453 {L : Nat} {xs : Nat → Int32} : ig_T (tb_G L xs) 453 = some J_M_turn := gT_of rfl
set_option maxRecDepth 100000 in
theorem lT_454 {L : Nat} {xs : Nat → Int32} : ig_T (tb_G L xs) 454 = some J_MDotRows_turn := gT_of rfl
set_option maxRecDepth 100000 in
theorem lT_455 {L : Nat} {xs : Nat → Int32} : ig_T (tb_G L xs) 455 = some J_MDotRows_turnOnce := gT_of rfl
set_option maxRecDepth 100000 in
theorem lT_456 {L : Nat} {xs : Nat → Int32} : ig_T (tb_G L xs) 456 = some J_M_told := gT_of rfl
set_option maxRecDepth 100000 in
theorem lT_457 {L : Nat} {xs : Nat → Int32} : ig_T (tb_G L xs) 457 = some J_M_dots := gT_of rfl
set_option maxRecDepth 100000 in
theorem lT_458 {L : Nat} {xs : Nat → Int32} : ig_T (tb_G L xs) 458 = some J_M_run := gT_of rfl
set_option maxRecDepth 100000 in
theorem lT_459 {L : Nat} {xs : Nat → Int32} : ig_T (tb_G L xs) 459 = some J_MDotRows_run := gT_of rfl
set_option maxRecDepth 100000 in
theorem lT_460 {L : Nat} {xs : Nat → Int32} : ig_T (tb_G L xs) 460 = some J_M_scan := gT_of rfl
set_option maxRecDepth 100000 in
theorem lT_461 {L : Nat} {xs : Nat → Int32} : ig_T (tb_G L xs) 461 = some J_MPlaceRows_find := gT_of rfl
set_option maxRecDepth 100000 in
theorem lT_462 {L : Nat} {xs : Nat → Int32} : ig_T (tb_G L xs) 462 = some J_MPlaceRows_add := gT_of rfl
set_option maxRecDepth 100000 in
theorem lT_463 {L : Nat} {xs : Nat → Int32} : ig_T (tb_G L xs) 463 = some J_MPlaceRows_list := gT_of rfl
set_option maxRecDepth 100000 in
theorem lT_464 {L : Nat} {xs : Nat → Int32} : ig_T (tb_G L xs) 464 = some J_MPlaceRows_side := gT_of rfl
set_option maxRecDepth 100000 in
theorem lT_465 {L : Nat} {xs : Nat → Int32} : ig_T (tb_G L xs) 465 = some J_MPlaceRows_module := gT_of rfl
set_option maxRecDepth 100000 in
theorem lT_466 {L : Nat} {xs : Nat → Int32} : ig_T (tb_G L xs) 466 = some J_MPlaceRows_distance := gT_of rfl
set_option maxRecDepth 100000 in
theorem lT_467 {L : Nat} {xs : Nat → Int32} : ig_T (tb_G L xs) 467 = some J_MPlaceRows_apart := gT_of rfl
set_option maxRecDepth 100000 in
theorem lT_468 {L : Nat} {xs : Nat → Int32} : ig_T (tb_G L xs) 468 = some J_MPlaceRows_look := gT_of rfl
set_option maxRecDepth 100000 in
theorem lT_469 {L : Nat} {xs : Nat → Int32} : ig_T (tb_G L xs) 469 = some J_MPlaceRows_isPlace := gT_of rfl
set_option maxRecDepth 100000 in
theorem lT_470 {L : Nat} {xs : Nat → Int32} : ig_T (tb_G L xs) 470 = some J_MPlaceRows_wrong := gT_of rfl
set_option maxRecDepth 100000 in
theorem lT_471 {L : Nat} {xs : Nat → Int32} : ig_T (tb_G L xs) 471 = some J_MPlaceRows_darkIn := gT_of rfl
set_option maxRecDepth 100000 in
theorem lT_472 {L : Nat} {xs : Nat → Int32} : ig_T (tb_G L xs) 472 = some J_MPlaceRows_blockX := gT_of rfl
set_option maxRecDepth 100000 in
theorem lT_473 {L : Nat} {xs : Nat → Int32} : ig_T (tb_G L xs) 473 = some J_MPlaceRows_least := gT_of rfl
set_option maxRecDepth 100000 in
theorem lT_474 {L : Nat} {xs : Nat → Int32} : ig_T (tb_G L xs) 474 = some J_MPlaceRows_blockY := gT_of rfl
set_option maxRecDepth 100000 in
theorem lT_475 {L : Nat} {xs : Nat → Int32} : ig_T (tb_G L xs) 475 = some J_MPlaceRows_enter := gT_of rfl
set_option maxRecDepth 100000 in
theorem lT_476 {L : Nat} {xs : Nat → Int32} : ig_T (tb_G L xs) 476 = some J_MPlaceRows_order := gT_of rfl
set_option maxRecDepth 100000 in
theorem lT_477 {L : Nat} {xs : Nat → Int32} : ig_T (tb_G L xs) 477 = some J_MPlaceRows_isBefore := gT_of rfl
set_option maxRecDepth 100000 in
theorem lT_478 {L : Nat} {xs : Nat → Int32} : ig_T (tb_G L xs) 478 = some J_MPlaceRows_leads := gT_of rfl
set_option maxRecDepth 100000 in
theorem lT_479 {L : Nat} {xs : Nat → Int32} : ig_T (tb_G L xs) 479 = some J_MPlaceRows_meet := gT_of rfl
set_option maxRecDepth 100000 in
theorem lT_480 {L : Nat} {xs : Nat → Int32} : ig_T (tb_G L xs) 480 = some J_MPlaceRows_thrown := gT_of rfl
set_option maxRecDepth 100000 in
theorem lT_481 {L : Nat} {xs : Nat → Int32} : ig_T (tb_G L xs) 481 = some J_M_found := gT_of rfl
set_option maxRecDepth 100000 in
theorem lT_482 {L : Nat} {xs : Nat → Int32} : ig_T (tb_G L xs) 482 = some J_MPlaceRows_place := gT_of rfl
set_option maxRecDepth 100000 in
theorem lT_483 {L : Nat} {xs : Nat → Int32} : ig_T (tb_G L xs) 483 = some J_M_decode := gT_of rfl
set_option maxRecDepth 100000 in
theorem lT_484 {L : Nat} {xs : Nat → Int32} : ig_T (tb_G L xs) 484 = some J_MSquareRows_blank := gT_of rfl
set_option maxRecDepth 100000 in
theorem lT_485 {L : Nat} {xs : Nat → Int32} : ig_T (tb_G L xs) 485 = some J_MPlaceRows_modules := gT_of rfl
set_option maxRecDepth 100000 in
theorem lT_486 {L : Nat} {xs : Nat → Int32} : ig_T (tb_G L xs) 486 = some J_MPlaceRows_differ := gT_of rfl
set_option maxRecDepth 100000 in
theorem lT_487 {L : Nat} {xs : Nat → Int32} : ig_T (tb_G L xs) 487 = some J_MSquareRows_spoil := gT_of rfl
set_option maxRecDepth 100000 in
theorem lT_488 {L : Nat} {xs : Nat → Int32} : ig_T (tb_G L xs) 488 = some J_MSquareRows_read := gT_of rfl
set_option maxRecDepth 100000 in
theorem lT_489 {L : Nat} {xs : Nat → Int32} : ig_T (tb_G L xs) 489 = some J_MSquareRows_formNumberRead := gT_of rfl
set_option maxRecDepth 100000 in
theorem lT_490 {L : Nat} {xs : Nat → Int32} : ig_T (tb_G L xs) 490 = some J_MSquareRows_formBits := gT_of rfl
set_option maxRecDepth 100000 in
theorem lT_491 {L : Nat} {xs : Nat → Int32} : ig_T (tb_G L xs) 491 = some J_MSquareRows_ones := gT_of rfl
set_option maxRecDepth 100000 in
theorem lT_492 {L : Nat} {xs : Nat → Int32} : ig_T (tb_G L xs) 492 = some J_MSquareRows_allBlocks := gT_of rfl
set_option maxRecDepth 100000 in
theorem lT_493 {L : Nat} {xs : Nat → Int32} : ig_T (tb_G L xs) 493 = some J_MSquareRows_spared := gT_of rfl
set_option maxRecDepth 100000 in
theorem lT_494 {L : Nat} {xs : Nat → Int32} : ig_T (tb_G L xs) 494 = some J_MSquareRows_correct := gT_of rfl
set_option maxRecDepth 100000 in
theorem lT_495 {L : Nat} {xs : Nat → Int32} : ig_T (tb_G L xs) 495 = some J_MSquareRows_isZero := gT_of rfl
set_option maxRecDepth 100000 in
theorem lT_496 {L : Nat} {xs : Nat → Int32} : ig_T (tb_G L xs) 496 = some J_MSquareRows_finds := gT_of rfl
set_option maxRecDepth 100000 in
theorem lT_497 {L : Nat} {xs : Nat → Int32} : ig_T (tb_G L xs) 497 = some J_MSquareRows_solves := gT_of rfl
set_option maxRecDepth 100000 in
theorem lT_498 {L : Nat} {xs : Nat → Int32} : ig_T (tb_G L xs) 498 = some J_MSquareRows_inverse := gT_of rfl
set_option maxRecDepth 100000 in
theorem lT_499 {L : Nat} {xs : Nat → Int32} : ig_T (tb_G L xs) 499 = some J_MSquareRows_mends := gT_of rfl
set_option maxRecDepth 100000 in
theorem lT_500 {L : Nat} {xs : Nat → Int32} : ig_T (tb_G L xs) 500 = some J_MSquareRows_segments := gT_of rfl
set_option maxRecDepth 100000 in
theorem lT_501 {L : Nat} {xs : Nat → Int32} : ig_T (tb_G L xs) 501 = some J_MSquareRows_next := gT_of rfl
set_option maxRecDepth 100000 in
theorem lT_502 {L : Nat} {xs : Nat → Int32} : ig_T (tb_G L xs) 502 = some J_MSquareRows_group := gT_of rfl
set_option maxRecDepth 100000 in
theorem lT_503 {L : Nat} {xs : Nat → Int32} : ig_T (tb_G L xs) 503 = some J_MSquareRows_byteOf := gT_of rfl
set_option maxRecDepth 100000 in
theorem lT_504 {L : Nat} {xs : Nat → Int32} : ig_T (tb_G L xs) 504 = some J_MSquareRows_take := gT_of rfl
set_option maxRecDepth 100000 in
theorem lT_505 {L : Nat} {xs : Nat → Int32} : ig_T (tb_G L xs) 505 = some J_MSquareRows_at := gT_of rfl
set_option maxRecDepth 100000 in
theorem lT_506 {L : Nat} {xs : Nat → Int32} : ig_T (tb_G L xs) 506 = some J_M_bars := gT_of rfl
set_option maxRecDepth 100000 in
theorem lT_507 {L : Nat} {xs : Nat → Int32} : ig_T (tb_G L xs) 507 = some J_M_strip := gT_of rfl
set_option maxRecDepth 100000 in
theorem lT_508 {L : Nat} {xs : Nat → Int32} : ig_T (tb_G L xs) 508 = some J_MLineRows_clear := gT_of rfl
set_option maxRecDepth 100000 in
theorem lT_509 {L : Nat} {xs : Nat → Int32} : ig_T (tb_G L xs) 509 = some J_MLineRows_put := gT_of rfl
set_option maxRecDepth 100000 in
theorem lT_510 {L : Nat} {xs : Nat → Int32} : ig_T (tb_G L xs) 510 = some J_MLineRows_spoil := gT_of rfl
set_option maxRecDepth 100000 in
theorem lT_511 {L : Nat} {xs : Nat → Int32} : ig_T (tb_G L xs) 511 = some J_MLineRows_read := gT_of rfl
set_option maxRecDepth 100000 in
theorem lT_512 {L : Nat} {xs : Nat → Int32} : ig_T (tb_G L xs) 512 = some J_MLineRows_isSome := gT_of rfl
set_option maxRecDepth 100000 in
theorem lT_513 {L : Nat} {xs : Nat → Int32} : ig_T (tb_G L xs) 513 = some J_MLineRows_isThirteen := gT_of rfl
set_option maxRecDepth 100000 in
theorem lT_514 {L : Nat} {xs : Nat → Int32} : ig_T (tb_G L xs) 514 = some J_MLineRows_sumOf := gT_of rfl
set_option maxRecDepth 100000 in
theorem lT_515 {L : Nat} {xs : Nat → Int32} : ig_T (tb_G L xs) 515 = some J_MLineRows_counts := gT_of rfl
set_option maxRecDepth 100000 in
theorem lT_516 {L : Nat} {xs : Nat → Int32} : ig_T (tb_G L xs) 516 = some J_MLineRows_place := gT_of rfl
set_option maxRecDepth 100000 in
theorem lT_517 {L : Nat} {xs : Nat → Int32} : ig_T (tb_G L xs) 517 = some J_MLineRows_tell := gT_of rfl
set_option maxRecDepth 100000 in
theorem lT_518 {L : Nat} {xs : Nat → Int32} : ig_T (tb_G L xs) 518 = some J_MLineRows_isRow := gT_of rfl
set_option maxRecDepth 100000 in
theorem lT_519 {L : Nat} {xs : Nat → Int32} : ig_T (tb_G L xs) 519 = some J_MLineRows_reverse := gT_of rfl
set_option maxRecDepth 100000 in
theorem lT_520 {L : Nat} {xs : Nat → Int32} : ig_T (tb_G L xs) 520 = some J_MLineRows_sign := gT_of rfl
set_option maxRecDepth 100000 in
theorem lT_521 {L : Nat} {xs : Nat → Int32} : ig_T (tb_G L xs) 521 = some J_M_reading := gT_of rfl
set_option maxRecDepth 100000 in
theorem lT_522 {L : Nat} {xs : Nat → Int32} : ig_T (tb_G L xs) 522 = some J_MSquareRows_fault := gT_of rfl
set_option maxRecDepth 100000 in
theorem lT_523 {L : Nat} {xs : Nat → Int32} : ig_T (tb_G L xs) 523 = some J_MLineRows_backwards := gT_of rfl
set_option maxRecDepth 100000 in
theorem lT_524 {L : Nat} {xs : Nat → Int32} : ig_T (tb_G L xs) 524 = some J_MSquareRows_reading := gT_of rfl
set_option maxRecDepth 100000 in
theorem lT_525 {L : Nat} {xs : Nat → Int32} : ig_T (tb_G L xs) 525 = some J_M_got := gT_of rfl
set_option maxRecDepth 100000 in
theorem lT_526 {L : Nat} {xs : Nat → Int32} : ig_T (tb_G L xs) 526 = some J_Preconditions_checkIndex := gT_of rfl
theorem ln_18_8 {L : Nat} {xs : Nat → Int32} : ig_nT (tb_G L xs) 18 8 = some 11 := gn_of (by decide +kernel)
theorem ln_11_7 {L : Nat} {xs : Nat → Int32} : ig_nT (tb_G L xs) 11 7 = some 10 := gn_of (by decide +kernel)
theorem ln_11_16 {L : Nat} {xs : Nat → Int32} : ig_nT (tb_G L xs) 11 16 = some 5 := gn_of (by decide +kernel)
theorem ln_11_25 {L : Nat} {xs : Nat → Int32} : ig_nT (tb_G L xs) 11 25 = some 8 := gn_of (by decide +kernel)
theorem ln_8_33 {L : Nat} {xs : Nat → Int32} : ig_nT (tb_G L xs) 8 33 = some 5 := gn_of (by decide +kernel)
theorem ln_8_35 {L : Nat} {xs : Nat → Int32} : ig_nT (tb_G L xs) 8 35 = some 2 := gn_of (by decide +kernel)
theorem ln_11_34 {L : Nat} {xs : Nat → Int32} : ig_nT (tb_G L xs) 11 34 = some 9 := gn_of (by decide +kernel)
theorem ln_11_41 {L : Nat} {xs : Nat → Int32} : ig_nT (tb_G L xs) 11 41 = some 0 := gn_of (by decide +kernel)
theorem ln_11_48 {L : Nat} {xs : Nat → Int32} : ig_nT (tb_G L xs) 11 48 = some 4 := gn_of (by decide +kernel)
theorem ln_4_9 {L : Nat} {xs : Nat → Int32} : ig_nT (tb_G L xs) 4 9 = some 7 := gn_of (by decide +kernel)
theorem ln_4_18 {L : Nat} {xs : Nat → Int32} : ig_nT (tb_G L xs) 4 18 = some 1 := gn_of (by decide +kernel)
theorem ln_11_55 {L : Nat} {xs : Nat → Int32} : ig_nT (tb_G L xs) 11 55 = some 6 := gn_of (by decide +kernel)
theorem ln_11_64 {L : Nat} {xs : Nat → Int32} : ig_nT (tb_G L xs) 11 64 = some 3 := gn_of (by decide +kernel)
theorem ln_18_68 {L : Nat} {xs : Nat → Int32} : ig_nT (tb_G L xs) 18 68 = some 17 := gn_of (by decide +kernel)
theorem ln_17_13 {L : Nat} {xs : Nat → Int32} : ig_nT (tb_G L xs) 17 13 = some 15 := gn_of (by decide +kernel)
theorem ln_17_20 {L : Nat} {xs : Nat → Int32} : ig_nT (tb_G L xs) 17 20 = some 12 := gn_of (by decide +kernel)
theorem ln_17_27 {L : Nat} {xs : Nat → Int32} : ig_nT (tb_G L xs) 17 27 = some 13 := gn_of (by decide +kernel)
theorem ln_17_34 {L : Nat} {xs : Nat → Int32} : ig_nT (tb_G L xs) 17 34 = some 16 := gn_of (by decide +kernel)
theorem ln_17_41 {L : Nat} {xs : Nat → Int32} : ig_nT (tb_G L xs) 17 41 = some 14 := gn_of (by decide +kernel)
theorem lk_6_15 {L : Nat} {xs : Nat → Int32} : ig_cT (tb_G L xs) 6 15 = some (.int 32768) := gk_of (by decide +kernel)
theorem lk_3_13 {L : Nat} {xs : Nat → Int32} : ig_cT (tb_G L xs) 3 13 = some (.int 263169) := gk_of (by decide +kernel)
theorem lk_3_18 {L : Nat} {xs : Nat → Int32} : ig_cT (tb_G L xs) 3 18 = some (.int 262144) := gk_of (by decide +kernel)
theorem lk_0_92 {L : Nat} {xs : Nat → Int32} : ig_cT (tb_G L xs) 0 92 = some (.int 100000) := gk_of (by decide +kernel)
theorem lk_0_97 {L : Nat} {xs : Nat → Int32} : ig_cT (tb_G L xs) 0 97 = some (.int 2331112) := gk_of (by decide +kernel)
theorem lk_0_98 {L : Nat} {xs : Nat → Int32} : ig_cT (tb_G L xs) 0 98 = some (.int 1000000) := gk_of (by decide +kernel)
theorem lk_4_66 {L : Nat} {xs : Nat → Int32} : ig_cT (tb_G L xs) 4 66 = some (.int 1073741824) := gk_of (by decide +kernel)
theorem lk_23_265 {L : Nat} {xs : Nat → Int32} : ig_cT (tb_G L xs) 23 265 = some (.int 1431655765) := gk_of (by decide +kernel)
theorem lk_23_266 {L : Nat} {xs : Nat → Int32} : ig_cT (tb_G L xs) 23 266 = some (.int 858993459) := gk_of (by decide +kernel)
theorem lk_23_267 {L : Nat} {xs : Nat → Int32} : ig_cT (tb_G L xs) 23 267 = some (.int 252645135) := gk_of (by decide +kernel)
theorem lk_12_16 {L : Nat} {xs : Nat → Int32} : ig_cT (tb_G L xs) 12 16 = some (.int 32768) := gk_of (by decide +kernel)
theorem lk_13_7 {L : Nat} {xs : Nat → Int32} : ig_cT (tb_G L xs) 13 7 = some (.int 212222) := gk_of (by decide +kernel)
theorem lk_13_8 {L : Nat} {xs : Nat → Int32} : ig_cT (tb_G L xs) 13 8 = some (.int 222122) := gk_of (by decide +kernel)
theorem lk_13_9 {L : Nat} {xs : Nat → Int32} : ig_cT (tb_G L xs) 13 9 = some (.int 222221) := gk_of (by decide +kernel)
theorem lk_13_10 {L : Nat} {xs : Nat → Int32} : ig_cT (tb_G L xs) 13 10 = some (.int 121223) := gk_of (by decide +kernel)
theorem lk_13_11 {L : Nat} {xs : Nat → Int32} : ig_cT (tb_G L xs) 13 11 = some (.int 121322) := gk_of (by decide +kernel)
theorem lk_13_12 {L : Nat} {xs : Nat → Int32} : ig_cT (tb_G L xs) 13 12 = some (.int 131222) := gk_of (by decide +kernel)
theorem lk_13_13 {L : Nat} {xs : Nat → Int32} : ig_cT (tb_G L xs) 13 13 = some (.int 122213) := gk_of (by decide +kernel)
theorem lk_13_14 {L : Nat} {xs : Nat → Int32} : ig_cT (tb_G L xs) 13 14 = some (.int 122312) := gk_of (by decide +kernel)
theorem lk_13_15 {L : Nat} {xs : Nat → Int32} : ig_cT (tb_G L xs) 13 15 = some (.int 132212) := gk_of (by decide +kernel)
theorem lk_13_16 {L : Nat} {xs : Nat → Int32} : ig_cT (tb_G L xs) 13 16 = some (.int 221213) := gk_of (by decide +kernel)
theorem lk_13_17 {L : Nat} {xs : Nat → Int32} : ig_cT (tb_G L xs) 13 17 = some (.int 221312) := gk_of (by decide +kernel)
theorem lk_13_18 {L : Nat} {xs : Nat → Int32} : ig_cT (tb_G L xs) 13 18 = some (.int 231212) := gk_of (by decide +kernel)
theorem lk_13_19 {L : Nat} {xs : Nat → Int32} : ig_cT (tb_G L xs) 13 19 = some (.int 112232) := gk_of (by decide +kernel)
theorem lk_13_20 {L : Nat} {xs : Nat → Int32} : ig_cT (tb_G L xs) 13 20 = some (.int 122132) := gk_of (by decide +kernel)
theorem lk_13_21 {L : Nat} {xs : Nat → Int32} : ig_cT (tb_G L xs) 13 21 = some (.int 122231) := gk_of (by decide +kernel)
theorem lk_13_22 {L : Nat} {xs : Nat → Int32} : ig_cT (tb_G L xs) 13 22 = some (.int 113222) := gk_of (by decide +kernel)
theorem lk_13_23 {L : Nat} {xs : Nat → Int32} : ig_cT (tb_G L xs) 13 23 = some (.int 123122) := gk_of (by decide +kernel)
theorem lk_13_24 {L : Nat} {xs : Nat → Int32} : ig_cT (tb_G L xs) 13 24 = some (.int 123221) := gk_of (by decide +kernel)
theorem lk_13_25 {L : Nat} {xs : Nat → Int32} : ig_cT (tb_G L xs) 13 25 = some (.int 223211) := gk_of (by decide +kernel)
theorem lk_13_26 {L : Nat} {xs : Nat → Int32} : ig_cT (tb_G L xs) 13 26 = some (.int 221132) := gk_of (by decide +kernel)
theorem lk_13_27 {L : Nat} {xs : Nat → Int32} : ig_cT (tb_G L xs) 13 27 = some (.int 221231) := gk_of (by decide +kernel)
theorem lk_13_28 {L : Nat} {xs : Nat → Int32} : ig_cT (tb_G L xs) 13 28 = some (.int 213212) := gk_of (by decide +kernel)
theorem lk_13_29 {L : Nat} {xs : Nat → Int32} : ig_cT (tb_G L xs) 13 29 = some (.int 223112) := gk_of (by decide +kernel)
theorem lk_13_30 {L : Nat} {xs : Nat → Int32} : ig_cT (tb_G L xs) 13 30 = some (.int 312131) := gk_of (by decide +kernel)
theorem lk_13_31 {L : Nat} {xs : Nat → Int32} : ig_cT (tb_G L xs) 13 31 = some (.int 311222) := gk_of (by decide +kernel)
theorem lk_13_32 {L : Nat} {xs : Nat → Int32} : ig_cT (tb_G L xs) 13 32 = some (.int 321122) := gk_of (by decide +kernel)
theorem lk_13_33 {L : Nat} {xs : Nat → Int32} : ig_cT (tb_G L xs) 13 33 = some (.int 321221) := gk_of (by decide +kernel)
theorem lk_13_34 {L : Nat} {xs : Nat → Int32} : ig_cT (tb_G L xs) 13 34 = some (.int 312212) := gk_of (by decide +kernel)
theorem lk_13_35 {L : Nat} {xs : Nat → Int32} : ig_cT (tb_G L xs) 13 35 = some (.int 322112) := gk_of (by decide +kernel)
theorem lk_13_36 {L : Nat} {xs : Nat → Int32} : ig_cT (tb_G L xs) 13 36 = some (.int 322211) := gk_of (by decide +kernel)
theorem lk_13_37 {L : Nat} {xs : Nat → Int32} : ig_cT (tb_G L xs) 13 37 = some (.int 212123) := gk_of (by decide +kernel)
theorem lk_13_38 {L : Nat} {xs : Nat → Int32} : ig_cT (tb_G L xs) 13 38 = some (.int 212321) := gk_of (by decide +kernel)
theorem lk_13_39 {L : Nat} {xs : Nat → Int32} : ig_cT (tb_G L xs) 13 39 = some (.int 232121) := gk_of (by decide +kernel)
theorem lk_13_40 {L : Nat} {xs : Nat → Int32} : ig_cT (tb_G L xs) 13 40 = some (.int 111323) := gk_of (by decide +kernel)
theorem lk_13_41 {L : Nat} {xs : Nat → Int32} : ig_cT (tb_G L xs) 13 41 = some (.int 131123) := gk_of (by decide +kernel)
theorem lk_13_42 {L : Nat} {xs : Nat → Int32} : ig_cT (tb_G L xs) 13 42 = some (.int 131321) := gk_of (by decide +kernel)
theorem lk_13_43 {L : Nat} {xs : Nat → Int32} : ig_cT (tb_G L xs) 13 43 = some (.int 112313) := gk_of (by decide +kernel)
theorem lk_13_44 {L : Nat} {xs : Nat → Int32} : ig_cT (tb_G L xs) 13 44 = some (.int 132113) := gk_of (by decide +kernel)
theorem lk_13_45 {L : Nat} {xs : Nat → Int32} : ig_cT (tb_G L xs) 13 45 = some (.int 132311) := gk_of (by decide +kernel)
theorem lk_13_46 {L : Nat} {xs : Nat → Int32} : ig_cT (tb_G L xs) 13 46 = some (.int 211313) := gk_of (by decide +kernel)
theorem lk_13_47 {L : Nat} {xs : Nat → Int32} : ig_cT (tb_G L xs) 13 47 = some (.int 231113) := gk_of (by decide +kernel)
theorem lk_13_48 {L : Nat} {xs : Nat → Int32} : ig_cT (tb_G L xs) 13 48 = some (.int 231311) := gk_of (by decide +kernel)
theorem lk_13_49 {L : Nat} {xs : Nat → Int32} : ig_cT (tb_G L xs) 13 49 = some (.int 112133) := gk_of (by decide +kernel)
theorem lk_13_50 {L : Nat} {xs : Nat → Int32} : ig_cT (tb_G L xs) 13 50 = some (.int 112331) := gk_of (by decide +kernel)
theorem lk_13_51 {L : Nat} {xs : Nat → Int32} : ig_cT (tb_G L xs) 13 51 = some (.int 132131) := gk_of (by decide +kernel)
theorem lk_13_52 {L : Nat} {xs : Nat → Int32} : ig_cT (tb_G L xs) 13 52 = some (.int 113123) := gk_of (by decide +kernel)
theorem lk_13_53 {L : Nat} {xs : Nat → Int32} : ig_cT (tb_G L xs) 13 53 = some (.int 113321) := gk_of (by decide +kernel)
theorem lk_13_54 {L : Nat} {xs : Nat → Int32} : ig_cT (tb_G L xs) 13 54 = some (.int 133121) := gk_of (by decide +kernel)
theorem lk_13_55 {L : Nat} {xs : Nat → Int32} : ig_cT (tb_G L xs) 13 55 = some (.int 313121) := gk_of (by decide +kernel)
theorem lk_13_56 {L : Nat} {xs : Nat → Int32} : ig_cT (tb_G L xs) 13 56 = some (.int 211331) := gk_of (by decide +kernel)
theorem lk_13_57 {L : Nat} {xs : Nat → Int32} : ig_cT (tb_G L xs) 13 57 = some (.int 231131) := gk_of (by decide +kernel)
theorem lk_13_58 {L : Nat} {xs : Nat → Int32} : ig_cT (tb_G L xs) 13 58 = some (.int 213113) := gk_of (by decide +kernel)
theorem lk_13_59 {L : Nat} {xs : Nat → Int32} : ig_cT (tb_G L xs) 13 59 = some (.int 213311) := gk_of (by decide +kernel)
theorem lk_13_60 {L : Nat} {xs : Nat → Int32} : ig_cT (tb_G L xs) 13 60 = some (.int 213131) := gk_of (by decide +kernel)
theorem lk_13_61 {L : Nat} {xs : Nat → Int32} : ig_cT (tb_G L xs) 13 61 = some (.int 311123) := gk_of (by decide +kernel)
theorem lk_13_62 {L : Nat} {xs : Nat → Int32} : ig_cT (tb_G L xs) 13 62 = some (.int 311321) := gk_of (by decide +kernel)
theorem lk_13_63 {L : Nat} {xs : Nat → Int32} : ig_cT (tb_G L xs) 13 63 = some (.int 331121) := gk_of (by decide +kernel)
theorem lk_13_64 {L : Nat} {xs : Nat → Int32} : ig_cT (tb_G L xs) 13 64 = some (.int 312113) := gk_of (by decide +kernel)
theorem lk_13_65 {L : Nat} {xs : Nat → Int32} : ig_cT (tb_G L xs) 13 65 = some (.int 312311) := gk_of (by decide +kernel)
theorem lk_13_66 {L : Nat} {xs : Nat → Int32} : ig_cT (tb_G L xs) 13 66 = some (.int 332111) := gk_of (by decide +kernel)
theorem lk_13_67 {L : Nat} {xs : Nat → Int32} : ig_cT (tb_G L xs) 13 67 = some (.int 314111) := gk_of (by decide +kernel)
theorem lk_13_68 {L : Nat} {xs : Nat → Int32} : ig_cT (tb_G L xs) 13 68 = some (.int 221411) := gk_of (by decide +kernel)
theorem lk_13_69 {L : Nat} {xs : Nat → Int32} : ig_cT (tb_G L xs) 13 69 = some (.int 431111) := gk_of (by decide +kernel)
theorem lk_13_70 {L : Nat} {xs : Nat → Int32} : ig_cT (tb_G L xs) 13 70 = some (.int 111224) := gk_of (by decide +kernel)
theorem lk_13_71 {L : Nat} {xs : Nat → Int32} : ig_cT (tb_G L xs) 13 71 = some (.int 111422) := gk_of (by decide +kernel)
theorem lk_13_72 {L : Nat} {xs : Nat → Int32} : ig_cT (tb_G L xs) 13 72 = some (.int 121124) := gk_of (by decide +kernel)
theorem lk_13_73 {L : Nat} {xs : Nat → Int32} : ig_cT (tb_G L xs) 13 73 = some (.int 121421) := gk_of (by decide +kernel)
theorem lk_13_74 {L : Nat} {xs : Nat → Int32} : ig_cT (tb_G L xs) 13 74 = some (.int 141122) := gk_of (by decide +kernel)
theorem lk_13_75 {L : Nat} {xs : Nat → Int32} : ig_cT (tb_G L xs) 13 75 = some (.int 141221) := gk_of (by decide +kernel)
theorem lk_13_76 {L : Nat} {xs : Nat → Int32} : ig_cT (tb_G L xs) 13 76 = some (.int 112214) := gk_of (by decide +kernel)
theorem lk_13_77 {L : Nat} {xs : Nat → Int32} : ig_cT (tb_G L xs) 13 77 = some (.int 112412) := gk_of (by decide +kernel)
theorem lk_13_78 {L : Nat} {xs : Nat → Int32} : ig_cT (tb_G L xs) 13 78 = some (.int 122114) := gk_of (by decide +kernel)
theorem lk_13_79 {L : Nat} {xs : Nat → Int32} : ig_cT (tb_G L xs) 13 79 = some (.int 122411) := gk_of (by decide +kernel)
theorem lk_13_80 {L : Nat} {xs : Nat → Int32} : ig_cT (tb_G L xs) 13 80 = some (.int 142112) := gk_of (by decide +kernel)
theorem lk_13_81 {L : Nat} {xs : Nat → Int32} : ig_cT (tb_G L xs) 13 81 = some (.int 142211) := gk_of (by decide +kernel)
theorem lk_13_82 {L : Nat} {xs : Nat → Int32} : ig_cT (tb_G L xs) 13 82 = some (.int 241211) := gk_of (by decide +kernel)
theorem lk_13_83 {L : Nat} {xs : Nat → Int32} : ig_cT (tb_G L xs) 13 83 = some (.int 221114) := gk_of (by decide +kernel)
theorem lk_13_84 {L : Nat} {xs : Nat → Int32} : ig_cT (tb_G L xs) 13 84 = some (.int 413111) := gk_of (by decide +kernel)
theorem lk_13_85 {L : Nat} {xs : Nat → Int32} : ig_cT (tb_G L xs) 13 85 = some (.int 241112) := gk_of (by decide +kernel)
theorem lk_13_86 {L : Nat} {xs : Nat → Int32} : ig_cT (tb_G L xs) 13 86 = some (.int 134111) := gk_of (by decide +kernel)
theorem lk_13_87 {L : Nat} {xs : Nat → Int32} : ig_cT (tb_G L xs) 13 87 = some (.int 111242) := gk_of (by decide +kernel)
theorem lk_13_88 {L : Nat} {xs : Nat → Int32} : ig_cT (tb_G L xs) 13 88 = some (.int 121142) := gk_of (by decide +kernel)
theorem lk_13_89 {L : Nat} {xs : Nat → Int32} : ig_cT (tb_G L xs) 13 89 = some (.int 121241) := gk_of (by decide +kernel)
theorem lk_13_90 {L : Nat} {xs : Nat → Int32} : ig_cT (tb_G L xs) 13 90 = some (.int 114212) := gk_of (by decide +kernel)
theorem lk_13_91 {L : Nat} {xs : Nat → Int32} : ig_cT (tb_G L xs) 13 91 = some (.int 124112) := gk_of (by decide +kernel)
theorem lk_13_92 {L : Nat} {xs : Nat → Int32} : ig_cT (tb_G L xs) 13 92 = some (.int 124211) := gk_of (by decide +kernel)
theorem lk_13_93 {L : Nat} {xs : Nat → Int32} : ig_cT (tb_G L xs) 13 93 = some (.int 411212) := gk_of (by decide +kernel)
theorem lk_13_94 {L : Nat} {xs : Nat → Int32} : ig_cT (tb_G L xs) 13 94 = some (.int 421112) := gk_of (by decide +kernel)
theorem lk_13_95 {L : Nat} {xs : Nat → Int32} : ig_cT (tb_G L xs) 13 95 = some (.int 421211) := gk_of (by decide +kernel)
theorem lk_13_96 {L : Nat} {xs : Nat → Int32} : ig_cT (tb_G L xs) 13 96 = some (.int 212141) := gk_of (by decide +kernel)
theorem lk_13_97 {L : Nat} {xs : Nat → Int32} : ig_cT (tb_G L xs) 13 97 = some (.int 214121) := gk_of (by decide +kernel)
theorem lk_13_98 {L : Nat} {xs : Nat → Int32} : ig_cT (tb_G L xs) 13 98 = some (.int 412121) := gk_of (by decide +kernel)
theorem lk_13_99 {L : Nat} {xs : Nat → Int32} : ig_cT (tb_G L xs) 13 99 = some (.int 111143) := gk_of (by decide +kernel)
theorem lk_13_100 {L : Nat} {xs : Nat → Int32} : ig_cT (tb_G L xs) 13 100 = some (.int 111341) := gk_of (by decide +kernel)
theorem lk_13_101 {L : Nat} {xs : Nat → Int32} : ig_cT (tb_G L xs) 13 101 = some (.int 131141) := gk_of (by decide +kernel)
theorem lk_13_102 {L : Nat} {xs : Nat → Int32} : ig_cT (tb_G L xs) 13 102 = some (.int 114113) := gk_of (by decide +kernel)
theorem lk_13_103 {L : Nat} {xs : Nat → Int32} : ig_cT (tb_G L xs) 13 103 = some (.int 114311) := gk_of (by decide +kernel)
theorem lk_13_104 {L : Nat} {xs : Nat → Int32} : ig_cT (tb_G L xs) 13 104 = some (.int 411113) := gk_of (by decide +kernel)
theorem lk_13_105 {L : Nat} {xs : Nat → Int32} : ig_cT (tb_G L xs) 13 105 = some (.int 411311) := gk_of (by decide +kernel)
theorem lk_13_106 {L : Nat} {xs : Nat → Int32} : ig_cT (tb_G L xs) 13 106 = some (.int 113141) := gk_of (by decide +kernel)
theorem lk_13_107 {L : Nat} {xs : Nat → Int32} : ig_cT (tb_G L xs) 13 107 = some (.int 114131) := gk_of (by decide +kernel)
theorem lk_13_108 {L : Nat} {xs : Nat → Int32} : ig_cT (tb_G L xs) 13 108 = some (.int 311141) := gk_of (by decide +kernel)
theorem lk_13_109 {L : Nat} {xs : Nat → Int32} : ig_cT (tb_G L xs) 13 109 = some (.int 411131) := gk_of (by decide +kernel)
theorem lk_13_110 {L : Nat} {xs : Nat → Int32} : ig_cT (tb_G L xs) 13 110 = some (.int 211412) := gk_of (by decide +kernel)
theorem lk_13_111 {L : Nat} {xs : Nat → Int32} : ig_cT (tb_G L xs) 13 111 = some (.int 211214) := gk_of (by decide +kernel)
theorem lk_13_112 {L : Nat} {xs : Nat → Int32} : ig_cT (tb_G L xs) 13 112 = some (.int 211232) := gk_of (by decide +kernel)
theorem lk_14_16 {L : Nat} {xs : Nat → Int32} : ig_cT (tb_G L xs) 14 16 = some (.int 262144) := gk_of (by decide +kernel)
theorem lk_14_21 {L : Nat} {xs : Nat → Int32} : ig_cT (tb_G L xs) 14 21 = some (.int 263169) := gk_of (by decide +kernel)
theorem lk_13_213 {L : Nat} {xs : Nat → Int32} : ig_cT (tb_G L xs) 13 213 = some (.int 2331112) := gk_of (by decide +kernel)
theorem lk_16_113 {L : Nat} {xs : Nat → Int32} : ig_cT (tb_G L xs) 16 113 = some (.int 1000000) := gk_of (by decide +kernel)
theorem lk_5_50 {L : Nat} {xs : Nat → Int32} : ig_cT (tb_G L xs) 5 50 = some (.long 10) := gk_of (by decide +kernel)
theorem lk_5_58 {L : Nat} {xs : Nat → Int32} : ig_cT (tb_G L xs) 5 58 = some (.long 48) := gk_of (by decide +kernel)
theorem lk_9_53 {L : Nat} {xs : Nat → Int32} : ig_cT (tb_G L xs) 9 53 = some (.long 63) := gk_of (by decide +kernel)
theorem lk_9_43 {L : Nat} {xs : Nat → Int32} : ig_cT (tb_G L xs) 9 43 = some (.long (-1)) := gk_of (by decide +kernel)
theorem lk_6_137 {L : Nat} {xs : Nat → Int32} : ig_cT (tb_G L xs) 6 137 = some (.long 2) := gk_of (by decide +kernel)
theorem lk_6_166 {L : Nat} {xs : Nat → Int32} : ig_cT (tb_G L xs) 6 166 = some (.long 4) := gk_of (by decide +kernel)
theorem lk_24_314 {L : Nat} {xs : Nat → Int32} : ig_cT (tb_G L xs) 24 314 = some (.long 6148914691236517205) := gk_of (by decide +kernel)
theorem lk_24_316 {L : Nat} {xs : Nat → Int32} : ig_cT (tb_G L xs) 24 316 = some (.long 3689348814741910323) := gk_of (by decide +kernel)
theorem lk_24_318 {L : Nat} {xs : Nat → Int32} : ig_cT (tb_G L xs) 24 318 = some (.long 1085102592571150095) := gk_of (by decide +kernel)
theorem lk_3_137 {L : Nat} {xs : Nat → Int32} : ig_cT (tb_G L xs) 3 137 = some (.long 512) := gk_of (by decide +kernel)
theorem lk_3_139 {L : Nat} {xs : Nat → Int32} : ig_cT (tb_G L xs) 3 139 = some (.long 32) := gk_of (by decide +kernel)
theorem lk_3_141 {L : Nat} {xs : Nat → Int32} : ig_cT (tb_G L xs) 3 141 = some (.long 64) := gk_of (by decide +kernel)
theorem lk_3_143 {L : Nat} {xs : Nat → Int32} : ig_cT (tb_G L xs) 3 143 = some (.long 4) := gk_of (by decide +kernel)
theorem lk_17_64 {L : Nat} {xs : Nat → Int32} : ig_cT (tb_G L xs) 17 64 = some (.long 255) := gk_of (by decide +kernel)
theorem lk_15_71 {L : Nat} {xs : Nat → Int32} : ig_cT (tb_G L xs) 15 71 = some (.long 255) := gk_of (by decide +kernel)
theorem lk_15_143 {L : Nat} {xs : Nat → Int32} : ig_cT (tb_G L xs) 15 143 = some (.long 10) := gk_of (by decide +kernel)
theorem lk_12_50 {L : Nat} {xs : Nat → Int32} : ig_cT (tb_G L xs) 12 50 = some (.long 255) := gk_of (by decide +kernel)
theorem lk_12_67 {L : Nat} {xs : Nat → Int32} : ig_cT (tb_G L xs) 12 67 = some (.long 4) := gk_of (by decide +kernel)
theorem lk_12_69 {L : Nat} {xs : Nat → Int32} : ig_cT (tb_G L xs) 12 69 = some (.long 2) := gk_of (by decide +kernel)
theorem lk_13_153 {L : Nat} {xs : Nat → Int32} : ig_cT (tb_G L xs) 13 153 = some (.long 255) := gk_of (by decide +kernel)
theorem lk_13_155 {L : Nat} {xs : Nat → Int32} : ig_cT (tb_G L xs) 13 155 = some (.long 128) := gk_of (by decide +kernel)
theorem lk_17_127 {L : Nat} {xs : Nat → Int32} : ig_cT (tb_G L xs) 17 127 = some (.long 10) := gk_of (by decide +kernel)
theorem lk_17_129 {L : Nat} {xs : Nat → Int32} : ig_cT (tb_G L xs) 17 129 = some (.long 48) := gk_of (by decide +kernel)
theorem lk_13_214 {L : Nat} {xs : Nat → Int32} : ig_cT (tb_G L xs) 13 214 = some (.long 999999999999) := gk_of (by decide +kernel)
theorem lk_13_216 {L : Nat} {xs : Nat → Int32} : ig_cT (tb_G L xs) 13 216 = some (.long 10) := gk_of (by decide +kernel)
theorem lk_16_80 {L : Nat} {xs : Nat → Int32} : ig_cT (tb_G L xs) 16 80 = some (.long 255) := gk_of (by decide +kernel)
theorem lk_18_71 {L : Nat} {xs : Nat → Int32} : ig_cT (tb_G L xs) 18 71 = some (.long 4294967295) := gk_of (by decide +kernel)

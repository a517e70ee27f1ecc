/-! EACH LINK AS A ROW -/
theorem lf_10_11 {L : Nat} {xs : Nat → Int32} : ig_fT (tb_G L xs) 10 11 = some (10, 0) := (by decide +kernel : tb_find tb_fl 10 11 = some (10, 0))
theorem lf_10_40 {L : Nat} {xs : Nat → Int32} : ig_fT (tb_G L xs) 10 40 = some (10, 1) := (by decide +kernel : tb_find tb_fl 10 40 = some (10, 1))
theorem lf_8_57 {L : Nat} {xs : Nat → Int32} : ig_fT (tb_G L xs) 8 57 = some (10, 1) := (by decide +kernel : tb_find tb_fl 8 57 = some (10, 1))
theorem lf_11_91 {L : Nat} {xs : Nat → Int32} : ig_fT (tb_G L xs) 11 91 = some (10, 1) := (by decide +kernel : tb_find tb_fl 11 91 = some (10, 1))
theorem lf_10_15 {L : Nat} {xs : Nat → Int32} : ig_fT (tb_G L xs) 10 15 = some (10, 2) := (by decide +kernel : tb_find tb_fl 10 15 = some (10, 2))
theorem lf_10_18 {L : Nat} {xs : Nat → Int32} : ig_fT (tb_G L xs) 10 18 = some (10, 3) := (by decide +kernel : tb_find tb_fl 10 18 = some (10, 3))
theorem lf_8_156 {L : Nat} {xs : Nat → Int32} : ig_fT (tb_G L xs) 8 156 = some (10, 3) := (by decide +kernel : tb_find tb_fl 8 156 = some (10, 3))
theorem lf_10_22 {L : Nat} {xs : Nat → Int32} : ig_fT (tb_G L xs) 10 22 = some (10, 4) := (by decide +kernel : tb_find tb_fl 10 22 = some (10, 4))
theorem lf_8_210 {L : Nat} {xs : Nat → Int32} : ig_fT (tb_G L xs) 8 210 = some (10, 4) := (by decide +kernel : tb_find tb_fl 8 210 = some (10, 4))
theorem lf_10_25 {L : Nat} {xs : Nat → Int32} : ig_fT (tb_G L xs) 10 25 = some (10, 5) := (by decide +kernel : tb_find tb_fl 10 25 = some (10, 5))
theorem lf_8_213 {L : Nat} {xs : Nat → Int32} : ig_fT (tb_G L xs) 8 213 = some (10, 5) := (by decide +kernel : tb_find tb_fl 8 213 = some (10, 5))
theorem lf_10_44 {L : Nat} {xs : Nat → Int32} : ig_fT (tb_G L xs) 10 44 = some (10, 6) := (by decide +kernel : tb_find tb_fl 10 44 = some (10, 6))
theorem lf_8_79 {L : Nat} {xs : Nat → Int32} : ig_fT (tb_G L xs) 8 79 = some (10, 6) := (by decide +kernel : tb_find tb_fl 8 79 = some (10, 6))
theorem lf_10_28 {L : Nat} {xs : Nat → Int32} : ig_fT (tb_G L xs) 10 28 = some (10, 7) := (by decide +kernel : tb_find tb_fl 10 28 = some (10, 7))
theorem lf_10_31 {L : Nat} {xs : Nat → Int32} : ig_fT (tb_G L xs) 10 31 = some (10, 8) := (by decide +kernel : tb_find tb_fl 10 31 = some (10, 8))
theorem lf_8_82 {L : Nat} {xs : Nat → Int32} : ig_fT (tb_G L xs) 8 82 = some (10, 8) := (by decide +kernel : tb_find tb_fl 8 82 = some (10, 8))
theorem lf_10_34 {L : Nat} {xs : Nat → Int32} : ig_fT (tb_G L xs) 10 34 = some (10, 9) := (by decide +kernel : tb_find tb_fl 10 34 = some (10, 9))
theorem lf_8_131 {L : Nat} {xs : Nat → Int32} : ig_fT (tb_G L xs) 8 131 = some (10, 9) := (by decide +kernel : tb_find tb_fl 8 131 = some (10, 9))
theorem lf_10_37 {L : Nat} {xs : Nat → Int32} : ig_fT (tb_G L xs) 10 37 = some (10, 10) := (by decide +kernel : tb_find tb_fl 10 37 = some (10, 10))
theorem lf_8_199 {L : Nat} {xs : Nat → Int32} : ig_fT (tb_G L xs) 8 199 = some (10, 10) := (by decide +kernel : tb_find tb_fl 8 199 = some (10, 10))
theorem lf_10_61 {L : Nat} {xs : Nat → Int32} : ig_fT (tb_G L xs) 10 61 = some (10, 11) := (by decide +kernel : tb_find tb_fl 10 61 = some (10, 11))
theorem lf_8_203 {L : Nat} {xs : Nat → Int32} : ig_fT (tb_G L xs) 8 203 = some (10, 11) := (by decide +kernel : tb_find tb_fl 8 203 = some (10, 11))
theorem lf_5_13 {L : Nat} {xs : Nat → Int32} : ig_fT (tb_G L xs) 5 13 = some (5, 0) := (by decide +kernel : tb_find tb_fl 5 13 = some (5, 0))
theorem lf_2_84 {L : Nat} {xs : Nat → Int32} : ig_fT (tb_G L xs) 2 84 = some (5, 0) := (by decide +kernel : tb_find tb_fl 2 84 = some (5, 0))
theorem lf_5_17 {L : Nat} {xs : Nat → Int32} : ig_fT (tb_G L xs) 5 17 = some (5, 1) := (by decide +kernel : tb_find tb_fl 5 17 = some (5, 1))
theorem lf_6_66 {L : Nat} {xs : Nat → Int32} : ig_fT (tb_G L xs) 6 66 = some (5, 1) := (by decide +kernel : tb_find tb_fl 6 66 = some (5, 1))
theorem lf_2_78 {L : Nat} {xs : Nat → Int32} : ig_fT (tb_G L xs) 2 78 = some (5, 1) := (by decide +kernel : tb_find tb_fl 2 78 = some (5, 1))
theorem lf_11_135 {L : Nat} {xs : Nat → Int32} : ig_fT (tb_G L xs) 11 135 = some (5, 1) := (by decide +kernel : tb_find tb_fl 11 135 = some (5, 1))
theorem lf_5_9 {L : Nat} {xs : Nat → Int32} : ig_fT (tb_G L xs) 5 9 = some (5, 2) := (by decide +kernel : tb_find tb_fl 5 9 = some (5, 2))
theorem lf_8_54 {L : Nat} {xs : Nat → Int32} : ig_fT (tb_G L xs) 8 54 = some (5, 3) := (by decide +kernel : tb_find tb_fl 8 54 = some (5, 3))
theorem lf_2_81 {L : Nat} {xs : Nat → Int32} : ig_fT (tb_G L xs) 2 81 = some (5, 3) := (by decide +kernel : tb_find tb_fl 2 81 = some (5, 3))
theorem lf_5_26 {L : Nat} {xs : Nat → Int32} : ig_fT (tb_G L xs) 5 26 = some (5, 3) := (by decide +kernel : tb_find tb_fl 5 26 = some (5, 3))
theorem lf_11_128 {L : Nat} {xs : Nat → Int32} : ig_fT (tb_G L xs) 11 128 = some (5, 3) := (by decide +kernel : tb_find tb_fl 11 128 = some (5, 3))
theorem lf_2_27 {L : Nat} {xs : Nat → Int32} : ig_fT (tb_G L xs) 2 27 = some (2, 0) := (by decide +kernel : tb_find tb_fl 2 27 = some (2, 0))
theorem lf_8_190 {L : Nat} {xs : Nat → Int32} : ig_fT (tb_G L xs) 8 190 = some (2, 0) := (by decide +kernel : tb_find tb_fl 8 190 = some (2, 0))
theorem lf_2_31 {L : Nat} {xs : Nat → Int32} : ig_fT (tb_G L xs) 2 31 = some (2, 1) := (by decide +kernel : tb_find tb_fl 2 31 = some (2, 1))
theorem lf_8_193 {L : Nat} {xs : Nat → Int32} : ig_fT (tb_G L xs) 8 193 = some (2, 1) := (by decide +kernel : tb_find tb_fl 8 193 = some (2, 1))
theorem lf_2_34 {L : Nat} {xs : Nat → Int32} : ig_fT (tb_G L xs) 2 34 = some (2, 2) := (by decide +kernel : tb_find tb_fl 2 34 = some (2, 2))
theorem lf_8_128 {L : Nat} {xs : Nat → Int32} : ig_fT (tb_G L xs) 8 128 = some (2, 2) := (by decide +kernel : tb_find tb_fl 8 128 = some (2, 2))
theorem lf_2_9 {L : Nat} {xs : Nat → Int32} : ig_fT (tb_G L xs) 2 9 = some (2, 3) := (by decide +kernel : tb_find tb_fl 2 9 = some (2, 3))
theorem lf_2_37 {L : Nat} {xs : Nat → Int32} : ig_fT (tb_G L xs) 2 37 = some (2, 4) := (by decide +kernel : tb_find tb_fl 2 37 = some (2, 4))
theorem lf_8_196 {L : Nat} {xs : Nat → Int32} : ig_fT (tb_G L xs) 8 196 = some (2, 4) := (by decide +kernel : tb_find tb_fl 8 196 = some (2, 4))
theorem lf_2_41 {L : Nat} {xs : Nat → Int32} : ig_fT (tb_G L xs) 2 41 = some (2, 5) := (by decide +kernel : tb_find tb_fl 2 41 = some (2, 5))
theorem lf_8_216 {L : Nat} {xs : Nat → Int32} : ig_fT (tb_G L xs) 8 216 = some (2, 5) := (by decide +kernel : tb_find tb_fl 8 216 = some (2, 5))
theorem lf_2_44 {L : Nat} {xs : Nat → Int32} : ig_fT (tb_G L xs) 2 44 = some (2, 6) := (by decide +kernel : tb_find tb_fl 2 44 = some (2, 6))
theorem lf_8_219 {L : Nat} {xs : Nat → Int32} : ig_fT (tb_G L xs) 8 219 = some (2, 6) := (by decide +kernel : tb_find tb_fl 8 219 = some (2, 6))
theorem lf_2_17 {L : Nat} {xs : Nat → Int32} : ig_fT (tb_G L xs) 2 17 = some (2, 7) := (by decide +kernel : tb_find tb_fl 2 17 = some (2, 7))
theorem lf_2_47 {L : Nat} {xs : Nat → Int32} : ig_fT (tb_G L xs) 2 47 = some (2, 8) := (by decide +kernel : tb_find tb_fl 2 47 = some (2, 8))
theorem lf_2_105 {L : Nat} {xs : Nat → Int32} : ig_fT (tb_G L xs) 2 105 = some (2, 9) := (by decide +kernel : tb_find tb_fl 2 105 = some (2, 9))
theorem lf_2_21 {L : Nat} {xs : Nat → Int32} : ig_fT (tb_G L xs) 2 21 = some (2, 10) := (by decide +kernel : tb_find tb_fl 2 21 = some (2, 10))
theorem lf_2_24 {L : Nat} {xs : Nat → Int32} : ig_fT (tb_G L xs) 2 24 = some (2, 11) := (by decide +kernel : tb_find tb_fl 2 24 = some (2, 11))
theorem lf_8_25 {L : Nat} {xs : Nat → Int32} : ig_fT (tb_G L xs) 8 25 = some (8, 0) := (by decide +kernel : tb_find tb_fl 8 25 = some (8, 0))
theorem lf_8_29 {L : Nat} {xs : Nat → Int32} : ig_fT (tb_G L xs) 8 29 = some (8, 1) := (by decide +kernel : tb_find tb_fl 8 29 = some (8, 1))
theorem lf_8_40 {L : Nat} {xs : Nat → Int32} : ig_fT (tb_G L xs) 8 40 = some (8, 2) := (by decide +kernel : tb_find tb_fl 8 40 = some (8, 2))
theorem lf_8_44 {L : Nat} {xs : Nat → Int32} : ig_fT (tb_G L xs) 8 44 = some (8, 3) := (by decide +kernel : tb_find tb_fl 8 44 = some (8, 3))
theorem lf_8_51 {L : Nat} {xs : Nat → Int32} : ig_fT (tb_G L xs) 8 51 = some (8, 4) := (by decide +kernel : tb_find tb_fl 8 51 = some (8, 4))
theorem lf_11_122 {L : Nat} {xs : Nat → Int32} : ig_fT (tb_G L xs) 11 122 = some (8, 4) := (by decide +kernel : tb_find tb_fl 11 122 = some (8, 4))
theorem lf_8_11 {L : Nat} {xs : Nat → Int32} : ig_fT (tb_G L xs) 8 11 = some (8, 5) := (by decide +kernel : tb_find tb_fl 8 11 = some (8, 5))
theorem lf_11_125 {L : Nat} {xs : Nat → Int32} : ig_fT (tb_G L xs) 11 125 = some (8, 5) := (by decide +kernel : tb_find tb_fl 11 125 = some (8, 5))
theorem lf_8_48 {L : Nat} {xs : Nat → Int32} : ig_fT (tb_G L xs) 8 48 = some (8, 6) := (by decide +kernel : tb_find tb_fl 8 48 = some (8, 6))
theorem lf_11_116 {L : Nat} {xs : Nat → Int32} : ig_fT (tb_G L xs) 11 116 = some (8, 6) := (by decide +kernel : tb_find tb_fl 11 116 = some (8, 6))
theorem lf_8_15 {L : Nat} {xs : Nat → Int32} : ig_fT (tb_G L xs) 8 15 = some (8, 7) := (by decide +kernel : tb_find tb_fl 8 15 = some (8, 7))
theorem lf_11_119 {L : Nat} {xs : Nat → Int32} : ig_fT (tb_G L xs) 11 119 = some (8, 7) := (by decide +kernel : tb_find tb_fl 11 119 = some (8, 7))
theorem lf_8_62 {L : Nat} {xs : Nat → Int32} : ig_fT (tb_G L xs) 8 62 = some (8, 8) := (by decide +kernel : tb_find tb_fl 8 62 = some (8, 8))
theorem lf_8_66 {L : Nat} {xs : Nat → Int32} : ig_fT (tb_G L xs) 8 66 = some (8, 9) := (by decide +kernel : tb_find tb_fl 8 66 = some (8, 9))
theorem lf_8_232 {L : Nat} {xs : Nat → Int32} : ig_fT (tb_G L xs) 8 232 = some (8, 10) := (by decide +kernel : tb_find tb_fl 8 232 = some (8, 10))
theorem lf_8_235 {L : Nat} {xs : Nat → Int32} : ig_fT (tb_G L xs) 8 235 = some (8, 11) := (by decide +kernel : tb_find tb_fl 8 235 = some (8, 11))
theorem lf_8_162 {L : Nat} {xs : Nat → Int32} : ig_fT (tb_G L xs) 8 162 = some (8, 12) := (by decide +kernel : tb_find tb_fl 8 162 = some (8, 12))
theorem lf_8_19 {L : Nat} {xs : Nat → Int32} : ig_fT (tb_G L xs) 8 19 = some (8, 13) := (by decide +kernel : tb_find tb_fl 8 19 = some (8, 13))
theorem lf_8_22 {L : Nat} {xs : Nat → Int32} : ig_fT (tb_G L xs) 8 22 = some (8, 14) := (by decide +kernel : tb_find tb_fl 8 22 = some (8, 14))
theorem lf_8_140 {L : Nat} {xs : Nat → Int32} : ig_fT (tb_G L xs) 8 140 = some (8, 15) := (by decide +kernel : tb_find tb_fl 8 140 = some (8, 15))
theorem lf_8_153 {L : Nat} {xs : Nat → Int32} : ig_fT (tb_G L xs) 8 153 = some (8, 16) := (by decide +kernel : tb_find tb_fl 8 153 = some (8, 16))
theorem lf_9_9 {L : Nat} {xs : Nat → Int32} : ig_fT (tb_G L xs) 9 9 = some (9, 0) := (by decide +kernel : tb_find tb_fl 9 9 = some (9, 0))
theorem lf_3_54 {L : Nat} {xs : Nat → Int32} : ig_fT (tb_G L xs) 3 54 = some (9, 0) := (by decide +kernel : tb_find tb_fl 3 54 = some (9, 0))
theorem lf_11_163 {L : Nat} {xs : Nat → Int32} : ig_fT (tb_G L xs) 11 163 = some (9, 0) := (by decide +kernel : tb_find tb_fl 11 163 = some (9, 0))
theorem lf_9_15 {L : Nat} {xs : Nat → Int32} : ig_fT (tb_G L xs) 9 15 = some (9, 1) := (by decide +kernel : tb_find tb_fl 9 15 = some (9, 1))
theorem lf_3_57 {L : Nat} {xs : Nat → Int32} : ig_fT (tb_G L xs) 3 57 = some (9, 1) := (by decide +kernel : tb_find tb_fl 3 57 = some (9, 1))
theorem lf_6_134 {L : Nat} {xs : Nat → Int32} : ig_fT (tb_G L xs) 6 134 = some (9, 1) := (by decide +kernel : tb_find tb_fl 6 134 = some (9, 1))
theorem lf_11_166 {L : Nat} {xs : Nat → Int32} : ig_fT (tb_G L xs) 11 166 = some (9, 1) := (by decide +kernel : tb_find tb_fl 11 166 = some (9, 1))
theorem lf_6_53 {L : Nat} {xs : Nat → Int32} : ig_fT (tb_G L xs) 6 53 = some (9, 2) := (by decide +kernel : tb_find tb_fl 6 53 = some (9, 2))
theorem lf_9_49 {L : Nat} {xs : Nat → Int32} : ig_fT (tb_G L xs) 9 49 = some (9, 2) := (by decide +kernel : tb_find tb_fl 9 49 = some (9, 2))
theorem lf_9_40 {L : Nat} {xs : Nat → Int32} : ig_fT (tb_G L xs) 9 40 = some (9, 3) := (by decide +kernel : tb_find tb_fl 9 40 = some (9, 3))
theorem lf_6_59 {L : Nat} {xs : Nat → Int32} : ig_fT (tb_G L xs) 6 59 = some (9, 3) := (by decide +kernel : tb_find tb_fl 6 59 = some (9, 3))
theorem lf_9_18 {L : Nat} {xs : Nat → Int32} : ig_fT (tb_G L xs) 9 18 = some (9, 4) := (by decide +kernel : tb_find tb_fl 9 18 = some (9, 4))
theorem lf_9_22 {L : Nat} {xs : Nat → Int32} : ig_fT (tb_G L xs) 9 22 = some (9, 5) := (by decide +kernel : tb_find tb_fl 9 22 = some (9, 5))
theorem lf_0_11 {L : Nat} {xs : Nat → Int32} : ig_fT (tb_G L xs) 0 11 = some (0, 0) := (by decide +kernel : tb_find tb_fl 0 11 = some (0, 0))
theorem lf_11_186 {L : Nat} {xs : Nat → Int32} : ig_fT (tb_G L xs) 11 186 = some (0, 0) := (by decide +kernel : tb_find tb_fl 11 186 = some (0, 0))
theorem lf_0_17 {L : Nat} {xs : Nat → Int32} : ig_fT (tb_G L xs) 0 17 = some (0, 1) := (by decide +kernel : tb_find tb_fl 0 17 = some (0, 1))
theorem lf_6_124 {L : Nat} {xs : Nat → Int32} : ig_fT (tb_G L xs) 6 124 = some (0, 1) := (by decide +kernel : tb_find tb_fl 6 124 = some (0, 1))
theorem lf_6_121 {L : Nat} {xs : Nat → Int32} : ig_fT (tb_G L xs) 6 121 = some (0, 2) := (by decide +kernel : tb_find tb_fl 6 121 = some (0, 2))
theorem lf_0_86 {L : Nat} {xs : Nat → Int32} : ig_fT (tb_G L xs) 0 86 = some (0, 2) := (by decide +kernel : tb_find tb_fl 0 86 = some (0, 2))
theorem lf_0_122 {L : Nat} {xs : Nat → Int32} : ig_fT (tb_G L xs) 0 122 = some (0, 3) := (by decide +kernel : tb_find tb_fl 0 122 = some (0, 3))
theorem lf_11_240 {L : Nat} {xs : Nat → Int32} : ig_fT (tb_G L xs) 11 240 = some (0, 3) := (by decide +kernel : tb_find tb_fl 11 240 = some (0, 3))
theorem lf_0_118 {L : Nat} {xs : Nat → Int32} : ig_fT (tb_G L xs) 0 118 = some (0, 4) := (by decide +kernel : tb_find tb_fl 0 118 = some (0, 4))
theorem lf_11_244 {L : Nat} {xs : Nat → Int32} : ig_fT (tb_G L xs) 11 244 = some (0, 4) := (by decide +kernel : tb_find tb_fl 11 244 = some (0, 4))
theorem lf_0_20 {L : Nat} {xs : Nat → Int32} : ig_fT (tb_G L xs) 0 20 = some (0, 5) := (by decide +kernel : tb_find tb_fl 0 20 = some (0, 5))
theorem lf_0_32 {L : Nat} {xs : Nat → Int32} : ig_fT (tb_G L xs) 0 32 = some (0, 6) := (by decide +kernel : tb_find tb_fl 0 32 = some (0, 6))
theorem lf_0_23 {L : Nat} {xs : Nat → Int32} : ig_fT (tb_G L xs) 0 23 = some (0, 7) := (by decide +kernel : tb_find tb_fl 0 23 = some (0, 7))
theorem lf_0_26 {L : Nat} {xs : Nat → Int32} : ig_fT (tb_G L xs) 0 26 = some (0, 8) := (by decide +kernel : tb_find tb_fl 0 26 = some (0, 8))
theorem lf_0_73 {L : Nat} {xs : Nat → Int32} : ig_fT (tb_G L xs) 0 73 = some (0, 9) := (by decide +kernel : tb_find tb_fl 0 73 = some (0, 9))
theorem lf_0_29 {L : Nat} {xs : Nat → Int32} : ig_fT (tb_G L xs) 0 29 = some (0, 10) := (by decide +kernel : tb_find tb_fl 0 29 = some (0, 10))
theorem lf_0_115 {L : Nat} {xs : Nat → Int32} : ig_fT (tb_G L xs) 0 115 = some (0, 11) := (by decide +kernel : tb_find tb_fl 0 115 = some (0, 11))
theorem lf_0_132 {L : Nat} {xs : Nat → Int32} : ig_fT (tb_G L xs) 0 132 = some (0, 12) := (by decide +kernel : tb_find tb_fl 0 132 = some (0, 12))
theorem lf_7_11 {L : Nat} {xs : Nat → Int32} : ig_fT (tb_G L xs) 7 11 = some (7, 0) := (by decide +kernel : tb_find tb_fl 7 11 = some (7, 0))
theorem lf_4_36 {L : Nat} {xs : Nat → Int32} : ig_fT (tb_G L xs) 4 36 = some (7, 0) := (by decide +kernel : tb_find tb_fl 4 36 = some (7, 0))
theorem lf_7_107 {L : Nat} {xs : Nat → Int32} : ig_fT (tb_G L xs) 7 107 = some (7, 1) := (by decide +kernel : tb_find tb_fl 7 107 = some (7, 1))
theorem lf_11_227 {L : Nat} {xs : Nat → Int32} : ig_fT (tb_G L xs) 11 227 = some (7, 1) := (by decide +kernel : tb_find tb_fl 11 227 = some (7, 1))
theorem lf_7_110 {L : Nat} {xs : Nat → Int32} : ig_fT (tb_G L xs) 7 110 = some (7, 2) := (by decide +kernel : tb_find tb_fl 7 110 = some (7, 2))
theorem lf_11_230 {L : Nat} {xs : Nat → Int32} : ig_fT (tb_G L xs) 11 230 = some (7, 2) := (by decide +kernel : tb_find tb_fl 11 230 = some (7, 2))
theorem lf_7_17 {L : Nat} {xs : Nat → Int32} : ig_fT (tb_G L xs) 7 17 = some (7, 3) := (by decide +kernel : tb_find tb_fl 7 17 = some (7, 3))
theorem lf_7_21 {L : Nat} {xs : Nat → Int32} : ig_fT (tb_G L xs) 7 21 = some (7, 4) := (by decide +kernel : tb_find tb_fl 7 21 = some (7, 4))
theorem lf_7_81 {L : Nat} {xs : Nat → Int32} : ig_fT (tb_G L xs) 7 81 = some (7, 5) := (by decide +kernel : tb_find tb_fl 7 81 = some (7, 5))
theorem lf_7_104 {L : Nat} {xs : Nat → Int32} : ig_fT (tb_G L xs) 7 104 = some (7, 6) := (by decide +kernel : tb_find tb_fl 7 104 = some (7, 6))
theorem lf_1_11 {L : Nat} {xs : Nat → Int32} : ig_fT (tb_G L xs) 1 11 = some (1, 0) := (by decide +kernel : tb_find tb_fl 1 11 = some (1, 0))
theorem lf_1_15 {L : Nat} {xs : Nat → Int32} : ig_fT (tb_G L xs) 1 15 = some (1, 1) := (by decide +kernel : tb_find tb_fl 1 15 = some (1, 1))
theorem lf_1_19 {L : Nat} {xs : Nat → Int32} : ig_fT (tb_G L xs) 1 19 = some (1, 2) := (by decide +kernel : tb_find tb_fl 1 19 = some (1, 2))
theorem lf_1_22 {L : Nat} {xs : Nat → Int32} : ig_fT (tb_G L xs) 1 22 = some (1, 3) := (by decide +kernel : tb_find tb_fl 1 22 = some (1, 3))
theorem lf_1_25 {L : Nat} {xs : Nat → Int32} : ig_fT (tb_G L xs) 1 25 = some (1, 4) := (by decide +kernel : tb_find tb_fl 1 25 = some (1, 4))
theorem lf_1_28 {L : Nat} {xs : Nat → Int32} : ig_fT (tb_G L xs) 1 28 = some (1, 5) := (by decide +kernel : tb_find tb_fl 1 28 = some (1, 5))
theorem lf_1_31 {L : Nat} {xs : Nat → Int32} : ig_fT (tb_G L xs) 1 31 = some (1, 6) := (by decide +kernel : tb_find tb_fl 1 31 = some (1, 6))
theorem lf_1_34 {L : Nat} {xs : Nat → Int32} : ig_fT (tb_G L xs) 1 34 = some (1, 7) := (by decide +kernel : tb_find tb_fl 1 34 = some (1, 7))
theorem lf_1_37 {L : Nat} {xs : Nat → Int32} : ig_fT (tb_G L xs) 1 37 = some (1, 8) := (by decide +kernel : tb_find tb_fl 1 37 = some (1, 8))
theorem lf_1_40 {L : Nat} {xs : Nat → Int32} : ig_fT (tb_G L xs) 1 40 = some (1, 9) := (by decide +kernel : tb_find tb_fl 1 40 = some (1, 9))
theorem lf_1_64 {L : Nat} {xs : Nat → Int32} : ig_fT (tb_G L xs) 1 64 = some (1, 10) := (by decide +kernel : tb_find tb_fl 1 64 = some (1, 10))
theorem lf_1_53 {L : Nat} {xs : Nat → Int32} : ig_fT (tb_G L xs) 1 53 = some (1, 11) := (by decide +kernel : tb_find tb_fl 1 53 = some (1, 11))
theorem lf_1_57 {L : Nat} {xs : Nat → Int32} : ig_fT (tb_G L xs) 1 57 = some (1, 12) := (by decide +kernel : tb_find tb_fl 1 57 = some (1, 12))
theorem lf_1_67 {L : Nat} {xs : Nat → Int32} : ig_fT (tb_G L xs) 1 67 = some (1, 13) := (by decide +kernel : tb_find tb_fl 1 67 = some (1, 13))
theorem lf_4_12 {L : Nat} {xs : Nat → Int32} : ig_fT (tb_G L xs) 4 12 = some (4, 0) := (by decide +kernel : tb_find tb_fl 4 12 = some (4, 0))
theorem lf_11_223 {L : Nat} {xs : Nat → Int32} : ig_fT (tb_G L xs) 11 223 = some (4, 0) := (by decide +kernel : tb_find tb_fl 11 223 = some (4, 0))
theorem lf_4_74 {L : Nat} {xs : Nat → Int32} : ig_fT (tb_G L xs) 4 74 = some (4, 1) := (by decide +kernel : tb_find tb_fl 4 74 = some (4, 1))
theorem lf_6_127 {L : Nat} {xs : Nat → Int32} : ig_fT (tb_G L xs) 6 127 = some (4, 1) := (by decide +kernel : tb_find tb_fl 6 127 = some (4, 1))
theorem lf_3_132 {L : Nat} {xs : Nat → Int32} : ig_fT (tb_G L xs) 3 132 = some (4, 1) := (by decide +kernel : tb_find tb_fl 3 132 = some (4, 1))
theorem lf_11_214 {L : Nat} {xs : Nat → Int32} : ig_fT (tb_G L xs) 11 214 = some (4, 2) := (by decide +kernel : tb_find tb_fl 11 214 = some (4, 2))
theorem lf_4_154 {L : Nat} {xs : Nat → Int32} : ig_fT (tb_G L xs) 4 154 = some (4, 2) := (by decide +kernel : tb_find tb_fl 4 154 = some (4, 2))
theorem lf_4_55 {L : Nat} {xs : Nat → Int32} : ig_fT (tb_G L xs) 4 55 = some (4, 3) := (by decide +kernel : tb_find tb_fl 4 55 = some (4, 3))
theorem lf_11_217 {L : Nat} {xs : Nat → Int32} : ig_fT (tb_G L xs) 11 217 = some (4, 3) := (by decide +kernel : tb_find tb_fl 11 217 = some (4, 3))
theorem lf_11_220 {L : Nat} {xs : Nat → Int32} : ig_fT (tb_G L xs) 11 220 = some (4, 4) := (by decide +kernel : tb_find tb_fl 11 220 = some (4, 4))
theorem lf_4_161 {L : Nat} {xs : Nat → Int32} : ig_fT (tb_G L xs) 4 161 = some (4, 4) := (by decide +kernel : tb_find tb_fl 4 161 = some (4, 4))
theorem lf_4_21 {L : Nat} {xs : Nat → Int32} : ig_fT (tb_G L xs) 4 21 = some (4, 5) := (by decide +kernel : tb_find tb_fl 4 21 = some (4, 5))
theorem lf_4_71 {L : Nat} {xs : Nat → Int32} : ig_fT (tb_G L xs) 4 71 = some (4, 6) := (by decide +kernel : tb_find tb_fl 4 71 = some (4, 6))
theorem lf_4_25 {L : Nat} {xs : Nat → Int32} : ig_fT (tb_G L xs) 4 25 = some (4, 7) := (by decide +kernel : tb_find tb_fl 4 25 = some (4, 7))
theorem lf_4_29 {L : Nat} {xs : Nat → Int32} : ig_fT (tb_G L xs) 4 29 = some (4, 8) := (by decide +kernel : tb_find tb_fl 4 29 = some (4, 8))
theorem lf_6_19 {L : Nat} {xs : Nat → Int32} : ig_fT (tb_G L xs) 6 19 = some (6, 0) := (by decide +kernel : tb_find tb_fl 6 19 = some (6, 0))
theorem lf_6_23 {L : Nat} {xs : Nat → Int32} : ig_fT (tb_G L xs) 6 23 = some (6, 1) := (by decide +kernel : tb_find tb_fl 6 23 = some (6, 1))
theorem lf_6_27 {L : Nat} {xs : Nat → Int32} : ig_fT (tb_G L xs) 6 27 = some (6, 2) := (by decide +kernel : tb_find tb_fl 6 27 = some (6, 2))
theorem lf_6_9 {L : Nat} {xs : Nat → Int32} : ig_fT (tb_G L xs) 6 9 = some (6, 3) := (by decide +kernel : tb_find tb_fl 6 9 = some (6, 3))
theorem lf_6_16 {L : Nat} {xs : Nat → Int32} : ig_fT (tb_G L xs) 6 16 = some (6, 4) := (by decide +kernel : tb_find tb_fl 6 16 = some (6, 4))
theorem lf_6_43 {L : Nat} {xs : Nat → Int32} : ig_fT (tb_G L xs) 6 43 = some (6, 5) := (by decide +kernel : tb_find tb_fl 6 43 = some (6, 5))
theorem lf_6_47 {L : Nat} {xs : Nat → Int32} : ig_fT (tb_G L xs) 6 47 = some (6, 6) := (by decide +kernel : tb_find tb_fl 6 47 = some (6, 6))
theorem lf_6_50 {L : Nat} {xs : Nat → Int32} : ig_fT (tb_G L xs) 6 50 = some (6, 7) := (by decide +kernel : tb_find tb_fl 6 50 = some (6, 7))
theorem lf_3_41 {L : Nat} {xs : Nat → Int32} : ig_fT (tb_G L xs) 3 41 = some (3, 0) := (by decide +kernel : tb_find tb_fl 3 41 = some (3, 0))
theorem lf_11_146 {L : Nat} {xs : Nat → Int32} : ig_fT (tb_G L xs) 11 146 = some (3, 0) := (by decide +kernel : tb_find tb_fl 11 146 = some (3, 0))
theorem lf_3_37 {L : Nat} {xs : Nat → Int32} : ig_fT (tb_G L xs) 3 37 = some (3, 1) := (by decide +kernel : tb_find tb_fl 3 37 = some (3, 1))
theorem lf_3_14 {L : Nat} {xs : Nat → Int32} : ig_fT (tb_G L xs) 3 14 = some (3, 2) := (by decide +kernel : tb_find tb_fl 3 14 = some (3, 2))
theorem lf_3_19 {L : Nat} {xs : Nat → Int32} : ig_fT (tb_G L xs) 3 19 = some (3, 3) := (by decide +kernel : tb_find tb_fl 3 19 = some (3, 3))
theorem lf_3_23 {L : Nat} {xs : Nat → Int32} : ig_fT (tb_G L xs) 3 23 = some (3, 4) := (by decide +kernel : tb_find tb_fl 3 23 = some (3, 4))
theorem lf_3_27 {L : Nat} {xs : Nat → Int32} : ig_fT (tb_G L xs) 3 27 = some (3, 5) := (by decide +kernel : tb_find tb_fl 3 27 = some (3, 5))
theorem lf_3_30 {L : Nat} {xs : Nat → Int32} : ig_fT (tb_G L xs) 3 30 = some (3, 6) := (by decide +kernel : tb_find tb_fl 3 30 = some (3, 6))
theorem lf_3_34 {L : Nat} {xs : Nat → Int32} : ig_fT (tb_G L xs) 3 34 = some (3, 7) := (by decide +kernel : tb_find tb_fl 3 34 = some (3, 7))
theorem lf_3_45 {L : Nat} {xs : Nat → Int32} : ig_fT (tb_G L xs) 3 45 = some (3, 8) := (by decide +kernel : tb_find tb_fl 3 45 = some (3, 8))
theorem lf_3_66 {L : Nat} {xs : Nat → Int32} : ig_fT (tb_G L xs) 3 66 = some (3, 9) := (by decide +kernel : tb_find tb_fl 3 66 = some (3, 9))
theorem lf_3_48 {L : Nat} {xs : Nat → Int32} : ig_fT (tb_G L xs) 3 48 = some (3, 10) := (by decide +kernel : tb_find tb_fl 3 48 = some (3, 10))
theorem lf_11_10 {L : Nat} {xs : Nat → Int32} : ig_fT (tb_G L xs) 11 10 = some (11, 0) := (by decide +kernel : tb_find tb_fl 11 10 = some (11, 0))
theorem lf_11_21 {L : Nat} {xs : Nat → Int32} : ig_fT (tb_G L xs) 11 21 = some (11, 1) := (by decide +kernel : tb_find tb_fl 11 21 = some (11, 1))
theorem lf_11_30 {L : Nat} {xs : Nat → Int32} : ig_fT (tb_G L xs) 11 30 = some (11, 2) := (by decide +kernel : tb_find tb_fl 11 30 = some (11, 2))
theorem lf_11_37 {L : Nat} {xs : Nat → Int32} : ig_fT (tb_G L xs) 11 37 = some (11, 3) := (by decide +kernel : tb_find tb_fl 11 37 = some (11, 3))
theorem lf_11_60 {L : Nat} {xs : Nat → Int32} : ig_fT (tb_G L xs) 11 60 = some (11, 4) := (by decide +kernel : tb_find tb_fl 11 60 = some (11, 4))
theorem lf_11_44 {L : Nat} {xs : Nat → Int32} : ig_fT (tb_G L xs) 11 44 = some (11, 5) := (by decide +kernel : tb_find tb_fl 11 44 = some (11, 5))
theorem lf_11_51 {L : Nat} {xs : Nat → Int32} : ig_fT (tb_G L xs) 11 51 = some (11, 6) := (by decide +kernel : tb_find tb_fl 11 51 = some (11, 6))
theorem lf_11_69 {L : Nat} {xs : Nat → Int32} : ig_fT (tb_G L xs) 11 69 = some (11, 7) := (by decide +kernel : tb_find tb_fl 11 69 = some (11, 7))
theorem lf_11_73 {L : Nat} {xs : Nat → Int32} : ig_fT (tb_G L xs) 11 73 = some (11, 8) := (by decide +kernel : tb_find tb_fl 11 73 = some (11, 8))
theorem lf_11_149 {L : Nat} {xs : Nat → Int32} : ig_fT (tb_G L xs) 11 149 = some (11, 9) := (by decide +kernel : tb_find tb_fl 11 149 = some (11, 9))
theorem lf_11_77 {L : Nat} {xs : Nat → Int32} : ig_fT (tb_G L xs) 11 77 = some (11, 10) := (by decide +kernel : tb_find tb_fl 11 77 = some (11, 10))
theorem lf_11_80 {L : Nat} {xs : Nat → Int32} : ig_fT (tb_G L xs) 11 80 = some (11, 11) := (by decide +kernel : tb_find tb_fl 11 80 = some (11, 11))
theorem lf_11_231 {L : Nat} {xs : Nat → Int32} : ig_fT (tb_G L xs) 11 231 = some (11, 12) := (by decide +kernel : tb_find tb_fl 11 231 = some (11, 12))
theorem lf_15_65 {L : Nat} {xs : Nat → Int32} : ig_fT (tb_G L xs) 15 65 = some (15, 0) := (by decide +kernel : tb_find tb_fl 15 65 = some (15, 0))
theorem lf_15_7 {L : Nat} {xs : Nat → Int32} : ig_fT (tb_G L xs) 15 7 = some (15, 1) := (by decide +kernel : tb_find tb_fl 15 7 = some (15, 1))
theorem lf_15_68 {L : Nat} {xs : Nat → Int32} : ig_fT (tb_G L xs) 15 68 = some (15, 2) := (by decide +kernel : tb_find tb_fl 15 68 = some (15, 2))
theorem lf_15_13 {L : Nat} {xs : Nat → Int32} : ig_fT (tb_G L xs) 15 13 = some (15, 3) := (by decide +kernel : tb_find tb_fl 15 13 = some (15, 3))
theorem lf_15_16 {L : Nat} {xs : Nat → Int32} : ig_fT (tb_G L xs) 15 16 = some (15, 4) := (by decide +kernel : tb_find tb_fl 15 16 = some (15, 4))
theorem lf_15_19 {L : Nat} {xs : Nat → Int32} : ig_fT (tb_G L xs) 15 19 = some (15, 5) := (by decide +kernel : tb_find tb_fl 15 19 = some (15, 5))
theorem lf_15_22 {L : Nat} {xs : Nat → Int32} : ig_fT (tb_G L xs) 15 22 = some (15, 6) := (by decide +kernel : tb_find tb_fl 15 22 = some (15, 6))
theorem lf_15_25 {L : Nat} {xs : Nat → Int32} : ig_fT (tb_G L xs) 15 25 = some (15, 7) := (by decide +kernel : tb_find tb_fl 15 25 = some (15, 7))
theorem lf_15_73 {L : Nat} {xs : Nat → Int32} : ig_fT (tb_G L xs) 15 73 = some (15, 8) := (by decide +kernel : tb_find tb_fl 15 73 = some (15, 8))
theorem lf_15_183 {L : Nat} {xs : Nat → Int32} : ig_fT (tb_G L xs) 15 183 = some (15, 9) := (by decide +kernel : tb_find tb_fl 15 183 = some (15, 9))
theorem lf_15_216 {L : Nat} {xs : Nat → Int32} : ig_fT (tb_G L xs) 15 216 = some (15, 10) := (by decide +kernel : tb_find tb_fl 15 216 = some (15, 10))
theorem lf_15_210 {L : Nat} {xs : Nat → Int32} : ig_fT (tb_G L xs) 15 210 = some (15, 11) := (by decide +kernel : tb_find tb_fl 15 210 = some (15, 11))
theorem lf_15_213 {L : Nat} {xs : Nat → Int32} : ig_fT (tb_G L xs) 15 213 = some (15, 12) := (by decide +kernel : tb_find tb_fl 15 213 = some (15, 12))
theorem lf_15_249 {L : Nat} {xs : Nat → Int32} : ig_fT (tb_G L xs) 15 249 = some (15, 13) := (by decide +kernel : tb_find tb_fl 15 249 = some (15, 13))
theorem lf_15_28 {L : Nat} {xs : Nat → Int32} : ig_fT (tb_G L xs) 15 28 = some (15, 14) := (by decide +kernel : tb_find tb_fl 15 28 = some (15, 14))
theorem lf_15_32 {L : Nat} {xs : Nat → Int32} : ig_fT (tb_G L xs) 15 32 = some (15, 15) := (by decide +kernel : tb_find tb_fl 15 32 = some (15, 15))
theorem lf_15_35 {L : Nat} {xs : Nat → Int32} : ig_fT (tb_G L xs) 15 35 = some (15, 16) := (by decide +kernel : tb_find tb_fl 15 35 = some (15, 16))
theorem lf_15_101 {L : Nat} {xs : Nat → Int32} : ig_fT (tb_G L xs) 15 101 = some (15, 17) := (by decide +kernel : tb_find tb_fl 15 101 = some (15, 17))
theorem lf_15_180 {L : Nat} {xs : Nat → Int32} : ig_fT (tb_G L xs) 15 180 = some (15, 18) := (by decide +kernel : tb_find tb_fl 15 180 = some (15, 18))
theorem lf_15_219 {L : Nat} {xs : Nat → Int32} : ig_fT (tb_G L xs) 15 219 = some (15, 19) := (by decide +kernel : tb_find tb_fl 15 219 = some (15, 19))
theorem lf_15_222 {L : Nat} {xs : Nat → Int32} : ig_fT (tb_G L xs) 15 222 = some (15, 20) := (by decide +kernel : tb_find tb_fl 15 222 = some (15, 20))
theorem lf_15_207 {L : Nat} {xs : Nat → Int32} : ig_fT (tb_G L xs) 15 207 = some (15, 21) := (by decide +kernel : tb_find tb_fl 15 207 = some (15, 21))
theorem lf_15_107 {L : Nat} {xs : Nat → Int32} : ig_fT (tb_G L xs) 15 107 = some (15, 22) := (by decide +kernel : tb_find tb_fl 15 107 = some (15, 22))
theorem lf_15_110 {L : Nat} {xs : Nat → Int32} : ig_fT (tb_G L xs) 15 110 = some (15, 23) := (by decide +kernel : tb_find tb_fl 15 110 = some (15, 23))
theorem lf_15_38 {L : Nat} {xs : Nat → Int32} : ig_fT (tb_G L xs) 15 38 = some (15, 24) := (by decide +kernel : tb_find tb_fl 15 38 = some (15, 24))
theorem lf_15_113 {L : Nat} {xs : Nat → Int32} : ig_fT (tb_G L xs) 15 113 = some (15, 25) := (by decide +kernel : tb_find tb_fl 15 113 = some (15, 25))
theorem lf_15_123 {L : Nat} {xs : Nat → Int32} : ig_fT (tb_G L xs) 15 123 = some (15, 26) := (by decide +kernel : tb_find tb_fl 15 123 = some (15, 26))
theorem lf_15_41 {L : Nat} {xs : Nat → Int32} : ig_fT (tb_G L xs) 15 41 = some (15, 27) := (by decide +kernel : tb_find tb_fl 15 41 = some (15, 27))
theorem lf_15_44 {L : Nat} {xs : Nat → Int32} : ig_fT (tb_G L xs) 15 44 = some (15, 28) := (by decide +kernel : tb_find tb_fl 15 44 = some (15, 28))
theorem lf_15_47 {L : Nat} {xs : Nat → Int32} : ig_fT (tb_G L xs) 15 47 = some (15, 29) := (by decide +kernel : tb_find tb_fl 15 47 = some (15, 29))
theorem lf_15_50 {L : Nat} {xs : Nat → Int32} : ig_fT (tb_G L xs) 15 50 = some (15, 30) := (by decide +kernel : tb_find tb_fl 15 50 = some (15, 30))
theorem lf_15_53 {L : Nat} {xs : Nat → Int32} : ig_fT (tb_G L xs) 15 53 = some (15, 31) := (by decide +kernel : tb_find tb_fl 15 53 = some (15, 31))
theorem lf_15_132 {L : Nat} {xs : Nat → Int32} : ig_fT (tb_G L xs) 15 132 = some (15, 32) := (by decide +kernel : tb_find tb_fl 15 132 = some (15, 32))
theorem lf_15_136 {L : Nat} {xs : Nat → Int32} : ig_fT (tb_G L xs) 15 136 = some (15, 33) := (by decide +kernel : tb_find tb_fl 15 136 = some (15, 33))
theorem lf_15_126 {L : Nat} {xs : Nat → Int32} : ig_fT (tb_G L xs) 15 126 = some (15, 34) := (by decide +kernel : tb_find tb_fl 15 126 = some (15, 34))
theorem lf_15_204 {L : Nat} {xs : Nat → Int32} : ig_fT (tb_G L xs) 15 204 = some (15, 35) := (by decide +kernel : tb_find tb_fl 15 204 = some (15, 35))
theorem lf_15_56 {L : Nat} {xs : Nat → Int32} : ig_fT (tb_G L xs) 15 56 = some (15, 36) := (by decide +kernel : tb_find tb_fl 15 56 = some (15, 36))
theorem lf_15_155 {L : Nat} {xs : Nat → Int32} : ig_fT (tb_G L xs) 15 155 = some (15, 37) := (by decide +kernel : tb_find tb_fl 15 155 = some (15, 37))
theorem lf_15_59 {L : Nat} {xs : Nat → Int32} : ig_fT (tb_G L xs) 15 59 = some (15, 38) := (by decide +kernel : tb_find tb_fl 15 59 = some (15, 38))
theorem lf_15_62 {L : Nat} {xs : Nat → Int32} : ig_fT (tb_G L xs) 15 62 = some (15, 39) := (by decide +kernel : tb_find tb_fl 15 62 = some (15, 39))
theorem lf_12_37 {L : Nat} {xs : Nat → Int32} : ig_fT (tb_G L xs) 12 37 = some (12, 0) := (by decide +kernel : tb_find tb_fl 12 37 = some (12, 0))
theorem lf_12_7 {L : Nat} {xs : Nat → Int32} : ig_fT (tb_G L xs) 12 7 = some (12, 1) := (by decide +kernel : tb_find tb_fl 12 7 = some (12, 1))
theorem lf_12_13 {L : Nat} {xs : Nat → Int32} : ig_fT (tb_G L xs) 12 13 = some (12, 2) := (by decide +kernel : tb_find tb_fl 12 13 = some (12, 2))
theorem lf_12_44 {L : Nat} {xs : Nat → Int32} : ig_fT (tb_G L xs) 12 44 = some (12, 3) := (by decide +kernel : tb_find tb_fl 12 44 = some (12, 3))
theorem lf_12_17 {L : Nat} {xs : Nat → Int32} : ig_fT (tb_G L xs) 12 17 = some (12, 4) := (by decide +kernel : tb_find tb_fl 12 17 = some (12, 4))
theorem lf_12_21 {L : Nat} {xs : Nat → Int32} : ig_fT (tb_G L xs) 12 21 = some (12, 5) := (by decide +kernel : tb_find tb_fl 12 21 = some (12, 5))
theorem lf_12_24 {L : Nat} {xs : Nat → Int32} : ig_fT (tb_G L xs) 12 24 = some (12, 6) := (by decide +kernel : tb_find tb_fl 12 24 = some (12, 6))
theorem lf_12_47 {L : Nat} {xs : Nat → Int32} : ig_fT (tb_G L xs) 12 47 = some (12, 7) := (by decide +kernel : tb_find tb_fl 12 47 = some (12, 7))
theorem lf_12_27 {L : Nat} {xs : Nat → Int32} : ig_fT (tb_G L xs) 12 27 = some (12, 8) := (by decide +kernel : tb_find tb_fl 12 27 = some (12, 8))
theorem lf_12_30 {L : Nat} {xs : Nat → Int32} : ig_fT (tb_G L xs) 12 30 = some (12, 9) := (by decide +kernel : tb_find tb_fl 12 30 = some (12, 9))
theorem lf_12_52 {L : Nat} {xs : Nat → Int32} : ig_fT (tb_G L xs) 12 52 = some (12, 10) := (by decide +kernel : tb_find tb_fl 12 52 = some (12, 10))
theorem lf_12_58 {L : Nat} {xs : Nat → Int32} : ig_fT (tb_G L xs) 12 58 = some (12, 11) := (by decide +kernel : tb_find tb_fl 12 58 = some (12, 11))
theorem lf_12_55 {L : Nat} {xs : Nat → Int32} : ig_fT (tb_G L xs) 12 55 = some (12, 12) := (by decide +kernel : tb_find tb_fl 12 55 = some (12, 12))
theorem lf_12_61 {L : Nat} {xs : Nat → Int32} : ig_fT (tb_G L xs) 12 61 = some (12, 13) := (by decide +kernel : tb_find tb_fl 12 61 = some (12, 13))
theorem lf_12_64 {L : Nat} {xs : Nat → Int32} : ig_fT (tb_G L xs) 12 64 = some (12, 14) := (by decide +kernel : tb_find tb_fl 12 64 = some (12, 14))
theorem lf_12_75 {L : Nat} {xs : Nat → Int32} : ig_fT (tb_G L xs) 12 75 = some (12, 15) := (by decide +kernel : tb_find tb_fl 12 75 = some (12, 15))
theorem lf_12_78 {L : Nat} {xs : Nat → Int32} : ig_fT (tb_G L xs) 12 78 = some (12, 16) := (by decide +kernel : tb_find tb_fl 12 78 = some (12, 16))
theorem lf_12_33 {L : Nat} {xs : Nat → Int32} : ig_fT (tb_G L xs) 12 33 = some (12, 17) := (by decide +kernel : tb_find tb_fl 12 33 = some (12, 17))
theorem lf_13_113 {L : Nat} {xs : Nat → Int32} : ig_fT (tb_G L xs) 13 113 = some (13, 0) := (by decide +kernel : tb_find tb_fl 13 113 = some (13, 0))
theorem lf_13_119 {L : Nat} {xs : Nat → Int32} : ig_fT (tb_G L xs) 13 119 = some (13, 1) := (by decide +kernel : tb_find tb_fl 13 119 = some (13, 1))
theorem lf_13_122 {L : Nat} {xs : Nat → Int32} : ig_fT (tb_G L xs) 13 122 = some (13, 2) := (by decide +kernel : tb_find tb_fl 13 122 = some (13, 2))
theorem lf_13_149 {L : Nat} {xs : Nat → Int32} : ig_fT (tb_G L xs) 13 149 = some (13, 3) := (by decide +kernel : tb_find tb_fl 13 149 = some (13, 3))
theorem lf_13_125 {L : Nat} {xs : Nat → Int32} : ig_fT (tb_G L xs) 13 125 = some (13, 4) := (by decide +kernel : tb_find tb_fl 13 125 = some (13, 4))
theorem lf_13_157 {L : Nat} {xs : Nat → Int32} : ig_fT (tb_G L xs) 13 157 = some (13, 5) := (by decide +kernel : tb_find tb_fl 13 157 = some (13, 5))
theorem lf_13_128 {L : Nat} {xs : Nat → Int32} : ig_fT (tb_G L xs) 13 128 = some (13, 6) := (by decide +kernel : tb_find tb_fl 13 128 = some (13, 6))
theorem lf_13_131 {L : Nat} {xs : Nat → Int32} : ig_fT (tb_G L xs) 13 131 = some (13, 7) := (by decide +kernel : tb_find tb_fl 13 131 = some (13, 7))
theorem lf_13_188 {L : Nat} {xs : Nat → Int32} : ig_fT (tb_G L xs) 13 188 = some (13, 8) := (by decide +kernel : tb_find tb_fl 13 188 = some (13, 8))
theorem lf_13_134 {L : Nat} {xs : Nat → Int32} : ig_fT (tb_G L xs) 13 134 = some (13, 9) := (by decide +kernel : tb_find tb_fl 13 134 = some (13, 9))
theorem lf_13_202 {L : Nat} {xs : Nat → Int32} : ig_fT (tb_G L xs) 13 202 = some (13, 10) := (by decide +kernel : tb_find tb_fl 13 202 = some (13, 10))
theorem lf_13_137 {L : Nat} {xs : Nat → Int32} : ig_fT (tb_G L xs) 13 137 = some (13, 11) := (by decide +kernel : tb_find tb_fl 13 137 = some (13, 11))
theorem lf_13_140 {L : Nat} {xs : Nat → Int32} : ig_fT (tb_G L xs) 13 140 = some (13, 12) := (by decide +kernel : tb_find tb_fl 13 140 = some (13, 12))
theorem lf_13_143 {L : Nat} {xs : Nat → Int32} : ig_fT (tb_G L xs) 13 143 = some (13, 13) := (by decide +kernel : tb_find tb_fl 13 143 = some (13, 13))
theorem lf_13_270 {L : Nat} {xs : Nat → Int32} : ig_fT (tb_G L xs) 13 270 = some (13, 14) := (by decide +kernel : tb_find tb_fl 13 270 = some (13, 14))
theorem lf_13_266 {L : Nat} {xs : Nat → Int32} : ig_fT (tb_G L xs) 13 266 = some (13, 15) := (by decide +kernel : tb_find tb_fl 13 266 = some (13, 15))
theorem lf_13_146 {L : Nat} {xs : Nat → Int32} : ig_fT (tb_G L xs) 13 146 = some (13, 16) := (by decide +kernel : tb_find tb_fl 13 146 = some (13, 16))
theorem lf_13_250 {L : Nat} {xs : Nat → Int32} : ig_fT (tb_G L xs) 13 250 = some (13, 17) := (by decide +kernel : tb_find tb_fl 13 250 = some (13, 17))
theorem lf_16_73 {L : Nat} {xs : Nat → Int32} : ig_fT (tb_G L xs) 16 73 = some (16, 0) := (by decide +kernel : tb_find tb_fl 16 73 = some (16, 0))
theorem lf_16_7 {L : Nat} {xs : Nat → Int32} : ig_fT (tb_G L xs) 16 7 = some (16, 1) := (by decide +kernel : tb_find tb_fl 16 7 = some (16, 1))
theorem lf_16_13 {L : Nat} {xs : Nat → Int32} : ig_fT (tb_G L xs) 16 13 = some (16, 2) := (by decide +kernel : tb_find tb_fl 16 13 = some (16, 2))
theorem lf_16_16 {L : Nat} {xs : Nat → Int32} : ig_fT (tb_G L xs) 16 16 = some (16, 3) := (by decide +kernel : tb_find tb_fl 16 16 = some (16, 3))
theorem lf_16_77 {L : Nat} {xs : Nat → Int32} : ig_fT (tb_G L xs) 16 77 = some (16, 4) := (by decide +kernel : tb_find tb_fl 16 77 = some (16, 4))
theorem lf_16_19 {L : Nat} {xs : Nat → Int32} : ig_fT (tb_G L xs) 16 19 = some (16, 5) := (by decide +kernel : tb_find tb_fl 16 19 = some (16, 5))
theorem lf_16_22 {L : Nat} {xs : Nat → Int32} : ig_fT (tb_G L xs) 16 22 = some (16, 6) := (by decide +kernel : tb_find tb_fl 16 22 = some (16, 6))
theorem lf_16_229 {L : Nat} {xs : Nat → Int32} : ig_fT (tb_G L xs) 16 229 = some (16, 7) := (by decide +kernel : tb_find tb_fl 16 229 = some (16, 7))
theorem lf_16_163 {L : Nat} {xs : Nat → Int32} : ig_fT (tb_G L xs) 16 163 = some (16, 8) := (by decide +kernel : tb_find tb_fl 16 163 = some (16, 8))
theorem lf_16_246 {L : Nat} {xs : Nat → Int32} : ig_fT (tb_G L xs) 16 246 = some (16, 9) := (by decide +kernel : tb_find tb_fl 16 246 = some (16, 9))
theorem lf_16_25 {L : Nat} {xs : Nat → Int32} : ig_fT (tb_G L xs) 16 25 = some (16, 10) := (by decide +kernel : tb_find tb_fl 16 25 = some (16, 10))
theorem lf_16_28 {L : Nat} {xs : Nat → Int32} : ig_fT (tb_G L xs) 16 28 = some (16, 11) := (by decide +kernel : tb_find tb_fl 16 28 = some (16, 11))
theorem lf_16_31 {L : Nat} {xs : Nat → Int32} : ig_fT (tb_G L xs) 16 31 = some (16, 12) := (by decide +kernel : tb_find tb_fl 16 31 = some (16, 12))
theorem lf_16_127 {L : Nat} {xs : Nat → Int32} : ig_fT (tb_G L xs) 16 127 = some (16, 13) := (by decide +kernel : tb_find tb_fl 16 127 = some (16, 13))
theorem lf_16_34 {L : Nat} {xs : Nat → Int32} : ig_fT (tb_G L xs) 16 34 = some (16, 14) := (by decide +kernel : tb_find tb_fl 16 34 = some (16, 14))
theorem lf_16_37 {L : Nat} {xs : Nat → Int32} : ig_fT (tb_G L xs) 16 37 = some (16, 15) := (by decide +kernel : tb_find tb_fl 16 37 = some (16, 15))
theorem lf_16_121 {L : Nat} {xs : Nat → Int32} : ig_fT (tb_G L xs) 16 121 = some (16, 16) := (by decide +kernel : tb_find tb_fl 16 121 = some (16, 16))
theorem lf_16_40 {L : Nat} {xs : Nat → Int32} : ig_fT (tb_G L xs) 16 40 = some (16, 17) := (by decide +kernel : tb_find tb_fl 16 40 = some (16, 17))
theorem lf_16_43 {L : Nat} {xs : Nat → Int32} : ig_fT (tb_G L xs) 16 43 = some (16, 18) := (by decide +kernel : tb_find tb_fl 16 43 = some (16, 18))
theorem lf_16_124 {L : Nat} {xs : Nat → Int32} : ig_fT (tb_G L xs) 16 124 = some (16, 19) := (by decide +kernel : tb_find tb_fl 16 124 = some (16, 19))
theorem lf_16_46 {L : Nat} {xs : Nat → Int32} : ig_fT (tb_G L xs) 16 46 = some (16, 20) := (by decide +kernel : tb_find tb_fl 16 46 = some (16, 20))
theorem lf_16_49 {L : Nat} {xs : Nat → Int32} : ig_fT (tb_G L xs) 16 49 = some (16, 21) := (by decide +kernel : tb_find tb_fl 16 49 = some (16, 21))
theorem lf_16_52 {L : Nat} {xs : Nat → Int32} : ig_fT (tb_G L xs) 16 52 = some (16, 22) := (by decide +kernel : tb_find tb_fl 16 52 = some (16, 22))
theorem lf_16_55 {L : Nat} {xs : Nat → Int32} : ig_fT (tb_G L xs) 16 55 = some (16, 23) := (by decide +kernel : tb_find tb_fl 16 55 = some (16, 23))
theorem lf_16_58 {L : Nat} {xs : Nat → Int32} : ig_fT (tb_G L xs) 16 58 = some (16, 24) := (by decide +kernel : tb_find tb_fl 16 58 = some (16, 24))
theorem lf_16_61 {L : Nat} {xs : Nat → Int32} : ig_fT (tb_G L xs) 16 61 = some (16, 25) := (by decide +kernel : tb_find tb_fl 16 61 = some (16, 25))
theorem lf_16_64 {L : Nat} {xs : Nat → Int32} : ig_fT (tb_G L xs) 16 64 = some (16, 26) := (by decide +kernel : tb_find tb_fl 16 64 = some (16, 26))
theorem lf_16_67 {L : Nat} {xs : Nat → Int32} : ig_fT (tb_G L xs) 16 67 = some (16, 27) := (by decide +kernel : tb_find tb_fl 16 67 = some (16, 27))
theorem lf_16_288 {L : Nat} {xs : Nat → Int32} : ig_fT (tb_G L xs) 16 288 = some (16, 28) := (by decide +kernel : tb_find tb_fl 16 288 = some (16, 28))
theorem lf_16_279 {L : Nat} {xs : Nat → Int32} : ig_fT (tb_G L xs) 16 279 = some (16, 29) := (by decide +kernel : tb_find tb_fl 16 279 = some (16, 29))
theorem lf_16_282 {L : Nat} {xs : Nat → Int32} : ig_fT (tb_G L xs) 16 282 = some (16, 30) := (by decide +kernel : tb_find tb_fl 16 282 = some (16, 30))
theorem lf_16_285 {L : Nat} {xs : Nat → Int32} : ig_fT (tb_G L xs) 16 285 = some (16, 31) := (by decide +kernel : tb_find tb_fl 16 285 = some (16, 31))
theorem lf_16_303 {L : Nat} {xs : Nat → Int32} : ig_fT (tb_G L xs) 16 303 = some (16, 32) := (by decide +kernel : tb_find tb_fl 16 303 = some (16, 32))
theorem lf_16_70 {L : Nat} {xs : Nat → Int32} : ig_fT (tb_G L xs) 16 70 = some (16, 33) := (by decide +kernel : tb_find tb_fl 16 70 = some (16, 33))
theorem lf_14_35 {L : Nat} {xs : Nat → Int32} : ig_fT (tb_G L xs) 14 35 = some (14, 0) := (by decide +kernel : tb_find tb_fl 14 35 = some (14, 0))
theorem lf_14_7 {L : Nat} {xs : Nat → Int32} : ig_fT (tb_G L xs) 14 7 = some (14, 1) := (by decide +kernel : tb_find tb_fl 14 7 = some (14, 1))
theorem lf_14_13 {L : Nat} {xs : Nat → Int32} : ig_fT (tb_G L xs) 14 13 = some (14, 2) := (by decide +kernel : tb_find tb_fl 14 13 = some (14, 2))
theorem lf_14_17 {L : Nat} {xs : Nat → Int32} : ig_fT (tb_G L xs) 14 17 = some (14, 3) := (by decide +kernel : tb_find tb_fl 14 17 = some (14, 3))
theorem lf_14_22 {L : Nat} {xs : Nat → Int32} : ig_fT (tb_G L xs) 14 22 = some (14, 4) := (by decide +kernel : tb_find tb_fl 14 22 = some (14, 4))
theorem lf_14_26 {L : Nat} {xs : Nat → Int32} : ig_fT (tb_G L xs) 14 26 = some (14, 5) := (by decide +kernel : tb_find tb_fl 14 26 = some (14, 5))
theorem lf_14_85 {L : Nat} {xs : Nat → Int32} : ig_fT (tb_G L xs) 14 85 = some (14, 6) := (by decide +kernel : tb_find tb_fl 14 85 = some (14, 6))
theorem lf_14_29 {L : Nat} {xs : Nat → Int32} : ig_fT (tb_G L xs) 14 29 = some (14, 7) := (by decide +kernel : tb_find tb_fl 14 29 = some (14, 7))
theorem lf_14_38 {L : Nat} {xs : Nat → Int32} : ig_fT (tb_G L xs) 14 38 = some (14, 8) := (by decide +kernel : tb_find tb_fl 14 38 = some (14, 8))
theorem lf_14_32 {L : Nat} {xs : Nat → Int32} : ig_fT (tb_G L xs) 14 32 = some (14, 9) := (by decide +kernel : tb_find tb_fl 14 32 = some (14, 9))
theorem lf_14_41 {L : Nat} {xs : Nat → Int32} : ig_fT (tb_G L xs) 14 41 = some (14, 10) := (by decide +kernel : tb_find tb_fl 14 41 = some (14, 10))
theorem lf_17_58 {L : Nat} {xs : Nat → Int32} : ig_fT (tb_G L xs) 17 58 = some (17, 0) := (by decide +kernel : tb_find tb_fl 17 58 = some (17, 0))
theorem lf_17_7 {L : Nat} {xs : Nat → Int32} : ig_fT (tb_G L xs) 17 7 = some (17, 1) := (by decide +kernel : tb_find tb_fl 17 7 = some (17, 1))
theorem lf_17_61 {L : Nat} {xs : Nat → Int32} : ig_fT (tb_G L xs) 17 61 = some (17, 2) := (by decide +kernel : tb_find tb_fl 17 61 = some (17, 2))
theorem lf_17_16 {L : Nat} {xs : Nat → Int32} : ig_fT (tb_G L xs) 17 16 = some (17, 3) := (by decide +kernel : tb_find tb_fl 17 16 = some (17, 3))
theorem lf_17_23 {L : Nat} {xs : Nat → Int32} : ig_fT (tb_G L xs) 17 23 = some (17, 4) := (by decide +kernel : tb_find tb_fl 17 23 = some (17, 4))
theorem lf_17_30 {L : Nat} {xs : Nat → Int32} : ig_fT (tb_G L xs) 17 30 = some (17, 5) := (by decide +kernel : tb_find tb_fl 17 30 = some (17, 5))
theorem lf_17_37 {L : Nat} {xs : Nat → Int32} : ig_fT (tb_G L xs) 17 37 = some (17, 6) := (by decide +kernel : tb_find tb_fl 17 37 = some (17, 6))
theorem lf_17_44 {L : Nat} {xs : Nat → Int32} : ig_fT (tb_G L xs) 17 44 = some (17, 7) := (by decide +kernel : tb_find tb_fl 17 44 = some (17, 7))
theorem lf_17_48 {L : Nat} {xs : Nat → Int32} : ig_fT (tb_G L xs) 17 48 = some (17, 8) := (by decide +kernel : tb_find tb_fl 17 48 = some (17, 8))
theorem lf_17_197 {L : Nat} {xs : Nat → Int32} : ig_fT (tb_G L xs) 17 197 = some (17, 9) := (by decide +kernel : tb_find tb_fl 17 197 = some (17, 9))
theorem lf_17_51 {L : Nat} {xs : Nat → Int32} : ig_fT (tb_G L xs) 17 51 = some (17, 10) := (by decide +kernel : tb_find tb_fl 17 51 = some (17, 10))
theorem lf_17_55 {L : Nat} {xs : Nat → Int32} : ig_fT (tb_G L xs) 17 55 = some (17, 11) := (by decide +kernel : tb_find tb_fl 17 55 = some (17, 11))
theorem lf_17_229 {L : Nat} {xs : Nat → Int32} : ig_fT (tb_G L xs) 17 229 = some (17, 12) := (by decide +kernel : tb_find tb_fl 17 229 = some (17, 12))
theorem lc_18_67 {L : Nat} {xs : Nat → Int32} : ig_cal (tb_G L xs) 18 67 = some 0 := (by decide +kernel : tb_cal 18 67 = some 0)
theorem lc_11_18 {L : Nat} {xs : Nat → Int32} : ig_cal (tb_G L xs) 11 18 = some 2 := (by decide +kernel : tb_cal 11 18 = some 2)
theorem lc_11_27 {L : Nat} {xs : Nat → Int32} : ig_cal (tb_G L xs) 11 27 = some 3 := (by decide +kernel : tb_cal 11 27 = some 3)
theorem lc_8_37 {L : Nat} {xs : Nat → Int32} : ig_cal (tb_G L xs) 8 37 = some 2 := (by decide +kernel : tb_cal 8 37 = some 2)
theorem lc_4_20 {L : Nat} {xs : Nat → Int32} : ig_cal (tb_G L xs) 4 20 = some 9 := (by decide +kernel : tb_cal 4 20 = some 9)
theorem lc_11_57 {L : Nat} {xs : Nat → Int32} : ig_cal (tb_G L xs) 11 57 = some 10 := (by decide +kernel : tb_cal 11 57 = some 10)
theorem lc_11_66 {L : Nat} {xs : Nat → Int32} : ig_cal (tb_G L xs) 11 66 = some 11 := (by decide +kernel : tb_cal 11 66 = some 11)
theorem lc_18_83 {L : Nat} {xs : Nat → Int32} : ig_cal (tb_G L xs) 18 83 = some 12 := (by decide +kernel : tb_cal 18 83 = some 12)
theorem lc_18_94 {L : Nat} {xs : Nat → Int32} : ig_cal (tb_G L xs) 18 94 = some 13 := (by decide +kernel : tb_cal 18 94 = some 13)
theorem lc_11_109 {L : Nat} {xs : Nat → Int32} : ig_cal (tb_G L xs) 11 109 = some 14 := (by decide +kernel : tb_cal 11 109 = some 14)
theorem lc_8_69 {L : Nat} {xs : Nat → Int32} : ig_cal (tb_G L xs) 8 69 = some 15 := (by decide +kernel : tb_cal 8 69 = some 15)
theorem lc_8_72 {L : Nat} {xs : Nat → Int32} : ig_cal (tb_G L xs) 8 72 = some 16 := (by decide +kernel : tb_cal 8 72 = some 16)
theorem lc_10_47 {L : Nat} {xs : Nat → Int32} : ig_cal (tb_G L xs) 10 47 = some 17 := (by decide +kernel : tb_cal 10 47 = some 17)
theorem lc_10_51 {L : Nat} {xs : Nat → Int32} : ig_cal (tb_G L xs) 10 51 = some 18 := (by decide +kernel : tb_cal 10 51 = some 18)
theorem lc_8_75 {L : Nat} {xs : Nat → Int32} : ig_cal (tb_G L xs) 8 75 = some 17 := (by decide +kernel : tb_cal 8 75 = some 17)
theorem lc_8_85 {L : Nat} {xs : Nat → Int32} : ig_cal (tb_G L xs) 8 85 = some 18 := (by decide +kernel : tb_cal 8 85 = some 18)
theorem lc_8_88 {L : Nat} {xs : Nat → Int32} : ig_cal (tb_G L xs) 8 88 = some 19 := (by decide +kernel : tb_cal 8 88 = some 19)
theorem lc_8_93 {L : Nat} {xs : Nat → Int32} : ig_cal (tb_G L xs) 8 93 = some 20 := (by decide +kernel : tb_cal 8 93 = some 20)
theorem lc_19_633 {L : Nat} {xs : Nat → Int32} : ig_cal (tb_G L xs) 19 633 = some 21 := (by decide +kernel : tb_cal 19 633 = some 21)
theorem lc_19_492 {L : Nat} {xs : Nat → Int32} : ig_cal (tb_G L xs) 19 492 = some 22 := (by decide +kernel : tb_cal 19 492 = some 22)
theorem lc_19_505 {L : Nat} {xs : Nat → Int32} : ig_cal (tb_G L xs) 19 505 = some 23 := (by decide +kernel : tb_cal 19 505 = some 23)
theorem lc_19_335 {L : Nat} {xs : Nat → Int32} : ig_cal (tb_G L xs) 19 335 = some 24 := (by decide +kernel : tb_cal 19 335 = some 24)
theorem lc_19_637 {L : Nat} {xs : Nat → Int32} : ig_cal (tb_G L xs) 19 637 = some 25 := (by decide +kernel : tb_cal 19 637 = some 25)
theorem lc_20_88 {L : Nat} {xs : Nat → Int32} : ig_cal (tb_G L xs) 20 88 = some 26 := (by decide +kernel : tb_cal 20 88 = some 26)
theorem lc_20_92 {L : Nat} {xs : Nat → Int32} : ig_cal (tb_G L xs) 20 92 = some 27 := (by decide +kernel : tb_cal 20 92 = some 27)
theorem lc_20_38 {L : Nat} {xs : Nat → Int32} : ig_cal (tb_G L xs) 20 38 = some 28 := (by decide +kernel : tb_cal 20 38 = some 28)
theorem lc_20_95 {L : Nat} {xs : Nat → Int32} : ig_cal (tb_G L xs) 20 95 = some 29 := (by decide +kernel : tb_cal 20 95 = some 29)
theorem lc_8_99 {L : Nat} {xs : Nat → Int32} : ig_cal (tb_G L xs) 8 99 = some 31 := (by decide +kernel : tb_cal 8 99 = some 31)
theorem lc_8_103 {L : Nat} {xs : Nat → Int32} : ig_cal (tb_G L xs) 8 103 = some 32 := (by decide +kernel : tb_cal 8 103 = some 32)
theorem lc_8_106 {L : Nat} {xs : Nat → Int32} : ig_cal (tb_G L xs) 8 106 = some 33 := (by decide +kernel : tb_cal 8 106 = some 33)
theorem lc_10_54 {L : Nat} {xs : Nat → Int32} : ig_cal (tb_G L xs) 10 54 = some 34 := (by decide +kernel : tb_cal 10 54 = some 34)
theorem lc_10_58 {L : Nat} {xs : Nat → Int32} : ig_cal (tb_G L xs) 10 58 = some 35 := (by decide +kernel : tb_cal 10 58 = some 35)
theorem lc_8_113 {L : Nat} {xs : Nat → Int32} : ig_cal (tb_G L xs) 8 113 = some 36 := (by decide +kernel : tb_cal 8 113 = some 36)
theorem lc_8_116 {L : Nat} {xs : Nat → Int32} : ig_cal (tb_G L xs) 8 116 = some 37 := (by decide +kernel : tb_cal 8 116 = some 37)
theorem lc_8_119 {L : Nat} {xs : Nat → Int32} : ig_cal (tb_G L xs) 8 119 = some 38 := (by decide +kernel : tb_cal 8 119 = some 38)
theorem lc_10_64 {L : Nat} {xs : Nat → Int32} : ig_cal (tb_G L xs) 10 64 = some 39 := (by decide +kernel : tb_cal 10 64 = some 39)
theorem lc_10_67 {L : Nat} {xs : Nat → Int32} : ig_cal (tb_G L xs) 10 67 = some 40 := (by decide +kernel : tb_cal 10 67 = some 40)
theorem lc_8_122 {L : Nat} {xs : Nat → Int32} : ig_cal (tb_G L xs) 8 122 = some 41 := (by decide +kernel : tb_cal 8 122 = some 41)
theorem lc_8_137 {L : Nat} {xs : Nat → Int32} : ig_cal (tb_G L xs) 8 137 = some 42 := (by decide +kernel : tb_cal 8 137 = some 42)
theorem lc_8_143 {L : Nat} {xs : Nat → Int32} : ig_cal (tb_G L xs) 8 143 = some 43 := (by decide +kernel : tb_cal 8 143 = some 43)
theorem lc_2_108 {L : Nat} {xs : Nat → Int32} : ig_cal (tb_G L xs) 2 108 = some 44 := (by decide +kernel : tb_cal 2 108 = some 44)
theorem lc_2_111 {L : Nat} {xs : Nat → Int32} : ig_cal (tb_G L xs) 2 111 = some 45 := (by decide +kernel : tb_cal 2 111 = some 45)
theorem lc_2_115 {L : Nat} {xs : Nat → Int32} : ig_cal (tb_G L xs) 2 115 = some 46 := (by decide +kernel : tb_cal 2 115 = some 46)
theorem lc_8_146 {L : Nat} {xs : Nat → Int32} : ig_cal (tb_G L xs) 8 146 = some 47 := (by decide +kernel : tb_cal 8 146 = some 47)
theorem lc_2_56 {L : Nat} {xs : Nat → Int32} : ig_cal (tb_G L xs) 2 56 = some 35 := (by decide +kernel : tb_cal 2 56 = some 35)
theorem lc_2_60 {L : Nat} {xs : Nat → Int32} : ig_cal (tb_G L xs) 2 60 = some 48 := (by decide +kernel : tb_cal 2 60 = some 48)
theorem lc_2_64 {L : Nat} {xs : Nat → Int32} : ig_cal (tb_G L xs) 2 64 = some 49 := (by decide +kernel : tb_cal 2 64 = some 49)
theorem lc_2_67 {L : Nat} {xs : Nat → Int32} : ig_cal (tb_G L xs) 2 67 = some 40 := (by decide +kernel : tb_cal 2 67 = some 40)
theorem lc_8_149 {L : Nat} {xs : Nat → Int32} : ig_cal (tb_G L xs) 8 149 = some 50 := (by decide +kernel : tb_cal 8 149 = some 50)
theorem lc_2_71 {L : Nat} {xs : Nat → Int32} : ig_cal (tb_G L xs) 2 71 = some 51 := (by decide +kernel : tb_cal 2 71 = some 51)
theorem lc_2_90 {L : Nat} {xs : Nat → Int32} : ig_cal (tb_G L xs) 2 90 = some 52 := (by decide +kernel : tb_cal 2 90 = some 52)
theorem lc_5_20 {L : Nat} {xs : Nat → Int32} : ig_cal (tb_G L xs) 5 20 = some 53 := (by decide +kernel : tb_cal 5 20 = some 53)
theorem lc_22_13 {L : Nat} {xs : Nat → Int32} : ig_cal (tb_G L xs) 22 13 = some 54 := (by decide +kernel : tb_cal 22 13 = some 54)
theorem lc_22_304 {L : Nat} {xs : Nat → Int32} : ig_cal (tb_G L xs) 22 304 = some 28 := (by decide +kernel : tb_cal 22 304 = some 28)
theorem lc_19_106 {L : Nat} {xs : Nat → Int32} : ig_cal (tb_G L xs) 19 106 = some 56 := (by decide +kernel : tb_cal 19 106 = some 56)
theorem lc_19_54 {L : Nat} {xs : Nat → Int32} : ig_cal (tb_G L xs) 19 54 = some 61 := (by decide +kernel : tb_cal 19 54 = some 61)
theorem lc_22_339 {L : Nat} {xs : Nat → Int32} : ig_cal (tb_G L xs) 22 339 = some 62 := (by decide +kernel : tb_cal 22 339 = some 62)
theorem lc_22_343 {L : Nat} {xs : Nat → Int32} : ig_cal (tb_G L xs) 22 343 = some 63 := (by decide +kernel : tb_cal 22 343 = some 63)
theorem lc_2_101 {L : Nat} {xs : Nat → Int32} : ig_cal (tb_G L xs) 2 101 = some 64 := (by decide +kernel : tb_cal 2 101 = some 64)
theorem lc_2_94 {L : Nat} {xs : Nat → Int32} : ig_cal (tb_G L xs) 2 94 = some 65 := (by decide +kernel : tb_cal 2 94 = some 65)
theorem lc_2_98 {L : Nat} {xs : Nat → Int32} : ig_cal (tb_G L xs) 2 98 = some 66 := (by decide +kernel : tb_cal 2 98 = some 66)
theorem lc_2_75 {L : Nat} {xs : Nat → Int32} : ig_cal (tb_G L xs) 2 75 = some 67 := (by decide +kernel : tb_cal 2 75 = some 67)
theorem lc_2_87 {L : Nat} {xs : Nat → Int32} : ig_cal (tb_G L xs) 2 87 = some 68 := (by decide +kernel : tb_cal 2 87 = some 68)
theorem lc_8_159 {L : Nat} {xs : Nat → Int32} : ig_cal (tb_G L xs) 8 159 = some 69 := (by decide +kernel : tb_cal 8 159 = some 69)
theorem lc_8_125 {L : Nat} {xs : Nat → Int32} : ig_cal (tb_G L xs) 8 125 = some 70 := (by decide +kernel : tb_cal 8 125 = some 70)
theorem lc_8_165 {L : Nat} {xs : Nat → Int32} : ig_cal (tb_G L xs) 8 165 = some 71 := (by decide +kernel : tb_cal 8 165 = some 71)
theorem lc_8_169 {L : Nat} {xs : Nat → Int32} : ig_cal (tb_G L xs) 8 169 = some 72 := (by decide +kernel : tb_cal 8 169 = some 72)
theorem lc_8_222 {L : Nat} {xs : Nat → Int32} : ig_cal (tb_G L xs) 8 222 = some 73 := (by decide +kernel : tb_cal 8 222 = some 73)
theorem lc_8_172 {L : Nat} {xs : Nat → Int32} : ig_cal (tb_G L xs) 8 172 = some 74 := (by decide +kernel : tb_cal 8 172 = some 74)
theorem lc_8_175 {L : Nat} {xs : Nat → Int32} : ig_cal (tb_G L xs) 8 175 = some 75 := (by decide +kernel : tb_cal 8 175 = some 75)
theorem lc_8_238 {L : Nat} {xs : Nat → Int32} : ig_cal (tb_G L xs) 8 238 = some 76 := (by decide +kernel : tb_cal 8 238 = some 76)
theorem lc_5_36 {L : Nat} {xs : Nat → Int32} : ig_cal (tb_G L xs) 5 36 = some 77 := (by decide +kernel : tb_cal 5 36 = some 77)
theorem lc_5_40 {L : Nat} {xs : Nat → Int32} : ig_cal (tb_G L xs) 5 40 = some 78 := (by decide +kernel : tb_cal 5 40 = some 78)
theorem lc_5_52 {L : Nat} {xs : Nat → Int32} : ig_cal (tb_G L xs) 5 52 = some 79 := (by decide +kernel : tb_cal 5 52 = some 79)
theorem lc_5_44 {L : Nat} {xs : Nat → Int32} : ig_cal (tb_G L xs) 5 44 = some 40 := (by decide +kernel : tb_cal 5 44 = some 40)
theorem lc_8_184 {L : Nat} {xs : Nat → Int32} : ig_cal (tb_G L xs) 8 184 = some 80 := (by decide +kernel : tb_cal 8 184 = some 80)
theorem lc_8_187 {L : Nat} {xs : Nat → Int32} : ig_cal (tb_G L xs) 8 187 = some 81 := (by decide +kernel : tb_cal 8 187 = some 81)
theorem lc_8_206 {L : Nat} {xs : Nat → Int32} : ig_cal (tb_G L xs) 8 206 = some 82 := (by decide +kernel : tb_cal 8 206 = some 82)
theorem lc_8_228 {L : Nat} {xs : Nat → Int32} : ig_cal (tb_G L xs) 8 228 = some 83 := (by decide +kernel : tb_cal 8 228 = some 83)
theorem lc_11_113 {L : Nat} {xs : Nat → Int32} : ig_cal (tb_G L xs) 11 113 = some 84 := (by decide +kernel : tb_cal 11 113 = some 84)
theorem lc_18_98 {L : Nat} {xs : Nat → Int32} : ig_cal (tb_G L xs) 18 98 = some 85 := (by decide +kernel : tb_cal 18 98 = some 85)
theorem lc_18_102 {L : Nat} {xs : Nat → Int32} : ig_cal (tb_G L xs) 18 102 = some 86 := (by decide +kernel : tb_cal 18 102 = some 86)
theorem lc_18_120 {L : Nat} {xs : Nat → Int32} : ig_cal (tb_G L xs) 18 120 = some 87 := (by decide +kernel : tb_cal 18 120 = some 87)
theorem lc_18_124 {L : Nat} {xs : Nat → Int32} : ig_cal (tb_G L xs) 18 124 = some 88 := (by decide +kernel : tb_cal 18 124 = some 88)
theorem lc_11_156 {L : Nat} {xs : Nat → Int32} : ig_cal (tb_G L xs) 11 156 = some 89 := (by decide +kernel : tb_cal 11 156 = some 89)
theorem lc_18_136 {L : Nat} {xs : Nat → Int32} : ig_cal (tb_G L xs) 18 136 = some 90 := (by decide +kernel : tb_cal 18 136 = some 90)
theorem lc_11_178 {L : Nat} {xs : Nat → Int32} : ig_cal (tb_G L xs) 11 178 = some 91 := (by decide +kernel : tb_cal 11 178 = some 91)
theorem lc_9_55 {L : Nat} {xs : Nat → Int32} : ig_cal (tb_G L xs) 9 55 = some 92 := (by decide +kernel : tb_cal 9 55 = some 92)
theorem lc_18_161 {L : Nat} {xs : Nat → Int32} : ig_cal (tb_G L xs) 18 161 = some 93 := (by decide +kernel : tb_cal 18 161 = some 93)
theorem lc_11_138 {L : Nat} {xs : Nat → Int32} : ig_cal (tb_G L xs) 11 138 = some 94 := (by decide +kernel : tb_cal 11 138 = some 94)
theorem lc_18_7 {L : Nat} {xs : Nat → Int32} : ig_cal (tb_G L xs) 18 7 = some 95 := (by decide +kernel : tb_cal 18 7 = some 95)
theorem lc_11_87 {L : Nat} {xs : Nat → Int32} : ig_cal (tb_G L xs) 11 87 = some 96 := (by decide +kernel : tb_cal 11 87 = some 96)
theorem lc_18_15 {L : Nat} {xs : Nat → Int32} : ig_cal (tb_G L xs) 18 15 = some 97 := (by decide +kernel : tb_cal 18 15 = some 97)
theorem lc_11_95 {L : Nat} {xs : Nat → Int32} : ig_cal (tb_G L xs) 11 95 = some 98 := (by decide +kernel : tb_cal 11 95 = some 98)
theorem lc_6_31 {L : Nat} {xs : Nat → Int32} : ig_cal (tb_G L xs) 6 31 = some 53 := (by decide +kernel : tb_cal 6 31 = some 53)
theorem lc_18_19 {L : Nat} {xs : Nat → Int32} : ig_cal (tb_G L xs) 18 19 = some 99 := (by decide +kernel : tb_cal 18 19 = some 99)
theorem lc_11_99 {L : Nat} {xs : Nat → Int32} : ig_cal (tb_G L xs) 11 99 = some 100 := (by decide +kernel : tb_cal 11 99 = some 100)
theorem lc_11_106 {L : Nat} {xs : Nat → Int32} : ig_cal (tb_G L xs) 11 106 = some 101 := (by decide +kernel : tb_cal 11 106 = some 101)
theorem lc_18_24 {L : Nat} {xs : Nat → Int32} : ig_cal (tb_G L xs) 18 24 = some 102 := (by decide +kernel : tb_cal 18 24 = some 102)
theorem lc_18_28 {L : Nat} {xs : Nat → Int32} : ig_cal (tb_G L xs) 18 28 = some 103 := (by decide +kernel : tb_cal 18 28 = some 103)
theorem lc_11_131 {L : Nat} {xs : Nat → Int32} : ig_cal (tb_G L xs) 11 131 = some 77 := (by decide +kernel : tb_cal 11 131 = some 77)
theorem lc_18_31 {L : Nat} {xs : Nat → Int32} : ig_cal (tb_G L xs) 18 31 = some 104 := (by decide +kernel : tb_cal 18 31 = some 104)
theorem lc_18_35 {L : Nat} {xs : Nat → Int32} : ig_cal (tb_G L xs) 18 35 = some 105 := (by decide +kernel : tb_cal 18 35 = some 105)
theorem lc_11_142 {L : Nat} {xs : Nat → Int32} : ig_cal (tb_G L xs) 11 142 = some 106 := (by decide +kernel : tb_cal 11 142 = some 106)
theorem lc_9_25 {L : Nat} {xs : Nat → Int32} : ig_cal (tb_G L xs) 9 25 = some 107 := (by decide +kernel : tb_cal 9 25 = some 107)
theorem lc_11_152 {L : Nat} {xs : Nat → Int32} : ig_cal (tb_G L xs) 11 152 = some 108 := (by decide +kernel : tb_cal 11 152 = some 108)
theorem lc_6_39 {L : Nat} {xs : Nat → Int32} : ig_cal (tb_G L xs) 6 39 = some 77 := (by decide +kernel : tb_cal 6 39 = some 77)
theorem lc_6_62 {L : Nat} {xs : Nat → Int32} : ig_cal (tb_G L xs) 6 62 = some 109 := (by decide +kernel : tb_cal 6 62 = some 109)
theorem lc_6_111 {L : Nat} {xs : Nat → Int32} : ig_cal (tb_G L xs) 6 111 = some 110 := (by decide +kernel : tb_cal 6 111 = some 110)
theorem lc_6_114 {L : Nat} {xs : Nat → Int32} : ig_cal (tb_G L xs) 6 114 = some 111 := (by decide +kernel : tb_cal 6 114 = some 111)
theorem lc_6_118 {L : Nat} {xs : Nat → Int32} : ig_cal (tb_G L xs) 6 118 = some 112 := (by decide +kernel : tb_cal 6 118 = some 112)
theorem lc_6_107 {L : Nat} {xs : Nat → Int32} : ig_cal (tb_G L xs) 6 107 = some 113 := (by decide +kernel : tb_cal 6 107 = some 113)
theorem lc_9_31 {L : Nat} {xs : Nat → Int32} : ig_cal (tb_G L xs) 9 31 = some 27 := (by decide +kernel : tb_cal 9 31 = some 27)
theorem lc_9_37 {L : Nat} {xs : Nat → Int32} : ig_cal (tb_G L xs) 9 37 = some 28 := (by decide +kernel : tb_cal 9 37 = some 28)
theorem lc_9_45 {L : Nat} {xs : Nat → Int32} : ig_cal (tb_G L xs) 9 45 = some 114 := (by decide +kernel : tb_cal 9 45 = some 114)
theorem lc_6_70 {L : Nat} {xs : Nat → Int32} : ig_cal (tb_G L xs) 6 70 = some 115 := (by decide +kernel : tb_cal 6 70 = some 115)
theorem lc_0_36 {L : Nat} {xs : Nat → Int32} : ig_cal (tb_G L xs) 0 36 = some 116 := (by decide +kernel : tb_cal 0 36 = some 116)
theorem lc_0_45 {L : Nat} {xs : Nat → Int32} : ig_cal (tb_G L xs) 0 45 = some 53 := (by decide +kernel : tb_cal 0 45 = some 53)
theorem lc_0_51 {L : Nat} {xs : Nat → Int32} : ig_cal (tb_G L xs) 0 51 = some 117 := (by decide +kernel : tb_cal 0 51 = some 117)
theorem lc_0_60 {L : Nat} {xs : Nat → Int32} : ig_cal (tb_G L xs) 0 60 = some 118 := (by decide +kernel : tb_cal 0 60 = some 118)
theorem lc_0_66 {L : Nat} {xs : Nat → Int32} : ig_cal (tb_G L xs) 0 66 = some 119 := (by decide +kernel : tb_cal 0 66 = some 119)
theorem lc_0_69 {L : Nat} {xs : Nat → Int32} : ig_cal (tb_G L xs) 0 69 = some 120 := (by decide +kernel : tb_cal 0 69 = some 120)
theorem lc_0_63 {L : Nat} {xs : Nat → Int32} : ig_cal (tb_G L xs) 0 63 = some 121 := (by decide +kernel : tb_cal 0 63 = some 121)
theorem lc_0_55 {L : Nat} {xs : Nat → Int32} : ig_cal (tb_G L xs) 0 55 = some 28 := (by decide +kernel : tb_cal 0 55 = some 28)
theorem lc_0_39 {L : Nat} {xs : Nat → Int32} : ig_cal (tb_G L xs) 0 39 = some 122 := (by decide +kernel : tb_cal 0 39 = some 122)
theorem lc_0_76 {L : Nat} {xs : Nat → Int32} : ig_cal (tb_G L xs) 0 76 = some 123 := (by decide +kernel : tb_cal 0 76 = some 123)
theorem lc_0_79 {L : Nat} {xs : Nat → Int32} : ig_cal (tb_G L xs) 0 79 = some 124 := (by decide +kernel : tb_cal 0 79 = some 124)
theorem lc_0_83 {L : Nat} {xs : Nat → Int32} : ig_cal (tb_G L xs) 0 83 = some 125 := (by decide +kernel : tb_cal 0 83 = some 125)
theorem lc_0_42 {L : Nat} {xs : Nat → Int32} : ig_cal (tb_G L xs) 0 42 = some 126 := (by decide +kernel : tb_cal 0 42 = some 126)
theorem lc_0_93 {L : Nat} {xs : Nat → Int32} : ig_cal (tb_G L xs) 0 93 = some 127 := (by decide +kernel : tb_cal 0 93 = some 127)
theorem lc_6_76 {L : Nat} {xs : Nat → Int32} : ig_cal (tb_G L xs) 6 76 = some 128 := (by decide +kernel : tb_cal 6 76 = some 128)
theorem lc_6_80 {L : Nat} {xs : Nat → Int32} : ig_cal (tb_G L xs) 6 80 = some 129 := (by decide +kernel : tb_cal 6 80 = some 129)
theorem lc_0_99 {L : Nat} {xs : Nat → Int32} : ig_cal (tb_G L xs) 0 99 = some 130 := (by decide +kernel : tb_cal 0 99 = some 130)
theorem lc_0_102 {L : Nat} {xs : Nat → Int32} : ig_cal (tb_G L xs) 0 102 = some 131 := (by decide +kernel : tb_cal 0 102 = some 131)
theorem lc_6_84 {L : Nat} {xs : Nat → Int32} : ig_cal (tb_G L xs) 6 84 = some 132 := (by decide +kernel : tb_cal 6 84 = some 132)
theorem lc_4_32 {L : Nat} {xs : Nat → Int32} : ig_cal (tb_G L xs) 4 32 = some 133 := (by decide +kernel : tb_cal 4 32 = some 133)
theorem lc_7_24 {L : Nat} {xs : Nat → Int32} : ig_cal (tb_G L xs) 7 24 = some 134 := (by decide +kernel : tb_cal 7 24 = some 134)
theorem lc_7_28 {L : Nat} {xs : Nat → Int32} : ig_cal (tb_G L xs) 7 28 = some 135 := (by decide +kernel : tb_cal 7 28 = some 135)
theorem lc_7_49 {L : Nat} {xs : Nat → Int32} : ig_cal (tb_G L xs) 7 49 = some 53 := (by decide +kernel : tb_cal 7 49 = some 53)
theorem lc_7_55 {L : Nat} {xs : Nat → Int32} : ig_cal (tb_G L xs) 7 55 = some 136 := (by decide +kernel : tb_cal 7 55 = some 136)
theorem lc_7_65 {L : Nat} {xs : Nat → Int32} : ig_cal (tb_G L xs) 7 65 = some 137 := (by decide +kernel : tb_cal 7 65 = some 137)
theorem lc_7_44 {L : Nat} {xs : Nat → Int32} : ig_cal (tb_G L xs) 7 44 = some 20 := (by decide +kernel : tb_cal 7 44 = some 20)
theorem lc_7_59 {L : Nat} {xs : Nat → Int32} : ig_cal (tb_G L xs) 7 59 = some 138 := (by decide +kernel : tb_cal 7 59 = some 138)
theorem lc_7_32 {L : Nat} {xs : Nat → Int32} : ig_cal (tb_G L xs) 7 32 = some 139 := (by decide +kernel : tb_cal 7 32 = some 139)
theorem lc_1_43 {L : Nat} {xs : Nat → Int32} : ig_cal (tb_G L xs) 1 43 = some 140 := (by decide +kernel : tb_cal 1 43 = some 140)
theorem lc_7_38 {L : Nat} {xs : Nat → Int32} : ig_cal (tb_G L xs) 7 38 = some 141 := (by decide +kernel : tb_cal 7 38 = some 141)
theorem lc_7_78 {L : Nat} {xs : Nat → Int32} : ig_cal (tb_G L xs) 7 78 = some 142 := (by decide +kernel : tb_cal 7 78 = some 142)
theorem lc_7_85 {L : Nat} {xs : Nat → Int32} : ig_cal (tb_G L xs) 7 85 = some 143 := (by decide +kernel : tb_cal 7 85 = some 143)
theorem lc_7_89 {L : Nat} {xs : Nat → Int32} : ig_cal (tb_G L xs) 7 89 = some 144 := (by decide +kernel : tb_cal 7 89 = some 144)
theorem lc_7_93 {L : Nat} {xs : Nat → Int32} : ig_cal (tb_G L xs) 7 93 = some 28 := (by decide +kernel : tb_cal 7 93 = some 28)
theorem lc_7_98 {L : Nat} {xs : Nat → Int32} : ig_cal (tb_G L xs) 7 98 = some 145 := (by decide +kernel : tb_cal 7 98 = some 145)
theorem lc_7_101 {L : Nat} {xs : Nat → Int32} : ig_cal (tb_G L xs) 7 101 = some 146 := (by decide +kernel : tb_cal 7 101 = some 146)
theorem lc_4_39 {L : Nat} {xs : Nat → Int32} : ig_cal (tb_G L xs) 4 39 = some 147 := (by decide +kernel : tb_cal 4 39 = some 147)
theorem lc_1_73 {L : Nat} {xs : Nat → Int32} : ig_cal (tb_G L xs) 1 73 = some 148 := (by decide +kernel : tb_cal 1 73 = some 148)
theorem lc_1_60 {L : Nat} {xs : Nat → Int32} : ig_cal (tb_G L xs) 1 60 = some 139 := (by decide +kernel : tb_cal 1 60 = some 139)
theorem lc_1_77 {L : Nat} {xs : Nat → Int32} : ig_cal (tb_G L xs) 1 77 = some 149 := (by decide +kernel : tb_cal 1 77 = some 149)
theorem lc_1_87 {L : Nat} {xs : Nat → Int32} : ig_cal (tb_G L xs) 1 87 = some 150 := (by decide +kernel : tb_cal 1 87 = some 150)
theorem lc_1_93 {L : Nat} {xs : Nat → Int32} : ig_cal (tb_G L xs) 1 93 = some 151 := (by decide +kernel : tb_cal 1 93 = some 151)
theorem lc_1_70 {L : Nat} {xs : Nat → Int32} : ig_cal (tb_G L xs) 1 70 = some 152 := (by decide +kernel : tb_cal 1 70 = some 152)
theorem lc_1_80 {L : Nat} {xs : Nat → Int32} : ig_cal (tb_G L xs) 1 80 = some 153 := (by decide +kernel : tb_cal 1 80 = some 153)
theorem lc_1_83 {L : Nat} {xs : Nat → Int32} : ig_cal (tb_G L xs) 1 83 = some 154 := (by decide +kernel : tb_cal 1 83 = some 154)
theorem lc_1_96 {L : Nat} {xs : Nat → Int32} : ig_cal (tb_G L xs) 1 96 = some 53 := (by decide +kernel : tb_cal 1 96 = some 53)
theorem lc_4_43 {L : Nat} {xs : Nat → Int32} : ig_cal (tb_G L xs) 4 43 = some 155 := (by decide +kernel : tb_cal 4 43 = some 155)
theorem lc_4_77 {L : Nat} {xs : Nat → Int32} : ig_cal (tb_G L xs) 4 77 = some 142 := (by decide +kernel : tb_cal 4 77 = some 142)
theorem lc_4_83 {L : Nat} {xs : Nat → Int32} : ig_cal (tb_G L xs) 4 83 = some 156 := (by decide +kernel : tb_cal 4 83 = some 156)
theorem lc_4_87 {L : Nat} {xs : Nat → Int32} : ig_cal (tb_G L xs) 4 87 = some 157 := (by decide +kernel : tb_cal 4 87 = some 157)
theorem lc_4_97 {L : Nat} {xs : Nat → Int32} : ig_cal (tb_G L xs) 4 97 = some 158 := (by decide +kernel : tb_cal 4 97 = some 158)
theorem lc_4_102 {L : Nat} {xs : Nat → Int32} : ig_cal (tb_G L xs) 4 102 = some 27 := (by decide +kernel : tb_cal 4 102 = some 27)
theorem lc_4_91 {L : Nat} {xs : Nat → Int32} : ig_cal (tb_G L xs) 4 91 = some 159 := (by decide +kernel : tb_cal 4 91 = some 159)
theorem lc_4_106 {L : Nat} {xs : Nat → Int32} : ig_cal (tb_G L xs) 4 106 = some 160 := (by decide +kernel : tb_cal 4 106 = some 160)
theorem lc_4_62 {L : Nat} {xs : Nat → Int32} : ig_cal (tb_G L xs) 4 62 = some 161 := (by decide +kernel : tb_cal 4 62 = some 161)
theorem lc_4_113 {L : Nat} {xs : Nat → Int32} : ig_cal (tb_G L xs) 4 113 = some 162 := (by decide +kernel : tb_cal 4 113 = some 162)
theorem lc_4_109 {L : Nat} {xs : Nat → Int32} : ig_cal (tb_G L xs) 4 109 = some 163 := (by decide +kernel : tb_cal 4 109 = some 163)
theorem lc_4_116 {L : Nat} {xs : Nat → Int32} : ig_cal (tb_G L xs) 4 116 = some 164 := (by decide +kernel : tb_cal 4 116 = some 164)
theorem lc_4_119 {L : Nat} {xs : Nat → Int32} : ig_cal (tb_G L xs) 4 119 = some 165 := (by decide +kernel : tb_cal 4 119 = some 165)
theorem lc_4_94 {L : Nat} {xs : Nat → Int32} : ig_cal (tb_G L xs) 4 94 = some 166 := (by decide +kernel : tb_cal 4 94 = some 166)
theorem lc_4_47 {L : Nat} {xs : Nat → Int32} : ig_cal (tb_G L xs) 4 47 = some 167 := (by decide +kernel : tb_cal 4 47 = some 167)
theorem lc_4_122 {L : Nat} {xs : Nat → Int32} : ig_cal (tb_G L xs) 4 122 = some 168 := (by decide +kernel : tb_cal 4 122 = some 168)
theorem lc_4_126 {L : Nat} {xs : Nat → Int32} : ig_cal (tb_G L xs) 4 126 = some 169 := (by decide +kernel : tb_cal 4 126 = some 169)
theorem lc_4_130 {L : Nat} {xs : Nat → Int32} : ig_cal (tb_G L xs) 4 130 = some 170 := (by decide +kernel : tb_cal 4 130 = some 170)
theorem lc_4_133 {L : Nat} {xs : Nat → Int32} : ig_cal (tb_G L xs) 4 133 = some 171 := (by decide +kernel : tb_cal 4 133 = some 171)
theorem lc_4_137 {L : Nat} {xs : Nat → Int32} : ig_cal (tb_G L xs) 4 137 = some 172 := (by decide +kernel : tb_cal 4 137 = some 172)
theorem lc_4_51 {L : Nat} {xs : Nat → Int32} : ig_cal (tb_G L xs) 4 51 = some 173 := (by decide +kernel : tb_cal 4 51 = some 173)
theorem lc_4_59 {L : Nat} {xs : Nat → Int32} : ig_cal (tb_G L xs) 4 59 = some 174 := (by decide +kernel : tb_cal 4 59 = some 174)
theorem lc_4_141 {L : Nat} {xs : Nat → Int32} : ig_cal (tb_G L xs) 4 141 = some 175 := (by decide +kernel : tb_cal 4 141 = some 175)
theorem lc_4_67 {L : Nat} {xs : Nat → Int32} : ig_cal (tb_G L xs) 4 67 = some 176 := (by decide +kernel : tb_cal 4 67 = some 176)
theorem lc_4_145 {L : Nat} {xs : Nat → Int32} : ig_cal (tb_G L xs) 4 145 = some 177 := (by decide +kernel : tb_cal 4 145 = some 177)
theorem lc_4_148 {L : Nat} {xs : Nat → Int32} : ig_cal (tb_G L xs) 4 148 = some 178 := (by decide +kernel : tb_cal 4 148 = some 178)
theorem lc_6_90 {L : Nat} {xs : Nat → Int32} : ig_cal (tb_G L xs) 6 90 = some 179 := (by decide +kernel : tb_cal 6 90 = some 179)
theorem lc_6_130 {L : Nat} {xs : Nat → Int32} : ig_cal (tb_G L xs) 6 130 = some 171 := (by decide +kernel : tb_cal 6 130 = some 171)
theorem lc_6_94 {L : Nat} {xs : Nat → Int32} : ig_cal (tb_G L xs) 6 94 = some 180 := (by decide +kernel : tb_cal 6 94 = some 180)
theorem lc_6_98 {L : Nat} {xs : Nat → Int32} : ig_cal (tb_G L xs) 6 98 = some 181 := (by decide +kernel : tb_cal 6 98 = some 181)
theorem lc_6_139 {L : Nat} {xs : Nat → Int32} : ig_cal (tb_G L xs) 6 139 = some 182 := (by decide +kernel : tb_cal 6 139 = some 182)
theorem lc_6_101 {L : Nat} {xs : Nat → Int32} : ig_cal (tb_G L xs) 6 101 = some 183 := (by decide +kernel : tb_cal 6 101 = some 183)
theorem lc_6_143 {L : Nat} {xs : Nat → Int32} : ig_cal (tb_G L xs) 6 143 = some 28 := (by decide +kernel : tb_cal 6 143 = some 28)
theorem lc_6_148 {L : Nat} {xs : Nat → Int32} : ig_cal (tb_G L xs) 6 148 = some 27 := (by decide +kernel : tb_cal 6 148 = some 27)
theorem lc_6_151 {L : Nat} {xs : Nat → Int32} : ig_cal (tb_G L xs) 6 151 = some 184 := (by decide +kernel : tb_cal 6 151 = some 184)
theorem lc_6_154 {L : Nat} {xs : Nat → Int32} : ig_cal (tb_G L xs) 6 154 = some 185 := (by decide +kernel : tb_cal 6 154 = some 185)
theorem lc_6_158 {L : Nat} {xs : Nat → Int32} : ig_cal (tb_G L xs) 6 158 = some 186 := (by decide +kernel : tb_cal 6 158 = some 186)
theorem lc_6_162 {L : Nat} {xs : Nat → Int32} : ig_cal (tb_G L xs) 6 162 = some 158 := (by decide +kernel : tb_cal 6 162 = some 158)
theorem lc_6_104 {L : Nat} {xs : Nat → Int32} : ig_cal (tb_G L xs) 6 104 = some 187 := (by decide +kernel : tb_cal 6 104 = some 187)
theorem lc_18_39 {L : Nat} {xs : Nat → Int32} : ig_cal (tb_G L xs) 18 39 = some 188 := (by decide +kernel : tb_cal 18 39 = some 188)
theorem lc_11_160 {L : Nat} {xs : Nat → Int32} : ig_cal (tb_G L xs) 11 160 = some 189 := (by decide +kernel : tb_cal 11 160 = some 189)
theorem lc_9_59 {L : Nat} {xs : Nat → Int32} : ig_cal (tb_G L xs) 9 59 = some 190 := (by decide +kernel : tb_cal 9 59 = some 190)
theorem lc_18_43 {L : Nat} {xs : Nat → Int32} : ig_cal (tb_G L xs) 18 43 = some 191 := (by decide +kernel : tb_cal 18 43 = some 191)
theorem lc_11_169 {L : Nat} {xs : Nat → Int32} : ig_cal (tb_G L xs) 11 169 = some 192 := (by decide +kernel : tb_cal 11 169 = some 192)
theorem lc_9_69 {L : Nat} {xs : Nat → Int32} : ig_cal (tb_G L xs) 9 69 = some 193 := (by decide +kernel : tb_cal 9 69 = some 193)
theorem lc_11_172 {L : Nat} {xs : Nat → Int32} : ig_cal (tb_G L xs) 11 172 = some 194 := (by decide +kernel : tb_cal 11 172 = some 194)
theorem lc_11_175 {L : Nat} {xs : Nat → Int32} : ig_cal (tb_G L xs) 11 175 = some 195 := (by decide +kernel : tb_cal 11 175 = some 195)
theorem lc_9_63 {L : Nat} {xs : Nat → Int32} : ig_cal (tb_G L xs) 9 63 = some 196 := (by decide +kernel : tb_cal 9 63 = some 196)
theorem lc_18_46 {L : Nat} {xs : Nat → Int32} : ig_cal (tb_G L xs) 18 46 = some 197 := (by decide +kernel : tb_cal 18 46 = some 197)
theorem lc_11_182 {L : Nat} {xs : Nat → Int32} : ig_cal (tb_G L xs) 11 182 = some 198 := (by decide +kernel : tb_cal 11 182 = some 198)
theorem lc_11_189 {L : Nat} {xs : Nat → Int32} : ig_cal (tb_G L xs) 11 189 = some 199 := (by decide +kernel : tb_cal 11 189 = some 199)
theorem lc_9_73 {L : Nat} {xs : Nat → Int32} : ig_cal (tb_G L xs) 9 73 = some 200 := (by decide +kernel : tb_cal 9 73 = some 200)
theorem lc_18_50 {L : Nat} {xs : Nat → Int32} : ig_cal (tb_G L xs) 18 50 = some 201 := (by decide +kernel : tb_cal 18 50 = some 201)
theorem lc_11_193 {L : Nat} {xs : Nat → Int32} : ig_cal (tb_G L xs) 11 193 = some 202 := (by decide +kernel : tb_cal 11 193 = some 202)
theorem lc_3_51 {L : Nat} {xs : Nat → Int32} : ig_cal (tb_G L xs) 3 51 = some 203 := (by decide +kernel : tb_cal 3 51 = some 203)
theorem lc_3_79 {L : Nat} {xs : Nat → Int32} : ig_cal (tb_G L xs) 3 79 = some 200 := (by decide +kernel : tb_cal 3 79 = some 200)
theorem lc_3_60 {L : Nat} {xs : Nat → Int32} : ig_cal (tb_G L xs) 3 60 = some 28 := (by decide +kernel : tb_cal 3 60 = some 28)
theorem lc_3_69 {L : Nat} {xs : Nat → Int32} : ig_cal (tb_G L xs) 3 69 = some 204 := (by decide +kernel : tb_cal 3 69 = some 204)
theorem lc_3_83 {L : Nat} {xs : Nat → Int32} : ig_cal (tb_G L xs) 3 83 = some 205 := (by decide +kernel : tb_cal 3 83 = some 205)
theorem lc_3_87 {L : Nat} {xs : Nat → Int32} : ig_cal (tb_G L xs) 3 87 = some 206 := (by decide +kernel : tb_cal 3 87 = some 206)
theorem lc_3_72 {L : Nat} {xs : Nat → Int32} : ig_cal (tb_G L xs) 3 72 = some 207 := (by decide +kernel : tb_cal 3 72 = some 207)
theorem lc_3_90 {L : Nat} {xs : Nat → Int32} : ig_cal (tb_G L xs) 3 90 = some 208 := (by decide +kernel : tb_cal 3 90 = some 208)
theorem lc_3_100 {L : Nat} {xs : Nat → Int32} : ig_cal (tb_G L xs) 3 100 = some 209 := (by decide +kernel : tb_cal 3 100 = some 209)
theorem lc_3_104 {L : Nat} {xs : Nat → Int32} : ig_cal (tb_G L xs) 3 104 = some 210 := (by decide +kernel : tb_cal 3 104 = some 210)
theorem lc_3_112 {L : Nat} {xs : Nat → Int32} : ig_cal (tb_G L xs) 3 112 = some 211 := (by decide +kernel : tb_cal 3 112 = some 211)
theorem lc_3_115 {L : Nat} {xs : Nat → Int32} : ig_cal (tb_G L xs) 3 115 = some 212 := (by decide +kernel : tb_cal 3 115 = some 212)
theorem lc_3_108 {L : Nat} {xs : Nat → Int32} : ig_cal (tb_G L xs) 3 108 = some 213 := (by decide +kernel : tb_cal 3 108 = some 213)
theorem lc_3_76 {L : Nat} {xs : Nat → Int32} : ig_cal (tb_G L xs) 3 76 = some 214 := (by decide +kernel : tb_cal 3 76 = some 214)
theorem lc_3_126 {L : Nat} {xs : Nat → Int32} : ig_cal (tb_G L xs) 3 126 = some 215 := (by decide +kernel : tb_cal 3 126 = some 215)
theorem lc_3_129 {L : Nat} {xs : Nat → Int32} : ig_cal (tb_G L xs) 3 129 = some 216 := (by decide +kernel : tb_cal 3 129 = some 216)
theorem lc_18_54 {L : Nat} {xs : Nat → Int32} : ig_cal (tb_G L xs) 18 54 = some 217 := (by decide +kernel : tb_cal 18 54 = some 217)
theorem lc_11_197 {L : Nat} {xs : Nat → Int32} : ig_cal (tb_G L xs) 11 197 = some 216 := (by decide +kernel : tb_cal 11 197 = some 216)
theorem lc_18_57 {L : Nat} {xs : Nat → Int32} : ig_cal (tb_G L xs) 18 57 = some 218 := (by decide +kernel : tb_cal 18 57 = some 218)
theorem lc_11_200 {L : Nat} {xs : Nat → Int32} : ig_cal (tb_G L xs) 11 200 = some 219 := (by decide +kernel : tb_cal 11 200 = some 219)
theorem lc_11_247 {L : Nat} {xs : Nat → Int32} : ig_cal (tb_G L xs) 11 247 = some 53 := (by decide +kernel : tb_cal 11 247 = some 53)
theorem lc_11_203 {L : Nat} {xs : Nat → Int32} : ig_cal (tb_G L xs) 11 203 = some 155 := (by decide +kernel : tb_cal 11 203 = some 155)
theorem lc_11_206 {L : Nat} {xs : Nat → Int32} : ig_cal (tb_G L xs) 11 206 = some 220 := (by decide +kernel : tb_cal 11 206 = some 220)
theorem lc_3_137 {L : Nat} {xs : Nat → Int32} : ig_cal (tb_G L xs) 3 137 = some 221 := (by decide +kernel : tb_cal 3 137 = some 221)
theorem lc_3_144 {L : Nat} {xs : Nat → Int32} : ig_cal (tb_G L xs) 3 144 = some 91 := (by decide +kernel : tb_cal 3 144 = some 91)
theorem lc_3_148 {L : Nat} {xs : Nat → Int32} : ig_cal (tb_G L xs) 3 148 = some 196 := (by decide +kernel : tb_cal 3 148 = some 196)
theorem lc_3_140 {L : Nat} {xs : Nat → Int32} : ig_cal (tb_G L xs) 3 140 = some 170 := (by decide +kernel : tb_cal 3 140 = some 170)
theorem lc_11_210 {L : Nat} {xs : Nat → Int32} : ig_cal (tb_G L xs) 11 210 = some 222 := (by decide +kernel : tb_cal 11 210 = some 222)
theorem lc_4_151 {L : Nat} {xs : Nat → Int32} : ig_cal (tb_G L xs) 4 151 = some 223 := (by decide +kernel : tb_cal 4 151 = some 223)
theorem lc_4_167 {L : Nat} {xs : Nat → Int32} : ig_cal (tb_G L xs) 4 167 = some 224 := (by decide +kernel : tb_cal 4 167 = some 224)
theorem lc_4_157 {L : Nat} {xs : Nat → Int32} : ig_cal (tb_G L xs) 4 157 = some 225 := (by decide +kernel : tb_cal 4 157 = some 225)
theorem lc_1_99 {L : Nat} {xs : Nat → Int32} : ig_cal (tb_G L xs) 1 99 = some 226 := (by decide +kernel : tb_cal 1 99 = some 226)
theorem lc_1_102 {L : Nat} {xs : Nat → Int32} : ig_cal (tb_G L xs) 1 102 = some 227 := (by decide +kernel : tb_cal 1 102 = some 227)
theorem lc_1_105 {L : Nat} {xs : Nat → Int32} : ig_cal (tb_G L xs) 1 105 = some 228 := (by decide +kernel : tb_cal 1 105 = some 228)
theorem lc_1_109 {L : Nat} {xs : Nat → Int32} : ig_cal (tb_G L xs) 1 109 = some 229 := (by decide +kernel : tb_cal 1 109 = some 229)
theorem lc_1_123 {L : Nat} {xs : Nat → Int32} : ig_cal (tb_G L xs) 1 123 = some 230 := (by decide +kernel : tb_cal 1 123 = some 230)
theorem lc_1_113 {L : Nat} {xs : Nat → Int32} : ig_cal (tb_G L xs) 1 113 = some 231 := (by decide +kernel : tb_cal 1 113 = some 231)
theorem lc_1_116 {L : Nat} {xs : Nat → Int32} : ig_cal (tb_G L xs) 1 116 = some 232 := (by decide +kernel : tb_cal 1 116 = some 232)
theorem lc_1_120 {L : Nat} {xs : Nat → Int32} : ig_cal (tb_G L xs) 1 120 = some 233 := (by decide +kernel : tb_cal 1 120 = some 233)
theorem lc_4_164 {L : Nat} {xs : Nat → Int32} : ig_cal (tb_G L xs) 4 164 = some 234 := (by decide +kernel : tb_cal 4 164 = some 234)
theorem lc_7_113 {L : Nat} {xs : Nat → Int32} : ig_cal (tb_G L xs) 7 113 = some 235 := (by decide +kernel : tb_cal 7 113 = some 235)
theorem lc_7_116 {L : Nat} {xs : Nat → Int32} : ig_cal (tb_G L xs) 7 116 = some 236 := (by decide +kernel : tb_cal 7 116 = some 236)
theorem lc_7_119 {L : Nat} {xs : Nat → Int32} : ig_cal (tb_G L xs) 7 119 = some 237 := (by decide +kernel : tb_cal 7 119 = some 237)
theorem lc_7_123 {L : Nat} {xs : Nat → Int32} : ig_cal (tb_G L xs) 7 123 = some 238 := (by decide +kernel : tb_cal 7 123 = some 238)
theorem lc_7_127 {L : Nat} {xs : Nat → Int32} : ig_cal (tb_G L xs) 7 127 = some 239 := (by decide +kernel : tb_cal 7 127 = some 239)
theorem lc_19_495 {L : Nat} {xs : Nat → Int32} : ig_cal (tb_G L xs) 19 495 = some 240 := (by decide +kernel : tb_cal 19 495 = some 240)
theorem lc_20_9 {L : Nat} {xs : Nat → Int32} : ig_cal (tb_G L xs) 20 9 = some 241 := (by decide +kernel : tb_cal 20 9 = some 241)
theorem lc_18_60 {L : Nat} {xs : Nat → Int32} : ig_cal (tb_G L xs) 18 60 = some 242 := (by decide +kernel : tb_cal 18 60 = some 242)
theorem lc_11_234 {L : Nat} {xs : Nat → Int32} : ig_cal (tb_G L xs) 11 234 = some 200 := (by decide +kernel : tb_cal 11 234 = some 200)
theorem lc_11_237 {L : Nat} {xs : Nat → Int32} : ig_cal (tb_G L xs) 11 237 = some 243 := (by decide +kernel : tb_cal 11 237 = some 243)
theorem lc_0_125 {L : Nat} {xs : Nat → Int32} : ig_cal (tb_G L xs) 0 125 = some 244 := (by decide +kernel : tb_cal 0 125 = some 244)
theorem lc_0_145 {L : Nat} {xs : Nat → Int32} : ig_cal (tb_G L xs) 0 145 = some 245 := (by decide +kernel : tb_cal 0 145 = some 245)
theorem lc_0_138 {L : Nat} {xs : Nat → Int32} : ig_cal (tb_G L xs) 0 138 = some 246 := (by decide +kernel : tb_cal 0 138 = some 246)
theorem lc_0_135 {L : Nat} {xs : Nat → Int32} : ig_cal (tb_G L xs) 0 135 = some 247 := (by decide +kernel : tb_cal 0 135 = some 247)
theorem lc_0_141 {L : Nat} {xs : Nat → Int32} : ig_cal (tb_G L xs) 0 141 = some 248 := (by decide +kernel : tb_cal 0 141 = some 248)
theorem lc_0_149 {L : Nat} {xs : Nat → Int32} : ig_cal (tb_G L xs) 0 149 = some 249 := (by decide +kernel : tb_cal 0 149 = some 249)
theorem lc_0_152 {L : Nat} {xs : Nat → Int32} : ig_cal (tb_G L xs) 0 152 = some 250 := (by decide +kernel : tb_cal 0 152 = some 250)
theorem lc_0_129 {L : Nat} {xs : Nat → Int32} : ig_cal (tb_G L xs) 0 129 = some 251 := (by decide +kernel : tb_cal 0 129 = some 251)
theorem lc_0_156 {L : Nat} {xs : Nat → Int32} : ig_cal (tb_G L xs) 0 156 = some 252 := (by decide +kernel : tb_cal 0 156 = some 252)
theorem lc_0_160 {L : Nat} {xs : Nat → Int32} : ig_cal (tb_G L xs) 0 160 = some 253 := (by decide +kernel : tb_cal 0 160 = some 253)
theorem lc_0_164 {L : Nat} {xs : Nat → Int32} : ig_cal (tb_G L xs) 0 164 = some 254 := (by decide +kernel : tb_cal 0 164 = some 254)
theorem lc_18_64 {L : Nat} {xs : Nat → Int32} : ig_cal (tb_G L xs) 18 64 = some 255 := (by decide +kernel : tb_cal 18 64 = some 255)
theorem lc_18_70 {L : Nat} {xs : Nat → Int32} : ig_cal (tb_G L xs) 18 70 = some 256 := (by decide +kernel : tb_cal 18 70 = some 256)
theorem lc_17_15 {L : Nat} {xs : Nat → Int32} : ig_cal (tb_G L xs) 17 15 = some 257 := (by decide +kernel : tb_cal 17 15 = some 257)
theorem lc_17_22 {L : Nat} {xs : Nat → Int32} : ig_cal (tb_G L xs) 17 22 = some 258 := (by decide +kernel : tb_cal 17 22 = some 258)
theorem lc_17_29 {L : Nat} {xs : Nat → Int32} : ig_cal (tb_G L xs) 17 29 = some 259 := (by decide +kernel : tb_cal 17 29 = some 259)
theorem lc_17_36 {L : Nat} {xs : Nat → Int32} : ig_cal (tb_G L xs) 17 36 = some 260 := (by decide +kernel : tb_cal 17 36 = some 260)
theorem lc_17_43 {L : Nat} {xs : Nat → Int32} : ig_cal (tb_G L xs) 17 43 = some 261 := (by decide +kernel : tb_cal 17 43 = some 261)
theorem lc_18_79 {L : Nat} {xs : Nat → Int32} : ig_cal (tb_G L xs) 18 79 = some 262 := (by decide +kernel : tb_cal 18 79 = some 262)
theorem lc_18_78 {L : Nat} {xs : Nat → Int32} : ig_cal (tb_G L xs) 18 78 = some 263 := (by decide +kernel : tb_cal 18 78 = some 263)
theorem lc_18_86 {L : Nat} {xs : Nat → Int32} : ig_cal (tb_G L xs) 18 86 = some 264 := (by decide +kernel : tb_cal 18 86 = some 264)
theorem lc_18_90 {L : Nat} {xs : Nat → Int32} : ig_cal (tb_G L xs) 18 90 = some 265 := (by decide +kernel : tb_cal 18 90 = some 265)
theorem lc_17_66 {L : Nat} {xs : Nat → Int32} : ig_cal (tb_G L xs) 17 66 = some 266 := (by decide +kernel : tb_cal 17 66 = some 266)
theorem lc_12_121 {L : Nat} {xs : Nat → Int32} : ig_cal (tb_G L xs) 12 121 = some 267 := (by decide +kernel : tb_cal 12 121 = some 267)
theorem lc_17_70 {L : Nat} {xs : Nat → Int32} : ig_cal (tb_G L xs) 17 70 = some 268 := (by decide +kernel : tb_cal 17 70 = some 268)
theorem lc_18_93 {L : Nat} {xs : Nat → Int32} : ig_cal (tb_G L xs) 18 93 = some 269 := (by decide +kernel : tb_cal 18 93 = some 269)
theorem lc_17_73 {L : Nat} {xs : Nat → Int32} : ig_cal (tb_G L xs) 17 73 = some 270 := (by decide +kernel : tb_cal 17 73 = some 270)
theorem lc_18_97 {L : Nat} {xs : Nat → Int32} : ig_cal (tb_G L xs) 18 97 = some 271 := (by decide +kernel : tb_cal 18 97 = some 271)
theorem lc_17_76 {L : Nat} {xs : Nat → Int32} : ig_cal (tb_G L xs) 17 76 = some 272 := (by decide +kernel : tb_cal 17 76 = some 272)
theorem lc_17_79 {L : Nat} {xs : Nat → Int32} : ig_cal (tb_G L xs) 17 79 = some 273 := (by decide +kernel : tb_cal 17 79 = some 273)
theorem lc_17_83 {L : Nat} {xs : Nat → Int32} : ig_cal (tb_G L xs) 17 83 = some 274 := (by decide +kernel : tb_cal 17 83 = some 274)
theorem lc_15_258 {L : Nat} {xs : Nat → Int32} : ig_cal (tb_G L xs) 15 258 = some 275 := (by decide +kernel : tb_cal 15 258 = some 275)
theorem lc_15_76 {L : Nat} {xs : Nat → Int32} : ig_cal (tb_G L xs) 15 76 = some 276 := (by decide +kernel : tb_cal 15 76 = some 276)
theorem lc_15_95 {L : Nat} {xs : Nat → Int32} : ig_cal (tb_G L xs) 15 95 = some 277 := (by decide +kernel : tb_cal 15 95 = some 277)
theorem lc_15_252 {L : Nat} {xs : Nat → Int32} : ig_cal (tb_G L xs) 15 252 = some 278 := (by decide +kernel : tb_cal 15 252 = some 278)
theorem lc_15_88 {L : Nat} {xs : Nat → Int32} : ig_cal (tb_G L xs) 15 88 = some 279 := (by decide +kernel : tb_cal 15 88 = some 279)
theorem lc_15_186 {L : Nat} {xs : Nat → Int32} : ig_cal (tb_G L xs) 15 186 = some 280 := (by decide +kernel : tb_cal 15 186 = some 280)
theorem lc_15_189 {L : Nat} {xs : Nat → Int32} : ig_cal (tb_G L xs) 15 189 = some 281 := (by decide +kernel : tb_cal 15 189 = some 281)
theorem lc_15_92 {L : Nat} {xs : Nat → Int32} : ig_cal (tb_G L xs) 15 92 = some 282 := (by decide +kernel : tb_cal 15 92 = some 282)
theorem lc_15_80 {L : Nat} {xs : Nat → Int32} : ig_cal (tb_G L xs) 15 80 = some 283 := (by decide +kernel : tb_cal 15 80 = some 283)
theorem lc_15_192 {L : Nat} {xs : Nat → Int32} : ig_cal (tb_G L xs) 15 192 = some 284 := (by decide +kernel : tb_cal 15 192 = some 284)
theorem lc_15_98 {L : Nat} {xs : Nat → Int32} : ig_cal (tb_G L xs) 15 98 = some 285 := (by decide +kernel : tb_cal 15 98 = some 285)
theorem lc_15_84 {L : Nat} {xs : Nat → Int32} : ig_cal (tb_G L xs) 15 84 = some 286 := (by decide +kernel : tb_cal 15 84 = some 286)
theorem lc_15_195 {L : Nat} {xs : Nat → Int32} : ig_cal (tb_G L xs) 15 195 = some 287 := (by decide +kernel : tb_cal 15 195 = some 287)
theorem lc_15_104 {L : Nat} {xs : Nat → Int32} : ig_cal (tb_G L xs) 15 104 = some 288 := (by decide +kernel : tb_cal 15 104 = some 288)
theorem lc_15_198 {L : Nat} {xs : Nat → Int32} : ig_cal (tb_G L xs) 15 198 = some 289 := (by decide +kernel : tb_cal 15 198 = some 289)
theorem lc_15_201 {L : Nat} {xs : Nat → Int32} : ig_cal (tb_G L xs) 15 201 = some 290 := (by decide +kernel : tb_cal 15 201 = some 290)
theorem lc_15_116 {L : Nat} {xs : Nat → Int32} : ig_cal (tb_G L xs) 15 116 = some 291 := (by decide +kernel : tb_cal 15 116 = some 291)
theorem lc_15_120 {L : Nat} {xs : Nat → Int32} : ig_cal (tb_G L xs) 15 120 = some 292 := (by decide +kernel : tb_cal 15 120 = some 292)
theorem lc_15_129 {L : Nat} {xs : Nat → Int32} : ig_cal (tb_G L xs) 15 129 = some 293 := (by decide +kernel : tb_cal 15 129 = some 293)
theorem lc_15_139 {L : Nat} {xs : Nat → Int32} : ig_cal (tb_G L xs) 15 139 = some 294 := (by decide +kernel : tb_cal 15 139 = some 294)
theorem lc_15_158 {L : Nat} {xs : Nat → Int32} : ig_cal (tb_G L xs) 15 158 = some 295 := (by decide +kernel : tb_cal 15 158 = some 295)
theorem lc_15_161 {L : Nat} {xs : Nat → Int32} : ig_cal (tb_G L xs) 15 161 = some 296 := (by decide +kernel : tb_cal 15 161 = some 296)
theorem lc_15_145 {L : Nat} {xs : Nat → Int32} : ig_cal (tb_G L xs) 15 145 = some 297 := (by decide +kernel : tb_cal 15 145 = some 297)
theorem lc_15_149 {L : Nat} {xs : Nat → Int32} : ig_cal (tb_G L xs) 15 149 = some 298 := (by decide +kernel : tb_cal 15 149 = some 298)
theorem lc_15_152 {L : Nat} {xs : Nat → Int32} : ig_cal (tb_G L xs) 15 152 = some 299 := (by decide +kernel : tb_cal 15 152 = some 299)
theorem lc_15_165 {L : Nat} {xs : Nat → Int32} : ig_cal (tb_G L xs) 15 165 = some 300 := (by decide +kernel : tb_cal 15 165 = some 300)
theorem lc_15_169 {L : Nat} {xs : Nat → Int32} : ig_cal (tb_G L xs) 15 169 = some 301 := (by decide +kernel : tb_cal 15 169 = some 301)
theorem lc_15_173 {L : Nat} {xs : Nat → Int32} : ig_cal (tb_G L xs) 15 173 = some 302 := (by decide +kernel : tb_cal 15 173 = some 302)
theorem lc_15_176 {L : Nat} {xs : Nat → Int32} : ig_cal (tb_G L xs) 15 176 = some 303 := (by decide +kernel : tb_cal 15 176 = some 303)
theorem lc_15_255 {L : Nat} {xs : Nat → Int32} : ig_cal (tb_G L xs) 15 255 = some 304 := (by decide +kernel : tb_cal 15 255 = some 304)
theorem lc_15_228 {L : Nat} {xs : Nat → Int32} : ig_cal (tb_G L xs) 15 228 = some 305 := (by decide +kernel : tb_cal 15 228 = some 305)
theorem lc_15_231 {L : Nat} {xs : Nat → Int32} : ig_cal (tb_G L xs) 15 231 = some 306 := (by decide +kernel : tb_cal 15 231 = some 306)
theorem lc_15_234 {L : Nat} {xs : Nat → Int32} : ig_cal (tb_G L xs) 15 234 = some 307 := (by decide +kernel : tb_cal 15 234 = some 307)
theorem lc_15_225 {L : Nat} {xs : Nat → Int32} : ig_cal (tb_G L xs) 15 225 = some 308 := (by decide +kernel : tb_cal 15 225 = some 308)
theorem lc_15_237 {L : Nat} {xs : Nat → Int32} : ig_cal (tb_G L xs) 15 237 = some 309 := (by decide +kernel : tb_cal 15 237 = some 309)
theorem lc_15_240 {L : Nat} {xs : Nat → Int32} : ig_cal (tb_G L xs) 15 240 = some 310 := (by decide +kernel : tb_cal 15 240 = some 310)
theorem lc_15_243 {L : Nat} {xs : Nat → Int32} : ig_cal (tb_G L xs) 15 243 = some 311 := (by decide +kernel : tb_cal 15 243 = some 311)
theorem lc_15_246 {L : Nat} {xs : Nat → Int32} : ig_cal (tb_G L xs) 15 246 = some 312 := (by decide +kernel : tb_cal 15 246 = some 312)
theorem lc_18_101 {L : Nat} {xs : Nat → Int32} : ig_cal (tb_G L xs) 18 101 = some 313 := (by decide +kernel : tb_cal 18 101 = some 313)
theorem lc_17_86 {L : Nat} {xs : Nat → Int32} : ig_cal (tb_G L xs) 17 86 = some 314 := (by decide +kernel : tb_cal 17 86 = some 314)
theorem lc_18_105 {L : Nat} {xs : Nat → Int32} : ig_cal (tb_G L xs) 18 105 = some 315 := (by decide +kernel : tb_cal 18 105 = some 315)
theorem lc_17_89 {L : Nat} {xs : Nat → Int32} : ig_cal (tb_G L xs) 17 89 = some 316 := (by decide +kernel : tb_cal 17 89 = some 316)
theorem lc_18_109 {L : Nat} {xs : Nat → Int32} : ig_cal (tb_G L xs) 18 109 = some 317 := (by decide +kernel : tb_cal 18 109 = some 317)
theorem lc_17_92 {L : Nat} {xs : Nat → Int32} : ig_cal (tb_G L xs) 17 92 = some 318 := (by decide +kernel : tb_cal 17 92 = some 318)
theorem lc_17_96 {L : Nat} {xs : Nat → Int32} : ig_cal (tb_G L xs) 17 96 = some 319 := (by decide +kernel : tb_cal 17 96 = some 319)
theorem lc_18_112 {L : Nat} {xs : Nat → Int32} : ig_cal (tb_G L xs) 18 112 = some 320 := (by decide +kernel : tb_cal 18 112 = some 320)
theorem lc_17_97 {L : Nat} {xs : Nat → Int32} : ig_cal (tb_G L xs) 17 97 = some 321 := (by decide +kernel : tb_cal 17 97 = some 321)
theorem lc_18_115 {L : Nat} {xs : Nat → Int32} : ig_cal (tb_G L xs) 18 115 = some 322 := (by decide +kernel : tb_cal 18 115 = some 322)
theorem lc_17_100 {L : Nat} {xs : Nat → Int32} : ig_cal (tb_G L xs) 17 100 = some 323 := (by decide +kernel : tb_cal 17 100 = some 323)
theorem lc_18_119 {L : Nat} {xs : Nat → Int32} : ig_cal (tb_G L xs) 18 119 = some 324 := (by decide +kernel : tb_cal 18 119 = some 324)
theorem lc_17_196 {L : Nat} {xs : Nat → Int32} : ig_cal (tb_G L xs) 17 196 = some 325 := (by decide +kernel : tb_cal 17 196 = some 325)
theorem lc_17_200 {L : Nat} {xs : Nat → Int32} : ig_cal (tb_G L xs) 17 200 = some 326 := (by decide +kernel : tb_cal 17 200 = some 326)
theorem lc_17_146 {L : Nat} {xs : Nat → Int32} : ig_cal (tb_G L xs) 17 146 = some 327 := (by decide +kernel : tb_cal 17 146 = some 327)
theorem lc_17_149 {L : Nat} {xs : Nat → Int32} : ig_cal (tb_G L xs) 17 149 = some 328 := (by decide +kernel : tb_cal 17 149 = some 328)
theorem lc_17_150 {L : Nat} {xs : Nat → Int32} : ig_cal (tb_G L xs) 17 150 = some 329 := (by decide +kernel : tb_cal 17 150 = some 329)
theorem lc_17_105 {L : Nat} {xs : Nat → Int32} : ig_cal (tb_G L xs) 17 105 = some 330 := (by decide +kernel : tb_cal 17 105 = some 330)
theorem lc_17_108 {L : Nat} {xs : Nat → Int32} : ig_cal (tb_G L xs) 17 108 = some 331 := (by decide +kernel : tb_cal 17 108 = some 331)
theorem lc_17_104 {L : Nat} {xs : Nat → Int32} : ig_cal (tb_G L xs) 17 104 = some 332 := (by decide +kernel : tb_cal 17 104 = some 332)
theorem lc_17_153 {L : Nat} {xs : Nat → Int32} : ig_cal (tb_G L xs) 17 153 = some 333 := (by decide +kernel : tb_cal 17 153 = some 333)
theorem lc_12_124 {L : Nat} {xs : Nat → Int32} : ig_cal (tb_G L xs) 12 124 = some 334 := (by decide +kernel : tb_cal 12 124 = some 334)
theorem lc_12_130 {L : Nat} {xs : Nat → Int32} : ig_cal (tb_G L xs) 12 130 = some 335 := (by decide +kernel : tb_cal 12 130 = some 335)
theorem lc_12_134 {L : Nat} {xs : Nat → Int32} : ig_cal (tb_G L xs) 12 134 = some 336 := (by decide +kernel : tb_cal 12 134 = some 336)
theorem lc_12_110 {L : Nat} {xs : Nat → Int32} : ig_cal (tb_G L xs) 12 110 = some 337 := (by decide +kernel : tb_cal 12 110 = some 337)
theorem lc_12_85 {L : Nat} {xs : Nat → Int32} : ig_cal (tb_G L xs) 12 85 = some 338 := (by decide +kernel : tb_cal 12 85 = some 338)
theorem lc_12_88 {L : Nat} {xs : Nat → Int32} : ig_cal (tb_G L xs) 12 88 = some 339 := (by decide +kernel : tb_cal 12 88 = some 339)
theorem lc_12_91 {L : Nat} {xs : Nat → Int32} : ig_cal (tb_G L xs) 12 91 = some 340 := (by decide +kernel : tb_cal 12 91 = some 340)
theorem lc_12_71 {L : Nat} {xs : Nat → Int32} : ig_cal (tb_G L xs) 12 71 = some 341 := (by decide +kernel : tb_cal 12 71 = some 341)
theorem lc_12_94 {L : Nat} {xs : Nat → Int32} : ig_cal (tb_G L xs) 12 94 = some 342 := (by decide +kernel : tb_cal 12 94 = some 342)
theorem lc_12_81 {L : Nat} {xs : Nat → Int32} : ig_cal (tb_G L xs) 12 81 = some 343 := (by decide +kernel : tb_cal 12 81 = some 343)
theorem lc_12_97 {L : Nat} {xs : Nat → Int32} : ig_cal (tb_G L xs) 12 97 = some 344 := (by decide +kernel : tb_cal 12 97 = some 344)
theorem lc_12_101 {L : Nat} {xs : Nat → Int32} : ig_cal (tb_G L xs) 12 101 = some 345 := (by decide +kernel : tb_cal 12 101 = some 345)
theorem lc_12_104 {L : Nat} {xs : Nat → Int32} : ig_cal (tb_G L xs) 12 104 = some 346 := (by decide +kernel : tb_cal 12 104 = some 346)
theorem lc_12_107 {L : Nat} {xs : Nat → Int32} : ig_cal (tb_G L xs) 12 107 = some 347 := (by decide +kernel : tb_cal 12 107 = some 347)
theorem lc_12_114 {L : Nat} {xs : Nat → Int32} : ig_cal (tb_G L xs) 12 114 = some 348 := (by decide +kernel : tb_cal 12 114 = some 348)
theorem lc_12_40 {L : Nat} {xs : Nat → Int32} : ig_cal (tb_G L xs) 12 40 = some 349 := (by decide +kernel : tb_cal 12 40 = some 349)
theorem lc_12_117 {L : Nat} {xs : Nat → Int32} : ig_cal (tb_G L xs) 12 117 = some 350 := (by decide +kernel : tb_cal 12 117 = some 350)
theorem lc_17_157 {L : Nat} {xs : Nat → Int32} : ig_cal (tb_G L xs) 17 157 = some 351 := (by decide +kernel : tb_cal 17 157 = some 351)
theorem lc_17_116 {L : Nat} {xs : Nat → Int32} : ig_cal (tb_G L xs) 17 116 = some 352 := (by decide +kernel : tb_cal 17 116 = some 352)
theorem lc_17_117 {L : Nat} {xs : Nat → Int32} : ig_cal (tb_G L xs) 17 117 = some 353 := (by decide +kernel : tb_cal 17 117 = some 353)
theorem lc_17_118 {L : Nat} {xs : Nat → Int32} : ig_cal (tb_G L xs) 17 118 = some 354 := (by decide +kernel : tb_cal 17 118 = some 354)
theorem lc_13_191 {L : Nat} {xs : Nat → Int32} : ig_cal (tb_G L xs) 13 191 = some 355 := (by decide +kernel : tb_cal 13 191 = some 355)
theorem lc_13_185 {L : Nat} {xs : Nat → Int32} : ig_cal (tb_G L xs) 13 185 = some 356 := (by decide +kernel : tb_cal 13 185 = some 356)
theorem lc_13_172 {L : Nat} {xs : Nat → Int32} : ig_cal (tb_G L xs) 13 172 = some 357 := (by decide +kernel : tb_cal 13 172 = some 357)
theorem lc_13_160 {L : Nat} {xs : Nat → Int32} : ig_cal (tb_G L xs) 13 160 = some 358 := (by decide +kernel : tb_cal 13 160 = some 358)
theorem lc_13_164 {L : Nat} {xs : Nat → Int32} : ig_cal (tb_G L xs) 13 164 = some 359 := (by decide +kernel : tb_cal 13 164 = some 359)
theorem lc_13_168 {L : Nat} {xs : Nat → Int32} : ig_cal (tb_G L xs) 13 168 = some 360 := (by decide +kernel : tb_cal 13 168 = some 360)
theorem lc_13_176 {L : Nat} {xs : Nat → Int32} : ig_cal (tb_G L xs) 13 176 = some 361 := (by decide +kernel : tb_cal 13 176 = some 361)
theorem lc_13_179 {L : Nat} {xs : Nat → Int32} : ig_cal (tb_G L xs) 13 179 = some 362 := (by decide +kernel : tb_cal 13 179 = some 362)
theorem lc_13_182 {L : Nat} {xs : Nat → Int32} : ig_cal (tb_G L xs) 13 182 = some 363 := (by decide +kernel : tb_cal 13 182 = some 363)
theorem lc_13_194 {L : Nat} {xs : Nat → Int32} : ig_cal (tb_G L xs) 13 194 = some 364 := (by decide +kernel : tb_cal 13 194 = some 364)
theorem lc_13_198 {L : Nat} {xs : Nat → Int32} : ig_cal (tb_G L xs) 13 198 = some 365 := (by decide +kernel : tb_cal 13 198 = some 365)
theorem lc_17_121 {L : Nat} {xs : Nat → Int32} : ig_cal (tb_G L xs) 17 121 = some 366 := (by decide +kernel : tb_cal 17 121 = some 366)
theorem lc_13_205 {L : Nat} {xs : Nat → Int32} : ig_cal (tb_G L xs) 13 205 = some 367 := (by decide +kernel : tb_cal 13 205 = some 367)
theorem lc_13_209 {L : Nat} {xs : Nat → Int32} : ig_cal (tb_G L xs) 13 209 = some 368 := (by decide +kernel : tb_cal 13 209 = some 368)
theorem lc_17_124 {L : Nat} {xs : Nat → Int32} : ig_cal (tb_G L xs) 17 124 = some 369 := (by decide +kernel : tb_cal 17 124 = some 369)
theorem lc_17_112 {L : Nat} {xs : Nat → Int32} : ig_cal (tb_G L xs) 17 112 = some 370 := (by decide +kernel : tb_cal 17 112 = some 370)
theorem lc_17_161 {L : Nat} {xs : Nat → Int32} : ig_cal (tb_G L xs) 17 161 = some 371 := (by decide +kernel : tb_cal 17 161 = some 371)
theorem lc_17_163 {L : Nat} {xs : Nat → Int32} : ig_cal (tb_G L xs) 17 163 = some 372 := (by decide +kernel : tb_cal 17 163 = some 372)
theorem lc_17_131 {L : Nat} {xs : Nat → Int32} : ig_cal (tb_G L xs) 17 131 = some 373 := (by decide +kernel : tb_cal 17 131 = some 373)
theorem lc_13_218 {L : Nat} {xs : Nat → Int32} : ig_cal (tb_G L xs) 13 218 = some 374 := (by decide +kernel : tb_cal 13 218 = some 374)
theorem lc_13_226 {L : Nat} {xs : Nat → Int32} : ig_cal (tb_G L xs) 13 226 = some 375 := (by decide +kernel : tb_cal 13 226 = some 375)
theorem lc_13_222 {L : Nat} {xs : Nat → Int32} : ig_cal (tb_G L xs) 13 222 = some 376 := (by decide +kernel : tb_cal 13 222 = some 376)
theorem lc_13_230 {L : Nat} {xs : Nat → Int32} : ig_cal (tb_G L xs) 13 230 = some 377 := (by decide +kernel : tb_cal 13 230 = some 377)
theorem lc_13_233 {L : Nat} {xs : Nat → Int32} : ig_cal (tb_G L xs) 13 233 = some 378 := (by decide +kernel : tb_cal 13 233 = some 378)
theorem lc_17_166 {L : Nat} {xs : Nat → Int32} : ig_cal (tb_G L xs) 17 166 = some 379 := (by decide +kernel : tb_cal 17 166 = some 379)
theorem lc_17_135 {L : Nat} {xs : Nat → Int32} : ig_cal (tb_G L xs) 17 135 = some 380 := (by decide +kernel : tb_cal 17 135 = some 380)
theorem lc_17_136 {L : Nat} {xs : Nat → Int32} : ig_cal (tb_G L xs) 17 136 = some 381 := (by decide +kernel : tb_cal 17 136 = some 381)
theorem lc_17_139 {L : Nat} {xs : Nat → Int32} : ig_cal (tb_G L xs) 17 139 = some 382 := (by decide +kernel : tb_cal 17 139 = some 382)
theorem lc_16_220 {L : Nat} {xs : Nat → Int32} : ig_cal (tb_G L xs) 16 220 = some 383 := (by decide +kernel : tb_cal 16 220 = some 383)
theorem lc_16_217 {L : Nat} {xs : Nat → Int32} : ig_cal (tb_G L xs) 16 217 = some 384 := (by decide +kernel : tb_cal 16 217 = some 384)
theorem lc_16_134 {L : Nat} {xs : Nat → Int32} : ig_cal (tb_G L xs) 16 134 = some 385 := (by decide +kernel : tb_cal 16 134 = some 385)
theorem lc_16_214 {L : Nat} {xs : Nat → Int32} : ig_cal (tb_G L xs) 16 214 = some 386 := (by decide +kernel : tb_cal 16 214 = some 386)
theorem lc_16_118 {L : Nat} {xs : Nat → Int32} : ig_cal (tb_G L xs) 16 118 = some 387 := (by decide +kernel : tb_cal 16 118 = some 387)
theorem lc_16_114 {L : Nat} {xs : Nat → Int32} : ig_cal (tb_G L xs) 16 114 = some 388 := (by decide +kernel : tb_cal 16 114 = some 388)
theorem lc_16_105 {L : Nat} {xs : Nat → Int32} : ig_cal (tb_G L xs) 16 105 = some 389 := (by decide +kernel : tb_cal 16 105 = some 389)
theorem lc_16_93 {L : Nat} {xs : Nat → Int32} : ig_cal (tb_G L xs) 16 93 = some 390 := (by decide +kernel : tb_cal 16 93 = some 390)
theorem lc_16_109 {L : Nat} {xs : Nat → Int32} : ig_cal (tb_G L xs) 16 109 = some 391 := (by decide +kernel : tb_cal 16 109 = some 391)
theorem lc_16_96 {L : Nat} {xs : Nat → Int32} : ig_cal (tb_G L xs) 16 96 = some 392 := (by decide +kernel : tb_cal 16 96 = some 392)
theorem lc_16_99 {L : Nat} {xs : Nat → Int32} : ig_cal (tb_G L xs) 16 99 = some 393 := (by decide +kernel : tb_cal 16 99 = some 393)
theorem lc_16_102 {L : Nat} {xs : Nat → Int32} : ig_cal (tb_G L xs) 16 102 = some 394 := (by decide +kernel : tb_cal 16 102 = some 394)
theorem lc_16_141 {L : Nat} {xs : Nat → Int32} : ig_cal (tb_G L xs) 16 141 = some 395 := (by decide +kernel : tb_cal 16 141 = some 395)
theorem lc_16_82 {L : Nat} {xs : Nat → Int32} : ig_cal (tb_G L xs) 16 82 = some 396 := (by decide +kernel : tb_cal 16 82 = some 396)
theorem lc_16_86 {L : Nat} {xs : Nat → Int32} : ig_cal (tb_G L xs) 16 86 = some 397 := (by decide +kernel : tb_cal 16 86 = some 397)
theorem lc_16_90 {L : Nat} {xs : Nat → Int32} : ig_cal (tb_G L xs) 16 90 = some 398 := (by decide +kernel : tb_cal 16 90 = some 398)
theorem lc_16_223 {L : Nat} {xs : Nat → Int32} : ig_cal (tb_G L xs) 16 223 = some 399 := (by decide +kernel : tb_cal 16 223 = some 399)
theorem lc_16_137 {L : Nat} {xs : Nat → Int32} : ig_cal (tb_G L xs) 16 137 = some 400 := (by decide +kernel : tb_cal 16 137 = some 400)
theorem lc_16_130 {L : Nat} {xs : Nat → Int32} : ig_cal (tb_G L xs) 16 130 = some 401 := (by decide +kernel : tb_cal 16 130 = some 401)
theorem lc_16_226 {L : Nat} {xs : Nat → Int32} : ig_cal (tb_G L xs) 16 226 = some 402 := (by decide +kernel : tb_cal 16 226 = some 402)
theorem lc_16_153 {L : Nat} {xs : Nat → Int32} : ig_cal (tb_G L xs) 16 153 = some 403 := (by decide +kernel : tb_cal 16 153 = some 403)
theorem lc_16_144 {L : Nat} {xs : Nat → Int32} : ig_cal (tb_G L xs) 16 144 = some 404 := (by decide +kernel : tb_cal 16 144 = some 404)
theorem lc_16_147 {L : Nat} {xs : Nat → Int32} : ig_cal (tb_G L xs) 16 147 = some 405 := (by decide +kernel : tb_cal 16 147 = some 405)
theorem lc_16_150 {L : Nat} {xs : Nat → Int32} : ig_cal (tb_G L xs) 16 150 = some 406 := (by decide +kernel : tb_cal 16 150 = some 406)
theorem lc_16_157 {L : Nat} {xs : Nat → Int32} : ig_cal (tb_G L xs) 16 157 = some 407 := (by decide +kernel : tb_cal 16 157 = some 407)
theorem lc_16_160 {L : Nat} {xs : Nat → Int32} : ig_cal (tb_G L xs) 16 160 = some 408 := (by decide +kernel : tb_cal 16 160 = some 408)
theorem lc_16_232 {L : Nat} {xs : Nat → Int32} : ig_cal (tb_G L xs) 16 232 = some 409 := (by decide +kernel : tb_cal 16 232 = some 409)
theorem lc_16_169 {L : Nat} {xs : Nat → Int32} : ig_cal (tb_G L xs) 16 169 = some 410 := (by decide +kernel : tb_cal 16 169 = some 410)
theorem lc_16_185 {L : Nat} {xs : Nat → Int32} : ig_cal (tb_G L xs) 16 185 = some 411 := (by decide +kernel : tb_cal 16 185 = some 411)
theorem lc_16_166 {L : Nat} {xs : Nat → Int32} : ig_cal (tb_G L xs) 16 166 = some 412 := (by decide +kernel : tb_cal 16 166 = some 412)
theorem lc_16_192 {L : Nat} {xs : Nat → Int32} : ig_cal (tb_G L xs) 16 192 = some 413 := (by decide +kernel : tb_cal 16 192 = some 413)
theorem lc_16_189 {L : Nat} {xs : Nat → Int32} : ig_cal (tb_G L xs) 16 189 = some 414 := (by decide +kernel : tb_cal 16 189 = some 414)
theorem lc_16_196 {L : Nat} {xs : Nat → Int32} : ig_cal (tb_G L xs) 16 196 = some 415 := (by decide +kernel : tb_cal 16 196 = some 415)
theorem lc_16_199 {L : Nat} {xs : Nat → Int32} : ig_cal (tb_G L xs) 16 199 = some 416 := (by decide +kernel : tb_cal 16 199 = some 416)
theorem lc_16_175 {L : Nat} {xs : Nat → Int32} : ig_cal (tb_G L xs) 16 175 = some 417 := (by decide +kernel : tb_cal 16 175 = some 417)
theorem lc_16_172 {L : Nat} {xs : Nat → Int32} : ig_cal (tb_G L xs) 16 172 = some 418 := (by decide +kernel : tb_cal 16 172 = some 418)
theorem lc_16_178 {L : Nat} {xs : Nat → Int32} : ig_cal (tb_G L xs) 16 178 = some 419 := (by decide +kernel : tb_cal 16 178 = some 419)
theorem lc_16_182 {L : Nat} {xs : Nat → Int32} : ig_cal (tb_G L xs) 16 182 = some 420 := (by decide +kernel : tb_cal 16 182 = some 420)
theorem lc_16_235 {L : Nat} {xs : Nat → Int32} : ig_cal (tb_G L xs) 16 235 = some 421 := (by decide +kernel : tb_cal 16 235 = some 421)
theorem lc_16_238 {L : Nat} {xs : Nat → Int32} : ig_cal (tb_G L xs) 16 238 = some 422 := (by decide +kernel : tb_cal 16 238 = some 422)
theorem lc_16_202 {L : Nat} {xs : Nat → Int32} : ig_cal (tb_G L xs) 16 202 = some 423 := (by decide +kernel : tb_cal 16 202 = some 423)
theorem lc_16_242 {L : Nat} {xs : Nat → Int32} : ig_cal (tb_G L xs) 16 242 = some 424 := (by decide +kernel : tb_cal 16 242 = some 424)
theorem lc_16_210 {L : Nat} {xs : Nat → Int32} : ig_cal (tb_G L xs) 16 210 = some 425 := (by decide +kernel : tb_cal 16 210 = some 425)
theorem lc_16_206 {L : Nat} {xs : Nat → Int32} : ig_cal (tb_G L xs) 16 206 = some 426 := (by decide +kernel : tb_cal 16 206 = some 426)
theorem lc_17_143 {L : Nat} {xs : Nat → Int32} : ig_cal (tb_G L xs) 17 143 = some 427 := (by decide +kernel : tb_cal 17 143 = some 427)
theorem lc_17_169 {L : Nat} {xs : Nat → Int32} : ig_cal (tb_G L xs) 17 169 = some 428 := (by decide +kernel : tb_cal 17 169 = some 428)
theorem lc_17_172 {L : Nat} {xs : Nat → Int32} : ig_cal (tb_G L xs) 17 172 = some 429 := (by decide +kernel : tb_cal 17 172 = some 429)
theorem lc_12_127 {L : Nat} {xs : Nat → Int32} : ig_cal (tb_G L xs) 12 127 = some 430 := (by decide +kernel : tb_cal 12 127 = some 430)
theorem lc_17_175 {L : Nat} {xs : Nat → Int32} : ig_cal (tb_G L xs) 17 175 = some 431 := (by decide +kernel : tb_cal 17 175 = some 431)
theorem lc_17_178 {L : Nat} {xs : Nat → Int32} : ig_cal (tb_G L xs) 17 178 = some 432 := (by decide +kernel : tb_cal 17 178 = some 432)
theorem lc_17_181 {L : Nat} {xs : Nat → Int32} : ig_cal (tb_G L xs) 17 181 = some 433 := (by decide +kernel : tb_cal 17 181 = some 433)
theorem lc_17_203 {L : Nat} {xs : Nat → Int32} : ig_cal (tb_G L xs) 17 203 = some 434 := (by decide +kernel : tb_cal 17 203 = some 434)
theorem lc_17_184 {L : Nat} {xs : Nat → Int32} : ig_cal (tb_G L xs) 17 184 = some 435 := (by decide +kernel : tb_cal 17 184 = some 435)
theorem lc_17_187 {L : Nat} {xs : Nat → Int32} : ig_cal (tb_G L xs) 17 187 = some 436 := (by decide +kernel : tb_cal 17 187 = some 436)
theorem lc_14_44 {L : Nat} {xs : Nat → Int32} : ig_cal (tb_G L xs) 14 44 = some 437 := (by decide +kernel : tb_cal 14 44 = some 437)
theorem lc_17_191 {L : Nat} {xs : Nat → Int32} : ig_cal (tb_G L xs) 17 191 = some 438 := (by decide +kernel : tb_cal 17 191 = some 438)
theorem lc_17_209 {L : Nat} {xs : Nat → Int32} : ig_cal (tb_G L xs) 17 209 = some 439 := (by decide +kernel : tb_cal 17 209 = some 439)
theorem lc_17_213 {L : Nat} {xs : Nat → Int32} : ig_cal (tb_G L xs) 17 213 = some 440 := (by decide +kernel : tb_cal 17 213 = some 440)
theorem lc_17_206 {L : Nat} {xs : Nat → Int32} : ig_cal (tb_G L xs) 17 206 = some 441 := (by decide +kernel : tb_cal 17 206 = some 441)
theorem lc_17_192 {L : Nat} {xs : Nat → Int32} : ig_cal (tb_G L xs) 17 192 = some 442 := (by decide +kernel : tb_cal 17 192 = some 442)
theorem lc_14_47 {L : Nat} {xs : Nat → Int32} : ig_cal (tb_G L xs) 14 47 = some 443 := (by decide +kernel : tb_cal 14 47 = some 443)
theorem lc_14_51 {L : Nat} {xs : Nat → Int32} : ig_cal (tb_G L xs) 14 51 = some 444 := (by decide +kernel : tb_cal 14 51 = some 444)
theorem lc_18_123 {L : Nat} {xs : Nat → Int32} : ig_cal (tb_G L xs) 18 123 = some 445 := (by decide +kernel : tb_cal 18 123 = some 445)
theorem lc_18_128 {L : Nat} {xs : Nat → Int32} : ig_cal (tb_G L xs) 18 128 = some 446 := (by decide +kernel : tb_cal 18 128 = some 446)
theorem lc_18_132 {L : Nat} {xs : Nat → Int32} : ig_cal (tb_G L xs) 18 132 = some 447 := (by decide +kernel : tb_cal 18 132 = some 447)
theorem lc_17_217 {L : Nat} {xs : Nat → Int32} : ig_cal (tb_G L xs) 17 217 = some 448 := (by decide +kernel : tb_cal 17 217 = some 448)
theorem lc_12_138 {L : Nat} {xs : Nat → Int32} : ig_cal (tb_G L xs) 12 138 = some 449 := (by decide +kernel : tb_cal 12 138 = some 449)
theorem lc_18_135 {L : Nat} {xs : Nat → Int32} : ig_cal (tb_G L xs) 18 135 = some 450 := (by decide +kernel : tb_cal 18 135 = some 450)
theorem lc_18_139 {L : Nat} {xs : Nat → Int32} : ig_cal (tb_G L xs) 18 139 = some 451 := (by decide +kernel : tb_cal 18 139 = some 451)
theorem lc_18_143 {L : Nat} {xs : Nat → Int32} : ig_cal (tb_G L xs) 18 143 = some 452 := (by decide +kernel : tb_cal 18 143 = some 452)
theorem lc_17_219 {L : Nat} {xs : Nat → Int32} : ig_cal (tb_G L xs) 17 219 = some 453 := (by decide +kernel : tb_cal 17 219 = some 453)
theorem lc_18_147 {L : Nat} {xs : Nat → Int32} : ig_cal (tb_G L xs) 18 147 = some 454 := (by decide +kernel : tb_cal 18 147 = some 454)
theorem lc_17_223 {L : Nat} {xs : Nat → Int32} : ig_cal (tb_G L xs) 17 223 = some 455 := (by decide +kernel : tb_cal 17 223 = some 455)
theorem lc_14_112 {L : Nat} {xs : Nat → Int32} : ig_cal (tb_G L xs) 14 112 = some 456 := (by decide +kernel : tb_cal 14 112 = some 456)
theorem lc_14_115 {L : Nat} {xs : Nat → Int32} : ig_cal (tb_G L xs) 14 115 = some 457 := (by decide +kernel : tb_cal 14 115 = some 457)
theorem lc_14_59 {L : Nat} {xs : Nat → Int32} : ig_cal (tb_G L xs) 14 59 = some 458 := (by decide +kernel : tb_cal 14 59 = some 458)
theorem lc_14_71 {L : Nat} {xs : Nat → Int32} : ig_cal (tb_G L xs) 14 71 = some 459 := (by decide +kernel : tb_cal 14 71 = some 459)
theorem lc_14_63 {L : Nat} {xs : Nat → Int32} : ig_cal (tb_G L xs) 14 63 = some 460 := (by decide +kernel : tb_cal 14 63 = some 460)
theorem lc_14_55 {L : Nat} {xs : Nat → Int32} : ig_cal (tb_G L xs) 14 55 = some 461 := (by decide +kernel : tb_cal 14 55 = some 461)
theorem lc_14_119 {L : Nat} {xs : Nat → Int32} : ig_cal (tb_G L xs) 14 119 = some 462 := (by decide +kernel : tb_cal 14 119 = some 462)
theorem lc_14_67 {L : Nat} {xs : Nat → Int32} : ig_cal (tb_G L xs) 14 67 = some 463 := (by decide +kernel : tb_cal 14 67 = some 463)
theorem lc_14_95 {L : Nat} {xs : Nat → Int32} : ig_cal (tb_G L xs) 14 95 = some 464 := (by decide +kernel : tb_cal 14 95 = some 464)
theorem lc_14_91 {L : Nat} {xs : Nat → Int32} : ig_cal (tb_G L xs) 14 91 = some 465 := (by decide +kernel : tb_cal 14 91 = some 465)
theorem lc_14_75 {L : Nat} {xs : Nat → Int32} : ig_cal (tb_G L xs) 14 75 = some 466 := (by decide +kernel : tb_cal 14 75 = some 466)
theorem lc_14_88 {L : Nat} {xs : Nat → Int32} : ig_cal (tb_G L xs) 14 88 = some 467 := (by decide +kernel : tb_cal 14 88 = some 467)
theorem lc_14_78 {L : Nat} {xs : Nat → Int32} : ig_cal (tb_G L xs) 14 78 = some 468 := (by decide +kernel : tb_cal 14 78 = some 468)
theorem lc_14_98 {L : Nat} {xs : Nat → Int32} : ig_cal (tb_G L xs) 14 98 = some 469 := (by decide +kernel : tb_cal 14 98 = some 469)
theorem lc_14_122 {L : Nat} {xs : Nat → Int32} : ig_cal (tb_G L xs) 14 122 = some 470 := (by decide +kernel : tb_cal 14 122 = some 470)
theorem lc_14_105 {L : Nat} {xs : Nat → Int32} : ig_cal (tb_G L xs) 14 105 = some 471 := (by decide +kernel : tb_cal 14 105 = some 471)
theorem lc_14_108 {L : Nat} {xs : Nat → Int32} : ig_cal (tb_G L xs) 14 108 = some 472 := (by decide +kernel : tb_cal 14 108 = some 472)
theorem lc_14_102 {L : Nat} {xs : Nat → Int32} : ig_cal (tb_G L xs) 14 102 = some 473 := (by decide +kernel : tb_cal 14 102 = some 473)
theorem lc_17_226 {L : Nat} {xs : Nat → Int32} : ig_cal (tb_G L xs) 17 226 = some 474 := (by decide +kernel : tb_cal 17 226 = some 474)
theorem lc_18_150 {L : Nat} {xs : Nat → Int32} : ig_cal (tb_G L xs) 18 150 = some 475 := (by decide +kernel : tb_cal 18 150 = some 475)
theorem lc_17_227 {L : Nat} {xs : Nat → Int32} : ig_cal (tb_G L xs) 17 227 = some 476 := (by decide +kernel : tb_cal 17 227 = some 476)
theorem lc_18_153 {L : Nat} {xs : Nat → Int32} : ig_cal (tb_G L xs) 18 153 = some 477 := (by decide +kernel : tb_cal 18 153 = some 477)
theorem lc_17_232 {L : Nat} {xs : Nat → Int32} : ig_cal (tb_G L xs) 17 232 = some 478 := (by decide +kernel : tb_cal 17 232 = some 478)
theorem lc_17_235 {L : Nat} {xs : Nat → Int32} : ig_cal (tb_G L xs) 17 235 = some 479 := (by decide +kernel : tb_cal 17 235 = some 479)
theorem lc_14_81 {L : Nat} {xs : Nat → Int32} : ig_cal (tb_G L xs) 14 81 = some 480 := (by decide +kernel : tb_cal 14 81 = some 480)
theorem lc_17_238 {L : Nat} {xs : Nat → Int32} : ig_cal (tb_G L xs) 17 238 = some 481 := (by decide +kernel : tb_cal 17 238 = some 481)
theorem lc_17_241 {L : Nat} {xs : Nat → Int32} : ig_cal (tb_G L xs) 17 241 = some 482 := (by decide +kernel : tb_cal 17 241 = some 482)
theorem lc_16_306 {L : Nat} {xs : Nat → Int32} : ig_cal (tb_G L xs) 16 306 = some 483 := (by decide +kernel : tb_cal 16 306 = some 483)
theorem lc_16_267 {L : Nat} {xs : Nat → Int32} : ig_cal (tb_G L xs) 16 267 = some 484 := (by decide +kernel : tb_cal 16 267 = some 484)
theorem lc_16_270 {L : Nat} {xs : Nat → Int32} : ig_cal (tb_G L xs) 16 270 = some 485 := (by decide +kernel : tb_cal 16 270 = some 485)
theorem lc_16_309 {L : Nat} {xs : Nat → Int32} : ig_cal (tb_G L xs) 16 309 = some 486 := (by decide +kernel : tb_cal 16 309 = some 486)
theorem lc_16_273 {L : Nat} {xs : Nat → Int32} : ig_cal (tb_G L xs) 16 273 = some 487 := (by decide +kernel : tb_cal 16 273 = some 487)
theorem lc_16_276 {L : Nat} {xs : Nat → Int32} : ig_cal (tb_G L xs) 16 276 = some 488 := (by decide +kernel : tb_cal 16 276 = some 488)
theorem lc_16_257 {L : Nat} {xs : Nat → Int32} : ig_cal (tb_G L xs) 16 257 = some 489 := (by decide +kernel : tb_cal 16 257 = some 489)
theorem lc_16_261 {L : Nat} {xs : Nat → Int32} : ig_cal (tb_G L xs) 16 261 = some 490 := (by decide +kernel : tb_cal 16 261 = some 490)
theorem lc_16_253 {L : Nat} {xs : Nat → Int32} : ig_cal (tb_G L xs) 16 253 = some 491 := (by decide +kernel : tb_cal 16 253 = some 491)
theorem lc_16_250 {L : Nat} {xs : Nat → Int32} : ig_cal (tb_G L xs) 16 250 = some 492 := (by decide +kernel : tb_cal 16 250 = some 492)
theorem lc_16_264 {L : Nat} {xs : Nat → Int32} : ig_cal (tb_G L xs) 16 264 = some 493 := (by decide +kernel : tb_cal 16 264 = some 493)
theorem lc_16_312 {L : Nat} {xs : Nat → Int32} : ig_cal (tb_G L xs) 16 312 = some 494 := (by decide +kernel : tb_cal 16 312 = some 494)
theorem lc_16_291 {L : Nat} {xs : Nat → Int32} : ig_cal (tb_G L xs) 16 291 = some 495 := (by decide +kernel : tb_cal 16 291 = some 495)
theorem lc_16_300 {L : Nat} {xs : Nat → Int32} : ig_cal (tb_G L xs) 16 300 = some 496 := (by decide +kernel : tb_cal 16 300 = some 496)
theorem lc_16_294 {L : Nat} {xs : Nat → Int32} : ig_cal (tb_G L xs) 16 294 = some 497 := (by decide +kernel : tb_cal 16 294 = some 497)
theorem lc_16_297 {L : Nat} {xs : Nat → Int32} : ig_cal (tb_G L xs) 16 297 = some 498 := (by decide +kernel : tb_cal 16 297 = some 498)
theorem lc_17_242 {L : Nat} {xs : Nat → Int32} : ig_cal (tb_G L xs) 17 242 = some 499 := (by decide +kernel : tb_cal 17 242 = some 499)
theorem lc_18_157 {L : Nat} {xs : Nat → Int32} : ig_cal (tb_G L xs) 18 157 = some 500 := (by decide +kernel : tb_cal 18 157 = some 500)
theorem lc_17_251 {L : Nat} {xs : Nat → Int32} : ig_cal (tb_G L xs) 17 251 = some 501 := (by decide +kernel : tb_cal 17 251 = some 501)
theorem lc_17_245 {L : Nat} {xs : Nat → Int32} : ig_cal (tb_G L xs) 17 245 = some 502 := (by decide +kernel : tb_cal 17 245 = some 502)
theorem lc_17_248 {L : Nat} {xs : Nat → Int32} : ig_cal (tb_G L xs) 17 248 = some 503 := (by decide +kernel : tb_cal 17 248 = some 503)
theorem lc_17_249 {L : Nat} {xs : Nat → Int32} : ig_cal (tb_G L xs) 17 249 = some 504 := (by decide +kernel : tb_cal 17 249 = some 504)
theorem lc_17_255 {L : Nat} {xs : Nat → Int32} : ig_cal (tb_G L xs) 17 255 = some 505 := (by decide +kernel : tb_cal 17 255 = some 505)
theorem lc_13_263 {L : Nat} {xs : Nat → Int32} : ig_cal (tb_G L xs) 13 263 = some 506 := (by decide +kernel : tb_cal 13 263 = some 506)
theorem lc_13_256 {L : Nat} {xs : Nat → Int32} : ig_cal (tb_G L xs) 13 256 = some 507 := (by decide +kernel : tb_cal 13 256 = some 507)
theorem lc_13_240 {L : Nat} {xs : Nat → Int32} : ig_cal (tb_G L xs) 13 240 = some 508 := (by decide +kernel : tb_cal 13 240 = some 508)
theorem lc_13_243 {L : Nat} {xs : Nat → Int32} : ig_cal (tb_G L xs) 13 243 = some 509 := (by decide +kernel : tb_cal 13 243 = some 509)
theorem lc_13_247 {L : Nat} {xs : Nat → Int32} : ig_cal (tb_G L xs) 13 247 = some 510 := (by decide +kernel : tb_cal 13 247 = some 510)
theorem lc_13_253 {L : Nat} {xs : Nat → Int32} : ig_cal (tb_G L xs) 13 253 = some 511 := (by decide +kernel : tb_cal 13 253 = some 511)
theorem lc_13_260 {L : Nat} {xs : Nat → Int32} : ig_cal (tb_G L xs) 13 260 = some 512 := (by decide +kernel : tb_cal 13 260 = some 512)
theorem lc_13_236 {L : Nat} {xs : Nat → Int32} : ig_cal (tb_G L xs) 13 236 = some 513 := (by decide +kernel : tb_cal 13 236 = some 513)
theorem lc_17_256 {L : Nat} {xs : Nat → Int32} : ig_cal (tb_G L xs) 17 256 = some 514 := (by decide +kernel : tb_cal 17 256 = some 514)
theorem lc_18_160 {L : Nat} {xs : Nat → Int32} : ig_cal (tb_G L xs) 18 160 = some 515 := (by decide +kernel : tb_cal 18 160 = some 515)
theorem lc_17_259 {L : Nat} {xs : Nat → Int32} : ig_cal (tb_G L xs) 17 259 = some 516 := (by decide +kernel : tb_cal 17 259 = some 516)
theorem lc_17_260 {L : Nat} {xs : Nat → Int32} : ig_cal (tb_G L xs) 17 260 = some 517 := (by decide +kernel : tb_cal 17 260 = some 517)
theorem lc_17_264 {L : Nat} {xs : Nat → Int32} : ig_cal (tb_G L xs) 17 264 = some 518 := (by decide +kernel : tb_cal 17 264 = some 518)
theorem lc_18_165 {L : Nat} {xs : Nat → Int32} : ig_cal (tb_G L xs) 18 165 = some 519 := (by decide +kernel : tb_cal 18 165 = some 519)
theorem lc_11_9 {L : Nat} {xs : Nat → Int32} : ig_cal (tb_G L xs) 11 9 = some 1 := (by decide +kernel : tb_cal 11 9 = some 1)
theorem lc_8_43 {L : Nat} {xs : Nat → Int32} : ig_cal (tb_G L xs) 8 43 = some 4 := (by decide +kernel : tb_cal 8 43 = some 4)
theorem lc_11_36 {L : Nat} {xs : Nat → Int32} : ig_cal (tb_G L xs) 11 36 = some 5 := (by decide +kernel : tb_cal 11 36 = some 5)
theorem lc_11_43 {L : Nat} {xs : Nat → Int32} : ig_cal (tb_G L xs) 11 43 = some 6 := (by decide +kernel : tb_cal 11 43 = some 6)
theorem lc_11_50 {L : Nat} {xs : Nat → Int32} : ig_cal (tb_G L xs) 11 50 = some 7 := (by decide +kernel : tb_cal 11 50 = some 7)
theorem lc_4_11 {L : Nat} {xs : Nat → Int32} : ig_cal (tb_G L xs) 4 11 = some 8 := (by decide +kernel : tb_cal 4 11 = some 8)
set_option maxRecDepth 100000 in
theorem lT_0 {L : Nat} {xs : Nat → Int32} : ig_T (tb_G L xs) 0 = some J_H_init := (rfl : tb_M[0]? = some J_H_init)
set_option maxRecDepth 100000 in
theorem lT_1 {L : Nat} {xs : Nat → Int32} : ig_T (tb_G L xs) 1 = some J_HTape_init := (rfl : tb_M[1]? = some J_HTape_init)
set_option maxRecDepth 100000 in
theorem lT_2 {L : Nat} {xs : Nat → Int32} : ig_T (tb_G L xs) 2 = some J_HOrders_init := (rfl : tb_M[2]? = some J_HOrders_init)
set_option maxRecDepth 100000 in
theorem lT_3 {L : Nat} {xs : Nat → Int32} : ig_T (tb_G L xs) 3 = some J_HSetter_init := (rfl : tb_M[3]? = some J_HSetter_init)
set_option maxRecDepth 100000 in
theorem lT_4 {L : Nat} {xs : Nat → Int32} : ig_T (tb_G L xs) 4 = some J_HField_init := (rfl : tb_M[4]? = some J_HField_init)
set_option maxRecDepth 100000 in
theorem lT_5 {L : Nat} {xs : Nat → Int32} : ig_T (tb_G L xs) 5 = some J_HSheet_init := (rfl : tb_M[5]? = some J_HSheet_init)
set_option maxRecDepth 100000 in
theorem lT_6 {L : Nat} {xs : Nat → Int32} : ig_T (tb_G L xs) 6 = some J_HBars_init := (rfl : tb_M[6]? = some J_HBars_init)
set_option maxRecDepth 100000 in
theorem lT_7 {L : Nat} {xs : Nat → Int32} : ig_T (tb_G L xs) 7 = some J_HGrid_init := (rfl : tb_M[7]? = some J_HGrid_init)
set_option maxRecDepth 100000 in
theorem lT_8 {L : Nat} {xs : Nat → Int32} : ig_T (tb_G L xs) 8 = some J_HSegments_init := (rfl : tb_M[8]? = some J_HSegments_init)
set_option maxRecDepth 100000 in
theorem lT_9 {L : Nat} {xs : Nat → Int32} : ig_T (tb_G L xs) 9 = some J_HBlocks_init := (rfl : tb_M[9]? = some J_HBlocks_init)
set_option maxRecDepth 100000 in
theorem lT_10 {L : Nat} {xs : Nat → Int32} : ig_T (tb_G L xs) 10 = some J_HPen_init := (rfl : tb_M[10]? = some J_HPen_init)
set_option maxRecDepth 100000 in
theorem lT_11 {L : Nat} {xs : Nat → Int32} : ig_T (tb_G L xs) 11 = some J_HFinder_init := (rfl : tb_M[11]? = some J_HFinder_init)
set_option maxRecDepth 100000 in
theorem lT_12 {L : Nat} {xs : Nat → Int32} : ig_T (tb_G L xs) 12 = some J_H_wipe := (rfl : tb_M[12]? = some J_H_wipe)
set_option maxRecDepth 100000 in
theorem lT_13 {L : Nat} {xs : Nat → Int32} : ig_T (tb_G L xs) 13 = some J_H_read := (rfl : tb_M[13]? = some J_H_read)
set_option maxRecDepth 100000 in
theorem lT_14 {L : Nat} {xs : Nat → Int32} : ig_T (tb_G L xs) 14 = some J_HSetter_followAll := (rfl : tb_M[14]? = some J_HSetter_followAll)
set_option maxRecDepth 100000 in
theorem lT_15 {L : Nat} {xs : Nat → Int32} : ig_T (tb_G L xs) 15 = some J_HTape_rewind := (rfl : tb_M[15]? = some J_HTape_rewind)
set_option maxRecDepth 100000 in
theorem lT_16 {L : Nat} {xs : Nat → Int32} : ig_T (tb_G L xs) 16 = some J_HTape_passBlanks := (rfl : tb_M[16]? = some J_HTape_passBlanks)
set_option maxRecDepth 100000 in
theorem lT_17 {L : Nat} {xs : Nat → Int32} : ig_T (tb_G L xs) 17 = some J_HTape_next := (rfl : tb_M[17]? = some J_HTape_next)
set_option maxRecDepth 100000 in
theorem lT_18 {L : Nat} {xs : Nat → Int32} : ig_T (tb_G L xs) 18 = some J_HTape_pass := (rfl : tb_M[18]? = some J_HTape_pass)
set_option maxRecDepth 100000 in
theorem lT_19 {L : Nat} {xs : Nat → Int32} : ig_T (tb_G L xs) 19 = some J_HSetter_follow := (rfl : tb_M[19]? = some J_HSetter_follow)
set_option maxRecDepth 100000 in
theorem lT_20 {L : Nat} {xs : Nat → Int32} : ig_T (tb_G L xs) 20 = some J_String_indexOf := (rfl : tb_M[20]? = some J_String_indexOf)
set_option maxRecDepth 100000 in
theorem lT_21 {L : Nat} {xs : Nat → Int32} : ig_T (tb_G L xs) 21 = some J_String_indexOf2 := (rfl : tb_M[21]? = some J_String_indexOf2)
set_option maxRecDepth 100000 in
theorem lT_22 {L : Nat} {xs : Nat → Int32} : ig_T (tb_G L xs) 22 = some J_String_isLatin1 := (rfl : tb_M[22]? = some J_String_isLatin1)
set_option maxRecDepth 100000 in
theorem lT_23 {L : Nat} {xs : Nat → Int32} : ig_T (tb_G L xs) 23 = some J_String_length := (rfl : tb_M[23]? = some J_String_length)
set_option maxRecDepth 100000 in
theorem lT_24 {L : Nat} {xs : Nat → Int32} : ig_T (tb_G L xs) 24 = some J_String_coder := (rfl : tb_M[24]? = some J_String_coder)
set_option maxRecDepth 100000 in
theorem lT_25 {L : Nat} {xs : Nat → Int32} : ig_T (tb_G L xs) 25 = some J_StringLatin1_indexOf := (rfl : tb_M[25]? = some J_StringLatin1_indexOf)
set_option maxRecDepth 100000 in
theorem lT_26 {L : Nat} {xs : Nat → Int32} : ig_T (tb_G L xs) 26 = some J_StringLatin1_canEncode := (rfl : tb_M[26]? = some J_StringLatin1_canEncode)
set_option maxRecDepth 100000 in
theorem lT_27 {L : Nat} {xs : Nat → Int32} : ig_T (tb_G L xs) 27 = some J_Math_max := (rfl : tb_M[27]? = some J_Math_max)
set_option maxRecDepth 100000 in
theorem lT_28 {L : Nat} {xs : Nat → Int32} : ig_T (tb_G L xs) 28 = some J_Math_min := (rfl : tb_M[28]? = some J_Math_min)
set_option maxRecDepth 100000 in
theorem lT_29 {L : Nat} {xs : Nat → Int32} : ig_T (tb_G L xs) 29 = some J_StringLatin1_indexOfChar := (rfl : tb_M[29]? = some J_StringLatin1_indexOfChar)
set_option maxRecDepth 100000 in
theorem lT_30 {L : Nat} {xs : Nat → Int32} : ig_T (tb_G L xs) 30 = some J_String_checkBoundsBeginEnd := (rfl : tb_M[30]? = some J_String_checkBoundsBeginEnd)
set_option maxRecDepth 100000 in
theorem lT_31 {L : Nat} {xs : Nat → Int32} : ig_T (tb_G L xs) 31 = some J_HSetter_canStand := (rfl : tb_M[31]? = some J_HSetter_canStand)
set_option maxRecDepth 100000 in
theorem lT_32 {L : Nat} {xs : Nat → Int32} : ig_T (tb_G L xs) 32 = some J_HSetter_leaveOut := (rfl : tb_M[32]? = some J_HSetter_leaveOut)
set_option maxRecDepth 100000 in
theorem lT_33 {L : Nat} {xs : Nat → Int32} : ig_T (tb_G L xs) 33 = some J_HTape_takeNumberAndComma := (rfl : tb_M[33]? = some J_HTape_takeNumberAndComma)
set_option maxRecDepth 100000 in
theorem lT_34 {L : Nat} {xs : Nat → Int32} : ig_T (tb_G L xs) 34 = some J_HTape_takeNumber := (rfl : tb_M[34]? = some J_HTape_takeNumber)
set_option maxRecDepth 100000 in
theorem lT_35 {L : Nat} {xs : Nat → Int32} : ig_T (tb_G L xs) 35 = some J_HTape_isDigit := (rfl : tb_M[35]? = some J_HTape_isDigit)
set_option maxRecDepth 100000 in
theorem lT_36 {L : Nat} {xs : Nat → Int32} : ig_T (tb_G L xs) 36 = some J_HTape_takeNumbers := (rfl : tb_M[36]? = some J_HTape_takeNumbers)
set_option maxRecDepth 100000 in
theorem lT_37 {L : Nat} {xs : Nat → Int32} : ig_T (tb_G L xs) 37 = some J_HSetter_inRanges := (rfl : tb_M[37]? = some J_HSetter_inRanges)
set_option maxRecDepth 100000 in
theorem lT_38 {L : Nat} {xs : Nat → Int32} : ig_T (tb_G L xs) 38 = some J_HTape_takeData := (rfl : tb_M[38]? = some J_HTape_takeData)
set_option maxRecDepth 100000 in
theorem lT_39 {L : Nat} {xs : Nat → Int32} : ig_T (tb_G L xs) 39 = some J_HTape_takeHexPair := (rfl : tb_M[39]? = some J_HTape_takeHexPair)
set_option maxRecDepth 100000 in
theorem lT_40 {L : Nat} {xs : Nat → Int32} : ig_T (tb_G L xs) 40 = some J_HTape_hexValue := (rfl : tb_M[40]? = some J_HTape_hexValue)
set_option maxRecDepth 100000 in
theorem lT_41 {L : Nat} {xs : Nat → Int32} : ig_T (tb_G L xs) 41 = some J_HSetter_laterFault := (rfl : tb_M[41]? = some J_HSetter_laterFault)
set_option maxRecDepth 100000 in
theorem lT_42 {L : Nat} {xs : Nat → Int32} : ig_T (tb_G L xs) 42 = some J_HTape_endOfForm := (rfl : tb_M[42]? = some J_HTape_endOfForm)
set_option maxRecDepth 100000 in
theorem lT_43 {L : Nat} {xs : Nat → Int32} : ig_T (tb_G L xs) 43 = some J_HField_cutLines := (rfl : tb_M[43]? = some J_HField_cutLines)
set_option maxRecDepth 100000 in
theorem lT_44 {L : Nat} {xs : Nat → Int32} : ig_T (tb_G L xs) 44 = some J_HField_endOfPiece := (rfl : tb_M[44]? = some J_HField_endOfPiece)
set_option maxRecDepth 100000 in
theorem lT_45 {L : Nat} {xs : Nat → Int32} : ig_T (tb_G L xs) 45 = some J_HField_lastBlank := (rfl : tb_M[45]? = some J_HField_lastBlank)
set_option maxRecDepth 100000 in
theorem lT_46 {L : Nat} {xs : Nat → Int32} : ig_T (tb_G L xs) 46 = some J_HField_addLine := (rfl : tb_M[46]? = some J_HField_addLine)
set_option maxRecDepth 100000 in
theorem lT_47 {L : Nat} {xs : Nat → Int32} : ig_T (tb_G L xs) 47 = some J_HField_hasItsData := (rfl : tb_M[47]? = some J_HField_hasItsData)
set_option maxRecDepth 100000 in
theorem lT_48 {L : Nat} {xs : Nat → Int32} : ig_T (tb_G L xs) 48 = some J_HField_allDigits := (rfl : tb_M[48]? = some J_HField_allDigits)
set_option maxRecDepth 100000 in
theorem lT_49 {L : Nat} {xs : Nat → Int32} : ig_T (tb_G L xs) 49 = some J_HField_isPicture := (rfl : tb_M[49]? = some J_HField_isPicture)
set_option maxRecDepth 100000 in
theorem lT_50 {L : Nat} {xs : Nat → Int32} : ig_T (tb_G L xs) 50 = some J_HField_build := (rfl : tb_M[50]? = some J_HField_build)
set_option maxRecDepth 100000 in
theorem lT_51 {L : Nat} {xs : Nat → Int32} : ig_T (tb_G L xs) 51 = some J_HField_layLines := (rfl : tb_M[51]? = some J_HField_layLines)
set_option maxRecDepth 100000 in
theorem lT_52 {L : Nat} {xs : Nat → Int32} : ig_T (tb_G L xs) 52 = some J_HOrders_lay := (rfl : tb_M[52]? = some J_HOrders_lay)
set_option maxRecDepth 100000 in
theorem lT_53 {L : Nat} {xs : Nat → Int32} : ig_T (tb_G L xs) 53 = some J_Arrays_fill := (rfl : tb_M[53]? = some J_Arrays_fill)
set_option maxRecDepth 100000 in
theorem lT_54 {L : Nat} {xs : Nat → Int32} : ig_T (tb_G L xs) 54 = some J_Arrays_rangeCheck := (rfl : tb_M[54]? = some J_Arrays_rangeCheck)
set_option maxRecDepth 100000 in
theorem lT_55 {L : Nat} {xs : Nat → Int32} : ig_T (tb_G L xs) 55 = some J_Arrays_copyOf := (rfl : tb_M[55]? = some J_Arrays_copyOf)
set_option maxRecDepth 100000 in
theorem lT_56 {L : Nat} {xs : Nat → Int32} : ig_T (tb_G L xs) 56 = some J_StringLatin1_inflate := (rfl : tb_M[56]? = some J_StringLatin1_inflate)
set_option maxRecDepth 100000 in
theorem lT_57 {L : Nat} {xs : Nat → Int32} : ig_T (tb_G L xs) 57 = some J_String_checkBoundsOffCount := (rfl : tb_M[57]? = some J_String_checkBoundsOffCount)
set_option maxRecDepth 100000 in
theorem lT_58 {L : Nat} {xs : Nat → Int32} : ig_T (tb_G L xs) 58 = some J_String_getBytes := (rfl : tb_M[58]? = some J_String_getBytes)
set_option maxRecDepth 100000 in
theorem lT_59 {L : Nat} {xs : Nat → Int32} : ig_T (tb_G L xs) 59 = some J_Integer_stringSize := (rfl : tb_M[59]? = some J_Integer_stringSize)
set_option maxRecDepth 100000 in
theorem lT_60 {L : Nat} {xs : Nat → Int32} : ig_T (tb_G L xs) 60 = some J_Integer_getChars := (rfl : tb_M[60]? = some J_Integer_getChars)
set_option maxRecDepth 100000 in
theorem lT_61 {L : Nat} {xs : Nat → Int32} : ig_T (tb_G L xs) 61 = some J_Arrays_copyOfRange := (rfl : tb_M[61]? = some J_Arrays_copyOfRange)
set_option maxRecDepth 100000 in
theorem lT_62 {L : Nat} {xs : Nat → Int32} : ig_T (tb_G L xs) 62 = some J_Arrays_copyOfRangeByte := (rfl : tb_M[62]? = some J_Arrays_copyOfRangeByte)
set_option maxRecDepth 100000 in
theorem lT_63 {L : Nat} {xs : Nat → Int32} : ig_T (tb_G L xs) 63 = some J_Arrays_checkLength := (rfl : tb_M[63]? = some J_Arrays_checkLength)
set_option maxRecDepth 100000 in
theorem lT_64 {L : Nat} {xs : Nat → Int32} : ig_T (tb_G L xs) 64 = some J_HOrders_move := (rfl : tb_M[64]? = some J_HOrders_move)
set_option maxRecDepth 100000 in
theorem lT_65 {L : Nat} {xs : Nat → Int32} : ig_T (tb_G L xs) 65 = some J_HOrders_number := (rfl : tb_M[65]? = some J_HOrders_number)
set_option maxRecDepth 100000 in
theorem lT_66 {L : Nat} {xs : Nat → Int32} : ig_T (tb_G L xs) 66 = some J_HOrders_slice := (rfl : tb_M[66]? = some J_HOrders_slice)
set_option maxRecDepth 100000 in
theorem lT_67 {L : Nat} {xs : Nat → Int32} : ig_T (tb_G L xs) 67 = some J_HField_layOthers := (rfl : tb_M[67]? = some J_HField_layOthers)
set_option maxRecDepth 100000 in
theorem lT_68 {L : Nat} {xs : Nat → Int32} : ig_T (tb_G L xs) 68 = some J_HOrders_inRange := (rfl : tb_M[68]? = some J_HOrders_inRange)
set_option maxRecDepth 100000 in
theorem lT_69 {L : Nat} {xs : Nat → Int32} : ig_T (tb_G L xs) 69 = some J_HSetter_isTooMuch := (rfl : tb_M[69]? = some J_HSetter_isTooMuch)
set_option maxRecDepth 100000 in
theorem lT_70 {L : Nat} {xs : Nat → Int32} : ig_T (tb_G L xs) 70 = some J_HSetter_perform := (rfl : tb_M[70]? = some J_HSetter_perform)
set_option maxRecDepth 100000 in
theorem lT_71 {L : Nat} {xs : Nat → Int32} : ig_T (tb_G L xs) 71 = some J_HTape_keepForm := (rfl : tb_M[71]? = some J_HTape_keepForm)
set_option maxRecDepth 100000 in
theorem lT_72 {L : Nat} {xs : Nat → Int32} : ig_T (tb_G L xs) 72 = some J_HSetter_beginLabel := (rfl : tb_M[72]? = some J_HSetter_beginLabel)
set_option maxRecDepth 100000 in
theorem lT_73 {L : Nat} {xs : Nat → Int32} : ig_T (tb_G L xs) 73 = some J_HField_clear := (rfl : tb_M[73]? = some J_HField_clear)
set_option maxRecDepth 100000 in
theorem lT_74 {L : Nat} {xs : Nat → Int32} : ig_T (tb_G L xs) 74 = some J_HTape_keepVariable := (rfl : tb_M[74]? = some J_HTape_keepVariable)
set_option maxRecDepth 100000 in
theorem lT_75 {L : Nat} {xs : Nat → Int32} : ig_T (tb_G L xs) 75 = some J_HSetter_endLabel := (rfl : tb_M[75]? = some J_HSetter_endLabel)
set_option maxRecDepth 100000 in
theorem lT_76 {L : Nat} {xs : Nat → Int32} : ig_T (tb_G L xs) 76 = some J_HOrders_addCopy := (rfl : tb_M[76]? = some J_HOrders_addCopy)
set_option maxRecDepth 100000 in
theorem lT_77 {L : Nat} {xs : Nat → Int32} : ig_T (tb_G L xs) 77 = some J_HOrders_value := (rfl : tb_M[77]? = some J_HOrders_value)
set_option maxRecDepth 100000 in
theorem lT_78 {L : Nat} {xs : Nat → Int32} : ig_T (tb_G L xs) 78 = some J_HOrders_countOn := (rfl : tb_M[78]? = some J_HOrders_countOn)
set_option maxRecDepth 100000 in
theorem lT_79 {L : Nat} {xs : Nat → Int32} : ig_T (tb_G L xs) 79 = some J_Math_floorMod := (rfl : tb_M[79]? = some J_Math_floorMod)
set_option maxRecDepth 100000 in
theorem lT_80 {L : Nat} {xs : Nat → Int32} : ig_T (tb_G L xs) 80 = some J_HTape_enterForm := (rfl : tb_M[80]? = some J_HTape_enterForm)
set_option maxRecDepth 100000 in
theorem lT_81 {L : Nat} {xs : Nat → Int32} : ig_T (tb_G L xs) 81 = some J_HSetter_performOfField := (rfl : tb_M[81]? = some J_HSetter_performOfField)
set_option maxRecDepth 100000 in
theorem lT_82 {L : Nat} {xs : Nat → Int32} : ig_T (tb_G L xs) 82 = some J_HField_hold := (rfl : tb_M[82]? = some J_HField_hold)
set_option maxRecDepth 100000 in
theorem lT_83 {L : Nat} {xs : Nat → Int32} : ig_T (tb_G L xs) 83 = some J_HField_become := (rfl : tb_M[83]? = some J_HField_become)
set_option maxRecDepth 100000 in
theorem lT_84 {L : Nat} {xs : Nat → Int32} : ig_T (tb_G L xs) 84 = some J_HSetter_finish := (rfl : tb_M[84]? = some J_HSetter_finish)
set_option maxRecDepth 100000 in
theorem lT_85 {L : Nat} {xs : Nat → Int32} : ig_T (tb_G L xs) 85 = some J_H_fault := (rfl : tb_M[85]? = some J_H_fault)
set_option maxRecDepth 100000 in
theorem lT_86 {L : Nat} {xs : Nat → Int32} : ig_T (tb_G L xs) 86 = some J_H_place := (rfl : tb_M[86]? = some J_H_place)
set_option maxRecDepth 100000 in
theorem lT_87 {L : Nat} {xs : Nat → Int32} : ig_T (tb_G L xs) 87 = some J_H_drawn := (rfl : tb_M[87]? = some J_H_drawn)
set_option maxRecDepth 100000 in
theorem lT_88 {L : Nat} {xs : Nat → Int32} : ig_T (tb_G L xs) 88 = some J_H_spoil := (rfl : tb_M[88]? = some J_H_spoil)
set_option maxRecDepth 100000 in
theorem lT_89 {L : Nat} {xs : Nat → Int32} : ig_T (tb_G L xs) 89 = some J_HSheet_flip := (rfl : tb_M[89]? = some J_HSheet_flip)
set_option maxRecDepth 100000 in
theorem lT_90 {L : Nat} {xs : Nat → Int32} : ig_T (tb_G L xs) 90 = some J_H_dots := (rfl : tb_M[90]? = some J_H_dots)
set_option maxRecDepth 100000 in
theorem lT_91 {L : Nat} {xs : Nat → Int32} : ig_T (tb_G L xs) 91 = some J_HSheet_wordFrom := (rfl : tb_M[91]? = some J_HSheet_wordFrom)
set_option maxRecDepth 100000 in
theorem lT_92 {L : Nat} {xs : Nat → Int32} : ig_T (tb_G L xs) 92 = some J_HSheet_word := (rfl : tb_M[92]? = some J_HSheet_word)
set_option maxRecDepth 100000 in
theorem lT_93 {L : Nat} {xs : Nat → Int32} : ig_T (tb_G L xs) 93 = some J_H_got := (rfl : tb_M[93]? = some J_H_got)
set_option maxRecDepth 100000 in
theorem lT_94 {L : Nat} {xs : Nat → Int32} : ig_T (tb_G L xs) 94 = some J_H_eightBytes := (rfl : tb_M[94]? = some J_H_eightBytes)
set_option maxRecDepth 100000 in
theorem lT_95 {L : Nat} {xs : Nat → Int32} : ig_T (tb_G L xs) 95 = some J_H_feed := (rfl : tb_M[95]? = some J_H_feed)
set_option maxRecDepth 100000 in
theorem lT_96 {L : Nat} {xs : Nat → Int32} : ig_T (tb_G L xs) 96 = some J_HTape_append := (rfl : tb_M[96]? = some J_HTape_append)
set_option maxRecDepth 100000 in
theorem lT_97 {L : Nat} {xs : Nat → Int32} : ig_T (tb_G L xs) 97 = some J_H_font := (rfl : tb_M[97]? = some J_H_font)
set_option maxRecDepth 100000 in
theorem lT_98 {L : Nat} {xs : Nat → Int32} : ig_T (tb_G L xs) 98 = some J_HPen_newFont := (rfl : tb_M[98]? = some J_HPen_newFont)
set_option maxRecDepth 100000 in
theorem lT_99 {L : Nat} {xs : Nat → Int32} : ig_T (tb_G L xs) 99 = some J_H_cell := (rfl : tb_M[99]? = some J_H_cell)
set_option maxRecDepth 100000 in
theorem lT_100 {L : Nat} {xs : Nat → Int32} : ig_T (tb_G L xs) 100 = some J_HPen_rowsOf := (rfl : tb_M[100]? = some J_HPen_rowsOf)
set_option maxRecDepth 100000 in
theorem lT_101 {L : Nat} {xs : Nat → Int32} : ig_T (tb_G L xs) 101 = some J_HPen_newRow := (rfl : tb_M[101]? = some J_HPen_newRow)
set_option maxRecDepth 100000 in
theorem lT_102 {L : Nat} {xs : Nat → Int32} : ig_T (tb_G L xs) 102 = some J_H_label := (rfl : tb_M[102]? = some J_H_label)
set_option maxRecDepth 100000 in
theorem lT_103 {L : Nat} {xs : Nat → Int32} : ig_T (tb_G L xs) 103 = some J_H_order := (rfl : tb_M[103]? = some J_H_order)
set_option maxRecDepth 100000 in
theorem lT_104 {L : Nat} {xs : Nat → Int32} : ig_T (tb_G L xs) 104 = some J_H_data := (rfl : tb_M[104]? = some J_H_data)
set_option maxRecDepth 100000 in
theorem lT_105 {L : Nat} {xs : Nat → Int32} : ig_T (tb_G L xs) 105 = some J_H_print := (rfl : tb_M[105]? = some J_H_print)
set_option maxRecDepth 100000 in
theorem lT_106 {L : Nat} {xs : Nat → Int32} : ig_T (tb_G L xs) 106 = some J_HSheet_renew := (rfl : tb_M[106]? = some J_HSheet_renew)
set_option maxRecDepth 100000 in
theorem lT_107 {L : Nat} {xs : Nat → Int32} : ig_T (tb_G L xs) 107 = some J_Arrays_fill2 := (rfl : tb_M[107]? = some J_Arrays_fill2)
set_option maxRecDepth 100000 in
theorem lT_108 {L : Nat} {xs : Nat → Int32} : ig_T (tb_G L xs) 108 = some J_HPen_follow := (rfl : tb_M[108]? = some J_HPen_follow)
set_option maxRecDepth 100000 in
theorem lT_109 {L : Nat} {xs : Nat → Int32} : ig_T (tb_G L xs) 109 = some J_HPen_drawText := (rfl : tb_M[109]? = some J_HPen_drawText)
set_option maxRecDepth 100000 in
theorem lT_110 {L : Nat} {xs : Nat → Int32} : ig_T (tb_G L xs) 110 = some J_HOrders_byteAt := (rfl : tb_M[110]? = some J_HOrders_byteAt)
set_option maxRecDepth 100000 in
theorem lT_111 {L : Nat} {xs : Nat → Int32} : ig_T (tb_G L xs) 111 = some J_HPen_drawCellRow := (rfl : tb_M[111]? = some J_HPen_drawCellRow)
set_option maxRecDepth 100000 in
theorem lT_112 {L : Nat} {xs : Nat → Int32} : ig_T (tb_G L xs) 112 = some J_HPen_strike := (rfl : tb_M[112]? = some J_HPen_strike)
set_option maxRecDepth 100000 in
theorem lT_113 {L : Nat} {xs : Nat → Int32} : ig_T (tb_G L xs) 113 = some J_HSheet_box := (rfl : tb_M[113]? = some J_HSheet_box)
set_option maxRecDepth 100000 in
theorem lT_114 {L : Nat} {xs : Nat → Int32} : ig_T (tb_G L xs) 114 = some J_HSheet_strikeColumn := (rfl : tb_M[114]? = some J_HSheet_strikeColumn)
set_option maxRecDepth 100000 in
theorem lT_115 {L : Nat} {xs : Nat → Int32} : ig_T (tb_G L xs) 115 = some J_HBars_layText := (rfl : tb_M[115]? = some J_HBars_layText)
set_option maxRecDepth 100000 in
theorem lT_116 {L : Nat} {xs : Nat → Int32} : ig_T (tb_G L xs) 116 = some J_HBars_countFewest := (rfl : tb_M[116]? = some J_HBars_countFewest)
set_option maxRecDepth 100000 in
theorem lT_117 {L : Nat} {xs : Nat → Int32} : ig_T (tb_G L xs) 117 = some J_HBars_fewestBySign := (rfl : tb_M[117]? = some J_HBars_fewestBySign)
set_option maxRecDepth 100000 in
theorem lT_118 {L : Nat} {xs : Nat → Int32} : ig_T (tb_G L xs) 118 = some J_HBars_straight := (rfl : tb_M[118]? = some J_HBars_straight)
set_option maxRecDepth 100000 in
theorem lT_119 {L : Nat} {xs : Nat → Int32} : ig_T (tb_G L xs) 119 = some J_HBars_symbolFor := (rfl : tb_M[119]? = some J_HBars_symbolFor)
set_option maxRecDepth 100000 in
theorem lT_120 {L : Nat} {xs : Nat → Int32} : ig_T (tb_G L xs) 120 = some J_HBars_signsEach := (rfl : tb_M[120]? = some J_HBars_signsEach)
set_option maxRecDepth 100000 in
theorem lT_121 {L : Nat} {xs : Nat → Int32} : ig_T (tb_G L xs) 121 = some J_HBars_shifted := (rfl : tb_M[121]? = some J_HBars_shifted)
set_option maxRecDepth 100000 in
theorem lT_122 {L : Nat} {xs : Nat → Int32} : ig_T (tb_G L xs) 122 = some J_HBars_chooseSymbols := (rfl : tb_M[122]? = some J_HBars_chooseSymbols)
set_option maxRecDepth 100000 in
theorem lT_123 {L : Nat} {xs : Nat → Int32} : ig_T (tb_G L xs) 123 = some J_HBars_leastSymbol := (rfl : tb_M[123]? = some J_HBars_leastSymbol)
set_option maxRecDepth 100000 in
theorem lT_124 {L : Nat} {xs : Nat → Int32} : ig_T (tb_G L xs) 124 = some J_HBars_addSymbol := (rfl : tb_M[124]? = some J_HBars_addSymbol)
set_option maxRecDepth 100000 in
theorem lT_125 {L : Nat} {xs : Nat → Int32} : ig_T (tb_G L xs) 125 = some J_HBars_checkSymbol := (rfl : tb_M[125]? = some J_HBars_checkSymbol)
set_option maxRecDepth 100000 in
theorem lT_126 {L : Nat} {xs : Nat → Int32} : ig_T (tb_G L xs) 126 = some J_HBars_layWidths := (rfl : tb_M[126]? = some J_HBars_layWidths)
set_option maxRecDepth 100000 in
theorem lT_127 {L : Nat} {xs : Nat → Int32} : ig_T (tb_G L xs) 127 = some J_HBars_addWidths := (rfl : tb_M[127]? = some J_HBars_addWidths)
set_option maxRecDepth 100000 in
theorem lT_128 {L : Nat} {xs : Nat → Int32} : ig_T (tb_G L xs) 128 = some J_HPen_drawBars := (rfl : tb_M[128]? = some J_HPen_drawBars)
set_option maxRecDepth 100000 in
theorem lT_129 {L : Nat} {xs : Nat → Int32} : ig_T (tb_G L xs) 129 = some J_HBars_layFigures := (rfl : tb_M[129]? = some J_HBars_layFigures)
set_option maxRecDepth 100000 in
theorem lT_130 {L : Nat} {xs : Nat → Int32} : ig_T (tb_G L xs) 130 = some J_Math_floorMod2 := (rfl : tb_M[130]? = some J_Math_floorMod2)
set_option maxRecDepth 100000 in
theorem lT_131 {L : Nat} {xs : Nat → Int32} : ig_T (tb_G L xs) 131 = some J_HBars_checkFigure := (rfl : tb_M[131]? = some J_HBars_checkFigure)
set_option maxRecDepth 100000 in
theorem lT_132 {L : Nat} {xs : Nat → Int32} : ig_T (tb_G L xs) 132 = some J_HGrid_make := (rfl : tb_M[132]? = some J_HGrid_make)
set_option maxRecDepth 100000 in
theorem lT_133 {L : Nat} {xs : Nat → Int32} : ig_T (tb_G L xs) 133 = some J_HSegments_pack := (rfl : tb_M[133]? = some J_HSegments_pack)
set_option maxRecDepth 100000 in
theorem lT_134 {L : Nat} {xs : Nat → Int32} : ig_T (tb_G L xs) 134 = some J_HSegments_groupOf := (rfl : tb_M[134]? = some J_HSegments_groupOf)
set_option maxRecDepth 100000 in
theorem lT_135 {L : Nat} {xs : Nat → Int32} : ig_T (tb_G L xs) 135 = some J_HSegments_plan := (rfl : tb_M[135]? = some J_HSegments_plan)
set_option maxRecDepth 100000 in
theorem lT_136 {L : Nat} {xs : Nat → Int32} : ig_T (tb_G L xs) 136 = some J_HSegments_leastMode := (rfl : tb_M[136]? = some J_HSegments_leastMode)
set_option maxRecDepth 100000 in
theorem lT_137 {L : Nat} {xs : Nat → Int32} : ig_T (tb_G L xs) 137 = some J_HSegments_isOf := (rfl : tb_M[137]? = some J_HSegments_isOf)
set_option maxRecDepth 100000 in
theorem lT_138 {L : Nat} {xs : Nat → Int32} : ig_T (tb_G L xs) 138 = some J_HSegments_bitsBy := (rfl : tb_M[138]? = some J_HSegments_bitsBy)
set_option maxRecDepth 100000 in
theorem lT_139 {L : Nat} {xs : Nat → Int32} : ig_T (tb_G L xs) 139 = some J_HBlocks_holds := (rfl : tb_M[139]? = some J_HBlocks_holds)
set_option maxRecDepth 100000 in
theorem lT_140 {L : Nat} {xs : Nat → Int32} : ig_T (tb_G L xs) 140 = some J_HBlocks_codewordsOf := (rfl : tb_M[140]? = some J_HBlocks_codewordsOf)
set_option maxRecDepth 100000 in
theorem lT_141 {L : Nat} {xs : Nat → Int32} : ig_T (tb_G L xs) 141 = some J_HSegments_write := (rfl : tb_M[141]? = some J_HSegments_write)
set_option maxRecDepth 100000 in
theorem lT_142 {L : Nat} {xs : Nat → Int32} : ig_T (tb_G L xs) 142 = some J_Arrays_fill3 := (rfl : tb_M[142]? = some J_Arrays_fill3)
set_option maxRecDepth 100000 in
theorem lT_143 {L : Nat} {xs : Nat → Int32} : ig_T (tb_G L xs) 143 = some J_HSegments_put := (rfl : tb_M[143]? = some J_HSegments_put)
set_option maxRecDepth 100000 in
theorem lT_144 {L : Nat} {xs : Nat → Int32} : ig_T (tb_G L xs) 144 = some J_HSegments_writeBytes := (rfl : tb_M[144]? = some J_HSegments_writeBytes)
set_option maxRecDepth 100000 in
theorem lT_145 {L : Nat} {xs : Nat → Int32} : ig_T (tb_G L xs) 145 = some J_HSegments_base := (rfl : tb_M[145]? = some J_HSegments_base)
set_option maxRecDepth 100000 in
theorem lT_146 {L : Nat} {xs : Nat → Int32} : ig_T (tb_G L xs) 146 = some J_HSegments_partBits := (rfl : tb_M[146]? = some J_HSegments_partBits)
set_option maxRecDepth 100000 in
theorem lT_147 {L : Nat} {xs : Nat → Int32} : ig_T (tb_G L xs) 147 = some J_HBlocks_spread := (rfl : tb_M[147]? = some J_HBlocks_spread)
set_option maxRecDepth 100000 in
theorem lT_148 {L : Nat} {xs : Nat → Int32} : ig_T (tb_G L xs) 148 = some J_HBlocks_begin := (rfl : tb_M[148]? = some J_HBlocks_begin)
set_option maxRecDepth 100000 in
theorem lT_149 {L : Nat} {xs : Nat → Int32} : ig_T (tb_G L xs) 149 = some J_HBlocks_makeGenerator := (rfl : tb_M[149]? = some J_HBlocks_makeGenerator)
set_option maxRecDepth 100000 in
theorem lT_150 {L : Nat} {xs : Nat → Int32} : ig_T (tb_G L xs) 150 = some J_Arrays_fill4 := (rfl : tb_M[150]? = some J_Arrays_fill4)
set_option maxRecDepth 100000 in
theorem lT_151 {L : Nat} {xs : Nat → Int32} : ig_T (tb_G L xs) 151 = some J_HBlocks_times := (rfl : tb_M[151]? = some J_HBlocks_times)
set_option maxRecDepth 100000 in
theorem lT_152 {L : Nat} {xs : Nat → Int32} : ig_T (tb_G L xs) 152 = some J_HBlocks_sizeOf := (rfl : tb_M[152]? = some J_HBlocks_sizeOf)
set_option maxRecDepth 100000 in
theorem lT_153 {L : Nat} {xs : Nat → Int32} : ig_T (tb_G L xs) 153 = some J_HBlocks_placeOf := (rfl : tb_M[153]? = some J_HBlocks_placeOf)
set_option maxRecDepth 100000 in
theorem lT_154 {L : Nat} {xs : Nat → Int32} : ig_T (tb_G L xs) 154 = some J_HBlocks_divide := (rfl : tb_M[154]? = some J_HBlocks_divide)
set_option maxRecDepth 100000 in
theorem lT_155 {L : Nat} {xs : Nat → Int32} : ig_T (tb_G L xs) 155 = some J_HGrid_begin := (rfl : tb_M[155]? = some J_HGrid_begin)
set_option maxRecDepth 100000 in
theorem lT_156 {L : Nat} {xs : Nat → Int32} : ig_T (tb_G L xs) 156 = some J_HGrid_fix := (rfl : tb_M[156]? = some J_HGrid_fix)
set_option maxRecDepth 100000 in
theorem lT_157 {L : Nat} {xs : Nat → Int32} : ig_T (tb_G L xs) 157 = some J_HGrid_fixSquares := (rfl : tb_M[157]? = some J_HGrid_fixSquares)
set_option maxRecDepth 100000 in
theorem lT_158 {L : Nat} {xs : Nat → Int32} : ig_T (tb_G L xs) 158 = some J_Math_abs := (rfl : tb_M[158]? = some J_Math_abs)
set_option maxRecDepth 100000 in
theorem lT_159 {L : Nat} {xs : Nat → Int32} : ig_T (tb_G L xs) 159 = some J_HGrid_fixSmallSquares := (rfl : tb_M[159]? = some J_HGrid_fixSmallSquares)
set_option maxRecDepth 100000 in
theorem lT_160 {L : Nat} {xs : Nat → Int32} : ig_T (tb_G L xs) 160 = some J_HGrid_smallPlace := (rfl : tb_M[160]? = some J_HGrid_smallPlace)
set_option maxRecDepth 100000 in
theorem lT_161 {L : Nat} {xs : Nat → Int32} : ig_T (tb_G L xs) 161 = some J_HGrid_fixForm := (rfl : tb_M[161]? = some J_HGrid_fixForm)
set_option maxRecDepth 100000 in
theorem lT_162 {L : Nat} {xs : Nat → Int32} : ig_T (tb_G L xs) 162 = some J_HGrid_formWord := (rfl : tb_M[162]? = some J_HGrid_formWord)
set_option maxRecDepth 100000 in
theorem lT_163 {L : Nat} {xs : Nat → Int32} : ig_T (tb_G L xs) 163 = some J_HGrid_rest := (rfl : tb_M[163]? = some J_HGrid_rest)
set_option maxRecDepth 100000 in
theorem lT_164 {L : Nat} {xs : Nat → Int32} : ig_T (tb_G L xs) 164 = some J_HGrid_formX := (rfl : tb_M[164]? = some J_HGrid_formX)
set_option maxRecDepth 100000 in
theorem lT_165 {L : Nat} {xs : Nat → Int32} : ig_T (tb_G L xs) 165 = some J_HGrid_formY := (rfl : tb_M[165]? = some J_HGrid_formY)
set_option maxRecDepth 100000 in
theorem lT_166 {L : Nat} {xs : Nat → Int32} : ig_T (tb_G L xs) 166 = some J_HGrid_fixVersion := (rfl : tb_M[166]? = some J_HGrid_fixVersion)
set_option maxRecDepth 100000 in
theorem lT_167 {L : Nat} {xs : Nat → Int32} : ig_T (tb_G L xs) 167 = some J_HGrid_carry := (rfl : tb_M[167]? = some J_HGrid_carry)
set_option maxRecDepth 100000 in
theorem lT_168 {L : Nat} {xs : Nat → Int32} : ig_T (tb_G L xs) 168 = some J_HGrid_carryBit := (rfl : tb_M[168]? = some J_HGrid_carryBit)
set_option maxRecDepth 100000 in
theorem lT_169 {L : Nat} {xs : Nat → Int32} : ig_T (tb_G L xs) 169 = some J_HBlocks_bitAt := (rfl : tb_M[169]? = some J_HBlocks_bitAt)
set_option maxRecDepth 100000 in
theorem lT_170 {L : Nat} {xs : Nat → Int32} : ig_T (tb_G L xs) 170 = some J_HGrid_set := (rfl : tb_M[170]? = some J_HGrid_set)
set_option maxRecDepth 100000 in
theorem lT_171 {L : Nat} {xs : Nat → Int32} : ig_T (tb_G L xs) 171 = some J_HGrid_isDark := (rfl : tb_M[171]? = some J_HGrid_isDark)
set_option maxRecDepth 100000 in
theorem lT_172 {L : Nat} {xs : Nat → Int32} : ig_T (tb_G L xs) 172 = some J_HBlocks_putBit := (rfl : tb_M[172]? = some J_HBlocks_putBit)
set_option maxRecDepth 100000 in
theorem lT_173 {L : Nat} {xs : Nat → Int32} : ig_T (tb_G L xs) 173 = some J_HGrid_bestMask := (rfl : tb_M[173]? = some J_HGrid_bestMask)
set_option maxRecDepth 100000 in
theorem lT_174 {L : Nat} {xs : Nat → Int32} : ig_T (tb_G L xs) 174 = some J_HGrid_turnMask := (rfl : tb_M[174]? = some J_HGrid_turnMask)
set_option maxRecDepth 100000 in
theorem lT_175 {L : Nat} {xs : Nat → Int32} : ig_T (tb_G L xs) 175 = some J_HGrid_isTurned := (rfl : tb_M[175]? = some J_HGrid_isTurned)
set_option maxRecDepth 100000 in
theorem lT_176 {L : Nat} {xs : Nat → Int32} : ig_T (tb_G L xs) 176 = some J_HGrid_penalty := (rfl : tb_M[176]? = some J_HGrid_penalty)
set_option maxRecDepth 100000 in
theorem lT_177 {L : Nat} {xs : Nat → Int32} : ig_T (tb_G L xs) 177 = some J_HGrid_linePenalty := (rfl : tb_M[177]? = some J_HGrid_linePenalty)
set_option maxRecDepth 100000 in
theorem lT_178 {L : Nat} {xs : Nat → Int32} : ig_T (tb_G L xs) 178 = some J_HGrid_isSquareAlike := (rfl : tb_M[178]? = some J_HGrid_isSquareAlike)
set_option maxRecDepth 100000 in
theorem lT_179 {L : Nat} {xs : Nat → Int32} : ig_T (tb_G L xs) 179 = some J_HPen_drawSquare := (rfl : tb_M[179]? = some J_HPen_drawSquare)
set_option maxRecDepth 100000 in
theorem lT_180 {L : Nat} {xs : Nat → Int32} : ig_T (tb_G L xs) 180 = some J_HPen_drawFrame := (rfl : tb_M[180]? = some J_HPen_drawFrame)
set_option maxRecDepth 100000 in
theorem lT_181 {L : Nat} {xs : Nat → Int32} : ig_T (tb_G L xs) 181 = some J_HPen_drawEllipse := (rfl : tb_M[181]? = some J_HPen_drawEllipse)
set_option maxRecDepth 100000 in
theorem lT_182 {L : Nat} {xs : Nat → Int32} : ig_T (tb_G L xs) 182 = some J_HPen_indent := (rfl : tb_M[182]? = some J_HPen_indent)
set_option maxRecDepth 100000 in
theorem lT_183 {L : Nat} {xs : Nat → Int32} : ig_T (tb_G L xs) 183 = some J_HPen_drawLine := (rfl : tb_M[183]? = some J_HPen_drawLine)
set_option maxRecDepth 100000 in
theorem lT_184 {L : Nat} {xs : Nat → Int32} : ig_T (tb_G L xs) 184 = some J_Math_floorDiv := (rfl : tb_M[184]? = some J_Math_floorDiv)
set_option maxRecDepth 100000 in
theorem lT_185 {L : Nat} {xs : Nat → Int32} : ig_T (tb_G L xs) 185 = some J_HPen_isNear := (rfl : tb_M[185]? = some J_HPen_isNear)
set_option maxRecDepth 100000 in
theorem lT_186 {L : Nat} {xs : Nat → Int32} : ig_T (tb_G L xs) 186 = some J_HPen_lastNear := (rfl : tb_M[186]? = some J_HPen_lastNear)
set_option maxRecDepth 100000 in
theorem lT_187 {L : Nat} {xs : Nat → Int32} : ig_T (tb_G L xs) 187 = some J_HPen_drawPicture := (rfl : tb_M[187]? = some J_HPen_drawPicture)
set_option maxRecDepth 100000 in
theorem lT_188 {L : Nat} {xs : Nat → Int32} : ig_T (tb_G L xs) 188 = some J_H_turn := (rfl : tb_M[188]? = some J_H_turn)
set_option maxRecDepth 100000 in
theorem lT_189 {L : Nat} {xs : Nat → Int32} : ig_T (tb_G L xs) 189 = some J_HSheet_rotate := (rfl : tb_M[189]? = some J_HSheet_rotate)
set_option maxRecDepth 100000 in
theorem lT_190 {L : Nat} {xs : Nat → Int32} : ig_T (tb_G L xs) 190 = some J_HSheet_rotateWord := (rfl : tb_M[190]? = some J_HSheet_rotateWord)
set_option maxRecDepth 100000 in
theorem lT_191 {L : Nat} {xs : Nat → Int32} : ig_T (tb_G L xs) 191 = some J_H_told := (rfl : tb_M[191]? = some J_H_told)
set_option maxRecDepth 100000 in
theorem lT_192 {L : Nat} {xs : Nat → Int32} : ig_T (tb_G L xs) 192 = some J_HSheet_edgeColumn := (rfl : tb_M[192]? = some J_HSheet_edgeColumn)
set_option maxRecDepth 100000 in
theorem lT_193 {L : Nat} {xs : Nat → Int32} : ig_T (tb_G L xs) 193 = some J_HSheet_edgeBit := (rfl : tb_M[193]? = some J_HSheet_edgeBit)
set_option maxRecDepth 100000 in
theorem lT_194 {L : Nat} {xs : Nat → Int32} : ig_T (tb_G L xs) 194 = some J_HSheet_edgeRow := (rfl : tb_M[194]? = some J_HSheet_edgeRow)
set_option maxRecDepth 100000 in
theorem lT_195 {L : Nat} {xs : Nat → Int32} : ig_T (tb_G L xs) 195 = some J_HSheet_darkCount := (rfl : tb_M[195]? = some J_HSheet_darkCount)
set_option maxRecDepth 100000 in
theorem lT_196 {L : Nat} {xs : Nat → Int32} : ig_T (tb_G L xs) 196 = some J_Long_bitCount := (rfl : tb_M[196]? = some J_Long_bitCount)
set_option maxRecDepth 100000 in
theorem lT_197 {L : Nat} {xs : Nat → Int32} : ig_T (tb_G L xs) 197 = some J_H_run := (rfl : tb_M[197]? = some J_H_run)
set_option maxRecDepth 100000 in
theorem lT_198 {L : Nat} {xs : Nat → Int32} : ig_T (tb_G L xs) 198 = some J_HSheet_has := (rfl : tb_M[198]? = some J_HSheet_has)
set_option maxRecDepth 100000 in
theorem lT_199 {L : Nat} {xs : Nat → Int32} : ig_T (tb_G L xs) 199 = some J_HSheet_takeRuns := (rfl : tb_M[199]? = some J_HSheet_takeRuns)
set_option maxRecDepth 100000 in
theorem lT_200 {L : Nat} {xs : Nat → Int32} : ig_T (tb_G L xs) 200 = some J_HSheet_isDark := (rfl : tb_M[200]? = some J_HSheet_isDark)
set_option maxRecDepth 100000 in
theorem lT_201 {L : Nat} {xs : Nat → Int32} : ig_T (tb_G L xs) 201 = some J_H_scan := (rfl : tb_M[201]? = some J_H_scan)
set_option maxRecDepth 100000 in
theorem lT_202 {L : Nat} {xs : Nat → Int32} : ig_T (tb_G L xs) 202 = some J_HFinder_search := (rfl : tb_M[202]? = some J_HFinder_search)
set_option maxRecDepth 100000 in
theorem lT_203 {L : Nat} {xs : Nat → Int32} : ig_T (tb_G L xs) 203 = some J_HFinder_addUp := (rfl : tb_M[203]? = some J_HFinder_addUp)
set_option maxRecDepth 100000 in
theorem lT_204 {L : Nat} {xs : Nat → Int32} : ig_T (tb_G L xs) 204 = some J_HFinder_lookAtCorners := (rfl : tb_M[204]? = some J_HFinder_lookAtCorners)
set_option maxRecDepth 100000 in
theorem lT_205 {L : Nat} {xs : Nat → Int32} : ig_T (tb_G L xs) 205 = some J_HFinder_darkIn := (rfl : tb_M[205]? = some J_HFinder_darkIn)
set_option maxRecDepth 100000 in
theorem lT_206 {L : Nat} {xs : Nat → Int32} : ig_T (tb_G L xs) 206 = some J_HFinder_ringsWrong := (rfl : tb_M[206]? = some J_HFinder_ringsWrong)
set_option maxRecDepth 100000 in
theorem lT_207 {L : Nat} {xs : Nat → Int32} : ig_T (tb_G L xs) 207 = some J_HFinder_lookAtAll := (rfl : tb_M[207]? = some J_HFinder_lookAtAll)
set_option maxRecDepth 100000 in
theorem lT_208 {L : Nat} {xs : Nat → Int32} : ig_T (tb_G L xs) 208 = some J_HFinder_lookFrom := (rfl : tb_M[208]? = some J_HFinder_lookFrom)
set_option maxRecDepth 100000 in
theorem lT_209 {L : Nat} {xs : Nat → Int32} : ig_T (tb_G L xs) 209 = some J_HFinder_lookAt := (rfl : tb_M[209]? = some J_HFinder_lookAt)
set_option maxRecDepth 100000 in
theorem lT_210 {L : Nat} {xs : Nat → Int32} : ig_T (tb_G L xs) 210 = some J_HFinder_wrongAt := (rfl : tb_M[210]? = some J_HFinder_wrongAt)
set_option maxRecDepth 100000 in
theorem lT_211 {L : Nat} {xs : Nat → Int32} : ig_T (tb_G L xs) 211 = some J_HFinder_loneX := (rfl : tb_M[211]? = some J_HFinder_loneX)
set_option maxRecDepth 100000 in
theorem lT_212 {L : Nat} {xs : Nat → Int32} : ig_T (tb_G L xs) 212 = some J_HFinder_loneY := (rfl : tb_M[212]? = some J_HFinder_loneY)
set_option maxRecDepth 100000 in
theorem lT_213 {L : Nat} {xs : Nat → Int32} : ig_T (tb_G L xs) 213 = some J_HFinder_add := (rfl : tb_M[213]? = some J_HFinder_add)
set_option maxRecDepth 100000 in
theorem lT_214 {L : Nat} {xs : Nat → Int32} : ig_T (tb_G L xs) 214 = some J_HFinder_keepLeaders := (rfl : tb_M[214]? = some J_HFinder_keepLeaders)
set_option maxRecDepth 100000 in
theorem lT_215 {L : Nat} {xs : Nat → Int32} : ig_T (tb_G L xs) 215 = some J_HFinder_haveCommonDot := (rfl : tb_M[215]? = some J_HFinder_haveCommonDot)
set_option maxRecDepth 100000 in
theorem lT_216 {L : Nat} {xs : Nat → Int32} : ig_T (tb_G L xs) 216 = some J_HFinder_part := (rfl : tb_M[216]? = some J_HFinder_part)
set_option maxRecDepth 100000 in
theorem lT_217 {L : Nat} {xs : Nat → Int32} : ig_T (tb_G L xs) 217 = some J_H_found := (rfl : tb_M[217]? = some J_H_found)
set_option maxRecDepth 100000 in
theorem lT_218 {L : Nat} {xs : Nat → Int32} : ig_T (tb_G L xs) 218 = some J_H_decode := (rfl : tb_M[218]? = some J_H_decode)
set_option maxRecDepth 100000 in
theorem lT_219 {L : Nat} {xs : Nat → Int32} : ig_T (tb_G L xs) 219 = some J_H_forgetReading := (rfl : tb_M[219]? = some J_H_forgetReading)
set_option maxRecDepth 100000 in
theorem lT_220 {L : Nat} {xs : Nat → Int32} : ig_T (tb_G L xs) 220 = some J_HFinder_fill := (rfl : tb_M[220]? = some J_HFinder_fill)
set_option maxRecDepth 100000 in
theorem lT_221 {L : Nat} {xs : Nat → Int32} : ig_T (tb_G L xs) 221 = some J_HFinder_darkNow := (rfl : tb_M[221]? = some J_HFinder_darkNow)
set_option maxRecDepth 100000 in
theorem lT_222 {L : Nat} {xs : Nat → Int32} : ig_T (tb_G L xs) 222 = some J_HGrid_understand := (rfl : tb_M[222]? = some J_HGrid_understand)
set_option maxRecDepth 100000 in
theorem lT_223 {L : Nat} {xs : Nat → Int32} : ig_T (tb_G L xs) 223 = some J_HGrid_formNumber := (rfl : tb_M[223]? = some J_HGrid_formNumber)
set_option maxRecDepth 100000 in
theorem lT_224 {L : Nat} {xs : Nat → Int32} : ig_T (tb_G L xs) 224 = some J_Integer_bitCount := (rfl : tb_M[224]? = some J_Integer_bitCount)
set_option maxRecDepth 100000 in
theorem lT_225 {L : Nat} {xs : Nat → Int32} : ig_T (tb_G L xs) 225 = some J_HBlocks_mend := (rfl : tb_M[225]? = some J_HBlocks_mend)
set_option maxRecDepth 100000 in
theorem lT_226 {L : Nat} {xs : Nat → Int32} : ig_T (tb_G L xs) 226 = some J_HBlocks_kept := (rfl : tb_M[226]? = some J_HBlocks_kept)
set_option maxRecDepth 100000 in
theorem lT_227 {L : Nat} {xs : Nat → Int32} : ig_T (tb_G L xs) 227 = some J_HBlocks_mendWord := (rfl : tb_M[227]? = some J_HBlocks_mendWord)
set_option maxRecDepth 100000 in
theorem lT_228 {L : Nat} {xs : Nat → Int32} : ig_T (tb_G L xs) 228 = some J_HBlocks_isCodeword := (rfl : tb_M[228]? = some J_HBlocks_isCodeword)
set_option maxRecDepth 100000 in
theorem lT_229 {L : Nat} {xs : Nat → Int32} : ig_T (tb_G L xs) 229 = some J_HBlocks_findLocator := (rfl : tb_M[229]? = some J_HBlocks_findLocator)
set_option maxRecDepth 100000 in
theorem lT_230 {L : Nat} {xs : Nat → Int32} : ig_T (tb_G L xs) 230 = some J_HBlocks_over := (rfl : tb_M[230]? = some J_HBlocks_over)
set_option maxRecDepth 100000 in
theorem lT_231 {L : Nat} {xs : Nat → Int32} : ig_T (tb_G L xs) 231 = some J_HBlocks_makeEvaluator := (rfl : tb_M[231]? = some J_HBlocks_makeEvaluator)
set_option maxRecDepth 100000 in
theorem lT_232 {L : Nat} {xs : Nat → Int32} : ig_T (tb_G L xs) 232 = some J_HBlocks_valueAt := (rfl : tb_M[232]? = some J_HBlocks_valueAt)
set_option maxRecDepth 100000 in
theorem lT_233 {L : Nat} {xs : Nat → Int32} : ig_T (tb_G L xs) 233 = some J_HBlocks_slopeAt := (rfl : tb_M[233]? = some J_HBlocks_slopeAt)
set_option maxRecDepth 100000 in
theorem lT_234 {L : Nat} {xs : Nat → Int32} : ig_T (tb_G L xs) 234 = some J_HSegments_unpack := (rfl : tb_M[234]? = some J_HSegments_unpack)
set_option maxRecDepth 100000 in
theorem lT_235 {L : Nat} {xs : Nat → Int32} : ig_T (tb_G L xs) 235 = some J_HSegments_take := (rfl : tb_M[235]? = some J_HSegments_take)
set_option maxRecDepth 100000 in
theorem lT_236 {L : Nat} {xs : Nat → Int32} : ig_T (tb_G L xs) 236 = some J_HSegments_modeOf := (rfl : tb_M[236]? = some J_HSegments_modeOf)
set_option maxRecDepth 100000 in
theorem lT_237 {L : Nat} {xs : Nat → Int32} : ig_T (tb_G L xs) 237 = some J_HSegments_unpackOne := (rfl : tb_M[237]? = some J_HSegments_unpackOne)
set_option maxRecDepth 100000 in
theorem lT_238 {L : Nat} {xs : Nat → Int32} : ig_T (tb_G L xs) 238 = some J_HSegments_unpackPart := (rfl : tb_M[238]? = some J_HSegments_unpackPart)
set_option maxRecDepth 100000 in
theorem lT_239 {L : Nat} {xs : Nat → Int32} : ig_T (tb_G L xs) 239 = some J_String_charAt := (rfl : tb_M[239]? = some J_String_charAt)
set_option maxRecDepth 100000 in
theorem lT_240 {L : Nat} {xs : Nat → Int32} : ig_T (tb_G L xs) 240 = some J_StringLatin1_charAt := (rfl : tb_M[240]? = some J_StringLatin1_charAt)
set_option maxRecDepth 100000 in
theorem lT_241 {L : Nat} {xs : Nat → Int32} : ig_T (tb_G L xs) 241 = some J_String_checkIndex := (rfl : tb_M[241]? = some J_String_checkIndex)
set_option maxRecDepth 100000 in
theorem lT_242 {L : Nat} {xs : Nat → Int32} : ig_T (tb_G L xs) 242 = some J_H_bars := (rfl : tb_M[242]? = some J_H_bars)
set_option maxRecDepth 100000 in
theorem lT_243 {L : Nat} {xs : Nat → Int32} : ig_T (tb_G L xs) 243 = some J_HBars_understand := (rfl : tb_M[243]? = some J_HBars_understand)
set_option maxRecDepth 100000 in
theorem lT_244 {L : Nat} {xs : Nat → Int32} : ig_T (tb_G L xs) 244 = some J_HBars_readFigures := (rfl : tb_M[244]? = some J_HBars_readFigures)
set_option maxRecDepth 100000 in
theorem lT_245 {L : Nat} {xs : Nat → Int32} : ig_T (tb_G L xs) 245 = some J_HBars_hasGuards := (rfl : tb_M[245]? = some J_HBars_hasGuards)
set_option maxRecDepth 100000 in
theorem lT_246 {L : Nat} {xs : Nat → Int32} : ig_T (tb_G L xs) 246 = some J_HBars_sumOf := (rfl : tb_M[246]? = some J_HBars_sumOf)
set_option maxRecDepth 100000 in
theorem lT_247 {L : Nat} {xs : Nat → Int32} : ig_T (tb_G L xs) 247 = some J_HBars_widthAt := (rfl : tb_M[247]? = some J_HBars_widthAt)
set_option maxRecDepth 100000 in
theorem lT_248 {L : Nat} {xs : Nat → Int32} : ig_T (tb_G L xs) 248 = some J_HBars_nearest := (rfl : tb_M[248]? = some J_HBars_nearest)
set_option maxRecDepth 100000 in
theorem lT_249 {L : Nat} {xs : Nat → Int32} : ig_T (tb_G L xs) 249 = some J_HBars_patternAt := (rfl : tb_M[249]? = some J_HBars_patternAt)
set_option maxRecDepth 100000 in
theorem lT_250 {L : Nat} {xs : Nat → Int32} : ig_T (tb_G L xs) 250 = some J_HBars_indexOf := (rfl : tb_M[250]? = some J_HBars_indexOf)
set_option maxRecDepth 100000 in
theorem lT_251 {L : Nat} {xs : Nat → Int32} : ig_T (tb_G L xs) 251 = some J_HBars_readSymbols := (rfl : tb_M[251]? = some J_HBars_readSymbols)
set_option maxRecDepth 100000 in
theorem lT_252 {L : Nat} {xs : Nat → Int32} : ig_T (tb_G L xs) 252 = some J_HBars_tell := (rfl : tb_M[252]? = some J_HBars_tell)
set_option maxRecDepth 100000 in
theorem lT_253 {L : Nat} {xs : Nat → Int32} : ig_T (tb_G L xs) 253 = some J_HBars_write := (rfl : tb_M[253]? = some J_HBars_write)
set_option maxRecDepth 100000 in
theorem lT_254 {L : Nat} {xs : Nat → Int32} : ig_T (tb_G L xs) 254 = some J_HBars_signOf := (rfl : tb_M[254]? = some J_HBars_signOf)
set_option maxRecDepth 100000 in
theorem lT_255 {L : Nat} {xs : Nat → Int32} : ig_T (tb_G L xs) 255 = some J_H_reading := (rfl : tb_M[255]? = some J_H_reading)
set_option maxRecDepth 100000 in
theorem lT_256 {L : Nat} {xs : Nat → Int32} : ig_T (tb_G L xs) 256 = some J_M_init := (rfl : tb_M[256]? = some J_M_init)
set_option maxRecDepth 100000 in
theorem lT_257 {L : Nat} {xs : Nat → Int32} : ig_T (tb_G L xs) 257 = some J_MScriptRows_init := (rfl : tb_M[257]? = some J_MScriptRows_init)
set_option maxRecDepth 100000 in
theorem lT_258 {L : Nat} {xs : Nat → Int32} : ig_T (tb_G L xs) 258 = some J_MDotRows_init := (rfl : tb_M[258]? = some J_MDotRows_init)
set_option maxRecDepth 100000 in
theorem lT_259 {L : Nat} {xs : Nat → Int32} : ig_T (tb_G L xs) 259 = some J_MLineRows_init := (rfl : tb_M[259]? = some J_MLineRows_init)
set_option maxRecDepth 100000 in
theorem lT_260 {L : Nat} {xs : Nat → Int32} : ig_T (tb_G L xs) 260 = some J_MSquareRows_init := (rfl : tb_M[260]? = some J_MSquareRows_init)
set_option maxRecDepth 100000 in
theorem lT_261 {L : Nat} {xs : Nat → Int32} : ig_T (tb_G L xs) 261 = some J_MPlaceRows_init := (rfl : tb_M[261]? = some J_MPlaceRows_init)
set_option maxRecDepth 100000 in
theorem lT_262 {L : Nat} {xs : Nat → Int32} : ig_T (tb_G L xs) 262 = some J_M_thrown := (rfl : tb_M[262]? = some J_M_thrown)
set_option maxRecDepth 100000 in
theorem lT_263 {L : Nat} {xs : Nat → Int32} : ig_T (tb_G L xs) 263 = some J_M_feed := (rfl : tb_M[263]? = some J_M_feed)
set_option maxRecDepth 100000 in
theorem lT_264 {L : Nat} {xs : Nat → Int32} : ig_T (tb_G L xs) 264 = some J_M_wipe := (rfl : tb_M[264]? = some J_M_wipe)
set_option maxRecDepth 100000 in
theorem lT_265 {L : Nat} {xs : Nat → Int32} : ig_T (tb_G L xs) 265 = some J_M_font := (rfl : tb_M[265]? = some J_M_font)
set_option maxRecDepth 100000 in
theorem lT_266 {L : Nat} {xs : Nat → Int32} : ig_T (tb_G L xs) 266 = some J_MDotRows_font := (rfl : tb_M[266]? = some J_MDotRows_font)
set_option maxRecDepth 100000 in
theorem lT_267 {L : Nat} {xs : Nat → Int32} : ig_T (tb_G L xs) 267 = some J_MDotRows_isNot := (rfl : tb_M[267]? = some J_MDotRows_isNot)
set_option maxRecDepth 100000 in
theorem lT_268 {L : Nat} {xs : Nat → Int32} : ig_T (tb_G L xs) 268 = some J_MDotRows_thrown := (rfl : tb_M[268]? = some J_MDotRows_thrown)
set_option maxRecDepth 100000 in
theorem lT_269 {L : Nat} {xs : Nat → Int32} : ig_T (tb_G L xs) 269 = some J_M_cell := (rfl : tb_M[269]? = some J_M_cell)
set_option maxRecDepth 100000 in
theorem lT_270 {L : Nat} {xs : Nat → Int32} : ig_T (tb_G L xs) 270 = some J_MDotRows_cell := (rfl : tb_M[270]? = some J_MDotRows_cell)
set_option maxRecDepth 100000 in
theorem lT_271 {L : Nat} {xs : Nat → Int32} : ig_T (tb_G L xs) 271 = some J_M_read := (rfl : tb_M[271]? = some J_M_read)
set_option maxRecDepth 100000 in
theorem lT_272 {L : Nat} {xs : Nat → Int32} : ig_T (tb_G L xs) 272 = some J_MScriptRows_wipe := (rfl : tb_M[272]? = some J_MScriptRows_wipe)
set_option maxRecDepth 100000 in
theorem lT_273 {L : Nat} {xs : Nat → Int32} : ig_T (tb_G L xs) 273 = some J_MScriptRows_write := (rfl : tb_M[273]? = some J_MScriptRows_write)
set_option maxRecDepth 100000 in
theorem lT_274 {L : Nat} {xs : Nat → Int32} : ig_T (tb_G L xs) 274 = some J_MScriptRows_read := (rfl : tb_M[274]? = some J_MScriptRows_read)
set_option maxRecDepth 100000 in
theorem lT_275 {L : Nat} {xs : Nat → Int32} : ig_T (tb_G L xs) 275 = some J_MScriptRows_step := (rfl : tb_M[275]? = some J_MScriptRows_step)
set_option maxRecDepth 100000 in
theorem lT_276 {L : Nat} {xs : Nat → Int32} : ig_T (tb_G L xs) 276 = some J_MScriptRows_peek := (rfl : tb_M[276]? = some J_MScriptRows_peek)
set_option maxRecDepth 100000 in
theorem lT_277 {L : Nat} {xs : Nat → Int32} : ig_T (tb_G L xs) 277 = some J_MScriptRows_next := (rfl : tb_M[277]? = some J_MScriptRows_next)
set_option maxRecDepth 100000 in
theorem lT_278 {L : Nat} {xs : Nat → Int32} : ig_T (tb_G L xs) 278 = some J_MScriptRows_test := (rfl : tb_M[278]? = some J_MScriptRows_test)
set_option maxRecDepth 100000 in
theorem lT_279 {L : Nat} {xs : Nat → Int32} : ig_T (tb_G L xs) 279 = some J_MScriptRows_numbers := (rfl : tb_M[279]? = some J_MScriptRows_numbers)
set_option maxRecDepth 100000 in
theorem lT_280 {L : Nat} {xs : Nat → Int32} : ig_T (tb_G L xs) 280 = some J_MScriptRows_mayStand := (rfl : tb_M[280]? = some J_MScriptRows_mayStand)
set_option maxRecDepth 100000 in
theorem lT_281 {L : Nat} {xs : Nat → Int32} : ig_T (tb_G L xs) 281 = some J_MScriptRows_takeNumbers := (rfl : tb_M[281]? = some J_MScriptRows_takeNumbers)
set_option maxRecDepth 100000 in
theorem lT_282 {L : Nat} {xs : Nat → Int32} : ig_T (tb_G L xs) 282 = some J_MScriptRows_preset := (rfl : tb_M[282]? = some J_MScriptRows_preset)
set_option maxRecDepth 100000 in
theorem lT_283 {L : Nat} {xs : Nat → Int32} : ig_T (tb_G L xs) 283 = some J_MScriptRows_isDigit := (rfl : tb_M[283]? = some J_MScriptRows_isDigit)
set_option maxRecDepth 100000 in
theorem lT_284 {L : Nat} {xs : Nat → Int32} : ig_T (tb_G L xs) 284 = some J_MScriptRows_testRanges := (rfl : tb_M[284]? = some J_MScriptRows_testRanges)
set_option maxRecDepth 100000 in
theorem lT_285 {L : Nat} {xs : Nat → Int32} : ig_T (tb_G L xs) 285 = some J_MScriptRows_range := (rfl : tb_M[285]? = some J_MScriptRows_range)
set_option maxRecDepth 100000 in
theorem lT_286 {L : Nat} {xs : Nat → Int32} : ig_T (tb_G L xs) 286 = some J_MScriptRows_picture := (rfl : tb_M[286]? = some J_MScriptRows_picture)
set_option maxRecDepth 100000 in
theorem lT_287 {L : Nat} {xs : Nat → Int32} : ig_T (tb_G L xs) 287 = some J_MScriptRows_takeData := (rfl : tb_M[287]? = some J_MScriptRows_takeData)
set_option maxRecDepth 100000 in
theorem lT_288 {L : Nat} {xs : Nat → Int32} : ig_T (tb_G L xs) 288 = some J_MScriptRows_hex := (rfl : tb_M[288]? = some J_MScriptRows_hex)
set_option maxRecDepth 100000 in
theorem lT_289 {L : Nat} {xs : Nat → Int32} : ig_T (tb_G L xs) 289 = some J_MScriptRows_formSize := (rfl : tb_M[289]? = some J_MScriptRows_formSize)
set_option maxRecDepth 100000 in
theorem lT_290 {L : Nat} {xs : Nat → Int32} : ig_T (tb_G L xs) 290 = some J_MScriptRows_tryField := (rfl : tb_M[290]? = some J_MScriptRows_tryField)
set_option maxRecDepth 100000 in
theorem lT_291 {L : Nat} {xs : Nat → Int32} : ig_T (tb_G L xs) 291 = some J_MScriptRows_fits := (rfl : tb_M[291]? = some J_MScriptRows_fits)
set_option maxRecDepth 100000 in
theorem lT_292 {L : Nat} {xs : Nat → Int32} : ig_T (tb_G L xs) 292 = some J_MScriptRows_isPlaced := (rfl : tb_M[292]? = some J_MScriptRows_isPlaced)
set_option maxRecDepth 100000 in
theorem lT_293 {L : Nat} {xs : Nat → Int32} : ig_T (tb_G L xs) 293 = some J_MScriptRows_lay := (rfl : tb_M[293]? = some J_MScriptRows_lay)
set_option maxRecDepth 100000 in
theorem lT_294 {L : Nat} {xs : Nat → Int32} : ig_T (tb_G L xs) 294 = some J_MScriptRows_makeField := (rfl : tb_M[294]? = some J_MScriptRows_makeField)
set_option maxRecDepth 100000 in
theorem lT_295 {L : Nat} {xs : Nat → Int32} : ig_T (tb_G L xs) 295 = some J_MScriptRows_takeCopy := (rfl : tb_M[295]? = some J_MScriptRows_takeCopy)
set_option maxRecDepth 100000 in
theorem lT_296 {L : Nat} {xs : Nat → Int32} : ig_T (tb_G L xs) 296 = some J_MScriptRows_give := (rfl : tb_M[296]? = some J_MScriptRows_give)
set_option maxRecDepth 100000 in
theorem lT_297 {L : Nat} {xs : Nat → Int32} : ig_T (tb_G L xs) 297 = some J_MScriptRows_stepX := (rfl : tb_M[297]? = some J_MScriptRows_stepX)
set_option maxRecDepth 100000 in
theorem lT_298 {L : Nat} {xs : Nat → Int32} : ig_T (tb_G L xs) 298 = some J_MScriptRows_stepY := (rfl : tb_M[298]? = some J_MScriptRows_stepY)
set_option maxRecDepth 100000 in
theorem lT_299 {L : Nat} {xs : Nat → Int32} : ig_T (tb_G L xs) 299 = some J_MScriptRows_isFar := (rfl : tb_M[299]? = some J_MScriptRows_isFar)
set_option maxRecDepth 100000 in
theorem lT_300 {L : Nat} {xs : Nat → Int32} : ig_T (tb_G L xs) 300 = some J_MScriptRows_have := (rfl : tb_M[300]? = some J_MScriptRows_have)
set_option maxRecDepth 100000 in
theorem lT_301 {L : Nat} {xs : Nat → Int32} : ig_T (tb_G L xs) 301 = some J_MScriptRows_makeLines := (rfl : tb_M[301]? = some J_MScriptRows_makeLines)
set_option maxRecDepth 100000 in
theorem lT_302 {L : Nat} {xs : Nat → Int32} : ig_T (tb_G L xs) 302 = some J_MScriptRows_pieceEnd := (rfl : tb_M[302]? = some J_MScriptRows_pieceEnd)
set_option maxRecDepth 100000 in
theorem lT_303 {L : Nat} {xs : Nat → Int32} : ig_T (tb_G L xs) 303 = some J_MScriptRows_giveLine := (rfl : tb_M[303]? = some J_MScriptRows_giveLine)
set_option maxRecDepth 100000 in
theorem lT_304 {L : Nat} {xs : Nat → Int32} : ig_T (tb_G L xs) 304 = some J_MScriptRows_obey := (rfl : tb_M[304]? = some J_MScriptRows_obey)
set_option maxRecDepth 100000 in
theorem lT_305 {L : Nat} {xs : Nat → Int32} : ig_T (tb_G L xs) 305 = some J_MScriptRows_storeForm := (rfl : tb_M[305]? = some J_MScriptRows_storeForm)
set_option maxRecDepth 100000 in
theorem lT_306 {L : Nat} {xs : Nat → Int32} : ig_T (tb_G L xs) 306 = some J_MScriptRows_storeData := (rfl : tb_M[306]? = some J_MScriptRows_storeData)
set_option maxRecDepth 100000 in
theorem lT_307 {L : Nat} {xs : Nat → Int32} : ig_T (tb_G L xs) 307 = some J_MScriptRows_beginLabel := (rfl : tb_M[307]? = some J_MScriptRows_beginLabel)
set_option maxRecDepth 100000 in
theorem lT_308 {L : Nat} {xs : Nat → Int32} : ig_T (tb_G L xs) 308 = some J_MScriptRows_newField := (rfl : tb_M[308]? = some J_MScriptRows_newField)
set_option maxRecDepth 100000 in
theorem lT_309 {L : Nat} {xs : Nat → Int32} : ig_T (tb_G L xs) 309 = some J_MScriptRows_endLabel := (rfl : tb_M[309]? = some J_MScriptRows_endLabel)
set_option maxRecDepth 100000 in
theorem lT_310 {L : Nat} {xs : Nat → Int32} : ig_T (tb_G L xs) 310 = some J_MScriptRows_layForm := (rfl : tb_M[310]? = some J_MScriptRows_layForm)
set_option maxRecDepth 100000 in
theorem lT_311 {L : Nat} {xs : Nat → Int32} : ig_T (tb_G L xs) 311 = some J_MScriptRows_set := (rfl : tb_M[311]? = some J_MScriptRows_set)
set_option maxRecDepth 100000 in
theorem lT_312 {L : Nat} {xs : Nat → Int32} : ig_T (tb_G L xs) 312 = some J_MScriptRows_kindOf := (rfl : tb_M[312]? = some J_MScriptRows_kindOf)
set_option maxRecDepth 100000 in
theorem lT_313 {L : Nat} {xs : Nat → Int32} : ig_T (tb_G L xs) 313 = some J_M_fault := (rfl : tb_M[313]? = some J_M_fault)
set_option maxRecDepth 100000 in
theorem lT_314 {L : Nat} {xs : Nat → Int32} : ig_T (tb_G L xs) 314 = some J_MScriptRows_fault := (rfl : tb_M[314]? = some J_MScriptRows_fault)
set_option maxRecDepth 100000 in
theorem lT_315 {L : Nat} {xs : Nat → Int32} : ig_T (tb_G L xs) 315 = some J_M_place := (rfl : tb_M[315]? = some J_M_place)
set_option maxRecDepth 100000 in
theorem lT_316 {L : Nat} {xs : Nat → Int32} : ig_T (tb_G L xs) 316 = some J_MScriptRows_place := (rfl : tb_M[316]? = some J_MScriptRows_place)
set_option maxRecDepth 100000 in
theorem lT_317 {L : Nat} {xs : Nat → Int32} : ig_T (tb_G L xs) 317 = some J_M_label := (rfl : tb_M[317]? = some J_M_label)
set_option maxRecDepth 100000 in
theorem lT_318 {L : Nat} {xs : Nat → Int32} : ig_T (tb_G L xs) 318 = some J_MScriptRows_label := (rfl : tb_M[318]? = some J_MScriptRows_label)
set_option maxRecDepth 100000 in
theorem lT_319 {L : Nat} {xs : Nat → Int32} : ig_T (tb_G L xs) 319 = some J_MScriptRows_thrown := (rfl : tb_M[319]? = some J_MScriptRows_thrown)
set_option maxRecDepth 100000 in
theorem lT_320 {L : Nat} {xs : Nat → Int32} : ig_T (tb_G L xs) 320 = some J_M_order := (rfl : tb_M[320]? = some J_M_order)
set_option maxRecDepth 100000 in
theorem lT_321 {L : Nat} {xs : Nat → Int32} : ig_T (tb_G L xs) 321 = some J_MScriptRows_order := (rfl : tb_M[321]? = some J_MScriptRows_order)
set_option maxRecDepth 100000 in
theorem lT_322 {L : Nat} {xs : Nat → Int32} : ig_T (tb_G L xs) 322 = some J_M_data := (rfl : tb_M[322]? = some J_M_data)
set_option maxRecDepth 100000 in
theorem lT_323 {L : Nat} {xs : Nat → Int32} : ig_T (tb_G L xs) 323 = some J_MScriptRows_data := (rfl : tb_M[323]? = some J_MScriptRows_data)
set_option maxRecDepth 100000 in
theorem lT_324 {L : Nat} {xs : Nat → Int32} : ig_T (tb_G L xs) 324 = some J_M_print := (rfl : tb_M[324]? = some J_M_print)
set_option maxRecDepth 100000 in
theorem lT_325 {L : Nat} {xs : Nat → Int32} : ig_T (tb_G L xs) 325 = some J_MDotRows_sheet := (rfl : tb_M[325]? = some J_MDotRows_sheet)
set_option maxRecDepth 100000 in
theorem lT_326 {L : Nat} {xs : Nat → Int32} : ig_T (tb_G L xs) 326 = some J_M_draw := (rfl : tb_M[326]? = some J_M_draw)
set_option maxRecDepth 100000 in
theorem lT_327 {L : Nat} {xs : Nat → Int32} : ig_T (tb_G L xs) 327 = some J_MDotRows_way := (rfl : tb_M[327]? = some J_MDotRows_way)
set_option maxRecDepth 100000 in
theorem lT_328 {L : Nat} {xs : Nat → Int32} : ig_T (tb_G L xs) 328 = some J_MDotRows_wipe := (rfl : tb_M[328]? = some J_MDotRows_wipe)
set_option maxRecDepth 100000 in
theorem lT_329 {L : Nat} {xs : Nat → Int32} : ig_T (tb_G L xs) 329 = some J_M_draftData := (rfl : tb_M[329]? = some J_M_draftData)
set_option maxRecDepth 100000 in
theorem lT_330 {L : Nat} {xs : Nat → Int32} : ig_T (tb_G L xs) 330 = some J_M_byteOf := (rfl : tb_M[330]? = some J_M_byteOf)
set_option maxRecDepth 100000 in
theorem lT_331 {L : Nat} {xs : Nat → Int32} : ig_T (tb_G L xs) 331 = some J_M_draft := (rfl : tb_M[331]? = some J_M_draft)
set_option maxRecDepth 100000 in
theorem lT_332 {L : Nat} {xs : Nat → Int32} : ig_T (tb_G L xs) 332 = some J_MDotRows_write := (rfl : tb_M[332]? = some J_MDotRows_write)
set_option maxRecDepth 100000 in
theorem lT_333 {L : Nat} {xs : Nat → Int32} : ig_T (tb_G L xs) 333 = some J_MDotRows_text := (rfl : tb_M[333]? = some J_MDotRows_text)
set_option maxRecDepth 100000 in
theorem lT_334 {L : Nat} {xs : Nat → Int32} : ig_T (tb_G L xs) 334 = some J_MDotRows_noPlace := (rfl : tb_M[334]? = some J_MDotRows_noPlace)
set_option maxRecDepth 100000 in
theorem lT_335 {L : Nat} {xs : Nat → Int32} : ig_T (tb_G L xs) 335 = some J_MDotRows_at := (rfl : tb_M[335]? = some J_MDotRows_at)
set_option maxRecDepth 100000 in
theorem lT_336 {L : Nat} {xs : Nat → Int32} : ig_T (tb_G L xs) 336 = some J_MDotRows_draw := (rfl : tb_M[336]? = some J_MDotRows_draw)
set_option maxRecDepth 100000 in
theorem lT_337 {L : Nat} {xs : Nat → Int32} : ig_T (tb_G L xs) 337 = some J_MDotRows_belongs := (rfl : tb_M[337]? = some J_MDotRows_belongs)
set_option maxRecDepth 100000 in
theorem lT_338 {L : Nat} {xs : Nat → Int32} : ig_T (tb_G L xs) 338 = some J_MDotRows_inFrame := (rfl : tb_M[338]? = some J_MDotRows_inFrame)
set_option maxRecDepth 100000 in
theorem lT_339 {L : Nat} {xs : Nat → Int32} : ig_T (tb_G L xs) 339 = some J_MDotRows_inLine := (rfl : tb_M[339]? = some J_MDotRows_inLine)
set_option maxRecDepth 100000 in
theorem lT_340 {L : Nat} {xs : Nat → Int32} : ig_T (tb_G L xs) 340 = some J_MDotRows_inEllipse := (rfl : tb_M[340]? = some J_MDotRows_inEllipse)
set_option maxRecDepth 100000 in
theorem lT_341 {L : Nat} {xs : Nat → Int32} : ig_T (tb_G L xs) 341 = some J_MDotRows_inOval := (rfl : tb_M[341]? = some J_MDotRows_inOval)
set_option maxRecDepth 100000 in
theorem lT_342 {L : Nat} {xs : Nat → Int32} : ig_T (tb_G L xs) 342 = some J_MDotRows_inPicture := (rfl : tb_M[342]? = some J_MDotRows_inPicture)
set_option maxRecDepth 100000 in
theorem lT_343 {L : Nat} {xs : Nat → Int32} : ig_T (tb_G L xs) 343 = some J_MDotRows_bit := (rfl : tb_M[343]? = some J_MDotRows_bit)
set_option maxRecDepth 100000 in
theorem lT_344 {L : Nat} {xs : Nat → Int32} : ig_T (tb_G L xs) 344 = some J_MDotRows_along := (rfl : tb_M[344]? = some J_MDotRows_along)
set_option maxRecDepth 100000 in
theorem lT_345 {L : Nat} {xs : Nat → Int32} : ig_T (tb_G L xs) 345 = some J_MDotRows_across := (rfl : tb_M[345]? = some J_MDotRows_across)
set_option maxRecDepth 100000 in
theorem lT_346 {L : Nat} {xs : Nat → Int32} : ig_T (tb_G L xs) 346 = some J_MDotRows_inText := (rfl : tb_M[346]? = some J_MDotRows_inText)
set_option maxRecDepth 100000 in
theorem lT_347 {L : Nat} {xs : Nat → Int32} : ig_T (tb_G L xs) 347 = some J_MDotRows_inSquare := (rfl : tb_M[347]? = some J_MDotRows_inSquare)
set_option maxRecDepth 100000 in
theorem lT_348 {L : Nat} {xs : Nat → Int32} : ig_T (tb_G L xs) 348 = some J_MDotRows_isDark := (rfl : tb_M[348]? = some J_MDotRows_isDark)
set_option maxRecDepth 100000 in
theorem lT_349 {L : Nat} {xs : Nat → Int32} : ig_T (tb_G L xs) 349 = some J_MDotRows_isOn := (rfl : tb_M[349]? = some J_MDotRows_isOn)
set_option maxRecDepth 100000 in
theorem lT_350 {L : Nat} {xs : Nat → Int32} : ig_T (tb_G L xs) 350 = some J_MDotRows_other := (rfl : tb_M[350]? = some J_MDotRows_other)
set_option maxRecDepth 100000 in
theorem lT_351 {L : Nat} {xs : Nat → Int32} : ig_T (tb_G L xs) 351 = some J_M_draftRow := (rfl : tb_M[351]? = some J_M_draftRow)
set_option maxRecDepth 100000 in
theorem lT_352 {L : Nat} {xs : Nat → Int32} : ig_T (tb_G L xs) 352 = some J_MLineRows_wipe := (rfl : tb_M[352]? = some J_MLineRows_wipe)
set_option maxRecDepth 100000 in
theorem lT_353 {L : Nat} {xs : Nat → Int32} : ig_T (tb_G L xs) 353 = some J_MLineRows_write := (rfl : tb_M[353]? = some J_MLineRows_write)
set_option maxRecDepth 100000 in
theorem lT_354 {L : Nat} {xs : Nat → Int32} : ig_T (tb_G L xs) 354 = some J_MLineRows_pack := (rfl : tb_M[354]? = some J_MLineRows_pack)
set_option maxRecDepth 100000 in
theorem lT_355 {L : Nat} {xs : Nat → Int32} : ig_T (tb_G L xs) 355 = some J_MLineRows_relax := (rfl : tb_M[355]? = some J_MLineRows_relax)
set_option maxRecDepth 100000 in
theorem lT_356 {L : Nat} {xs : Nat → Int32} : ig_T (tb_G L xs) 356 = some J_MLineRows_with := (rfl : tb_M[356]? = some J_MLineRows_with)
set_option maxRecDepth 100000 in
theorem lT_357 {L : Nat} {xs : Nat → Int32} : ig_T (tb_G L xs) 357 = some J_MLineRows_tells := (rfl : tb_M[357]? = some J_MLineRows_tells)
set_option maxRecDepth 100000 in
theorem lT_358 {L : Nat} {xs : Nat → Int32} : ig_T (tb_G L xs) 358 = some J_MLineRows_at := (rfl : tb_M[358]? = some J_MLineRows_at)
set_option maxRecDepth 100000 in
theorem lT_359 {L : Nat} {xs : Nat → Int32} : ig_T (tb_G L xs) 359 = some J_MLineRows_isPair := (rfl : tb_M[359]? = some J_MLineRows_isPair)
set_option maxRecDepth 100000 in
theorem lT_360 {L : Nat} {xs : Nat → Int32} : ig_T (tb_G L xs) 360 = some J_MLineRows_signOf := (rfl : tb_M[360]? = some J_MLineRows_signOf)
set_option maxRecDepth 100000 in
theorem lT_361 {L : Nat} {xs : Nat → Int32} : ig_T (tb_G L xs) 361 = some J_MLineRows_leastAt := (rfl : tb_M[361]? = some J_MLineRows_leastAt)
set_option maxRecDepth 100000 in
theorem lT_362 {L : Nat} {xs : Nat → Int32} : ig_T (tb_G L xs) 362 = some J_MLineRows_goes := (rfl : tb_M[362]? = some J_MLineRows_goes)
set_option maxRecDepth 100000 in
theorem lT_363 {L : Nat} {xs : Nat → Int32} : ig_T (tb_G L xs) 363 = some J_MLineRows_isOther := (rfl : tb_M[363]? = some J_MLineRows_isOther)
set_option maxRecDepth 100000 in
theorem lT_364 {L : Nat} {xs : Nat → Int32} : ig_T (tb_G L xs) 364 = some J_MLineRows_add := (rfl : tb_M[364]? = some J_MLineRows_add)
set_option maxRecDepth 100000 in
theorem lT_365 {L : Nat} {xs : Nat → Int32} : ig_T (tb_G L xs) 365 = some J_MLineRows_check := (rfl : tb_M[365]? = some J_MLineRows_check)
set_option maxRecDepth 100000 in
theorem lT_366 {L : Nat} {xs : Nat → Int32} : ig_T (tb_G L xs) 366 = some J_MLineRows_bars := (rfl : tb_M[366]? = some J_MLineRows_bars)
set_option maxRecDepth 100000 in
theorem lT_367 {L : Nat} {xs : Nat → Int32} : ig_T (tb_G L xs) 367 = some J_MLineRows_noModule := (rfl : tb_M[367]? = some J_MLineRows_noModule)
set_option maxRecDepth 100000 in
theorem lT_368 {L : Nat} {xs : Nat → Int32} : ig_T (tb_G L xs) 368 = some J_MLineRows_lay := (rfl : tb_M[368]? = some J_MLineRows_lay)
set_option maxRecDepth 100000 in
theorem lT_369 {L : Nat} {xs : Nat → Int32} : ig_T (tb_G L xs) 369 = some J_M_draftWidths := (rfl : tb_M[369]? = some J_M_draftWidths)
set_option maxRecDepth 100000 in
theorem lT_370 {L : Nat} {xs : Nat → Int32} : ig_T (tb_G L xs) 370 = some J_MLineRows_width := (rfl : tb_M[370]? = some J_MLineRows_width)
set_option maxRecDepth 100000 in
theorem lT_371 {L : Nat} {xs : Nat → Int32} : ig_T (tb_G L xs) 371 = some J_MDotRows_bars := (rfl : tb_M[371]? = some J_MDotRows_bars)
set_option maxRecDepth 100000 in
theorem lT_372 {L : Nat} {xs : Nat → Int32} : ig_T (tb_G L xs) 372 = some J_M_draftThirteen := (rfl : tb_M[372]? = some J_M_draftThirteen)
set_option maxRecDepth 100000 in
theorem lT_373 {L : Nat} {xs : Nat → Int32} : ig_T (tb_G L xs) 373 = some J_MLineRows_thirteen := (rfl : tb_M[373]? = some J_MLineRows_thirteen)
set_option maxRecDepth 100000 in
theorem lT_374 {L : Nat} {xs : Nat → Int32} : ig_T (tb_G L xs) 374 = some J_MLineRows_noTwelve := (rfl : tb_M[374]? = some J_MLineRows_noTwelve)
set_option maxRecDepth 100000 in
theorem lT_375 {L : Nat} {xs : Nat → Int32} : ig_T (tb_G L xs) 375 = some J_MLineRows_checkFigure := (rfl : tb_M[375]? = some J_MLineRows_checkFigure)
set_option maxRecDepth 100000 in
theorem lT_376 {L : Nat} {xs : Nat → Int32} : ig_T (tb_G L xs) 376 = some J_MLineRows_figure := (rfl : tb_M[376]? = some J_MLineRows_figure)
set_option maxRecDepth 100000 in
theorem lT_377 {L : Nat} {xs : Nat → Int32} : ig_T (tb_G L xs) 377 = some J_MLineRows_isTurned := (rfl : tb_M[377]? = some J_MLineRows_isTurned)
set_option maxRecDepth 100000 in
theorem lT_378 {L : Nat} {xs : Nat → Int32} : ig_T (tb_G L xs) 378 = some J_MLineRows_reversed := (rfl : tb_M[378]? = some J_MLineRows_reversed)
set_option maxRecDepth 100000 in
theorem lT_379 {L : Nat} {xs : Nat → Int32} : ig_T (tb_G L xs) 379 = some J_M_draftSymbol := (rfl : tb_M[379]? = some J_M_draftSymbol)
set_option maxRecDepth 100000 in
theorem lT_380 {L : Nat} {xs : Nat → Int32} : ig_T (tb_G L xs) 380 = some J_MSquareRows_wipe := (rfl : tb_M[380]? = some J_MSquareRows_wipe)
set_option maxRecDepth 100000 in
theorem lT_381 {L : Nat} {xs : Nat → Int32} : ig_T (tb_G L xs) 381 = some J_MSquareRows_put := (rfl : tb_M[381]? = some J_MSquareRows_put)
set_option maxRecDepth 100000 in
theorem lT_382 {L : Nat} {xs : Nat → Int32} : ig_T (tb_G L xs) 382 = some J_MSquareRows_make := (rfl : tb_M[382]? = some J_MSquareRows_make)
set_option maxRecDepth 100000 in
theorem lT_383 {L : Nat} {xs : Nat → Int32} : ig_T (tb_G L xs) 383 = some J_MSquareRows_versionFor := (rfl : tb_M[383]? = some J_MSquareRows_versionFor)
set_option maxRecDepth 100000 in
theorem lT_384 {L : Nat} {xs : Nat → Int32} : ig_T (tb_G L xs) 384 = some J_MSquareRows_fits := (rfl : tb_M[384]? = some J_MSquareRows_fits)
set_option maxRecDepth 100000 in
theorem lT_385 {L : Nat} {xs : Nat → Int32} : ig_T (tb_G L xs) 385 = some J_MSquareRows_rank := (rfl : tb_M[385]? = some J_MSquareRows_rank)
set_option maxRecDepth 100000 in
theorem lT_386 {L : Nat} {xs : Nat → Int32} : ig_T (tb_G L xs) 386 = some J_MSquareRows_divide := (rfl : tb_M[386]? = some J_MSquareRows_divide)
set_option maxRecDepth 100000 in
theorem lT_387 {L : Nat} {xs : Nat → Int32} : ig_T (tb_G L xs) 387 = some J_MSquareRows_least := (rfl : tb_M[387]? = some J_MSquareRows_least)
set_option maxRecDepth 100000 in
theorem lT_388 {L : Nat} {xs : Nat → Int32} : ig_T (tb_G L xs) 388 = some J_MSquareRows_restOf := (rfl : tb_M[388]? = some J_MSquareRows_restOf)
set_option maxRecDepth 100000 in
theorem lT_389 {L : Nat} {xs : Nat → Int32} : ig_T (tb_G L xs) 389 = some J_MSquareRows_may := (rfl : tb_M[389]? = some J_MSquareRows_may)
set_option maxRecDepth 100000 in
theorem lT_390 {L : Nat} {xs : Nat → Int32} : ig_T (tb_G L xs) 390 = some J_MSquareRows_signOf := (rfl : tb_M[390]? = some J_MSquareRows_signOf)
set_option maxRecDepth 100000 in
theorem lT_391 {L : Nat} {xs : Nat → Int32} : ig_T (tb_G L xs) 391 = some J_MSquareRows_costOf := (rfl : tb_M[391]? = some J_MSquareRows_costOf)
set_option maxRecDepth 100000 in
theorem lT_392 {L : Nat} {xs : Nat → Int32} : ig_T (tb_G L xs) 392 = some J_MSquareRows_modeOf := (rfl : tb_M[392]? = some J_MSquareRows_modeOf)
set_option maxRecDepth 100000 in
theorem lT_393 {L : Nat} {xs : Nat → Int32} : ig_T (tb_G L xs) 393 = some J_MSquareRows_lengthBits := (rfl : tb_M[393]? = some J_MSquareRows_lengthBits)
set_option maxRecDepth 100000 in
theorem lT_394 {L : Nat} {xs : Nat → Int32} : ig_T (tb_G L xs) 394 = some J_MSquareRows_stateAfter := (rfl : tb_M[394]? = some J_MSquareRows_stateAfter)
set_option maxRecDepth 100000 in
theorem lT_395 {L : Nat} {xs : Nat → Int32} : ig_T (tb_G L xs) 395 = some J_MSquareRows_holds := (rfl : tb_M[395]? = some J_MSquareRows_holds)
set_option maxRecDepth 100000 in
theorem lT_396 {L : Nat} {xs : Nat → Int32} : ig_T (tb_G L xs) 396 = some J_MSquareRows_allCodewords := (rfl : tb_M[396]? = some J_MSquareRows_allCodewords)
set_option maxRecDepth 100000 in
theorem lT_397 {L : Nat} {xs : Nat → Int32} : ig_T (tb_G L xs) 397 = some J_MSquareRows_checkOf := (rfl : tb_M[397]? = some J_MSquareRows_checkOf)
set_option maxRecDepth 100000 in
theorem lT_398 {L : Nat} {xs : Nat → Int32} : ig_T (tb_G L xs) 398 = some J_MSquareRows_blocksOf := (rfl : tb_M[398]? = some J_MSquareRows_blocksOf)
set_option maxRecDepth 100000 in
theorem lT_399 {L : Nat} {xs : Nat → Int32} : ig_T (tb_G L xs) 399 = some J_MSquareRows_layAll := (rfl : tb_M[399]? = some J_MSquareRows_layAll)
set_option maxRecDepth 100000 in
theorem lT_400 {L : Nat} {xs : Nat → Int32} : ig_T (tb_G L xs) 400 = some J_MSquareRows_laySegment := (rfl : tb_M[400]? = some J_MSquareRows_laySegment)
set_option maxRecDepth 100000 in
theorem lT_401 {L : Nat} {xs : Nat → Int32} : ig_T (tb_G L xs) 401 = some J_MSquareRows_lay := (rfl : tb_M[401]? = some J_MSquareRows_lay)
set_option maxRecDepth 100000 in
theorem lT_402 {L : Nat} {xs : Nat → Int32} : ig_T (tb_G L xs) 402 = some J_MSquareRows_check := (rfl : tb_M[402]? = some J_MSquareRows_check)
set_option maxRecDepth 100000 in
theorem lT_403 {L : Nat} {xs : Nat → Int32} : ig_T (tb_G L xs) 403 = some J_MSquareRows_generate := (rfl : tb_M[403]? = some J_MSquareRows_generate)
set_option maxRecDepth 100000 in
theorem lT_404 {L : Nat} {xs : Nat → Int32} : ig_T (tb_G L xs) 404 = some J_MSquareRows_two := (rfl : tb_M[404]? = some J_MSquareRows_two)
set_option maxRecDepth 100000 in
theorem lT_405 {L : Nat} {xs : Nat → Int32} : ig_T (tb_G L xs) 405 = some J_MSquareRows_times := (rfl : tb_M[405]? = some J_MSquareRows_times)
set_option maxRecDepth 100000 in
theorem lT_406 {L : Nat} {xs : Nat → Int32} : ig_T (tb_G L xs) 406 = some J_MSquareRows_shareOf := (rfl : tb_M[406]? = some J_MSquareRows_shareOf)
set_option maxRecDepth 100000 in
theorem lT_407 {L : Nat} {xs : Nat → Int32} : ig_T (tb_G L xs) 407 = some J_MSquareRows_startOf := (rfl : tb_M[407]? = some J_MSquareRows_startOf)
set_option maxRecDepth 100000 in
theorem lT_408 {L : Nat} {xs : Nat → Int32} : ig_T (tb_G L xs) 408 = some J_MSquareRows_placeOf := (rfl : tb_M[408]? = some J_MSquareRows_placeOf)
set_option maxRecDepth 100000 in
theorem lT_409 {L : Nat} {xs : Nat → Int32} : ig_T (tb_G L xs) 409 = some J_MSquareRows_frame := (rfl : tb_M[409]? = some J_MSquareRows_frame)
set_option maxRecDepth 100000 in
theorem lT_410 {L : Nat} {xs : Nat → Int32} : ig_T (tb_G L xs) 410 = some J_MSquareRows_sideOf := (rfl : tb_M[410]? = some J_MSquareRows_sideOf)
set_option maxRecDepth 100000 in
theorem lT_411 {L : Nat} {xs : Nat → Int32} : ig_T (tb_G L xs) 411 = some J_MSquareRows_fix := (rfl : tb_M[411]? = some J_MSquareRows_fix)
set_option maxRecDepth 100000 in
theorem lT_412 {L : Nat} {xs : Nat → Int32} : ig_T (tb_G L xs) 412 = some J_MSquareRows_moduleAt := (rfl : tb_M[412]? = some J_MSquareRows_moduleAt)
set_option maxRecDepth 100000 in
theorem lT_413 {L : Nat} {xs : Nat → Int32} : ig_T (tb_G L xs) 413 = some J_MSquareRows_square := (rfl : tb_M[413]? = some J_MSquareRows_square)
set_option maxRecDepth 100000 in
theorem lT_414 {L : Nat} {xs : Nat → Int32} : ig_T (tb_G L xs) 414 = some J_MSquareRows_greater := (rfl : tb_M[414]? = some J_MSquareRows_greater)
set_option maxRecDepth 100000 in
theorem lT_415 {L : Nat} {xs : Nat → Int32} : ig_T (tb_G L xs) 415 = some J_MSquareRows_alignmentAt := (rfl : tb_M[415]? = some J_MSquareRows_alignmentAt)
set_option maxRecDepth 100000 in
theorem lT_416 {L : Nat} {xs : Nat → Int32} : ig_T (tb_G L xs) 416 = some J_MSquareRows_layForm := (rfl : tb_M[416]? = some J_MSquareRows_layForm)
set_option maxRecDepth 100000 in
theorem lT_417 {L : Nat} {xs : Nat → Int32} : ig_T (tb_G L xs) 417 = some J_MSquareRows_formWord := (rfl : tb_M[417]? = some J_MSquareRows_formWord)
set_option maxRecDepth 100000 in
theorem lT_418 {L : Nat} {xs : Nat → Int32} : ig_T (tb_G L xs) 418 = some J_MSquareRows_shortWord := (rfl : tb_M[418]? = some J_MSquareRows_shortWord)
set_option maxRecDepth 100000 in
theorem lT_419 {L : Nat} {xs : Nat → Int32} : ig_T (tb_G L xs) 419 = some J_MSquareRows_formX := (rfl : tb_M[419]? = some J_MSquareRows_formX)
set_option maxRecDepth 100000 in
theorem lT_420 {L : Nat} {xs : Nat → Int32} : ig_T (tb_G L xs) 420 = some J_MSquareRows_formY := (rfl : tb_M[420]? = some J_MSquareRows_formY)
set_option maxRecDepth 100000 in
theorem lT_421 {L : Nat} {xs : Nat → Int32} : ig_T (tb_G L xs) 421 = some J_MSquareRows_formNumber := (rfl : tb_M[421]? = some J_MSquareRows_formNumber)
set_option maxRecDepth 100000 in
theorem lT_422 {L : Nat} {xs : Nat → Int32} : ig_T (tb_G L xs) 422 = some J_MSquareRows_goThrough := (rfl : tb_M[422]? = some J_MSquareRows_goThrough)
set_option maxRecDepth 100000 in
theorem lT_423 {L : Nat} {xs : Nat → Int32} : ig_T (tb_G L xs) 423 = some J_MSquareRows_masked := (rfl : tb_M[423]? = some J_MSquareRows_masked)
set_option maxRecDepth 100000 in
theorem lT_424 {L : Nat} {xs : Nat → Int32} : ig_T (tb_G L xs) 424 = some J_MSquareRows_penalty := (rfl : tb_M[424]? = some J_MSquareRows_penalty)
set_option maxRecDepth 100000 in
theorem lT_425 {L : Nat} {xs : Nat → Int32} : ig_T (tb_G L xs) 425 = some J_MSquareRows_lines := (rfl : tb_M[425]? = some J_MSquareRows_lines)
set_option maxRecDepth 100000 in
theorem lT_426 {L : Nat} {xs : Nat → Int32} : ig_T (tb_G L xs) 426 = some J_MSquareRows_module := (rfl : tb_M[426]? = some J_MSquareRows_module)
set_option maxRecDepth 100000 in
theorem lT_427 {L : Nat} {xs : Nat → Int32} : ig_T (tb_G L xs) 427 = some J_MSquareRows_row := (rfl : tb_M[427]? = some J_MSquareRows_row)
set_option maxRecDepth 100000 in
theorem lT_428 {L : Nat} {xs : Nat → Int32} : ig_T (tb_G L xs) 428 = some J_MDotRows_square := (rfl : tb_M[428]? = some J_MDotRows_square)
set_option maxRecDepth 100000 in
theorem lT_429 {L : Nat} {xs : Nat → Int32} : ig_T (tb_G L xs) 429 = some J_MDotRows_frame := (rfl : tb_M[429]? = some J_MDotRows_frame)
set_option maxRecDepth 100000 in
theorem lT_430 {L : Nat} {xs : Nat → Int32} : ig_T (tb_G L xs) 430 = some J_MDotRows_noRing := (rfl : tb_M[430]? = some J_MDotRows_noRing)
set_option maxRecDepth 100000 in
theorem lT_431 {L : Nat} {xs : Nat → Int32} : ig_T (tb_G L xs) 431 = some J_MDotRows_ellipse := (rfl : tb_M[431]? = some J_MDotRows_ellipse)
set_option maxRecDepth 100000 in
theorem lT_432 {L : Nat} {xs : Nat → Int32} : ig_T (tb_G L xs) 432 = some J_MDotRows_line := (rfl : tb_M[432]? = some J_MDotRows_line)
set_option maxRecDepth 100000 in
theorem lT_433 {L : Nat} {xs : Nat → Int32} : ig_T (tb_G L xs) 433 = some J_MDotRows_picture := (rfl : tb_M[433]? = some J_MDotRows_picture)
set_option maxRecDepth 100000 in
theorem lT_434 {L : Nat} {xs : Nat → Int32} : ig_T (tb_G L xs) 434 = some J_M_follow := (rfl : tb_M[434]? = some J_M_follow)
set_option maxRecDepth 100000 in
theorem lT_435 {L : Nat} {xs : Nat → Int32} : ig_T (tb_G L xs) 435 = some J_MDotRows_told := (rfl : tb_M[435]? = some J_MDotRows_told)
set_option maxRecDepth 100000 in
theorem lT_436 {L : Nat} {xs : Nat → Int32} : ig_T (tb_G L xs) 436 = some J_MPlaceRows_sheet := (rfl : tb_M[436]? = some J_MPlaceRows_sheet)
set_option maxRecDepth 100000 in
theorem lT_437 {L : Nat} {xs : Nat → Int32} : ig_T (tb_G L xs) 437 = some J_MPlaceRows_forget := (rfl : tb_M[437]? = some J_MPlaceRows_forget)
set_option maxRecDepth 100000 in
theorem lT_438 {L : Nat} {xs : Nat → Int32} : ig_T (tb_G L xs) 438 = some J_M_row := (rfl : tb_M[438]? = some J_M_row)
set_option maxRecDepth 100000 in
theorem lT_439 {L : Nat} {xs : Nat → Int32} : ig_T (tb_G L xs) 439 = some J_M_isOn := (rfl : tb_M[439]? = some J_M_isOn)
set_option maxRecDepth 100000 in
theorem lT_440 {L : Nat} {xs : Nat → Int32} : ig_T (tb_G L xs) 440 = some J_M_isDark := (rfl : tb_M[440]? = some J_M_isDark)
set_option maxRecDepth 100000 in
theorem lT_441 {L : Nat} {xs : Nat → Int32} : ig_T (tb_G L xs) 441 = some J_MDotRows_dots := (rfl : tb_M[441]? = some J_MDotRows_dots)
set_option maxRecDepth 100000 in
theorem lT_442 {L : Nat} {xs : Nat → Int32} : ig_T (tb_G L xs) 442 = some J_MPlaceRows_turn := (rfl : tb_M[442]? = some J_MPlaceRows_turn)
set_option maxRecDepth 100000 in
theorem lT_443 {L : Nat} {xs : Nat → Int32} : ig_T (tb_G L xs) 443 = some J_MPlaceRows_isOn := (rfl : tb_M[443]? = some J_MPlaceRows_isOn)
set_option maxRecDepth 100000 in
theorem lT_444 {L : Nat} {xs : Nat → Int32} : ig_T (tb_G L xs) 444 = some J_MPlaceRows_isDark := (rfl : tb_M[444]? = some J_MPlaceRows_isDark)
set_option maxRecDepth 100000 in
theorem lT_445 {L : Nat} {xs : Nat → Int32} : ig_T (tb_G L xs) 445 = some J_M_drawn := (rfl : tb_M[445]? = some J_M_drawn)
set_option maxRecDepth 100000 in
theorem lT_446 {L : Nat} {xs : Nat → Int32} : ig_T (tb_G L xs) 446 = some J_M_spoil := (rfl : tb_M[446]? = some J_M_spoil)
set_option maxRecDepth 100000 in
theorem lT_447 {L : Nat} {xs : Nat → Int32} : ig_T (tb_G L xs) 447 = some J_M_turn := (rfl : tb_M[447]? = some J_M_turn)
set_option maxRecDepth 100000 in
theorem lT_448 {L : Nat} {xs : Nat → Int32} : ig_T (tb_G L xs) 448 = some J_MDotRows_turn := (rfl : tb_M[448]? = some J_MDotRows_turn)
set_option maxRecDepth 100000 in
theorem lT_449 {L : Nat} {xs : Nat → Int32} : ig_T (tb_G L xs) 449 = some J_MDotRows_turnOnce := (rfl : tb_M[449]? = some J_MDotRows_turnOnce)
set_option maxRecDepth 100000 in
theorem lT_450 {L : Nat} {xs : Nat → Int32} : ig_T (tb_G L xs) 450 = some J_M_told := (rfl : tb_M[450]? = some J_M_told)
set_option maxRecDepth 100000 in
theorem lT_451 {L : Nat} {xs : Nat → Int32} : ig_T (tb_G L xs) 451 = some J_M_dots := (rfl : tb_M[451]? = some J_M_dots)
set_option maxRecDepth 100000 in
theorem lT_452 {L : Nat} {xs : Nat → Int32} : ig_T (tb_G L xs) 452 = some J_M_run := (rfl : tb_M[452]? = some J_M_run)
set_option maxRecDepth 100000 in
theorem lT_453 {L : Nat} {xs : Nat → Int32} : ig_T (tb_G L xs) 453 = some J_MDotRows_run := (rfl : tb_M[453]? = some J_MDotRows_run)
set_option maxRecDepth 100000 in
theorem lT_454 {L : Nat} {xs : Nat → Int32} : ig_T (tb_G L xs) 454 = some J_M_scan := (rfl : tb_M[454]? = some J_M_scan)
set_option maxRecDepth 100000 in
theorem lT_455 {L : Nat} {xs : Nat → Int32} : ig_T (tb_G L xs) 455 = some J_MPlaceRows_find := (rfl : tb_M[455]? = some J_MPlaceRows_find)
set_option maxRecDepth 100000 in
theorem lT_456 {L : Nat} {xs : Nat → Int32} : ig_T (tb_G L xs) 456 = some J_MPlaceRows_add := (rfl : tb_M[456]? = some J_MPlaceRows_add)
set_option maxRecDepth 100000 in
theorem lT_457 {L : Nat} {xs : Nat → Int32} : ig_T (tb_G L xs) 457 = some J_MPlaceRows_list := (rfl : tb_M[457]? = some J_MPlaceRows_list)
set_option maxRecDepth 100000 in
theorem lT_458 {L : Nat} {xs : Nat → Int32} : ig_T (tb_G L xs) 458 = some J_MPlaceRows_side := (rfl : tb_M[458]? = some J_MPlaceRows_side)
set_option maxRecDepth 100000 in
theorem lT_459 {L : Nat} {xs : Nat → Int32} : ig_T (tb_G L xs) 459 = some J_MPlaceRows_module := (rfl : tb_M[459]? = some J_MPlaceRows_module)
set_option maxRecDepth 100000 in
theorem lT_460 {L : Nat} {xs : Nat → Int32} : ig_T (tb_G L xs) 460 = some J_MPlaceRows_distance := (rfl : tb_M[460]? = some J_MPlaceRows_distance)
set_option maxRecDepth 100000 in
theorem lT_461 {L : Nat} {xs : Nat → Int32} : ig_T (tb_G L xs) 461 = some J_MPlaceRows_apart := (rfl : tb_M[461]? = some J_MPlaceRows_apart)
set_option maxRecDepth 100000 in
theorem lT_462 {L : Nat} {xs : Nat → Int32} : ig_T (tb_G L xs) 462 = some J_MPlaceRows_look := (rfl : tb_M[462]? = some J_MPlaceRows_look)
set_option maxRecDepth 100000 in
theorem lT_463 {L : Nat} {xs : Nat → Int32} : ig_T (tb_G L xs) 463 = some J_MPlaceRows_isPlace := (rfl : tb_M[463]? = some J_MPlaceRows_isPlace)
set_option maxRecDepth 100000 in
theorem lT_464 {L : Nat} {xs : Nat → Int32} : ig_T (tb_G L xs) 464 = some J_MPlaceRows_wrong := (rfl : tb_M[464]? = some J_MPlaceRows_wrong)
set_option maxRecDepth 100000 in
theorem lT_465 {L : Nat} {xs : Nat → Int32} : ig_T (tb_G L xs) 465 = some J_MPlaceRows_darkIn := (rfl : tb_M[465]? = some J_MPlaceRows_darkIn)
set_option maxRecDepth 100000 in
theorem lT_466 {L : Nat} {xs : Nat → Int32} : ig_T (tb_G L xs) 466 = some J_MPlaceRows_blockX := (rfl : tb_M[466]? = some J_MPlaceRows_blockX)
set_option maxRecDepth 100000 in
theorem lT_467 {L : Nat} {xs : Nat → Int32} : ig_T (tb_G L xs) 467 = some J_MPlaceRows_least := (rfl : tb_M[467]? = some J_MPlaceRows_least)
set_option maxRecDepth 100000 in
theorem lT_468 {L : Nat} {xs : Nat → Int32} : ig_T (tb_G L xs) 468 = some J_MPlaceRows_blockY := (rfl : tb_M[468]? = some J_MPlaceRows_blockY)
set_option maxRecDepth 100000 in
theorem lT_469 {L : Nat} {xs : Nat → Int32} : ig_T (tb_G L xs) 469 = some J_MPlaceRows_enter := (rfl : tb_M[469]? = some J_MPlaceRows_enter)
set_option maxRecDepth 100000 in
theorem lT_470 {L : Nat} {xs : Nat → Int32} : ig_T (tb_G L xs) 470 = some J_MPlaceRows_order := (rfl : tb_M[470]? = some J_MPlaceRows_order)
set_option maxRecDepth 100000 in
theorem lT_471 {L : Nat} {xs : Nat → Int32} : ig_T (tb_G L xs) 471 = some J_MPlaceRows_isBefore := (rfl : tb_M[471]? = some J_MPlaceRows_isBefore)
set_option maxRecDepth 100000 in
theorem lT_472 {L : Nat} {xs : Nat → Int32} : ig_T (tb_G L xs) 472 = some J_MPlaceRows_leads := (rfl : tb_M[472]? = some J_MPlaceRows_leads)
set_option maxRecDepth 100000 in
theorem lT_473 {L : Nat} {xs : Nat → Int32} : ig_T (tb_G L xs) 473 = some J_MPlaceRows_meet := (rfl : tb_M[473]? = some J_MPlaceRows_meet)
set_option maxRecDepth 100000 in
theorem lT_474 {L : Nat} {xs : Nat → Int32} : ig_T (tb_G L xs) 474 = some J_MPlaceRows_thrown := (rfl : tb_M[474]? = some J_MPlaceRows_thrown)
set_option maxRecDepth 100000 in
theorem lT_475 {L : Nat} {xs : Nat → Int32} : ig_T (tb_G L xs) 475 = some J_M_found := (rfl : tb_M[475]? = some J_M_found)
set_option maxRecDepth 100000 in
theorem lT_476 {L : Nat} {xs : Nat → Int32} : ig_T (tb_G L xs) 476 = some J_MPlaceRows_place := (rfl : tb_M[476]? = some J_MPlaceRows_place)
set_option maxRecDepth 100000 in
theorem lT_477 {L : Nat} {xs : Nat → Int32} : ig_T (tb_G L xs) 477 = some J_M_decode := (rfl : tb_M[477]? = some J_M_decode)
set_option maxRecDepth 100000 in
theorem lT_478 {L : Nat} {xs : Nat → Int32} : ig_T (tb_G L xs) 478 = some J_MSquareRows_blank := (rfl : tb_M[478]? = some J_MSquareRows_blank)
set_option maxRecDepth 100000 in
theorem lT_479 {L : Nat} {xs : Nat → Int32} : ig_T (tb_G L xs) 479 = some J_MPlaceRows_modules := (rfl : tb_M[479]? = some J_MPlaceRows_modules)
set_option maxRecDepth 100000 in
theorem lT_480 {L : Nat} {xs : Nat → Int32} : ig_T (tb_G L xs) 480 = some J_MPlaceRows_differ := (rfl : tb_M[480]? = some J_MPlaceRows_differ)
set_option maxRecDepth 100000 in
theorem lT_481 {L : Nat} {xs : Nat → Int32} : ig_T (tb_G L xs) 481 = some J_MSquareRows_spoil := (rfl : tb_M[481]? = some J_MSquareRows_spoil)
set_option maxRecDepth 100000 in
theorem lT_482 {L : Nat} {xs : Nat → Int32} : ig_T (tb_G L xs) 482 = some J_MSquareRows_read := (rfl : tb_M[482]? = some J_MSquareRows_read)
set_option maxRecDepth 100000 in
theorem lT_483 {L : Nat} {xs : Nat → Int32} : ig_T (tb_G L xs) 483 = some J_MSquareRows_formNumberRead := (rfl : tb_M[483]? = some J_MSquareRows_formNumberRead)
set_option maxRecDepth 100000 in
theorem lT_484 {L : Nat} {xs : Nat → Int32} : ig_T (tb_G L xs) 484 = some J_MSquareRows_formBits := (rfl : tb_M[484]? = some J_MSquareRows_formBits)
set_option maxRecDepth 100000 in
theorem lT_485 {L : Nat} {xs : Nat → Int32} : ig_T (tb_G L xs) 485 = some J_MSquareRows_ones := (rfl : tb_M[485]? = some J_MSquareRows_ones)
set_option maxRecDepth 100000 in
theorem lT_486 {L : Nat} {xs : Nat → Int32} : ig_T (tb_G L xs) 486 = some J_MSquareRows_allBlocks := (rfl : tb_M[486]? = some J_MSquareRows_allBlocks)
set_option maxRecDepth 100000 in
theorem lT_487 {L : Nat} {xs : Nat → Int32} : ig_T (tb_G L xs) 487 = some J_MSquareRows_spared := (rfl : tb_M[487]? = some J_MSquareRows_spared)
set_option maxRecDepth 100000 in
theorem lT_488 {L : Nat} {xs : Nat → Int32} : ig_T (tb_G L xs) 488 = some J_MSquareRows_correct := (rfl : tb_M[488]? = some J_MSquareRows_correct)
set_option maxRecDepth 100000 in
theorem lT_489 {L : Nat} {xs : Nat → Int32} : ig_T (tb_G L xs) 489 = some J_MSquareRows_isZero := (rfl : tb_M[489]? = some J_MSquareRows_isZero)
set_option maxRecDepth 100000 in
theorem lT_490 {L : Nat} {xs : Nat → Int32} : ig_T (tb_G L xs) 490 = some J_MSquareRows_finds := (rfl : tb_M[490]? = some J_MSquareRows_finds)
set_option maxRecDepth 100000 in
theorem lT_491 {L : Nat} {xs : Nat → Int32} : ig_T (tb_G L xs) 491 = some J_MSquareRows_solves := (rfl : tb_M[491]? = some J_MSquareRows_solves)
set_option maxRecDepth 100000 in
theorem lT_492 {L : Nat} {xs : Nat → Int32} : ig_T (tb_G L xs) 492 = some J_MSquareRows_inverse := (rfl : tb_M[492]? = some J_MSquareRows_inverse)
set_option maxRecDepth 100000 in
theorem lT_493 {L : Nat} {xs : Nat → Int32} : ig_T (tb_G L xs) 493 = some J_MSquareRows_mends := (rfl : tb_M[493]? = some J_MSquareRows_mends)
set_option maxRecDepth 100000 in
theorem lT_494 {L : Nat} {xs : Nat → Int32} : ig_T (tb_G L xs) 494 = some J_MSquareRows_segments := (rfl : tb_M[494]? = some J_MSquareRows_segments)
set_option maxRecDepth 100000 in
theorem lT_495 {L : Nat} {xs : Nat → Int32} : ig_T (tb_G L xs) 495 = some J_MSquareRows_next := (rfl : tb_M[495]? = some J_MSquareRows_next)
set_option maxRecDepth 100000 in
theorem lT_496 {L : Nat} {xs : Nat → Int32} : ig_T (tb_G L xs) 496 = some J_MSquareRows_group := (rfl : tb_M[496]? = some J_MSquareRows_group)
set_option maxRecDepth 100000 in
theorem lT_497 {L : Nat} {xs : Nat → Int32} : ig_T (tb_G L xs) 497 = some J_MSquareRows_byteOf := (rfl : tb_M[497]? = some J_MSquareRows_byteOf)
set_option maxRecDepth 100000 in
theorem lT_498 {L : Nat} {xs : Nat → Int32} : ig_T (tb_G L xs) 498 = some J_MSquareRows_take := (rfl : tb_M[498]? = some J_MSquareRows_take)
set_option maxRecDepth 100000 in
theorem lT_499 {L : Nat} {xs : Nat → Int32} : ig_T (tb_G L xs) 499 = some J_MSquareRows_at := (rfl : tb_M[499]? = some J_MSquareRows_at)
set_option maxRecDepth 100000 in
theorem lT_500 {L : Nat} {xs : Nat → Int32} : ig_T (tb_G L xs) 500 = some J_M_bars := (rfl : tb_M[500]? = some J_M_bars)
set_option maxRecDepth 100000 in
theorem lT_501 {L : Nat} {xs : Nat → Int32} : ig_T (tb_G L xs) 501 = some J_M_strip := (rfl : tb_M[501]? = some J_M_strip)
set_option maxRecDepth 100000 in
theorem lT_502 {L : Nat} {xs : Nat → Int32} : ig_T (tb_G L xs) 502 = some J_MLineRows_clear := (rfl : tb_M[502]? = some J_MLineRows_clear)
set_option maxRecDepth 100000 in
theorem lT_503 {L : Nat} {xs : Nat → Int32} : ig_T (tb_G L xs) 503 = some J_MLineRows_put := (rfl : tb_M[503]? = some J_MLineRows_put)
set_option maxRecDepth 100000 in
theorem lT_504 {L : Nat} {xs : Nat → Int32} : ig_T (tb_G L xs) 504 = some J_MLineRows_spoil := (rfl : tb_M[504]? = some J_MLineRows_spoil)
set_option maxRecDepth 100000 in
theorem lT_505 {L : Nat} {xs : Nat → Int32} : ig_T (tb_G L xs) 505 = some J_MLineRows_read := (rfl : tb_M[505]? = some J_MLineRows_read)
set_option maxRecDepth 100000 in
theorem lT_506 {L : Nat} {xs : Nat → Int32} : ig_T (tb_G L xs) 506 = some J_MLineRows_isSome := (rfl : tb_M[506]? = some J_MLineRows_isSome)
set_option maxRecDepth 100000 in
theorem lT_507 {L : Nat} {xs : Nat → Int32} : ig_T (tb_G L xs) 507 = some J_MLineRows_isThirteen := (rfl : tb_M[507]? = some J_MLineRows_isThirteen)
set_option maxRecDepth 100000 in
theorem lT_508 {L : Nat} {xs : Nat → Int32} : ig_T (tb_G L xs) 508 = some J_MLineRows_sumOf := (rfl : tb_M[508]? = some J_MLineRows_sumOf)
set_option maxRecDepth 100000 in
theorem lT_509 {L : Nat} {xs : Nat → Int32} : ig_T (tb_G L xs) 509 = some J_MLineRows_counts := (rfl : tb_M[509]? = some J_MLineRows_counts)
set_option maxRecDepth 100000 in
theorem lT_510 {L : Nat} {xs : Nat → Int32} : ig_T (tb_G L xs) 510 = some J_MLineRows_place := (rfl : tb_M[510]? = some J_MLineRows_place)
set_option maxRecDepth 100000 in
theorem lT_511 {L : Nat} {xs : Nat → Int32} : ig_T (tb_G L xs) 511 = some J_MLineRows_tell := (rfl : tb_M[511]? = some J_MLineRows_tell)
set_option maxRecDepth 100000 in
theorem lT_512 {L : Nat} {xs : Nat → Int32} : ig_T (tb_G L xs) 512 = some J_MLineRows_isRow := (rfl : tb_M[512]? = some J_MLineRows_isRow)
set_option maxRecDepth 100000 in
theorem lT_513 {L : Nat} {xs : Nat → Int32} : ig_T (tb_G L xs) 513 = some J_MLineRows_reverse := (rfl : tb_M[513]? = some J_MLineRows_reverse)
set_option maxRecDepth 100000 in
theorem lT_514 {L : Nat} {xs : Nat → Int32} : ig_T (tb_G L xs) 514 = some J_MLineRows_sign := (rfl : tb_M[514]? = some J_MLineRows_sign)
set_option maxRecDepth 100000 in
theorem lT_515 {L : Nat} {xs : Nat → Int32} : ig_T (tb_G L xs) 515 = some J_M_reading := (rfl : tb_M[515]? = some J_M_reading)
set_option maxRecDepth 100000 in
theorem lT_516 {L : Nat} {xs : Nat → Int32} : ig_T (tb_G L xs) 516 = some J_MSquareRows_fault := (rfl : tb_M[516]? = some J_MSquareRows_fault)
set_option maxRecDepth 100000 in
theorem lT_517 {L : Nat} {xs : Nat → Int32} : ig_T (tb_G L xs) 517 = some J_MLineRows_backwards := (rfl : tb_M[517]? = some J_MLineRows_backwards)
set_option maxRecDepth 100000 in
theorem lT_518 {L : Nat} {xs : Nat → Int32} : ig_T (tb_G L xs) 518 = some J_MSquareRows_reading := (rfl : tb_M[518]? = some J_MSquareRows_reading)
set_option maxRecDepth 100000 in
theorem lT_519 {L : Nat} {xs : Nat → Int32} : ig_T (tb_G L xs) 519 = some J_M_got := (rfl : tb_M[519]? = some J_M_got)
theorem ln_18_8 {L : Nat} {xs : Nat → Int32} : ig_nT (tb_G L xs) 18 8 = some 11 := (by decide +kernel : tb_find tb_nl 18 8 = some 11)
theorem ln_11_7 {L : Nat} {xs : Nat → Int32} : ig_nT (tb_G L xs) 11 7 = some 10 := (by decide +kernel : tb_find tb_nl 11 7 = some 10)
theorem ln_11_16 {L : Nat} {xs : Nat → Int32} : ig_nT (tb_G L xs) 11 16 = some 5 := (by decide +kernel : tb_find tb_nl 11 16 = some 5)
theorem ln_11_25 {L : Nat} {xs : Nat → Int32} : ig_nT (tb_G L xs) 11 25 = some 8 := (by decide +kernel : tb_find tb_nl 11 25 = some 8)
theorem ln_8_33 {L : Nat} {xs : Nat → Int32} : ig_nT (tb_G L xs) 8 33 = some 5 := (by decide +kernel : tb_find tb_nl 8 33 = some 5)
theorem ln_8_35 {L : Nat} {xs : Nat → Int32} : ig_nT (tb_G L xs) 8 35 = some 2 := (by decide +kernel : tb_find tb_nl 8 35 = some 2)
theorem ln_11_34 {L : Nat} {xs : Nat → Int32} : ig_nT (tb_G L xs) 11 34 = some 9 := (by decide +kernel : tb_find tb_nl 11 34 = some 9)
theorem ln_11_41 {L : Nat} {xs : Nat → Int32} : ig_nT (tb_G L xs) 11 41 = some 0 := (by decide +kernel : tb_find tb_nl 11 41 = some 0)
theorem ln_11_48 {L : Nat} {xs : Nat → Int32} : ig_nT (tb_G L xs) 11 48 = some 4 := (by decide +kernel : tb_find tb_nl 11 48 = some 4)
theorem ln_4_9 {L : Nat} {xs : Nat → Int32} : ig_nT (tb_G L xs) 4 9 = some 7 := (by decide +kernel : tb_find tb_nl 4 9 = some 7)
theorem ln_4_18 {L : Nat} {xs : Nat → Int32} : ig_nT (tb_G L xs) 4 18 = some 1 := (by decide +kernel : tb_find tb_nl 4 18 = some 1)
theorem ln_11_55 {L : Nat} {xs : Nat → Int32} : ig_nT (tb_G L xs) 11 55 = some 6 := (by decide +kernel : tb_find tb_nl 11 55 = some 6)
theorem ln_11_64 {L : Nat} {xs : Nat → Int32} : ig_nT (tb_G L xs) 11 64 = some 3 := (by decide +kernel : tb_find tb_nl 11 64 = some 3)
theorem ln_18_68 {L : Nat} {xs : Nat → Int32} : ig_nT (tb_G L xs) 18 68 = some 17 := (by decide +kernel : tb_find tb_nl 18 68 = some 17)
theorem ln_17_13 {L : Nat} {xs : Nat → Int32} : ig_nT (tb_G L xs) 17 13 = some 15 := (by decide +kernel : tb_find tb_nl 17 13 = some 15)
theorem ln_17_20 {L : Nat} {xs : Nat → Int32} : ig_nT (tb_G L xs) 17 20 = some 12 := (by decide +kernel : tb_find tb_nl 17 20 = some 12)
theorem ln_17_27 {L : Nat} {xs : Nat → Int32} : ig_nT (tb_G L xs) 17 27 = some 13 := (by decide +kernel : tb_find tb_nl 17 27 = some 13)
theorem ln_17_34 {L : Nat} {xs : Nat → Int32} : ig_nT (tb_G L xs) 17 34 = some 16 := (by decide +kernel : tb_find tb_nl 17 34 = some 16)
theorem ln_17_41 {L : Nat} {xs : Nat → Int32} : ig_nT (tb_G L xs) 17 41 = some 14 := (by decide +kernel : tb_find tb_nl 17 41 = some 14)
theorem lk_6_15 {L : Nat} {xs : Nat → Int32} : ig_cT (tb_G L xs) 6 15 = some (.int 32768) := (by decide +kernel : tb_find tb_cn 6 15 = some (.int 32768))
theorem lk_3_13 {L : Nat} {xs : Nat → Int32} : ig_cT (tb_G L xs) 3 13 = some (.int 263169) := (by decide +kernel : tb_find tb_cn 3 13 = some (.int 263169))
theorem lk_3_18 {L : Nat} {xs : Nat → Int32} : ig_cT (tb_G L xs) 3 18 = some (.int 262144) := (by decide +kernel : tb_find tb_cn 3 18 = some (.int 262144))
theorem lk_0_92 {L : Nat} {xs : Nat → Int32} : ig_cT (tb_G L xs) 0 92 = some (.int 100000) := (by decide +kernel : tb_find tb_cn 0 92 = some (.int 100000))
theorem lk_0_97 {L : Nat} {xs : Nat → Int32} : ig_cT (tb_G L xs) 0 97 = some (.int 2331112) := (by decide +kernel : tb_find tb_cn 0 97 = some (.int 2331112))
theorem lk_0_98 {L : Nat} {xs : Nat → Int32} : ig_cT (tb_G L xs) 0 98 = some (.int 1000000) := (by decide +kernel : tb_find tb_cn 0 98 = some (.int 1000000))
theorem lk_4_66 {L : Nat} {xs : Nat → Int32} : ig_cT (tb_G L xs) 4 66 = some (.int 1073741824) := (by decide +kernel : tb_find tb_cn 4 66 = some (.int 1073741824))
theorem lk_23_265 {L : Nat} {xs : Nat → Int32} : ig_cT (tb_G L xs) 23 265 = some (.int 1431655765) := (by decide +kernel : tb_find tb_cn 23 265 = some (.int 1431655765))
theorem lk_23_266 {L : Nat} {xs : Nat → Int32} : ig_cT (tb_G L xs) 23 266 = some (.int 858993459) := (by decide +kernel : tb_find tb_cn 23 266 = some (.int 858993459))
theorem lk_23_267 {L : Nat} {xs : Nat → Int32} : ig_cT (tb_G L xs) 23 267 = some (.int 252645135) := (by decide +kernel : tb_find tb_cn 23 267 = some (.int 252645135))
theorem lk_12_16 {L : Nat} {xs : Nat → Int32} : ig_cT (tb_G L xs) 12 16 = some (.int 32768) := (by decide +kernel : tb_find tb_cn 12 16 = some (.int 32768))
theorem lk_13_7 {L : Nat} {xs : Nat → Int32} : ig_cT (tb_G L xs) 13 7 = some (.int 212222) := (by decide +kernel : tb_find tb_cn 13 7 = some (.int 212222))
theorem lk_13_8 {L : Nat} {xs : Nat → Int32} : ig_cT (tb_G L xs) 13 8 = some (.int 222122) := (by decide +kernel : tb_find tb_cn 13 8 = some (.int 222122))
theorem lk_13_9 {L : Nat} {xs : Nat → Int32} : ig_cT (tb_G L xs) 13 9 = some (.int 222221) := (by decide +kernel : tb_find tb_cn 13 9 = some (.int 222221))
theorem lk_13_10 {L : Nat} {xs : Nat → Int32} : ig_cT (tb_G L xs) 13 10 = some (.int 121223) := (by decide +kernel : tb_find tb_cn 13 10 = some (.int 121223))
theorem lk_13_11 {L : Nat} {xs : Nat → Int32} : ig_cT (tb_G L xs) 13 11 = some (.int 121322) := (by decide +kernel : tb_find tb_cn 13 11 = some (.int 121322))
theorem lk_13_12 {L : Nat} {xs : Nat → Int32} : ig_cT (tb_G L xs) 13 12 = some (.int 131222) := (by decide +kernel : tb_find tb_cn 13 12 = some (.int 131222))
theorem lk_13_13 {L : Nat} {xs : Nat → Int32} : ig_cT (tb_G L xs) 13 13 = some (.int 122213) := (by decide +kernel : tb_find tb_cn 13 13 = some (.int 122213))
theorem lk_13_14 {L : Nat} {xs : Nat → Int32} : ig_cT (tb_G L xs) 13 14 = some (.int 122312) := (by decide +kernel : tb_find tb_cn 13 14 = some (.int 122312))
theorem lk_13_15 {L : Nat} {xs : Nat → Int32} : ig_cT (tb_G L xs) 13 15 = some (.int 132212) := (by decide +kernel : tb_find tb_cn 13 15 = some (.int 132212))
theorem lk_13_16 {L : Nat} {xs : Nat → Int32} : ig_cT (tb_G L xs) 13 16 = some (.int 221213) := (by decide +kernel : tb_find tb_cn 13 16 = some (.int 221213))
theorem lk_13_17 {L : Nat} {xs : Nat → Int32} : ig_cT (tb_G L xs) 13 17 = some (.int 221312) := (by decide +kernel : tb_find tb_cn 13 17 = some (.int 221312))
theorem lk_13_18 {L : Nat} {xs : Nat → Int32} : ig_cT (tb_G L xs) 13 18 = some (.int 231212) := (by decide +kernel : tb_find tb_cn 13 18 = some (.int 231212))
theorem lk_13_19 {L : Nat} {xs : Nat → Int32} : ig_cT (tb_G L xs) 13 19 = some (.int 112232) := (by decide +kernel : tb_find tb_cn 13 19 = some (.int 112232))
theorem lk_13_20 {L : Nat} {xs : Nat → Int32} : ig_cT (tb_G L xs) 13 20 = some (.int 122132) := (by decide +kernel : tb_find tb_cn 13 20 = some (.int 122132))
theorem lk_13_21 {L : Nat} {xs : Nat → Int32} : ig_cT (tb_G L xs) 13 21 = some (.int 122231) := (by decide +kernel : tb_find tb_cn 13 21 = some (.int 122231))
theorem lk_13_22 {L : Nat} {xs : Nat → Int32} : ig_cT (tb_G L xs) 13 22 = some (.int 113222) := (by decide +kernel : tb_find tb_cn 13 22 = some (.int 113222))
theorem lk_13_23 {L : Nat} {xs : Nat → Int32} : ig_cT (tb_G L xs) 13 23 = some (.int 123122) := (by decide +kernel : tb_find tb_cn 13 23 = some (.int 123122))
theorem lk_13_24 {L : Nat} {xs : Nat → Int32} : ig_cT (tb_G L xs) 13 24 = some (.int 123221) := (by decide +kernel : tb_find tb_cn 13 24 = some (.int 123221))
theorem lk_13_25 {L : Nat} {xs : Nat → Int32} : ig_cT (tb_G L xs) 13 25 = some (.int 223211) := (by decide +kernel : tb_find tb_cn 13 25 = some (.int 223211))
theorem lk_13_26 {L : Nat} {xs : Nat → Int32} : ig_cT (tb_G L xs) 13 26 = some (.int 221132) := (by decide +kernel : tb_find tb_cn 13 26 = some (.int 221132))
theorem lk_13_27 {L : Nat} {xs : Nat → Int32} : ig_cT (tb_G L xs) 13 27 = some (.int 221231) := (by decide +kernel : tb_find tb_cn 13 27 = some (.int 221231))
theorem lk_13_28 {L : Nat} {xs : Nat → Int32} : ig_cT (tb_G L xs) 13 28 = some (.int 213212) := (by decide +kernel : tb_find tb_cn 13 28 = some (.int 213212))
theorem lk_13_29 {L : Nat} {xs : Nat → Int32} : ig_cT (tb_G L xs) 13 29 = some (.int 223112) := (by decide +kernel : tb_find tb_cn 13 29 = some (.int 223112))
theorem lk_13_30 {L : Nat} {xs : Nat → Int32} : ig_cT (tb_G L xs) 13 30 = some (.int 312131) := (by decide +kernel : tb_find tb_cn 13 30 = some (.int 312131))
theorem lk_13_31 {L : Nat} {xs : Nat → Int32} : ig_cT (tb_G L xs) 13 31 = some (.int 311222) := (by decide +kernel : tb_find tb_cn 13 31 = some (.int 311222))
theorem lk_13_32 {L : Nat} {xs : Nat → Int32} : ig_cT (tb_G L xs) 13 32 = some (.int 321122) := (by decide +kernel : tb_find tb_cn 13 32 = some (.int 321122))
theorem lk_13_33 {L : Nat} {xs : Nat → Int32} : ig_cT (tb_G L xs) 13 33 = some (.int 321221) := (by decide +kernel : tb_find tb_cn 13 33 = some (.int 321221))
theorem lk_13_34 {L : Nat} {xs : Nat → Int32} : ig_cT (tb_G L xs) 13 34 = some (.int 312212) := (by decide +kernel : tb_find tb_cn 13 34 = some (.int 312212))
theorem lk_13_35 {L : Nat} {xs : Nat → Int32} : ig_cT (tb_G L xs) 13 35 = some (.int 322112) := (by decide +kernel : tb_find tb_cn 13 35 = some (.int 322112))
theorem lk_13_36 {L : Nat} {xs : Nat → Int32} : ig_cT (tb_G L xs) 13 36 = some (.int 322211) := (by decide +kernel : tb_find tb_cn 13 36 = some (.int 322211))
theorem lk_13_37 {L : Nat} {xs : Nat → Int32} : ig_cT (tb_G L xs) 13 37 = some (.int 212123) := (by decide +kernel : tb_find tb_cn 13 37 = some (.int 212123))
theorem lk_13_38 {L : Nat} {xs : Nat → Int32} : ig_cT (tb_G L xs) 13 38 = some (.int 212321) := (by decide +kernel : tb_find tb_cn 13 38 = some (.int 212321))
theorem lk_13_39 {L : Nat} {xs : Nat → Int32} : ig_cT (tb_G L xs) 13 39 = some (.int 232121) := (by decide +kernel : tb_find tb_cn 13 39 = some (.int 232121))
theorem lk_13_40 {L : Nat} {xs : Nat → Int32} : ig_cT (tb_G L xs) 13 40 = some (.int 111323) := (by decide +kernel : tb_find tb_cn 13 40 = some (.int 111323))
theorem lk_13_41 {L : Nat} {xs : Nat → Int32} : ig_cT (tb_G L xs) 13 41 = some (.int 131123) := (by decide +kernel : tb_find tb_cn 13 41 = some (.int 131123))
theorem lk_13_42 {L : Nat} {xs : Nat → Int32} : ig_cT (tb_G L xs) 13 42 = some (.int 131321) := (by decide +kernel : tb_find tb_cn 13 42 = some (.int 131321))
theorem lk_13_43 {L : Nat} {xs : Nat → Int32} : ig_cT (tb_G L xs) 13 43 = some (.int 112313) := (by decide +kernel : tb_find tb_cn 13 43 = some (.int 112313))
theorem lk_13_44 {L : Nat} {xs : Nat → Int32} : ig_cT (tb_G L xs) 13 44 = some (.int 132113) := (by decide +kernel : tb_find tb_cn 13 44 = some (.int 132113))
theorem lk_13_45 {L : Nat} {xs : Nat → Int32} : ig_cT (tb_G L xs) 13 45 = some (.int 132311) := (by decide +kernel : tb_find tb_cn 13 45 = some (.int 132311))
theorem lk_13_46 {L : Nat} {xs : Nat → Int32} : ig_cT (tb_G L xs) 13 46 = some (.int 211313) := (by decide +kernel : tb_find tb_cn 13 46 = some (.int 211313))
theorem lk_13_47 {L : Nat} {xs : Nat → Int32} : ig_cT (tb_G L xs) 13 47 = some (.int 231113) := (by decide +kernel : tb_find tb_cn 13 47 = some (.int 231113))
theorem lk_13_48 {L : Nat} {xs : Nat → Int32} : ig_cT (tb_G L xs) 13 48 = some (.int 231311) := (by decide +kernel : tb_find tb_cn 13 48 = some (.int 231311))
theorem lk_13_49 {L : Nat} {xs : Nat → Int32} : ig_cT (tb_G L xs) 13 49 = some (.int 112133) := (by decide +kernel : tb_find tb_cn 13 49 = some (.int 112133))
theorem lk_13_50 {L : Nat} {xs : Nat → Int32} : ig_cT (tb_G L xs) 13 50 = some (.int 112331) := (by decide +kernel : tb_find tb_cn 13 50 = some (.int 112331))
theorem lk_13_51 {L : Nat} {xs : Nat → Int32} : ig_cT (tb_G L xs) 13 51 = some (.int 132131) := (by decide +kernel : tb_find tb_cn 13 51 = some (.int 132131))
theorem lk_13_52 {L : Nat} {xs : Nat → Int32} : ig_cT (tb_G L xs) 13 52 = some (.int 113123) := (by decide +kernel : tb_find tb_cn 13 52 = some (.int 113123))
theorem lk_13_53 {L : Nat} {xs : Nat → Int32} : ig_cT (tb_G L xs) 13 53 = some (.int 113321) := (by decide +kernel : tb_find tb_cn 13 53 = some (.int 113321))
theorem lk_13_54 {L : Nat} {xs : Nat → Int32} : ig_cT (tb_G L xs) 13 54 = some (.int 133121) := (by decide +kernel : tb_find tb_cn 13 54 = some (.int 133121))
theorem lk_13_55 {L : Nat} {xs : Nat → Int32} : ig_cT (tb_G L xs) 13 55 = some (.int 313121) := (by decide +kernel : tb_find tb_cn 13 55 = some (.int 313121))
theorem lk_13_56 {L : Nat} {xs : Nat → Int32} : ig_cT (tb_G L xs) 13 56 = some (.int 211331) := (by decide +kernel : tb_find tb_cn 13 56 = some (.int 211331))
theorem lk_13_57 {L : Nat} {xs : Nat → Int32} : ig_cT (tb_G L xs) 13 57 = some (.int 231131) := (by decide +kernel : tb_find tb_cn 13 57 = some (.int 231131))
theorem lk_13_58 {L : Nat} {xs : Nat → Int32} : ig_cT (tb_G L xs) 13 58 = some (.int 213113) := (by decide +kernel : tb_find tb_cn 13 58 = some (.int 213113))
theorem lk_13_59 {L : Nat} {xs : Nat → Int32} : ig_cT (tb_G L xs) 13 59 = some (.int 213311) := (by decide +kernel : tb_find tb_cn 13 59 = some (.int 213311))
theorem lk_13_60 {L : Nat} {xs : Nat → Int32} : ig_cT (tb_G L xs) 13 60 = some (.int 213131) := (by decide +kernel : tb_find tb_cn 13 60 = some (.int 213131))
theorem lk_13_61 {L : Nat} {xs : Nat → Int32} : ig_cT (tb_G L xs) 13 61 = some (.int 311123) := (by decide +kernel : tb_find tb_cn 13 61 = some (.int 311123))
theorem lk_13_62 {L : Nat} {xs : Nat → Int32} : ig_cT (tb_G L xs) 13 62 = some (.int 311321) := (by decide +kernel : tb_find tb_cn 13 62 = some (.int 311321))
theorem lk_13_63 {L : Nat} {xs : Nat → Int32} : ig_cT (tb_G L xs) 13 63 = some (.int 331121) := (by decide +kernel : tb_find tb_cn 13 63 = some (.int 331121))
theorem lk_13_64 {L : Nat} {xs : Nat → Int32} : ig_cT (tb_G L xs) 13 64 = some (.int 312113) := (by decide +kernel : tb_find tb_cn 13 64 = some (.int 312113))
theorem lk_13_65 {L : Nat} {xs : Nat → Int32} : ig_cT (tb_G L xs) 13 65 = some (.int 312311) := (by decide +kernel : tb_find tb_cn 13 65 = some (.int 312311))
theorem lk_13_66 {L : Nat} {xs : Nat → Int32} : ig_cT (tb_G L xs) 13 66 = some (.int 332111) := (by decide +kernel : tb_find tb_cn 13 66 = some (.int 332111))
theorem lk_13_67 {L : Nat} {xs : Nat → Int32} : ig_cT (tb_G L xs) 13 67 = some (.int 314111) := (by decide +kernel : tb_find tb_cn 13 67 = some (.int 314111))
theorem lk_13_68 {L : Nat} {xs : Nat → Int32} : ig_cT (tb_G L xs) 13 68 = some (.int 221411) := (by decide +kernel : tb_find tb_cn 13 68 = some (.int 221411))
theorem lk_13_69 {L : Nat} {xs : Nat → Int32} : ig_cT (tb_G L xs) 13 69 = some (.int 431111) := (by decide +kernel : tb_find tb_cn 13 69 = some (.int 431111))
theorem lk_13_70 {L : Nat} {xs : Nat → Int32} : ig_cT (tb_G L xs) 13 70 = some (.int 111224) := (by decide +kernel : tb_find tb_cn 13 70 = some (.int 111224))
theorem lk_13_71 {L : Nat} {xs : Nat → Int32} : ig_cT (tb_G L xs) 13 71 = some (.int 111422) := (by decide +kernel : tb_find tb_cn 13 71 = some (.int 111422))
theorem lk_13_72 {L : Nat} {xs : Nat → Int32} : ig_cT (tb_G L xs) 13 72 = some (.int 121124) := (by decide +kernel : tb_find tb_cn 13 72 = some (.int 121124))
theorem lk_13_73 {L : Nat} {xs : Nat → Int32} : ig_cT (tb_G L xs) 13 73 = some (.int 121421) := (by decide +kernel : tb_find tb_cn 13 73 = some (.int 121421))
theorem lk_13_74 {L : Nat} {xs : Nat → Int32} : ig_cT (tb_G L xs) 13 74 = some (.int 141122) := (by decide +kernel : tb_find tb_cn 13 74 = some (.int 141122))
theorem lk_13_75 {L : Nat} {xs : Nat → Int32} : ig_cT (tb_G L xs) 13 75 = some (.int 141221) := (by decide +kernel : tb_find tb_cn 13 75 = some (.int 141221))
theorem lk_13_76 {L : Nat} {xs : Nat → Int32} : ig_cT (tb_G L xs) 13 76 = some (.int 112214) := (by decide +kernel : tb_find tb_cn 13 76 = some (.int 112214))
theorem lk_13_77 {L : Nat} {xs : Nat → Int32} : ig_cT (tb_G L xs) 13 77 = some (.int 112412) := (by decide +kernel : tb_find tb_cn 13 77 = some (.int 112412))
theorem lk_13_78 {L : Nat} {xs : Nat → Int32} : ig_cT (tb_G L xs) 13 78 = some (.int 122114) := (by decide +kernel : tb_find tb_cn 13 78 = some (.int 122114))
theorem lk_13_79 {L : Nat} {xs : Nat → Int32} : ig_cT (tb_G L xs) 13 79 = some (.int 122411) := (by decide +kernel : tb_find tb_cn 13 79 = some (.int 122411))
theorem lk_13_80 {L : Nat} {xs : Nat → Int32} : ig_cT (tb_G L xs) 13 80 = some (.int 142112) := (by decide +kernel : tb_find tb_cn 13 80 = some (.int 142112))
theorem lk_13_81 {L : Nat} {xs : Nat → Int32} : ig_cT (tb_G L xs) 13 81 = some (.int 142211) := (by decide +kernel : tb_find tb_cn 13 81 = some (.int 142211))
theorem lk_13_82 {L : Nat} {xs : Nat → Int32} : ig_cT (tb_G L xs) 13 82 = some (.int 241211) := (by decide +kernel : tb_find tb_cn 13 82 = some (.int 241211))
theorem lk_13_83 {L : Nat} {xs : Nat → Int32} : ig_cT (tb_G L xs) 13 83 = some (.int 221114) := (by decide +kernel : tb_find tb_cn 13 83 = some (.int 221114))
theorem lk_13_84 {L : Nat} {xs : Nat → Int32} : ig_cT (tb_G L xs) 13 84 = some (.int 413111) := (by decide +kernel : tb_find tb_cn 13 84 = some (.int 413111))
theorem lk_13_85 {L : Nat} {xs : Nat → Int32} : ig_cT (tb_G L xs) 13 85 = some (.int 241112) := (by decide +kernel : tb_find tb_cn 13 85 = some (.int 241112))
theorem lk_13_86 {L : Nat} {xs : Nat → Int32} : ig_cT (tb_G L xs) 13 86 = some (.int 134111) := (by decide +kernel : tb_find tb_cn 13 86 = some (.int 134111))
theorem lk_13_87 {L : Nat} {xs : Nat → Int32} : ig_cT (tb_G L xs) 13 87 = some (.int 111242) := (by decide +kernel : tb_find tb_cn 13 87 = some (.int 111242))
theorem lk_13_88 {L : Nat} {xs : Nat → Int32} : ig_cT (tb_G L xs) 13 88 = some (.int 121142) := (by decide +kernel : tb_find tb_cn 13 88 = some (.int 121142))
theorem lk_13_89 {L : Nat} {xs : Nat → Int32} : ig_cT (tb_G L xs) 13 89 = some (.int 121241) := (by decide +kernel : tb_find tb_cn 13 89 = some (.int 121241))
theorem lk_13_90 {L : Nat} {xs : Nat → Int32} : ig_cT (tb_G L xs) 13 90 = some (.int 114212) := (by decide +kernel : tb_find tb_cn 13 90 = some (.int 114212))
theorem lk_13_91 {L : Nat} {xs : Nat → Int32} : ig_cT (tb_G L xs) 13 91 = some (.int 124112) := (by decide +kernel : tb_find tb_cn 13 91 = some (.int 124112))
theorem lk_13_92 {L : Nat} {xs : Nat → Int32} : ig_cT (tb_G L xs) 13 92 = some (.int 124211) := (by decide +kernel : tb_find tb_cn 13 92 = some (.int 124211))
theorem lk_13_93 {L : Nat} {xs : Nat → Int32} : ig_cT (tb_G L xs) 13 93 = some (.int 411212) := (by decide +kernel : tb_find tb_cn 13 93 = some (.int 411212))
theorem lk_13_94 {L : Nat} {xs : Nat → Int32} : ig_cT (tb_G L xs) 13 94 = some (.int 421112) := (by decide +kernel : tb_find tb_cn 13 94 = some (.int 421112))
theorem lk_13_95 {L : Nat} {xs : Nat → Int32} : ig_cT (tb_G L xs) 13 95 = some (.int 421211) := (by decide +kernel : tb_find tb_cn 13 95 = some (.int 421211))
theorem lk_13_96 {L : Nat} {xs : Nat → Int32} : ig_cT (tb_G L xs) 13 96 = some (.int 212141) := (by decide +kernel : tb_find tb_cn 13 96 = some (.int 212141))
theorem lk_13_97 {L : Nat} {xs : Nat → Int32} : ig_cT (tb_G L xs) 13 97 = some (.int 214121) := (by decide +kernel : tb_find tb_cn 13 97 = some (.int 214121))
theorem lk_13_98 {L : Nat} {xs : Nat → Int32} : ig_cT (tb_G L xs) 13 98 = some (.int 412121) := (by decide +kernel : tb_find tb_cn 13 98 = some (.int 412121))
theorem lk_13_99 {L : Nat} {xs : Nat → Int32} : ig_cT (tb_G L xs) 13 99 = some (.int 111143) := (by decide +kernel : tb_find tb_cn 13 99 = some (.int 111143))
theorem lk_13_100 {L : Nat} {xs : Nat → Int32} : ig_cT (tb_G L xs) 13 100 = some (.int 111341) := (by decide +kernel : tb_find tb_cn 13 100 = some (.int 111341))
theorem lk_13_101 {L : Nat} {xs : Nat → Int32} : ig_cT (tb_G L xs) 13 101 = some (.int 131141) := (by decide +kernel : tb_find tb_cn 13 101 = some (.int 131141))
theorem lk_13_102 {L : Nat} {xs : Nat → Int32} : ig_cT (tb_G L xs) 13 102 = some (.int 114113) := (by decide +kernel : tb_find tb_cn 13 102 = some (.int 114113))
theorem lk_13_103 {L : Nat} {xs : Nat → Int32} : ig_cT (tb_G L xs) 13 103 = some (.int 114311) := (by decide +kernel : tb_find tb_cn 13 103 = some (.int 114311))
theorem lk_13_104 {L : Nat} {xs : Nat → Int32} : ig_cT (tb_G L xs) 13 104 = some (.int 411113) := (by decide +kernel : tb_find tb_cn 13 104 = some (.int 411113))
theorem lk_13_105 {L : Nat} {xs : Nat → Int32} : ig_cT (tb_G L xs) 13 105 = some (.int 411311) := (by decide +kernel : tb_find tb_cn 13 105 = some (.int 411311))
theorem lk_13_106 {L : Nat} {xs : Nat → Int32} : ig_cT (tb_G L xs) 13 106 = some (.int 113141) := (by decide +kernel : tb_find tb_cn 13 106 = some (.int 113141))
theorem lk_13_107 {L : Nat} {xs : Nat → Int32} : ig_cT (tb_G L xs) 13 107 = some (.int 114131) := (by decide +kernel : tb_find tb_cn 13 107 = some (.int 114131))
theorem lk_13_108 {L : Nat} {xs : Nat → Int32} : ig_cT (tb_G L xs) 13 108 = some (.int 311141) := (by decide +kernel : tb_find tb_cn 13 108 = some (.int 311141))
theorem lk_13_109 {L : Nat} {xs : Nat → Int32} : ig_cT (tb_G L xs) 13 109 = some (.int 411131) := (by decide +kernel : tb_find tb_cn 13 109 = some (.int 411131))
theorem lk_13_110 {L : Nat} {xs : Nat → Int32} : ig_cT (tb_G L xs) 13 110 = some (.int 211412) := (by decide +kernel : tb_find tb_cn 13 110 = some (.int 211412))
theorem lk_13_111 {L : Nat} {xs : Nat → Int32} : ig_cT (tb_G L xs) 13 111 = some (.int 211214) := (by decide +kernel : tb_find tb_cn 13 111 = some (.int 211214))
theorem lk_13_112 {L : Nat} {xs : Nat → Int32} : ig_cT (tb_G L xs) 13 112 = some (.int 211232) := (by decide +kernel : tb_find tb_cn 13 112 = some (.int 211232))
theorem lk_14_16 {L : Nat} {xs : Nat → Int32} : ig_cT (tb_G L xs) 14 16 = some (.int 262144) := (by decide +kernel : tb_find tb_cn 14 16 = some (.int 262144))
theorem lk_14_21 {L : Nat} {xs : Nat → Int32} : ig_cT (tb_G L xs) 14 21 = some (.int 263169) := (by decide +kernel : tb_find tb_cn 14 21 = some (.int 263169))
theorem lk_13_213 {L : Nat} {xs : Nat → Int32} : ig_cT (tb_G L xs) 13 213 = some (.int 2331112) := (by decide +kernel : tb_find tb_cn 13 213 = some (.int 2331112))
theorem lk_16_113 {L : Nat} {xs : Nat → Int32} : ig_cT (tb_G L xs) 16 113 = some (.int 1000000) := (by decide +kernel : tb_find tb_cn 16 113 = some (.int 1000000))
theorem lk_5_50 {L : Nat} {xs : Nat → Int32} : ig_cT (tb_G L xs) 5 50 = some (.long 10) := (by decide +kernel : tb_find tb_cn 5 50 = some (.long 10))
theorem lk_5_58 {L : Nat} {xs : Nat → Int32} : ig_cT (tb_G L xs) 5 58 = some (.long 48) := (by decide +kernel : tb_find tb_cn 5 58 = some (.long 48))
theorem lk_9_53 {L : Nat} {xs : Nat → Int32} : ig_cT (tb_G L xs) 9 53 = some (.long 63) := (by decide +kernel : tb_find tb_cn 9 53 = some (.long 63))
theorem lk_9_43 {L : Nat} {xs : Nat → Int32} : ig_cT (tb_G L xs) 9 43 = some (.long (-1)) := (by decide +kernel : tb_find tb_cn 9 43 = some (.long (-1)))
theorem lk_6_137 {L : Nat} {xs : Nat → Int32} : ig_cT (tb_G L xs) 6 137 = some (.long 2) := (by decide +kernel : tb_find tb_cn 6 137 = some (.long 2))
theorem lk_6_166 {L : Nat} {xs : Nat → Int32} : ig_cT (tb_G L xs) 6 166 = some (.long 4) := (by decide +kernel : tb_find tb_cn 6 166 = some (.long 4))
theorem lk_24_314 {L : Nat} {xs : Nat → Int32} : ig_cT (tb_G L xs) 24 314 = some (.long 6148914691236517205) := (by decide +kernel : tb_find tb_cn 24 314 = some (.long 6148914691236517205))
theorem lk_24_316 {L : Nat} {xs : Nat → Int32} : ig_cT (tb_G L xs) 24 316 = some (.long 3689348814741910323) := (by decide +kernel : tb_find tb_cn 24 316 = some (.long 3689348814741910323))
theorem lk_24_318 {L : Nat} {xs : Nat → Int32} : ig_cT (tb_G L xs) 24 318 = some (.long 1085102592571150095) := (by decide +kernel : tb_find tb_cn 24 318 = some (.long 1085102592571150095))
theorem lk_3_118 {L : Nat} {xs : Nat → Int32} : ig_cT (tb_G L xs) 3 118 = some (.long 512) := (by decide +kernel : tb_find tb_cn 3 118 = some (.long 512))
theorem lk_3_120 {L : Nat} {xs : Nat → Int32} : ig_cT (tb_G L xs) 3 120 = some (.long 32) := (by decide +kernel : tb_find tb_cn 3 120 = some (.long 32))
theorem lk_3_122 {L : Nat} {xs : Nat → Int32} : ig_cT (tb_G L xs) 3 122 = some (.long 64) := (by decide +kernel : tb_find tb_cn 3 122 = some (.long 64))
theorem lk_3_124 {L : Nat} {xs : Nat → Int32} : ig_cT (tb_G L xs) 3 124 = some (.long 4) := (by decide +kernel : tb_find tb_cn 3 124 = some (.long 4))
theorem lk_17_64 {L : Nat} {xs : Nat → Int32} : ig_cT (tb_G L xs) 17 64 = some (.long 255) := (by decide +kernel : tb_find tb_cn 17 64 = some (.long 255))
theorem lk_15_71 {L : Nat} {xs : Nat → Int32} : ig_cT (tb_G L xs) 15 71 = some (.long 255) := (by decide +kernel : tb_find tb_cn 15 71 = some (.long 255))
theorem lk_15_143 {L : Nat} {xs : Nat → Int32} : ig_cT (tb_G L xs) 15 143 = some (.long 10) := (by decide +kernel : tb_find tb_cn 15 143 = some (.long 10))
theorem lk_12_50 {L : Nat} {xs : Nat → Int32} : ig_cT (tb_G L xs) 12 50 = some (.long 255) := (by decide +kernel : tb_find tb_cn 12 50 = some (.long 255))
theorem lk_12_67 {L : Nat} {xs : Nat → Int32} : ig_cT (tb_G L xs) 12 67 = some (.long 4) := (by decide +kernel : tb_find tb_cn 12 67 = some (.long 4))
theorem lk_12_69 {L : Nat} {xs : Nat → Int32} : ig_cT (tb_G L xs) 12 69 = some (.long 2) := (by decide +kernel : tb_find tb_cn 12 69 = some (.long 2))
theorem lk_13_153 {L : Nat} {xs : Nat → Int32} : ig_cT (tb_G L xs) 13 153 = some (.long 255) := (by decide +kernel : tb_find tb_cn 13 153 = some (.long 255))
theorem lk_13_155 {L : Nat} {xs : Nat → Int32} : ig_cT (tb_G L xs) 13 155 = some (.long 128) := (by decide +kernel : tb_find tb_cn 13 155 = some (.long 128))
theorem lk_17_127 {L : Nat} {xs : Nat → Int32} : ig_cT (tb_G L xs) 17 127 = some (.long 10) := (by decide +kernel : tb_find tb_cn 17 127 = some (.long 10))
theorem lk_17_129 {L : Nat} {xs : Nat → Int32} : ig_cT (tb_G L xs) 17 129 = some (.long 48) := (by decide +kernel : tb_find tb_cn 17 129 = some (.long 48))
theorem lk_13_214 {L : Nat} {xs : Nat → Int32} : ig_cT (tb_G L xs) 13 214 = some (.long 999999999999) := (by decide +kernel : tb_find tb_cn 13 214 = some (.long 999999999999))
theorem lk_13_216 {L : Nat} {xs : Nat → Int32} : ig_cT (tb_G L xs) 13 216 = some (.long 10) := (by decide +kernel : tb_find tb_cn 13 216 = some (.long 10))
theorem lk_16_80 {L : Nat} {xs : Nat → Int32} : ig_cT (tb_G L xs) 16 80 = some (.long 255) := (by decide +kernel : tb_find tb_cn 16 80 = some (.long 255))
theorem lk_18_71 {L : Nat} {xs : Nat → Int32} : ig_cT (tb_G L xs) 18 71 = some (.long 4294967295) := (by decide +kernel : tb_find tb_cn 18 71 = some (.long 4294967295))

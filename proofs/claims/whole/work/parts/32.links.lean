/-! EACH LINK AS A ROW -/
theorem lf_10_11 : tb_find tb_fl 10 11 = some (10, 0) := by decide +kernel
theorem lf_10_40 : tb_find tb_fl 10 40 = some (10, 1) := by decide +kernel
theorem lf_8_57 : tb_find tb_fl 8 57 = some (10, 1) := by decide +kernel
theorem lf_11_91 : tb_find tb_fl 11 91 = some (10, 1) := by decide +kernel
theorem lf_10_15 : tb_find tb_fl 10 15 = some (10, 2) := by decide +kernel
theorem lf_10_18 : tb_find tb_fl 10 18 = some (10, 3) := by decide +kernel
theorem lf_8_156 : tb_find tb_fl 8 156 = some (10, 3) := by decide +kernel
theorem lf_10_22 : tb_find tb_fl 10 22 = some (10, 4) := by decide +kernel
theorem lf_8_210 : tb_find tb_fl 8 210 = some (10, 4) := by decide +kernel
theorem lf_10_25 : tb_find tb_fl 10 25 = some (10, 5) := by decide +kernel
theorem lf_8_213 : tb_find tb_fl 8 213 = some (10, 5) := by decide +kernel
theorem lf_10_44 : tb_find tb_fl 10 44 = some (10, 6) := by decide +kernel
theorem lf_8_79 : tb_find tb_fl 8 79 = some (10, 6) := by decide +kernel
theorem lf_10_28 : tb_find tb_fl 10 28 = some (10, 7) := by decide +kernel
theorem lf_10_31 : tb_find tb_fl 10 31 = some (10, 8) := by decide +kernel
theorem lf_8_82 : tb_find tb_fl 8 82 = some (10, 8) := by decide +kernel
theorem lf_10_34 : tb_find tb_fl 10 34 = some (10, 9) := by decide +kernel
theorem lf_8_131 : tb_find tb_fl 8 131 = some (10, 9) := by decide +kernel
theorem lf_10_37 : tb_find tb_fl 10 37 = some (10, 10) := by decide +kernel
theorem lf_8_199 : tb_find tb_fl 8 199 = some (10, 10) := by decide +kernel
theorem lf_10_61 : tb_find tb_fl 10 61 = some (10, 11) := by decide +kernel
theorem lf_8_203 : tb_find tb_fl 8 203 = some (10, 11) := by decide +kernel
theorem lf_5_13 : tb_find tb_fl 5 13 = some (5, 0) := by decide +kernel
theorem lf_2_84 : tb_find tb_fl 2 84 = some (5, 0) := by decide +kernel
theorem lf_5_17 : tb_find tb_fl 5 17 = some (5, 1) := by decide +kernel
theorem lf_6_66 : tb_find tb_fl 6 66 = some (5, 1) := by decide +kernel
theorem lf_2_78 : tb_find tb_fl 2 78 = some (5, 1) := by decide +kernel
theorem lf_11_135 : tb_find tb_fl 11 135 = some (5, 1) := by decide +kernel
theorem lf_5_9 : tb_find tb_fl 5 9 = some (5, 2) := by decide +kernel
theorem lf_8_54 : tb_find tb_fl 8 54 = some (5, 3) := by decide +kernel
theorem lf_2_81 : tb_find tb_fl 2 81 = some (5, 3) := by decide +kernel
theorem lf_5_26 : tb_find tb_fl 5 26 = some (5, 3) := by decide +kernel
theorem lf_11_128 : tb_find tb_fl 11 128 = some (5, 3) := by decide +kernel
theorem lf_2_27 : tb_find tb_fl 2 27 = some (2, 0) := by decide +kernel
theorem lf_8_190 : tb_find tb_fl 8 190 = some (2, 0) := by decide +kernel
theorem lf_2_31 : tb_find tb_fl 2 31 = some (2, 1) := by decide +kernel
theorem lf_8_193 : tb_find tb_fl 8 193 = some (2, 1) := by decide +kernel
theorem lf_2_34 : tb_find tb_fl 2 34 = some (2, 2) := by decide +kernel
theorem lf_8_128 : tb_find tb_fl 8 128 = some (2, 2) := by decide +kernel
theorem lf_2_9 : tb_find tb_fl 2 9 = some (2, 3) := by decide +kernel
theorem lf_2_37 : tb_find tb_fl 2 37 = some (2, 4) := by decide +kernel
theorem lf_8_196 : tb_find tb_fl 8 196 = some (2, 4) := by decide +kernel
theorem lf_2_41 : tb_find tb_fl 2 41 = some (2, 5) := by decide +kernel
theorem lf_8_216 : tb_find tb_fl 8 216 = some (2, 5) := by decide +kernel
theorem lf_2_44 : tb_find tb_fl 2 44 = some (2, 6) := by decide +kernel
theorem lf_8_219 : tb_find tb_fl 8 219 = some (2, 6) := by decide +kernel
theorem lf_2_17 : tb_find tb_fl 2 17 = some (2, 7) := by decide +kernel
theorem lf_2_47 : tb_find tb_fl 2 47 = some (2, 8) := by decide +kernel
theorem lf_2_105 : tb_find tb_fl 2 105 = some (2, 9) := by decide +kernel
theorem lf_2_21 : tb_find tb_fl 2 21 = some (2, 10) := by decide +kernel
theorem lf_2_24 : tb_find tb_fl 2 24 = some (2, 11) := by decide +kernel
theorem lf_8_25 : tb_find tb_fl 8 25 = some (8, 0) := by decide +kernel
theorem lf_8_29 : tb_find tb_fl 8 29 = some (8, 1) := by decide +kernel
theorem lf_8_40 : tb_find tb_fl 8 40 = some (8, 2) := by decide +kernel
theorem lf_8_44 : tb_find tb_fl 8 44 = some (8, 3) := by decide +kernel
theorem lf_8_51 : tb_find tb_fl 8 51 = some (8, 4) := by decide +kernel
theorem lf_11_122 : tb_find tb_fl 11 122 = some (8, 4) := by decide +kernel
theorem lf_8_11 : tb_find tb_fl 8 11 = some (8, 5) := by decide +kernel
theorem lf_11_125 : tb_find tb_fl 11 125 = some (8, 5) := by decide +kernel
theorem lf_8_48 : tb_find tb_fl 8 48 = some (8, 6) := by decide +kernel
theorem lf_11_116 : tb_find tb_fl 11 116 = some (8, 6) := by decide +kernel
theorem lf_8_15 : tb_find tb_fl 8 15 = some (8, 7) := by decide +kernel
theorem lf_11_119 : tb_find tb_fl 11 119 = some (8, 7) := by decide +kernel
theorem lf_8_62 : tb_find tb_fl 8 62 = some (8, 8) := by decide +kernel
theorem lf_8_66 : tb_find tb_fl 8 66 = some (8, 9) := by decide +kernel
theorem lf_8_232 : tb_find tb_fl 8 232 = some (8, 10) := by decide +kernel
theorem lf_8_235 : tb_find tb_fl 8 235 = some (8, 11) := by decide +kernel
theorem lf_8_162 : tb_find tb_fl 8 162 = some (8, 12) := by decide +kernel
theorem lf_8_19 : tb_find tb_fl 8 19 = some (8, 13) := by decide +kernel
theorem lf_8_22 : tb_find tb_fl 8 22 = some (8, 14) := by decide +kernel
theorem lf_8_140 : tb_find tb_fl 8 140 = some (8, 15) := by decide +kernel
theorem lf_8_153 : tb_find tb_fl 8 153 = some (8, 16) := by decide +kernel
theorem lf_9_9 : tb_find tb_fl 9 9 = some (9, 0) := by decide +kernel
theorem lf_3_54 : tb_find tb_fl 3 54 = some (9, 0) := by decide +kernel
theorem lf_11_163 : tb_find tb_fl 11 163 = some (9, 0) := by decide +kernel
theorem lf_9_15 : tb_find tb_fl 9 15 = some (9, 1) := by decide +kernel
theorem lf_3_57 : tb_find tb_fl 3 57 = some (9, 1) := by decide +kernel
theorem lf_6_134 : tb_find tb_fl 6 134 = some (9, 1) := by decide +kernel
theorem lf_11_166 : tb_find tb_fl 11 166 = some (9, 1) := by decide +kernel
theorem lf_6_53 : tb_find tb_fl 6 53 = some (9, 2) := by decide +kernel
theorem lf_9_49 : tb_find tb_fl 9 49 = some (9, 2) := by decide +kernel
theorem lf_9_40 : tb_find tb_fl 9 40 = some (9, 3) := by decide +kernel
theorem lf_6_59 : tb_find tb_fl 6 59 = some (9, 3) := by decide +kernel
theorem lf_9_18 : tb_find tb_fl 9 18 = some (9, 4) := by decide +kernel
theorem lf_9_22 : tb_find tb_fl 9 22 = some (9, 5) := by decide +kernel
theorem lf_0_11 : tb_find tb_fl 0 11 = some (0, 0) := by decide +kernel
theorem lf_11_186 : tb_find tb_fl 11 186 = some (0, 0) := by decide +kernel
theorem lf_0_17 : tb_find tb_fl 0 17 = some (0, 1) := by decide +kernel
theorem lf_6_124 : tb_find tb_fl 6 124 = some (0, 1) := by decide +kernel
theorem lf_6_121 : tb_find tb_fl 6 121 = some (0, 2) := by decide +kernel
theorem lf_0_86 : tb_find tb_fl 0 86 = some (0, 2) := by decide +kernel
theorem lf_0_122 : tb_find tb_fl 0 122 = some (0, 3) := by decide +kernel
theorem lf_11_240 : tb_find tb_fl 11 240 = some (0, 3) := by decide +kernel
theorem lf_0_118 : tb_find tb_fl 0 118 = some (0, 4) := by decide +kernel
theorem lf_11_244 : tb_find tb_fl 11 244 = some (0, 4) := by decide +kernel
theorem lf_0_20 : tb_find tb_fl 0 20 = some (0, 5) := by decide +kernel
theorem lf_0_32 : tb_find tb_fl 0 32 = some (0, 6) := by decide +kernel
theorem lf_0_23 : tb_find tb_fl 0 23 = some (0, 7) := by decide +kernel
theorem lf_0_26 : tb_find tb_fl 0 26 = some (0, 8) := by decide +kernel
theorem lf_0_73 : tb_find tb_fl 0 73 = some (0, 9) := by decide +kernel
theorem lf_0_29 : tb_find tb_fl 0 29 = some (0, 10) := by decide +kernel
theorem lf_0_115 : tb_find tb_fl 0 115 = some (0, 11) := by decide +kernel
theorem lf_0_132 : tb_find tb_fl 0 132 = some (0, 12) := by decide +kernel
theorem lf_7_11 : tb_find tb_fl 7 11 = some (7, 0) := by decide +kernel
theorem lf_4_36 : tb_find tb_fl 4 36 = some (7, 0) := by decide +kernel
theorem lf_7_107 : tb_find tb_fl 7 107 = some (7, 1) := by decide +kernel
theorem lf_11_227 : tb_find tb_fl 11 227 = some (7, 1) := by decide +kernel
theorem lf_7_110 : tb_find tb_fl 7 110 = some (7, 2) := by decide +kernel
theorem lf_11_230 : tb_find tb_fl 11 230 = some (7, 2) := by decide +kernel
theorem lf_7_17 : tb_find tb_fl 7 17 = some (7, 3) := by decide +kernel
theorem lf_7_21 : tb_find tb_fl 7 21 = some (7, 4) := by decide +kernel
theorem lf_7_81 : tb_find tb_fl 7 81 = some (7, 5) := by decide +kernel
theorem lf_7_104 : tb_find tb_fl 7 104 = some (7, 6) := by decide +kernel
theorem lf_1_11 : tb_find tb_fl 1 11 = some (1, 0) := by decide +kernel
theorem lf_1_15 : tb_find tb_fl 1 15 = some (1, 1) := by decide +kernel
theorem lf_1_19 : tb_find tb_fl 1 19 = some (1, 2) := by decide +kernel
theorem lf_1_22 : tb_find tb_fl 1 22 = some (1, 3) := by decide +kernel
theorem lf_1_25 : tb_find tb_fl 1 25 = some (1, 4) := by decide +kernel
theorem lf_1_28 : tb_find tb_fl 1 28 = some (1, 5) := by decide +kernel
theorem lf_1_31 : tb_find tb_fl 1 31 = some (1, 6) := by decide +kernel
theorem lf_1_34 : tb_find tb_fl 1 34 = some (1, 7) := by decide +kernel
theorem lf_1_37 : tb_find tb_fl 1 37 = some (1, 8) := by decide +kernel
theorem lf_1_40 : tb_find tb_fl 1 40 = some (1, 9) := by decide +kernel
theorem lf_1_64 : tb_find tb_fl 1 64 = some (1, 10) := by decide +kernel
theorem lf_1_53 : tb_find tb_fl 1 53 = some (1, 11) := by decide +kernel
theorem lf_1_57 : tb_find tb_fl 1 57 = some (1, 12) := by decide +kernel
theorem lf_1_67 : tb_find tb_fl 1 67 = some (1, 13) := by decide +kernel
theorem lf_4_12 : tb_find tb_fl 4 12 = some (4, 0) := by decide +kernel
theorem lf_11_223 : tb_find tb_fl 11 223 = some (4, 0) := by decide +kernel
theorem lf_4_74 : tb_find tb_fl 4 74 = some (4, 1) := by decide +kernel
theorem lf_6_127 : tb_find tb_fl 6 127 = some (4, 1) := by decide +kernel
theorem lf_3_132 : tb_find tb_fl 3 132 = some (4, 1) := by decide +kernel
theorem lf_11_214 : tb_find tb_fl 11 214 = some (4, 2) := by decide +kernel
theorem lf_4_154 : tb_find tb_fl 4 154 = some (4, 2) := by decide +kernel
theorem lf_4_55 : tb_find tb_fl 4 55 = some (4, 3) := by decide +kernel
theorem lf_11_217 : tb_find tb_fl 11 217 = some (4, 3) := by decide +kernel
theorem lf_11_220 : tb_find tb_fl 11 220 = some (4, 4) := by decide +kernel
theorem lf_4_161 : tb_find tb_fl 4 161 = some (4, 4) := by decide +kernel
theorem lf_4_21 : tb_find tb_fl 4 21 = some (4, 5) := by decide +kernel
theorem lf_4_71 : tb_find tb_fl 4 71 = some (4, 6) := by decide +kernel
theorem lf_4_25 : tb_find tb_fl 4 25 = some (4, 7) := by decide +kernel
theorem lf_4_29 : tb_find tb_fl 4 29 = some (4, 8) := by decide +kernel
theorem lf_6_19 : tb_find tb_fl 6 19 = some (6, 0) := by decide +kernel
theorem lf_6_23 : tb_find tb_fl 6 23 = some (6, 1) := by decide +kernel
theorem lf_6_27 : tb_find tb_fl 6 27 = some (6, 2) := by decide +kernel
theorem lf_6_9 : tb_find tb_fl 6 9 = some (6, 3) := by decide +kernel
theorem lf_6_16 : tb_find tb_fl 6 16 = some (6, 4) := by decide +kernel
theorem lf_6_43 : tb_find tb_fl 6 43 = some (6, 5) := by decide +kernel
theorem lf_6_47 : tb_find tb_fl 6 47 = some (6, 6) := by decide +kernel
theorem lf_6_50 : tb_find tb_fl 6 50 = some (6, 7) := by decide +kernel
theorem lf_3_41 : tb_find tb_fl 3 41 = some (3, 0) := by decide +kernel
theorem lf_11_146 : tb_find tb_fl 11 146 = some (3, 0) := by decide +kernel
theorem lf_3_37 : tb_find tb_fl 3 37 = some (3, 1) := by decide +kernel
theorem lf_3_14 : tb_find tb_fl 3 14 = some (3, 2) := by decide +kernel
theorem lf_3_19 : tb_find tb_fl 3 19 = some (3, 3) := by decide +kernel
theorem lf_3_23 : tb_find tb_fl 3 23 = some (3, 4) := by decide +kernel
theorem lf_3_27 : tb_find tb_fl 3 27 = some (3, 5) := by decide +kernel
theorem lf_3_30 : tb_find tb_fl 3 30 = some (3, 6) := by decide +kernel
theorem lf_3_34 : tb_find tb_fl 3 34 = some (3, 7) := by decide +kernel
theorem lf_3_45 : tb_find tb_fl 3 45 = some (3, 8) := by decide +kernel
theorem lf_3_66 : tb_find tb_fl 3 66 = some (3, 9) := by decide +kernel
theorem lf_3_48 : tb_find tb_fl 3 48 = some (3, 10) := by decide +kernel
theorem lf_11_10 : tb_find tb_fl 11 10 = some (11, 0) := by decide +kernel
theorem lf_11_21 : tb_find tb_fl 11 21 = some (11, 1) := by decide +kernel
theorem lf_11_30 : tb_find tb_fl 11 30 = some (11, 2) := by decide +kernel
theorem lf_11_37 : tb_find tb_fl 11 37 = some (11, 3) := by decide +kernel
theorem lf_11_60 : tb_find tb_fl 11 60 = some (11, 4) := by decide +kernel
theorem lf_11_44 : tb_find tb_fl 11 44 = some (11, 5) := by decide +kernel
theorem lf_11_51 : tb_find tb_fl 11 51 = some (11, 6) := by decide +kernel
theorem lf_11_69 : tb_find tb_fl 11 69 = some (11, 7) := by decide +kernel
theorem lf_11_73 : tb_find tb_fl 11 73 = some (11, 8) := by decide +kernel
theorem lf_11_149 : tb_find tb_fl 11 149 = some (11, 9) := by decide +kernel
theorem lf_11_77 : tb_find tb_fl 11 77 = some (11, 10) := by decide +kernel
theorem lf_11_80 : tb_find tb_fl 11 80 = some (11, 11) := by decide +kernel
theorem lf_11_231 : tb_find tb_fl 11 231 = some (11, 12) := by decide +kernel
theorem lf_15_65 : tb_find tb_fl 15 65 = some (15, 0) := by decide +kernel
theorem lf_15_7 : tb_find tb_fl 15 7 = some (15, 1) := by decide +kernel
theorem lf_15_68 : tb_find tb_fl 15 68 = some (15, 2) := by decide +kernel
theorem lf_15_13 : tb_find tb_fl 15 13 = some (15, 3) := by decide +kernel
theorem lf_15_16 : tb_find tb_fl 15 16 = some (15, 4) := by decide +kernel
theorem lf_15_19 : tb_find tb_fl 15 19 = some (15, 5) := by decide +kernel
theorem lf_15_22 : tb_find tb_fl 15 22 = some (15, 6) := by decide +kernel
theorem lf_15_25 : tb_find tb_fl 15 25 = some (15, 7) := by decide +kernel
theorem lf_15_73 : tb_find tb_fl 15 73 = some (15, 8) := by decide +kernel
theorem lf_15_183 : tb_find tb_fl 15 183 = some (15, 9) := by decide +kernel
theorem lf_15_216 : tb_find tb_fl 15 216 = some (15, 10) := by decide +kernel
theorem lf_15_210 : tb_find tb_fl 15 210 = some (15, 11) := by decide +kernel
theorem lf_15_213 : tb_find tb_fl 15 213 = some (15, 12) := by decide +kernel
theorem lf_15_249 : tb_find tb_fl 15 249 = some (15, 13) := by decide +kernel
theorem lf_15_28 : tb_find tb_fl 15 28 = some (15, 14) := by decide +kernel
theorem lf_15_32 : tb_find tb_fl 15 32 = some (15, 15) := by decide +kernel
theorem lf_15_35 : tb_find tb_fl 15 35 = some (15, 16) := by decide +kernel
theorem lf_15_101 : tb_find tb_fl 15 101 = some (15, 17) := by decide +kernel
theorem lf_15_180 : tb_find tb_fl 15 180 = some (15, 18) := by decide +kernel
theorem lf_15_219 : tb_find tb_fl 15 219 = some (15, 19) := by decide +kernel
theorem lf_15_222 : tb_find tb_fl 15 222 = some (15, 20) := by decide +kernel
theorem lf_15_207 : tb_find tb_fl 15 207 = some (15, 21) := by decide +kernel
theorem lf_15_107 : tb_find tb_fl 15 107 = some (15, 22) := by decide +kernel
theorem lf_15_110 : tb_find tb_fl 15 110 = some (15, 23) := by decide +kernel
theorem lf_15_38 : tb_find tb_fl 15 38 = some (15, 24) := by decide +kernel
theorem lf_15_113 : tb_find tb_fl 15 113 = some (15, 25) := by decide +kernel
theorem lf_15_123 : tb_find tb_fl 15 123 = some (15, 26) := by decide +kernel
theorem lf_15_41 : tb_find tb_fl 15 41 = some (15, 27) := by decide +kernel
theorem lf_15_44 : tb_find tb_fl 15 44 = some (15, 28) := by decide +kernel
theorem lf_15_47 : tb_find tb_fl 15 47 = some (15, 29) := by decide +kernel
theorem lf_15_50 : tb_find tb_fl 15 50 = some (15, 30) := by decide +kernel
theorem lf_15_53 : tb_find tb_fl 15 53 = some (15, 31) := by decide +kernel
theorem lf_15_132 : tb_find tb_fl 15 132 = some (15, 32) := by decide +kernel
theorem lf_15_136 : tb_find tb_fl 15 136 = some (15, 33) := by decide +kernel
theorem lf_15_126 : tb_find tb_fl 15 126 = some (15, 34) := by decide +kernel
theorem lf_15_204 : tb_find tb_fl 15 204 = some (15, 35) := by decide +kernel
theorem lf_15_56 : tb_find tb_fl 15 56 = some (15, 36) := by decide +kernel
theorem lf_15_155 : tb_find tb_fl 15 155 = some (15, 37) := by decide +kernel
theorem lf_15_59 : tb_find tb_fl 15 59 = some (15, 38) := by decide +kernel
theorem lf_15_62 : tb_find tb_fl 15 62 = some (15, 39) := by decide +kernel
theorem lf_12_37 : tb_find tb_fl 12 37 = some (12, 0) := by decide +kernel
theorem lf_12_7 : tb_find tb_fl 12 7 = some (12, 1) := by decide +kernel
theorem lf_12_13 : tb_find tb_fl 12 13 = some (12, 2) := by decide +kernel
theorem lf_12_44 : tb_find tb_fl 12 44 = some (12, 3) := by decide +kernel
theorem lf_12_17 : tb_find tb_fl 12 17 = some (12, 4) := by decide +kernel
theorem lf_12_21 : tb_find tb_fl 12 21 = some (12, 5) := by decide +kernel
theorem lf_12_24 : tb_find tb_fl 12 24 = some (12, 6) := by decide +kernel
theorem lf_12_47 : tb_find tb_fl 12 47 = some (12, 7) := by decide +kernel
theorem lf_12_27 : tb_find tb_fl 12 27 = some (12, 8) := by decide +kernel
theorem lf_12_30 : tb_find tb_fl 12 30 = some (12, 9) := by decide +kernel
theorem lf_12_52 : tb_find tb_fl 12 52 = some (12, 10) := by decide +kernel
theorem lf_12_58 : tb_find tb_fl 12 58 = some (12, 11) := by decide +kernel
theorem lf_12_55 : tb_find tb_fl 12 55 = some (12, 12) := by decide +kernel
theorem lf_12_61 : tb_find tb_fl 12 61 = some (12, 13) := by decide +kernel
theorem lf_12_64 : tb_find tb_fl 12 64 = some (12, 14) := by decide +kernel
theorem lf_12_75 : tb_find tb_fl 12 75 = some (12, 15) := by decide +kernel
theorem lf_12_78 : tb_find tb_fl 12 78 = some (12, 16) := by decide +kernel
theorem lf_12_33 : tb_find tb_fl 12 33 = some (12, 17) := by decide +kernel
theorem lf_13_113 : tb_find tb_fl 13 113 = some (13, 0) := by decide +kernel
theorem lf_13_119 : tb_find tb_fl 13 119 = some (13, 1) := by decide +kernel
theorem lf_13_122 : tb_find tb_fl 13 122 = some (13, 2) := by decide +kernel
theorem lf_13_149 : tb_find tb_fl 13 149 = some (13, 3) := by decide +kernel
theorem lf_13_125 : tb_find tb_fl 13 125 = some (13, 4) := by decide +kernel
theorem lf_13_157 : tb_find tb_fl 13 157 = some (13, 5) := by decide +kernel
theorem lf_13_128 : tb_find tb_fl 13 128 = some (13, 6) := by decide +kernel
theorem lf_13_131 : tb_find tb_fl 13 131 = some (13, 7) := by decide +kernel
theorem lf_13_188 : tb_find tb_fl 13 188 = some (13, 8) := by decide +kernel
theorem lf_13_134 : tb_find tb_fl 13 134 = some (13, 9) := by decide +kernel
theorem lf_13_202 : tb_find tb_fl 13 202 = some (13, 10) := by decide +kernel
theorem lf_13_137 : tb_find tb_fl 13 137 = some (13, 11) := by decide +kernel
theorem lf_13_140 : tb_find tb_fl 13 140 = some (13, 12) := by decide +kernel
theorem lf_13_143 : tb_find tb_fl 13 143 = some (13, 13) := by decide +kernel
theorem lf_13_270 : tb_find tb_fl 13 270 = some (13, 14) := by decide +kernel
theorem lf_13_266 : tb_find tb_fl 13 266 = some (13, 15) := by decide +kernel
theorem lf_13_146 : tb_find tb_fl 13 146 = some (13, 16) := by decide +kernel
theorem lf_13_250 : tb_find tb_fl 13 250 = some (13, 17) := by decide +kernel
theorem lf_16_73 : tb_find tb_fl 16 73 = some (16, 0) := by decide +kernel
theorem lf_16_7 : tb_find tb_fl 16 7 = some (16, 1) := by decide +kernel
theorem lf_16_13 : tb_find tb_fl 16 13 = some (16, 2) := by decide +kernel
theorem lf_16_16 : tb_find tb_fl 16 16 = some (16, 3) := by decide +kernel
theorem lf_16_77 : tb_find tb_fl 16 77 = some (16, 4) := by decide +kernel
theorem lf_16_19 : tb_find tb_fl 16 19 = some (16, 5) := by decide +kernel
theorem lf_16_22 : tb_find tb_fl 16 22 = some (16, 6) := by decide +kernel
theorem lf_16_229 : tb_find tb_fl 16 229 = some (16, 7) := by decide +kernel
theorem lf_16_163 : tb_find tb_fl 16 163 = some (16, 8) := by decide +kernel
theorem lf_16_246 : tb_find tb_fl 16 246 = some (16, 9) := by decide +kernel
theorem lf_16_25 : tb_find tb_fl 16 25 = some (16, 10) := by decide +kernel
theorem lf_16_28 : tb_find tb_fl 16 28 = some (16, 11) := by decide +kernel
theorem lf_16_31 : tb_find tb_fl 16 31 = some (16, 12) := by decide +kernel
theorem lf_16_127 : tb_find tb_fl 16 127 = some (16, 13) := by decide +kernel
theorem lf_16_34 : tb_find tb_fl 16 34 = some (16, 14) := by decide +kernel
theorem lf_16_37 : tb_find tb_fl 16 37 = some (16, 15) := by decide +kernel
theorem lf_16_121 : tb_find tb_fl 16 121 = some (16, 16) := by decide +kernel
theorem lf_16_40 : tb_find tb_fl 16 40 = some (16, 17) := by decide +kernel
theorem lf_16_43 : tb_find tb_fl 16 43 = some (16, 18) := by decide +kernel
theorem lf_16_124 : tb_find tb_fl 16 124 = some (16, 19) := by decide +kernel
theorem lf_16_46 : tb_find tb_fl 16 46 = some (16, 20) := by decide +kernel
theorem lf_16_49 : tb_find tb_fl 16 49 = some (16, 21) := by decide +kernel
theorem lf_16_52 : tb_find tb_fl 16 52 = some (16, 22) := by decide +kernel
theorem lf_16_55 : tb_find tb_fl 16 55 = some (16, 23) := by decide +kernel
theorem lf_16_58 : tb_find tb_fl 16 58 = some (16, 24) := by decide +kernel
theorem lf_16_61 : tb_find tb_fl 16 61 = some (16, 25) := by decide +kernel
theorem lf_16_64 : tb_find tb_fl 16 64 = some (16, 26) := by decide +kernel
theorem lf_16_67 : tb_find tb_fl 16 67 = some (16, 27) := by decide +kernel
theorem lf_16_288 : tb_find tb_fl 16 288 = some (16, 28) := by decide +kernel
theorem lf_16_279 : tb_find tb_fl 16 279 = some (16, 29) := by decide +kernel
theorem lf_16_282 : tb_find tb_fl 16 282 = some (16, 30) := by decide +kernel
theorem lf_16_285 : tb_find tb_fl 16 285 = some (16, 31) := by decide +kernel
theorem lf_16_303 : tb_find tb_fl 16 303 = some (16, 32) := by decide +kernel
theorem lf_16_70 : tb_find tb_fl 16 70 = some (16, 33) := by decide +kernel
theorem lf_14_35 : tb_find tb_fl 14 35 = some (14, 0) := by decide +kernel
theorem lf_14_7 : tb_find tb_fl 14 7 = some (14, 1) := by decide +kernel
theorem lf_14_13 : tb_find tb_fl 14 13 = some (14, 2) := by decide +kernel
theorem lf_14_17 : tb_find tb_fl 14 17 = some (14, 3) := by decide +kernel
theorem lf_14_22 : tb_find tb_fl 14 22 = some (14, 4) := by decide +kernel
theorem lf_14_26 : tb_find tb_fl 14 26 = some (14, 5) := by decide +kernel
theorem lf_14_85 : tb_find tb_fl 14 85 = some (14, 6) := by decide +kernel
theorem lf_14_29 : tb_find tb_fl 14 29 = some (14, 7) := by decide +kernel
theorem lf_14_38 : tb_find tb_fl 14 38 = some (14, 8) := by decide +kernel
theorem lf_14_32 : tb_find tb_fl 14 32 = some (14, 9) := by decide +kernel
theorem lf_14_41 : tb_find tb_fl 14 41 = some (14, 10) := by decide +kernel
theorem lf_17_58 : tb_find tb_fl 17 58 = some (17, 0) := by decide +kernel
theorem lf_17_7 : tb_find tb_fl 17 7 = some (17, 1) := by decide +kernel
theorem lf_17_61 : tb_find tb_fl 17 61 = some (17, 2) := by decide +kernel
theorem lf_17_16 : tb_find tb_fl 17 16 = some (17, 3) := by decide +kernel
theorem lf_17_23 : tb_find tb_fl 17 23 = some (17, 4) := by decide +kernel
theorem lf_17_30 : tb_find tb_fl 17 30 = some (17, 5) := by decide +kernel
theorem lf_17_37 : tb_find tb_fl 17 37 = some (17, 6) := by decide +kernel
theorem lf_17_44 : tb_find tb_fl 17 44 = some (17, 7) := by decide +kernel
theorem lf_17_48 : tb_find tb_fl 17 48 = some (17, 8) := by decide +kernel
theorem lf_17_197 : tb_find tb_fl 17 197 = some (17, 9) := by decide +kernel
theorem lf_17_51 : tb_find tb_fl 17 51 = some (17, 10) := by decide +kernel
theorem lf_17_55 : tb_find tb_fl 17 55 = some (17, 11) := by decide +kernel
theorem lf_17_229 : tb_find tb_fl 17 229 = some (17, 12) := by decide +kernel
theorem lc_18_67 : tb_cal 18 67 = some 0 := by decide +kernel
theorem lc_11_18 : tb_cal 11 18 = some 2 := by decide +kernel
theorem lc_11_27 : tb_cal 11 27 = some 3 := by decide +kernel
theorem lc_8_37 : tb_cal 8 37 = some 2 := by decide +kernel
theorem lc_4_20 : tb_cal 4 20 = some 9 := by decide +kernel
theorem lc_11_57 : tb_cal 11 57 = some 10 := by decide +kernel
theorem lc_11_66 : tb_cal 11 66 = some 11 := by decide +kernel
theorem lc_18_83 : tb_cal 18 83 = some 12 := by decide +kernel
theorem lc_18_94 : tb_cal 18 94 = some 13 := by decide +kernel
theorem lc_11_109 : tb_cal 11 109 = some 14 := by decide +kernel
theorem lc_8_69 : tb_cal 8 69 = some 15 := by decide +kernel
theorem lc_8_72 : tb_cal 8 72 = some 16 := by decide +kernel
theorem lc_10_47 : tb_cal 10 47 = some 17 := by decide +kernel
theorem lc_10_51 : tb_cal 10 51 = some 18 := by decide +kernel
theorem lc_8_75 : tb_cal 8 75 = some 17 := by decide +kernel
theorem lc_8_85 : tb_cal 8 85 = some 18 := by decide +kernel
theorem lc_8_88 : tb_cal 8 88 = some 19 := by decide +kernel
theorem lc_8_93 : tb_cal 8 93 = some 20 := by decide +kernel
theorem lc_19_633 : tb_cal 19 633 = some 21 := by decide +kernel
theorem lc_19_492 : tb_cal 19 492 = some 22 := by decide +kernel
theorem lc_19_505 : tb_cal 19 505 = some 23 := by decide +kernel
theorem lc_19_335 : tb_cal 19 335 = some 24 := by decide +kernel
theorem lc_19_637 : tb_cal 19 637 = some 25 := by decide +kernel
theorem lc_20_88 : tb_cal 20 88 = some 26 := by decide +kernel
theorem lc_20_92 : tb_cal 20 92 = some 27 := by decide +kernel
theorem lc_20_38 : tb_cal 20 38 = some 28 := by decide +kernel
theorem lc_20_95 : tb_cal 20 95 = some 29 := by decide +kernel
theorem lc_8_99 : tb_cal 8 99 = some 31 := by decide +kernel
theorem lc_8_103 : tb_cal 8 103 = some 32 := by decide +kernel
theorem lc_8_106 : tb_cal 8 106 = some 33 := by decide +kernel
theorem lc_10_54 : tb_cal 10 54 = some 34 := by decide +kernel
theorem lc_10_58 : tb_cal 10 58 = some 35 := by decide +kernel
theorem lc_8_113 : tb_cal 8 113 = some 36 := by decide +kernel
theorem lc_8_116 : tb_cal 8 116 = some 37 := by decide +kernel
theorem lc_8_119 : tb_cal 8 119 = some 38 := by decide +kernel
theorem lc_10_64 : tb_cal 10 64 = some 39 := by decide +kernel
theorem lc_10_67 : tb_cal 10 67 = some 40 := by decide +kernel
theorem lc_8_122 : tb_cal 8 122 = some 41 := by decide +kernel
theorem lc_8_137 : tb_cal 8 137 = some 42 := by decide +kernel
theorem lc_8_143 : tb_cal 8 143 = some 43 := by decide +kernel
theorem lc_2_108 : tb_cal 2 108 = some 44 := by decide +kernel
theorem lc_2_111 : tb_cal 2 111 = some 45 := by decide +kernel
theorem lc_2_115 : tb_cal 2 115 = some 46 := by decide +kernel
theorem lc_8_146 : tb_cal 8 146 = some 47 := by decide +kernel
theorem lc_2_56 : tb_cal 2 56 = some 35 := by decide +kernel
theorem lc_2_60 : tb_cal 2 60 = some 48 := by decide +kernel
theorem lc_2_64 : tb_cal 2 64 = some 49 := by decide +kernel
theorem lc_2_67 : tb_cal 2 67 = some 40 := by decide +kernel
theorem lc_8_149 : tb_cal 8 149 = some 50 := by decide +kernel
theorem lc_2_71 : tb_cal 2 71 = some 51 := by decide +kernel
theorem lc_2_90 : tb_cal 2 90 = some 52 := by decide +kernel
theorem lc_5_20 : tb_cal 5 20 = some 53 := by decide +kernel
theorem lc_22_13 : tb_cal 22 13 = some 54 := by decide +kernel
theorem lc_22_304 : tb_cal 22 304 = some 28 := by decide +kernel
theorem lc_19_106 : tb_cal 19 106 = some 56 := by decide +kernel
theorem lc_19_54 : tb_cal 19 54 = some 61 := by decide +kernel
theorem lc_22_339 : tb_cal 22 339 = some 62 := by decide +kernel
theorem lc_22_343 : tb_cal 22 343 = some 63 := by decide +kernel
theorem lc_2_101 : tb_cal 2 101 = some 64 := by decide +kernel
theorem lc_2_94 : tb_cal 2 94 = some 65 := by decide +kernel
theorem lc_2_98 : tb_cal 2 98 = some 66 := by decide +kernel
theorem lc_2_75 : tb_cal 2 75 = some 67 := by decide +kernel
theorem lc_2_87 : tb_cal 2 87 = some 68 := by decide +kernel
theorem lc_8_159 : tb_cal 8 159 = some 69 := by decide +kernel
theorem lc_8_125 : tb_cal 8 125 = some 70 := by decide +kernel
theorem lc_8_165 : tb_cal 8 165 = some 71 := by decide +kernel
theorem lc_8_169 : tb_cal 8 169 = some 72 := by decide +kernel
theorem lc_8_222 : tb_cal 8 222 = some 73 := by decide +kernel
theorem lc_8_172 : tb_cal 8 172 = some 74 := by decide +kernel
theorem lc_8_175 : tb_cal 8 175 = some 75 := by decide +kernel
theorem lc_8_238 : tb_cal 8 238 = some 76 := by decide +kernel
theorem lc_5_36 : tb_cal 5 36 = some 77 := by decide +kernel
theorem lc_5_40 : tb_cal 5 40 = some 78 := by decide +kernel
theorem lc_5_52 : tb_cal 5 52 = some 79 := by decide +kernel
theorem lc_5_44 : tb_cal 5 44 = some 40 := by decide +kernel
theorem lc_8_184 : tb_cal 8 184 = some 80 := by decide +kernel
theorem lc_8_187 : tb_cal 8 187 = some 81 := by decide +kernel
theorem lc_8_206 : tb_cal 8 206 = some 82 := by decide +kernel
theorem lc_8_228 : tb_cal 8 228 = some 83 := by decide +kernel
theorem lc_11_113 : tb_cal 11 113 = some 84 := by decide +kernel
theorem lc_18_98 : tb_cal 18 98 = some 85 := by decide +kernel
theorem lc_18_102 : tb_cal 18 102 = some 86 := by decide +kernel
theorem lc_18_120 : tb_cal 18 120 = some 87 := by decide +kernel
theorem lc_18_124 : tb_cal 18 124 = some 88 := by decide +kernel
theorem lc_11_156 : tb_cal 11 156 = some 89 := by decide +kernel
theorem lc_18_136 : tb_cal 18 136 = some 90 := by decide +kernel
theorem lc_11_178 : tb_cal 11 178 = some 91 := by decide +kernel
theorem lc_9_55 : tb_cal 9 55 = some 92 := by decide +kernel
theorem lc_18_161 : tb_cal 18 161 = some 93 := by decide +kernel
theorem lc_11_138 : tb_cal 11 138 = some 94 := by decide +kernel
theorem lc_18_7 : tb_cal 18 7 = some 95 := by decide +kernel
theorem lc_11_87 : tb_cal 11 87 = some 96 := by decide +kernel
theorem lc_18_15 : tb_cal 18 15 = some 97 := by decide +kernel
theorem lc_11_95 : tb_cal 11 95 = some 98 := by decide +kernel
theorem lc_6_31 : tb_cal 6 31 = some 53 := by decide +kernel
theorem lc_18_19 : tb_cal 18 19 = some 99 := by decide +kernel
theorem lc_11_99 : tb_cal 11 99 = some 100 := by decide +kernel
theorem lc_11_106 : tb_cal 11 106 = some 101 := by decide +kernel
theorem lc_18_24 : tb_cal 18 24 = some 102 := by decide +kernel
theorem lc_18_28 : tb_cal 18 28 = some 103 := by decide +kernel
theorem lc_11_131 : tb_cal 11 131 = some 77 := by decide +kernel
theorem lc_18_31 : tb_cal 18 31 = some 104 := by decide +kernel
theorem lc_18_35 : tb_cal 18 35 = some 105 := by decide +kernel
theorem lc_11_142 : tb_cal 11 142 = some 106 := by decide +kernel
theorem lc_9_25 : tb_cal 9 25 = some 107 := by decide +kernel
theorem lc_11_152 : tb_cal 11 152 = some 108 := by decide +kernel
theorem lc_6_39 : tb_cal 6 39 = some 77 := by decide +kernel
theorem lc_6_62 : tb_cal 6 62 = some 109 := by decide +kernel
theorem lc_6_111 : tb_cal 6 111 = some 110 := by decide +kernel
theorem lc_6_114 : tb_cal 6 114 = some 111 := by decide +kernel
theorem lc_6_118 : tb_cal 6 118 = some 112 := by decide +kernel
theorem lc_6_107 : tb_cal 6 107 = some 113 := by decide +kernel
theorem lc_9_31 : tb_cal 9 31 = some 27 := by decide +kernel
theorem lc_9_37 : tb_cal 9 37 = some 28 := by decide +kernel
theorem lc_9_45 : tb_cal 9 45 = some 114 := by decide +kernel
theorem lc_6_70 : tb_cal 6 70 = some 115 := by decide +kernel
theorem lc_0_36 : tb_cal 0 36 = some 116 := by decide +kernel
theorem lc_0_45 : tb_cal 0 45 = some 53 := by decide +kernel
theorem lc_0_51 : tb_cal 0 51 = some 117 := by decide +kernel
theorem lc_0_60 : tb_cal 0 60 = some 118 := by decide +kernel
theorem lc_0_66 : tb_cal 0 66 = some 119 := by decide +kernel
theorem lc_0_69 : tb_cal 0 69 = some 120 := by decide +kernel
theorem lc_0_63 : tb_cal 0 63 = some 121 := by decide +kernel
theorem lc_0_55 : tb_cal 0 55 = some 28 := by decide +kernel
theorem lc_0_39 : tb_cal 0 39 = some 122 := by decide +kernel
theorem lc_0_76 : tb_cal 0 76 = some 123 := by decide +kernel
theorem lc_0_79 : tb_cal 0 79 = some 124 := by decide +kernel
theorem lc_0_83 : tb_cal 0 83 = some 125 := by decide +kernel
theorem lc_0_42 : tb_cal 0 42 = some 126 := by decide +kernel
theorem lc_0_93 : tb_cal 0 93 = some 127 := by decide +kernel
theorem lc_6_76 : tb_cal 6 76 = some 128 := by decide +kernel
theorem lc_6_80 : tb_cal 6 80 = some 129 := by decide +kernel
theorem lc_0_99 : tb_cal 0 99 = some 130 := by decide +kernel
theorem lc_0_102 : tb_cal 0 102 = some 131 := by decide +kernel
theorem lc_6_84 : tb_cal 6 84 = some 132 := by decide +kernel
theorem lc_4_32 : tb_cal 4 32 = some 133 := by decide +kernel
theorem lc_7_24 : tb_cal 7 24 = some 134 := by decide +kernel
theorem lc_7_28 : tb_cal 7 28 = some 135 := by decide +kernel
theorem lc_7_49 : tb_cal 7 49 = some 53 := by decide +kernel
theorem lc_7_55 : tb_cal 7 55 = some 136 := by decide +kernel
theorem lc_7_65 : tb_cal 7 65 = some 137 := by decide +kernel
theorem lc_7_44 : tb_cal 7 44 = some 20 := by decide +kernel
theorem lc_7_59 : tb_cal 7 59 = some 138 := by decide +kernel
theorem lc_7_32 : tb_cal 7 32 = some 139 := by decide +kernel
theorem lc_1_43 : tb_cal 1 43 = some 140 := by decide +kernel
theorem lc_7_38 : tb_cal 7 38 = some 141 := by decide +kernel
theorem lc_7_78 : tb_cal 7 78 = some 142 := by decide +kernel
theorem lc_7_85 : tb_cal 7 85 = some 143 := by decide +kernel
theorem lc_7_89 : tb_cal 7 89 = some 144 := by decide +kernel
theorem lc_7_93 : tb_cal 7 93 = some 28 := by decide +kernel
theorem lc_7_98 : tb_cal 7 98 = some 145 := by decide +kernel
theorem lc_7_101 : tb_cal 7 101 = some 146 := by decide +kernel
theorem lc_4_39 : tb_cal 4 39 = some 147 := by decide +kernel
theorem lc_1_73 : tb_cal 1 73 = some 148 := by decide +kernel
theorem lc_1_60 : tb_cal 1 60 = some 139 := by decide +kernel
theorem lc_1_77 : tb_cal 1 77 = some 149 := by decide +kernel
theorem lc_1_87 : tb_cal 1 87 = some 150 := by decide +kernel
theorem lc_1_93 : tb_cal 1 93 = some 151 := by decide +kernel
theorem lc_1_70 : tb_cal 1 70 = some 152 := by decide +kernel
theorem lc_1_80 : tb_cal 1 80 = some 153 := by decide +kernel
theorem lc_1_83 : tb_cal 1 83 = some 154 := by decide +kernel
theorem lc_1_96 : tb_cal 1 96 = some 53 := by decide +kernel
theorem lc_4_43 : tb_cal 4 43 = some 155 := by decide +kernel
theorem lc_4_77 : tb_cal 4 77 = some 142 := by decide +kernel
theorem lc_4_83 : tb_cal 4 83 = some 156 := by decide +kernel
theorem lc_4_87 : tb_cal 4 87 = some 157 := by decide +kernel
theorem lc_4_97 : tb_cal 4 97 = some 158 := by decide +kernel
theorem lc_4_102 : tb_cal 4 102 = some 27 := by decide +kernel
theorem lc_4_91 : tb_cal 4 91 = some 159 := by decide +kernel
theorem lc_4_106 : tb_cal 4 106 = some 160 := by decide +kernel
theorem lc_4_62 : tb_cal 4 62 = some 161 := by decide +kernel
theorem lc_4_113 : tb_cal 4 113 = some 162 := by decide +kernel
theorem lc_4_109 : tb_cal 4 109 = some 163 := by decide +kernel
theorem lc_4_116 : tb_cal 4 116 = some 164 := by decide +kernel
theorem lc_4_119 : tb_cal 4 119 = some 165 := by decide +kernel
theorem lc_4_94 : tb_cal 4 94 = some 166 := by decide +kernel
theorem lc_4_47 : tb_cal 4 47 = some 167 := by decide +kernel
theorem lc_4_122 : tb_cal 4 122 = some 168 := by decide +kernel
theorem lc_4_126 : tb_cal 4 126 = some 169 := by decide +kernel
theorem lc_4_130 : tb_cal 4 130 = some 170 := by decide +kernel
theorem lc_4_133 : tb_cal 4 133 = some 171 := by decide +kernel
theorem lc_4_137 : tb_cal 4 137 = some 172 := by decide +kernel
theorem lc_4_51 : tb_cal 4 51 = some 173 := by decide +kernel
theorem lc_4_59 : tb_cal 4 59 = some 174 := by decide +kernel
theorem lc_4_141 : tb_cal 4 141 = some 175 := by decide +kernel
theorem lc_4_67 : tb_cal 4 67 = some 176 := by decide +kernel
theorem lc_4_145 : tb_cal 4 145 = some 177 := by decide +kernel
theorem lc_4_148 : tb_cal 4 148 = some 178 := by decide +kernel
theorem lc_6_90 : tb_cal 6 90 = some 179 := by decide +kernel
theorem lc_6_130 : tb_cal 6 130 = some 171 := by decide +kernel
theorem lc_6_94 : tb_cal 6 94 = some 180 := by decide +kernel
theorem lc_6_98 : tb_cal 6 98 = some 181 := by decide +kernel
theorem lc_6_139 : tb_cal 6 139 = some 182 := by decide +kernel
theorem lc_6_101 : tb_cal 6 101 = some 183 := by decide +kernel
theorem lc_6_143 : tb_cal 6 143 = some 28 := by decide +kernel
theorem lc_6_148 : tb_cal 6 148 = some 27 := by decide +kernel
theorem lc_6_151 : tb_cal 6 151 = some 184 := by decide +kernel
theorem lc_6_154 : tb_cal 6 154 = some 185 := by decide +kernel
theorem lc_6_158 : tb_cal 6 158 = some 186 := by decide +kernel
theorem lc_6_162 : tb_cal 6 162 = some 158 := by decide +kernel
theorem lc_6_104 : tb_cal 6 104 = some 187 := by decide +kernel
theorem lc_18_39 : tb_cal 18 39 = some 188 := by decide +kernel
theorem lc_11_160 : tb_cal 11 160 = some 189 := by decide +kernel
theorem lc_9_59 : tb_cal 9 59 = some 190 := by decide +kernel
theorem lc_18_43 : tb_cal 18 43 = some 191 := by decide +kernel
theorem lc_11_169 : tb_cal 11 169 = some 192 := by decide +kernel
theorem lc_9_69 : tb_cal 9 69 = some 193 := by decide +kernel
theorem lc_11_172 : tb_cal 11 172 = some 194 := by decide +kernel
theorem lc_11_175 : tb_cal 11 175 = some 195 := by decide +kernel
theorem lc_9_63 : tb_cal 9 63 = some 196 := by decide +kernel
theorem lc_18_46 : tb_cal 18 46 = some 197 := by decide +kernel
theorem lc_11_182 : tb_cal 11 182 = some 198 := by decide +kernel
theorem lc_11_189 : tb_cal 11 189 = some 199 := by decide +kernel
theorem lc_9_73 : tb_cal 9 73 = some 200 := by decide +kernel
theorem lc_18_50 : tb_cal 18 50 = some 201 := by decide +kernel
theorem lc_11_193 : tb_cal 11 193 = some 202 := by decide +kernel
theorem lc_3_51 : tb_cal 3 51 = some 203 := by decide +kernel
theorem lc_3_79 : tb_cal 3 79 = some 200 := by decide +kernel
theorem lc_3_60 : tb_cal 3 60 = some 28 := by decide +kernel
theorem lc_3_69 : tb_cal 3 69 = some 204 := by decide +kernel
theorem lc_3_83 : tb_cal 3 83 = some 205 := by decide +kernel
theorem lc_3_87 : tb_cal 3 87 = some 206 := by decide +kernel
theorem lc_3_72 : tb_cal 3 72 = some 207 := by decide +kernel
theorem lc_3_90 : tb_cal 3 90 = some 208 := by decide +kernel
theorem lc_3_100 : tb_cal 3 100 = some 209 := by decide +kernel
theorem lc_3_104 : tb_cal 3 104 = some 210 := by decide +kernel
theorem lc_3_112 : tb_cal 3 112 = some 211 := by decide +kernel
theorem lc_3_115 : tb_cal 3 115 = some 212 := by decide +kernel
theorem lc_3_108 : tb_cal 3 108 = some 213 := by decide +kernel
theorem lc_3_76 : tb_cal 3 76 = some 214 := by decide +kernel
theorem lc_3_126 : tb_cal 3 126 = some 215 := by decide +kernel
theorem lc_3_129 : tb_cal 3 129 = some 216 := by decide +kernel
theorem lc_18_54 : tb_cal 18 54 = some 217 := by decide +kernel
theorem lc_11_197 : tb_cal 11 197 = some 216 := by decide +kernel
theorem lc_18_57 : tb_cal 18 57 = some 218 := by decide +kernel
theorem lc_11_200 : tb_cal 11 200 = some 219 := by decide +kernel
theorem lc_11_247 : tb_cal 11 247 = some 53 := by decide +kernel
theorem lc_11_203 : tb_cal 11 203 = some 155 := by decide +kernel
theorem lc_11_206 : tb_cal 11 206 = some 220 := by decide +kernel
theorem lc_3_137 : tb_cal 3 137 = some 221 := by decide +kernel
theorem lc_3_144 : tb_cal 3 144 = some 91 := by decide +kernel
theorem lc_3_148 : tb_cal 3 148 = some 196 := by decide +kernel
theorem lc_3_140 : tb_cal 3 140 = some 170 := by decide +kernel
theorem lc_11_210 : tb_cal 11 210 = some 222 := by decide +kernel
theorem lc_4_151 : tb_cal 4 151 = some 223 := by decide +kernel
theorem lc_4_167 : tb_cal 4 167 = some 224 := by decide +kernel
theorem lc_4_157 : tb_cal 4 157 = some 225 := by decide +kernel
theorem lc_1_99 : tb_cal 1 99 = some 226 := by decide +kernel
theorem lc_1_102 : tb_cal 1 102 = some 227 := by decide +kernel
theorem lc_1_105 : tb_cal 1 105 = some 228 := by decide +kernel
theorem lc_1_109 : tb_cal 1 109 = some 229 := by decide +kernel
theorem lc_1_123 : tb_cal 1 123 = some 230 := by decide +kernel
theorem lc_1_113 : tb_cal 1 113 = some 231 := by decide +kernel
theorem lc_1_116 : tb_cal 1 116 = some 232 := by decide +kernel
theorem lc_1_120 : tb_cal 1 120 = some 233 := by decide +kernel
theorem lc_4_164 : tb_cal 4 164 = some 234 := by decide +kernel
theorem lc_7_113 : tb_cal 7 113 = some 235 := by decide +kernel
theorem lc_7_116 : tb_cal 7 116 = some 236 := by decide +kernel
theorem lc_7_119 : tb_cal 7 119 = some 237 := by decide +kernel
theorem lc_7_123 : tb_cal 7 123 = some 238 := by decide +kernel
theorem lc_7_127 : tb_cal 7 127 = some 239 := by decide +kernel
theorem lc_19_495 : tb_cal 19 495 = some 240 := by decide +kernel
theorem lc_20_9 : tb_cal 20 9 = some 241 := by decide +kernel
theorem lc_18_60 : tb_cal 18 60 = some 242 := by decide +kernel
theorem lc_11_234 : tb_cal 11 234 = some 200 := by decide +kernel
theorem lc_11_237 : tb_cal 11 237 = some 243 := by decide +kernel
theorem lc_0_125 : tb_cal 0 125 = some 244 := by decide +kernel
theorem lc_0_145 : tb_cal 0 145 = some 245 := by decide +kernel
theorem lc_0_138 : tb_cal 0 138 = some 246 := by decide +kernel
theorem lc_0_135 : tb_cal 0 135 = some 247 := by decide +kernel
theorem lc_0_141 : tb_cal 0 141 = some 248 := by decide +kernel
theorem lc_0_149 : tb_cal 0 149 = some 249 := by decide +kernel
theorem lc_0_152 : tb_cal 0 152 = some 250 := by decide +kernel
theorem lc_0_129 : tb_cal 0 129 = some 251 := by decide +kernel
theorem lc_0_156 : tb_cal 0 156 = some 252 := by decide +kernel
theorem lc_0_160 : tb_cal 0 160 = some 253 := by decide +kernel
theorem lc_0_164 : tb_cal 0 164 = some 254 := by decide +kernel
theorem lc_18_64 : tb_cal 18 64 = some 255 := by decide +kernel
theorem lc_18_70 : tb_cal 18 70 = some 256 := by decide +kernel
theorem lc_17_15 : tb_cal 17 15 = some 257 := by decide +kernel
theorem lc_17_22 : tb_cal 17 22 = some 258 := by decide +kernel
theorem lc_17_29 : tb_cal 17 29 = some 259 := by decide +kernel
theorem lc_17_36 : tb_cal 17 36 = some 260 := by decide +kernel
theorem lc_17_43 : tb_cal 17 43 = some 261 := by decide +kernel
theorem lc_18_79 : tb_cal 18 79 = some 262 := by decide +kernel
theorem lc_18_78 : tb_cal 18 78 = some 263 := by decide +kernel
theorem lc_18_86 : tb_cal 18 86 = some 264 := by decide +kernel
theorem lc_18_90 : tb_cal 18 90 = some 265 := by decide +kernel
theorem lc_17_66 : tb_cal 17 66 = some 266 := by decide +kernel
theorem lc_12_121 : tb_cal 12 121 = some 267 := by decide +kernel
theorem lc_17_70 : tb_cal 17 70 = some 268 := by decide +kernel
theorem lc_18_93 : tb_cal 18 93 = some 269 := by decide +kernel
theorem lc_17_73 : tb_cal 17 73 = some 270 := by decide +kernel
theorem lc_18_97 : tb_cal 18 97 = some 271 := by decide +kernel
theorem lc_17_76 : tb_cal 17 76 = some 272 := by decide +kernel
theorem lc_17_79 : tb_cal 17 79 = some 273 := by decide +kernel
theorem lc_17_83 : tb_cal 17 83 = some 274 := by decide +kernel
theorem lc_15_258 : tb_cal 15 258 = some 275 := by decide +kernel
theorem lc_15_76 : tb_cal 15 76 = some 276 := by decide +kernel
theorem lc_15_95 : tb_cal 15 95 = some 277 := by decide +kernel
theorem lc_15_252 : tb_cal 15 252 = some 278 := by decide +kernel
theorem lc_15_88 : tb_cal 15 88 = some 279 := by decide +kernel
theorem lc_15_186 : tb_cal 15 186 = some 280 := by decide +kernel
theorem lc_15_189 : tb_cal 15 189 = some 281 := by decide +kernel
theorem lc_15_92 : tb_cal 15 92 = some 282 := by decide +kernel
theorem lc_15_80 : tb_cal 15 80 = some 283 := by decide +kernel
theorem lc_15_192 : tb_cal 15 192 = some 284 := by decide +kernel
theorem lc_15_98 : tb_cal 15 98 = some 285 := by decide +kernel
theorem lc_15_84 : tb_cal 15 84 = some 286 := by decide +kernel
theorem lc_15_195 : tb_cal 15 195 = some 287 := by decide +kernel
theorem lc_15_104 : tb_cal 15 104 = some 288 := by decide +kernel
theorem lc_15_198 : tb_cal 15 198 = some 289 := by decide +kernel
theorem lc_15_201 : tb_cal 15 201 = some 290 := by decide +kernel
theorem lc_15_116 : tb_cal 15 116 = some 291 := by decide +kernel
theorem lc_15_120 : tb_cal 15 120 = some 292 := by decide +kernel
theorem lc_15_129 : tb_cal 15 129 = some 293 := by decide +kernel
theorem lc_15_139 : tb_cal 15 139 = some 294 := by decide +kernel
theorem lc_15_158 : tb_cal 15 158 = some 295 := by decide +kernel
theorem lc_15_161 : tb_cal 15 161 = some 296 := by decide +kernel
theorem lc_15_145 : tb_cal 15 145 = some 297 := by decide +kernel
theorem lc_15_149 : tb_cal 15 149 = some 298 := by decide +kernel
theorem lc_15_152 : tb_cal 15 152 = some 299 := by decide +kernel
theorem lc_15_165 : tb_cal 15 165 = some 300 := by decide +kernel
theorem lc_15_169 : tb_cal 15 169 = some 301 := by decide +kernel
theorem lc_15_173 : tb_cal 15 173 = some 302 := by decide +kernel
theorem lc_15_176 : tb_cal 15 176 = some 303 := by decide +kernel
theorem lc_15_255 : tb_cal 15 255 = some 304 := by decide +kernel
theorem lc_15_228 : tb_cal 15 228 = some 305 := by decide +kernel
theorem lc_15_231 : tb_cal 15 231 = some 306 := by decide +kernel
theorem lc_15_234 : tb_cal 15 234 = some 307 := by decide +kernel
theorem lc_15_225 : tb_cal 15 225 = some 308 := by decide +kernel
theorem lc_15_237 : tb_cal 15 237 = some 309 := by decide +kernel
theorem lc_15_240 : tb_cal 15 240 = some 310 := by decide +kernel
theorem lc_15_243 : tb_cal 15 243 = some 311 := by decide +kernel
theorem lc_15_246 : tb_cal 15 246 = some 312 := by decide +kernel
theorem lc_18_101 : tb_cal 18 101 = some 313 := by decide +kernel
theorem lc_17_86 : tb_cal 17 86 = some 314 := by decide +kernel
theorem lc_18_105 : tb_cal 18 105 = some 315 := by decide +kernel
theorem lc_17_89 : tb_cal 17 89 = some 316 := by decide +kernel
theorem lc_18_109 : tb_cal 18 109 = some 317 := by decide +kernel
theorem lc_17_92 : tb_cal 17 92 = some 318 := by decide +kernel
theorem lc_17_96 : tb_cal 17 96 = some 319 := by decide +kernel
theorem lc_18_112 : tb_cal 18 112 = some 320 := by decide +kernel
theorem lc_17_97 : tb_cal 17 97 = some 321 := by decide +kernel
theorem lc_18_115 : tb_cal 18 115 = some 322 := by decide +kernel
theorem lc_17_100 : tb_cal 17 100 = some 323 := by decide +kernel
theorem lc_18_119 : tb_cal 18 119 = some 324 := by decide +kernel
theorem lc_17_196 : tb_cal 17 196 = some 325 := by decide +kernel
theorem lc_17_200 : tb_cal 17 200 = some 326 := by decide +kernel
theorem lc_17_146 : tb_cal 17 146 = some 327 := by decide +kernel
theorem lc_17_149 : tb_cal 17 149 = some 328 := by decide +kernel
theorem lc_17_150 : tb_cal 17 150 = some 329 := by decide +kernel
theorem lc_17_105 : tb_cal 17 105 = some 330 := by decide +kernel
theorem lc_17_108 : tb_cal 17 108 = some 331 := by decide +kernel
theorem lc_17_104 : tb_cal 17 104 = some 332 := by decide +kernel
theorem lc_17_153 : tb_cal 17 153 = some 333 := by decide +kernel
theorem lc_12_124 : tb_cal 12 124 = some 334 := by decide +kernel
theorem lc_12_130 : tb_cal 12 130 = some 335 := by decide +kernel
theorem lc_12_134 : tb_cal 12 134 = some 336 := by decide +kernel
theorem lc_12_110 : tb_cal 12 110 = some 337 := by decide +kernel
theorem lc_12_85 : tb_cal 12 85 = some 338 := by decide +kernel
theorem lc_12_88 : tb_cal 12 88 = some 339 := by decide +kernel
theorem lc_12_91 : tb_cal 12 91 = some 340 := by decide +kernel
theorem lc_12_71 : tb_cal 12 71 = some 341 := by decide +kernel
theorem lc_12_94 : tb_cal 12 94 = some 342 := by decide +kernel
theorem lc_12_81 : tb_cal 12 81 = some 343 := by decide +kernel
theorem lc_12_97 : tb_cal 12 97 = some 344 := by decide +kernel
theorem lc_12_101 : tb_cal 12 101 = some 345 := by decide +kernel
theorem lc_12_104 : tb_cal 12 104 = some 346 := by decide +kernel
theorem lc_12_107 : tb_cal 12 107 = some 347 := by decide +kernel
theorem lc_12_114 : tb_cal 12 114 = some 348 := by decide +kernel
theorem lc_12_40 : tb_cal 12 40 = some 349 := by decide +kernel
theorem lc_12_117 : tb_cal 12 117 = some 350 := by decide +kernel
theorem lc_17_157 : tb_cal 17 157 = some 351 := by decide +kernel
theorem lc_17_116 : tb_cal 17 116 = some 352 := by decide +kernel
theorem lc_17_117 : tb_cal 17 117 = some 353 := by decide +kernel
theorem lc_17_118 : tb_cal 17 118 = some 354 := by decide +kernel
theorem lc_13_191 : tb_cal 13 191 = some 355 := by decide +kernel
theorem lc_13_185 : tb_cal 13 185 = some 356 := by decide +kernel
theorem lc_13_172 : tb_cal 13 172 = some 357 := by decide +kernel
theorem lc_13_160 : tb_cal 13 160 = some 358 := by decide +kernel
theorem lc_13_164 : tb_cal 13 164 = some 359 := by decide +kernel
theorem lc_13_168 : tb_cal 13 168 = some 360 := by decide +kernel
theorem lc_13_176 : tb_cal 13 176 = some 361 := by decide +kernel
theorem lc_13_179 : tb_cal 13 179 = some 362 := by decide +kernel
theorem lc_13_182 : tb_cal 13 182 = some 363 := by decide +kernel
theorem lc_13_194 : tb_cal 13 194 = some 364 := by decide +kernel
theorem lc_13_198 : tb_cal 13 198 = some 365 := by decide +kernel
theorem lc_17_121 : tb_cal 17 121 = some 366 := by decide +kernel
theorem lc_13_205 : tb_cal 13 205 = some 367 := by decide +kernel
theorem lc_13_209 : tb_cal 13 209 = some 368 := by decide +kernel
theorem lc_17_124 : tb_cal 17 124 = some 369 := by decide +kernel
theorem lc_17_112 : tb_cal 17 112 = some 370 := by decide +kernel
theorem lc_17_161 : tb_cal 17 161 = some 371 := by decide +kernel
theorem lc_17_163 : tb_cal 17 163 = some 372 := by decide +kernel
theorem lc_17_131 : tb_cal 17 131 = some 373 := by decide +kernel
theorem lc_13_218 : tb_cal 13 218 = some 374 := by decide +kernel
theorem lc_13_226 : tb_cal 13 226 = some 375 := by decide +kernel
theorem lc_13_222 : tb_cal 13 222 = some 376 := by decide +kernel
theorem lc_13_230 : tb_cal 13 230 = some 377 := by decide +kernel
theorem lc_13_233 : tb_cal 13 233 = some 378 := by decide +kernel
theorem lc_17_166 : tb_cal 17 166 = some 379 := by decide +kernel
theorem lc_17_135 : tb_cal 17 135 = some 380 := by decide +kernel
theorem lc_17_136 : tb_cal 17 136 = some 381 := by decide +kernel
theorem lc_17_139 : tb_cal 17 139 = some 382 := by decide +kernel
theorem lc_16_220 : tb_cal 16 220 = some 383 := by decide +kernel
theorem lc_16_217 : tb_cal 16 217 = some 384 := by decide +kernel
theorem lc_16_134 : tb_cal 16 134 = some 385 := by decide +kernel
theorem lc_16_214 : tb_cal 16 214 = some 386 := by decide +kernel
theorem lc_16_118 : tb_cal 16 118 = some 387 := by decide +kernel
theorem lc_16_114 : tb_cal 16 114 = some 388 := by decide +kernel
theorem lc_16_105 : tb_cal 16 105 = some 389 := by decide +kernel
theorem lc_16_93 : tb_cal 16 93 = some 390 := by decide +kernel
theorem lc_16_109 : tb_cal 16 109 = some 391 := by decide +kernel
theorem lc_16_96 : tb_cal 16 96 = some 392 := by decide +kernel
theorem lc_16_99 : tb_cal 16 99 = some 393 := by decide +kernel
theorem lc_16_102 : tb_cal 16 102 = some 394 := by decide +kernel
theorem lc_16_141 : tb_cal 16 141 = some 395 := by decide +kernel
theorem lc_16_82 : tb_cal 16 82 = some 396 := by decide +kernel
theorem lc_16_86 : tb_cal 16 86 = some 397 := by decide +kernel
theorem lc_16_90 : tb_cal 16 90 = some 398 := by decide +kernel
theorem lc_16_223 : tb_cal 16 223 = some 399 := by decide +kernel
theorem lc_16_137 : tb_cal 16 137 = some 400 := by decide +kernel
theorem lc_16_130 : tb_cal 16 130 = some 401 := by decide +kernel
theorem lc_16_226 : tb_cal 16 226 = some 402 := by decide +kernel
theorem lc_16_153 : tb_cal 16 153 = some 403 := by decide +kernel
theorem lc_16_144 : tb_cal 16 144 = some 404 := by decide +kernel
theorem lc_16_147 : tb_cal 16 147 = some 405 := by decide +kernel
theorem lc_16_150 : tb_cal 16 150 = some 406 := by decide +kernel
theorem lc_16_157 : tb_cal 16 157 = some 407 := by decide +kernel
theorem lc_16_160 : tb_cal 16 160 = some 408 := by decide +kernel
theorem lc_16_232 : tb_cal 16 232 = some 409 := by decide +kernel
theorem lc_16_169 : tb_cal 16 169 = some 410 := by decide +kernel
theorem lc_16_185 : tb_cal 16 185 = some 411 := by decide +kernel
theorem lc_16_166 : tb_cal 16 166 = some 412 := by decide +kernel
theorem lc_16_192 : tb_cal 16 192 = some 413 := by decide +kernel
theorem lc_16_189 : tb_cal 16 189 = some 414 := by decide +kernel
theorem lc_16_196 : tb_cal 16 196 = some 415 := by decide +kernel
theorem lc_16_199 : tb_cal 16 199 = some 416 := by decide +kernel
theorem lc_16_175 : tb_cal 16 175 = some 417 := by decide +kernel
theorem lc_16_172 : tb_cal 16 172 = some 418 := by decide +kernel
theorem lc_16_178 : tb_cal 16 178 = some 419 := by decide +kernel
theorem lc_16_182 : tb_cal 16 182 = some 420 := by decide +kernel
theorem lc_16_235 : tb_cal 16 235 = some 421 := by decide +kernel
theorem lc_16_238 : tb_cal 16 238 = some 422 := by decide +kernel
theorem lc_16_202 : tb_cal 16 202 = some 423 := by decide +kernel
theorem lc_16_242 : tb_cal 16 242 = some 424 := by decide +kernel
theorem lc_16_210 : tb_cal 16 210 = some 425 := by decide +kernel
theorem lc_16_206 : tb_cal 16 206 = some 426 := by decide +kernel
theorem lc_17_143 : tb_cal 17 143 = some 427 := by decide +kernel
theorem lc_17_169 : tb_cal 17 169 = some 428 := by decide +kernel
theorem lc_17_172 : tb_cal 17 172 = some 429 := by decide +kernel
theorem lc_12_127 : tb_cal 12 127 = some 430 := by decide +kernel
theorem lc_17_175 : tb_cal 17 175 = some 431 := by decide +kernel
theorem lc_17_178 : tb_cal 17 178 = some 432 := by decide +kernel
theorem lc_17_181 : tb_cal 17 181 = some 433 := by decide +kernel
theorem lc_17_203 : tb_cal 17 203 = some 434 := by decide +kernel
theorem lc_17_184 : tb_cal 17 184 = some 435 := by decide +kernel
theorem lc_17_187 : tb_cal 17 187 = some 436 := by decide +kernel
theorem lc_14_44 : tb_cal 14 44 = some 437 := by decide +kernel
theorem lc_17_191 : tb_cal 17 191 = some 438 := by decide +kernel
theorem lc_17_209 : tb_cal 17 209 = some 439 := by decide +kernel
theorem lc_17_213 : tb_cal 17 213 = some 440 := by decide +kernel
theorem lc_17_206 : tb_cal 17 206 = some 441 := by decide +kernel
theorem lc_17_192 : tb_cal 17 192 = some 442 := by decide +kernel
theorem lc_14_47 : tb_cal 14 47 = some 443 := by decide +kernel
theorem lc_14_51 : tb_cal 14 51 = some 444 := by decide +kernel
theorem lc_18_123 : tb_cal 18 123 = some 445 := by decide +kernel
theorem lc_18_128 : tb_cal 18 128 = some 446 := by decide +kernel
theorem lc_18_132 : tb_cal 18 132 = some 447 := by decide +kernel
theorem lc_17_217 : tb_cal 17 217 = some 448 := by decide +kernel
theorem lc_12_138 : tb_cal 12 138 = some 449 := by decide +kernel
theorem lc_18_135 : tb_cal 18 135 = some 450 := by decide +kernel
theorem lc_18_139 : tb_cal 18 139 = some 451 := by decide +kernel
theorem lc_18_143 : tb_cal 18 143 = some 452 := by decide +kernel
theorem lc_17_219 : tb_cal 17 219 = some 453 := by decide +kernel
theorem lc_18_147 : tb_cal 18 147 = some 454 := by decide +kernel
theorem lc_17_223 : tb_cal 17 223 = some 455 := by decide +kernel
theorem lc_14_112 : tb_cal 14 112 = some 456 := by decide +kernel
theorem lc_14_115 : tb_cal 14 115 = some 457 := by decide +kernel
theorem lc_14_59 : tb_cal 14 59 = some 458 := by decide +kernel
theorem lc_14_71 : tb_cal 14 71 = some 459 := by decide +kernel
theorem lc_14_63 : tb_cal 14 63 = some 460 := by decide +kernel
theorem lc_14_55 : tb_cal 14 55 = some 461 := by decide +kernel
theorem lc_14_119 : tb_cal 14 119 = some 462 := by decide +kernel
theorem lc_14_67 : tb_cal 14 67 = some 463 := by decide +kernel
theorem lc_14_95 : tb_cal 14 95 = some 464 := by decide +kernel
theorem lc_14_91 : tb_cal 14 91 = some 465 := by decide +kernel
theorem lc_14_75 : tb_cal 14 75 = some 466 := by decide +kernel
theorem lc_14_88 : tb_cal 14 88 = some 467 := by decide +kernel
theorem lc_14_78 : tb_cal 14 78 = some 468 := by decide +kernel
theorem lc_14_98 : tb_cal 14 98 = some 469 := by decide +kernel
theorem lc_14_122 : tb_cal 14 122 = some 470 := by decide +kernel
theorem lc_14_105 : tb_cal 14 105 = some 471 := by decide +kernel
theorem lc_14_108 : tb_cal 14 108 = some 472 := by decide +kernel
theorem lc_14_102 : tb_cal 14 102 = some 473 := by decide +kernel
theorem lc_17_226 : tb_cal 17 226 = some 474 := by decide +kernel
theorem lc_18_150 : tb_cal 18 150 = some 475 := by decide +kernel
theorem lc_17_227 : tb_cal 17 227 = some 476 := by decide +kernel
theorem lc_18_153 : tb_cal 18 153 = some 477 := by decide +kernel
theorem lc_17_232 : tb_cal 17 232 = some 478 := by decide +kernel
theorem lc_17_235 : tb_cal 17 235 = some 479 := by decide +kernel
theorem lc_14_81 : tb_cal 14 81 = some 480 := by decide +kernel
theorem lc_17_238 : tb_cal 17 238 = some 481 := by decide +kernel
theorem lc_17_241 : tb_cal 17 241 = some 482 := by decide +kernel
theorem lc_16_306 : tb_cal 16 306 = some 483 := by decide +kernel
theorem lc_16_267 : tb_cal 16 267 = some 484 := by decide +kernel
theorem lc_16_270 : tb_cal 16 270 = some 485 := by decide +kernel
theorem lc_16_309 : tb_cal 16 309 = some 486 := by decide +kernel
theorem lc_16_273 : tb_cal 16 273 = some 487 := by decide +kernel
theorem lc_16_276 : tb_cal 16 276 = some 488 := by decide +kernel
theorem lc_16_257 : tb_cal 16 257 = some 489 := by decide +kernel
theorem lc_16_261 : tb_cal 16 261 = some 490 := by decide +kernel
theorem lc_16_253 : tb_cal 16 253 = some 491 := by decide +kernel
theorem lc_16_250 : tb_cal 16 250 = some 492 := by decide +kernel
theorem lc_16_264 : tb_cal 16 264 = some 493 := by decide +kernel
theorem lc_16_312 : tb_cal 16 312 = some 494 := by decide +kernel
theorem lc_16_291 : tb_cal 16 291 = some 495 := by decide +kernel
theorem lc_16_300 : tb_cal 16 300 = some 496 := by decide +kernel
theorem lc_16_294 : tb_cal 16 294 = some 497 := by decide +kernel
theorem lc_16_297 : tb_cal 16 297 = some 498 := by decide +kernel
theorem lc_17_242 : tb_cal 17 242 = some 499 := by decide +kernel
theorem lc_18_157 : tb_cal 18 157 = some 500 := by decide +kernel
theorem lc_17_251 : tb_cal 17 251 = some 501 := by decide +kernel
theorem lc_17_245 : tb_cal 17 245 = some 502 := by decide +kernel
theorem lc_17_248 : tb_cal 17 248 = some 503 := by decide +kernel
theorem lc_17_249 : tb_cal 17 249 = some 504 := by decide +kernel
theorem lc_17_255 : tb_cal 17 255 = some 505 := by decide +kernel
theorem lc_13_263 : tb_cal 13 263 = some 506 := by decide +kernel
theorem lc_13_256 : tb_cal 13 256 = some 507 := by decide +kernel
theorem lc_13_240 : tb_cal 13 240 = some 508 := by decide +kernel
theorem lc_13_243 : tb_cal 13 243 = some 509 := by decide +kernel
theorem lc_13_247 : tb_cal 13 247 = some 510 := by decide +kernel
theorem lc_13_253 : tb_cal 13 253 = some 511 := by decide +kernel
theorem lc_13_260 : tb_cal 13 260 = some 512 := by decide +kernel
theorem lc_13_236 : tb_cal 13 236 = some 513 := by decide +kernel
theorem lc_17_256 : tb_cal 17 256 = some 514 := by decide +kernel
theorem lc_18_160 : tb_cal 18 160 = some 515 := by decide +kernel
theorem lc_17_259 : tb_cal 17 259 = some 516 := by decide +kernel
theorem lc_17_260 : tb_cal 17 260 = some 517 := by decide +kernel
theorem lc_17_264 : tb_cal 17 264 = some 518 := by decide +kernel
theorem lc_18_165 : tb_cal 18 165 = some 519 := by decide +kernel
theorem lc_11_9 : tb_cal 11 9 = some 1 := by decide +kernel
theorem lc_8_43 : tb_cal 8 43 = some 4 := by decide +kernel
theorem lc_11_36 : tb_cal 11 36 = some 5 := by decide +kernel
theorem lc_11_43 : tb_cal 11 43 = some 6 := by decide +kernel
theorem lc_11_50 : tb_cal 11 50 = some 7 := by decide +kernel
theorem lc_4_11 : tb_cal 4 11 = some 8 := by decide +kernel
set_option maxRecDepth 100000 in
theorem lT_0 : tb_M[0]? = some J_H_init := rfl
set_option maxRecDepth 100000 in
theorem lT_1 : tb_M[1]? = some J_HTape_init := rfl
set_option maxRecDepth 100000 in
theorem lT_2 : tb_M[2]? = some J_HOrders_init := rfl
set_option maxRecDepth 100000 in
theorem lT_3 : tb_M[3]? = some J_HSetter_init := rfl
set_option maxRecDepth 100000 in
theorem lT_4 : tb_M[4]? = some J_HField_init := rfl
set_option maxRecDepth 100000 in
theorem lT_5 : tb_M[5]? = some J_HSheet_init := rfl
set_option maxRecDepth 100000 in
theorem lT_6 : tb_M[6]? = some J_HBars_init := rfl
set_option maxRecDepth 100000 in
theorem lT_7 : tb_M[7]? = some J_HGrid_init := rfl
set_option maxRecDepth 100000 in
theorem lT_8 : tb_M[8]? = some J_HSegments_init := rfl
set_option maxRecDepth 100000 in
theorem lT_9 : tb_M[9]? = some J_HBlocks_init := rfl
set_option maxRecDepth 100000 in
theorem lT_10 : tb_M[10]? = some J_HPen_init := rfl
set_option maxRecDepth 100000 in
theorem lT_11 : tb_M[11]? = some J_HFinder_init := rfl
set_option maxRecDepth 100000 in
theorem lT_12 : tb_M[12]? = some J_H_wipe := rfl
set_option maxRecDepth 100000 in
theorem lT_13 : tb_M[13]? = some J_H_read := rfl
set_option maxRecDepth 100000 in
theorem lT_14 : tb_M[14]? = some J_HSetter_followAll := rfl
set_option maxRecDepth 100000 in
theorem lT_15 : tb_M[15]? = some J_HTape_rewind := rfl
set_option maxRecDepth 100000 in
theorem lT_16 : tb_M[16]? = some J_HTape_passBlanks := rfl
set_option maxRecDepth 100000 in
theorem lT_17 : tb_M[17]? = some J_HTape_next := rfl
set_option maxRecDepth 100000 in
theorem lT_18 : tb_M[18]? = some J_HTape_pass := rfl
set_option maxRecDepth 100000 in
theorem lT_19 : tb_M[19]? = some J_HSetter_follow := rfl
set_option maxRecDepth 100000 in
theorem lT_20 : tb_M[20]? = some J_String_indexOf := rfl
set_option maxRecDepth 100000 in
theorem lT_21 : tb_M[21]? = some J_String_indexOf2 := rfl
set_option maxRecDepth 100000 in
theorem lT_22 : tb_M[22]? = some J_String_isLatin1 := rfl
set_option maxRecDepth 100000 in
theorem lT_23 : tb_M[23]? = some J_String_length := rfl
set_option maxRecDepth 100000 in
theorem lT_24 : tb_M[24]? = some J_String_coder := rfl
set_option maxRecDepth 100000 in
theorem lT_25 : tb_M[25]? = some J_StringLatin1_indexOf := rfl
set_option maxRecDepth 100000 in
theorem lT_26 : tb_M[26]? = some J_StringLatin1_canEncode := rfl
set_option maxRecDepth 100000 in
theorem lT_27 : tb_M[27]? = some J_Math_max := rfl
set_option maxRecDepth 100000 in
theorem lT_28 : tb_M[28]? = some J_Math_min := rfl
set_option maxRecDepth 100000 in
theorem lT_29 : tb_M[29]? = some J_StringLatin1_indexOfChar := rfl
set_option maxRecDepth 100000 in
theorem lT_30 : tb_M[30]? = some J_String_checkBoundsBeginEnd := rfl
set_option maxRecDepth 100000 in
theorem lT_31 : tb_M[31]? = some J_HSetter_canStand := rfl
set_option maxRecDepth 100000 in
theorem lT_32 : tb_M[32]? = some J_HSetter_leaveOut := rfl
set_option maxRecDepth 100000 in
theorem lT_33 : tb_M[33]? = some J_HTape_takeNumberAndComma := rfl
set_option maxRecDepth 100000 in
theorem lT_34 : tb_M[34]? = some J_HTape_takeNumber := rfl
set_option maxRecDepth 100000 in
theorem lT_35 : tb_M[35]? = some J_HTape_isDigit := rfl
set_option maxRecDepth 100000 in
theorem lT_36 : tb_M[36]? = some J_HTape_takeNumbers := rfl
set_option maxRecDepth 100000 in
theorem lT_37 : tb_M[37]? = some J_HSetter_inRanges := rfl
set_option maxRecDepth 100000 in
theorem lT_38 : tb_M[38]? = some J_HTape_takeData := rfl
set_option maxRecDepth 100000 in
theorem lT_39 : tb_M[39]? = some J_HTape_takeHexPair := rfl
set_option maxRecDepth 100000 in
theorem lT_40 : tb_M[40]? = some J_HTape_hexValue := rfl
set_option maxRecDepth 100000 in
theorem lT_41 : tb_M[41]? = some J_HSetter_laterFault := rfl
set_option maxRecDepth 100000 in
theorem lT_42 : tb_M[42]? = some J_HTape_endOfForm := rfl
set_option maxRecDepth 100000 in
theorem lT_43 : tb_M[43]? = some J_HField_cutLines := rfl
set_option maxRecDepth 100000 in
theorem lT_44 : tb_M[44]? = some J_HField_endOfPiece := rfl
set_option maxRecDepth 100000 in
theorem lT_45 : tb_M[45]? = some J_HField_lastBlank := rfl
set_option maxRecDepth 100000 in
theorem lT_46 : tb_M[46]? = some J_HField_addLine := rfl
set_option maxRecDepth 100000 in
theorem lT_47 : tb_M[47]? = some J_HField_hasItsData := rfl
set_option maxRecDepth 100000 in
theorem lT_48 : tb_M[48]? = some J_HField_allDigits := rfl
set_option maxRecDepth 100000 in
theorem lT_49 : tb_M[49]? = some J_HField_isPicture := rfl
set_option maxRecDepth 100000 in
theorem lT_50 : tb_M[50]? = some J_HField_build := rfl
set_option maxRecDepth 100000 in
theorem lT_51 : tb_M[51]? = some J_HField_layLines := rfl
set_option maxRecDepth 100000 in
theorem lT_52 : tb_M[52]? = some J_HOrders_lay := rfl
set_option maxRecDepth 100000 in
theorem lT_53 : tb_M[53]? = some J_Arrays_fill := rfl
set_option maxRecDepth 100000 in
theorem lT_54 : tb_M[54]? = some J_Arrays_rangeCheck := rfl
set_option maxRecDepth 100000 in
theorem lT_55 : tb_M[55]? = some J_Arrays_copyOf := rfl
set_option maxRecDepth 100000 in
theorem lT_56 : tb_M[56]? = some J_StringLatin1_inflate := rfl
set_option maxRecDepth 100000 in
theorem lT_57 : tb_M[57]? = some J_String_checkBoundsOffCount := rfl
set_option maxRecDepth 100000 in
theorem lT_58 : tb_M[58]? = some J_String_getBytes := rfl
set_option maxRecDepth 100000 in
theorem lT_59 : tb_M[59]? = some J_Integer_stringSize := rfl
set_option maxRecDepth 100000 in
theorem lT_60 : tb_M[60]? = some J_Integer_getChars := rfl
set_option maxRecDepth 100000 in
theorem lT_61 : tb_M[61]? = some J_Arrays_copyOfRange := rfl
set_option maxRecDepth 100000 in
theorem lT_62 : tb_M[62]? = some J_Arrays_copyOfRangeByte := rfl
set_option maxRecDepth 100000 in
theorem lT_63 : tb_M[63]? = some J_Arrays_checkLength := rfl
set_option maxRecDepth 100000 in
theorem lT_64 : tb_M[64]? = some J_HOrders_move := rfl
set_option maxRecDepth 100000 in
theorem lT_65 : tb_M[65]? = some J_HOrders_number := rfl
set_option maxRecDepth 100000 in
theorem lT_66 : tb_M[66]? = some J_HOrders_slice := rfl
set_option maxRecDepth 100000 in
theorem lT_67 : tb_M[67]? = some J_HField_layOthers := rfl
set_option maxRecDepth 100000 in
theorem lT_68 : tb_M[68]? = some J_HOrders_inRange := rfl
set_option maxRecDepth 100000 in
theorem lT_69 : tb_M[69]? = some J_HSetter_isTooMuch := rfl
set_option maxRecDepth 100000 in
theorem lT_70 : tb_M[70]? = some J_HSetter_perform := rfl
set_option maxRecDepth 100000 in
theorem lT_71 : tb_M[71]? = some J_HTape_keepForm := rfl
set_option maxRecDepth 100000 in
theorem lT_72 : tb_M[72]? = some J_HSetter_beginLabel := rfl
set_option maxRecDepth 100000 in
theorem lT_73 : tb_M[73]? = some J_HField_clear := rfl
set_option maxRecDepth 100000 in
theorem lT_74 : tb_M[74]? = some J_HTape_keepVariable := rfl
set_option maxRecDepth 100000 in
theorem lT_75 : tb_M[75]? = some J_HSetter_endLabel := rfl
set_option maxRecDepth 100000 in
theorem lT_76 : tb_M[76]? = some J_HOrders_addCopy := rfl
set_option maxRecDepth 100000 in
theorem lT_77 : tb_M[77]? = some J_HOrders_value := rfl
set_option maxRecDepth 100000 in
theorem lT_78 : tb_M[78]? = some J_HOrders_countOn := rfl
set_option maxRecDepth 100000 in
theorem lT_79 : tb_M[79]? = some J_Math_floorMod := rfl
set_option maxRecDepth 100000 in
theorem lT_80 : tb_M[80]? = some J_HTape_enterForm := rfl
set_option maxRecDepth 100000 in
theorem lT_81 : tb_M[81]? = some J_HSetter_performOfField := rfl
set_option maxRecDepth 100000 in
theorem lT_82 : tb_M[82]? = some J_HField_hold := rfl
set_option maxRecDepth 100000 in
theorem lT_83 : tb_M[83]? = some J_HField_become := rfl
set_option maxRecDepth 100000 in
theorem lT_84 : tb_M[84]? = some J_HSetter_finish := rfl
set_option maxRecDepth 100000 in
theorem lT_85 : tb_M[85]? = some J_H_fault := rfl
set_option maxRecDepth 100000 in
theorem lT_86 : tb_M[86]? = some J_H_place := rfl
set_option maxRecDepth 100000 in
theorem lT_87 : tb_M[87]? = some J_H_drawn := rfl
set_option maxRecDepth 100000 in
theorem lT_88 : tb_M[88]? = some J_H_spoil := rfl
set_option maxRecDepth 100000 in
theorem lT_89 : tb_M[89]? = some J_HSheet_flip := rfl
set_option maxRecDepth 100000 in
theorem lT_90 : tb_M[90]? = some J_H_dots := rfl
set_option maxRecDepth 100000 in
theorem lT_91 : tb_M[91]? = some J_HSheet_wordFrom := rfl
set_option maxRecDepth 100000 in
theorem lT_92 : tb_M[92]? = some J_HSheet_word := rfl
set_option maxRecDepth 100000 in
theorem lT_93 : tb_M[93]? = some J_H_got := rfl
set_option maxRecDepth 100000 in
theorem lT_94 : tb_M[94]? = some J_H_eightBytes := rfl
set_option maxRecDepth 100000 in
theorem lT_95 : tb_M[95]? = some J_H_feed := rfl
set_option maxRecDepth 100000 in
theorem lT_96 : tb_M[96]? = some J_HTape_append := rfl
set_option maxRecDepth 100000 in
theorem lT_97 : tb_M[97]? = some J_H_font := rfl
set_option maxRecDepth 100000 in
theorem lT_98 : tb_M[98]? = some J_HPen_newFont := rfl
set_option maxRecDepth 100000 in
theorem lT_99 : tb_M[99]? = some J_H_cell := rfl
set_option maxRecDepth 100000 in
theorem lT_100 : tb_M[100]? = some J_HPen_rowsOf := rfl
set_option maxRecDepth 100000 in
theorem lT_101 : tb_M[101]? = some J_HPen_newRow := rfl
set_option maxRecDepth 100000 in
theorem lT_102 : tb_M[102]? = some J_H_label := rfl
set_option maxRecDepth 100000 in
theorem lT_103 : tb_M[103]? = some J_H_order := rfl
set_option maxRecDepth 100000 in
theorem lT_104 : tb_M[104]? = some J_H_data := rfl
set_option maxRecDepth 100000 in
theorem lT_105 : tb_M[105]? = some J_H_print := rfl
set_option maxRecDepth 100000 in
theorem lT_106 : tb_M[106]? = some J_HSheet_renew := rfl
set_option maxRecDepth 100000 in
theorem lT_107 : tb_M[107]? = some J_Arrays_fill2 := rfl
set_option maxRecDepth 100000 in
theorem lT_108 : tb_M[108]? = some J_HPen_follow := rfl
set_option maxRecDepth 100000 in
theorem lT_109 : tb_M[109]? = some J_HPen_drawText := rfl
set_option maxRecDepth 100000 in
theorem lT_110 : tb_M[110]? = some J_HOrders_byteAt := rfl
set_option maxRecDepth 100000 in
theorem lT_111 : tb_M[111]? = some J_HPen_drawCellRow := rfl
set_option maxRecDepth 100000 in
theorem lT_112 : tb_M[112]? = some J_HPen_strike := rfl
set_option maxRecDepth 100000 in
theorem lT_113 : tb_M[113]? = some J_HSheet_box := rfl
set_option maxRecDepth 100000 in
theorem lT_114 : tb_M[114]? = some J_HSheet_strikeColumn := rfl
set_option maxRecDepth 100000 in
theorem lT_115 : tb_M[115]? = some J_HBars_layText := rfl
set_option maxRecDepth 100000 in
theorem lT_116 : tb_M[116]? = some J_HBars_countFewest := rfl
set_option maxRecDepth 100000 in
theorem lT_117 : tb_M[117]? = some J_HBars_fewestBySign := rfl
set_option maxRecDepth 100000 in
theorem lT_118 : tb_M[118]? = some J_HBars_straight := rfl
set_option maxRecDepth 100000 in
theorem lT_119 : tb_M[119]? = some J_HBars_symbolFor := rfl
set_option maxRecDepth 100000 in
theorem lT_120 : tb_M[120]? = some J_HBars_signsEach := rfl
set_option maxRecDepth 100000 in
theorem lT_121 : tb_M[121]? = some J_HBars_shifted := rfl
set_option maxRecDepth 100000 in
theorem lT_122 : tb_M[122]? = some J_HBars_chooseSymbols := rfl
set_option maxRecDepth 100000 in
theorem lT_123 : tb_M[123]? = some J_HBars_leastSymbol := rfl
set_option maxRecDepth 100000 in
theorem lT_124 : tb_M[124]? = some J_HBars_addSymbol := rfl
set_option maxRecDepth 100000 in
theorem lT_125 : tb_M[125]? = some J_HBars_checkSymbol := rfl
set_option maxRecDepth 100000 in
theorem lT_126 : tb_M[126]? = some J_HBars_layWidths := rfl
set_option maxRecDepth 100000 in
theorem lT_127 : tb_M[127]? = some J_HBars_addWidths := rfl
set_option maxRecDepth 100000 in
theorem lT_128 : tb_M[128]? = some J_HPen_drawBars := rfl
set_option maxRecDepth 100000 in
theorem lT_129 : tb_M[129]? = some J_HBars_layFigures := rfl
set_option maxRecDepth 100000 in
theorem lT_130 : tb_M[130]? = some J_Math_floorMod2 := rfl
set_option maxRecDepth 100000 in
theorem lT_131 : tb_M[131]? = some J_HBars_checkFigure := rfl
set_option maxRecDepth 100000 in
theorem lT_132 : tb_M[132]? = some J_HGrid_make := rfl
set_option maxRecDepth 100000 in
theorem lT_133 : tb_M[133]? = some J_HSegments_pack := rfl
set_option maxRecDepth 100000 in
theorem lT_134 : tb_M[134]? = some J_HSegments_groupOf := rfl
set_option maxRecDepth 100000 in
theorem lT_135 : tb_M[135]? = some J_HSegments_plan := rfl
set_option maxRecDepth 100000 in
theorem lT_136 : tb_M[136]? = some J_HSegments_leastMode := rfl
set_option maxRecDepth 100000 in
theorem lT_137 : tb_M[137]? = some J_HSegments_isOf := rfl
set_option maxRecDepth 100000 in
theorem lT_138 : tb_M[138]? = some J_HSegments_bitsBy := rfl
set_option maxRecDepth 100000 in
theorem lT_139 : tb_M[139]? = some J_HBlocks_holds := rfl
set_option maxRecDepth 100000 in
theorem lT_140 : tb_M[140]? = some J_HBlocks_codewordsOf := rfl
set_option maxRecDepth 100000 in
theorem lT_141 : tb_M[141]? = some J_HSegments_write := rfl
set_option maxRecDepth 100000 in
theorem lT_142 : tb_M[142]? = some J_Arrays_fill3 := rfl
set_option maxRecDepth 100000 in
theorem lT_143 : tb_M[143]? = some J_HSegments_put := rfl
set_option maxRecDepth 100000 in
theorem lT_144 : tb_M[144]? = some J_HSegments_writeBytes := rfl
set_option maxRecDepth 100000 in
theorem lT_145 : tb_M[145]? = some J_HSegments_base := rfl
set_option maxRecDepth 100000 in
theorem lT_146 : tb_M[146]? = some J_HSegments_partBits := rfl
set_option maxRecDepth 100000 in
theorem lT_147 : tb_M[147]? = some J_HBlocks_spread := rfl
set_option maxRecDepth 100000 in
theorem lT_148 : tb_M[148]? = some J_HBlocks_begin := rfl
set_option maxRecDepth 100000 in
theorem lT_149 : tb_M[149]? = some J_HBlocks_makeGenerator := rfl
set_option maxRecDepth 100000 in
theorem lT_150 : tb_M[150]? = some J_Arrays_fill4 := rfl
set_option maxRecDepth 100000 in
theorem lT_151 : tb_M[151]? = some J_HBlocks_times := rfl
set_option maxRecDepth 100000 in
theorem lT_152 : tb_M[152]? = some J_HBlocks_sizeOf := rfl
set_option maxRecDepth 100000 in
theorem lT_153 : tb_M[153]? = some J_HBlocks_placeOf := rfl
set_option maxRecDepth 100000 in
theorem lT_154 : tb_M[154]? = some J_HBlocks_divide := rfl
set_option maxRecDepth 100000 in
theorem lT_155 : tb_M[155]? = some J_HGrid_begin := rfl
set_option maxRecDepth 100000 in
theorem lT_156 : tb_M[156]? = some J_HGrid_fix := rfl
set_option maxRecDepth 100000 in
theorem lT_157 : tb_M[157]? = some J_HGrid_fixSquares := rfl
set_option maxRecDepth 100000 in
theorem lT_158 : tb_M[158]? = some J_Math_abs := rfl
set_option maxRecDepth 100000 in
theorem lT_159 : tb_M[159]? = some J_HGrid_fixSmallSquares := rfl
set_option maxRecDepth 100000 in
theorem lT_160 : tb_M[160]? = some J_HGrid_smallPlace := rfl
set_option maxRecDepth 100000 in
theorem lT_161 : tb_M[161]? = some J_HGrid_fixForm := rfl
set_option maxRecDepth 100000 in
theorem lT_162 : tb_M[162]? = some J_HGrid_formWord := rfl
set_option maxRecDepth 100000 in
theorem lT_163 : tb_M[163]? = some J_HGrid_rest := rfl
set_option maxRecDepth 100000 in
theorem lT_164 : tb_M[164]? = some J_HGrid_formX := rfl
set_option maxRecDepth 100000 in
theorem lT_165 : tb_M[165]? = some J_HGrid_formY := rfl
set_option maxRecDepth 100000 in
theorem lT_166 : tb_M[166]? = some J_HGrid_fixVersion := rfl
set_option maxRecDepth 100000 in
theorem lT_167 : tb_M[167]? = some J_HGrid_carry := rfl
set_option maxRecDepth 100000 in
theorem lT_168 : tb_M[168]? = some J_HGrid_carryBit := rfl
set_option maxRecDepth 100000 in
theorem lT_169 : tb_M[169]? = some J_HBlocks_bitAt := rfl
set_option maxRecDepth 100000 in
theorem lT_170 : tb_M[170]? = some J_HGrid_set := rfl
set_option maxRecDepth 100000 in
theorem lT_171 : tb_M[171]? = some J_HGrid_isDark := rfl
set_option maxRecDepth 100000 in
theorem lT_172 : tb_M[172]? = some J_HBlocks_putBit := rfl
set_option maxRecDepth 100000 in
theorem lT_173 : tb_M[173]? = some J_HGrid_bestMask := rfl
set_option maxRecDepth 100000 in
theorem lT_174 : tb_M[174]? = some J_HGrid_turnMask := rfl
set_option maxRecDepth 100000 in
theorem lT_175 : tb_M[175]? = some J_HGrid_isTurned := rfl
set_option maxRecDepth 100000 in
theorem lT_176 : tb_M[176]? = some J_HGrid_penalty := rfl
set_option maxRecDepth 100000 in
theorem lT_177 : tb_M[177]? = some J_HGrid_linePenalty := rfl
set_option maxRecDepth 100000 in
theorem lT_178 : tb_M[178]? = some J_HGrid_isSquareAlike := rfl
set_option maxRecDepth 100000 in
theorem lT_179 : tb_M[179]? = some J_HPen_drawSquare := rfl
set_option maxRecDepth 100000 in
theorem lT_180 : tb_M[180]? = some J_HPen_drawFrame := rfl
set_option maxRecDepth 100000 in
theorem lT_181 : tb_M[181]? = some J_HPen_drawEllipse := rfl
set_option maxRecDepth 100000 in
theorem lT_182 : tb_M[182]? = some J_HPen_indent := rfl
set_option maxRecDepth 100000 in
theorem lT_183 : tb_M[183]? = some J_HPen_drawLine := rfl
set_option maxRecDepth 100000 in
theorem lT_184 : tb_M[184]? = some J_Math_floorDiv := rfl
set_option maxRecDepth 100000 in
theorem lT_185 : tb_M[185]? = some J_HPen_isNear := rfl
set_option maxRecDepth 100000 in
theorem lT_186 : tb_M[186]? = some J_HPen_lastNear := rfl
set_option maxRecDepth 100000 in
theorem lT_187 : tb_M[187]? = some J_HPen_drawPicture := rfl
set_option maxRecDepth 100000 in
theorem lT_188 : tb_M[188]? = some J_H_turn := rfl
set_option maxRecDepth 100000 in
theorem lT_189 : tb_M[189]? = some J_HSheet_rotate := rfl
set_option maxRecDepth 100000 in
theorem lT_190 : tb_M[190]? = some J_HSheet_rotateWord := rfl
set_option maxRecDepth 100000 in
theorem lT_191 : tb_M[191]? = some J_H_told := rfl
set_option maxRecDepth 100000 in
theorem lT_192 : tb_M[192]? = some J_HSheet_edgeColumn := rfl
set_option maxRecDepth 100000 in
theorem lT_193 : tb_M[193]? = some J_HSheet_edgeBit := rfl
set_option maxRecDepth 100000 in
theorem lT_194 : tb_M[194]? = some J_HSheet_edgeRow := rfl
set_option maxRecDepth 100000 in
theorem lT_195 : tb_M[195]? = some J_HSheet_darkCount := rfl
set_option maxRecDepth 100000 in
theorem lT_196 : tb_M[196]? = some J_Long_bitCount := rfl
set_option maxRecDepth 100000 in
theorem lT_197 : tb_M[197]? = some J_H_run := rfl
set_option maxRecDepth 100000 in
theorem lT_198 : tb_M[198]? = some J_HSheet_has := rfl
set_option maxRecDepth 100000 in
theorem lT_199 : tb_M[199]? = some J_HSheet_takeRuns := rfl
set_option maxRecDepth 100000 in
theorem lT_200 : tb_M[200]? = some J_HSheet_isDark := rfl
set_option maxRecDepth 100000 in
theorem lT_201 : tb_M[201]? = some J_H_scan := rfl
set_option maxRecDepth 100000 in
theorem lT_202 : tb_M[202]? = some J_HFinder_search := rfl
set_option maxRecDepth 100000 in
theorem lT_203 : tb_M[203]? = some J_HFinder_addUp := rfl
set_option maxRecDepth 100000 in
theorem lT_204 : tb_M[204]? = some J_HFinder_lookAtCorners := rfl
set_option maxRecDepth 100000 in
theorem lT_205 : tb_M[205]? = some J_HFinder_darkIn := rfl
set_option maxRecDepth 100000 in
theorem lT_206 : tb_M[206]? = some J_HFinder_ringsWrong := rfl
set_option maxRecDepth 100000 in
theorem lT_207 : tb_M[207]? = some J_HFinder_lookAtAll := rfl
set_option maxRecDepth 100000 in
theorem lT_208 : tb_M[208]? = some J_HFinder_lookFrom := rfl
set_option maxRecDepth 100000 in
theorem lT_209 : tb_M[209]? = some J_HFinder_lookAt := rfl
set_option maxRecDepth 100000 in
theorem lT_210 : tb_M[210]? = some J_HFinder_wrongAt := rfl
set_option maxRecDepth 100000 in
theorem lT_211 : tb_M[211]? = some J_HFinder_loneX := rfl
set_option maxRecDepth 100000 in
theorem lT_212 : tb_M[212]? = some J_HFinder_loneY := rfl
set_option maxRecDepth 100000 in
theorem lT_213 : tb_M[213]? = some J_HFinder_add := rfl
set_option maxRecDepth 100000 in
theorem lT_214 : tb_M[214]? = some J_HFinder_keepLeaders := rfl
set_option maxRecDepth 100000 in
theorem lT_215 : tb_M[215]? = some J_HFinder_haveCommonDot := rfl
set_option maxRecDepth 100000 in
theorem lT_216 : tb_M[216]? = some J_HFinder_part := rfl
set_option maxRecDepth 100000 in
theorem lT_217 : tb_M[217]? = some J_H_found := rfl
set_option maxRecDepth 100000 in
theorem lT_218 : tb_M[218]? = some J_H_decode := rfl
set_option maxRecDepth 100000 in
theorem lT_219 : tb_M[219]? = some J_H_forgetReading := rfl
set_option maxRecDepth 100000 in
theorem lT_220 : tb_M[220]? = some J_HFinder_fill := rfl
set_option maxRecDepth 100000 in
theorem lT_221 : tb_M[221]? = some J_HFinder_darkNow := rfl
set_option maxRecDepth 100000 in
theorem lT_222 : tb_M[222]? = some J_HGrid_understand := rfl
set_option maxRecDepth 100000 in
theorem lT_223 : tb_M[223]? = some J_HGrid_formNumber := rfl
set_option maxRecDepth 100000 in
theorem lT_224 : tb_M[224]? = some J_Integer_bitCount := rfl
set_option maxRecDepth 100000 in
theorem lT_225 : tb_M[225]? = some J_HBlocks_mend := rfl
set_option maxRecDepth 100000 in
theorem lT_226 : tb_M[226]? = some J_HBlocks_kept := rfl
set_option maxRecDepth 100000 in
theorem lT_227 : tb_M[227]? = some J_HBlocks_mendWord := rfl
set_option maxRecDepth 100000 in
theorem lT_228 : tb_M[228]? = some J_HBlocks_isCodeword := rfl
set_option maxRecDepth 100000 in
theorem lT_229 : tb_M[229]? = some J_HBlocks_findLocator := rfl
set_option maxRecDepth 100000 in
theorem lT_230 : tb_M[230]? = some J_HBlocks_over := rfl
set_option maxRecDepth 100000 in
theorem lT_231 : tb_M[231]? = some J_HBlocks_makeEvaluator := rfl
set_option maxRecDepth 100000 in
theorem lT_232 : tb_M[232]? = some J_HBlocks_valueAt := rfl
set_option maxRecDepth 100000 in
theorem lT_233 : tb_M[233]? = some J_HBlocks_slopeAt := rfl
set_option maxRecDepth 100000 in
theorem lT_234 : tb_M[234]? = some J_HSegments_unpack := rfl
set_option maxRecDepth 100000 in
theorem lT_235 : tb_M[235]? = some J_HSegments_take := rfl
set_option maxRecDepth 100000 in
theorem lT_236 : tb_M[236]? = some J_HSegments_modeOf := rfl
set_option maxRecDepth 100000 in
theorem lT_237 : tb_M[237]? = some J_HSegments_unpackOne := rfl
set_option maxRecDepth 100000 in
theorem lT_238 : tb_M[238]? = some J_HSegments_unpackPart := rfl
set_option maxRecDepth 100000 in
theorem lT_239 : tb_M[239]? = some J_String_charAt := rfl
set_option maxRecDepth 100000 in
theorem lT_240 : tb_M[240]? = some J_StringLatin1_charAt := rfl
set_option maxRecDepth 100000 in
theorem lT_241 : tb_M[241]? = some J_String_checkIndex := rfl
set_option maxRecDepth 100000 in
theorem lT_242 : tb_M[242]? = some J_H_bars := rfl
set_option maxRecDepth 100000 in
theorem lT_243 : tb_M[243]? = some J_HBars_understand := rfl
set_option maxRecDepth 100000 in
theorem lT_244 : tb_M[244]? = some J_HBars_readFigures := rfl
set_option maxRecDepth 100000 in
theorem lT_245 : tb_M[245]? = some J_HBars_hasGuards := rfl
set_option maxRecDepth 100000 in
theorem lT_246 : tb_M[246]? = some J_HBars_sumOf := rfl
set_option maxRecDepth 100000 in
theorem lT_247 : tb_M[247]? = some J_HBars_widthAt := rfl
set_option maxRecDepth 100000 in
theorem lT_248 : tb_M[248]? = some J_HBars_nearest := rfl
set_option maxRecDepth 100000 in
theorem lT_249 : tb_M[249]? = some J_HBars_patternAt := rfl
set_option maxRecDepth 100000 in
theorem lT_250 : tb_M[250]? = some J_HBars_indexOf := rfl
set_option maxRecDepth 100000 in
theorem lT_251 : tb_M[251]? = some J_HBars_readSymbols := rfl
set_option maxRecDepth 100000 in
theorem lT_252 : tb_M[252]? = some J_HBars_tell := rfl
set_option maxRecDepth 100000 in
theorem lT_253 : tb_M[253]? = some J_HBars_write := rfl
set_option maxRecDepth 100000 in
theorem lT_254 : tb_M[254]? = some J_HBars_signOf := rfl
set_option maxRecDepth 100000 in
theorem lT_255 : tb_M[255]? = some J_H_reading := rfl
set_option maxRecDepth 100000 in
theorem lT_256 : tb_M[256]? = some J_M_init := rfl
set_option maxRecDepth 100000 in
theorem lT_257 : tb_M[257]? = some J_MScriptRows_init := rfl
set_option maxRecDepth 100000 in
theorem lT_258 : tb_M[258]? = some J_MDotRows_init := rfl
set_option maxRecDepth 100000 in
theorem lT_259 : tb_M[259]? = some J_MLineRows_init := rfl
set_option maxRecDepth 100000 in
theorem lT_260 : tb_M[260]? = some J_MSquareRows_init := rfl
set_option maxRecDepth 100000 in
theorem lT_261 : tb_M[261]? = some J_MPlaceRows_init := rfl
set_option maxRecDepth 100000 in
theorem lT_262 : tb_M[262]? = some J_M_thrown := rfl
set_option maxRecDepth 100000 in
theorem lT_263 : tb_M[263]? = some J_M_feed := rfl
set_option maxRecDepth 100000 in
theorem lT_264 : tb_M[264]? = some J_M_wipe := rfl
set_option maxRecDepth 100000 in
theorem lT_265 : tb_M[265]? = some J_M_font := rfl
set_option maxRecDepth 100000 in
theorem lT_266 : tb_M[266]? = some J_MDotRows_font := rfl
set_option maxRecDepth 100000 in
theorem lT_267 : tb_M[267]? = some J_MDotRows_isNot := rfl
set_option maxRecDepth 100000 in
theorem lT_268 : tb_M[268]? = some J_MDotRows_thrown := rfl
set_option maxRecDepth 100000 in
theorem lT_269 : tb_M[269]? = some J_M_cell := rfl
set_option maxRecDepth 100000 in
theorem lT_270 : tb_M[270]? = some J_MDotRows_cell := rfl
set_option maxRecDepth 100000 in
theorem lT_271 : tb_M[271]? = some J_M_read := rfl
set_option maxRecDepth 100000 in
theorem lT_272 : tb_M[272]? = some J_MScriptRows_wipe := rfl
set_option maxRecDepth 100000 in
theorem lT_273 : tb_M[273]? = some J_MScriptRows_write := rfl
set_option maxRecDepth 100000 in
theorem lT_274 : tb_M[274]? = some J_MScriptRows_read := rfl
set_option maxRecDepth 100000 in
theorem lT_275 : tb_M[275]? = some J_MScriptRows_step := rfl
set_option maxRecDepth 100000 in
theorem lT_276 : tb_M[276]? = some J_MScriptRows_peek := rfl
set_option maxRecDepth 100000 in
theorem lT_277 : tb_M[277]? = some J_MScriptRows_next := rfl
set_option maxRecDepth 100000 in
theorem lT_278 : tb_M[278]? = some J_MScriptRows_test := rfl
set_option maxRecDepth 100000 in
theorem lT_279 : tb_M[279]? = some J_MScriptRows_numbers := rfl
set_option maxRecDepth 100000 in
theorem lT_280 : tb_M[280]? = some J_MScriptRows_mayStand := rfl
set_option maxRecDepth 100000 in
theorem lT_281 : tb_M[281]? = some J_MScriptRows_takeNumbers := rfl
set_option maxRecDepth 100000 in
theorem lT_282 : tb_M[282]? = some J_MScriptRows_preset := rfl
set_option maxRecDepth 100000 in
theorem lT_283 : tb_M[283]? = some J_MScriptRows_isDigit := rfl
set_option maxRecDepth 100000 in
theorem lT_284 : tb_M[284]? = some J_MScriptRows_testRanges := rfl
set_option maxRecDepth 100000 in
theorem lT_285 : tb_M[285]? = some J_MScriptRows_range := rfl
set_option maxRecDepth 100000 in
theorem lT_286 : tb_M[286]? = some J_MScriptRows_picture := rfl
set_option maxRecDepth 100000 in
theorem lT_287 : tb_M[287]? = some J_MScriptRows_takeData := rfl
set_option maxRecDepth 100000 in
theorem lT_288 : tb_M[288]? = some J_MScriptRows_hex := rfl
set_option maxRecDepth 100000 in
theorem lT_289 : tb_M[289]? = some J_MScriptRows_formSize := rfl
set_option maxRecDepth 100000 in
theorem lT_290 : tb_M[290]? = some J_MScriptRows_tryField := rfl
set_option maxRecDepth 100000 in
theorem lT_291 : tb_M[291]? = some J_MScriptRows_fits := rfl
set_option maxRecDepth 100000 in
theorem lT_292 : tb_M[292]? = some J_MScriptRows_isPlaced := rfl
set_option maxRecDepth 100000 in
theorem lT_293 : tb_M[293]? = some J_MScriptRows_lay := rfl
set_option maxRecDepth 100000 in
theorem lT_294 : tb_M[294]? = some J_MScriptRows_makeField := rfl
set_option maxRecDepth 100000 in
theorem lT_295 : tb_M[295]? = some J_MScriptRows_takeCopy := rfl
set_option maxRecDepth 100000 in
theorem lT_296 : tb_M[296]? = some J_MScriptRows_give := rfl
set_option maxRecDepth 100000 in
theorem lT_297 : tb_M[297]? = some J_MScriptRows_stepX := rfl
set_option maxRecDepth 100000 in
theorem lT_298 : tb_M[298]? = some J_MScriptRows_stepY := rfl
set_option maxRecDepth 100000 in
theorem lT_299 : tb_M[299]? = some J_MScriptRows_isFar := rfl
set_option maxRecDepth 100000 in
theorem lT_300 : tb_M[300]? = some J_MScriptRows_have := rfl
set_option maxRecDepth 100000 in
theorem lT_301 : tb_M[301]? = some J_MScriptRows_makeLines := rfl
set_option maxRecDepth 100000 in
theorem lT_302 : tb_M[302]? = some J_MScriptRows_pieceEnd := rfl
set_option maxRecDepth 100000 in
theorem lT_303 : tb_M[303]? = some J_MScriptRows_giveLine := rfl
set_option maxRecDepth 100000 in
theorem lT_304 : tb_M[304]? = some J_MScriptRows_obey := rfl
set_option maxRecDepth 100000 in
theorem lT_305 : tb_M[305]? = some J_MScriptRows_storeForm := rfl
set_option maxRecDepth 100000 in
theorem lT_306 : tb_M[306]? = some J_MScriptRows_storeData := rfl
set_option maxRecDepth 100000 in
theorem lT_307 : tb_M[307]? = some J_MScriptRows_beginLabel := rfl
set_option maxRecDepth 100000 in
theorem lT_308 : tb_M[308]? = some J_MScriptRows_newField := rfl
set_option maxRecDepth 100000 in
theorem lT_309 : tb_M[309]? = some J_MScriptRows_endLabel := rfl
set_option maxRecDepth 100000 in
theorem lT_310 : tb_M[310]? = some J_MScriptRows_layForm := rfl
set_option maxRecDepth 100000 in
theorem lT_311 : tb_M[311]? = some J_MScriptRows_set := rfl
set_option maxRecDepth 100000 in
theorem lT_312 : tb_M[312]? = some J_MScriptRows_kindOf := rfl
set_option maxRecDepth 100000 in
theorem lT_313 : tb_M[313]? = some J_M_fault := rfl
set_option maxRecDepth 100000 in
theorem lT_314 : tb_M[314]? = some J_MScriptRows_fault := rfl
set_option maxRecDepth 100000 in
theorem lT_315 : tb_M[315]? = some J_M_place := rfl
set_option maxRecDepth 100000 in
theorem lT_316 : tb_M[316]? = some J_MScriptRows_place := rfl
set_option maxRecDepth 100000 in
theorem lT_317 : tb_M[317]? = some J_M_label := rfl
set_option maxRecDepth 100000 in
theorem lT_318 : tb_M[318]? = some J_MScriptRows_label := rfl
set_option maxRecDepth 100000 in
theorem lT_319 : tb_M[319]? = some J_MScriptRows_thrown := rfl
set_option maxRecDepth 100000 in
theorem lT_320 : tb_M[320]? = some J_M_order := rfl
set_option maxRecDepth 100000 in
theorem lT_321 : tb_M[321]? = some J_MScriptRows_order := rfl
set_option maxRecDepth 100000 in
theorem lT_322 : tb_M[322]? = some J_M_data := rfl
set_option maxRecDepth 100000 in
theorem lT_323 : tb_M[323]? = some J_MScriptRows_data := rfl
set_option maxRecDepth 100000 in
theorem lT_324 : tb_M[324]? = some J_M_print := rfl
set_option maxRecDepth 100000 in
theorem lT_325 : tb_M[325]? = some J_MDotRows_sheet := rfl
set_option maxRecDepth 100000 in
theorem lT_326 : tb_M[326]? = some J_M_draw := rfl
set_option maxRecDepth 100000 in
theorem lT_327 : tb_M[327]? = some J_MDotRows_way := rfl
set_option maxRecDepth 100000 in
theorem lT_328 : tb_M[328]? = some J_MDotRows_wipe := rfl
set_option maxRecDepth 100000 in
theorem lT_329 : tb_M[329]? = some J_M_draftData := rfl
set_option maxRecDepth 100000 in
theorem lT_330 : tb_M[330]? = some J_M_byteOf := rfl
set_option maxRecDepth 100000 in
theorem lT_331 : tb_M[331]? = some J_M_draft := rfl
set_option maxRecDepth 100000 in
theorem lT_332 : tb_M[332]? = some J_MDotRows_write := rfl
set_option maxRecDepth 100000 in
theorem lT_333 : tb_M[333]? = some J_MDotRows_text := rfl
set_option maxRecDepth 100000 in
theorem lT_334 : tb_M[334]? = some J_MDotRows_noPlace := rfl
set_option maxRecDepth 100000 in
theorem lT_335 : tb_M[335]? = some J_MDotRows_at := rfl
set_option maxRecDepth 100000 in
theorem lT_336 : tb_M[336]? = some J_MDotRows_draw := rfl
set_option maxRecDepth 100000 in
theorem lT_337 : tb_M[337]? = some J_MDotRows_belongs := rfl
set_option maxRecDepth 100000 in
theorem lT_338 : tb_M[338]? = some J_MDotRows_inFrame := rfl
set_option maxRecDepth 100000 in
theorem lT_339 : tb_M[339]? = some J_MDotRows_inLine := rfl
set_option maxRecDepth 100000 in
theorem lT_340 : tb_M[340]? = some J_MDotRows_inEllipse := rfl
set_option maxRecDepth 100000 in
theorem lT_341 : tb_M[341]? = some J_MDotRows_inOval := rfl
set_option maxRecDepth 100000 in
theorem lT_342 : tb_M[342]? = some J_MDotRows_inPicture := rfl
set_option maxRecDepth 100000 in
theorem lT_343 : tb_M[343]? = some J_MDotRows_bit := rfl
set_option maxRecDepth 100000 in
theorem lT_344 : tb_M[344]? = some J_MDotRows_along := rfl
set_option maxRecDepth 100000 in
theorem lT_345 : tb_M[345]? = some J_MDotRows_across := rfl
set_option maxRecDepth 100000 in
theorem lT_346 : tb_M[346]? = some J_MDotRows_inText := rfl
set_option maxRecDepth 100000 in
theorem lT_347 : tb_M[347]? = some J_MDotRows_inSquare := rfl
set_option maxRecDepth 100000 in
theorem lT_348 : tb_M[348]? = some J_MDotRows_isDark := rfl
set_option maxRecDepth 100000 in
theorem lT_349 : tb_M[349]? = some J_MDotRows_isOn := rfl
set_option maxRecDepth 100000 in
theorem lT_350 : tb_M[350]? = some J_MDotRows_other := rfl
set_option maxRecDepth 100000 in
theorem lT_351 : tb_M[351]? = some J_M_draftRow := rfl
set_option maxRecDepth 100000 in
theorem lT_352 : tb_M[352]? = some J_MLineRows_wipe := rfl
set_option maxRecDepth 100000 in
theorem lT_353 : tb_M[353]? = some J_MLineRows_write := rfl
set_option maxRecDepth 100000 in
theorem lT_354 : tb_M[354]? = some J_MLineRows_pack := rfl
set_option maxRecDepth 100000 in
theorem lT_355 : tb_M[355]? = some J_MLineRows_relax := rfl
set_option maxRecDepth 100000 in
theorem lT_356 : tb_M[356]? = some J_MLineRows_with := rfl
set_option maxRecDepth 100000 in
theorem lT_357 : tb_M[357]? = some J_MLineRows_tells := rfl
set_option maxRecDepth 100000 in
theorem lT_358 : tb_M[358]? = some J_MLineRows_at := rfl
set_option maxRecDepth 100000 in
theorem lT_359 : tb_M[359]? = some J_MLineRows_isPair := rfl
set_option maxRecDepth 100000 in
theorem lT_360 : tb_M[360]? = some J_MLineRows_signOf := rfl
set_option maxRecDepth 100000 in
theorem lT_361 : tb_M[361]? = some J_MLineRows_leastAt := rfl
set_option maxRecDepth 100000 in
theorem lT_362 : tb_M[362]? = some J_MLineRows_goes := rfl
set_option maxRecDepth 100000 in
theorem lT_363 : tb_M[363]? = some J_MLineRows_isOther := rfl
set_option maxRecDepth 100000 in
theorem lT_364 : tb_M[364]? = some J_MLineRows_add := rfl
set_option maxRecDepth 100000 in
theorem lT_365 : tb_M[365]? = some J_MLineRows_check := rfl
set_option maxRecDepth 100000 in
theorem lT_366 : tb_M[366]? = some J_MLineRows_bars := rfl
set_option maxRecDepth 100000 in
theorem lT_367 : tb_M[367]? = some J_MLineRows_noModule := rfl
set_option maxRecDepth 100000 in
theorem lT_368 : tb_M[368]? = some J_MLineRows_lay := rfl
set_option maxRecDepth 100000 in
theorem lT_369 : tb_M[369]? = some J_M_draftWidths := rfl
set_option maxRecDepth 100000 in
theorem lT_370 : tb_M[370]? = some J_MLineRows_width := rfl
set_option maxRecDepth 100000 in
theorem lT_371 : tb_M[371]? = some J_MDotRows_bars := rfl
set_option maxRecDepth 100000 in
theorem lT_372 : tb_M[372]? = some J_M_draftThirteen := rfl
set_option maxRecDepth 100000 in
theorem lT_373 : tb_M[373]? = some J_MLineRows_thirteen := rfl
set_option maxRecDepth 100000 in
theorem lT_374 : tb_M[374]? = some J_MLineRows_noTwelve := rfl
set_option maxRecDepth 100000 in
theorem lT_375 : tb_M[375]? = some J_MLineRows_checkFigure := rfl
set_option maxRecDepth 100000 in
theorem lT_376 : tb_M[376]? = some J_MLineRows_figure := rfl
set_option maxRecDepth 100000 in
theorem lT_377 : tb_M[377]? = some J_MLineRows_isTurned := rfl
set_option maxRecDepth 100000 in
theorem lT_378 : tb_M[378]? = some J_MLineRows_reversed := rfl
set_option maxRecDepth 100000 in
theorem lT_379 : tb_M[379]? = some J_M_draftSymbol := rfl
set_option maxRecDepth 100000 in
theorem lT_380 : tb_M[380]? = some J_MSquareRows_wipe := rfl
set_option maxRecDepth 100000 in
theorem lT_381 : tb_M[381]? = some J_MSquareRows_put := rfl
set_option maxRecDepth 100000 in
theorem lT_382 : tb_M[382]? = some J_MSquareRows_make := rfl
set_option maxRecDepth 100000 in
theorem lT_383 : tb_M[383]? = some J_MSquareRows_versionFor := rfl
set_option maxRecDepth 100000 in
theorem lT_384 : tb_M[384]? = some J_MSquareRows_fits := rfl
set_option maxRecDepth 100000 in
theorem lT_385 : tb_M[385]? = some J_MSquareRows_rank := rfl
set_option maxRecDepth 100000 in
theorem lT_386 : tb_M[386]? = some J_MSquareRows_divide := rfl
set_option maxRecDepth 100000 in
theorem lT_387 : tb_M[387]? = some J_MSquareRows_least := rfl
set_option maxRecDepth 100000 in
theorem lT_388 : tb_M[388]? = some J_MSquareRows_restOf := rfl
set_option maxRecDepth 100000 in
theorem lT_389 : tb_M[389]? = some J_MSquareRows_may := rfl
set_option maxRecDepth 100000 in
theorem lT_390 : tb_M[390]? = some J_MSquareRows_signOf := rfl
set_option maxRecDepth 100000 in
theorem lT_391 : tb_M[391]? = some J_MSquareRows_costOf := rfl
set_option maxRecDepth 100000 in
theorem lT_392 : tb_M[392]? = some J_MSquareRows_modeOf := rfl
set_option maxRecDepth 100000 in
theorem lT_393 : tb_M[393]? = some J_MSquareRows_lengthBits := rfl
set_option maxRecDepth 100000 in
theorem lT_394 : tb_M[394]? = some J_MSquareRows_stateAfter := rfl
set_option maxRecDepth 100000 in
theorem lT_395 : tb_M[395]? = some J_MSquareRows_holds := rfl
set_option maxRecDepth 100000 in
theorem lT_396 : tb_M[396]? = some J_MSquareRows_allCodewords := rfl
set_option maxRecDepth 100000 in
theorem lT_397 : tb_M[397]? = some J_MSquareRows_checkOf := rfl
set_option maxRecDepth 100000 in
theorem lT_398 : tb_M[398]? = some J_MSquareRows_blocksOf := rfl
set_option maxRecDepth 100000 in
theorem lT_399 : tb_M[399]? = some J_MSquareRows_layAll := rfl
set_option maxRecDepth 100000 in
theorem lT_400 : tb_M[400]? = some J_MSquareRows_laySegment := rfl
set_option maxRecDepth 100000 in
theorem lT_401 : tb_M[401]? = some J_MSquareRows_lay := rfl
set_option maxRecDepth 100000 in
theorem lT_402 : tb_M[402]? = some J_MSquareRows_check := rfl
set_option maxRecDepth 100000 in
theorem lT_403 : tb_M[403]? = some J_MSquareRows_generate := rfl
set_option maxRecDepth 100000 in
theorem lT_404 : tb_M[404]? = some J_MSquareRows_two := rfl
set_option maxRecDepth 100000 in
theorem lT_405 : tb_M[405]? = some J_MSquareRows_times := rfl
set_option maxRecDepth 100000 in
theorem lT_406 : tb_M[406]? = some J_MSquareRows_shareOf := rfl
set_option maxRecDepth 100000 in
theorem lT_407 : tb_M[407]? = some J_MSquareRows_startOf := rfl
set_option maxRecDepth 100000 in
theorem lT_408 : tb_M[408]? = some J_MSquareRows_placeOf := rfl
set_option maxRecDepth 100000 in
theorem lT_409 : tb_M[409]? = some J_MSquareRows_frame := rfl
set_option maxRecDepth 100000 in
theorem lT_410 : tb_M[410]? = some J_MSquareRows_sideOf := rfl
set_option maxRecDepth 100000 in
theorem lT_411 : tb_M[411]? = some J_MSquareRows_fix := rfl
set_option maxRecDepth 100000 in
theorem lT_412 : tb_M[412]? = some J_MSquareRows_moduleAt := rfl
set_option maxRecDepth 100000 in
theorem lT_413 : tb_M[413]? = some J_MSquareRows_square := rfl
set_option maxRecDepth 100000 in
theorem lT_414 : tb_M[414]? = some J_MSquareRows_greater := rfl
set_option maxRecDepth 100000 in
theorem lT_415 : tb_M[415]? = some J_MSquareRows_alignmentAt := rfl
set_option maxRecDepth 100000 in
theorem lT_416 : tb_M[416]? = some J_MSquareRows_layForm := rfl
set_option maxRecDepth 100000 in
theorem lT_417 : tb_M[417]? = some J_MSquareRows_formWord := rfl
set_option maxRecDepth 100000 in
theorem lT_418 : tb_M[418]? = some J_MSquareRows_shortWord := rfl
set_option maxRecDepth 100000 in
theorem lT_419 : tb_M[419]? = some J_MSquareRows_formX := rfl
set_option maxRecDepth 100000 in
theorem lT_420 : tb_M[420]? = some J_MSquareRows_formY := rfl
set_option maxRecDepth 100000 in
theorem lT_421 : tb_M[421]? = some J_MSquareRows_formNumber := rfl
set_option maxRecDepth 100000 in
theorem lT_422 : tb_M[422]? = some J_MSquareRows_goThrough := rfl
set_option maxRecDepth 100000 in
theorem lT_423 : tb_M[423]? = some J_MSquareRows_masked := rfl
set_option maxRecDepth 100000 in
theorem lT_424 : tb_M[424]? = some J_MSquareRows_penalty := rfl
set_option maxRecDepth 100000 in
theorem lT_425 : tb_M[425]? = some J_MSquareRows_lines := rfl
set_option maxRecDepth 100000 in
theorem lT_426 : tb_M[426]? = some J_MSquareRows_module := rfl
set_option maxRecDepth 100000 in
theorem lT_427 : tb_M[427]? = some J_MSquareRows_row := rfl
set_option maxRecDepth 100000 in
theorem lT_428 : tb_M[428]? = some J_MDotRows_square := rfl
set_option maxRecDepth 100000 in
theorem lT_429 : tb_M[429]? = some J_MDotRows_frame := rfl
set_option maxRecDepth 100000 in
theorem lT_430 : tb_M[430]? = some J_MDotRows_noRing := rfl
set_option maxRecDepth 100000 in
theorem lT_431 : tb_M[431]? = some J_MDotRows_ellipse := rfl
set_option maxRecDepth 100000 in
theorem lT_432 : tb_M[432]? = some J_MDotRows_line := rfl
set_option maxRecDepth 100000 in
theorem lT_433 : tb_M[433]? = some J_MDotRows_picture := rfl
set_option maxRecDepth 100000 in
theorem lT_434 : tb_M[434]? = some J_M_follow := rfl
set_option maxRecDepth 100000 in
theorem lT_435 : tb_M[435]? = some J_MDotRows_told := rfl
set_option maxRecDepth 100000 in
theorem lT_436 : tb_M[436]? = some J_MPlaceRows_sheet := rfl
set_option maxRecDepth 100000 in
theorem lT_437 : tb_M[437]? = some J_MPlaceRows_forget := rfl
set_option maxRecDepth 100000 in
theorem lT_438 : tb_M[438]? = some J_M_row := rfl
set_option maxRecDepth 100000 in
theorem lT_439 : tb_M[439]? = some J_M_isOn := rfl
set_option maxRecDepth 100000 in
theorem lT_440 : tb_M[440]? = some J_M_isDark := rfl
set_option maxRecDepth 100000 in
theorem lT_441 : tb_M[441]? = some J_MDotRows_dots := rfl
set_option maxRecDepth 100000 in
theorem lT_442 : tb_M[442]? = some J_MPlaceRows_turn := rfl
set_option maxRecDepth 100000 in
theorem lT_443 : tb_M[443]? = some J_MPlaceRows_isOn := rfl
set_option maxRecDepth 100000 in
theorem lT_444 : tb_M[444]? = some J_MPlaceRows_isDark := rfl
set_option maxRecDepth 100000 in
theorem lT_445 : tb_M[445]? = some J_M_drawn := rfl
set_option maxRecDepth 100000 in
theorem lT_446 : tb_M[446]? = some J_M_spoil := rfl
set_option maxRecDepth 100000 in
theorem lT_447 : tb_M[447]? = some J_M_turn := rfl
set_option maxRecDepth 100000 in
theorem lT_448 : tb_M[448]? = some J_MDotRows_turn := rfl
set_option maxRecDepth 100000 in
theorem lT_449 : tb_M[449]? = some J_MDotRows_turnOnce := rfl
set_option maxRecDepth 100000 in
theorem lT_450 : tb_M[450]? = some J_M_told := rfl
set_option maxRecDepth 100000 in
theorem lT_451 : tb_M[451]? = some J_M_dots := rfl
set_option maxRecDepth 100000 in
theorem lT_452 : tb_M[452]? = some J_M_run := rfl
set_option maxRecDepth 100000 in
theorem lT_453 : tb_M[453]? = some J_MDotRows_run := rfl
set_option maxRecDepth 100000 in
theorem lT_454 : tb_M[454]? = some J_M_scan := rfl
set_option maxRecDepth 100000 in
theorem lT_455 : tb_M[455]? = some J_MPlaceRows_find := rfl
set_option maxRecDepth 100000 in
theorem lT_456 : tb_M[456]? = some J_MPlaceRows_add := rfl
set_option maxRecDepth 100000 in
theorem lT_457 : tb_M[457]? = some J_MPlaceRows_list := rfl
set_option maxRecDepth 100000 in
theorem lT_458 : tb_M[458]? = some J_MPlaceRows_side := rfl
set_option maxRecDepth 100000 in
theorem lT_459 : tb_M[459]? = some J_MPlaceRows_module := rfl
set_option maxRecDepth 100000 in
theorem lT_460 : tb_M[460]? = some J_MPlaceRows_distance := rfl
set_option maxRecDepth 100000 in
theorem lT_461 : tb_M[461]? = some J_MPlaceRows_apart := rfl
set_option maxRecDepth 100000 in
theorem lT_462 : tb_M[462]? = some J_MPlaceRows_look := rfl
set_option maxRecDepth 100000 in
theorem lT_463 : tb_M[463]? = some J_MPlaceRows_isPlace := rfl
set_option maxRecDepth 100000 in
theorem lT_464 : tb_M[464]? = some J_MPlaceRows_wrong := rfl
set_option maxRecDepth 100000 in
theorem lT_465 : tb_M[465]? = some J_MPlaceRows_darkIn := rfl
set_option maxRecDepth 100000 in
theorem lT_466 : tb_M[466]? = some J_MPlaceRows_blockX := rfl
set_option maxRecDepth 100000 in
theorem lT_467 : tb_M[467]? = some J_MPlaceRows_least := rfl
set_option maxRecDepth 100000 in
theorem lT_468 : tb_M[468]? = some J_MPlaceRows_blockY := rfl
set_option maxRecDepth 100000 in
theorem lT_469 : tb_M[469]? = some J_MPlaceRows_enter := rfl
set_option maxRecDepth 100000 in
theorem lT_470 : tb_M[470]? = some J_MPlaceRows_order := rfl
set_option maxRecDepth 100000 in
theorem lT_471 : tb_M[471]? = some J_MPlaceRows_isBefore := rfl
set_option maxRecDepth 100000 in
theorem lT_472 : tb_M[472]? = some J_MPlaceRows_leads := rfl
set_option maxRecDepth 100000 in
theorem lT_473 : tb_M[473]? = some J_MPlaceRows_meet := rfl
set_option maxRecDepth 100000 in
theorem lT_474 : tb_M[474]? = some J_MPlaceRows_thrown := rfl
set_option maxRecDepth 100000 in
theorem lT_475 : tb_M[475]? = some J_M_found := rfl
set_option maxRecDepth 100000 in
theorem lT_476 : tb_M[476]? = some J_MPlaceRows_place := rfl
set_option maxRecDepth 100000 in
theorem lT_477 : tb_M[477]? = some J_M_decode := rfl
set_option maxRecDepth 100000 in
theorem lT_478 : tb_M[478]? = some J_MSquareRows_blank := rfl
set_option maxRecDepth 100000 in
theorem lT_479 : tb_M[479]? = some J_MPlaceRows_modules := rfl
set_option maxRecDepth 100000 in
theorem lT_480 : tb_M[480]? = some J_MPlaceRows_differ := rfl
set_option maxRecDepth 100000 in
theorem lT_481 : tb_M[481]? = some J_MSquareRows_spoil := rfl
set_option maxRecDepth 100000 in
theorem lT_482 : tb_M[482]? = some J_MSquareRows_read := rfl
set_option maxRecDepth 100000 in
theorem lT_483 : tb_M[483]? = some J_MSquareRows_formNumberRead := rfl
set_option maxRecDepth 100000 in
theorem lT_484 : tb_M[484]? = some J_MSquareRows_formBits := rfl
set_option maxRecDepth 100000 in
theorem lT_485 : tb_M[485]? = some J_MSquareRows_ones := rfl
set_option maxRecDepth 100000 in
theorem lT_486 : tb_M[486]? = some J_MSquareRows_allBlocks := rfl
set_option maxRecDepth 100000 in
theorem lT_487 : tb_M[487]? = some J_MSquareRows_spared := rfl
set_option maxRecDepth 100000 in
theorem lT_488 : tb_M[488]? = some J_MSquareRows_correct := rfl
set_option maxRecDepth 100000 in
theorem lT_489 : tb_M[489]? = some J_MSquareRows_isZero := rfl
set_option maxRecDepth 100000 in
theorem lT_490 : tb_M[490]? = some J_MSquareRows_finds := rfl
set_option maxRecDepth 100000 in
theorem lT_491 : tb_M[491]? = some J_MSquareRows_solves := rfl
set_option maxRecDepth 100000 in
theorem lT_492 : tb_M[492]? = some J_MSquareRows_inverse := rfl
set_option maxRecDepth 100000 in
theorem lT_493 : tb_M[493]? = some J_MSquareRows_mends := rfl
set_option maxRecDepth 100000 in
theorem lT_494 : tb_M[494]? = some J_MSquareRows_segments := rfl
set_option maxRecDepth 100000 in
theorem lT_495 : tb_M[495]? = some J_MSquareRows_next := rfl
set_option maxRecDepth 100000 in
theorem lT_496 : tb_M[496]? = some J_MSquareRows_group := rfl
set_option maxRecDepth 100000 in
theorem lT_497 : tb_M[497]? = some J_MSquareRows_byteOf := rfl
set_option maxRecDepth 100000 in
theorem lT_498 : tb_M[498]? = some J_MSquareRows_take := rfl
set_option maxRecDepth 100000 in
theorem lT_499 : tb_M[499]? = some J_MSquareRows_at := rfl
set_option maxRecDepth 100000 in
theorem lT_500 : tb_M[500]? = some J_M_bars := rfl
set_option maxRecDepth 100000 in
theorem lT_501 : tb_M[501]? = some J_M_strip := rfl
set_option maxRecDepth 100000 in
theorem lT_502 : tb_M[502]? = some J_MLineRows_clear := rfl
set_option maxRecDepth 100000 in
theorem lT_503 : tb_M[503]? = some J_MLineRows_put := rfl
set_option maxRecDepth 100000 in
theorem lT_504 : tb_M[504]? = some J_MLineRows_spoil := rfl
set_option maxRecDepth 100000 in
theorem lT_505 : tb_M[505]? = some J_MLineRows_read := rfl
set_option maxRecDepth 100000 in
theorem lT_506 : tb_M[506]? = some J_MLineRows_isSome := rfl
set_option maxRecDepth 100000 in
theorem lT_507 : tb_M[507]? = some J_MLineRows_isThirteen := rfl
set_option maxRecDepth 100000 in
theorem lT_508 : tb_M[508]? = some J_MLineRows_sumOf := rfl
set_option maxRecDepth 100000 in
theorem lT_509 : tb_M[509]? = some J_MLineRows_counts := rfl
set_option maxRecDepth 100000 in
theorem lT_510 : tb_M[510]? = some J_MLineRows_place := rfl
set_option maxRecDepth 100000 in
theorem lT_511 : tb_M[511]? = some J_MLineRows_tell := rfl
set_option maxRecDepth 100000 in
theorem lT_512 : tb_M[512]? = some J_MLineRows_isRow := rfl
set_option maxRecDepth 100000 in
theorem lT_513 : tb_M[513]? = some J_MLineRows_reverse := rfl
set_option maxRecDepth 100000 in
theorem lT_514 : tb_M[514]? = some J_MLineRows_sign := rfl
set_option maxRecDepth 100000 in
theorem lT_515 : tb_M[515]? = some J_M_reading := rfl
set_option maxRecDepth 100000 in
theorem lT_516 : tb_M[516]? = some J_MSquareRows_fault := rfl
set_option maxRecDepth 100000 in
theorem lT_517 : tb_M[517]? = some J_MLineRows_backwards := rfl
set_option maxRecDepth 100000 in
theorem lT_518 : tb_M[518]? = some J_MSquareRows_reading := rfl
set_option maxRecDepth 100000 in
theorem lT_519 : tb_M[519]? = some J_M_got := rfl
theorem ln_18_8 : tb_find tb_nl 18 8 = some 11 := by decide +kernel
theorem ln_11_7 : tb_find tb_nl 11 7 = some 10 := by decide +kernel
theorem ln_11_16 : tb_find tb_nl 11 16 = some 5 := by decide +kernel
theorem ln_11_25 : tb_find tb_nl 11 25 = some 8 := by decide +kernel
theorem ln_8_33 : tb_find tb_nl 8 33 = some 5 := by decide +kernel
theorem ln_8_35 : tb_find tb_nl 8 35 = some 2 := by decide +kernel
theorem ln_11_34 : tb_find tb_nl 11 34 = some 9 := by decide +kernel
theorem ln_11_41 : tb_find tb_nl 11 41 = some 0 := by decide +kernel
theorem ln_11_48 : tb_find tb_nl 11 48 = some 4 := by decide +kernel
theorem ln_4_9 : tb_find tb_nl 4 9 = some 7 := by decide +kernel
theorem ln_4_18 : tb_find tb_nl 4 18 = some 1 := by decide +kernel
theorem ln_11_55 : tb_find tb_nl 11 55 = some 6 := by decide +kernel
theorem ln_11_64 : tb_find tb_nl 11 64 = some 3 := by decide +kernel
theorem ln_18_68 : tb_find tb_nl 18 68 = some 17 := by decide +kernel
theorem ln_17_13 : tb_find tb_nl 17 13 = some 15 := by decide +kernel
theorem ln_17_20 : tb_find tb_nl 17 20 = some 12 := by decide +kernel
theorem ln_17_27 : tb_find tb_nl 17 27 = some 13 := by decide +kernel
theorem ln_17_34 : tb_find tb_nl 17 34 = some 16 := by decide +kernel
theorem ln_17_41 : tb_find tb_nl 17 41 = some 14 := by decide +kernel
theorem lk_6_15 : tb_find tb_cn 6 15 = some (.int 32768) := by decide +kernel
theorem lk_3_13 : tb_find tb_cn 3 13 = some (.int 263169) := by decide +kernel
theorem lk_3_18 : tb_find tb_cn 3 18 = some (.int 262144) := by decide +kernel
theorem lk_0_92 : tb_find tb_cn 0 92 = some (.int 100000) := by decide +kernel
theorem lk_0_97 : tb_find tb_cn 0 97 = some (.int 2331112) := by decide +kernel
theorem lk_0_98 : tb_find tb_cn 0 98 = some (.int 1000000) := by decide +kernel
theorem lk_4_66 : tb_find tb_cn 4 66 = some (.int 1073741824) := by decide +kernel
theorem lk_23_265 : tb_find tb_cn 23 265 = some (.int 1431655765) := by decide +kernel
theorem lk_23_266 : tb_find tb_cn 23 266 = some (.int 858993459) := by decide +kernel
theorem lk_23_267 : tb_find tb_cn 23 267 = some (.int 252645135) := by decide +kernel
theorem lk_12_16 : tb_find tb_cn 12 16 = some (.int 32768) := by decide +kernel
theorem lk_13_7 : tb_find tb_cn 13 7 = some (.int 212222) := by decide +kernel
theorem lk_13_8 : tb_find tb_cn 13 8 = some (.int 222122) := by decide +kernel
theorem lk_13_9 : tb_find tb_cn 13 9 = some (.int 222221) := by decide +kernel
theorem lk_13_10 : tb_find tb_cn 13 10 = some (.int 121223) := by decide +kernel
theorem lk_13_11 : tb_find tb_cn 13 11 = some (.int 121322) := by decide +kernel
theorem lk_13_12 : tb_find tb_cn 13 12 = some (.int 131222) := by decide +kernel
theorem lk_13_13 : tb_find tb_cn 13 13 = some (.int 122213) := by decide +kernel
theorem lk_13_14 : tb_find tb_cn 13 14 = some (.int 122312) := by decide +kernel
theorem lk_13_15 : tb_find tb_cn 13 15 = some (.int 132212) := by decide +kernel
theorem lk_13_16 : tb_find tb_cn 13 16 = some (.int 221213) := by decide +kernel
theorem lk_13_17 : tb_find tb_cn 13 17 = some (.int 221312) := by decide +kernel
theorem lk_13_18 : tb_find tb_cn 13 18 = some (.int 231212) := by decide +kernel
theorem lk_13_19 : tb_find tb_cn 13 19 = some (.int 112232) := by decide +kernel
theorem lk_13_20 : tb_find tb_cn 13 20 = some (.int 122132) := by decide +kernel
theorem lk_13_21 : tb_find tb_cn 13 21 = some (.int 122231) := by decide +kernel
theorem lk_13_22 : tb_find tb_cn 13 22 = some (.int 113222) := by decide +kernel
theorem lk_13_23 : tb_find tb_cn 13 23 = some (.int 123122) := by decide +kernel
theorem lk_13_24 : tb_find tb_cn 13 24 = some (.int 123221) := by decide +kernel
theorem lk_13_25 : tb_find tb_cn 13 25 = some (.int 223211) := by decide +kernel
theorem lk_13_26 : tb_find tb_cn 13 26 = some (.int 221132) := by decide +kernel
theorem lk_13_27 : tb_find tb_cn 13 27 = some (.int 221231) := by decide +kernel
theorem lk_13_28 : tb_find tb_cn 13 28 = some (.int 213212) := by decide +kernel
theorem lk_13_29 : tb_find tb_cn 13 29 = some (.int 223112) := by decide +kernel
theorem lk_13_30 : tb_find tb_cn 13 30 = some (.int 312131) := by decide +kernel
theorem lk_13_31 : tb_find tb_cn 13 31 = some (.int 311222) := by decide +kernel
theorem lk_13_32 : tb_find tb_cn 13 32 = some (.int 321122) := by decide +kernel
theorem lk_13_33 : tb_find tb_cn 13 33 = some (.int 321221) := by decide +kernel
theorem lk_13_34 : tb_find tb_cn 13 34 = some (.int 312212) := by decide +kernel
theorem lk_13_35 : tb_find tb_cn 13 35 = some (.int 322112) := by decide +kernel
theorem lk_13_36 : tb_find tb_cn 13 36 = some (.int 322211) := by decide +kernel
theorem lk_13_37 : tb_find tb_cn 13 37 = some (.int 212123) := by decide +kernel
theorem lk_13_38 : tb_find tb_cn 13 38 = some (.int 212321) := by decide +kernel
theorem lk_13_39 : tb_find tb_cn 13 39 = some (.int 232121) := by decide +kernel
theorem lk_13_40 : tb_find tb_cn 13 40 = some (.int 111323) := by decide +kernel
theorem lk_13_41 : tb_find tb_cn 13 41 = some (.int 131123) := by decide +kernel
theorem lk_13_42 : tb_find tb_cn 13 42 = some (.int 131321) := by decide +kernel
theorem lk_13_43 : tb_find tb_cn 13 43 = some (.int 112313) := by decide +kernel
theorem lk_13_44 : tb_find tb_cn 13 44 = some (.int 132113) := by decide +kernel
theorem lk_13_45 : tb_find tb_cn 13 45 = some (.int 132311) := by decide +kernel
theorem lk_13_46 : tb_find tb_cn 13 46 = some (.int 211313) := by decide +kernel
theorem lk_13_47 : tb_find tb_cn 13 47 = some (.int 231113) := by decide +kernel
theorem lk_13_48 : tb_find tb_cn 13 48 = some (.int 231311) := by decide +kernel
theorem lk_13_49 : tb_find tb_cn 13 49 = some (.int 112133) := by decide +kernel
theorem lk_13_50 : tb_find tb_cn 13 50 = some (.int 112331) := by decide +kernel
theorem lk_13_51 : tb_find tb_cn 13 51 = some (.int 132131) := by decide +kernel
theorem lk_13_52 : tb_find tb_cn 13 52 = some (.int 113123) := by decide +kernel
theorem lk_13_53 : tb_find tb_cn 13 53 = some (.int 113321) := by decide +kernel
theorem lk_13_54 : tb_find tb_cn 13 54 = some (.int 133121) := by decide +kernel
theorem lk_13_55 : tb_find tb_cn 13 55 = some (.int 313121) := by decide +kernel
theorem lk_13_56 : tb_find tb_cn 13 56 = some (.int 211331) := by decide +kernel
theorem lk_13_57 : tb_find tb_cn 13 57 = some (.int 231131) := by decide +kernel
theorem lk_13_58 : tb_find tb_cn 13 58 = some (.int 213113) := by decide +kernel
theorem lk_13_59 : tb_find tb_cn 13 59 = some (.int 213311) := by decide +kernel
theorem lk_13_60 : tb_find tb_cn 13 60 = some (.int 213131) := by decide +kernel
theorem lk_13_61 : tb_find tb_cn 13 61 = some (.int 311123) := by decide +kernel
theorem lk_13_62 : tb_find tb_cn 13 62 = some (.int 311321) := by decide +kernel
theorem lk_13_63 : tb_find tb_cn 13 63 = some (.int 331121) := by decide +kernel
theorem lk_13_64 : tb_find tb_cn 13 64 = some (.int 312113) := by decide +kernel
theorem lk_13_65 : tb_find tb_cn 13 65 = some (.int 312311) := by decide +kernel
theorem lk_13_66 : tb_find tb_cn 13 66 = some (.int 332111) := by decide +kernel
theorem lk_13_67 : tb_find tb_cn 13 67 = some (.int 314111) := by decide +kernel
theorem lk_13_68 : tb_find tb_cn 13 68 = some (.int 221411) := by decide +kernel
theorem lk_13_69 : tb_find tb_cn 13 69 = some (.int 431111) := by decide +kernel
theorem lk_13_70 : tb_find tb_cn 13 70 = some (.int 111224) := by decide +kernel
theorem lk_13_71 : tb_find tb_cn 13 71 = some (.int 111422) := by decide +kernel
theorem lk_13_72 : tb_find tb_cn 13 72 = some (.int 121124) := by decide +kernel
theorem lk_13_73 : tb_find tb_cn 13 73 = some (.int 121421) := by decide +kernel
theorem lk_13_74 : tb_find tb_cn 13 74 = some (.int 141122) := by decide +kernel
theorem lk_13_75 : tb_find tb_cn 13 75 = some (.int 141221) := by decide +kernel
theorem lk_13_76 : tb_find tb_cn 13 76 = some (.int 112214) := by decide +kernel
theorem lk_13_77 : tb_find tb_cn 13 77 = some (.int 112412) := by decide +kernel
theorem lk_13_78 : tb_find tb_cn 13 78 = some (.int 122114) := by decide +kernel
theorem lk_13_79 : tb_find tb_cn 13 79 = some (.int 122411) := by decide +kernel
theorem lk_13_80 : tb_find tb_cn 13 80 = some (.int 142112) := by decide +kernel
theorem lk_13_81 : tb_find tb_cn 13 81 = some (.int 142211) := by decide +kernel
theorem lk_13_82 : tb_find tb_cn 13 82 = some (.int 241211) := by decide +kernel
theorem lk_13_83 : tb_find tb_cn 13 83 = some (.int 221114) := by decide +kernel
theorem lk_13_84 : tb_find tb_cn 13 84 = some (.int 413111) := by decide +kernel
theorem lk_13_85 : tb_find tb_cn 13 85 = some (.int 241112) := by decide +kernel
theorem lk_13_86 : tb_find tb_cn 13 86 = some (.int 134111) := by decide +kernel
theorem lk_13_87 : tb_find tb_cn 13 87 = some (.int 111242) := by decide +kernel
theorem lk_13_88 : tb_find tb_cn 13 88 = some (.int 121142) := by decide +kernel
theorem lk_13_89 : tb_find tb_cn 13 89 = some (.int 121241) := by decide +kernel
theorem lk_13_90 : tb_find tb_cn 13 90 = some (.int 114212) := by decide +kernel
theorem lk_13_91 : tb_find tb_cn 13 91 = some (.int 124112) := by decide +kernel
theorem lk_13_92 : tb_find tb_cn 13 92 = some (.int 124211) := by decide +kernel
theorem lk_13_93 : tb_find tb_cn 13 93 = some (.int 411212) := by decide +kernel
theorem lk_13_94 : tb_find tb_cn 13 94 = some (.int 421112) := by decide +kernel
theorem lk_13_95 : tb_find tb_cn 13 95 = some (.int 421211) := by decide +kernel
theorem lk_13_96 : tb_find tb_cn 13 96 = some (.int 212141) := by decide +kernel
theorem lk_13_97 : tb_find tb_cn 13 97 = some (.int 214121) := by decide +kernel
theorem lk_13_98 : tb_find tb_cn 13 98 = some (.int 412121) := by decide +kernel
theorem lk_13_99 : tb_find tb_cn 13 99 = some (.int 111143) := by decide +kernel
theorem lk_13_100 : tb_find tb_cn 13 100 = some (.int 111341) := by decide +kernel
theorem lk_13_101 : tb_find tb_cn 13 101 = some (.int 131141) := by decide +kernel
theorem lk_13_102 : tb_find tb_cn 13 102 = some (.int 114113) := by decide +kernel
theorem lk_13_103 : tb_find tb_cn 13 103 = some (.int 114311) := by decide +kernel
theorem lk_13_104 : tb_find tb_cn 13 104 = some (.int 411113) := by decide +kernel
theorem lk_13_105 : tb_find tb_cn 13 105 = some (.int 411311) := by decide +kernel
theorem lk_13_106 : tb_find tb_cn 13 106 = some (.int 113141) := by decide +kernel
theorem lk_13_107 : tb_find tb_cn 13 107 = some (.int 114131) := by decide +kernel
theorem lk_13_108 : tb_find tb_cn 13 108 = some (.int 311141) := by decide +kernel
theorem lk_13_109 : tb_find tb_cn 13 109 = some (.int 411131) := by decide +kernel
theorem lk_13_110 : tb_find tb_cn 13 110 = some (.int 211412) := by decide +kernel
theorem lk_13_111 : tb_find tb_cn 13 111 = some (.int 211214) := by decide +kernel
theorem lk_13_112 : tb_find tb_cn 13 112 = some (.int 211232) := by decide +kernel
theorem lk_14_16 : tb_find tb_cn 14 16 = some (.int 262144) := by decide +kernel
theorem lk_14_21 : tb_find tb_cn 14 21 = some (.int 263169) := by decide +kernel
theorem lk_13_213 : tb_find tb_cn 13 213 = some (.int 2331112) := by decide +kernel
theorem lk_16_113 : tb_find tb_cn 16 113 = some (.int 1000000) := by decide +kernel
theorem lk_5_50 : tb_find tb_cn 5 50 = some (.long 10) := by decide +kernel
theorem lk_5_58 : tb_find tb_cn 5 58 = some (.long 48) := by decide +kernel
theorem lk_9_53 : tb_find tb_cn 9 53 = some (.long 63) := by decide +kernel
theorem lk_9_43 : tb_find tb_cn 9 43 = some (.long (-1)) := by decide +kernel
theorem lk_6_137 : tb_find tb_cn 6 137 = some (.long 2) := by decide +kernel
theorem lk_6_166 : tb_find tb_cn 6 166 = some (.long 4) := by decide +kernel
theorem lk_24_314 : tb_find tb_cn 24 314 = some (.long 6148914691236517205) := by decide +kernel
theorem lk_24_316 : tb_find tb_cn 24 316 = some (.long 3689348814741910323) := by decide +kernel
theorem lk_24_318 : tb_find tb_cn 24 318 = some (.long 1085102592571150095) := by decide +kernel
theorem lk_3_118 : tb_find tb_cn 3 118 = some (.long 512) := by decide +kernel
theorem lk_3_120 : tb_find tb_cn 3 120 = some (.long 32) := by decide +kernel
theorem lk_3_122 : tb_find tb_cn 3 122 = some (.long 64) := by decide +kernel
theorem lk_3_124 : tb_find tb_cn 3 124 = some (.long 4) := by decide +kernel
theorem lk_17_64 : tb_find tb_cn 17 64 = some (.long 255) := by decide +kernel
theorem lk_15_71 : tb_find tb_cn 15 71 = some (.long 255) := by decide +kernel
theorem lk_15_143 : tb_find tb_cn 15 143 = some (.long 10) := by decide +kernel
theorem lk_12_50 : tb_find tb_cn 12 50 = some (.long 255) := by decide +kernel
theorem lk_12_67 : tb_find tb_cn 12 67 = some (.long 4) := by decide +kernel
theorem lk_12_69 : tb_find tb_cn 12 69 = some (.long 2) := by decide +kernel
theorem lk_13_153 : tb_find tb_cn 13 153 = some (.long 255) := by decide +kernel
theorem lk_13_155 : tb_find tb_cn 13 155 = some (.long 128) := by decide +kernel
theorem lk_17_127 : tb_find tb_cn 17 127 = some (.long 10) := by decide +kernel
theorem lk_17_129 : tb_find tb_cn 17 129 = some (.long 48) := by decide +kernel
theorem lk_13_214 : tb_find tb_cn 13 214 = some (.long 999999999999) := by decide +kernel
theorem lk_13_216 : tb_find tb_cn 13 216 = some (.long 10) := by decide +kernel
theorem lk_16_80 : tb_find tb_cn 16 80 = some (.long 255) := by decide +kernel
theorem lk_18_71 : tb_find tb_cn 18 71 = some (.long 4294967295) := by decide +kernel

theorem fl_0_11 : mfl 0 11 = some (0, 0) := by decide +kernel
theorem fl_0_20 : mfl 0 20 = some (0, 2) := by decide +kernel
theorem fl_0_29 : mfl 0 29 = some (0, 3) := by decide +kernel
theorem fl_0_38 : mfl 0 38 = some (0, 4) := by decide +kernel
theorem fl_0_45 : mfl 0 45 = some (0, 5) := by decide +kernel
theorem fl_0_54 : mfl 0 54 = some (0, 6) := by decide +kernel
theorem fl_0_63 : mfl 0 63 = some (0, 7) := by decide +kernel
theorem fl_0_72 : mfl 0 72 = some (0, 8) := by decide +kernel
theorem fl_0_84 : mfl 0 84 = some (0, 9) := by decide +kernel
theorem fl_0_93 : mfl 0 93 = some (0, 10) := by decide +kernel
theorem fl_0_102 : mfl 0 102 = some (0, 11) := by decide +kernel
theorem fl_0_106 : mfl 0 106 = some (0, 14) := by decide +kernel
theorem fl_0_110 : mfl 0 110 = some (0, 1) := by decide +kernel
theorem fl_0_139 : mfl 0 139 = some (2, 5) := by decide +kernel
theorem fl_0_145 : mfl 0 145 = some (1, 4) := by decide +kernel
theorem fl_0_148 : mfl 0 148 = some (1, 0) := by decide +kernel
theorem fl_0_155 : mfl 0 155 = some (2, 4) := by decide +kernel
theorem fl_0_158 : mfl 0 158 = some (0, 13) := by decide +kernel
theorem fl_0_161 : mfl 0 161 = some (0, 12) := by decide +kernel
theorem fl_0_169 : mfl 0 169 = some (2, 6) := by decide +kernel
theorem fl_0_178 : mfl 0 178 = some (1, 14) := by decide +kernel
theorem fl_0_187 : mfl 0 187 = some (8, 7) := by decide +kernel
theorem fl_0_191 : mfl 0 191 = some (10, 6) := by decide +kernel
theorem fl_0_192 : mfl 0 192 = some (6, 2) := by decide +kernel
theorem fl_0_199 : mfl 0 199 = some (6, 7) := by decide +kernel
theorem fl_0_202 : mfl 0 202 = some (6, 5) := by decide +kernel
theorem fl_0_205 : mfl 0 205 = some (6, 4) := by decide +kernel
theorem fl_0_212 : mfl 0 212 = some (6, 6) := by decide +kernel
theorem fl_0_215 : mfl 0 215 = some (6, 11) := by decide +kernel
theorem fl_0_218 : mfl 0 218 = some (6, 12) := by decide +kernel
theorem fl_0_221 : mfl 0 221 = some (6, 16) := by decide +kernel
theorem fl_0_224 : mfl 0 224 = some (3, 13) := by decide +kernel
theorem fl_0_228 : mfl 0 228 = some (3, 14) := by decide +kernel
theorem fl_0_231 : mfl 0 231 = some (10, 7) := by decide +kernel
theorem fl_0_238 : mfl 0 238 = some (11, 4) := by decide +kernel
theorem fl_0_241 : mfl 0 241 = some (11, 3) := by decide +kernel
theorem fl_1_9 : mfl 1 9 = some (1, 0) := by decide +kernel
theorem fl_1_22 : mfl 1 22 = some (1, 1) := by decide +kernel
theorem fl_1_26 : mfl 1 26 = some (1, 7) := by decide +kernel
theorem fl_1_29 : mfl 1 29 = some (1, 8) := by decide +kernel
theorem fl_1_32 : mfl 1 32 = some (1, 9) := by decide +kernel
theorem fl_1_35 : mfl 1 35 = some (1, 10) := by decide +kernel
theorem fl_1_41 : mfl 1 41 = some (1, 11) := by decide +kernel
theorem fl_1_92 : mfl 1 92 = some (1, 14) := by decide +kernel
theorem fl_1_95 : mfl 1 95 = some (1, 12) := by decide +kernel
theorem fl_1_98 : mfl 1 98 = some (1, 3) := by decide +kernel
theorem fl_1_101 : mfl 1 101 = some (1, 2) := by decide +kernel
theorem fl_1_121 : mfl 1 121 = some (1, 4) := by decide +kernel
theorem fl_1_123 : mfl 1 123 = some (1, 6) := by decide +kernel
theorem fl_1_127 : mfl 1 127 = some (1, 5) := by decide +kernel
theorem fl_1_153 : mfl 1 153 = some (1, 13) := by decide +kernel
theorem fl_1_159 : mfl 1 159 = some (1, 16) := by decide +kernel
theorem fl_2_9 : mfl 2 9 = some (2, 0) := by decide +kernel
theorem fl_2_21 : mfl 2 21 = some (2, 1) := by decide +kernel
theorem fl_2_22 : mfl 2 22 = some (1, 2) := by decide +kernel
theorem fl_2_26 : mfl 2 26 = some (2, 2) := by decide +kernel
theorem fl_2_29 : mfl 2 29 = some (1, 3) := by decide +kernel
theorem fl_2_32 : mfl 2 32 = some (2, 3) := by decide +kernel
theorem fl_2_35 : mfl 2 35 = some (2, 4) := by decide +kernel
theorem fl_2_38 : mfl 2 38 = some (2, 5) := by decide +kernel
theorem fl_2_41 : mfl 2 41 = some (2, 6) := by decide +kernel
theorem fl_2_102 : mfl 2 102 = some (2, 8) := by decide +kernel
theorem fl_2_105 : mfl 2 105 = some (2, 9) := by decide +kernel
theorem fl_2_116 : mfl 2 116 = some (2, 10) := by decide +kernel
theorem fl_2_119 : mfl 2 119 = some (2, 11) := by decide +kernel
theorem fl_2_130 : mfl 2 130 = some (2, 7) := by decide +kernel
theorem fl_3_9 : mfl 3 9 = some (3, 0) := by decide +kernel
theorem fl_3_15 : mfl 3 15 = some (3, 1) := by decide +kernel
theorem fl_3_19 : mfl 3 19 = some (1, 0) := by decide +kernel
theorem fl_3_25 : mfl 3 25 = some (3, 2) := by decide +kernel
theorem fl_3_29 : mfl 3 29 = some (3, 3) := by decide +kernel
theorem fl_3_32 : mfl 3 32 = some (3, 4) := by decide +kernel
theorem fl_3_36 : mfl 3 36 = some (3, 8) := by decide +kernel
theorem fl_3_39 : mfl 3 39 = some (3, 9) := by decide +kernel
theorem fl_3_42 : mfl 3 42 = some (3, 10) := by decide +kernel
theorem fl_3_45 : mfl 3 45 = some (3, 11) := by decide +kernel
theorem fl_3_51 : mfl 3 51 = some (3, 6) := by decide +kernel
theorem fl_3_54 : mfl 3 54 = some (3, 7) := by decide +kernel
theorem fl_3_63 : mfl 3 63 = some (3, 5) := by decide +kernel
theorem fl_3_66 : mfl 3 66 = some (3, 12) := by decide +kernel
theorem fl_3_69 : mfl 3 69 = some (3, 14) := by decide +kernel
theorem fl_3_72 : mfl 3 72 = some (3, 15) := by decide +kernel
theorem fl_3_76 : mfl 3 76 = some (3, 16) := by decide +kernel
theorem fl_3_79 : mfl 3 79 = some (1, 4) := by decide +kernel
theorem fl_3_82 : mfl 3 82 = some (3, 13) := by decide +kernel
theorem fl_3_85 : mfl 3 85 = some (1, 3) := by decide +kernel
theorem fl_3_88 : mfl 3 88 = some (2, 2) := by decide +kernel
theorem fl_3_93 : mfl 3 93 = some (2, 4) := by decide +kernel
theorem fl_3_113 : mfl 3 113 = some (2, 7) := by decide +kernel
theorem fl_3_116 : mfl 3 116 = some (1, 1) := by decide +kernel
theorem fl_3_127 : mfl 3 127 = some (2, 8) := by decide +kernel
theorem fl_3_130 : mfl 3 130 = some (2, 9) := by decide +kernel
theorem fl_3_145 : mfl 3 145 = some (2, 3) := by decide +kernel
theorem fl_4_15 : mfl 4 15 = some (4, 0) := by decide +kernel
theorem fl_4_21 : mfl 4 21 = some (4, 1) := by decide +kernel
theorem fl_4_24 : mfl 4 24 = some (4, 2) := by decide +kernel
theorem fl_4_27 : mfl 4 27 = some (4, 5) := by decide +kernel
theorem fl_4_30 : mfl 4 30 = some (4, 6) := by decide +kernel
theorem fl_4_33 : mfl 4 33 = some (4, 7) := by decide +kernel
theorem fl_4_36 : mfl 4 36 = some (4, 8) := by decide +kernel
theorem fl_4_39 : mfl 4 39 = some (4, 9) := by decide +kernel
theorem fl_4_42 : mfl 4 42 = some (4, 10) := by decide +kernel
theorem fl_4_45 : mfl 4 45 = some (4, 11) := by decide +kernel
theorem fl_4_48 : mfl 4 48 = some (4, 15) := by decide +kernel
theorem fl_4_54 : mfl 4 54 = some (4, 4) := by decide +kernel
theorem fl_4_57 : mfl 4 57 = some (4, 13) := by decide +kernel
theorem fl_4_60 : mfl 4 60 = some (4, 17) := by decide +kernel
theorem fl_4_69 : mfl 4 69 = some (4, 3) := by decide +kernel
theorem fl_4_72 : mfl 4 72 = some (4, 12) := by decide +kernel
theorem fl_4_75 : mfl 4 75 = some (4, 16) := by decide +kernel
theorem fl_4_78 : mfl 4 78 = some (4, 18) := by decide +kernel
theorem fl_4_81 : mfl 4 81 = some (4, 14) := by decide +kernel
theorem fl_5_11 : mfl 5 11 = some (5, 0) := by decide +kernel
theorem fl_5_17 : mfl 5 17 = some (5, 1) := by decide +kernel
theorem fl_5_21 : mfl 5 21 = some (5, 2) := by decide +kernel
theorem fl_5_25 : mfl 5 25 = some (5, 3) := by decide +kernel
theorem fl_5_40 : mfl 5 40 = some (5, 4) := by decide +kernel
theorem fl_5_44 : mfl 5 44 = some (5, 5) := by decide +kernel
theorem fl_5_48 : mfl 5 48 = some (5, 6) := by decide +kernel
theorem fl_5_66 : mfl 5 66 = some (2, 2) := by decide +kernel
theorem fl_5_99 : mfl 5 99 = some (5, 7) := by decide +kernel
theorem fl_5_112 : mfl 5 112 = some (3, 12) := by decide +kernel
theorem fl_5_140 : mfl 5 140 = some (2, 4) := by decide +kernel
theorem fl_5_181 : mfl 5 181 = some (5, 8) := by decide +kernel
theorem fl_5_184 : mfl 5 184 = some (5, 9) := by decide +kernel
theorem fl_5_204 : mfl 5 204 = some (4, 16) := by decide +kernel
theorem fl_5_255 : mfl 5 255 = some (2, 10) := by decide +kernel
theorem fl_5_258 : mfl 5 258 = some (2, 11) := by decide +kernel
theorem fl_6_9 : mfl 6 9 = some (6, 0) := by decide +kernel
theorem fl_6_15 : mfl 6 15 = some (6, 4) := by decide +kernel
theorem fl_6_19 : mfl 6 19 = some (6, 5) := by decide +kernel
theorem fl_6_22 : mfl 6 22 = some (6, 6) := by decide +kernel
theorem fl_6_25 : mfl 6 25 = some (6, 7) := by decide +kernel
theorem fl_6_28 : mfl 6 28 = some (6, 8) := by decide +kernel
theorem fl_6_31 : mfl 6 31 = some (6, 9) := by decide +kernel
theorem fl_6_34 : mfl 6 34 = some (6, 11) := by decide +kernel
theorem fl_6_37 : mfl 6 37 = some (6, 12) := by decide +kernel
theorem fl_6_40 : mfl 6 40 = some (6, 13) := by decide +kernel
theorem fl_6_43 : mfl 6 43 = some (6, 14) := by decide +kernel
theorem fl_6_46 : mfl 6 46 = some (6, 3) := by decide +kernel
theorem fl_6_49 : mfl 6 49 = some (6, 1) := by decide +kernel
theorem fl_6_52 : mfl 6 52 = some (6, 2) := by decide +kernel
theorem fl_6_55 : mfl 6 55 = some (6, 10) := by decide +kernel
theorem fl_6_58 : mfl 6 58 = some (6, 15) := by decide +kernel
theorem fl_6_61 : mfl 6 61 = some (6, 16) := by decide +kernel
theorem fl_7_9 : mfl 7 9 = some (7, 0) := by decide +kernel
theorem fl_7_15 : mfl 7 15 = some (7, 1) := by decide +kernel
theorem fl_7_19 : mfl 7 19 = some (7, 2) := by decide +kernel
theorem fl_7_23 : mfl 7 23 = some (7, 3) := by decide +kernel
theorem fl_7_27 : mfl 7 27 = some (7, 4) := by decide +kernel
theorem fl_7_31 : mfl 7 31 = some (7, 5) := by decide +kernel
theorem fl_7_43 : mfl 7 43 = some (2, 3) := by decide +kernel
theorem fl_7_47 : mfl 7 47 = some (2, 2) := by decide +kernel
theorem fl_7_50 : mfl 7 50 = some (1, 1) := by decide +kernel
theorem fl_7_64 : mfl 7 64 = some (2, 4) := by decide +kernel
theorem fl_7_67 : mfl 7 67 = some (3, 12) := by decide +kernel
theorem fl_7_72 : mfl 7 72 = some (1, 2) := by decide +kernel
theorem fl_7_75 : mfl 7 75 = some (2, 5) := by decide +kernel
theorem fl_7_82 : mfl 7 82 = some (5, 6) := by decide +kernel
theorem fl_7_91 : mfl 7 91 = some (6, 3) := by decide +kernel
theorem fl_7_105 : mfl 7 105 = some (6, 2) := by decide +kernel
theorem fl_7_158 : mfl 7 158 = some (3, 15) := by decide +kernel
theorem fl_7_164 : mfl 7 164 = some (1, 5) := by decide +kernel
theorem fl_7_199 : mfl 7 199 = some (5, 5) := by decide +kernel
theorem fl_7_221 : mfl 7 221 = some (2, 8) := by decide +kernel
theorem fl_7_224 : mfl 7 224 = some (2, 9) := by decide +kernel
theorem fl_7_227 : mfl 7 227 = some (2, 10) := by decide +kernel
theorem fl_7_230 : mfl 7 230 = some (2, 11) := by decide +kernel
theorem fl_7_259 : mfl 7 259 = some (6, 4) := by decide +kernel
theorem fl_7_278 : mfl 7 278 = some (1, 15) := by decide +kernel
theorem fl_7_290 : mfl 7 290 = some (4, 6) := by decide +kernel
theorem fl_7_304 : mfl 7 304 = some (4, 13) := by decide +kernel
theorem fl_7_307 : mfl 7 307 = some (4, 12) := by decide +kernel
theorem fl_7_310 : mfl 7 310 = some (4, 7) := by decide +kernel
theorem fl_7_313 : mfl 7 313 = some (4, 5) := by decide +kernel
theorem fl_7_316 : mfl 7 316 = some (4, 8) := by decide +kernel
theorem fl_7_319 : mfl 7 319 = some (4, 11) := by decide +kernel
theorem fl_8_9 : mfl 8 9 = some (8, 0) := by decide +kernel
theorem fl_8_15 : mfl 8 15 = some (8, 1) := by decide +kernel
theorem fl_8_19 : mfl 8 19 = some (8, 2) := by decide +kernel
theorem fl_8_23 : mfl 8 23 = some (8, 3) := by decide +kernel
theorem fl_8_27 : mfl 8 27 = some (8, 4) := by decide +kernel
theorem fl_8_31 : mfl 8 31 = some (8, 5) := by decide +kernel
theorem fl_8_35 : mfl 8 35 = some (8, 6) := by decide +kernel
theorem fl_8_39 : mfl 8 39 = some (8, 7) := by decide +kernel
theorem fl_8_43 : mfl 8 43 = some (6, 4) := by decide +kernel
theorem fl_8_48 : mfl 8 48 = some (8, 8) := by decide +kernel
theorem fl_8_51 : mfl 8 51 = some (8, 9) := by decide +kernel
theorem fl_8_54 : mfl 8 54 = some (8, 10) := by decide +kernel
theorem fl_8_57 : mfl 8 57 = some (4, 0) := by decide +kernel
theorem fl_8_62 : mfl 8 62 = some (8, 11) := by decide +kernel
theorem fl_8_65 : mfl 8 65 = some (4, 5) := by decide +kernel
theorem fl_8_68 : mfl 8 68 = some (8, 12) := by decide +kernel
theorem fl_8_77 : mfl 8 77 = some (5, 5) := by decide +kernel
theorem fl_8_83 : mfl 8 83 = some (5, 7) := by decide +kernel
theorem fl_8_87 : mfl 8 87 = some (4, 18) := by decide +kernel
theorem fl_8_90 : mfl 8 90 = some (3, 14) := by decide +kernel
theorem fl_8_113 : mfl 8 113 = some (6, 2) := by decide +kernel
theorem fl_8_119 : mfl 8 119 = some (4, 3) := by decide +kernel
theorem fl_8_122 : mfl 8 122 = some (6, 5) := by decide +kernel
theorem fl_8_125 : mfl 8 125 = some (4, 4) := by decide +kernel
theorem fl_8_128 : mfl 8 128 = some (4, 1) := by decide +kernel
theorem fl_8_131 : mfl 8 131 = some (4, 2) := by decide +kernel
theorem fl_8_158 : mfl 8 158 = some (2, 2) := by decide +kernel
theorem fl_8_163 : mfl 8 163 = some (1, 3) := by decide +kernel
theorem fl_8_166 : mfl 8 166 = some (2, 3) := by decide +kernel
theorem fl_8_191 : mfl 8 191 = some (1, 15) := by decide +kernel
theorem fl_8_194 : mfl 8 194 = some (6, 9) := by decide +kernel
theorem fl_8_207 : mfl 8 207 = some (6, 8) := by decide +kernel
theorem fl_8_210 : mfl 8 210 = some (6, 6) := by decide +kernel
theorem fl_8_213 : mfl 8 213 = some (6, 13) := by decide +kernel
theorem fl_8_216 : mfl 8 216 = some (6, 12) := by decide +kernel
theorem fl_8_219 : mfl 8 219 = some (6, 11) := by decide +kernel
theorem fl_8_224 : mfl 8 224 = some (4, 7) := by decide +kernel
theorem fl_8_227 : mfl 8 227 = some (4, 8) := by decide +kernel
theorem fl_8_228 : mfl 8 228 = some (4, 13) := by decide +kernel
theorem fl_8_231 : mfl 8 231 = some (4, 12) := by decide +kernel
theorem fl_8_234 : mfl 8 234 = some (4, 11) := by decide +kernel
theorem fl_8_237 : mfl 8 237 = some (4, 6) := by decide +kernel
theorem fl_8_247 : mfl 8 247 = some (4, 9) := by decide +kernel
theorem fl_8_250 : mfl 8 250 = some (4, 10) := by decide +kernel
theorem fl_8_253 : mfl 8 253 = some (4, 15) := by decide +kernel
theorem fl_8_256 : mfl 8 256 = some (1, 8) := by decide +kernel
theorem fl_8_268 : mfl 8 268 = some (8, 13) := by decide +kernel
theorem fl_8_271 : mfl 8 271 = some (6, 7) := by decide +kernel
theorem fl_8_278 : mfl 8 278 = some (1, 7) := by decide +kernel
theorem fl_8_281 : mfl 8 281 = some (1, 1) := by decide +kernel
theorem fl_8_287 : mfl 8 287 = some (1, 14) := by decide +kernel
theorem fl_8_297 : mfl 8 297 = some (4, 17) := by decide +kernel
theorem fl_9_11 : mfl 9 11 = some (9, 0) := by decide +kernel
theorem fl_9_15 : mfl 9 15 = some (9, 1) := by decide +kernel
theorem fl_9_19 : mfl 9 19 = some (9, 2) := by decide +kernel
theorem fl_9_23 : mfl 9 23 = some (9, 4) := by decide +kernel
theorem fl_9_26 : mfl 9 26 = some (9, 5) := by decide +kernel
theorem fl_9_29 : mfl 9 29 = some (9, 6) := by decide +kernel
theorem fl_9_32 : mfl 9 32 = some (9, 7) := by decide +kernel
theorem fl_9_36 : mfl 9 36 = some (9, 8) := by decide +kernel
theorem fl_9_39 : mfl 9 39 = some (9, 9) := by decide +kernel
theorem fl_9_42 : mfl 9 42 = some (9, 10) := by decide +kernel
theorem fl_9_45 : mfl 9 45 = some (9, 11) := by decide +kernel
theorem fl_9_48 : mfl 9 48 = some (2, 2) := by decide +kernel
theorem fl_9_54 : mfl 9 54 = some (1, 3) := by decide +kernel
theorem fl_9_59 : mfl 9 59 = some (2, 3) := by decide +kernel
theorem fl_9_62 : mfl 9 62 = some (9, 3) := by decide +kernel
theorem fl_9_137 : mfl 9 137 = some (1, 15) := by decide +kernel
theorem fl_9_140 : mfl 9 140 = some (9, 12) := by decide +kernel
theorem fl_10_9 : mfl 10 9 = some (10, 0) := by decide +kernel
theorem fl_10_15 : mfl 10 15 = some (10, 1) := by decide +kernel
theorem fl_10_19 : mfl 10 19 = some (1, 15) := by decide +kernel
theorem fl_10_25 : mfl 10 25 = some (10, 2) := by decide +kernel
theorem fl_10_28 : mfl 10 28 = some (10, 3) := by decide +kernel
theorem fl_10_31 : mfl 10 31 = some (10, 4) := by decide +kernel
theorem fl_10_34 : mfl 10 34 = some (6, 11) := by decide +kernel
theorem fl_10_39 : mfl 10 39 = some (10, 5) := by decide +kernel
theorem fl_10_42 : mfl 10 42 = some (10, 6) := by decide +kernel
theorem fl_10_54 : mfl 10 54 = some (10, 7) := by decide +kernel
theorem fl_10_65 : mfl 10 65 = some (6, 15) := by decide +kernel
theorem fl_10_69 : mfl 10 69 = some (6, 14) := by decide +kernel
theorem fl_10_76 : mfl 10 76 = some (6, 5) := by decide +kernel
theorem fl_10_89 : mfl 10 89 = some (6, 2) := by decide +kernel
theorem fl_10_92 : mfl 10 92 = some (6, 4) := by decide +kernel
theorem fl_10_98 : mfl 10 98 = some (6, 10) := by decide +kernel
theorem fl_10_101 : mfl 10 101 = some (1, 8) := by decide +kernel
theorem fl_10_114 : mfl 10 114 = some (1, 7) := by decide +kernel
theorem fl_10_124 : mfl 10 124 = some (6, 12) := by decide +kernel
theorem fl_10_127 : mfl 10 127 = some (6, 6) := by decide +kernel
theorem fl_10_130 : mfl 10 130 = some (6, 7) := by decide +kernel
theorem fl_11_9 : mfl 11 9 = some (11, 0) := by decide +kernel
theorem fl_11_15 : mfl 11 15 = some (11, 1) := by decide +kernel
theorem fl_11_19 : mfl 11 19 = some (11, 2) := by decide +kernel
theorem fl_11_24 : mfl 11 24 = some (11, 3) := by decide +kernel
theorem fl_11_28 : mfl 11 28 = some (11, 5) := by decide +kernel
theorem fl_11_31 : mfl 11 31 = some (6, 11) := by decide +kernel
theorem fl_11_37 : mfl 11 37 = some (11, 10) := by decide +kernel
theorem fl_11_40 : mfl 11 40 = some (11, 6) := by decide +kernel
theorem fl_11_44 : mfl 11 44 = some (11, 7) := by decide +kernel
theorem fl_11_48 : mfl 11 48 = some (11, 9) := by decide +kernel
theorem fl_11_51 : mfl 11 51 = some (11, 8) := by decide +kernel
theorem fl_11_54 : mfl 11 54 = some (6, 15) := by decide +kernel
theorem fl_11_57 : mfl 11 57 = some (6, 14) := by decide +kernel
theorem fl_11_74 : mfl 11 74 = some (6, 2) := by decide +kernel
theorem fl_11_77 : mfl 11 77 = some (11, 4) := by decide +kernel
theorem fl_11_88 : mfl 11 88 = some (6, 4) := by decide +kernel
theorem fl_11_94 : mfl 11 94 = some (6, 6) := by decide +kernel
theorem fl_11_97 : mfl 11 97 = some (6, 7) := by decide +kernel
theorem fl_11_117 : mfl 11 117 = some (6, 12) := by decide +kernel
theorem fl_11_128 : mfl 11 128 = some (6, 5) := by decide +kernel
theorem fl_11_133 : mfl 11 133 = some (1, 1) := by decide +kernel
theorem fl_11_145 : mfl 11 145 = some (1, 8) := by decide +kernel
theorem fl_12_26 : mfl 12 26 = some (12, 2) := by decide +kernel
theorem fl_12_37 : mfl 12 37 = some (12, 4) := by decide +kernel
theorem fl_12_54 : mfl 12 54 = some (12, 5) := by decide +kernel
theorem fl_12_58 : mfl 12 58 = some (14, 0) := by decide +kernel
theorem fl_12_62 : mfl 12 62 = some (12, 7) := by decide +kernel
theorem fl_12_65 : mfl 12 65 = some (12, 8) := by decide +kernel
theorem fl_12_73 : mfl 12 73 = some (12, 10) := by decide +kernel
theorem fl_12_77 : mfl 12 77 = some (12, 13) := by decide +kernel
theorem fl_12_82 : mfl 12 82 = some (12, 0) := by decide +kernel
theorem fl_12_85 : mfl 12 85 = some (12, 1) := by decide +kernel
theorem fl_12_88 : mfl 12 88 = some (12, 11) := by decide +kernel
theorem fl_12_91 : mfl 12 91 = some (12, 3) := by decide +kernel
theorem fl_12_102 : mfl 12 102 = some (12, 6) := by decide +kernel
theorem fl_12_106 : mfl 12 106 = some (15, 3) := by decide +kernel
theorem fl_12_109 : mfl 12 109 = some (12, 12) := by decide +kernel
theorem fl_12_110 : mfl 12 110 = some (15, 4) := by decide +kernel
theorem fl_12_111 : mfl 12 111 = some (14, 18) := by decide +kernel
theorem fl_12_115 : mfl 12 115 = some (14, 19) := by decide +kernel
theorem fl_12_118 : mfl 12 118 = some (14, 7) := by decide +kernel
theorem fl_12_124 : mfl 12 124 = some (14, 6) := by decide +kernel
theorem fl_12_127 : mfl 12 127 = some (14, 4) := by decide +kernel
theorem fl_12_138 : mfl 12 138 = some (14, 3) := by decide +kernel
theorem fl_12_144 : mfl 12 144 = some (14, 5) := by decide +kernel
theorem fl_12_147 : mfl 12 147 = some (14, 8) := by decide +kernel
theorem fl_12_150 : mfl 12 150 = some (14, 10) := by decide +kernel
theorem fl_12_153 : mfl 12 153 = some (14, 1) := by decide +kernel
theorem fl_12_156 : mfl 12 156 = some (14, 9) := by decide +kernel
theorem fl_12_159 : mfl 12 159 = some (14, 20) := by decide +kernel
theorem fl_12_162 : mfl 12 162 = some (14, 21) := by decide +kernel
theorem fl_12_171 : mfl 12 171 = some (14, 14) := by decide +kernel
theorem fl_12_188 : mfl 12 188 = some (12, 9) := by decide +kernel
theorem fl_13_9 : mfl 13 9 = some (13, 5) := by decide +kernel
theorem fl_13_15 : mfl 13 15 = some (13, 0) := by decide +kernel
theorem fl_13_18 : mfl 13 18 = some (13, 2) := by decide +kernel
theorem fl_13_21 : mfl 13 21 = some (13, 3) := by decide +kernel
theorem fl_13_24 : mfl 13 24 = some (13, 4) := by decide +kernel
theorem fl_13_30 : mfl 13 30 = some (13, 1) := by decide +kernel
theorem fl_13_34 : mfl 13 34 = some (13, 6) := by decide +kernel
theorem fl_14_15 : mfl 14 15 = some (14, 4) := by decide +kernel
theorem fl_14_18 : mfl 14 18 = some (14, 5) := by decide +kernel
theorem fl_14_21 : mfl 14 21 = some (14, 6) := by decide +kernel
theorem fl_14_25 : mfl 14 25 = some (14, 15) := by decide +kernel
theorem fl_14_28 : mfl 14 28 = some (14, 18) := by decide +kernel
theorem fl_14_31 : mfl 14 31 = some (14, 19) := by decide +kernel
theorem fl_14_34 : mfl 14 34 = some (14, 0) := by decide +kernel
theorem fl_14_38 : mfl 14 38 = some (14, 22) := by decide +kernel
theorem fl_14_42 : mfl 14 42 = some (14, 1) := by decide +kernel
theorem fl_14_45 : mfl 14 45 = some (14, 8) := by decide +kernel
theorem fl_14_48 : mfl 14 48 = some (14, 9) := by decide +kernel
theorem fl_14_51 : mfl 14 51 = some (14, 10) := by decide +kernel
theorem fl_14_58 : mfl 14 58 = some (14, 12) := by decide +kernel
theorem fl_14_61 : mfl 14 61 = some (14, 13) := by decide +kernel
theorem fl_14_69 : mfl 14 69 = some (14, 2) := by decide +kernel
theorem fl_14_73 : mfl 14 73 = some (14, 7) := by decide +kernel
theorem fl_14_76 : mfl 14 76 = some (14, 14) := by decide +kernel
theorem fl_14_79 : mfl 14 79 = some (14, 16) := by decide +kernel
theorem fl_14_82 : mfl 14 82 = some (14, 17) := by decide +kernel
theorem fl_14_85 : mfl 14 85 = some (14, 20) := by decide +kernel
theorem fl_14_88 : mfl 14 88 = some (14, 21) := by decide +kernel
theorem fl_14_117 : mfl 14 117 = some (13, 0) := by decide +kernel
theorem fl_15_9 : mfl 15 9 = some (15, 59) := by decide +kernel
theorem fl_15_15 : mfl 15 15 = some (15, 60) := by decide +kernel
theorem fl_15_18 : mfl 15 18 = some (15, 61) := by decide +kernel
theorem fl_15_22 : mfl 15 22 = some (15, 62) := by decide +kernel
theorem fl_15_25 : mfl 15 25 = some (15, 63) := by decide +kernel
theorem fl_15_28 : mfl 15 28 = some (15, 65) := by decide +kernel
theorem fl_15_31 : mfl 15 31 = some (15, 70) := by decide +kernel
theorem fl_15_34 : mfl 15 34 = some (15, 71) := by decide +kernel
theorem fl_15_37 : mfl 15 37 = some (15, 72) := by decide +kernel
theorem fl_15_41 : mfl 15 41 = some (15, 74) := by decide +kernel
theorem fl_15_45 : mfl 15 45 = some (15, 5) := by decide +kernel
theorem fl_15_48 : mfl 15 48 = some (15, 9) := by decide +kernel
theorem fl_15_51 : mfl 15 51 = some (15, 10) := by decide +kernel
theorem fl_15_54 : mfl 15 54 = some (15, 11) := by decide +kernel
theorem fl_15_57 : mfl 15 57 = some (15, 12) := by decide +kernel
theorem fl_15_60 : mfl 15 60 = some (15, 13) := by decide +kernel
theorem fl_15_63 : mfl 15 63 = some (15, 27) := by decide +kernel
theorem fl_15_66 : mfl 15 66 = some (15, 28) := by decide +kernel
theorem fl_15_69 : mfl 15 69 = some (15, 29) := by decide +kernel
theorem fl_15_72 : mfl 15 72 = some (15, 30) := by decide +kernel
theorem fl_15_75 : mfl 15 75 = some (15, 31) := by decide +kernel
theorem fl_15_78 : mfl 15 78 = some (15, 33) := by decide +kernel
theorem fl_15_81 : mfl 15 81 = some (15, 35) := by decide +kernel
theorem fl_15_84 : mfl 15 84 = some (15, 36) := by decide +kernel
theorem fl_15_87 : mfl 15 87 = some (15, 37) := by decide +kernel
theorem fl_15_90 : mfl 15 90 = some (15, 38) := by decide +kernel
theorem fl_15_93 : mfl 15 93 = some (15, 39) := by decide +kernel
theorem fl_15_96 : mfl 15 96 = some (15, 41) := by decide +kernel
theorem fl_15_99 : mfl 15 99 = some (15, 42) := by decide +kernel
theorem fl_15_102 : mfl 15 102 = some (15, 43) := by decide +kernel
theorem fl_15_105 : mfl 15 105 = some (15, 44) := by decide +kernel
theorem fl_15_108 : mfl 15 108 = some (15, 45) := by decide +kernel
theorem fl_15_111 : mfl 15 111 = some (15, 46) := by decide +kernel
theorem fl_15_114 : mfl 15 114 = some (15, 48) := by decide +kernel
theorem fl_15_117 : mfl 15 117 = some (15, 49) := by decide +kernel
theorem fl_15_120 : mfl 15 120 = some (15, 50) := by decide +kernel
theorem fl_15_123 : mfl 15 123 = some (15, 51) := by decide +kernel
theorem fl_15_126 : mfl 15 126 = some (15, 52) := by decide +kernel
theorem fl_15_129 : mfl 15 129 = some (15, 53) := by decide +kernel
theorem fl_15_132 : mfl 15 132 = some (15, 54) := by decide +kernel
theorem fl_15_135 : mfl 15 135 = some (15, 55) := by decide +kernel
theorem fl_15_138 : mfl 15 138 = some (15, 57) := by decide +kernel
theorem fl_15_141 : mfl 15 141 = some (15, 67) := by decide +kernel
theorem fl_15_144 : mfl 15 144 = some (15, 68) := by decide +kernel
theorem fl_15_147 : mfl 15 147 = some (15, 69) := by decide +kernel
theorem fl_15_150 : mfl 15 150 = some (15, 2) := by decide +kernel
theorem fl_15_154 : mfl 15 154 = some (15, 0) := by decide +kernel
theorem fl_15_158 : mfl 15 158 = some (15, 1) := by decide +kernel
theorem fl_15_166 : mfl 15 166 = some (15, 3) := by decide +kernel
theorem fl_15_169 : mfl 15 169 = some (15, 4) := by decide +kernel
theorem fl_15_172 : mfl 15 172 = some (15, 6) := by decide +kernel
theorem fl_15_175 : mfl 15 175 = some (15, 14) := by decide +kernel
theorem fl_15_178 : mfl 15 178 = some (15, 15) := by decide +kernel
theorem fl_15_181 : mfl 15 181 = some (15, 19) := by decide +kernel
theorem fl_15_184 : mfl 15 184 = some (15, 20) := by decide +kernel
theorem fl_15_188 : mfl 15 188 = some (15, 21) := by decide +kernel
theorem fl_15_191 : mfl 15 191 = some (15, 22) := by decide +kernel
theorem fl_15_194 : mfl 15 194 = some (15, 23) := by decide +kernel
theorem fl_15_197 : mfl 15 197 = some (15, 24) := by decide +kernel
theorem fl_15_200 : mfl 15 200 = some (15, 26) := by decide +kernel
theorem fl_15_203 : mfl 15 203 = some (15, 32) := by decide +kernel
theorem fl_15_206 : mfl 15 206 = some (15, 34) := by decide +kernel
theorem fl_15_209 : mfl 15 209 = some (15, 40) := by decide +kernel
theorem fl_15_212 : mfl 15 212 = some (15, 47) := by decide +kernel
theorem fl_15_215 : mfl 15 215 = some (15, 56) := by decide +kernel
theorem fl_15_218 : mfl 15 218 = some (15, 58) := by decide +kernel
theorem fl_15_221 : mfl 15 221 = some (15, 64) := by decide +kernel
theorem fl_15_224 : mfl 15 224 = some (15, 66) := by decide +kernel
theorem fl_15_227 : mfl 15 227 = some (14, 0) := by decide +kernel
theorem fl_15_237 : mfl 15 237 = some (15, 8) := by decide +kernel
theorem fl_15_248 : mfl 15 248 = some (15, 75) := by decide +kernel
theorem fl_15_258 : mfl 15 258 = some (15, 7) := by decide +kernel
theorem fl_15_273 : mfl 15 273 = some (15, 17) := by decide +kernel
theorem fl_15_367 : mfl 15 367 = some (15, 25) := by decide +kernel
theorem fl_15_379 : mfl 15 379 = some (15, 16) := by decide +kernel
theorem fl_15_382 : mfl 15 382 = some (15, 18) := by decide +kernel
theorem fl_15_388 : mfl 15 388 = some (14, 21) := by decide +kernel
theorem fl_15_483 : mfl 15 483 = some (14, 15) := by decide +kernel
theorem fl_15_486 : mfl 15 486 = some (14, 16) := by decide +kernel
theorem fl_15_489 : mfl 15 489 = some (14, 2) := by decide +kernel
theorem fl_15_499 : mfl 15 499 = some (14, 19) := by decide +kernel
theorem fl_15_542 : mfl 15 542 = some (15, 76) := by decide +kernel
theorem fl_15_545 : mfl 15 545 = some (15, 77) := by decide +kernel
theorem fl_15_561 : mfl 15 561 = some (14, 18) := by decide +kernel
theorem fl_15_598 : mfl 15 598 = some (15, 73) := by decide +kernel
theorem fl_15_613 : mfl 15 613 = some (15, 79) := by decide +kernel
theorem fl_15_616 : mfl 15 616 = some (15, 78) := by decide +kernel
theorem fl_15_644 : mfl 15 644 = some (15, 82) := by decide +kernel
theorem fl_15_649 : mfl 15 649 = some (15, 81) := by decide +kernel
theorem fl_15_738 : mfl 15 738 = some (14, 3) := by decide +kernel
theorem fl_15_745 : mfl 15 745 = some (14, 7) := by decide +kernel
theorem fl_15_748 : mfl 15 748 = some (14, 14) := by decide +kernel
theorem fl_15_757 : mfl 15 757 = some (14, 4) := by decide +kernel
theorem fl_15_760 : mfl 15 760 = some (14, 5) := by decide +kernel
theorem fl_15_763 : mfl 15 763 = some (14, 6) := by decide +kernel
theorem fl_15_766 : mfl 15 766 = some (14, 8) := by decide +kernel
theorem fl_15_775 : mfl 15 775 = some (14, 9) := by decide +kernel
theorem fl_15_778 : mfl 15 778 = some (14, 10) := by decide +kernel
theorem fl_15_781 : mfl 15 781 = some (14, 11) := by decide +kernel
theorem fl_15_784 : mfl 15 784 = some (14, 12) := by decide +kernel
theorem fl_15_790 : mfl 15 790 = some (14, 13) := by decide +kernel
theorem fl_15_806 : mfl 15 806 = some (14, 1) := by decide +kernel
theorem fl_15_821 : mfl 15 821 = some (13, 6) := by decide +kernel
theorem fl_16_10 : mfl 16 10 = some (16, 6) := by decide +kernel
theorem fl_16_16 : mfl 16 16 = some (16, 7) := by decide +kernel
theorem fl_16_19 : mfl 16 19 = some (16, 12) := by decide +kernel
theorem fl_16_22 : mfl 16 22 = some (16, 0) := by decide +kernel
theorem fl_16_26 : mfl 16 26 = some (16, 3) := by decide +kernel
theorem fl_16_30 : mfl 16 30 = some (16, 4) := by decide +kernel
theorem fl_16_38 : mfl 16 38 = some (16, 2) := by decide +kernel
theorem fl_16_48 : mfl 16 48 = some (16, 5) := by decide +kernel
theorem fl_16_52 : mfl 16 52 = some (16, 9) := by decide +kernel
theorem fl_16_74 : mfl 16 74 = some (16, 1) := by decide +kernel
theorem fl_16_78 : mfl 16 78 = some (14, 0) := by decide +kernel
theorem fl_16_119 : mfl 16 119 = some (14, 10) := by decide +kernel
theorem fl_16_122 : mfl 16 122 = some (14, 1) := by decide +kernel
theorem fl_16_125 : mfl 16 125 = some (14, 9) := by decide +kernel
theorem fl_16_137 : mfl 16 137 = some (14, 12) := by decide +kernel
theorem fl_16_140 : mfl 16 140 = some (16, 10) := by decide +kernel
theorem fl_16_152 : mfl 16 152 = some (16, 11) := by decide +kernel
theorem fl_16_155 : mfl 16 155 = some (14, 8) := by decide +kernel
theorem fl_16_160 : mfl 16 160 = some (14, 13) := by decide +kernel
theorem fl_16_169 : mfl 16 169 = some (14, 4) := by decide +kernel
theorem fl_16_172 : mfl 16 172 = some (14, 5) := by decide +kernel
theorem fl_16_175 : mfl 16 175 = some (14, 6) := by decide +kernel
theorem fl_16_195 : mfl 16 195 = some (14, 3) := by decide +kernel
theorem fl_16_210 : mfl 16 210 = some (16, 8) := by decide +kernel
theorem fl_16_215 : mfl 16 215 = some (14, 15) := by decide +kernel
theorem fl_16_220 : mfl 16 220 = some (14, 16) := by decide +kernel
theorem ks_0_10 : mks 0 10 = some (.inl 65536) := by decide +kernel
theorem ks_1_15 : mks 1 15 = some (.inl 65536) := by decide +kernel
theorem ks_1_149 : mks 1 149 = some (.inl 55296) := by decide +kernel
theorem ks_1_150 : mks 1 150 = some (.inl 56319) := by decide +kernel
theorem ks_1_151 : mks 1 151 = some (.inl 56320) := by decide +kernel
theorem ks_1_152 : mks 1 152 = some (.inl 57343) := by decide +kernel
theorem ks_2_44 : mks 2 44 = some (.inl 55295) := by decide +kernel
theorem ks_2_45 : mks 2 45 = some (.inl 57344) := by decide +kernel
theorem ks_2_46 : mks 2 46 = some (.inl 65533) := by decide +kernel
theorem ks_2_47 : mks 2 47 = some (.inl 65536) := by decide +kernel
theorem ks_2_48 : mks 2 48 = some (.inl 1114111) := by decide +kernel
theorem ks_2_84 : mks 2 84 = some (.inr 1050) := by decide +kernel
theorem ks_2_90 : mks 2 90 = some (.inr 1051) := by decide +kernel
theorem ks_2_95 : mks 2 95 = some (.inr 1052) := by decide +kernel
theorem ks_2_97 : mks 2 97 = some (.inr 1053) := by decide +kernel
theorem ks_2_108 : mks 2 108 = some (.inr 1054) := by decide +kernel
theorem ks_2_114 : mks 2 114 = some (.inr 1055) := by decide +kernel
theorem ks_2_126 : mks 2 126 = some (.inr 1056) := by decide +kernel
theorem ks_2_128 : mks 2 128 = some (.inr 1057) := by decide +kernel
theorem ks_2_133 : mks 2 133 = some (.inr 1058) := by decide +kernel
theorem ks_2_141 : mks 2 141 = some (.inr 1059) := by decide +kernel
theorem ks_2_143 : mks 2 143 = some (.inr 1060) := by decide +kernel
theorem ks_2_145 : mks 2 145 = some (.inl 1114112) := by decide +kernel
theorem ks_2_164 : mks 2 164 = some (.inr 1061) := by decide +kernel
theorem ks_2_170 : mks 2 170 = some (.inr 1062) := by decide +kernel
theorem ks_2_175 : mks 2 175 = some (.inr 1063) := by decide +kernel
theorem ks_2_183 : mks 2 183 = some (.inl 1000000) := by decide +kernel
theorem ks_3_137 : mks 3 137 = some (.inr 1046) := by decide +kernel
theorem ks_3_148 : mks 3 148 = some (.inl 1000000) := by decide +kernel
theorem ks_5_51 : mks 5 51 = some (.inr 1021) := by decide +kernel
theorem ks_5_73 : mks 5 73 = some (.inr 1022) := by decide +kernel
theorem ks_5_79 : mks 5 79 = some (.inr 1023) := by decide +kernel
theorem ks_5_85 : mks 5 85 = some (.inr 1024) := by decide +kernel
theorem ks_5_90 : mks 5 90 = some (.inr 1025) := by decide +kernel
theorem ks_5_120 : mks 5 120 = some (.inr 1026) := by decide +kernel
theorem ks_5_125 : mks 5 125 = some (.inr 1027) := by decide +kernel
theorem ks_5_130 : mks 5 130 = some (.inr 1028) := by decide +kernel
theorem ks_5_135 : mks 5 135 = some (.inr 1029) := by decide +kernel
theorem ks_5_143 : mks 5 143 = some (.inr 1030) := by decide +kernel
theorem ks_5_148 : mks 5 148 = some (.inr 1031) := by decide +kernel
theorem ks_5_153 : mks 5 153 = some (.inr 1032) := by decide +kernel
theorem ks_5_155 : mks 5 155 = some (.inr 1033) := by decide +kernel
theorem ks_5_157 : mks 5 157 = some (.inr 1034) := by decide +kernel
theorem ks_5_167 : mks 5 167 = some (.inr 1035) := by decide +kernel
theorem ks_5_169 : mks 5 169 = some (.inr 1036) := by decide +kernel
theorem ks_5_171 : mks 5 171 = some (.inr 1037) := by decide +kernel
theorem ks_5_173 : mks 5 173 = some (.inr 1038) := by decide +kernel
theorem ks_5_191 : mks 5 191 = some (.inl 1000000) := by decide +kernel
theorem ks_5_192 : mks 5 192 = some (.inr 1039) := by decide +kernel
theorem ks_5_194 : mks 5 194 = some (.inr 1040) := by decide +kernel
theorem ks_5_196 : mks 5 196 = some (.inr 1041) := by decide +kernel
theorem ks_5_237 : mks 5 237 = some (.inr 1042) := by decide +kernel
theorem ks_5_239 : mks 5 239 = some (.inr 1043) := by decide +kernel
theorem ks_5_241 : mks 5 241 = some (.inr 1044) := by decide +kernel
theorem ks_5_249 : mks 5 249 = some (.inr 1045) := by decide +kernel
theorem ks_7_35 : mks 7 35 = some (.inr 1002) := by decide +kernel
theorem ks_7_63 : mks 7 63 = some (.inl 1000000) := by decide +kernel
theorem ks_7_126 : mks 7 126 = some (.inr 1003) := by decide +kernel
theorem ks_7_132 : mks 7 132 = some (.inr 1004) := by decide +kernel
theorem ks_7_143 : mks 7 143 = some (.inr 1005) := by decide +kernel
theorem ks_7_151 : mks 7 151 = some (.inr 1006) := by decide +kernel
theorem ks_7_153 : mks 7 153 = some (.inr 1007) := by decide +kernel
theorem ks_7_160 : mks 7 160 = some (.inr 1008) := by decide +kernel
theorem ks_7_162 : mks 7 162 = some (.inr 1009) := by decide +kernel
theorem ks_7_167 : mks 7 167 = some (.inr 1010) := by decide +kernel
theorem ks_7_169 : mks 7 169 = some (.inr 1011) := by decide +kernel
theorem ks_7_175 : mks 7 175 = some (.inr 1012) := by decide +kernel
theorem ks_7_183 : mks 7 183 = some (.inr 1013) := by decide +kernel
theorem ks_7_188 : mks 7 188 = some (.inr 1014) := by decide +kernel
theorem ks_7_193 : mks 7 193 = some (.inr 1015) := by decide +kernel
theorem ks_7_195 : mks 7 195 = some (.inr 1016) := by decide +kernel
theorem ks_7_197 : mks 7 197 = some (.inr 1017) := by decide +kernel
theorem ks_7_253 : mks 7 253 = some (.inr 1018) := by decide +kernel
theorem ks_7_265 : mks 7 265 = some (.inr 1019) := by decide +kernel
theorem ks_7_276 : mks 7 276 = some (.inr 1020) := by decide +kernel
theorem ks_8_169 : mks 8 169 = some (.inl 1000000) := by decide +kernel
theorem ks_8_170 : mks 8 170 = some (.inr 1083) := by decide +kernel
theorem ks_8_176 : mks 8 176 = some (.inr 1084) := by decide +kernel
theorem ks_9_65 : mks 9 65 = some (.inl 1000000) := by decide +kernel
theorem ks_9_108 : mks 9 108 = some (.inr 1047) := by decide +kernel
theorem ks_9_114 : mks 9 114 = some (.inr 1048) := by decide +kernel
theorem ks_9_120 : mks 9 120 = some (.inr 1049) := by decide +kernel
theorem ks_11_23 : mks 11 23 = some (.inl 262144) := by decide +kernel
theorem ks_11_111 : mks 11 111 = some (.inr 1085) := by decide +kernel
theorem ks_11_123 : mks 11 123 = some (.inr 1086) := by decide +kernel
theorem ks_11_131 : mks 11 131 = some (.inr 1087) := by decide +kernel
theorem ks_11_141 : mks 11 141 = some (.inr 1088) := by decide +kernel
theorem ks_11_143 : mks 11 143 = some (.inr 1089) := by decide +kernel
theorem ks_11_151 : mks 11 151 = some (.inr 1090) := by decide +kernel
theorem ks_11_153 : mks 11 153 = some (.inr 1091) := by decide +kernel
theorem ks_11_155 : mks 11 155 = some (.inr 1092) := by decide +kernel
theorem ks_11_157 : mks 11 157 = some (.inr 1093) := by decide +kernel
theorem ks_11_159 : mks 11 159 = some (.inr 1094) := by decide +kernel
theorem ks_11_161 : mks 11 161 = some (.inr 1095) := by decide +kernel
theorem ks_11_173 : mks 11 173 = some (.inl 65536) := by decide +kernel
theorem ks_12_1 : mks 12 1 = some (.inl 55295) := by decide +kernel
theorem ks_12_8 : mks 12 8 = some (.inl 57344) := by decide +kernel
theorem ks_12_9 : mks 12 9 = some (.inl 65533) := by decide +kernel
theorem ks_12_10 : mks 12 10 = some (.inl 65536) := by decide +kernel
theorem ks_12_11 : mks 12 11 = some (.inl 1114111) := by decide +kernel
theorem ks_12_12 : mks 12 12 = some (.inl 63744) := by decide +kernel
theorem ks_12_13 : mks 12 13 = some (.inl 64975) := by decide +kernel
theorem ks_12_14 : mks 12 14 = some (.inl 65008) := by decide +kernel
theorem ks_12_15 : mks 12 15 = some (.inl 983039) := by decide +kernel
theorem ks_12_32 : mks 12 32 = some (.inl 262144) := by decide +kernel
theorem ks_14_125 : mks 14 125 = some (.inr 1096) := by decide +kernel
theorem ks_15_40 : mks 15 40 = some (.inl 65536) := by decide +kernel
theorem ks_15_265 : mks 15 265 = some (.inl 55296) := by decide +kernel
theorem ks_15_266 : mks 15 266 = some (.inl 56319) := by decide +kernel
theorem ks_15_271 : mks 15 271 = some (.inl 56320) := by decide +kernel
theorem ks_15_272 : mks 15 272 = some (.inl 57343) := by decide +kernel
theorem ks_15_322 : mks 15 322 = some (.inr 1097) := by decide +kernel
theorem ks_15_327 : mks 15 327 = some (.inr 1098) := by decide +kernel
theorem ks_15_336 : mks 15 336 = some (.inr 1099) := by decide +kernel
theorem ks_15_344 : mks 15 344 = some (.inr 1100) := by decide +kernel
theorem ks_15_349 : mks 15 349 = some (.inl 2000000) := by decide +kernel
theorem ks_15_353 : mks 15 353 = some (.inr 1101) := by decide +kernel
theorem ks_15_374 : mks 15 374 = some (.inr 1102) := by decide +kernel
theorem ks_15_407 : mks 15 407 = some (.inr 1103) := by decide +kernel
theorem ks_15_412 : mks 15 412 = some (.inr 1104) := by decide +kernel
theorem ks_15_417 : mks 15 417 = some (.inr 1105) := by decide +kernel
theorem ks_15_419 : mks 15 419 = some (.inr 1106) := by decide +kernel
theorem ks_15_421 : mks 15 421 = some (.inr 1107) := by decide +kernel
theorem ks_15_430 : mks 15 430 = some (.inr 1108) := by decide +kernel
theorem ks_15_435 : mks 15 435 = some (.inr 1109) := by decide +kernel
theorem ks_15_440 : mks 15 440 = some (.inr 1110) := by decide +kernel
theorem ks_15_442 : mks 15 442 = some (.inr 1111) := by decide +kernel
theorem ks_15_444 : mks 15 444 = some (.inr 1112) := by decide +kernel
theorem ks_15_449 : mks 15 449 = some (.inr 1113) := by decide +kernel
theorem ks_15_451 : mks 15 451 = some (.inr 1114) := by decide +kernel
theorem ks_15_453 : mks 15 453 = some (.inr 1115) := by decide +kernel
theorem ks_15_455 : mks 15 455 = some (.inr 1116) := by decide +kernel
theorem ks_15_461 : mks 15 461 = some (.inr 1117) := by decide +kernel
theorem ks_15_463 : mks 15 463 = some (.inr 1118) := by decide +kernel
theorem ks_15_468 : mks 15 468 = some (.inr 1119) := by decide +kernel
theorem ks_15_507 : mks 15 507 = some (.inr 1120) := by decide +kernel
theorem ks_15_512 : mks 15 512 = some (.inr 1121) := by decide +kernel
theorem ks_15_517 : mks 15 517 = some (.inr 1122) := by decide +kernel
theorem ks_15_522 : mks 15 522 = some (.inr 1123) := by decide +kernel
theorem ks_15_527 : mks 15 527 = some (.inr 1124) := by decide +kernel
theorem ks_15_548 : mks 15 548 = some (.inr 1125) := by decide +kernel
theorem ks_15_550 : mks 15 550 = some (.inr 1126) := by decide +kernel
theorem ks_15_573 : mks 15 573 = some (.inr 1127) := by decide +kernel
theorem ks_15_575 : mks 15 575 = some (.inr 1128) := by decide +kernel
theorem ks_15_577 : mks 15 577 = some (.inr 1129) := by decide +kernel
theorem ks_15_582 : mks 15 582 = some (.inr 1130) := by decide +kernel
theorem ks_15_584 : mks 15 584 = some (.inr 1131) := by decide +kernel
theorem ks_15_622 : mks 15 622 = some (.inr 1132) := by decide +kernel
theorem ks_15_647 : mks 15 647 = some (.inr 1141) := by decide +kernel
theorem ks_15_652 : mks 15 652 = some (.inr 1142) := by decide +kernel
theorem ks_15_654 : mks 15 654 = some (.inr 1143) := by decide +kernel
theorem ks_15_685 : mks 15 685 = some (.inr 1144) := by decide +kernel
theorem ks_15_690 : mks 15 690 = some (.inr 1145) := by decide +kernel
theorem ks_15_711 : mks 15 711 = some (.inr 1146) := by decide +kernel
theorem ks_15_719 : mks 15 719 = some (.inr 1147) := by decide +kernel
theorem ks_15_724 : mks 15 724 = some (.inr 1148) := by decide +kernel
theorem ks_15_726 : mks 15 726 = some (.inr 1149) := by decide +kernel
theorem ks_15_728 : mks 15 728 = some (.inr 1150) := by decide +kernel
theorem ks_15_730 : mks 15 730 = some (.inr 1151) := by decide +kernel
theorem ks_15_743 : mks 15 743 = some (.inr 1152) := by decide +kernel
theorem ks_15_829 : mks 15 829 = some (.inr 1153) := by decide +kernel
theorem ks_15_834 : mks 15 834 = some (.inr 1154) := by decide +kernel
theorem ks_15_860 : mks 15 860 = some (.inr 1155) := by decide +kernel
theorem ks_16_37 : mks 16 37 = some (.inl 262144) := by decide +kernel
theorem ks_16_61 : mks 16 61 = some (.inl 262152) := by decide +kernel
theorem ks_16_62 : mks 16 62 = some (.inl 65536) := by decide +kernel
theorem ks_16_91 : mks 16 91 = some (.inr 1156) := by decide +kernel
theorem ks_16_97 : mks 16 97 = some (.inr 1157) := by decide +kernel
theorem ks_16_99 : mks 16 99 = some (.inr 1158) := by decide +kernel
theorem ks_16_101 : mks 16 101 = some (.inr 1159) := by decide +kernel
theorem ks_16_103 : mks 16 103 = some (.inr 1160) := by decide +kernel
theorem ks_16_105 : mks 16 105 = some (.inr 1161) := by decide +kernel
theorem ks_16_107 : mks 16 107 = some (.inr 1162) := by decide +kernel
theorem ks_16_109 : mks 16 109 = some (.inr 1163) := by decide +kernel
theorem ks_16_111 : mks 16 111 = some (.inr 1164) := by decide +kernel
theorem ks_16_113 : mks 16 113 = some (.inr 1165) := by decide +kernel
theorem ks_16_115 : mks 16 115 = some (.inr 1166) := by decide +kernel
theorem ks_16_117 : mks 16 117 = some (.inr 1167) := by decide +kernel
theorem ks_16_132 : mks 16 132 = some (.inr 1168) := by decide +kernel
theorem ks_16_143 : mks 16 143 = some (.inr 1169) := by decide +kernel
theorem ks_16_158 : mks 16 158 = some (.inr 1170) := by decide +kernel
theorem ks_16_193 : mks 16 193 = some (.inr 1171) := by decide +kernel
theorem ks_16_205 : mks 16 205 = some (.inr 1172) := by decide +kernel
theorem ks_16_213 : mks 16 213 = some (.inr 1173) := by decide +kernel
theorem ks_16_218 : mks 16 218 = some (.inr 1174) := by decide +kernel
theorem ks_16_226 : mks 16 226 = some (.inr 1175) := by decide +kernel
theorem ml_0_129 : mlk 0 129 = some (0, y_J_forget, b_J_forget, 2, 0, 0, 0) := rfl
theorem ml_0_132 : mlk 0 132 = some (0, y_Store_load, b_Store_load, 7, 2, 1, 1) := rfl
theorem ml_0_136 : mlk 0 136 = some (0, y_Reader_start, b_Reader_start, 1, 0, 0, 2) := rfl
theorem ml_0_142 : mlk 0 142 = some (0, y_Reader_fail, b_Reader_fail, 2, 1, 0, 2) := rfl
theorem ml_0_151 : mlk 0 151 = some (0, y_Entities_start, b_Entities_start, 1, 0, 0, 3) := rfl
theorem ml_0_152 : mlk 0 152 = some (0, y_Content_readAll, b_Content_readAll, 4, 0, 0, 7) := rfl
theorem ml_0_165 : mlk 0 165 = some (0, y_Tree_forget, b_Tree_forget, 1, 0, 0, 6) := rfl
theorem ml_0_166 : mlk 0 166 = some (0, y_Validator_countAll, b_Validator_countAll, 1, 0, 0, 8) := rfl
theorem ml_0_172 : mlk 0 172 = some (0, y_Meanings_countAll, b_Meanings_countAll, 6, 1, 0, 10) := rfl
theorem ml_0_174 : mlk 0 174 = some (0, y_Validator_sum, b_Validator_sum, 3, 0, 1, 8) := rfl
theorem ml_0_181 : mlk 0 181 = some (0, y_Entities_forget, b_Entities_forget, 2, 1, 0, 3) := rfl
theorem ml_0_183 : mlk 0 183 = some (0, y_Declared_forget, b_Declared_forget, 2, 1, 0, 4) := rfl
theorem ml_0_184 : mlk 0 184 = some (0, y_Meanings_forget, b_Meanings_forget, 2, 1, 0, 10) := rfl
theorem ml_0_185 : mlk 0 185 = some (0, y_Store_forget, b_Store_forget, 2, 0, 0, 1) := rfl
theorem ml_0_186 : mlk 0 186 = some (0, y_Doctype_forget, b_Doctype_forget, 1, 0, 0, 5) := rfl
theorem ml_0_195 : mlk 0 195 = some (0, y_Tree_has, b_Tree_has, 2, 1, 2, 6) := rfl
theorem ml_0_208 : mlk 0 208 = some (0, y_Store_letter, b_Store_letter, 3, 2, 1, 1) := rfl
theorem ml_0_227 : mlk 0 227 = some (0, y_Meanings_sum, b_Meanings_sum, 3, 0, 1, 10) := rfl
theorem ml_0_234 : mlk 0 234 = some (0, y_Writer_write, b_Writer_write, 3, 0, 2, 11) := rfl
theorem ml_0_244 : mlk 0 244 = some (17, (⟨"", "", ""⟩ : MethodName), ByteArray.empty, 0, 0, 0, 0) := rfl
theorem ml_1_16 : mlk 1 16 = some (13, (⟨"", "", ""⟩ : MethodName), ByteArray.empty, 0, 0, 0, 0) := rfl
theorem ml_1_104 : mlk 1 104 = some (10, (⟨"", "", ""⟩ : MethodName), ByteArray.empty, 0, 0, 0, 0) := rfl
theorem ml_1_110 : mlk 1 110 = some (11, (⟨"", "", ""⟩ : MethodName), ByteArray.empty, 0, 0, 0, 0) := rfl
theorem ml_1_114 : mlk 1 114 = some (0, y_Store_add, b_Store_add, 2, 1, 0, 1) := rfl
theorem ml_1_118 : mlk 1 118 = some (0, y_Store_intern, b_Store_intern, 5, 2, 1, 1) := rfl
theorem ml_1_130 : mlk 1 130 = some (0, y_Store_loadWide, b_Store_loadWide, 8, 3, 1, 1) := rfl
theorem ml_1_134 : mlk 1 134 = some (0, y_Store_loadNarrow, b_Store_loadNarrow, 10, 3, 1, 1) := rfl
theorem ml_1_140 : mlk 1 140 = some (1, y_Reader_isCharacter, b_Reader_isCharacter, 1, 1, 2, 2) := rfl
theorem ml_1_146 : mlk 1 146 = some (0, y_Store_addToText, b_Store_addToText, 2, 1, 0, 1) := rfl
theorem ml_1_156 : mlk 1 156 = some (0, y_Store_find, b_Store_find, 8, 2, 1, 1) := rfl
theorem ml_2_52 : mlk 2 52 = some (10, (⟨"", "", ""⟩ : MethodName), ByteArray.empty, 0, 0, 0, 0) := rfl
theorem ml_2_58 : mlk 2 58 = some (11, (⟨"", "", ""⟩ : MethodName), ByteArray.empty, 0, 0, 0, 0) := rfl
theorem ml_2_62 : mlk 2 62 = some (0, y_Reader_at, b_Reader_at, 4, 1, 2, 2) := rfl
theorem ml_2_66 : mlk 2 66 = some (0, y_Reader_fail, b_Reader_fail, 2, 1, 0, 2) := rfl
theorem ml_2_70 : mlk 2 70 = some (1, y_Reader_isSpace, b_Reader_isSpace, 1, 1, 2, 2) := rfl
theorem ml_2_74 : mlk 2 74 = some (0, y_Reader_skipSpace, b_Reader_skipSpace, 3, 0, 2, 2) := rfl
theorem ml_2_78 : mlk 2 78 = some (1, y_Reader_isNoStart, b_Reader_isNoStart, 1, 1, 2, 2) := rfl
theorem ml_2_81 : mlk 2 81 = some (1, y_Reader_isNameCharacter, b_Reader_isNameCharacter, 2, 1, 2, 2) := rfl
theorem ml_2_86 : mlk 2 86 = some (0, y_Reader_need, b_Reader_need, 2, 1, 0, 2) := rfl
theorem ml_2_92 : mlk 2 92 = some (0, y_Reader_seek, b_Reader_seek, 3, 1, 0, 2) := rfl
theorem ml_2_99 : mlk 2 99 = some (0, y_Reader_readName, b_Reader_readName, 3, 0, 1, 2) := rfl
theorem ml_2_110 : mlk 2 110 = some (0, y_Reader_isWrittenAs, b_Reader_isWrittenAs, 6, 3, 2, 2) := rfl
theorem ml_2_122 : mlk 2 122 = some (0, y_Reader_lookForColon, b_Reader_lookForColon, 4, 2, 0, 2) := rfl
theorem ml_2_135 : mlk 2 135 = some (0, y_Reader_skip, b_Reader_skip, 3, 1, 2, 2) := rfl
theorem ml_2_138 : mlk 2 138 = some (0, y_Reader_readNumber, b_Reader_readNumber, 7, 1, 0, 2) := rfl
theorem ml_2_146 : mlk 2 146 = some (13, (⟨"", "", ""⟩ : MethodName), ByteArray.empty, 0, 0, 0, 0) := rfl
theorem ml_2_152 : mlk 2 152 = some (0, y_Reader_peek, b_Reader_peek, 1, 0, 1, 2) := rfl
theorem ml_2_155 : mlk 2 155 = some (0, y_Reader_readLiteral, b_Reader_readLiteral, 3, 0, 0, 2) := rfl
theorem ml_2_158 : mlk 2 158 = some (1, y_Reader_isLetter, b_Reader_isLetter, 1, 1, 2, 2) := rfl
theorem ml_2_161 : mlk 2 161 = some (1, y_Reader_isDigit, b_Reader_isDigit, 1, 1, 2, 2) := rfl
theorem ml_2_166 : mlk 2 166 = some (12, (⟨"", "", ""⟩ : MethodName), ByteArray.empty, 0, 0, 0, 0) := rfl
theorem ml_2_172 : mlk 2 172 = some (0, y_Reader_needSpace, b_Reader_needSpace, 1, 0, 0, 2) := rfl
theorem ml_2_177 : mlk 2 177 = some (0, y_Reader_readPublicLiteral, b_Reader_readPublicLiteral, 3, 0, 0, 2) := rfl
theorem ml_2_180 : mlk 2 180 = some (0, y_Reader_atQuote, b_Reader_atQuote, 2, 0, 2, 2) := rfl
theorem ml_2_184 : mlk 2 184 = some (0, y_Reader_readReference, b_Reader_readReference, 1, 0, 0, 2) := rfl
theorem ml_3_57 : mlk 3 57 = some (16, (⟨"", "", ""⟩ : MethodName), ByteArray.empty, 0, 0, 0, 0) := rfl
theorem ml_3_96 : mlk 3 96 = some (0, y_Reader_peek, b_Reader_peek, 1, 0, 1, 2) := rfl
theorem ml_3_100 : mlk 3 100 = some (0, y_Reader_readReference, b_Reader_readReference, 1, 0, 0, 2) := rfl
theorem ml_3_103 : mlk 3 103 = some (0, y_Entities_addReference, b_Entities_addReference, 3, 1, 0, 3) := rfl
theorem ml_3_107 : mlk 3 107 = some (0, y_Reader_fail, b_Reader_fail, 2, 1, 0, 2) := rfl
theorem ml_3_110 : mlk 3 110 = some (0, y_Store_add, b_Store_add, 2, 1, 0, 1) := rfl
theorem ml_3_119 : mlk 3 119 = some (1, y_Reader_isCharacter, b_Reader_isCharacter, 1, 1, 2, 2) := rfl
theorem ml_3_123 : mlk 3 123 = some (0, y_Entities_enter, b_Entities_enter, 3, 2, 0, 3) := rfl
theorem ml_3_133 : mlk 3 133 = some (0, y_Store_find, b_Store_find, 8, 2, 1, 1) := rfl
theorem ml_3_139 : mlk 3 139 = some (11, (⟨"", "", ""⟩ : MethodName), ByteArray.empty, 0, 0, 0, 0) := rfl
theorem ml_3_149 : mlk 3 149 = some (0, y_Entities_leave, b_Entities_leave, 1, 0, 0, 3) := rfl
theorem ml_3_152 : mlk 3 152 = some (0, y_Entities_mean, b_Entities_mean, 4, 1, 1, 3) := rfl
theorem ml_3_156 : mlk 3 156 = some (1, y_Reader_isSpace, b_Reader_isSpace, 1, 1, 2, 2) := rfl
theorem ml_3_159 : mlk 3 159 = some (0, y_Store_internAdded, b_Store_internAdded, 4, 1, 1, 1) := rfl
theorem ml_4_63 : mlk 4 63 = some (16, (⟨"", "", ""⟩ : MethodName), ByteArray.empty, 0, 0, 0, 0) := rfl
theorem ml_4_84 : mlk 4 84 = some (0, y_Declared_find, b_Declared_find, 5, 2, 1, 4) := rfl
theorem ml_5_53 : mlk 5 53 = some (0, y_Reader_need, b_Reader_need, 2, 1, 0, 2) := rfl
theorem ml_5_59 : mlk 5 59 = some (0, y_Reader_needSpace, b_Reader_needSpace, 1, 0, 0, 2) := rfl
theorem ml_5_62 : mlk 5 62 = some (0, y_Reader_readName, b_Reader_readName, 3, 0, 1, 2) := rfl
theorem ml_5_69 : mlk 5 69 = some (0, y_Reader_skipSpace, b_Reader_skipSpace, 3, 0, 2, 2) := rfl
theorem ml_5_75 : mlk 5 75 = some (0, y_Reader_at, b_Reader_at, 4, 1, 2, 2) := rfl
theorem ml_5_81 : mlk 5 81 = some (0, y_Reader_readOutside, b_Reader_readOutside, 2, 1, 0, 2) := rfl
theorem ml_5_87 : mlk 5 87 = some (0, y_Reader_skip, b_Reader_skip, 3, 1, 2, 2) := rfl
theorem ml_5_92 : mlk 5 92 = some (0, y_Reader_fail, b_Reader_fail, 2, 1, 0, 2) := rfl
theorem ml_5_96 : mlk 5 96 = some (0, y_Store_intern, b_Store_intern, 5, 2, 1, 1) := rfl
theorem ml_5_102 : mlk 5 102 = some (0, y_Reader_peek, b_Reader_peek, 1, 0, 1, 2) := rfl
theorem ml_5_105 : mlk 5 105 = some (1, y_Reader_isSpace, b_Reader_isSpace, 1, 1, 2, 2) := rfl
theorem ml_5_109 : mlk 5 109 = some (0, y_Doctype_readParameterReference, b_Doctype_readParameterReference, 3, 0, 0, 5) := rfl
theorem ml_5_117 : mlk 5 117 = some (0, y_Doctype_readEnd, b_Doctype_readEnd, 1, 0, 0, 5) := rfl
theorem ml_5_122 : mlk 5 122 = some (0, y_Reader_readComment, b_Reader_readComment, 1, 0, 0, 2) := rfl
theorem ml_5_127 : mlk 5 127 = some (0, y_Reader_readInstruction, b_Reader_readInstruction, 1, 0, 0, 2) := rfl
theorem ml_5_132 : mlk 5 132 = some (0, y_Doctype_readElement, b_Doctype_readElement, 5, 0, 0, 5) := rfl
theorem ml_5_137 : mlk 5 137 = some (0, y_Doctype_readAttributes, b_Doctype_readAttributes, 13, 1, 0, 5) := rfl
theorem ml_5_145 : mlk 5 145 = some (0, y_Doctype_readEntity, b_Doctype_readEntity, 5, 0, 0, 5) := rfl
theorem ml_5_150 : mlk 5 150 = some (0, y_Doctype_readNotation, b_Doctype_readNotation, 3, 0, 0, 5) := rfl
theorem ml_5_159 : mlk 5 159 = some (0, y_Store_find, b_Store_find, 8, 2, 1, 1) := rfl
theorem ml_5_162 : mlk 5 162 = some (0, y_Entities_enterParameter, b_Entities_enterParameter, 3, 1, 0, 3) := rfl
theorem ml_5_175 : mlk 5 175 = some (0, y_Doctype_readMixed, b_Doctype_readMixed, 3, 0, 0, 5) := rfl
theorem ml_5_178 : mlk 5 178 = some (0, y_Doctype_readModel, b_Doctype_readModel, 5, 0, 0, 5) := rfl
theorem ml_5_187 : mlk 5 187 = some (0, y_Declared_addElement, b_Declared_addElement, 4, 3, 0, 4) := rfl
theorem ml_5_198 : mlk 5 198 = some (14, (⟨"", "", ""⟩ : MethodName), ByteArray.empty, 0, 0, 0, 0) := rfl
theorem ml_5_201 : mlk 5 201 = some (0, y_Doctype_skipHowOften, b_Doctype_skipHowOften, 2, 0, 0, 5) := rfl
theorem ml_5_207 : mlk 5 207 = some (0, y_Doctype_readType, b_Doctype_readType, 4, 1, 1, 5) := rfl
theorem ml_5_211 : mlk 5 211 = some (0, y_Doctype_readHow, b_Doctype_readHow, 1, 0, 1, 5) := rfl
theorem ml_5_214 : mlk 5 214 = some (0, y_Entities_readValue, b_Entities_readValue, 8, 0, 1, 3) := rfl
theorem ml_5_217 : mlk 5 217 = some (0, y_Entities_keepValue, b_Entities_keepValue, 6, 2, 1, 3) := rfl
theorem ml_5_220 : mlk 5 220 = some (0, y_Reader_checkValue, b_Reader_checkValue, 4, 0, 0, 2) := rfl
theorem ml_5_223 : mlk 5 223 = some (0, y_Declared_addAttribute, b_Declared_addAttribute, 8, 6, 0, 4) := rfl
theorem ml_5_227 : mlk 5 227 = some (0, y_Doctype_readList, b_Doctype_readList, 6, 2, 0, 5) := rfl
theorem ml_5_231 : mlk 5 231 = some (0, y_Reader_readToken, b_Reader_readToken, 3, 0, 1, 2) := rfl
theorem ml_5_234 : mlk 5 234 = some (0, y_Declared_addListed, b_Declared_addListed, 2, 1, 0, 4) := rfl
theorem ml_5_243 : mlk 5 243 = some (0, y_Reader_atQuote, b_Reader_atQuote, 2, 0, 2, 2) := rfl
theorem ml_5_246 : mlk 5 246 = some (0, y_Reader_checkEntityText, b_Reader_checkEntityText, 6, 0, 0, 2) := rfl
theorem ml_5_251 : mlk 5 251 = some (0, y_Reader_lookForColon, b_Reader_lookForColon, 4, 2, 0, 2) := rfl
theorem ml_5_261 : mlk 5 261 = some (0, y_Entities_declare, b_Entities_declare, 10, 4, 0, 3) := rfl
theorem ml_5_265 : mlk 5 265 = some (0, y_Declared_addNotation, b_Declared_addNotation, 2, 1, 0, 4) := rfl
theorem ml_6_64 : mlk 6 64 = some (0, y_Tree_note, b_Tree_note, 2, 1, 0, 6) := rfl
theorem ml_6_68 : mlk 6 68 = some (0, y_Tree_put, b_Tree_put, 2, 1, 0, 6) := rfl
theorem ml_7_37 : mlk 7 37 = some (0, y_Reader_at, b_Reader_at, 4, 1, 2, 2) := rfl
theorem ml_7_56 : mlk 7 56 = some (1, y_Reader_isSpace, b_Reader_isSpace, 1, 1, 2, 2) := rfl
theorem ml_7_60 : mlk 7 60 = some (0, y_Content_readHead, b_Content_readHead, 5, 0, 0, 7) := rfl
theorem ml_7_78 : mlk 7 78 = some (0, y_Content_finish, b_Content_finish, 1, 0, 2, 7) := rfl
theorem ml_7_88 : mlk 7 88 = some (0, y_Doctype_readItem, b_Doctype_readItem, 3, 0, 0, 5) := rfl
theorem ml_7_95 : mlk 7 95 = some (0, y_Content_isTagInside, b_Content_isTagInside, 2, 0, 2, 7) := rfl
theorem ml_7_98 : mlk 7 98 = some (0, y_Content_isTagAround, b_Content_isTagAround, 2, 0, 2, 7) := rfl
theorem ml_7_101 : mlk 7 101 = some (0, y_Content_readTag, b_Content_readTag, 12, 1, 0, 7) := rfl
theorem ml_7_108 : mlk 7 108 = some (0, y_Reader_fail, b_Reader_fail, 2, 1, 0, 2) := rfl
theorem ml_7_112 : mlk 7 112 = some (0, y_Entities_elementBefore, b_Entities_elementBefore, 1, 0, 1, 3) := rfl
theorem ml_7_116 : mlk 7 116 = some (0, y_Entities_leave, b_Entities_leave, 1, 0, 0, 3) := rfl
theorem ml_7_119 : mlk 7 119 = some (0, y_Reader_need, b_Reader_need, 2, 1, 0, 2) := rfl
theorem ml_7_123 : mlk 7 123 = some (0, y_Reader_needSpace, b_Reader_needSpace, 1, 0, 0, 2) := rfl
theorem ml_7_128 : mlk 7 128 = some (0, y_Content_readQuoteOf, b_Content_readQuoteOf, 3, 1, 1, 7) := rfl
theorem ml_7_134 : mlk 7 134 = some (0, y_Content_readLetters, b_Content_readLetters, 5, 1, 0, 7) := rfl
theorem ml_7_137 : mlk 7 137 = some (0, y_Content_readQuote, b_Content_readQuote, 2, 1, 0, 7) := rfl
theorem ml_7_140 : mlk 7 140 = some (0, y_Reader_skipSpace, b_Reader_skipSpace, 3, 0, 2, 2) := rfl
theorem ml_7_145 : mlk 7 145 = some (0, y_Reader_peek, b_Reader_peek, 1, 0, 1, 2) := rfl
theorem ml_7_148 : mlk 7 148 = some (1, y_Reader_isLetter, b_Reader_isLetter, 1, 1, 2, 2) := rfl
theorem ml_7_155 : mlk 7 155 = some (0, y_Reader_skip, b_Reader_skip, 3, 1, 2, 2) := rfl
theorem ml_7_171 : mlk 7 171 = some (0, y_Reader_isWrittenAs, b_Reader_isWrittenAs, 6, 3, 2, 2) := rfl
theorem ml_7_177 : mlk 7 177 = some (0, y_Reader_atQuote, b_Reader_atQuote, 2, 0, 2, 2) := rfl
theorem ml_7_180 : mlk 7 180 = some (1, y_Reader_isDigit, b_Reader_isDigit, 1, 1, 2, 2) := rfl
theorem ml_7_185 : mlk 7 185 = some (0, y_Reader_readComment, b_Reader_readComment, 1, 0, 0, 2) := rfl
theorem ml_7_190 : mlk 7 190 = some (0, y_Content_readInstruction, b_Content_readInstruction, 1, 0, 0, 7) := rfl
theorem ml_7_202 : mlk 7 202 = some (0, y_Doctype_readBegin, b_Doctype_readBegin, 5, 0, 0, 5) := rfl
theorem ml_7_205 : mlk 7 205 = some (0, y_Content_readReference, b_Content_readReference, 2, 0, 0, 7) := rfl
theorem ml_7_208 : mlk 7 208 = some (0, y_Content_readRun, b_Content_readRun, 4, 0, 0, 7) := rfl
theorem ml_7_211 : mlk 7 211 = some (0, y_Content_readEnd, b_Content_readEnd, 3, 0, 0, 7) := rfl
theorem ml_7_214 : mlk 7 214 = some (0, y_Tree_note, b_Tree_note, 2, 1, 0, 6) := rfl
theorem ml_7_217 : mlk 7 217 = some (0, y_Content_readSection, b_Content_readSection, 2, 0, 0, 7) := rfl
theorem ml_7_220 : mlk 7 220 = some (0, y_Reader_readInstruction, b_Reader_readInstruction, 1, 0, 0, 2) := rfl
theorem ml_7_233 : mlk 7 233 = some (0, y_Tree_addInstruction, b_Tree_addInstruction, 5, 4, 0, 6) := rfl
theorem ml_7_237 : mlk 7 237 = some (0, y_Tree_tooMany, b_Tree_tooMany, 1, 0, 2, 6) := rfl
theorem ml_7_240 : mlk 7 240 = some (0, y_Reader_readReference, b_Reader_readReference, 1, 0, 0, 2) := rfl
theorem ml_7_241 : mlk 7 241 = some (0, y_Entities_mean, b_Entities_mean, 4, 1, 1, 3) := rfl
theorem ml_7_245 : mlk 7 245 = some (0, y_Tree_addCharacter, b_Tree_addCharacter, 2, 1, 0, 6) := rfl
theorem ml_7_248 : mlk 7 248 = some (0, y_Reader_readRun, b_Reader_readRun, 3, 0, 0, 2) := rfl
theorem ml_7_249 : mlk 7 249 = some (0, y_Reader_readSection, b_Reader_readSection, 1, 0, 0, 2) := rfl
theorem ml_7_250 : mlk 7 250 = some (0, y_Reader_readName, b_Reader_readName, 3, 0, 1, 2) := rfl
theorem ml_7_255 : mlk 7 255 = some (0, y_Store_find, b_Store_find, 8, 2, 1, 1) := rfl
theorem ml_7_262 : mlk 7 262 = some (0, y_Tree_endElement, b_Tree_endElement, 1, 0, 0, 6) := rfl
theorem ml_7_267 : mlk 7 267 = some (0, y_Store_intern, b_Store_intern, 5, 2, 1, 1) := rfl
theorem ml_7_270 : mlk 7 270 = some (0, y_Store_newMark, b_Store_newMark, 1, 0, 1, 1) := rfl
theorem ml_7_273 : mlk 7 273 = some (0, y_Tree_beginElement, b_Tree_beginElement, 2, 1, 0, 6) := rfl
theorem ml_7_281 : mlk 7 281 = some (0, y_Reader_checkValue, b_Reader_checkValue, 4, 0, 0, 2) := rfl
theorem ml_7_284 : mlk 7 284 = some (0, y_Declared_find, b_Declared_find, 5, 2, 1, 4) := rfl
theorem ml_7_287 : mlk 7 287 = some (0, y_Entities_readValue, b_Entities_readValue, 8, 0, 1, 3) := rfl
theorem ml_7_293 : mlk 7 293 = some (0, y_Entities_keepValue, b_Entities_keepValue, 6, 2, 1, 3) := rfl
theorem ml_7_296 : mlk 7 296 = some (0, y_Tree_addAttribute, b_Tree_addAttribute, 5, 4, 0, 6) := rfl
theorem ml_7_300 : mlk 7 300 = some (0, y_Content_finishTag, b_Content_finishTag, 6, 3, 0, 7) := rfl
theorem ml_8_71 : mlk 8 71 = some (15, (⟨"", "", ""⟩ : MethodName), ByteArray.empty, 0, 0, 0, 0) := rfl
theorem ml_8_95 : mlk 8 95 = some (0, y_Validator_link, b_Validator_link, 4, 0, 0, 8) := rfl
theorem ml_8_98 : mlk 8 98 = some (0, y_Validator_countElements, b_Validator_countElements, 6, 0, 0, 8) := rfl
theorem ml_8_101 : mlk 8 101 = some (0, y_Validator_countTags, b_Validator_countTags, 7, 0, 0, 8) := rfl
theorem ml_8_104 : mlk 8 104 = some (0, y_Validator_countIdentities, b_Validator_countIdentities, 6, 0, 0, 8) := rfl
theorem ml_8_107 : mlk 8 107 = some (0, y_Validator_countReferences, b_Validator_countReferences, 5, 0, 0, 8) := rfl
theorem ml_8_110 : mlk 8 110 = some (0, y_Validator_countAttributes, b_Validator_countAttributes, 8, 0, 0, 8) := rfl
theorem ml_8_116 : mlk 8 116 = some (16, (⟨"", "", ""⟩ : MethodName), ByteArray.empty, 0, 0, 0, 0) := rfl
theorem ml_8_134 : mlk 8 134 = some (0, y_Validator_markMixed, b_Validator_markMixed, 7, 1, 1, 8) := rfl
theorem ml_8_138 : mlk 8 138 = some (0, y_Model_read, b_Model_read, 5, 1, 0, 9) := rfl
theorem ml_8_144 : mlk 8 144 = some (0, y_Model_isDeterministic, b_Model_isDeterministic, 3, 0, 2, 9) := rfl
theorem ml_8_148 : mlk 8 148 = some (0, y_Validator_fits, b_Validator_fits, 9, 3, 2, 8) := rfl
theorem ml_8_152 : mlk 8 152 = some (0, y_Store_newMark, b_Store_newMark, 1, 0, 1, 1) := rfl
theorem ml_8_172 : mlk 8 172 = some (0, y_Reader_at, b_Reader_at, 4, 1, 2, 2) := rfl
theorem ml_8_178 : mlk 8 178 = some (0, y_Reader_skip, b_Reader_skip, 3, 1, 2, 2) := rfl
theorem ml_8_181 : mlk 8 181 = some (0, y_Reader_skipSpace, b_Reader_skipSpace, 3, 0, 2, 2) := rfl
theorem ml_8_184 : mlk 8 184 = some (0, y_Reader_readName, b_Reader_readName, 3, 0, 1, 2) := rfl
theorem ml_8_187 : mlk 8 187 = some (0, y_Store_intern, b_Store_intern, 5, 2, 1, 1) := rfl
theorem ml_8_197 : mlk 8 197 = some (0, y_Model_begin, b_Model_begin, 1, 0, 0, 9) := rfl
theorem ml_8_200 : mlk 8 200 = some (0, y_Model_accept, b_Model_accept, 4, 1, 2, 9) := rfl
theorem ml_8_204 : mlk 8 204 = some (0, y_Model_isComplete, b_Model_isComplete, 1, 0, 2, 9) := rfl
theorem ml_8_220 : mlk 8 220 = some (0, y_Validator_isAsWanted, b_Validator_isAsWanted, 3, 2, 2, 8) := rfl
theorem ml_8_240 : mlk 8 240 = some (0, y_Validator_isMadeOf, b_Validator_isMadeOf, 8, 3, 2, 8) := rfl
theorem ml_8_244 : mlk 8 244 = some (0, y_Validator_isListed, b_Validator_isListed, 5, 2, 2, 8) := rfl
theorem ml_8_259 : mlk 8 259 = some (0, y_Store_letter, b_Store_letter, 3, 2, 1, 1) := rfl
theorem ml_8_262 : mlk 8 262 = some (1, y_Reader_isNameCharacter, b_Reader_isNameCharacter, 2, 1, 2, 2) := rfl
theorem ml_8_265 : mlk 8 265 = some (1, y_Reader_isNoStart, b_Reader_isNoStart, 1, 1, 2, 2) := rfl
theorem ml_8_274 : mlk 8 274 = some (0, y_Validator_countWords, b_Validator_countWords, 10, 3, 0, 8) := rfl
theorem ml_8_284 : mlk 8 284 = some (0, y_Store_find, b_Store_find, 8, 2, 1, 1) := rfl
theorem ml_8_290 : mlk 8 290 = some (0, y_Declared_isEmpty, b_Declared_isEmpty, 3, 1, 2, 4) := rfl
theorem ml_8_293 : mlk 8 293 = some (0, y_Validator_countListed, b_Validator_countListed, 7, 2, 0, 8) := rfl
theorem ml_9_66 : mlk 9 66 = some (0, y_Reader_peek, b_Reader_peek, 1, 0, 1, 2) := rfl
theorem ml_9_70 : mlk 9 70 = some (0, y_Model_readHowOften, b_Model_readHowOften, 3, 1, 0, 9) := rfl
theorem ml_9_74 : mlk 9 74 = some (0, y_Model_join, b_Model_join, 3, 1, 0, 9) := rfl
theorem ml_9_77 : mlk 9 77 = some (1, y_Reader_isSpace, b_Reader_isSpace, 1, 1, 2, 2) := rfl
theorem ml_9_81 : mlk 9 81 = some (0, y_Model_readOccurrence, b_Model_readOccurrence, 4, 1, 0, 9) := rfl
theorem ml_9_84 : mlk 9 84 = some (0, y_Reader_readName, b_Reader_readName, 3, 0, 1, 2) := rfl
theorem ml_9_87 : mlk 9 87 = some (13, (⟨"", "", ""⟩ : MethodName), ByteArray.empty, 0, 0, 0, 0) := rfl
theorem ml_9_93 : mlk 9 93 = some (0, y_Store_intern, b_Store_intern, 5, 2, 1, 1) := rfl
theorem ml_9_96 : mlk 9 96 = some (16, (⟨"", "", ""⟩ : MethodName), ByteArray.empty, 0, 0, 0, 0) := rfl
theorem ml_9_102 : mlk 9 102 = some (17, (⟨"", "", ""⟩ : MethodName), ByteArray.empty, 0, 0, 0, 0) := rfl
theorem ml_9_110 : mlk 9 110 = some (0, y_Reader_skip, b_Reader_skip, 3, 1, 2, 2) := rfl
theorem ml_9_116 : mlk 9 116 = some (0, y_Model_followAll, b_Model_followAll, 4, 2, 0, 9) := rfl
theorem ml_9_122 : mlk 9 122 = some (1, y_Model_has, b_Model_has, 3, 3, 2, 9) := rfl
theorem ml_9_126 : mlk 9 126 = some (1, y_Model_unite, b_Model_unite, 5, 4, 0, 9) := rfl
theorem ml_9_130 : mlk 9 130 = some (0, y_Model_isSingle, b_Model_isSingle, 5, 2, 2, 9) := rfl
theorem ml_9_134 : mlk 9 134 = some (0, y_Store_newMark, b_Store_newMark, 1, 0, 1, 1) := rfl
theorem ml_9_144 : mlk 9 144 = some (15, (⟨"", "", ""⟩ : MethodName), ByteArray.empty, 0, 0, 0, 0) := rfl
theorem ml_10_45 : mlk 10 45 = some (16, (⟨"", "", ""⟩ : MethodName), ByteArray.empty, 0, 0, 0, 0) := rfl
theorem ml_10_51 : mlk 10 51 = some (15, (⟨"", "", ""⟩ : MethodName), ByteArray.empty, 0, 0, 0, 0) := rfl
theorem ml_10_58 : mlk 10 58 = some (0, y_Meanings_splitAll, b_Meanings_splitAll, 2, 0, 0, 10) := rfl
theorem ml_10_61 : mlk 10 61 = some (0, y_Store_newMark, b_Store_newMark, 1, 0, 1, 1) := rfl
theorem ml_10_72 : mlk 10 72 = some (0, y_Meanings_leave, b_Meanings_leave, 4, 1, 0, 10) := rfl
theorem ml_10_79 : mlk 10 79 = some (0, y_Meanings_enter, b_Meanings_enter, 4, 1, 0, 10) := rfl
theorem ml_10_82 : mlk 10 82 = some (0, y_Meanings_countNames, b_Meanings_countNames, 3, 1, 0, 10) := rfl
theorem ml_10_85 : mlk 10 85 = some (0, y_Meanings_countDeclarations, b_Meanings_countDeclarations, 6, 2, 0, 10) := rfl
theorem ml_10_95 : mlk 10 95 = some (0, y_Meanings_split, b_Meanings_split, 6, 1, 0, 10) := rfl
theorem ml_10_104 : mlk 10 104 = some (0, y_Store_letter, b_Store_letter, 3, 2, 1, 1) := rfl
theorem ml_10_108 : mlk 10 108 = some (1, y_Reader_isNoStart, b_Reader_isNoStart, 1, 1, 2, 2) := rfl
theorem ml_10_117 : mlk 10 117 = some (0, y_Store_intern, b_Store_intern, 5, 2, 1, 1) := rfl
theorem ml_10_120 : mlk 10 120 = some (0, y_Meanings_prefix, b_Meanings_prefix, 2, 1, 1, 10) := rfl
theorem ml_10_133 : mlk 10 133 = some (0, y_Meanings_declares, b_Meanings_declares, 3, 1, 1, 10) := rfl
theorem ml_10_136 : mlk 10 136 = some (0, y_Meanings_countName, b_Meanings_countName, 3, 1, 0, 10) := rfl
theorem ml_10_139 : mlk 10 139 = some (0, y_Meanings_meaning, b_Meanings_meaning, 3, 1, 1, 10) := rfl
theorem ml_10_142 : mlk 10 142 = some (0, y_Meanings_hasBefore, b_Meanings_hasBefore, 4, 2, 2, 10) := rfl
theorem ml_10_146 : mlk 10 146 = some (0, y_Meanings_local, b_Meanings_local, 2, 1, 1, 10) := rfl
theorem ml_10_149 : mlk 10 149 = some (0, y_Meanings_isAbsolute, b_Meanings_isAbsolute, 4, 1, 2, 10) := rfl
theorem ml_10_152 : mlk 10 152 = some (1, y_Reader_isLetter, b_Reader_isLetter, 1, 1, 2, 2) := rfl
theorem ml_10_155 : mlk 10 155 = some (1, y_Reader_isDigit, b_Reader_isDigit, 1, 1, 2, 2) := rfl
theorem ml_11_60 : mlk 11 60 = some (0, y_Writer_putCharacter, b_Writer_putCharacter, 3, 2, 0, 11) := rfl
theorem ml_11_64 : mlk 11 64 = some (0, y_Writer_putInstruction, b_Writer_putInstruction, 6, 1, 0, 11) := rfl
theorem ml_11_68 : mlk 11 68 = some (0, y_Writer_putEnd, b_Writer_putEnd, 1, 0, 0, 11) := rfl
theorem ml_11_71 : mlk 11 71 = some (0, y_Writer_putBegin, b_Writer_putBegin, 4, 1, 0, 11) := rfl
theorem ml_11_80 : mlk 11 80 = some (0, y_Meanings_enter, b_Meanings_enter, 4, 1, 0, 10) := rfl
theorem ml_11_85 : mlk 11 85 = some (0, y_Writer_put, b_Writer_put, 2, 1, 0, 11) := rfl
theorem ml_11_91 : mlk 11 91 = some (0, y_Writer_putWord, b_Writer_putWord, 3, 1, 0, 11) := rfl
theorem ml_11_100 : mlk 11 100 = some (0, y_Meanings_declares, b_Meanings_declares, 3, 1, 1, 10) := rfl
theorem ml_11_104 : mlk 11 104 = some (0, y_Meanings_isIdle, b_Meanings_isIdle, 2, 1, 2, 10) := rfl
theorem ml_11_108 : mlk 11 108 = some (0, y_Writer_sort, b_Writer_sort, 3, 1, 0, 11) := rfl
theorem ml_11_113 : mlk 11 113 = some (0, y_Writer_putText, b_Writer_putText, 3, 1, 0, 11) := rfl
theorem ml_11_120 : mlk 11 120 = some (0, y_Writer_putValue, b_Writer_putValue, 3, 1, 0, 11) := rfl
theorem ml_11_125 : mlk 11 125 = some (0, y_Meanings_leave, b_Meanings_leave, 4, 1, 0, 10) := rfl
theorem ml_11_138 : mlk 11 138 = some (0, y_Writer_putBytes, b_Writer_putBytes, 2, 1, 0, 11) := rfl
theorem ml_11_147 : mlk 11 147 = some (0, y_Store_letter, b_Store_letter, 3, 2, 1, 1) := rfl
theorem ml_11_163 : mlk 11 163 = some (10, (⟨"", "", ""⟩ : MethodName), ByteArray.empty, 0, 0, 0, 0) := rfl
theorem ml_11_169 : mlk 11 169 = some (11, (⟨"", "", ""⟩ : MethodName), ByteArray.empty, 0, 0, 0, 0) := rfl
theorem ml_11_174 : mlk 11 174 = some (0, y_Writer_sink, b_Writer_sink, 6, 2, 0, 11) := rfl
theorem ml_11_178 : mlk 11 178 = some (0, y_Writer_swap, b_Writer_swap, 4, 2, 0, 11) := rfl
theorem ml_11_181 : mlk 11 181 = some (0, y_Writer_isBefore, b_Writer_isBefore, 6, 2, 2, 11) := rfl
theorem ml_11_185 : mlk 11 185 = some (0, y_Store_compare, b_Store_compare, 6, 2, 1, 1) := rfl
theorem ml_11_188 : mlk 11 188 = some (0, y_Meanings_meaning, b_Meanings_meaning, 3, 1, 1, 10) := rfl
theorem ml_11_191 : mlk 11 191 = some (0, y_Meanings_local, b_Meanings_local, 2, 1, 1, 10) := rfl
theorem ml_12_2 : mlk 12 2 = some (1, y_K_isIn, b_K_isIn, 3, 3, 2, 12) := rfl
theorem ml_12_16 : mlk 12 16 = some (1, y_K_isStart, b_K_isStart, 1, 1, 2, 12) := rfl
theorem ml_12_94 : mlk 12 94 = some (0, y_K_take, b_K_take, 3, 1, 0, 12) := rfl
theorem ml_12_98 : mlk 12 98 = some (0, y_KReader_read, b_KReader_read, 6, 5, 2, 15) := rfl
theorem ml_12_121 : mlk 12 121 = some (0, y_K_isElement, b_K_isElement, 2, 1, 2, 12) := rfl
theorem ml_12_130 : mlk 12 130 = some (0, y_KBook_length, b_KBook_length, 2, 1, 1, 13) := rfl
theorem ml_12_134 : mlk 12 134 = some (0, y_KBook_at, b_KBook_at, 3, 2, 1, 13) := rfl
theorem ml_12_141 : mlk 12 141 = some (0, y_K_letterOf, b_K_letterOf, 3, 2, 1, 12) := rfl
theorem ml_12_165 : mlk 12 165 = some (1, y_K_isLetter, b_K_isLetter, 1, 1, 2, 12) := rfl
theorem ml_12_168 : mlk 12 168 = some (1, y_K_isDigit, b_K_isDigit, 1, 1, 2, 12) := rfl
theorem ml_12_174 : mlk 12 174 = some (0, y_KDoc_isDeclaration, b_KDoc_isDeclaration, 3, 1, 2, 14) := rfl
theorem ml_12_177 : mlk 12 177 = some (0, y_K_isAbsolute, b_K_isAbsolute, 5, 1, 2, 12) := rfl
theorem ml_12_180 : mlk 12 180 = some (0, y_KWriter_writeRow, b_KWriter_writeRow, 3, 2, 1, 16) := rfl
theorem ml_12_184 : mlk 12 184 = some (0, y_K_refusal, b_K_refusal, 4, 0, 1, 12) := rfl
theorem ml_12_191 : mlk 12 191 = some (0, y_KWriter_writeTo, b_KWriter_writeTo, 3, 2, 0, 16) := rfl
theorem ml_12_195 : mlk 12 195 = some (0, y_KReader_readLetters, b_KReader_readLetters, 6, 3, 2, 15) := rfl
theorem ml_12_199 : mlk 12 199 = some (0, y_KWriter_isBeside, b_KWriter_isBeside, 3, 2, 2, 16) := rfl
theorem ml_13_37 : mlk 13 37 = some (1, y_KBook_bucket, b_KBook_bucket, 5, 3, 1, 13) := rfl
theorem ml_13_41 : mlk 13 41 = some (0, y_KBook_is, b_KBook_is, 6, 4, 2, 13) := rfl
theorem ml_13_45 : mlk 13 45 = some (0, y_KBook_find, b_KBook_find, 5, 3, 1, 13) := rfl
theorem ml_13_48 : mlk 13 48 = some (10, (⟨"", "", ""⟩ : MethodName), ByteArray.empty, 0, 0, 0, 0) := rfl
theorem ml_13_54 : mlk 13 54 = some (0, y_KBook_at, b_KBook_at, 3, 2, 1, 13) := rfl
theorem ml_13_58 : mlk 13 58 = some (11, (⟨"", "", ""⟩ : MethodName), ByteArray.empty, 0, 0, 0, 0) := rfl
theorem ml_14_64 : mlk 14 64 = some (0, y_KBook_clear, b_KBook_clear, 2, 0, 0, 13) := rfl
theorem ml_14_91 : mlk 14 91 = some (0, y_KDoc_event, b_KDoc_event, 2, 1, 0, 14) := rfl
theorem ml_14_95 : mlk 14 95 = some (0, y_KDoc_add, b_KDoc_add, 2, 1, 0, 14) := rfl
theorem ml_14_98 : mlk 14 98 = some (0, y_KDoc_same, b_KDoc_same, 6, 4, 2, 14) := rfl
theorem ml_14_102 : mlk 14 102 = some (0, y_KBook_length, b_KBook_length, 2, 1, 1, 13) := rfl
theorem ml_14_106 : mlk 14 106 = some (0, y_KBook_at, b_KBook_at, 3, 2, 1, 13) := rfl
theorem ml_14_110 : mlk 14 110 = some (2, y_K_isStart, b_K_isStart, 1, 1, 2, 12) := rfl
theorem ml_14_114 : mlk 14 114 = some (0, y_KDoc_colon, b_KDoc_colon, 4, 1, 1, 14) := rfl
theorem ml_14_118 : mlk 14 118 = some (0, y_KBook_start, b_KBook_start, 2, 1, 1, 13) := rfl
theorem ml_14_121 : mlk 14 121 = some (0, y_KBook_keep, b_KBook_keep, 6, 3, 1, 13) := rfl
theorem ml_14_127 : mlk 14 127 = some (0, y_KBook_says, b_KBook_says, 4, 2, 2, 13) := rfl
theorem ml_14_131 : mlk 14 131 = some (0, y_KDoc_isDeclaration, b_KDoc_isDeclaration, 3, 1, 2, 14) := rfl
theorem ml_14_134 : mlk 14 134 = some (0, y_KDoc_declares, b_KDoc_declares, 3, 2, 2, 14) := rfl
theorem ml_14_138 : mlk 14 138 = some (10, (⟨"", "", ""⟩ : MethodName), ByteArray.empty, 0, 0, 0, 0) := rfl
theorem ml_14_143 : mlk 14 143 = some (11, (⟨"", "", ""⟩ : MethodName), ByteArray.empty, 0, 0, 0, 0) := rfl
theorem ml_15_161 : mlk 15 161 = some (0, y_KDoc_clear, b_KDoc_clear, 2, 0, 0, 14) := rfl
theorem ml_15_231 : mlk 15 231 = some (0, y_KBook_keep, b_KBook_keep, 6, 3, 1, 13) := rfl
theorem ml_15_240 : mlk 15 240 = some (0, y_KReader_unit, b_KReader_unit, 6, 4, 1, 15) := rfl
theorem ml_15_244 : mlk 15 244 = some (0, y_KReader_eight, b_KReader_eight, 9, 3, 1, 15) := rfl
theorem ml_15_251 : mlk 15 251 = some (2, y_K_isCharacter, b_K_isCharacter, 1, 1, 2, 12) := rfl
theorem ml_15_255 : mlk 15 255 = some (0, y_KReader_endLines, b_KReader_endLines, 5, 0, 0, 15) := rfl
theorem ml_15_261 : mlk 15 261 = some (1, y_KReader_pair, b_KReader_pair, 5, 3, 1, 15) := rfl
theorem ml_15_267 : mlk 15 267 = some (2, y_K_isIn, b_K_isIn, 3, 3, 2, 12) := rfl
theorem ml_15_276 : mlk 15 276 = some (10, (⟨"", "", ""⟩ : MethodName), ByteArray.empty, 0, 0, 0, 0) := rfl
theorem ml_15_282 : mlk 15 282 = some (0, y_KReader_look, b_KReader_look, 2, 1, 1, 15) := rfl
theorem ml_15_286 : mlk 15 286 = some (11, (⟨"", "", ""⟩ : MethodName), ByteArray.empty, 0, 0, 0, 0) := rfl
theorem ml_15_290 : mlk 15 290 = some (0, y_KReader_says, b_KReader_says, 4, 2, 2, 15) := rfl
theorem ml_15_294 : mlk 15 294 = some (2, y_K_isSpace, b_K_isSpace, 1, 1, 2, 12) := rfl
theorem ml_15_297 : mlk 15 297 = some (0, y_KReader_anySpaces, b_KReader_anySpaces, 3, 1, 1, 15) := rfl
theorem ml_15_300 : mlk 15 300 = some (2, y_K_isStart, b_K_isStart, 1, 1, 2, 12) := rfl
theorem ml_15_303 : mlk 15 303 = some (2, y_K_isNaming, b_K_isNaming, 1, 1, 2, 12) := rfl
theorem ml_15_306 : mlk 15 306 = some (0, y_KReader_naming, b_KReader_naming, 4, 2, 1, 15) := rfl
theorem ml_15_310 : mlk 15 310 = some (1, y_KReader_isQuote, b_KReader_isQuote, 1, 1, 2, 15) := rfl
theorem ml_15_313 : mlk 15 313 = some (0, y_KReader_literal, b_KReader_literal, 3, 1, 1, 15) := rfl
theorem ml_15_316 : mlk 15 316 = some (2, y_K_isLetter, b_K_isLetter, 1, 1, 2, 12) := rfl
theorem ml_15_319 : mlk 15 319 = some (2, y_K_isDigit, b_K_isDigit, 1, 1, 2, 12) := rfl
theorem ml_15_324 : mlk 15 324 = some (12, (⟨"", "", ""⟩ : MethodName), ByteArray.empty, 0, 0, 0, 0) := rfl
theorem ml_15_329 : mlk 15 329 = some (0, y_KReader_word, b_KReader_word, 3, 2, 1, 15) := rfl
theorem ml_15_333 : mlk 15 333 = some (0, y_KReader_spaces, b_KReader_spaces, 3, 1, 1, 15) := rfl
theorem ml_15_338 : mlk 15 338 = some (0, y_KReader_publicLiteral, b_KReader_publicLiteral, 6, 1, 1, 15) := rfl
theorem ml_15_341 : mlk 15 341 = some (0, y_KReader_name, b_KReader_name, 2, 1, 1, 15) := rfl
theorem ml_15_346 : mlk 15 346 = some (2, y_K_lower, b_K_lower, 1, 1, 1, 12) := rfl
theorem ml_15_350 : mlk 15 350 = some (0, y_KReader_reference, b_KReader_reference, 5, 1, 1, 15) := rfl
theorem ml_15_355 : mlk 15 355 = some (0, y_KReader_begin, b_KReader_begin, 4, 3, 0, 15) := rfl
theorem ml_15_359 : mlk 15 359 = some (0, y_KReader_decode, b_KReader_decode, 10, 2, 2, 15) := rfl
theorem ml_15_363 : mlk 15 363 = some (0, y_KReader_judgeText, b_KReader_judgeText, 1, 0, 2, 15) := rfl
theorem ml_15_370 : mlk 15 370 = some (0, y_KReader_push, b_KReader_push, 4, 3, 0, 15) := rfl
theorem ml_15_376 : mlk 15 376 = some (0, y_KReader_head, b_KReader_head, 10, 0, 0, 15) := rfl
theorem ml_15_385 : mlk 15 385 = some (0, y_KReader_item, b_KReader_item, 1, 0, 0, 15) := rfl
theorem ml_15_389 : mlk 15 389 = some (0, y_KReader_finish, b_KReader_finish, 2, 0, 0, 15) := rfl
theorem ml_15_392 : mlk 15 392 = some (0, y_KReader_fail, b_KReader_fail, 2, 1, 2, 15) := rfl
theorem ml_15_395 : mlk 15 395 = some (0, y_KReader_pop, b_KReader_pop, 1, 0, 0, 15) := rfl
theorem ml_15_398 : mlk 15 398 = some (0, y_KReader_subsetItem, b_KReader_subsetItem, 2, 0, 0, 15) := rfl
theorem ml_15_401 : mlk 15 401 = some (0, y_KReader_contentItem, b_KReader_contentItem, 1, 0, 0, 15) := rfl
theorem ml_15_404 : mlk 15 404 = some (0, y_KReader_outerItem, b_KReader_outerItem, 1, 0, 0, 15) := rfl
theorem ml_15_409 : mlk 15 409 = some (0, y_KReader_comment, b_KReader_comment, 2, 0, 0, 15) := rfl
theorem ml_15_414 : mlk 15 414 = some (0, y_KReader_declaration, b_KReader_declaration, 6, 0, 0, 15) := rfl
theorem ml_15_423 : mlk 15 423 = some (0, y_KReader_instruction, b_KReader_instruction, 8, 1, 0, 15) := rfl
theorem ml_15_427 : mlk 15 427 = some (0, y_KReader_tag, b_KReader_tag, 11, 0, 0, 15) := rfl
theorem ml_15_432 : mlk 15 432 = some (0, y_KReader_equal, b_KReader_equal, 2, 1, 1, 15) := rfl
theorem ml_15_437 : mlk 15 437 = some (0, y_KReader_written, b_KReader_written, 2, 1, 2, 15) := rfl
theorem ml_15_446 : mlk 15 446 = some (0, y_KReader_quoted, b_KReader_quoted, 4, 2, 1, 15) := rfl
theorem ml_15_457 : mlk 15 457 = some (0, y_KReader_isNamed, b_KReader_isNamed, 5, 3, 2, 15) := rfl
theorem ml_15_465 : mlk 15 465 = some (0, y_KReader_touch, b_KReader_touch, 1, 0, 0, 15) := rfl
theorem ml_15_470 : mlk 15 470 = some (0, y_KReader_keep, b_KReader_keep, 3, 2, 1, 15) := rfl
theorem ml_15_473 : mlk 15 473 = some (0, y_KReader_colons, b_KReader_colons, 4, 1, 0, 15) := rfl
theorem ml_15_477 : mlk 15 477 = some (0, y_KReader_node, b_KReader_node, 1, 0, 2, 15) := rfl
theorem ml_15_480 : mlk 15 480 = some (0, y_KDoc_event, b_KDoc_event, 2, 1, 0, 14) := rfl
theorem ml_15_492 : mlk 15 492 = some (0, y_KDoc_add, b_KDoc_add, 2, 1, 0, 14) := rfl
theorem ml_15_495 : mlk 15 495 = some (0, y_KBook_length, b_KBook_length, 2, 1, 1, 13) := rfl
theorem ml_15_497 : mlk 15 497 = some (0, y_KBook_at, b_KBook_at, 3, 2, 1, 13) := rfl
theorem ml_15_501 : mlk 15 501 = some (0, y_KReader_outside, b_KReader_outside, 3, 1, 1, 15) := rfl
theorem ml_15_504 : mlk 15 504 = some (0, y_KReader_parameterReference, b_KReader_parameterReference, 4, 0, 0, 15) := rfl
theorem ml_15_509 : mlk 15 509 = some (0, y_KReader_element, b_KReader_element, 11, 0, 0, 15) := rfl
theorem ml_15_514 : mlk 15 514 = some (0, y_KReader_attributes, b_KReader_attributes, 10, 0, 0, 15) := rfl
theorem ml_15_519 : mlk 15 519 = some (0, y_KReader_entity, b_KReader_entity, 13, 0, 0, 15) := rfl
theorem ml_15_524 : mlk 15 524 = some (0, y_KReader_notation, b_KReader_notation, 6, 0, 0, 15) := rfl
theorem ml_15_529 : mlk 15 529 = some (0, y_KBook_find, b_KBook_find, 5, 3, 1, 13) := rfl
theorem ml_15_532 : mlk 15 532 = some (0, y_KReader_entityOf, b_KReader_entityOf, 4, 2, 1, 15) := rfl
theorem ml_15_535 : mlk 15 535 = some (0, y_KReader_fits, b_KReader_fits, 2, 1, 2, 15) := rfl
theorem ml_15_538 : mlk 15 538 = some (0, y_KReader_goThrough, b_KReader_goThrough, 3, 2, 0, 15) := rfl
theorem ml_15_552 : mlk 15 552 = some (0, y_KReader_mixed, b_KReader_mixed, 6, 1, 1, 15) := rfl
theorem ml_15_555 : mlk 15 555 = some (0, y_KReader_model, b_KReader_model, 7, 1, 1, 15) := rfl
theorem ml_15_558 : mlk 15 558 = some (0, y_KReader_contentOf, b_KReader_contentOf, 3, 1, 1, 15) := rfl
theorem ml_15_564 : mlk 15 564 = some (0, y_KReader_doubles, b_KReader_doubles, 7, 2, 1, 15) := rfl
theorem ml_15_567 : mlk 15 567 = some (0, y_KReader_build, b_KReader_build, 9, 2, 0, 15) := rfl
theorem ml_15_570 : mlk 15 570 = some (0, y_KReader_isDeterministic, b_KReader_isDeterministic, 5, 1, 2, 15) := rfl
theorem ml_15_579 : mlk 15 579 = some (0, y_KReader_list, b_KReader_list, 3, 2, 0, 15) := rfl
theorem ml_15_586 : mlk 15 586 = some (0, y_KReader_often, b_KReader_often, 3, 1, 1, 15) := rfl
theorem ml_15_588 : mlk 15 588 = some (0, y_KReader_newNode, b_KReader_newNode, 5, 3, 1, 15) := rfl
theorem ml_15_592 : mlk 15 592 = some (0, y_KReader_isNullable, b_KReader_isNullable, 6, 1, 2, 15) := rfl
theorem ml_15_595 : mlk 15 595 = some (0, y_KReader_enter, b_KReader_enter, 4, 1, 0, 15) := rfl
theorem ml_15_601 : mlk 15 601 = some (0, y_KReader_leafs, b_KReader_leafs, 4, 1, 1, 15) := rfl
theorem ml_15_604 : mlk 15 604 = some (0, y_KReader_clearLater, b_KReader_clearLater, 3, 1, 0, 15) := rfl
theorem ml_15_607 : mlk 15 607 = some (0, y_KReader_hasTwins, b_KReader_hasTwins, 4, 1, 2, 15) := rfl
theorem ml_15_610 : mlk 15 610 = some (0, y_KReader_leave, b_KReader_leave, 6, 1, 0, 15) := rfl
theorem ml_15_619 : mlk 15 619 = some (0, y_KReader_bracketed, b_KReader_bracketed, 5, 2, 1, 15) := rfl
theorem ml_15_624 : mlk 15 624 = some (20, (⟨"", "", ""⟩ : MethodName), ByteArray.empty, 0, 0, 0, 0) := rfl
theorem ml_15_656 : mlk 15 656 = some (0, y_KReader_value, b_KReader_value, 4, 1, 1, 15) := rfl
theorem ml_15_659 : mlk 15 659 = some (0, y_KReader_typeAt, b_KReader_typeAt, 4, 1, 1, 15) := rfl
theorem ml_15_662 : mlk 15 662 = some (0, y_KReader_defaultAt, b_KReader_defaultAt, 4, 1, 1, 15) := rfl
theorem ml_15_665 : mlk 15 665 = some (0, y_KReader_definition, b_KReader_definition, 4, 1, 1, 15) := rfl
theorem ml_15_668 : mlk 15 668 = some (0, y_KReader_define, b_KReader_define, 10, 2, 0, 15) := rfl
theorem ml_15_671 : mlk 15 671 = some (0, y_KReader_find, b_KReader_find, 5, 1, 2, 15) := rfl
theorem ml_15_673 : mlk 15 673 = some (0, y_KReader_normalise, b_KReader_normalise, 6, 2, 1, 15) := rfl
theorem ml_15_676 : mlk 15 676 = some (0, y_KReader_attributeOf, b_KReader_attributeOf, 4, 2, 1, 15) := rfl
theorem ml_15_679 : mlk 15 679 = some (0, y_KReader_hasType, b_KReader_hasType, 6, 3, 2, 15) := rfl
theorem ml_15_682 : mlk 15 682 = some (0, y_KReader_isWanted, b_KReader_isWanted, 9, 3, 2, 15) := rfl
theorem ml_15_687 : mlk 15 687 = some (0, y_KReader_entityText, b_KReader_entityText, 5, 1, 1, 15) := rfl
theorem ml_15_692 : mlk 15 692 = some (1, y_KReader_meant, b_KReader_meant, 6, 2, 1, 15) := rfl
theorem ml_15_696 : mlk 15 696 = some (0, y_KReader_isNotation, b_KReader_isNotation, 3, 1, 2, 15) := rfl
theorem ml_15_699 : mlk 15 699 = some (0, y_KReader_section, b_KReader_section, 3, 0, 0, 15) := rfl
theorem ml_15_702 : mlk 15 702 = some (0, y_KReader_endTag, b_KReader_endTag, 6, 0, 0, 15) := rfl
theorem ml_15_705 : mlk 15 705 = some (0, y_KReader_contentReference, b_KReader_contentReference, 4, 0, 0, 15) := rfl
theorem ml_15_708 : mlk 15 708 = some (0, y_KReader_run, b_KReader_run, 4, 0, 0, 15) := rfl
theorem ml_15_713 : mlk 15 713 = some (0, y_KReader_spoil, b_KReader_spoil, 1, 0, 0, 15) := rfl
theorem ml_15_716 : mlk 15 716 = some (0, y_KDoc_text, b_KDoc_text, 2, 1, 0, 14) := rfl
theorem ml_15_721 : mlk 15 721 = some (0, y_KReader_isNamedSo, b_KReader_isNamedSo, 5, 3, 2, 15) := rfl
theorem ml_15_732 : mlk 15 732 = some (0, y_KReader_always, b_KReader_always, 3, 2, 1, 15) := rfl
theorem ml_15_735 : mlk 15 735 = some (0, y_KReader_undeclared, b_KReader_undeclared, 1, 0, 2, 15) := rfl
theorem ml_15_740 : mlk 15 740 = some (0, y_KReader_close, b_KReader_close, 3, 0, 0, 15) := rfl
theorem ml_15_750 : mlk 15 750 = some (0, y_KReader_given, b_KReader_given, 9, 4, 0, 15) := rfl
theorem ml_15_754 : mlk 15 754 = some (0, y_KReader_defaults, b_KReader_defaults, 7, 2, 0, 15) := rfl
theorem ml_15_769 : mlk 15 769 = some (0, y_KReader_add, b_KReader_add, 6, 4, 0, 15) := rfl
theorem ml_15_771 : mlk 15 771 = some (0, y_KDoc_same, b_KDoc_same, 6, 4, 2, 14) := rfl
theorem ml_15_787 : mlk 15 787 = some (0, y_KDoc_prefix, b_KDoc_prefix, 3, 1, 1, 14) := rfl
theorem ml_15_793 : mlk 15 793 = some (0, y_KDoc_local, b_KDoc_local, 3, 1, 1, 14) := rfl
theorem ml_15_796 : mlk 15 796 = some (0, y_KReader_isFit, b_KReader_isFit, 7, 1, 2, 15) := rfl
theorem ml_15_799 : mlk 15 799 = some (0, y_KReader_makes, b_KReader_makes, 6, 2, 2, 15) := rfl
theorem ml_15_803 : mlk 15 803 = some (0, y_KReader_valueReference, b_KReader_valueReference, 7, 2, 1, 15) := rfl
theorem ml_15_809 : mlk 15 809 = some (0, y_KReader_isWord, b_KReader_isWord, 6, 3, 2, 15) := rfl
theorem ml_15_813 : mlk 15 813 = some (0, y_KReader_lists, b_KReader_lists, 3, 0, 0, 15) := rfl
theorem ml_15_815 : mlk 15 815 = some (0, y_KReader_identities, b_KReader_identities, 4, 0, 0, 15) := rfl
theorem ml_15_818 : mlk 15 818 = some (0, y_KReader_spacesOf, b_KReader_spacesOf, 9, 1, 0, 15) := rfl
theorem ml_15_824 : mlk 15 824 = some (0, y_KReader_wordsOf, b_KReader_wordsOf, 7, 2, 0, 15) := rfl
theorem ml_15_828 : mlk 15 828 = some (0, y_KBook_says, b_KBook_says, 4, 2, 2, 13) := rfl
theorem ml_15_831 : mlk 15 831 = some (0, y_KDoc_saying, b_KDoc_saying, 5, 2, 1, 14) := rfl
theorem ml_15_836 : mlk 15 836 = some (0, y_KDoc_isValue, b_KDoc_isValue, 4, 2, 2, 14) := rfl
theorem ml_15_839 : mlk 15 839 = some (0, y_KDoc_sameValue, b_KDoc_sameValue, 3, 2, 2, 14) := rfl
theorem ml_15_842 : mlk 15 842 = some (0, y_KDoc_colon, b_KDoc_colon, 4, 1, 1, 14) := rfl
theorem ml_15_845 : mlk 15 845 = some (0, y_KReader_means, b_KReader_means, 4, 2, 2, 15) := rfl
theorem ml_15_848 : mlk 15 848 = some (0, y_KDoc_isDeclaration, b_KDoc_isDeclaration, 3, 1, 2, 14) := rfl
theorem ml_15_851 : mlk 15 851 = some (0, y_KReader_isWrong, b_KReader_isWrong, 7, 1, 2, 15) := rfl
theorem ml_15_854 : mlk 15 854 = some (0, y_KReader_hasTwin, b_KReader_hasTwin, 8, 4, 2, 15) := rfl
theorem ml_15_857 : mlk 15 857 = some (0, y_KReader_meanSame, b_KReader_meanSame, 6, 3, 2, 15) := rfl
theorem ml_16_33 : mlk 16 33 = some (1, y_KWriter_length, b_KWriter_length, 1, 1, 1, 16) := rfl
theorem ml_16_42 : mlk 16 42 = some (0, y_KReader_addLetter, b_KReader_addLetter, 2, 1, 0, 15) := rfl
theorem ml_16_55 : mlk 16 55 = some (0, y_KReader_letters, b_KReader_letters, 1, 0, 1, 15) := rfl
theorem ml_16_58 : mlk 16 58 = some (0, y_KReader_letter, b_KReader_letter, 2, 1, 1, 15) := rfl
theorem ml_16_63 : mlk 16 63 = some (10, (⟨"", "", ""⟩ : MethodName), ByteArray.empty, 0, 0, 0, 0) := rfl
theorem ml_16_67 : mlk 16 67 = some (11, (⟨"", "", ""⟩ : MethodName), ByteArray.empty, 0, 0, 0, 0) := rfl
theorem ml_16_71 : mlk 16 71 = some (0, y_KWriter_put, b_KWriter_put, 5, 1, 0, 16) := rfl
theorem ml_16_84 : mlk 16 84 = some (0, y_KBook_length, b_KBook_length, 2, 1, 1, 13) := rfl
theorem ml_16_87 : mlk 16 87 = some (0, y_KBook_at, b_KBook_at, 3, 2, 1, 13) := rfl
theorem ml_16_93 : mlk 16 93 = some (0, y_KWriter_say, b_KWriter_say, 3, 1, 0, 16) := rfl
theorem ml_16_128 : mlk 16 128 = some (0, y_KWriter_escape, b_KWriter_escape, 3, 2, 0, 16) := rfl
theorem ml_16_134 : mlk 16 134 = some (0, y_KWriter_meant, b_KWriter_meant, 3, 2, 1, 16) := rfl
theorem ml_16_145 : mlk 16 145 = some (0, y_KBook_says, b_KBook_says, 4, 2, 2, 13) := rfl
theorem ml_16_149 : mlk 16 149 = some (0, y_KDoc_saying, b_KDoc_saying, 5, 2, 1, 14) := rfl
theorem ml_16_163 : mlk 16 163 = some (0, y_KWriter_compareNames, b_KWriter_compareNames, 6, 2, 1, 16) := rfl
theorem ml_16_166 : mlk 16 166 = some (0, y_KWriter_compareMeanings, b_KWriter_compareMeanings, 4, 2, 1, 16) := rfl
theorem ml_16_178 : mlk 16 178 = some (0, y_KDoc_isDeclaration, b_KDoc_isDeclaration, 3, 1, 2, 14) := rfl
theorem ml_16_182 : mlk 16 182 = some (0, y_KWriter_isNews, b_KWriter_isNews, 6, 2, 2, 16) := rfl
theorem ml_16_186 : mlk 16 186 = some (0, y_KWriter_meaning, b_KWriter_meaning, 4, 2, 1, 16) := rfl
theorem ml_16_189 : mlk 16 189 = some (0, y_KWriter_comesFirst, b_KWriter_comesFirst, 8, 4, 2, 16) := rfl
theorem ml_16_198 : mlk 16 198 = some (0, y_KWriter_name, b_KWriter_name, 3, 1, 0, 16) := rfl
theorem ml_16_201 : mlk 16 201 = some (0, y_KWriter_pick, b_KWriter_pick, 7, 2, 1, 16) := rfl
theorem ml_16_207 : mlk 16 207 = some (0, y_KWriter_value, b_KWriter_value, 3, 1, 0, 16) := rfl
theorem ml_16_223 : mlk 16 223 = some (0, y_KWriter_start, b_KWriter_start, 5, 1, 0, 16) := rfl
theorem ml_16_228 : mlk 16 228 = some (0, y_KWriter_target, b_KWriter_target, 6, 2, 0, 16) := rfl
theorem ml_16_231 : mlk 16 231 = some (0, y_KWriter_write, b_KWriter_write, 5, 0, 0, 16) := rfl
theorem ml_16_234 : mlk 16 234 = some (0, y_KReader_beginLetters, b_KReader_beginLetters, 1, 0, 0, 15) := rfl
theorem rI_101 : rwI BF 101 := by decide +kernel
theorem rI_102 : rwI BF 102 := by decide +kernel
theorem rI_103 : rwI BF 103 := by decide +kernel
theorem rI_104 : rwI BF 104 := by decide +kernel
theorem rI_105 : rwI BF 105 := by decide +kernel
theorem rI_106 : rwI BF 106 := by decide +kernel
theorem rI_107 : rwI BF 107 := by decide +kernel
theorem rI_108 : rwI BF 108 := by decide +kernel
theorem rI_110 : rwI BF 110 := by decide +kernel
theorem rI_111 : rwI BF 111 := by decide +kernel
theorem rI_112 : rwI BF 112 := by decide +kernel
theorem rI_113 : rwI BF 113 := by decide +kernel
theorem rI_114 : rwI BF 114 := by decide +kernel
theorem rI_115 : rwI BF 115 := by decide +kernel
theorem rI_116 : rwI BF 116 := by decide +kernel
theorem rI_117 : rwI BF 117 := by decide +kernel
theorem rI_118 : rwI BF 118 := by decide +kernel
theorem rI_119 : rwI BF 119 := by decide +kernel
theorem rI_120 : rwI BF 120 := by decide +kernel
theorem rI_121 : rwI BF 121 := by decide +kernel
theorem rI_122 : rwI BF 122 := by decide +kernel
theorem rI_123 : rwI BF 123 := by decide +kernel
theorem rI_124 : rwI BF 124 := by decide +kernel
theorem rI_125 : rwI BF 125 := by decide +kernel
theorem rI_126 : rwI BF 126 := by decide +kernel
theorem rI_127 : rwI BF 127 := by decide +kernel
theorem rI_129 : rwI BF 129 := by decide +kernel
theorem rI_130 : rwI BF 130 := by decide +kernel
theorem rI_131 : rwI BF 131 := by decide +kernel
theorem rI_132 : rwI BF 132 := by decide +kernel
theorem rI_133 : rwI BF 133 := by decide +kernel
theorem rI_134 : rwI BF 134 := by decide +kernel
theorem rI_135 : rwI BF 135 := by decide +kernel
theorem rI_136 : rwI BF 136 := by decide +kernel
theorem rI_137 : rwI BF 137 := by decide +kernel
theorem rI_138 : rwI BF 138 := by decide +kernel
theorem rI_139 : rwI BF 139 := by decide +kernel
theorem rI_140 : rwI BF 140 := by decide +kernel
theorem rI_143 : rwI BF 143 := by decide +kernel
theorem rI_144 : rwI BF 144 := by decide +kernel
theorem rI_145 : rwI BF 145 := by decide +kernel
theorem rI_146 : rwI BF 146 := by decide +kernel
theorem rI_147 : rwI BF 147 := by decide +kernel
theorem rI_148 : rwI BF 148 := by decide +kernel
theorem rI_149 : rwI BF 149 := by decide +kernel
theorem rI_150 : rwI BF 150 := by decide +kernel
theorem rI_151 : rwI BF 151 := by decide +kernel
theorem rI_152 : rwI BF 152 := by decide +kernel
theorem rI_153 : rwI BF 153 := by decide +kernel
theorem rI_154 : rwI BF 154 := by decide +kernel
theorem rI_155 : rwI BF 155 := by decide +kernel
theorem rI_156 : rwI BF 156 := by decide +kernel
theorem rI_157 : rwI BF 157 := by decide +kernel
theorem rI_158 : rwI BF 158 := by decide +kernel
theorem rI_159 : rwI BF 159 := by decide +kernel
theorem rI_160 : rwI BF 160 := by decide +kernel
theorem rI_161 : rwI BF 161 := by decide +kernel
theorem rI_164 : rwI BF 164 := by decide +kernel
theorem rI_166 : rwI BF 166 := by decide +kernel
theorem rI_167 : rwI BF 167 := by decide +kernel
theorem rI_170 : rwI BF 170 := by decide +kernel
theorem rI_171 : rwI BF 171 := by decide +kernel
theorem rI_172 : rwI BF 172 := by decide +kernel
theorem rI_176 : rwI BF 176 := by decide +kernel
theorem rI_177 : rwI BF 177 := by decide +kernel
theorem rI_178 : rwI BF 178 := by decide +kernel
theorem rI_179 : rwI BF 179 := by decide +kernel
theorem rI_180 : rwI BF 180 := by decide +kernel
theorem rI_181 : rwI BF 181 := by decide +kernel
theorem rI_182 : rwI BF 182 := by decide +kernel
theorem rI_184 : rwI BF 184 := by decide +kernel
theorem rI_185 : rwI BF 185 := by decide +kernel
theorem rI_187 : rwI BF 187 := by decide +kernel
theorem rI_189 : rwI BF 189 := by decide +kernel
theorem rI_191 : rwI BF 191 := by decide +kernel
theorem rI_192 : rwI BF 192 := by decide +kernel
theorem rI_195 : rwI BF 195 := by decide +kernel
theorem rI_196 : rwI BF 196 := by decide +kernel
theorem rI_197 : rwI BF 197 := by decide +kernel
theorem rI_198 : rwI BF 198 := by decide +kernel
theorem rI_199 : rwI BF 199 := by decide +kernel
theorem rI_200 : rwI BF 200 := by decide +kernel
theorem rI_203 : rwI BF 203 := by decide +kernel
theorem rI_204 : rwI BF 204 := by decide +kernel
theorem rI_205 : rwI BF 205 := by decide +kernel
theorem rI_206 : rwI BF 206 := by decide +kernel
theorem rI_207 : rwI BF 207 := by decide +kernel
theorem rI_208 : rwI BF 208 := by decide +kernel
theorem rI_209 : rwI BF 209 := by decide +kernel
theorem rI_210 : rwI BF 210 := by decide +kernel
theorem rI_211 : rwI BF 211 := by decide +kernel
theorem rI_212 : rwI BF 212 := by decide +kernel
theorem rI_213 : rwI BF 213 := by decide +kernel
theorem rI_214 : rwI BF 214 := by decide +kernel
theorem rI_215 : rwI BF 215 := by decide +kernel
theorem rI_245 : rwI BF 245 := by decide +kernel
theorem rI_246 : rwI BF 246 := by decide +kernel
theorem rI_247 : rwI BF 247 := by decide +kernel
theorem rB_100 : rwB BF 100 := by decide +kernel
theorem rB_109 : rwB BF 109 := by decide +kernel
theorem rB_128 : rwB BF 128 := by decide +kernel
theorem rB_141 : rwB BF 141 := by decide +kernel
theorem rB_142 : rwB BF 142 := by decide +kernel
theorem rB_165 : rwB BF 165 := by decide +kernel
theorem rB_168 : rwB BF 168 := by decide +kernel
theorem rB_169 : rwB BF 169 := by decide +kernel
theorem rB_173 : rwB BF 173 := by decide +kernel
theorem rB_174 : rwB BF 174 := by decide +kernel
theorem rB_175 : rwB BF 175 := by decide +kernel
theorem rB_183 : rwB BF 183 := by decide +kernel
theorem rB_186 : rwB BF 186 := by decide +kernel
theorem rB_188 : rwB BF 188 := by decide +kernel
theorem rB_190 : rwB BF 190 := by decide +kernel
theorem rB_193 : rwB BF 193 := by decide +kernel
theorem rB_194 : rwB BF 194 := by decide +kernel
theorem rB_201 : rwB BF 201 := by decide +kernel
theorem rB_202 : rwB BF 202 := by decide +kernel
theorem rB_244 : rwB BF 244 := by decide +kernel
theorem rb_100 : rwk BF 1 100 := by decide +kernel
theorem rb_128 : rwk BF 1 128 := by decide +kernel
theorem rb_165 : rwk BF 1 165 := by decide +kernel
theorem rb_175 : rwk BF 1 175 := by decide +kernel
theorem rb_190 : rwk BF 1 190 := by decide +kernel
theorem rb_193 : rwk BF 1 193 := by decide +kernel
theorem rb_194 : rwk BF 1 194 := by decide +kernel
theorem rb_201 : rwk BF 1 201 := by decide +kernel
theorem rb_202 : rwk BF 1 202 := by decide +kernel
theorem rb_244 : rwk BF 1 244 := by decide +kernel
theorem rz_109 : rwk BF 2 109 := by decide +kernel
theorem rz_141 : rwk BF 2 141 := by decide +kernel
theorem rz_142 : rwk BF 2 142 := by decide +kernel
theorem rz_168 : rwk BF 2 168 := by decide +kernel
theorem rz_169 : rwk BF 2 169 := by decide +kernel
theorem rz_173 : rwk BF 2 173 := by decide +kernel
theorem rz_174 : rwk BF 2 174 := by decide +kernel
theorem rz_183 : rwk BF 2 183 := by decide +kernel
theorem rz_186 : rwk BF 2 186 := by decide +kernel
theorem rz_188 : rwk BF 2 188 := by decide +kernel
theorem ob_0 : inO BF 0 ∧ kls 0 = 0 := by decide +kernel
theorem ob_1 : inO BF 1 ∧ kls 1 = 1 := by decide +kernel
theorem ob_10 : inO BF 10 ∧ kls 10 = 10 := by decide +kernel
theorem ob_11 : inO BF 11 ∧ kls 11 = 11 := by decide +kernel
theorem ob_12 : inO BF 12 ∧ kls 12 = 12 := by decide +kernel
theorem ob_13 : inO BF 13 ∧ kls 13 = 13 := by decide +kernel
theorem ob_16 : inO BF 16 ∧ kls 16 = 15 := by decide +kernel
theorem ob_17 : inO BF 17 ∧ kls 17 = 16 := by decide +kernel
theorem ob_2 : inO BF 2 ∧ kls 2 = 2 := by decide +kernel
theorem ob_3 : inO BF 3 ∧ kls 3 = 3 := by decide +kernel
theorem ob_4 : inO BF 4 ∧ kls 4 = 4 := by decide +kernel
theorem ob_5 : inO BF 5 ∧ kls 5 = 5 := by decide +kernel
theorem ob_6 : inO BF 6 ∧ kls 6 = 6 := by decide +kernel
theorem ob_7 : inO BF 7 ∧ kls 7 = 7 := by decide +kernel
theorem ob_8 : inO BF 8 ∧ kls 8 = 8 := by decide +kernel
theorem ob_9 : inO BF 9 ∧ kls 9 = 9 := by decide +kernel
theorem dfi_2 {o : Nat} (h : isDoc o) : fkI o 2 = true := by
  rcases h with rfl | rfl <;> rfl
theorem dfi_7 {o : Nat} (h : isDoc o) : fkI o 7 = true := by
  rcases h with rfl | rfl <;> rfl
theorem dfi_14 {o : Nat} (h : isDoc o) : fkI o 14 = true := by
  rcases h with rfl | rfl <;> rfl
theorem dfi_16 {o : Nat} (h : isDoc o) : fkI o 16 = true := by
  rcases h with rfl | rfl <;> rfl
theorem dfi_17 {o : Nat} (h : isDoc o) : fkI o 17 = true := by
  rcases h with rfl | rfl <;> rfl
theorem dfi_20 {o : Nat} (h : isDoc o) : fkI o 20 = true := by
  rcases h with rfl | rfl <;> rfl
theorem dfi_21 {o : Nat} (h : isDoc o) : fkI o 21 = true := by
  rcases h with rfl | rfl <;> rfl
theorem dfi_22 {o : Nat} (h : isDoc o) : fkI o 22 = true := by
  rcases h with rfl | rfl <;> rfl
theorem dfr_0 {o : Nat} (h : isDoc o) : (fkL o)[0]? = some (.inr 13) := by
  rcases h with rfl | rfl <;> rfl
theorem dfr_1 {o : Nat} (h : isDoc o) : (fkL o)[1]? = some (.inr (rfo o 1)) := by
  rcases h with rfl | rfl <;> rfl
theorem dfr_3 {o : Nat} (h : isDoc o) : (fkL o)[3]? = some (.inr (rfo o 3)) := by
  rcases h with rfl | rfl <;> rfl
theorem dfr_4 {o : Nat} (h : isDoc o) : (fkL o)[4]? = some (.inr (rfo o 4)) := by
  rcases h with rfl | rfl <;> rfl
theorem dfr_5 {o : Nat} (h : isDoc o) : (fkL o)[5]? = some (.inr (rfo o 5)) := by
  rcases h with rfl | rfl <;> rfl
theorem dfr_6 {o : Nat} (h : isDoc o) : (fkL o)[6]? = some (.inr (rfo o 6)) := by
  rcases h with rfl | rfl <;> rfl
theorem dfr_8 {o : Nat} (h : isDoc o) : (fkL o)[8]? = some (.inr (rfo o 8)) := by
  rcases h with rfl | rfl <;> rfl
theorem dfr_9 {o : Nat} (h : isDoc o) : (fkL o)[9]? = some (.inr (rfo o 9)) := by
  rcases h with rfl | rfl <;> rfl
theorem dfr_10 {o : Nat} (h : isDoc o) : (fkL o)[10]? = some (.inr (rfo o 10)) := by
  rcases h with rfl | rfl <;> rfl
theorem dfr_11 {o : Nat} (h : isDoc o) : (fkL o)[11]? = some (.inr (rfo o 11)) := by
  rcases h with rfl | rfl <;> rfl
theorem dfr_12 {o : Nat} (h : isDoc o) : (fkL o)[12]? = some (.inr (rfo o 12)) := by
  rcases h with rfl | rfl <;> rfl
theorem dfr_13 {o : Nat} (h : isDoc o) : (fkL o)[13]? = some (.inr (rfo o 13)) := by
  rcases h with rfl | rfl <;> rfl
theorem dfr_15 {o : Nat} (h : isDoc o) : (fkL o)[15]? = some (.inr (rfo o 15)) := by
  rcases h with rfl | rfl <;> rfl
theorem dfr_18 {o : Nat} (h : isDoc o) : (fkL o)[18]? = some (.inr (rfo o 18)) := by
  rcases h with rfl | rfl <;> rfl
theorem dfr_19 {o : Nat} (h : isDoc o) : (fkL o)[19]? = some (.inr (rfo o 19)) := by
  rcases h with rfl | rfl <;> rfl
theorem dfz_2 {o : Nat} (h : isDoc o) : (fkL o)[2]? = some (.inl 0) := by
  rcases h with rfl | rfl <;> rfl
theorem dfz_7 {o : Nat} (h : isDoc o) : (fkL o)[7]? = some (.inl 0) := by
  rcases h with rfl | rfl <;> rfl
theorem dfz_14 {o : Nat} (h : isDoc o) : (fkL o)[14]? = some (.inl 0) := by
  rcases h with rfl | rfl <;> rfl
theorem dfz_16 {o : Nat} (h : isDoc o) : (fkL o)[16]? = some (.inl 0) := by
  rcases h with rfl | rfl <;> rfl
theorem dfz_17 {o : Nat} (h : isDoc o) : (fkL o)[17]? = some (.inl 0) := by
  rcases h with rfl | rfl <;> rfl
theorem dfz_20 {o : Nat} (h : isDoc o) : (fkL o)[20]? = some (.inl 0) := by
  rcases h with rfl | rfl <;> rfl
theorem dfz_21 {o : Nat} (h : isDoc o) : (fkL o)[21]? = some (.inl 0) := by
  rcases h with rfl | rfl <;> rfl
theorem drI_1 {o : Nat} (h : isDoc o) : rwI BF (rfo o 1) := by
  rcases h with rfl | rfl <;> decide +kernel
theorem drI_3 {o : Nat} (h : isDoc o) : rwI BF (rfo o 3) := by
  rcases h with rfl | rfl <;> decide +kernel
theorem drI_4 {o : Nat} (h : isDoc o) : rwI BF (rfo o 4) := by
  rcases h with rfl | rfl <;> decide +kernel
theorem drI_5 {o : Nat} (h : isDoc o) : rwI BF (rfo o 5) := by
  rcases h with rfl | rfl <;> decide +kernel
theorem drI_6 {o : Nat} (h : isDoc o) : rwI BF (rfo o 6) := by
  rcases h with rfl | rfl <;> decide +kernel
theorem drI_8 {o : Nat} (h : isDoc o) : rwI BF (rfo o 8) := by
  rcases h with rfl | rfl <;> decide +kernel
theorem drI_9 {o : Nat} (h : isDoc o) : rwI BF (rfo o 9) := by
  rcases h with rfl | rfl <;> decide +kernel
theorem drI_10 {o : Nat} (h : isDoc o) : rwI BF (rfo o 10) := by
  rcases h with rfl | rfl <;> decide +kernel
theorem drI_12 {o : Nat} (h : isDoc o) : rwI BF (rfo o 12) := by
  rcases h with rfl | rfl <;> decide +kernel
theorem drI_13 {o : Nat} (h : isDoc o) : rwI BF (rfo o 13) := by
  rcases h with rfl | rfl <;> decide +kernel
theorem drI_15 {o : Nat} (h : isDoc o) : rwI BF (rfo o 15) := by
  rcases h with rfl | rfl <;> decide +kernel
theorem drI_18 {o : Nat} (h : isDoc o) : rwI BF (rfo o 18) := by
  rcases h with rfl | rfl <;> decide +kernel
theorem drI_19 {o : Nat} (h : isDoc o) : rwI BF (rfo o 19) := by
  rcases h with rfl | rfl <;> decide +kernel
theorem drB_11 {o : Nat} (h : isDoc o) : rwB BF (rfo o 11) := by
  rcases h with rfl | rfl <;> decide +kernel
theorem drb_11 {o : Nat} (h : isDoc o) : rwk BF 1 (rfo o 11) := by
  rcases h with rfl | rfl <;> decide +kernel
theorem cI_m8 : (Int32.ofInt (-8)).toInt = (-8) := by decide +kernel
theorem cI_m1 : (Int32.ofInt (-1)).toInt = (-1) := by decide +kernel
theorem cI_0 : (Int32.ofInt 0).toInt = 0 := by decide +kernel
theorem cI_1 : (Int32.ofInt 1).toInt = 1 := by decide +kernel
theorem cI_2 : (Int32.ofInt 2).toInt = 2 := by decide +kernel
theorem cI_3 : (Int32.ofInt 3).toInt = 3 := by decide +kernel
theorem cI_4 : (Int32.ofInt 4).toInt = 4 := by decide +kernel
theorem cI_5 : (Int32.ofInt 5).toInt = 5 := by decide +kernel
theorem cB_m4 : (Int8.ofInt (-4)).toInt32.toInt = (-4) := by decide +kernel
theorem cB_m3 : (Int8.ofInt (-3)).toInt32.toInt = (-3) := by decide +kernel
theorem cB_m2 : (Int8.ofInt (-2)).toInt32.toInt = (-2) := by decide +kernel
theorem cB_6 : (Int8.ofInt 6).toInt32.toInt = 6 := by decide +kernel
theorem cB_7 : (Int8.ofInt 7).toInt32.toInt = 7 := by decide +kernel
theorem cB_8 : (Int8.ofInt 8).toInt32.toInt = 8 := by decide +kernel
theorem cB_9 : (Int8.ofInt 9).toInt32.toInt = 9 := by decide +kernel
theorem cB_10 : (Int8.ofInt 10).toInt32.toInt = 10 := by decide +kernel
theorem cB_11 : (Int8.ofInt 11).toInt32.toInt = 11 := by decide +kernel
theorem cB_12 : (Int8.ofInt 12).toInt32.toInt = 12 := by decide +kernel
theorem cB_13 : (Int8.ofInt 13).toInt32.toInt = 13 := by decide +kernel
theorem cB_14 : (Int8.ofInt 14).toInt32.toInt = 14 := by decide +kernel
theorem cB_15 : (Int8.ofInt 15).toInt32.toInt = 15 := by decide +kernel
theorem cB_16 : (Int8.ofInt 16).toInt32.toInt = 16 := by decide +kernel
theorem cB_17 : (Int8.ofInt 17).toInt32.toInt = 17 := by decide +kernel
theorem cB_18 : (Int8.ofInt 18).toInt32.toInt = 18 := by decide +kernel
theorem cB_19 : (Int8.ofInt 19).toInt32.toInt = 19 := by decide +kernel
theorem cB_20 : (Int8.ofInt 20).toInt32.toInt = 20 := by decide +kernel
theorem cB_21 : (Int8.ofInt 21).toInt32.toInt = 21 := by decide +kernel
theorem cB_22 : (Int8.ofInt 22).toInt32.toInt = 22 := by decide +kernel
theorem cB_23 : (Int8.ofInt 23).toInt32.toInt = 23 := by decide +kernel
theorem cB_24 : (Int8.ofInt 24).toInt32.toInt = 24 := by decide +kernel
theorem cB_31 : (Int8.ofInt 31).toInt32.toInt = 31 := by decide +kernel
theorem cB_32 : (Int8.ofInt 32).toInt32.toInt = 32 := by decide +kernel
theorem cB_34 : (Int8.ofInt 34).toInt32.toInt = 34 := by decide +kernel
theorem cB_35 : (Int8.ofInt 35).toInt32.toInt = 35 := by decide +kernel
theorem cB_37 : (Int8.ofInt 37).toInt32.toInt = 37 := by decide +kernel
theorem cB_38 : (Int8.ofInt 38).toInt32.toInt = 38 := by decide +kernel
theorem cB_39 : (Int8.ofInt 39).toInt32.toInt = 39 := by decide +kernel
theorem cB_40 : (Int8.ofInt 40).toInt32.toInt = 40 := by decide +kernel
theorem cB_41 : (Int8.ofInt 41).toInt32.toInt = 41 := by decide +kernel
theorem cB_42 : (Int8.ofInt 42).toInt32.toInt = 42 := by decide +kernel
theorem cB_43 : (Int8.ofInt 43).toInt32.toInt = 43 := by decide +kernel
theorem cB_44 : (Int8.ofInt 44).toInt32.toInt = 44 := by decide +kernel
theorem cB_45 : (Int8.ofInt 45).toInt32.toInt = 45 := by decide +kernel
theorem cB_46 : (Int8.ofInt 46).toInt32.toInt = 46 := by decide +kernel
theorem cB_48 : (Int8.ofInt 48).toInt32.toInt = 48 := by decide +kernel
theorem cB_57 : (Int8.ofInt 57).toInt32.toInt = 57 := by decide +kernel
theorem cB_58 : (Int8.ofInt 58).toInt32.toInt = 58 := by decide +kernel
theorem cB_59 : (Int8.ofInt 59).toInt32.toInt = 59 := by decide +kernel
theorem cB_60 : (Int8.ofInt 60).toInt32.toInt = 60 := by decide +kernel
theorem cB_62 : (Int8.ofInt 62).toInt32.toInt = 62 := by decide +kernel
theorem cB_63 : (Int8.ofInt 63).toInt32.toInt = 63 := by decide +kernel
theorem cB_64 : (Int8.ofInt 64).toInt32.toInt = 64 := by decide +kernel
theorem cB_65 : (Int8.ofInt 65).toInt32.toInt = 65 := by decide +kernel
theorem cB_90 : (Int8.ofInt 90).toInt32.toInt = 90 := by decide +kernel
theorem cB_91 : (Int8.ofInt 91).toInt32.toInt = 91 := by decide +kernel
theorem cB_93 : (Int8.ofInt 93).toInt32.toInt = 93 := by decide +kernel
theorem cB_95 : (Int8.ofInt 95).toInt32.toInt = 95 := by decide +kernel
theorem cB_97 : (Int8.ofInt 97).toInt32.toInt = 97 := by decide +kernel
theorem cB_102 : (Int8.ofInt 102).toInt32.toInt = 102 := by decide +kernel
theorem cB_120 : (Int8.ofInt 120).toInt32.toInt = 120 := by decide +kernel
theorem cB_122 : (Int8.ofInt 122).toInt32.toInt = 122 := by decide +kernel
theorem cB_124 : (Int8.ofInt 124).toInt32.toInt = 124 := by decide +kernel
theorem cB_127 : (Int8.ofInt 127).toInt32.toInt = 127 := by decide +kernel
theorem cS_128 : (Int16.ofInt 128).toInt32.toInt = 128 := by decide +kernel
theorem cS_183 : (Int16.ofInt 183).toInt32.toInt = 183 := by decide +kernel
theorem cS_187 : (Int16.ofInt 187).toInt32.toInt = 187 := by decide +kernel
theorem cS_191 : (Int16.ofInt 191).toInt32.toInt = 191 := by decide +kernel
theorem cS_192 : (Int16.ofInt 192).toInt32.toInt = 192 := by decide +kernel
theorem cS_214 : (Int16.ofInt 214).toInt32.toInt = 214 := by decide +kernel
theorem cS_216 : (Int16.ofInt 216).toInt32.toInt = 216 := by decide +kernel
theorem cS_224 : (Int16.ofInt 224).toInt32.toInt = 224 := by decide +kernel
theorem cS_239 : (Int16.ofInt 239).toInt32.toInt = 239 := by decide +kernel
theorem cS_240 : (Int16.ofInt 240).toInt32.toInt = 240 := by decide +kernel
theorem cS_246 : (Int16.ofInt 246).toInt32.toInt = 246 := by decide +kernel
theorem cS_248 : (Int16.ofInt 248).toInt32.toInt = 248 := by decide +kernel
theorem cS_254 : (Int16.ofInt 254).toInt32.toInt = 254 := by decide +kernel
theorem cS_255 : (Int16.ofInt 255).toInt32.toInt = 255 := by decide +kernel
theorem cS_256 : (Int16.ofInt 256).toInt32.toInt = 256 := by decide +kernel
theorem cS_767 : (Int16.ofInt 767).toInt32.toInt = 767 := by decide +kernel
theorem cS_768 : (Int16.ofInt 768).toInt32.toInt = 768 := by decide +kernel
theorem cS_879 : (Int16.ofInt 879).toInt32.toInt = 879 := by decide +kernel
theorem cS_880 : (Int16.ofInt 880).toInt32.toInt = 880 := by decide +kernel
theorem cS_893 : (Int16.ofInt 893).toInt32.toInt = 893 := by decide +kernel
theorem cS_895 : (Int16.ofInt 895).toInt32.toInt = 895 := by decide +kernel
theorem cS_1024 : (Int16.ofInt 1024).toInt32.toInt = 1024 := by decide +kernel
theorem cS_2048 : (Int16.ofInt 2048).toInt32.toInt = 2048 := by decide +kernel
theorem cS_8191 : (Int16.ofInt 8191).toInt32.toInt = 8191 := by decide +kernel
theorem cS_8192 : (Int16.ofInt 8192).toInt32.toInt = 8192 := by decide +kernel
theorem cS_8204 : (Int16.ofInt 8204).toInt32.toInt = 8204 := by decide +kernel
theorem cS_8205 : (Int16.ofInt 8205).toInt32.toInt = 8205 := by decide +kernel
theorem cS_8255 : (Int16.ofInt 8255).toInt32.toInt = 8255 := by decide +kernel
theorem cS_8256 : (Int16.ofInt 8256).toInt32.toInt = 8256 := by decide +kernel
theorem cS_8304 : (Int16.ofInt 8304).toInt32.toInt = 8304 := by decide +kernel
theorem cS_8591 : (Int16.ofInt 8591).toInt32.toInt = 8591 := by decide +kernel
theorem cS_11264 : (Int16.ofInt 11264).toInt32.toInt = 11264 := by decide +kernel
theorem cS_12271 : (Int16.ofInt 12271).toInt32.toInt = 12271 := by decide +kernel
theorem cS_12289 : (Int16.ofInt 12289).toInt32.toInt = 12289 := by decide +kernel
theorem cS_16384 : (Int16.ofInt 16384).toInt32.toInt = 16384 := by decide +kernel
theorem cL_55295 : iv (.inl (55295 : Int32)) = .inl 55295 := by decide +kernel
theorem cL_55296 : iv (.inl (55296 : Int32)) = .inl 55296 := by decide +kernel
theorem cL_56319 : iv (.inl (56319 : Int32)) = .inl 56319 := by decide +kernel
theorem cL_56320 : iv (.inl (56320 : Int32)) = .inl 56320 := by decide +kernel
theorem cL_57343 : iv (.inl (57343 : Int32)) = .inl 57343 := by decide +kernel
theorem cL_57344 : iv (.inl (57344 : Int32)) = .inl 57344 := by decide +kernel
theorem cL_63744 : iv (.inl (63744 : Int32)) = .inl 63744 := by decide +kernel
theorem cL_64975 : iv (.inl (64975 : Int32)) = .inl 64975 := by decide +kernel
theorem cL_65008 : iv (.inl (65008 : Int32)) = .inl 65008 := by decide +kernel
theorem cL_65533 : iv (.inl (65533 : Int32)) = .inl 65533 := by decide +kernel
theorem cL_65536 : iv (.inl (65536 : Int32)) = .inl 65536 := by decide +kernel
theorem cL_262144 : iv (.inl (262144 : Int32)) = .inl 262144 := by decide +kernel
theorem cL_262152 : iv (.inl (262152 : Int32)) = .inl 262152 := by decide +kernel
theorem cL_983039 : iv (.inl (983039 : Int32)) = .inl 983039 := by decide +kernel
theorem cL_1000000 : iv (.inl (1000000 : Int32)) = .inl 1000000 := by decide +kernel
theorem cL_1114111 : iv (.inl (1114111 : Int32)) = .inl 1114111 := by decide +kernel
theorem cL_1114112 : iv (.inl (1114112 : Int32)) = .inl 1114112 := by decide +kernel
theorem cL_2000000 : iv (.inl (2000000 : Int32)) = .inl 2000000 := by decide +kernel
theorem it_1002 : isT 1002 := by decide +kernel
theorem it_1003 : isT 1003 := by decide +kernel
theorem it_1004 : isT 1004 := by decide +kernel
theorem it_1005 : isT 1005 := by decide +kernel
theorem it_1006 : isT 1006 := by decide +kernel
theorem it_1007 : isT 1007 := by decide +kernel
theorem it_1008 : isT 1008 := by decide +kernel
theorem it_1009 : isT 1009 := by decide +kernel
theorem it_1010 : isT 1010 := by decide +kernel
theorem it_1011 : isT 1011 := by decide +kernel
theorem it_1012 : isT 1012 := by decide +kernel
theorem it_1013 : isT 1013 := by decide +kernel
theorem it_1014 : isT 1014 := by decide +kernel
theorem it_1015 : isT 1015 := by decide +kernel
theorem it_1016 : isT 1016 := by decide +kernel
theorem it_1017 : isT 1017 := by decide +kernel
theorem it_1018 : isT 1018 := by decide +kernel
theorem it_1019 : isT 1019 := by decide +kernel
theorem it_1020 : isT 1020 := by decide +kernel
theorem it_1021 : isT 1021 := by decide +kernel
theorem it_1022 : isT 1022 := by decide +kernel
theorem it_1023 : isT 1023 := by decide +kernel
theorem it_1024 : isT 1024 := by decide +kernel
theorem it_1025 : isT 1025 := by decide +kernel
theorem it_1026 : isT 1026 := by decide +kernel
theorem it_1027 : isT 1027 := by decide +kernel
theorem it_1028 : isT 1028 := by decide +kernel
theorem it_1029 : isT 1029 := by decide +kernel
theorem it_1030 : isT 1030 := by decide +kernel
theorem it_1031 : isT 1031 := by decide +kernel
theorem it_1032 : isT 1032 := by decide +kernel
theorem it_1033 : isT 1033 := by decide +kernel
theorem it_1034 : isT 1034 := by decide +kernel
theorem it_1035 : isT 1035 := by decide +kernel
theorem it_1036 : isT 1036 := by decide +kernel
theorem it_1037 : isT 1037 := by decide +kernel
theorem it_1038 : isT 1038 := by decide +kernel
theorem it_1039 : isT 1039 := by decide +kernel
theorem it_1040 : isT 1040 := by decide +kernel
theorem it_1041 : isT 1041 := by decide +kernel
theorem it_1042 : isT 1042 := by decide +kernel
theorem it_1043 : isT 1043 := by decide +kernel
theorem it_1044 : isT 1044 := by decide +kernel
theorem it_1045 : isT 1045 := by decide +kernel
theorem it_1046 : isT 1046 := by decide +kernel
theorem it_1047 : isT 1047 := by decide +kernel
theorem it_1048 : isT 1048 := by decide +kernel
theorem it_1049 : isT 1049 := by decide +kernel
theorem it_1050 : isT 1050 := by decide +kernel
theorem it_1051 : isT 1051 := by decide +kernel
theorem it_1052 : isT 1052 := by decide +kernel
theorem it_1053 : isT 1053 := by decide +kernel
theorem it_1054 : isT 1054 := by decide +kernel
theorem it_1055 : isT 1055 := by decide +kernel
theorem it_1056 : isT 1056 := by decide +kernel
theorem it_1057 : isT 1057 := by decide +kernel
theorem it_1058 : isT 1058 := by decide +kernel
theorem it_1059 : isT 1059 := by decide +kernel
theorem it_1060 : isT 1060 := by decide +kernel
theorem it_1061 : isT 1061 := by decide +kernel
theorem it_1062 : isT 1062 := by decide +kernel
theorem it_1063 : isT 1063 := by decide +kernel
theorem it_1083 : isT 1083 := by decide +kernel
theorem it_1084 : isT 1084 := by decide +kernel
theorem it_1085 : isT 1085 := by decide +kernel
theorem it_1086 : isT 1086 := by decide +kernel
theorem it_1087 : isT 1087 := by decide +kernel
theorem it_1088 : isT 1088 := by decide +kernel
theorem it_1089 : isT 1089 := by decide +kernel
theorem it_1090 : isT 1090 := by decide +kernel
theorem it_1091 : isT 1091 := by decide +kernel
theorem it_1092 : isT 1092 := by decide +kernel
theorem it_1093 : isT 1093 := by decide +kernel
theorem it_1094 : isT 1094 := by decide +kernel
theorem it_1095 : isT 1095 := by decide +kernel
theorem it_1096 : isT 1096 := by decide +kernel
theorem it_1097 : isT 1097 := by decide +kernel
theorem it_1098 : isT 1098 := by decide +kernel
theorem it_1099 : isT 1099 := by decide +kernel
theorem it_1100 : isT 1100 := by decide +kernel
theorem it_1101 : isT 1101 := by decide +kernel
theorem it_1102 : isT 1102 := by decide +kernel
theorem it_1103 : isT 1103 := by decide +kernel
theorem it_1104 : isT 1104 := by decide +kernel
theorem it_1105 : isT 1105 := by decide +kernel
theorem it_1106 : isT 1106 := by decide +kernel
theorem it_1107 : isT 1107 := by decide +kernel
theorem it_1108 : isT 1108 := by decide +kernel
theorem it_1109 : isT 1109 := by decide +kernel
theorem it_1110 : isT 1110 := by decide +kernel
theorem it_1111 : isT 1111 := by decide +kernel
theorem it_1112 : isT 1112 := by decide +kernel
theorem it_1113 : isT 1113 := by decide +kernel
theorem it_1114 : isT 1114 := by decide +kernel
theorem it_1115 : isT 1115 := by decide +kernel
theorem it_1116 : isT 1116 := by decide +kernel
theorem it_1117 : isT 1117 := by decide +kernel
theorem it_1118 : isT 1118 := by decide +kernel
theorem it_1119 : isT 1119 := by decide +kernel
theorem it_1120 : isT 1120 := by decide +kernel
theorem it_1121 : isT 1121 := by decide +kernel
theorem it_1122 : isT 1122 := by decide +kernel
theorem it_1123 : isT 1123 := by decide +kernel
theorem it_1124 : isT 1124 := by decide +kernel
theorem it_1125 : isT 1125 := by decide +kernel
theorem it_1126 : isT 1126 := by decide +kernel
theorem it_1127 : isT 1127 := by decide +kernel
theorem it_1128 : isT 1128 := by decide +kernel
theorem it_1129 : isT 1129 := by decide +kernel
theorem it_1130 : isT 1130 := by decide +kernel
theorem it_1131 : isT 1131 := by decide +kernel
theorem it_1132 : isT 1132 := by decide +kernel
theorem it_1141 : isT 1141 := by decide +kernel
theorem it_1142 : isT 1142 := by decide +kernel
theorem it_1143 : isT 1143 := by decide +kernel
theorem it_1144 : isT 1144 := by decide +kernel
theorem it_1145 : isT 1145 := by decide +kernel
theorem it_1146 : isT 1146 := by decide +kernel
theorem it_1147 : isT 1147 := by decide +kernel
theorem it_1148 : isT 1148 := by decide +kernel
theorem it_1149 : isT 1149 := by decide +kernel
theorem it_1150 : isT 1150 := by decide +kernel
theorem it_1151 : isT 1151 := by decide +kernel
theorem it_1152 : isT 1152 := by decide +kernel
theorem it_1153 : isT 1153 := by decide +kernel
theorem it_1154 : isT 1154 := by decide +kernel
theorem it_1155 : isT 1155 := by decide +kernel
theorem it_1156 : isT 1156 := by decide +kernel
theorem it_1157 : isT 1157 := by decide +kernel
theorem it_1158 : isT 1158 := by decide +kernel
theorem it_1159 : isT 1159 := by decide +kernel
theorem it_1160 : isT 1160 := by decide +kernel
theorem it_1161 : isT 1161 := by decide +kernel
theorem it_1162 : isT 1162 := by decide +kernel
theorem it_1163 : isT 1163 := by decide +kernel
theorem it_1164 : isT 1164 := by decide +kernel
theorem it_1165 : isT 1165 := by decide +kernel
theorem it_1166 : isT 1166 := by decide +kernel
theorem it_1167 : isT 1167 := by decide +kernel
theorem it_1168 : isT 1168 := by decide +kernel
theorem it_1169 : isT 1169 := by decide +kernel
theorem it_1170 : isT 1170 := by decide +kernel
theorem it_1171 : isT 1171 := by decide +kernel
theorem it_1172 : isT 1172 := by decide +kernel
theorem it_1173 : isT 1173 := by decide +kernel
theorem it_1174 : isT 1174 := by decide +kernel
theorem it_1175 : isT 1175 := by decide +kernel

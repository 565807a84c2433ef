def tbX11 : Tb := ([(10, 11, 0, 2), (19, 11, 1, 3), (23, 11, 2, 3), (29, 11, 3, 2), (36, 11, 4, 2), (43, 11, 5, 2), (47, 11, 6, 2), (51, 3, 1, 0), (63, 3, 6, 0), (72, 11, 7, 0), (75, 11, 8, 3), (84, 3, 5, 0), (87, 3, 7, 0), (94, 4, 0, 2), (98, 7, 1, 0), (101, 7, 2, 0), (104, 7, 3, 0), (107, 7, 0, 2), (118, 4, 2, 2), (122, 10, 1, 0), (125, 10, 3, 0), (128, 10, 0, 2), (129, 10, 2, 2), (135, 4, 4, 2), (138, 4, 5, 2), (141, 4, 6, 2), (147, 4, 10, 2), (150, 4, 8, 2), (154, 4, 9, 2), (157, 4, 1, 0), (160, 4, 3, 0), (163, 4, 7, 0), (166, 4, 11, 0), (169, 6, 1, 0), (172, 10, 4, 2), (191, 1, 2, 0), (192, 1, 1, 2), (195, 4, 12, 2), (204, 8, 1, 0), (207, 8, 0, 2), (208, 8, 4, 4), (219, 9, 2, 4), (222, 9, 1, 0), (223, 9, 0, 2), (262, 0, 9, 0), (263, 0, 8, 2), (272, 6, 0, 2), (276, 5, 1, 0), (289, 5, 2, 2), (292, 5, 0, 0), (301, 5, 3, 2), (309, 8, 2, 0), (311, 2, 0, 2)], [(9, 3, mX3_init), (18, 2, mX4_init), (28, 3, mX9_init), (35, 3, mX1_init), (42, 3, mX6_init), (55, 0, mX3_append), (59, 0, mX3_parse), (66, 0, mX4_settle), (69, 0, mX6_beginAnew), (79, 0, mX0_forget), (90, 0, mX11_isSign), (111, 1, mX11_at), (115, 0, mX11_isWord), (132, 0, mX11_isLesson), (144, 0, mX11_isPage), (175, 0, mX11_areSigns), (180, 0, mX1_countWays), (184, 0, mX1_inAll), (188, 0, mX1_findFirst), (199, 0, mX8_say), (212, 1, mX11_bit), (216, 0, mX9_spell), (224, 0, mX11_areLessons), (227, 0, mX4_isClosed), (230, 0, mX4_signsOf), (234, 0, mX4_readBy), (237, 0, mX4_takenFor), (241, 0, mX4_unknownOn), (245, 1, mX11_isOutsideUnknown), (248, 0, mX4_allLessons), (252, 1, mJ6_bitCount_0f7a4), (257, 3, mX0_init), (258, 0, mX0_find), (266, 0, mX4_withAllBehind), (269, 1, mX11_isPupil), (281, 0, mX4_mayFollow), (285, 0, mX11_missingOf), (295, 0, mX2_use), (303, 0, mX5_heldWords), (306, 0, mX5_heldSigns), (314, 0, mX11_unknownFor), (317, 0, mX11_lessonToTakeAgain), (321, 0, mX11_pageToRead), (324, 0, mX11_lessonToTake), (327, 1, mX11_isImage), (330, 0, mX6_becomeLike), (334, 0, mX4_readAmong)], [(178, .long (-1001))], [(7, 3), (16, 4), (26, 9), (33, 1), (40, 6), (80, 0), (100040, 27)], [1], [])
theorem tfX11_10 : ∃ wi, fxCk RX11 (10, 11, 0, 2) wi = true := ⟨440, by decide +kernel⟩
theorem tfX11_19 : ∃ wi, fxCk RX11 (19, 11, 1, 3) wi = true := ⟨441, by decide +kernel⟩
theorem tfX11_23 : ∃ wi, fxCk RX11 (23, 11, 2, 3) wi = true := ⟨442, by decide +kernel⟩
theorem tfX11_29 : ∃ wi, fxCk RX11 (29, 11, 3, 2) wi = true := ⟨443, by decide +kernel⟩
theorem tfX11_36 : ∃ wi, fxCk RX11 (36, 11, 4, 2) wi = true := ⟨444, by decide +kernel⟩
theorem tfX11_43 : ∃ wi, fxCk RX11 (43, 11, 5, 2) wi = true := ⟨445, by decide +kernel⟩
theorem tfX11_47 : ∃ wi, fxCk RX11 (47, 11, 6, 2) wi = true := ⟨446, by decide +kernel⟩
theorem tfX11_51 : ∃ wi, fxCk RX11 (51, 3, 1, 0) wi = true := ⟨118, by decide +kernel⟩
theorem tfX11_63 : ∃ wi, fxCk RX11 (63, 3, 6, 0) wi = true := ⟨124, by decide +kernel⟩
theorem tfX11_72 : ∃ wi, fxCk RX11 (72, 11, 7, 0) wi = true := ⟨447, by decide +kernel⟩
theorem tfX11_75 : ∃ wi, fxCk RX11 (75, 11, 8, 3) wi = true := ⟨448, by decide +kernel⟩
theorem tfX11_84 : ∃ wi, fxCk RX11 (84, 3, 5, 0) wi = true := ⟨123, by decide +kernel⟩
theorem tfX11_87 : ∃ wi, fxCk RX11 (87, 3, 7, 0) wi = true := ⟨127, by decide +kernel⟩
theorem tfX11_94 : ∃ wi, fxCk RX11 (94, 4, 0, 2) wi = true := ⟨276, by decide +kernel⟩
theorem tfX11_98 : ∃ wi, fxCk RX11 (98, 7, 1, 0) wi = true := ⟨202, by decide +kernel⟩
theorem tfX11_101 : ∃ wi, fxCk RX11 (101, 7, 2, 0) wi = true := ⟨207, by decide +kernel⟩
theorem tfX11_104 : ∃ wi, fxCk RX11 (104, 7, 3, 0) wi = true := ⟨211, by decide +kernel⟩
theorem tfX11_107 : ∃ wi, fxCk RX11 (107, 7, 0, 2) wi = true := ⟨197, by decide +kernel⟩
theorem tfX11_118 : ∃ wi, fxCk RX11 (118, 4, 2, 2) wi = true := ⟨284, by decide +kernel⟩
theorem tfX11_122 : ∃ wi, fxCk RX11 (122, 10, 1, 0) wi = true := ⟨237, by decide +kernel⟩
theorem tfX11_125 : ∃ wi, fxCk RX11 (125, 10, 3, 0) wi = true := ⟨249, by decide +kernel⟩
theorem tfX11_128 : ∃ wi, fxCk RX11 (128, 10, 0, 2) wi = true := ⟨231, by decide +kernel⟩
theorem tfX11_129 : ∃ wi, fxCk RX11 (129, 10, 2, 2) wi = true := ⟨243, by decide +kernel⟩
theorem tfX11_135 : ∃ wi, fxCk RX11 (135, 4, 4, 2) wi = true := ⟨290, by decide +kernel⟩
theorem tfX11_138 : ∃ wi, fxCk RX11 (138, 4, 5, 2) wi = true := ⟨293, by decide +kernel⟩
theorem tfX11_141 : ∃ wi, fxCk RX11 (141, 4, 6, 2) wi = true := ⟨296, by decide +kernel⟩
theorem tfX11_147 : ∃ wi, fxCk RX11 (147, 4, 10, 2) wi = true := ⟨310, by decide +kernel⟩
theorem tfX11_150 : ∃ wi, fxCk RX11 (150, 4, 8, 2) wi = true := ⟨303, by decide +kernel⟩
theorem tfX11_154 : ∃ wi, fxCk RX11 (154, 4, 9, 2) wi = true := ⟨306, by decide +kernel⟩
theorem tfX11_157 : ∃ wi, fxCk RX11 (157, 4, 1, 0) wi = true := ⟨282, by decide +kernel⟩
theorem tfX11_160 : ∃ wi, fxCk RX11 (160, 4, 3, 0) wi = true := ⟨288, by decide +kernel⟩
theorem tfX11_163 : ∃ wi, fxCk RX11 (163, 4, 7, 0) wi = true := ⟨301, by decide +kernel⟩
theorem tfX11_166 : ∃ wi, fxCk RX11 (166, 4, 11, 0) wi = true := ⟨315, by decide +kernel⟩
theorem tfX11_169 : ∃ wi, fxCk RX11 (169, 6, 1, 0) wi = true := ⟨433, by decide +kernel⟩
theorem tfX11_172 : ∃ wi, fxCk RX11 (172, 10, 4, 2) wi = true := ⟨256, by decide +kernel⟩
theorem tfX11_191 : ∃ wi, fxCk RX11 (191, 1, 2, 0) wi = true := ⟨377, by decide +kernel⟩
theorem tfX11_192 : ∃ wi, fxCk RX11 (192, 1, 1, 2) wi = true := ⟨375, by decide +kernel⟩
theorem tfX11_195 : ∃ wi, fxCk RX11 (195, 4, 12, 2) wi = true := ⟨317, by decide +kernel⟩
theorem tfX11_204 : ∃ wi, fxCk RX11 (204, 8, 1, 0) wi = true := ⟨168, by decide +kernel⟩
theorem tfX11_207 : ∃ wi, fxCk RX11 (207, 8, 0, 2) wi = true := ⟨165, by decide +kernel⟩
theorem tfX11_208 : ∃ wi, fxCk RX11 (208, 8, 4, 4) wi = true := ⟨176, by decide +kernel⟩
theorem tfX11_219 : ∃ wi, fxCk RX11 (219, 9, 2, 4) wi = true := ⟨359, by decide +kernel⟩
theorem tfX11_222 : ∃ wi, fxCk RX11 (222, 9, 1, 0) wi = true := ⟨357, by decide +kernel⟩
theorem tfX11_223 : ∃ wi, fxCk RX11 (223, 9, 0, 2) wi = true := ⟨355, by decide +kernel⟩
theorem tfX11_262 : ∃ wi, fxCk RX11 (262, 0, 9, 0) wi = true := ⟨869, by decide +kernel⟩
theorem tfX11_263 : ∃ wi, fxCk RX11 (263, 0, 8, 2) wi = true := ⟨867, by decide +kernel⟩
theorem tfX11_272 : ∃ wi, fxCk RX11 (272, 6, 0, 2) wi = true := ⟨431, by decide +kernel⟩
theorem tfX11_276 : ∃ wi, fxCk RX11 (276, 5, 1, 0) wi = true := ⟨416, by decide +kernel⟩
theorem tfX11_289 : ∃ wi, fxCk RX11 (289, 5, 2, 2) wi = true := ⟨418, by decide +kernel⟩
theorem tfX11_292 : ∃ wi, fxCk RX11 (292, 5, 0, 0) wi = true := ⟨414, by decide +kernel⟩
theorem tfX11_301 : ∃ wi, fxCk RX11 (301, 5, 3, 2) wi = true := ⟨420, by decide +kernel⟩
theorem tfX11_309 : ∃ wi, fxCk RX11 (309, 8, 2, 0) wi = true := ⟨171, by decide +kernel⟩
theorem tfX11_311 : ∃ wi, fxCk RX11 (311, 2, 0, 2) wi = true := ⟨406, by decide +kernel⟩
theorem tcX11_9 : ∃ ws, (if (3 : Nat) = 4 then pCk RX11 9 ws else cCk RX11 9 3 mX3_init ws) = true := ⟨[114, 82, 0, 113], by rw [if_neg (by decide)]; decide +kernel⟩
theorem tcX11_18 : ∃ ws, (if (2 : Nat) = 4 then pCk RX11 18 ws else cCk RX11 18 2 mX4_init ws) = true := ⟨[150, 83, 148, 149], by rw [if_neg (by decide)]; decide +kernel⟩
theorem tcX11_28 : ∃ ws, (if (3 : Nat) = 4 then pCk RX11 28 ws else cCk RX11 28 3 mX9_init ws) = true := ⟨[352, 88, 0, 351], by rw [if_neg (by decide)]; decide +kernel⟩
theorem tcX11_35 : ∃ ws, (if (3 : Nat) = 4 then pCk RX11 35 ws else cCk RX11 35 3 mX1_init ws) = true := ⟨[371, 89, 0, 370], by rw [if_neg (by decide)]; decide +kernel⟩
theorem tcX11_42 : ∃ ws, (if (3 : Nat) = 4 then pCk RX11 42 ws else cCk RX11 42 3 mX6_init ws) = true := ⟨[390, 90, 0, 389], by rw [if_neg (by decide)]; decide +kernel⟩
theorem tcX11_55 : ∃ ws, (if (0 : Nat) = 4 then pCk RX11 55 ws else cCk RX11 55 0 mX3_append ws) = true := ⟨[475, 82, 472, 473, 474], by rw [if_neg (by decide)]; decide +kernel⟩
theorem tcX11_59 : ∃ ws, (if (0 : Nat) = 4 then pCk RX11 59 ws else cCk RX11 59 0 mX3_parse ws) = true := ⟨[483, 82, 480, 481, 482], by rw [if_neg (by decide)]; decide +kernel⟩
theorem tcX11_66 : ∃ ws, (if (0 : Nat) = 4 then pCk RX11 66 ws else cCk RX11 66 0 mX4_settle ws) = true := ⟨[625, 83, 622, 623, 624], by rw [if_neg (by decide)]; decide +kernel⟩
theorem tcX11_69 : ∃ ws, (if (0 : Nat) = 4 then pCk RX11 69 ws else cCk RX11 69 0 mX6_beginAnew ws) = true := ⟨[637, 90, 634, 635, 636], by rw [if_neg (by decide)]; decide +kernel⟩
theorem tcX11_79 : ∃ ws, (if (0 : Nat) = 4 then pCk RX11 79 ws else cCk RX11 79 0 mX0_forget ws) = true := ⟨[650, 100, 647, 648, 649], by rw [if_neg (by decide)]; decide +kernel⟩
theorem tcX11_90 : ∃ ws, (if (0 : Nat) = 4 then pCk RX11 90 ws else cCk RX11 90 0 mX11_isSign ws) = true := ⟨[662, 81, 659, 661, 18], by rw [if_neg (by decide)]; decide +kernel⟩
theorem tcX11_111 : ∃ ws, (if (1 : Nat) = 4 then pCk RX11 111 ws else cCk RX11 111 1 mX11_at ws) = true := ⟨[665, 81, 663, 664], by rw [if_neg (by decide)]; decide +kernel⟩
theorem tcX11_115 : ∃ ws, (if (0 : Nat) = 4 then pCk RX11 115 ws else cCk RX11 115 0 mX11_isWord ws) = true := ⟨[673, 81, 670, 672, 19], by rw [if_neg (by decide)]; decide +kernel⟩
theorem tcX11_132 : ∃ ws, (if (0 : Nat) = 4 then pCk RX11 132 ws else cCk RX11 132 0 mX11_isLesson ws) = true := ⟨[681, 81, 678, 680, 20], by rw [if_neg (by decide)]; decide +kernel⟩
theorem tcX11_144 : ∃ ws, (if (0 : Nat) = 4 then pCk RX11 144 ws else cCk RX11 144 0 mX11_isPage ws) = true := ⟨[689, 81, 686, 688, 21], by rw [if_neg (by decide)]; decide +kernel⟩
theorem tcX11_175 : ∃ ws, (if (0 : Nat) = 4 then pCk RX11 175 ws else cCk RX11 175 0 mX11_areSigns ws) = true := ⟨[705, 81, 702, 704, 22], by rw [if_neg (by decide)]; decide +kernel⟩
theorem tcX11_180 : ∃ ws, (if (0 : Nat) = 4 then pCk RX11 180 ws else cCk RX11 180 0 mX1_countWays ws) = true := ⟨[710, 89, 707, 708, 709], by rw [if_neg (by decide)]; decide +kernel⟩
theorem tcX11_184 : ∃ ws, (if (0 : Nat) = 4 then pCk RX11 184 ws else cCk RX11 184 0 mX1_inAll ws) = true := ⟨[721, 89, 718, 719, 720], by rw [if_neg (by decide)]; decide +kernel⟩
theorem tcX11_188 : ∃ ws, (if (0 : Nat) = 4 then pCk RX11 188 ws else cCk RX11 188 0 mX1_findFirst ws) = true := ⟨[729, 89, 726, 727, 728], by rw [if_neg (by decide)]; decide +kernel⟩
theorem tcX11_199 : ∃ ws, (if (0 : Nat) = 4 then pCk RX11 199 ws else cCk RX11 199 0 mX8_say ws) = true := ⟨[742, 84, 739, 740, 741], by rw [if_neg (by decide)]; decide +kernel⟩
theorem tcX11_212 : ∃ ws, (if (1 : Nat) = 4 then pCk RX11 212 ws else cCk RX11 212 1 mX11_bit ws) = true := ⟨[758, 81, 756, 757], by rw [if_neg (by decide)]; decide +kernel⟩
theorem tcX11_216 : ∃ ws, (if (0 : Nat) = 4 then pCk RX11 216 ws else cCk RX11 216 0 mX9_spell ws) = true := ⟨[762, 88, 759, 760, 761], by rw [if_neg (by decide)]; decide +kernel⟩
theorem tcX11_224 : ∃ ws, (if (0 : Nat) = 4 then pCk RX11 224 ws else cCk RX11 224 0 mX11_areLessons ws) = true := ⟨[782, 81, 779, 781, 26], by rw [if_neg (by decide)]; decide +kernel⟩
theorem tcX11_227 : ∃ ws, (if (0 : Nat) = 4 then pCk RX11 227 ws else cCk RX11 227 0 mX4_isClosed ws) = true := ⟨[786, 83, 783, 784, 785], by rw [if_neg (by decide)]; decide +kernel⟩
theorem tcX11_230 : ∃ ws, (if (0 : Nat) = 4 then pCk RX11 230 ws else cCk RX11 230 0 mX4_signsOf ws) = true := ⟨[794, 83, 791, 792, 793], by rw [if_neg (by decide)]; decide +kernel⟩
theorem tcX11_234 : ∃ ws, (if (0 : Nat) = 4 then pCk RX11 234 ws else cCk RX11 234 0 mX4_readBy ws) = true := ⟨[806, 83, 803, 804, 805], by rw [if_neg (by decide)]; decide +kernel⟩
theorem tcX11_237 : ∃ ws, (if (0 : Nat) = 4 then pCk RX11 237 ws else cCk RX11 237 0 mX4_takenFor ws) = true := ⟨[820, 83, 817, 818, 819], by rw [if_neg (by decide)]; decide +kernel⟩
theorem tcX11_241 : ∃ ws, (if (0 : Nat) = 4 then pCk RX11 241 ws else cCk RX11 241 0 mX4_unknownOn ws) = true := ⟨[829, 83, 826, 827, 828], by rw [if_neg (by decide)]; decide +kernel⟩
theorem tcX11_245 : ∃ ws, (if (1 : Nat) = 4 then pCk RX11 245 ws else cCk RX11 245 1 mX11_isOutsideUnknown ws) = true := ⟨[842, 81, 840, 841], by rw [if_neg (by decide)]; decide +kernel⟩
theorem tcX11_248 : ∃ ws, (if (0 : Nat) = 4 then pCk RX11 248 ws else cCk RX11 248 0 mX4_allLessons ws) = true := ⟨[846, 83, 843, 844, 845], by rw [if_neg (by decide)]; decide +kernel⟩
theorem tcX11_252 : ∃ ws, (if (1 : Nat) = 4 then pCk RX11 252 ws else cCk RX11 252 1 mJ6_bitCount_0f7a4 ws) = true := ⟨[832, 99, 847, 831], by rw [if_neg (by decide)]; decide +kernel⟩
theorem tcX11_257 : ∃ ws, (if (3 : Nat) = 4 then pCk RX11 257 ws else cCk RX11 257 3 mX0_init ws) = true := ⟨[856, 100, 0, 855], by rw [if_neg (by decide)]; decide +kernel⟩
theorem tcX11_258 : ∃ ws, (if (0 : Nat) = 4 then pCk RX11 258 ws else cCk RX11 258 0 mX0_find ws) = true := ⟨[894, 100, 891, 892, 893], by rw [if_neg (by decide)]; decide +kernel⟩
theorem tcX11_266 : ∃ ws, (if (0 : Nat) = 4 then pCk RX11 266 ws else cCk RX11 266 0 mX4_withAllBehind ws) = true := ⟨[933, 83, 930, 931, 932], by rw [if_neg (by decide)]; decide +kernel⟩
theorem tcX11_269 : ∃ ws, (if (1 : Nat) = 4 then pCk RX11 269 ws else cCk RX11 269 1 mX11_isPupil ws) = true := ⟨[944, 81, 942, 943], by rw [if_neg (by decide)]; decide +kernel⟩
theorem tcX11_281 : ∃ ws, (if (0 : Nat) = 4 then pCk RX11 281 ws else cCk RX11 281 0 mX4_mayFollow ws) = true := ⟨[790, 83, 945, 788, 789], by rw [if_neg (by decide)]; decide +kernel⟩
theorem tcX11_285 : ∃ ws, (if (0 : Nat) = 4 then pCk RX11 285 ws else cCk RX11 285 0 mX11_missingOf ws) = true := ⟨[949, 81, 946, 948, 33], by rw [if_neg (by decide)]; decide +kernel⟩
theorem tcX11_295 : ∃ ws, (if (0 : Nat) = 4 then pCk RX11 295 ws else cCk RX11 295 0 mX2_use ws) = true := ⟨[965, 92, 962, 963, 964], by rw [if_neg (by decide)]; decide +kernel⟩
theorem tcX11_303 : ∃ ws, (if (0 : Nat) = 4 then pCk RX11 303 ws else cCk RX11 303 0 mX5_heldWords ws) = true := ⟨[961, 91, 958, 959, 960], by rw [if_neg (by decide)]; decide +kernel⟩
theorem tcX11_306 : ∃ ws, (if (0 : Nat) = 4 then pCk RX11 306 ws else cCk RX11 306 0 mX5_heldSigns ws) = true := ⟨[953, 91, 950, 951, 952], by rw [if_neg (by decide)]; decide +kernel⟩
theorem tcX11_314 : ∃ ws, (if (0 : Nat) = 4 then pCk RX11 314 ws else cCk RX11 314 0 mX11_unknownFor ws) = true := ⟨[991, 81, 988, 990, 34], by rw [if_neg (by decide)]; decide +kernel⟩
theorem tcX11_317 : ∃ ws, (if (0 : Nat) = 4 then pCk RX11 317 ws else cCk RX11 317 0 mX11_lessonToTakeAgain ws) = true := ⟨[1000, 81, 997, 999, 35], by rw [if_neg (by decide)]; decide +kernel⟩
theorem tcX11_321 : ∃ ws, (if (0 : Nat) = 4 then pCk RX11 321 ws else cCk RX11 321 0 mX11_pageToRead ws) = true := ⟨[1004, 81, 1001, 1003, 36], by rw [if_neg (by decide)]; decide +kernel⟩
theorem tcX11_324 : ∃ ws, (if (0 : Nat) = 4 then pCk RX11 324 ws else cCk RX11 324 0 mX11_lessonToTake ws) = true := ⟨[1008, 81, 1005, 1007, 37], by rw [if_neg (by decide)]; decide +kernel⟩
theorem tcX11_327 : ∃ ws, (if (1 : Nat) = 4 then pCk RX11 327 ws else cCk RX11 327 1 mX11_isImage ws) = true := ⟨[1019, 81, 1017, 1018], by rw [if_neg (by decide)]; decide +kernel⟩
theorem tcX11_330 : ∃ ws, (if (0 : Nat) = 4 then pCk RX11 330 ws else cCk RX11 330 0 mX6_becomeLike ws) = true := ⟨[1023, 90, 1020, 1021, 1022], by rw [if_neg (by decide)]; decide +kernel⟩
theorem tcX11_334 : ∃ ws, (if (0 : Nat) = 4 then pCk RX11 334 ws else cCk RX11 334 0 mX4_readAmong ws) = true := ⟨[811, 83, 992, 809, 810], by rw [if_neg (by decide)]; decide +kernel⟩
theorem tkX11_178 : ∃ wi, kCk RX11 178 (.long (-1001)) wi = true := ⟨706, by decide +kernel⟩
theorem tnX11_7 : ∃ ws, nCk RX11 7 3 ws = true := ⟨[110, 111, 82], by decide +kernel⟩
theorem tnX11_16 : ∃ ws, nCk RX11 16 4 ws = true := ⟨[146, 147, 83], by decide +kernel⟩
theorem tnX11_26 : ∃ ws, nCk RX11 26 9 ws = true := ⟨[348, 349, 88], by decide +kernel⟩
theorem tnX11_33 : ∃ ws, nCk RX11 33 1 ws = true := ⟨[367, 368, 89], by decide +kernel⟩
theorem tnX11_40 : ∃ ws, nCk RX11 40 6 ws = true := ⟨[386, 387, 90], by decide +kernel⟩
theorem tnX11_80 : ∃ ws, nCk RX11 80 0 ws = true := ⟨[852, 853, 100], by decide +kernel⟩
theorem tnX11_100040 : ∃ ws, nCk RX11 100040 27 ws = true := ⟨[386], by decide +kernel⟩
theorem toX11_1 : ∃ ws, oCk RX11 1 ws = true := ⟨[107, 108, 109], by decide +kernel⟩
theorem tbX11_ok : tbOK RX11 tbX11 := tbOK_of (List.forall_mem_cons.mpr ⟨tfX11_10, (List.forall_mem_cons.mpr ⟨tfX11_19, (List.forall_mem_cons.mpr ⟨tfX11_23, (List.forall_mem_cons.mpr ⟨tfX11_29, (List.forall_mem_cons.mpr ⟨tfX11_36, (List.forall_mem_cons.mpr ⟨tfX11_43, (List.forall_mem_cons.mpr ⟨tfX11_47, (List.forall_mem_cons.mpr ⟨tfX11_51, (List.forall_mem_cons.mpr ⟨tfX11_63, (List.forall_mem_cons.mpr ⟨tfX11_72, (List.forall_mem_cons.mpr ⟨tfX11_75, (List.forall_mem_cons.mpr ⟨tfX11_84, (List.forall_mem_cons.mpr ⟨tfX11_87, (List.forall_mem_cons.mpr ⟨tfX11_94, (List.forall_mem_cons.mpr ⟨tfX11_98, (List.forall_mem_cons.mpr ⟨tfX11_101, (List.forall_mem_cons.mpr ⟨tfX11_104, (List.forall_mem_cons.mpr ⟨tfX11_107, (List.forall_mem_cons.mpr ⟨tfX11_118, (List.forall_mem_cons.mpr ⟨tfX11_122, (List.forall_mem_cons.mpr ⟨tfX11_125, (List.forall_mem_cons.mpr ⟨tfX11_128, (List.forall_mem_cons.mpr ⟨tfX11_129, (List.forall_mem_cons.mpr ⟨tfX11_135, (List.forall_mem_cons.mpr ⟨tfX11_138, (List.forall_mem_cons.mpr ⟨tfX11_141, (List.forall_mem_cons.mpr ⟨tfX11_147, (List.forall_mem_cons.mpr ⟨tfX11_150, (List.forall_mem_cons.mpr ⟨tfX11_154, (List.forall_mem_cons.mpr ⟨tfX11_157, (List.forall_mem_cons.mpr ⟨tfX11_160, (List.forall_mem_cons.mpr ⟨tfX11_163, (List.forall_mem_cons.mpr ⟨tfX11_166, (List.forall_mem_cons.mpr ⟨tfX11_169, (List.forall_mem_cons.mpr ⟨tfX11_172, (List.forall_mem_cons.mpr ⟨tfX11_191, (List.forall_mem_cons.mpr ⟨tfX11_192, (List.forall_mem_cons.mpr ⟨tfX11_195, (List.forall_mem_cons.mpr ⟨tfX11_204, (List.forall_mem_cons.mpr ⟨tfX11_207, (List.forall_mem_cons.mpr ⟨tfX11_208, (List.forall_mem_cons.mpr ⟨tfX11_219, (List.forall_mem_cons.mpr ⟨tfX11_222, (List.forall_mem_cons.mpr ⟨tfX11_223, (List.forall_mem_cons.mpr ⟨tfX11_262, (List.forall_mem_cons.mpr ⟨tfX11_263, (List.forall_mem_cons.mpr ⟨tfX11_272, (List.forall_mem_cons.mpr ⟨tfX11_276, (List.forall_mem_cons.mpr ⟨tfX11_289, (List.forall_mem_cons.mpr ⟨tfX11_292, (List.forall_mem_cons.mpr ⟨tfX11_301, (List.forall_mem_cons.mpr ⟨tfX11_309, (List.forall_mem_cons.mpr ⟨tfX11_311, (fun _ h => absurd h List.not_mem_nil)⟩)⟩)⟩)⟩)⟩)⟩)⟩)⟩)⟩)⟩)⟩)⟩)⟩)⟩)⟩)⟩)⟩)⟩)⟩)⟩)⟩)⟩)⟩)⟩)⟩)⟩)⟩)⟩)⟩)⟩)⟩)⟩)⟩)⟩)⟩)⟩)⟩)⟩)⟩)⟩)⟩)⟩)⟩)⟩)⟩)⟩)⟩)⟩)⟩)⟩)⟩)⟩)⟩) (List.forall_mem_cons.mpr ⟨tcX11_9, (List.forall_mem_cons.mpr ⟨tcX11_18, (List.forall_mem_cons.mpr ⟨tcX11_28, (List.forall_mem_cons.mpr ⟨tcX11_35, (List.forall_mem_cons.mpr ⟨tcX11_42, (List.forall_mem_cons.mpr ⟨tcX11_55, (List.forall_mem_cons.mpr ⟨tcX11_59, (List.forall_mem_cons.mpr ⟨tcX11_66, (List.forall_mem_cons.mpr ⟨tcX11_69, (List.forall_mem_cons.mpr ⟨tcX11_79, (List.forall_mem_cons.mpr ⟨tcX11_90, (List.forall_mem_cons.mpr ⟨tcX11_111, (List.forall_mem_cons.mpr ⟨tcX11_115, (List.forall_mem_cons.mpr ⟨tcX11_132, (List.forall_mem_cons.mpr ⟨tcX11_144, (List.forall_mem_cons.mpr ⟨tcX11_175, (List.forall_mem_cons.mpr ⟨tcX11_180, (List.forall_mem_cons.mpr ⟨tcX11_184, (List.forall_mem_cons.mpr ⟨tcX11_188, (List.forall_mem_cons.mpr ⟨tcX11_199, (List.forall_mem_cons.mpr ⟨tcX11_212, (List.forall_mem_cons.mpr ⟨tcX11_216, (List.forall_mem_cons.mpr ⟨tcX11_224, (List.forall_mem_cons.mpr ⟨tcX11_227, (List.forall_mem_cons.mpr ⟨tcX11_230, (List.forall_mem_cons.mpr ⟨tcX11_234, (List.forall_mem_cons.mpr ⟨tcX11_237, (List.forall_mem_cons.mpr ⟨tcX11_241, (List.forall_mem_cons.mpr ⟨tcX11_245, (List.forall_mem_cons.mpr ⟨tcX11_248, (List.forall_mem_cons.mpr ⟨tcX11_252, (List.forall_mem_cons.mpr ⟨tcX11_257, (List.forall_mem_cons.mpr ⟨tcX11_258, (List.forall_mem_cons.mpr ⟨tcX11_266, (List.forall_mem_cons.mpr ⟨tcX11_269, (List.forall_mem_cons.mpr ⟨tcX11_281, (List.forall_mem_cons.mpr ⟨tcX11_285, (List.forall_mem_cons.mpr ⟨tcX11_295, (List.forall_mem_cons.mpr ⟨tcX11_303, (List.forall_mem_cons.mpr ⟨tcX11_306, (List.forall_mem_cons.mpr ⟨tcX11_314, (List.forall_mem_cons.mpr ⟨tcX11_317, (List.forall_mem_cons.mpr ⟨tcX11_321, (List.forall_mem_cons.mpr ⟨tcX11_324, (List.forall_mem_cons.mpr ⟨tcX11_327, (List.forall_mem_cons.mpr ⟨tcX11_330, (List.forall_mem_cons.mpr ⟨tcX11_334, (fun _ h => absurd h List.not_mem_nil)⟩)⟩)⟩)⟩)⟩)⟩)⟩)⟩)⟩)⟩)⟩)⟩)⟩)⟩)⟩)⟩)⟩)⟩)⟩)⟩)⟩)⟩)⟩)⟩)⟩)⟩)⟩)⟩)⟩)⟩)⟩)⟩)⟩)⟩)⟩)⟩)⟩)⟩)⟩)⟩)⟩)⟩)⟩)⟩)⟩)⟩)⟩) (List.forall_mem_cons.mpr ⟨tkX11_178, (fun _ h => absurd h List.not_mem_nil)⟩) (List.forall_mem_cons.mpr ⟨tnX11_7, (List.forall_mem_cons.mpr ⟨tnX11_16, (List.forall_mem_cons.mpr ⟨tnX11_26, (List.forall_mem_cons.mpr ⟨tnX11_33, (List.forall_mem_cons.mpr ⟨tnX11_40, (List.forall_mem_cons.mpr ⟨tnX11_80, (List.forall_mem_cons.mpr ⟨tnX11_100040, (fun _ h => absurd h List.not_mem_nil)⟩)⟩)⟩)⟩)⟩)⟩)⟩) (List.forall_mem_cons.mpr ⟨toX11_1, (fun _ h => absurd h List.not_mem_nil)⟩)

def tbX3 : Tb := ([(9, 3, 0, 2), (15, 3, 7, 0), (19, 3, 1, 0), (22, 3, 4, 3), (31, 3, 2, 0), (34, 3, 5, 0), (37, 3, 6, 0), (79, 4, 1, 0), (82, 4, 0, 2), (86, 7, 0, 2), (96, 7, 1, 0), (101, 7, 2, 0), (104, 7, 3, 0), (111, 4, 3, 0), (118, 4, 2, 2), (122, 10, 0, 2), (125, 10, 1, 0), (126, 10, 3, 0), (139, 10, 2, 2), (142, 3, 3, 0), (145, 4, 7, 0), (148, 4, 4, 2), (156, 4, 5, 2), (160, 4, 6, 2), (165, 4, 11, 0), (168, 4, 9, 2), (171, 4, 10, 2), (180, 4, 8, 2)], [(26, 0, mX4_clear), (40, 0, mX3_skipBlanks), (43, 0, mX3_parseClause), (48, 0, mX3_acceptsWord), (52, 0, mX3_parseSign), (58, 0, mX3_parseWord), (63, 0, mX3_parseLesson), (68, 0, mX3_parsePage), (71, 0, mX3_fail), (75, 0, mX3_accepts), (92, 0, mX3_parseLetters), (97, 0, mX3_parseNumber), (114, 0, mX3_wordAhead), (129, 0, mX3_parseSound), (133, 0, mX3_look), (136, 1, mX3_isFigure), (153, 0, mX3_parseList), (174, 0, mX3_parsePageWord), (177, 1, mX3_isLetter), (184, 0, mX3_lettersEnd), (187, 1, mJ9_min_7cf53), (193, 5, mJ0_length_8abf5), (197, 5, mJ0_charAt_5068e)], [(46, .retAddr 1), (56, .retAddr 4), (61, .retAddr 5), (66, .retAddr 9), (107, .retAddr 2), (109, .retAddr 3), (151, .retAddr 6), (159, .retAddr 7), (163, .retAddr 8)], [], [3], [])
theorem tfX3_9 : ∃ wi, fxCk RX3 (9, 3, 0, 2) wi = true := ⟨116, by decide +kernel⟩
theorem tfX3_15 : ∃ wi, fxCk RX3 (15, 3, 7, 0) wi = true := ⟨126, by decide +kernel⟩
theorem tfX3_19 : ∃ wi, fxCk RX3 (19, 3, 1, 0) wi = true := ⟨117, by decide +kernel⟩
theorem tfX3_22 : ∃ wi, fxCk RX3 (22, 3, 4, 3) wi = true := ⟨121, by decide +kernel⟩
theorem tfX3_31 : ∃ wi, fxCk RX3 (31, 3, 2, 0) wi = true := ⟨119, by decide +kernel⟩
theorem tfX3_34 : ∃ wi, fxCk RX3 (34, 3, 5, 0) wi = true := ⟨122, by decide +kernel⟩
theorem tfX3_37 : ∃ wi, fxCk RX3 (37, 3, 6, 0) wi = true := ⟨125, by decide +kernel⟩
theorem tfX3_79 : ∃ wi, fxCk RX3 (79, 4, 1, 0) wi = true := ⟨281, by decide +kernel⟩
theorem tfX3_82 : ∃ wi, fxCk RX3 (82, 4, 0, 2) wi = true := ⟨275, by decide +kernel⟩
theorem tfX3_86 : ∃ wi, fxCk RX3 (86, 7, 0, 2) wi = true := ⟨196, by decide +kernel⟩
theorem tfX3_96 : ∃ wi, fxCk RX3 (96, 7, 1, 0) wi = true := ⟨203, by decide +kernel⟩
theorem tfX3_101 : ∃ wi, fxCk RX3 (101, 7, 2, 0) wi = true := ⟨208, by decide +kernel⟩
theorem tfX3_104 : ∃ wi, fxCk RX3 (104, 7, 3, 0) wi = true := ⟨212, by decide +kernel⟩
theorem tfX3_111 : ∃ wi, fxCk RX3 (111, 4, 3, 0) wi = true := ⟨287, by decide +kernel⟩
theorem tfX3_118 : ∃ wi, fxCk RX3 (118, 4, 2, 2) wi = true := ⟨285, by decide +kernel⟩
theorem tfX3_122 : ∃ wi, fxCk RX3 (122, 10, 0, 2) wi = true := ⟨230, by decide +kernel⟩
theorem tfX3_125 : ∃ wi, fxCk RX3 (125, 10, 1, 0) wi = true := ⟨238, by decide +kernel⟩
theorem tfX3_126 : ∃ wi, fxCk RX3 (126, 10, 3, 0) wi = true := ⟨250, by decide +kernel⟩
theorem tfX3_139 : ∃ wi, fxCk RX3 (139, 10, 2, 2) wi = true := ⟨244, by decide +kernel⟩
theorem tfX3_142 : ∃ wi, fxCk RX3 (142, 3, 3, 0) wi = true := ⟨120, by decide +kernel⟩
theorem tfX3_145 : ∃ wi, fxCk RX3 (145, 4, 7, 0) wi = true := ⟨300, by decide +kernel⟩
theorem tfX3_148 : ∃ wi, fxCk RX3 (148, 4, 4, 2) wi = true := ⟨291, by decide +kernel⟩
theorem tfX3_156 : ∃ wi, fxCk RX3 (156, 4, 5, 2) wi = true := ⟨294, by decide +kernel⟩
theorem tfX3_160 : ∃ wi, fxCk RX3 (160, 4, 6, 2) wi = true := ⟨297, by decide +kernel⟩
theorem tfX3_165 : ∃ wi, fxCk RX3 (165, 4, 11, 0) wi = true := ⟨314, by decide +kernel⟩
theorem tfX3_168 : ∃ wi, fxCk RX3 (168, 4, 9, 2) wi = true := ⟨307, by decide +kernel⟩
theorem tfX3_171 : ∃ wi, fxCk RX3 (171, 4, 10, 2) wi = true := ⟨311, by decide +kernel⟩
theorem tfX3_180 : ∃ wi, fxCk RX3 (180, 4, 8, 2) wi = true := ⟨304, by decide +kernel⟩
theorem tcX3_26 : ∃ ws, (if (0 : Nat) = 4 then pCk RX3 26 ws else cCk RX3 26 0 mX4_clear ws) = true := ⟨[487, 83, 484, 485, 486], by rw [if_neg (by decide)]; decide +kernel⟩
theorem tcX3_40 : ∃ ws, (if (0 : Nat) = 4 then pCk RX3 40 ws else cCk RX3 40 0 mX3_skipBlanks ws) = true := ⟨[491, 82, 488, 490, 0], by rw [if_neg (by decide)]; decide +kernel⟩
theorem tcX3_43 : ∃ ws, (if (0 : Nat) = 4 then pCk RX3 43 ws else cCk RX3 43 0 mX3_parseClause ws) = true := ⟨[495, 82, 492, 494, 1], by rw [if_neg (by decide)]; decide +kernel⟩
theorem tcX3_48 : ∃ ws, (if (0 : Nat) = 4 then pCk RX3 48 ws else cCk RX3 48 0 mX3_acceptsWord ws) = true := ⟨[500, 82, 497, 499, 2], by rw [if_neg (by decide)]; decide +kernel⟩
theorem tcX3_52 : ∃ ws, (if (0 : Nat) = 4 then pCk RX3 52 ws else cCk RX3 52 0 mX3_parseSign ws) = true := ⟨[559, 82, 556, 558, 4], by rw [if_neg (by decide)]; decide +kernel⟩
theorem tcX3_58 : ∃ ws, (if (0 : Nat) = 4 then pCk RX3 58 ws else cCk RX3 58 0 mX3_parseWord ws) = true := ⟨[592, 82, 589, 591, 10], by rw [if_neg (by decide)]; decide +kernel⟩
theorem tcX3_63 : ∃ ws, (if (0 : Nat) = 4 then pCk RX3 63 ws else cCk RX3 63 0 mX3_parseLesson ws) = true := ⟨[605, 82, 602, 604, 13], by rw [if_neg (by decide)]; decide +kernel⟩
theorem tcX3_68 : ∃ ws, (if (0 : Nat) = 4 then pCk RX3 68 ws else cCk RX3 68 0 mX3_parsePage ws) = true := ⟨[617, 82, 614, 616, 15], by rw [if_neg (by decide)]; decide +kernel⟩
theorem tcX3_71 : ∃ ws, (if (0 : Nat) = 4 then pCk RX3 71 ws else cCk RX3 71 0 mX3_fail ws) = true := ⟨[563, 82, 560, 562, 5], by rw [if_neg (by decide)]; decide +kernel⟩
theorem tcX3_75 : ∃ ws, (if (0 : Nat) = 4 then pCk RX3 75 ws else cCk RX3 75 0 mX3_accepts ws) = true := ⟨[574, 82, 571, 573, 7], by rw [if_neg (by decide)]; decide +kernel⟩
theorem tcX3_92 : ∃ ws, (if (0 : Nat) = 4 then pCk RX3 92 ws else cCk RX3 92 0 mX3_parseLetters ws) = true := ⟨[567, 82, 564, 566, 6], by rw [if_neg (by decide)]; decide +kernel⟩
theorem tcX3_97 : ∃ ws, (if (0 : Nat) = 4 then pCk RX3 97 ws else cCk RX3 97 0 mX3_parseNumber ws) = true := ⟨[582, 82, 579, 581, 9], by rw [if_neg (by decide)]; decide +kernel⟩
theorem tcX3_114 : ∃ ws, (if (0 : Nat) = 4 then pCk RX3 114 ws else cCk RX3 114 0 mX3_wordAhead ws) = true := ⟨[596, 82, 593, 595, 11], by rw [if_neg (by decide)]; decide +kernel⟩
theorem tcX3_129 : ∃ ws, (if (0 : Nat) = 4 then pCk RX3 129 ws else cCk RX3 129 0 mX3_parseSound ws) = true := ⟨[600, 82, 597, 599, 12], by rw [if_neg (by decide)]; decide +kernel⟩
theorem tcX3_133 : ∃ ws, (if (0 : Nat) = 4 then pCk RX3 133 ws else cCk RX3 133 0 mX3_look ws) = true := ⟨[578, 82, 575, 577, 8], by rw [if_neg (by decide)]; decide +kernel⟩
theorem tcX3_136 : ∃ ws, (if (1 : Nat) = 4 then pCk RX3 136 ws else cCk RX3 136 1 mX3_isFigure ws) = true := ⟨[585, 82, 583, 584], by rw [if_neg (by decide)]; decide +kernel⟩
theorem tcX3_153 : ∃ ws, (if (0 : Nat) = 4 then pCk RX3 153 ws else cCk RX3 153 0 mX3_parseList ws) = true := ⟨[610, 82, 607, 609, 14], by rw [if_neg (by decide)]; decide +kernel⟩
theorem tcX3_174 : ∃ ws, (if (0 : Nat) = 4 then pCk RX3 174 ws else cCk RX3 174 0 mX3_parsePageWord ws) = true := ⟨[621, 82, 618, 620, 16], by rw [if_neg (by decide)]; decide +kernel⟩
theorem tcX3_177 : ∃ ws, (if (1 : Nat) = 4 then pCk RX3 177 ws else cCk RX3 177 1 mX3_isLetter ws) = true := ⟨[507, 82, 505, 506], by rw [if_neg (by decide)]; decide +kernel⟩
theorem tcX3_184 : ∃ ws, (if (0 : Nat) = 4 then pCk RX3 184 ws else cCk RX3 184 0 mX3_lettersEnd ws) = true := ⟨[504, 82, 501, 503, 3], by rw [if_neg (by decide)]; decide +kernel⟩
theorem tcX3_187 : ∃ ws, (if (1 : Nat) = 4 then pCk RX3 187 ws else cCk RX3 187 1 mJ9_min_7cf53 ws) = true := ⟨[570, 98, 568, 569], by rw [if_neg (by decide)]; decide +kernel⟩
theorem tcX3_193 : ∃ ws, (if (5 : Nat) = 4 then pCk RX3 193 ws else cCk RX3 193 5 mJ0_length_8abf5 ws) = true := ⟨[511, 94, 508, 509, 510], by rw [if_neg (by decide)]; decide +kernel⟩
theorem tcX3_197 : ∃ ws, (if (5 : Nat) = 4 then pCk RX3 197 ws else cCk RX3 197 5 mJ0_charAt_5068e ws) = true := ⟨[521, 94, 518, 519, 520], by rw [if_neg (by decide)]; decide +kernel⟩
theorem tkX3_46 : ∃ wi, kCk RX3 46 (.retAddr 1) wi = true := ⟨0, by decide +kernel⟩
theorem tkX3_56 : ∃ wi, kCk RX3 56 (.retAddr 4) wi = true := ⟨0, by decide +kernel⟩
theorem tkX3_61 : ∃ wi, kCk RX3 61 (.retAddr 5) wi = true := ⟨0, by decide +kernel⟩
theorem tkX3_66 : ∃ wi, kCk RX3 66 (.retAddr 9) wi = true := ⟨0, by decide +kernel⟩
theorem tkX3_107 : ∃ wi, kCk RX3 107 (.retAddr 2) wi = true := ⟨0, by decide +kernel⟩
theorem tkX3_109 : ∃ wi, kCk RX3 109 (.retAddr 3) wi = true := ⟨0, by decide +kernel⟩
theorem tkX3_151 : ∃ wi, kCk RX3 151 (.retAddr 6) wi = true := ⟨0, by decide +kernel⟩
theorem tkX3_159 : ∃ wi, kCk RX3 159 (.retAddr 7) wi = true := ⟨0, by decide +kernel⟩
theorem tkX3_163 : ∃ wi, kCk RX3 163 (.retAddr 8) wi = true := ⟨0, by decide +kernel⟩
theorem toX3_3 : ∃ ws, oCk RX3 3 ws = true := ⟨[115, 108, 109], by decide +kernel⟩
theorem tbX3_ok : tbOK RX3 tbX3 := tbOK_of (List.forall_mem_cons.mpr ⟨tfX3_9, (List.forall_mem_cons.mpr ⟨tfX3_15, (List.forall_mem_cons.mpr ⟨tfX3_19, (List.forall_mem_cons.mpr ⟨tfX3_22, (List.forall_mem_cons.mpr ⟨tfX3_31, (List.forall_mem_cons.mpr ⟨tfX3_34, (List.forall_mem_cons.mpr ⟨tfX3_37, (List.forall_mem_cons.mpr ⟨tfX3_79, (List.forall_mem_cons.mpr ⟨tfX3_82, (List.forall_mem_cons.mpr ⟨tfX3_86, (List.forall_mem_cons.mpr ⟨tfX3_96, (List.forall_mem_cons.mpr ⟨tfX3_101, (List.forall_mem_cons.mpr ⟨tfX3_104, (List.forall_mem_cons.mpr ⟨tfX3_111, (List.forall_mem_cons.mpr ⟨tfX3_118, (List.forall_mem_cons.mpr ⟨tfX3_122, (List.forall_mem_cons.mpr ⟨tfX3_125, (List.forall_mem_cons.mpr ⟨tfX3_126, (List.forall_mem_cons.mpr ⟨tfX3_139, (List.forall_mem_cons.mpr ⟨tfX3_142, (List.forall_mem_cons.mpr ⟨tfX3_145, (List.forall_mem_cons.mpr ⟨tfX3_148, (List.forall_mem_cons.mpr ⟨tfX3_156, (List.forall_mem_cons.mpr ⟨tfX3_160, (List.forall_mem_cons.mpr ⟨tfX3_165, (List.forall_mem_cons.mpr ⟨tfX3_168, (List.forall_mem_cons.mpr ⟨tfX3_171, (List.forall_mem_cons.mpr ⟨tfX3_180, (fun _ h => absurd h List.not_mem_nil)⟩)⟩)⟩)⟩)⟩)⟩)⟩)⟩)⟩)⟩)⟩)⟩)⟩)⟩)⟩)⟩)⟩)⟩)⟩)⟩)⟩)⟩)⟩)⟩)⟩)⟩)⟩)⟩) (List.forall_mem_cons.mpr ⟨tcX3_26, (List.forall_mem_cons.mpr ⟨tcX3_40, (List.forall_mem_cons.mpr ⟨tcX3_43, (List.forall_mem_cons.mpr ⟨tcX3_48, (List.forall_mem_cons.mpr ⟨tcX3_52, (List.forall_mem_cons.mpr ⟨tcX3_58, (List.forall_mem_cons.mpr ⟨tcX3_63, (List.forall_mem_cons.mpr ⟨tcX3_68, (List.forall_mem_cons.mpr ⟨tcX3_71, (List.forall_mem_cons.mpr ⟨tcX3_75, (List.forall_mem_cons.mpr ⟨tcX3_92, (List.forall_mem_cons.mpr ⟨tcX3_97, (List.forall_mem_cons.mpr ⟨tcX3_114, (List.forall_mem_cons.mpr ⟨tcX3_129, (List.forall_mem_cons.mpr ⟨tcX3_133, (List.forall_mem_cons.mpr ⟨tcX3_136, (List.forall_mem_cons.mpr ⟨tcX3_153, (List.forall_mem_cons.mpr ⟨tcX3_174, (List.forall_mem_cons.mpr ⟨tcX3_177, (List.forall_mem_cons.mpr ⟨tcX3_184, (List.forall_mem_cons.mpr ⟨tcX3_187, (List.forall_mem_cons.mpr ⟨tcX3_193, (List.forall_mem_cons.mpr ⟨tcX3_197, (fun _ h => absurd h List.not_mem_nil)⟩)⟩)⟩)⟩)⟩)⟩)⟩)⟩)⟩)⟩)⟩)⟩)⟩)⟩)⟩)⟩)⟩)⟩)⟩)⟩)⟩)⟩)⟩) (List.forall_mem_cons.mpr ⟨tkX3_46, (List.forall_mem_cons.mpr ⟨tkX3_56, (List.forall_mem_cons.mpr ⟨tkX3_61, (List.forall_mem_cons.mpr ⟨tkX3_66, (List.forall_mem_cons.mpr ⟨tkX3_107, (List.forall_mem_cons.mpr ⟨tkX3_109, (List.forall_mem_cons.mpr ⟨tkX3_151, (List.forall_mem_cons.mpr ⟨tkX3_159, (List.forall_mem_cons.mpr ⟨tkX3_163, (fun _ h => absurd h List.not_mem_nil)⟩)⟩)⟩)⟩)⟩)⟩)⟩)⟩)⟩) (fun _ h => absurd h List.not_mem_nil) (List.forall_mem_cons.mpr ⟨toX3_3, (fun _ h => absurd h List.not_mem_nil)⟩)
def tbX4 : Tb := ([(11, 4, 0, 2), (19, 4, 2, 2), (23, 4, 4, 2), (27, 4, 5, 2), (30, 4, 6, 2), (35, 4, 8, 2), (38, 4, 9, 2), (41, 4, 10, 2), (47, 4, 12, 2), (51, 4, 13, 2), (62, 4, 1, 0), (66, 4, 3, 0), (69, 4, 7, 0), (72, 4, 11, 0), (75, 10, 1, 0), (78, 10, 4, 2), (109, 8, 4, 4), (118, 8, 3, 4), (121, 10, 2, 2), (124, 10, 3, 0), (127, 8, 0, 2), (128, 8, 1, 0)], [(46, 3, mX8_init), (54, 3, mX7_init), (55, 3, mX10_init), (56, 1, mJ7_fill_53178), (81, 0, mX4_signsStandingAt), (85, 0, mX7_standsAt), (89, 0, mX4_mayFollow), (93, 0, mX4_unionOf), (97, 0, mX4_signsOf), (101, 0, mX4_readAmong), (105, 0, mX8_say), (113, 1, mJ6_bitCount_0f7a4), (131, 6, mX11_areAlike)], [], [(9, 7), (17, 10), (33, 28), (44, 8), (100009, 24), (100017, 25)], [3], [])
theorem tfX4_11 : ∃ wi, fxCk RX4 (11, 4, 0, 2) wi = true := ⟨271, by decide +kernel⟩
theorem tfX4_19 : ∃ wi, fxCk RX4 (19, 4, 2, 2) wi = true := ⟨283, by decide +kernel⟩
theorem tfX4_23 : ∃ wi, fxCk RX4 (23, 4, 4, 2) wi = true := ⟨289, by decide +kernel⟩
theorem tfX4_27 : ∃ wi, fxCk RX4 (27, 4, 5, 2) wi = true := ⟨292, by decide +kernel⟩
theorem tfX4_30 : ∃ wi, fxCk RX4 (30, 4, 6, 2) wi = true := ⟨295, by decide +kernel⟩
theorem tfX4_35 : ∃ wi, fxCk RX4 (35, 4, 8, 2) wi = true := ⟨302, by decide +kernel⟩
theorem tfX4_38 : ∃ wi, fxCk RX4 (38, 4, 9, 2) wi = true := ⟨305, by decide +kernel⟩
theorem tfX4_41 : ∃ wi, fxCk RX4 (41, 4, 10, 2) wi = true := ⟨308, by decide +kernel⟩
theorem tfX4_47 : ∃ wi, fxCk RX4 (47, 4, 12, 2) wi = true := ⟨316, by decide +kernel⟩
theorem tfX4_51 : ∃ wi, fxCk RX4 (51, 4, 13, 2) wi = true := ⟨318, by decide +kernel⟩
theorem tfX4_62 : ∃ wi, fxCk RX4 (62, 4, 1, 0) wi = true := ⟨277, by decide +kernel⟩
theorem tfX4_66 : ∃ wi, fxCk RX4 (66, 4, 3, 0) wi = true := ⟨286, by decide +kernel⟩
theorem tfX4_69 : ∃ wi, fxCk RX4 (69, 4, 7, 0) wi = true := ⟨298, by decide +kernel⟩
theorem tfX4_72 : ∃ wi, fxCk RX4 (72, 4, 11, 0) wi = true := ⟨312, by decide +kernel⟩
theorem tfX4_75 : ∃ wi, fxCk RX4 (75, 10, 1, 0) wi = true := ⟨236, by decide +kernel⟩
theorem tfX4_78 : ∃ wi, fxCk RX4 (78, 10, 4, 2) wi = true := ⟨254, by decide +kernel⟩
theorem tfX4_109 : ∃ wi, fxCk RX4 (109, 8, 4, 4) wi = true := ⟨175, by decide +kernel⟩
theorem tfX4_118 : ∃ wi, fxCk RX4 (118, 8, 3, 4) wi = true := ⟨173, by decide +kernel⟩
theorem tfX4_121 : ∃ wi, fxCk RX4 (121, 10, 2, 2) wi = true := ⟨245, by decide +kernel⟩
theorem tfX4_124 : ∃ wi, fxCk RX4 (124, 10, 3, 0) wi = true := ⟨251, by decide +kernel⟩
theorem tfX4_127 : ∃ wi, fxCk RX4 (127, 8, 0, 2) wi = true := ⟨166, by decide +kernel⟩
theorem tfX4_128 : ∃ wi, fxCk RX4 (128, 8, 1, 0) wi = true := ⟨169, by decide +kernel⟩
theorem tcX4_46 : ∃ ws, (if (3 : Nat) = 4 then pCk RX4 46 ws else cCk RX4 46 3 mX8_init ws) = true := ⟨[162, 84, 0, 161], by rw [if_neg (by decide)]; decide +kernel⟩
theorem tcX4_54 : ∃ ws, (if (3 : Nat) = 4 then pCk RX4 54 ws else cCk RX4 54 3 mX7_init ws) = true := ⟨[192, 85, 0, 191], by rw [if_neg (by decide)]; decide +kernel⟩
theorem tcX4_55 : ∃ ws, (if (3 : Nat) = 4 then pCk RX4 55 ws else cCk RX4 55 3 mX10_init ws) = true := ⟨[225, 86, 0, 224], by rw [if_neg (by decide)]; decide +kernel⟩
theorem tcX4_56 : ∃ ws, (if (1 : Nat) = 4 then pCk RX4 56 ws else cCk RX4 56 1 mJ7_fill_53178 ws) = true := ⟨[270, 87, 268, 269], by rw [if_neg (by decide)]; decide +kernel⟩
theorem tcX4_81 : ∃ ws, (if (0 : Nat) = 4 then pCk RX4 81 ws else cCk RX4 81 0 mX4_signsStandingAt ws) = true := ⟨[629, 83, 626, 628, 17], by rw [if_neg (by decide)]; decide +kernel⟩
theorem tcX4_85 : ∃ ws, (if (0 : Nat) = 4 then pCk RX4 85 ws else cCk RX4 85 0 mX7_standsAt ws) = true := ⟨[633, 85, 630, 631, 632], by rw [if_neg (by decide)]; decide +kernel⟩
theorem tcX4_89 : ∃ ws, (if (0 : Nat) = 4 then pCk RX4 89 ws else cCk RX4 89 0 mX4_mayFollow ws) = true := ⟨[790, 83, 787, 788, 789], by rw [if_neg (by decide)]; decide +kernel⟩
theorem tcX4_93 : ∃ ws, (if (0 : Nat) = 4 then pCk RX4 93 ws else cCk RX4 93 0 mX4_unionOf ws) = true := ⟨[798, 83, 795, 797, 27], by rw [if_neg (by decide)]; decide +kernel⟩
theorem tcX4_97 : ∃ ws, (if (0 : Nat) = 4 then pCk RX4 97 ws else cCk RX4 97 0 mX4_signsOf ws) = true := ⟨[794, 83, 807, 792, 793], by rw [if_neg (by decide)]; decide +kernel⟩
theorem tcX4_101 : ∃ ws, (if (0 : Nat) = 4 then pCk RX4 101 ws else cCk RX4 101 0 mX4_readAmong ws) = true := ⟨[811, 83, 808, 809, 810], by rw [if_neg (by decide)]; decide +kernel⟩
theorem tcX4_105 : ∃ ws, (if (0 : Nat) = 4 then pCk RX4 105 ws else cCk RX4 105 0 mX8_say ws) = true := ⟨[742, 84, 812, 740, 741], by rw [if_neg (by decide)]; decide +kernel⟩
theorem tcX4_113 : ∃ ws, (if (1 : Nat) = 4 then pCk RX4 113 ws else cCk RX4 113 1 mJ6_bitCount_0f7a4 ws) = true := ⟨[832, 99, 830, 831], by rw [if_neg (by decide)]; decide +kernel⟩
theorem tcX4_131 : ∃ ws, (if (6 : Nat) = 4 then pCk RX4 131 ws else cCk RX4 131 6 mX11_areAlike ws) = true := ⟨[751, 81, 0, 750], by rw [if_neg (by decide)]; decide +kernel⟩
theorem tnX4_9 : ∃ ws, nCk RX4 9 7 ws = true := ⟨[152, 189, 85], by decide +kernel⟩
theorem tnX4_17 : ∃ ws, nCk RX4 17 10 ws = true := ⟨[154, 222, 86], by decide +kernel⟩
theorem tnX4_33 : ∃ ws, nCk RX4 33 28 ws = true := ⟨[156], by decide +kernel⟩
theorem tnX4_44 : ∃ ws, nCk RX4 44 8 ws = true := ⟨[158, 159, 84], by decide +kernel⟩
theorem tnX4_100009 : ∃ ws, nCk RX4 100009 24 ws = true := ⟨[152], by decide +kernel⟩
theorem tnX4_100017 : ∃ ws, nCk RX4 100017 25 ws = true := ⟨[154], by decide +kernel⟩
theorem toX4_3 : ∃ ws, oCk RX4 3 ws = true := ⟨[151, 108, 109], by decide +kernel⟩
theorem tbX4_ok : tbOK RX4 tbX4 := tbOK_of (List.forall_mem_cons.mpr ⟨tfX4_11, (List.forall_mem_cons.mpr ⟨tfX4_19, (List.forall_mem_cons.mpr ⟨tfX4_23, (List.forall_mem_cons.mpr ⟨tfX4_27, (List.forall_mem_cons.mpr ⟨tfX4_30, (List.forall_mem_cons.mpr ⟨tfX4_35, (List.forall_mem_cons.mpr ⟨tfX4_38, (List.forall_mem_cons.mpr ⟨tfX4_41, (List.forall_mem_cons.mpr ⟨tfX4_47, (List.forall_mem_cons.mpr ⟨tfX4_51, (List.forall_mem_cons.mpr ⟨tfX4_62, (List.forall_mem_cons.mpr ⟨tfX4_66, (List.forall_mem_cons.mpr ⟨tfX4_69, (List.forall_mem_cons.mpr ⟨tfX4_72, (List.forall_mem_cons.mpr ⟨tfX4_75, (List.forall_mem_cons.mpr ⟨tfX4_78, (List.forall_mem_cons.mpr ⟨tfX4_109, (List.forall_mem_cons.mpr ⟨tfX4_118, (List.forall_mem_cons.mpr ⟨tfX4_121, (List.forall_mem_cons.mpr ⟨tfX4_124, (List.forall_mem_cons.mpr ⟨tfX4_127, (List.forall_mem_cons.mpr ⟨tfX4_128, (fun _ h => absurd h List.not_mem_nil)⟩)⟩)⟩)⟩)⟩)⟩)⟩)⟩)⟩)⟩)⟩)⟩)⟩)⟩)⟩)⟩)⟩)⟩)⟩)⟩)⟩)⟩) (List.forall_mem_cons.mpr ⟨tcX4_46, (List.forall_mem_cons.mpr ⟨tcX4_54, (List.forall_mem_cons.mpr ⟨tcX4_55, (List.forall_mem_cons.mpr ⟨tcX4_56, (List.forall_mem_cons.mpr ⟨tcX4_81, (List.forall_mem_cons.mpr ⟨tcX4_85, (List.forall_mem_cons.mpr ⟨tcX4_89, (List.forall_mem_cons.mpr ⟨tcX4_93, (List.forall_mem_cons.mpr ⟨tcX4_97, (List.forall_mem_cons.mpr ⟨tcX4_101, (List.forall_mem_cons.mpr ⟨tcX4_105, (List.forall_mem_cons.mpr ⟨tcX4_113, (List.forall_mem_cons.mpr ⟨tcX4_131, (fun _ h => absurd h List.not_mem_nil)⟩)⟩)⟩)⟩)⟩)⟩)⟩)⟩)⟩)⟩)⟩)⟩)⟩) (fun _ h => absurd h List.not_mem_nil) (List.forall_mem_cons.mpr ⟨tnX4_9, (List.forall_mem_cons.mpr ⟨tnX4_17, (List.forall_mem_cons.mpr ⟨tnX4_33, (List.forall_mem_cons.mpr ⟨tnX4_44, (List.forall_mem_cons.mpr ⟨tnX4_100009, (List.forall_mem_cons.mpr ⟨tnX4_100017, (fun _ h => absurd h List.not_mem_nil)⟩)⟩)⟩)⟩)⟩)⟩) (List.forall_mem_cons.mpr ⟨toX4_3, (fun _ h => absurd h List.not_mem_nil)⟩)
def tbX0 : Tb := ([(11, 0, 0, 2), (15, 0, 1, 2), (18, 0, 2, 2), (22, 0, 5, 0), (26, 0, 8, 2), (29, 0, 6, 0), (32, 0, 4, 3), (36, 0, 3, 0), (39, 0, 7, 0), (71, 4, 7, 0), (82, 4, 11, 0), (85, 4, 10, 2), (92, 0, 9, 0)], [(42, 1, mJ7_fill_d0a16), (48, 0, mX4_readBy), (54, 0, mX0_arrive), (58, 0, mX0_goOnFrom), (62, 0, mX0_writeSteps), (65, 0, mX0_metIn), (68, 1, mX0_lessonsIn), (74, 0, mX0_isNew), (78, 0, mX4_mayFollow), (88, 0, mX4_unknownOn), (95, 1, mJ6_bitCount_0f7a4), (100, 1, mX0_stepOf)], [], [], [3], [])
theorem tfX0_11 : ∃ wi, fxCk RX0 (11, 0, 0, 2) wi = true := ⟨858, by decide +kernel⟩
theorem tfX0_15 : ∃ wi, fxCk RX0 (15, 0, 1, 2) wi = true := ⟨859, by decide +kernel⟩
theorem tfX0_18 : ∃ wi, fxCk RX0 (18, 0, 2, 2) wi = true := ⟨860, by decide +kernel⟩
theorem tfX0_22 : ∃ wi, fxCk RX0 (22, 0, 5, 0) wi = true := ⟨863, by decide +kernel⟩
theorem tfX0_26 : ∃ wi, fxCk RX0 (26, 0, 8, 2) wi = true := ⟨866, by decide +kernel⟩
theorem tfX0_29 : ∃ wi, fxCk RX0 (29, 0, 6, 0) wi = true := ⟨864, by decide +kernel⟩
theorem tfX0_32 : ∃ wi, fxCk RX0 (32, 0, 4, 3) wi = true := ⟨862, by decide +kernel⟩
theorem tfX0_36 : ∃ wi, fxCk RX0 (36, 0, 3, 0) wi = true := ⟨861, by decide +kernel⟩
theorem tfX0_39 : ∃ wi, fxCk RX0 (39, 0, 7, 0) wi = true := ⟨865, by decide +kernel⟩
theorem tfX0_71 : ∃ wi, fxCk RX0 (71, 4, 7, 0) wi = true := ⟨299, by decide +kernel⟩
theorem tfX0_82 : ∃ wi, fxCk RX0 (82, 4, 11, 0) wi = true := ⟨313, by decide +kernel⟩
theorem tfX0_85 : ∃ wi, fxCk RX0 (85, 4, 10, 2) wi = true := ⟨309, by decide +kernel⟩
theorem tfX0_92 : ∃ wi, fxCk RX0 (92, 0, 9, 0) wi = true := ⟨868, by decide +kernel⟩
theorem tcX0_42 : ∃ ws, (if (1 : Nat) = 4 then pCk RX0 42 ws else cCk RX0 42 1 mJ7_fill_d0a16 ws) = true := ⟨[713, 87, 895, 712], by rw [if_neg (by decide)]; decide +kernel⟩
theorem tcX0_48 : ∃ ws, (if (0 : Nat) = 4 then pCk RX0 48 ws else cCk RX0 48 0 mX4_readBy ws) = true := ⟨[806, 83, 896, 804, 805], by rw [if_neg (by decide)]; decide +kernel⟩
theorem tcX0_54 : ∃ ws, (if (0 : Nat) = 4 then pCk RX0 54 ws else cCk RX0 54 0 mX0_arrive ws) = true := ⟨[900, 100, 897, 899, 28], by rw [if_neg (by decide)]; decide +kernel⟩
theorem tcX0_58 : ∃ ws, (if (0 : Nat) = 4 then pCk RX0 58 ws else cCk RX0 58 0 mX0_goOnFrom ws) = true := ⟨[905, 100, 902, 904, 29], by rw [if_neg (by decide)]; decide +kernel⟩
theorem tcX0_62 : ∃ ws, (if (0 : Nat) = 4 then pCk RX0 62 ws else cCk RX0 62 0 mX0_writeSteps ws) = true := ⟨[921, 100, 918, 920, 32], by rw [if_neg (by decide)]; decide +kernel⟩
theorem tcX0_65 : ∃ ws, (if (0 : Nat) = 4 then pCk RX0 65 ws else cCk RX0 65 0 mX0_metIn ws) = true := ⟨[909, 100, 906, 908, 30], by rw [if_neg (by decide)]; decide +kernel⟩
theorem tcX0_68 : ∃ ws, (if (1 : Nat) = 4 then pCk RX0 68 ws else cCk RX0 68 1 mX0_lessonsIn ws) = true := ⟨[912, 100, 910, 911], by rw [if_neg (by decide)]; decide +kernel⟩
theorem tcX0_74 : ∃ ws, (if (0 : Nat) = 4 then pCk RX0 74 ws else cCk RX0 74 0 mX0_isNew ws) = true := ⟨[916, 100, 913, 915, 31], by rw [if_neg (by decide)]; decide +kernel⟩
theorem tcX0_78 : ∃ ws, (if (0 : Nat) = 4 then pCk RX0 78 ws else cCk RX0 78 0 mX4_mayFollow ws) = true := ⟨[790, 83, 917, 788, 789], by rw [if_neg (by decide)]; decide +kernel⟩
theorem tcX0_88 : ∃ ws, (if (0 : Nat) = 4 then pCk RX0 88 ws else cCk RX0 88 0 mX4_unknownOn ws) = true := ⟨[829, 83, 901, 827, 828], by rw [if_neg (by decide)]; decide +kernel⟩
theorem tcX0_95 : ∃ ws, (if (1 : Nat) = 4 then pCk RX0 95 ws else cCk RX0 95 1 mJ6_bitCount_0f7a4 ws) = true := ⟨[832, 99, 922, 831], by rw [if_neg (by decide)]; decide +kernel⟩
theorem tcX0_100 : ∃ ws, (if (1 : Nat) = 4 then pCk RX0 100 ws else cCk RX0 100 1 mX0_stepOf ws) = true := ⟨[925, 100, 923, 924], by rw [if_neg (by decide)]; decide +kernel⟩
theorem toX0_3 : ∃ ws, oCk RX0 3 ws = true := ⟨[857, 108, 109], by decide +kernel⟩
theorem tbX0_ok : tbOK RX0 tbX0 := tbOK_of (List.forall_mem_cons.mpr ⟨tfX0_11, (List.forall_mem_cons.mpr ⟨tfX0_15, (List.forall_mem_cons.mpr ⟨tfX0_18, (List.forall_mem_cons.mpr ⟨tfX0_22, (List.forall_mem_cons.mpr ⟨tfX0_26, (List.forall_mem_cons.mpr ⟨tfX0_29, (List.forall_mem_cons.mpr ⟨tfX0_32, (List.forall_mem_cons.mpr ⟨tfX0_36, (List.forall_mem_cons.mpr ⟨tfX0_39, (List.forall_mem_cons.mpr ⟨tfX0_71, (List.forall_mem_cons.mpr ⟨tfX0_82, (List.forall_mem_cons.mpr ⟨tfX0_85, (List.forall_mem_cons.mpr ⟨tfX0_92, (fun _ h => absurd h List.not_mem_nil)⟩)⟩)⟩)⟩)⟩)⟩)⟩)⟩)⟩)⟩)⟩)⟩)⟩) (List.forall_mem_cons.mpr ⟨tcX0_42, (List.forall_mem_cons.mpr ⟨tcX0_48, (List.forall_mem_cons.mpr ⟨tcX0_54, (List.forall_mem_cons.mpr ⟨tcX0_58, (List.forall_mem_cons.mpr ⟨tcX0_62, (List.forall_mem_cons.mpr ⟨tcX0_65, (List.forall_mem_cons.mpr ⟨tcX0_68, (List.forall_mem_cons.mpr ⟨tcX0_74, (List.forall_mem_cons.mpr ⟨tcX0_78, (List.forall_mem_cons.mpr ⟨tcX0_88, (List.forall_mem_cons.mpr ⟨tcX0_95, (List.forall_mem_cons.mpr ⟨tcX0_100, (fun _ h => absurd h List.not_mem_nil)⟩)⟩)⟩)⟩)⟩)⟩)⟩)⟩)⟩)⟩)⟩)⟩) (fun _ h => absurd h List.not_mem_nil) (fun _ h => absurd h List.not_mem_nil) (List.forall_mem_cons.mpr ⟨toX0_3, (fun _ h => absurd h List.not_mem_nil)⟩)

def tbX12 : Tb := ([(7, 12, 1, 2), (13, 12, 2, 2), (16, 12, 3, 2), (19, 12, 4, 2), (22, 12, 6, 2), (25, 12, 7, 2), (28, 12, 8, 2), (31, 12, 9, 2), (34, 12, 11, 2), (37, 12, 13, 2), (40, 12, 14, 2), (43, 12, 15, 2), (46, 12, 16, 2), (49, 12, 18, 0), (53, 12, 25, 2), (56, 12, 26, 2), (59, 12, 27, 2), (62, 12, 28, 2), (65, 12, 30, 2), (68, 12, 31, 2), (71, 12, 32, 2), (74, 12, 33, 2), (77, 12, 35, 2), (80, 12, 37, 2), (83, 12, 38, 2), (86, 12, 40, 2), (90, 12, 41, 2), (94, 12, 45, 2), (97, 12, 46, 2), (100, 12, 47, 0), (103, 12, 48, 2), (106, 12, 49, 2), (109, 12, 50, 2), (112, 12, 51, 2), (115, 12, 53, 2), (118, 12, 54, 2), (131, 12, 17, 0), (136, 12, 19, 0), (143, 12, 20, 1), (147, 12, 21, 0), (170, 12, 23, 0), (173, 12, 22, 0), (176, 12, 24, 0), (196, 12, 29, 0), (202, 12, 39, 0), (209, 12, 34, 0), (215, 12, 36, 0), (236, 12, 0, 0), (239, 12, 5, 0), (242, 12, 10, 0), (245, 12, 12, 0), (292, 12, 42, 0), (295, 12, 44, 0), (298, 12, 43, 4), (378, 12, 52, 0)], [(122, 0, mX12_beginPupils), (127, 1, mX12_in), (139, 0, mX12_here), (166, 0, mX12_fails), (179, 0, mX12_takeNumber), (183, 0, mX12_readWord), (188, 1, mX12_code), (192, 1, mX12_longer), (199, 0, mX12_wordOf), (205, 1, mX12_has), (212, 0, mX12_takeList), (218, 0, mX12_takeSign), (221, 0, mX12_takeWord), (224, 0, mX12_takeLesson), (227, 0, mX12_takePage), (230, 0, mX12_takeClause), (233, 0, mX12_keepPrimer), (248, 0, mX12_isSign), (256, 0, mX12_isWord), (267, 0, mX12_isLesson), (270, 0, mX12_isPage), (275, 0, mX12_isFit), (279, 0, mX12_leads), (283, 0, mX12_areSigns), (286, 0, mX12_findWays), (302, 0, mX12_speak), (306, 0, mX12_areSounds), (309, 0, mX12_outAt), (312, 0, mX12_spell), (315, 0, mX12_isRight), (318, 0, mX12_isWell), (321, 0, mX12_teach), (324, 0, mX12_areLessons), (327, 0, mX12_isClosed), (330, 0, mX12_readsOf), (333, 1, mX12_bits), (338, 1, mX12_isFew), (341, 0, mX12_met), (344, 0, mX12_stepTo), (348, 0, mX12_findCourses), (351, 0, mX12_behind), (354, 0, mX12_isHeld), (357, 0, mX12_use), (362, 0, mX12_heldSigns), (365, 0, mX12_heldWords), (368, 1, mX12_isPupil), (371, 0, mX12_lacking), (374, 0, mX12_useAll), (381, 0, mX12_meetsOf)], [(93, .int (32768)), (125, .long (8)), (134, .long (255)), (150, .long (97)), (152, .long (122)), (154, .long (1000000000000)), (156, .long (2000000000000)), (158, .long (27)), (160, .long (96)), (162, .long (48)), (164, .long (57)), (186, .long (4027)), (252, .long (3)), (254, .long (6)), (259, .long (2)), (261, .long (9)), (263, .long (10)), (265, .long (17)), (273, .long (15)), (290, .long (-1001)), (336, .long (16)), (360, .long (30)), (384, .long (999))], [], [1], [])
theorem tfX12_7 : ∃ wi, fxCk RX12 (7, 12, 1, 2) wi = true := ⟨1051, by decide +kernel⟩
theorem tfX12_13 : ∃ wi, fxCk RX12 (13, 12, 2, 2) wi = true := ⟨1052, by decide +kernel⟩
theorem tfX12_16 : ∃ wi, fxCk RX12 (16, 12, 3, 2) wi = true := ⟨1053, by decide +kernel⟩
theorem tfX12_19 : ∃ wi, fxCk RX12 (19, 12, 4, 2) wi = true := ⟨1054, by decide +kernel⟩
theorem tfX12_22 : ∃ wi, fxCk RX12 (22, 12, 6, 2) wi = true := ⟨1056, by decide +kernel⟩
theorem tfX12_25 : ∃ wi, fxCk RX12 (25, 12, 7, 2) wi = true := ⟨1057, by decide +kernel⟩
theorem tfX12_28 : ∃ wi, fxCk RX12 (28, 12, 8, 2) wi = true := ⟨1058, by decide +kernel⟩
theorem tfX12_31 : ∃ wi, fxCk RX12 (31, 12, 9, 2) wi = true := ⟨1059, by decide +kernel⟩
theorem tfX12_34 : ∃ wi, fxCk RX12 (34, 12, 11, 2) wi = true := ⟨1061, by decide +kernel⟩
theorem tfX12_37 : ∃ wi, fxCk RX12 (37, 12, 13, 2) wi = true := ⟨1063, by decide +kernel⟩
theorem tfX12_40 : ∃ wi, fxCk RX12 (40, 12, 14, 2) wi = true := ⟨1064, by decide +kernel⟩
theorem tfX12_43 : ∃ wi, fxCk RX12 (43, 12, 15, 2) wi = true := ⟨1065, by decide +kernel⟩
theorem tfX12_46 : ∃ wi, fxCk RX12 (46, 12, 16, 2) wi = true := ⟨1066, by decide +kernel⟩
theorem tfX12_49 : ∃ wi, fxCk RX12 (49, 12, 18, 0) wi = true := ⟨1068, by decide +kernel⟩
theorem tfX12_53 : ∃ wi, fxCk RX12 (53, 12, 25, 2) wi = true := ⟨1075, by decide +kernel⟩
theorem tfX12_56 : ∃ wi, fxCk RX12 (56, 12, 26, 2) wi = true := ⟨1076, by decide +kernel⟩
theorem tfX12_59 : ∃ wi, fxCk RX12 (59, 12, 27, 2) wi = true := ⟨1077, by decide +kernel⟩
theorem tfX12_62 : ∃ wi, fxCk RX12 (62, 12, 28, 2) wi = true := ⟨1078, by decide +kernel⟩
theorem tfX12_65 : ∃ wi, fxCk RX12 (65, 12, 30, 2) wi = true := ⟨1080, by decide +kernel⟩
theorem tfX12_68 : ∃ wi, fxCk RX12 (68, 12, 31, 2) wi = true := ⟨1081, by decide +kernel⟩
theorem tfX12_71 : ∃ wi, fxCk RX12 (71, 12, 32, 2) wi = true := ⟨1082, by decide +kernel⟩
theorem tfX12_74 : ∃ wi, fxCk RX12 (74, 12, 33, 2) wi = true := ⟨1083, by decide +kernel⟩
theorem tfX12_77 : ∃ wi, fxCk RX12 (77, 12, 35, 2) wi = true := ⟨1085, by decide +kernel⟩
theorem tfX12_80 : ∃ wi, fxCk RX12 (80, 12, 37, 2) wi = true := ⟨1087, by decide +kernel⟩
theorem tfX12_83 : ∃ wi, fxCk RX12 (83, 12, 38, 2) wi = true := ⟨1088, by decide +kernel⟩
theorem tfX12_86 : ∃ wi, fxCk RX12 (86, 12, 40, 2) wi = true := ⟨1090, by decide +kernel⟩
theorem tfX12_90 : ∃ wi, fxCk RX12 (90, 12, 41, 2) wi = true := ⟨1091, by decide +kernel⟩
theorem tfX12_94 : ∃ wi, fxCk RX12 (94, 12, 45, 2) wi = true := ⟨1095, by decide +kernel⟩
theorem tfX12_97 : ∃ wi, fxCk RX12 (97, 12, 46, 2) wi = true := ⟨1096, by decide +kernel⟩
theorem tfX12_100 : ∃ wi, fxCk RX12 (100, 12, 47, 0) wi = true := ⟨1097, by decide +kernel⟩
theorem tfX12_103 : ∃ wi, fxCk RX12 (103, 12, 48, 2) wi = true := ⟨1098, by decide +kernel⟩
theorem tfX12_106 : ∃ wi, fxCk RX12 (106, 12, 49, 2) wi = true := ⟨1099, by decide +kernel⟩
theorem tfX12_109 : ∃ wi, fxCk RX12 (109, 12, 50, 2) wi = true := ⟨1100, by decide +kernel⟩
theorem tfX12_112 : ∃ wi, fxCk RX12 (112, 12, 51, 2) wi = true := ⟨1101, by decide +kernel⟩
theorem tfX12_115 : ∃ wi, fxCk RX12 (115, 12, 53, 2) wi = true := ⟨1103, by decide +kernel⟩
theorem tfX12_118 : ∃ wi, fxCk RX12 (118, 12, 54, 2) wi = true := ⟨1104, by decide +kernel⟩
theorem tfX12_131 : ∃ wi, fxCk RX12 (131, 12, 17, 0) wi = true := ⟨1067, by decide +kernel⟩
theorem tfX12_136 : ∃ wi, fxCk RX12 (136, 12, 19, 0) wi = true := ⟨1069, by decide +kernel⟩
theorem tfX12_143 : ∃ wi, fxCk RX12 (143, 12, 20, 1) wi = true := ⟨1070, by decide +kernel⟩
theorem tfX12_147 : ∃ wi, fxCk RX12 (147, 12, 21, 0) wi = true := ⟨1071, by decide +kernel⟩
theorem tfX12_170 : ∃ wi, fxCk RX12 (170, 12, 23, 0) wi = true := ⟨1073, by decide +kernel⟩
theorem tfX12_173 : ∃ wi, fxCk RX12 (173, 12, 22, 0) wi = true := ⟨1072, by decide +kernel⟩
theorem tfX12_176 : ∃ wi, fxCk RX12 (176, 12, 24, 0) wi = true := ⟨1074, by decide +kernel⟩
theorem tfX12_196 : ∃ wi, fxCk RX12 (196, 12, 29, 0) wi = true := ⟨1079, by decide +kernel⟩
theorem tfX12_202 : ∃ wi, fxCk RX12 (202, 12, 39, 0) wi = true := ⟨1089, by decide +kernel⟩
theorem tfX12_209 : ∃ wi, fxCk RX12 (209, 12, 34, 0) wi = true := ⟨1084, by decide +kernel⟩
theorem tfX12_215 : ∃ wi, fxCk RX12 (215, 12, 36, 0) wi = true := ⟨1086, by decide +kernel⟩
theorem tfX12_236 : ∃ wi, fxCk RX12 (236, 12, 0, 0) wi = true := ⟨1050, by decide +kernel⟩
theorem tfX12_239 : ∃ wi, fxCk RX12 (239, 12, 5, 0) wi = true := ⟨1055, by decide +kernel⟩
theorem tfX12_242 : ∃ wi, fxCk RX12 (242, 12, 10, 0) wi = true := ⟨1060, by decide +kernel⟩
theorem tfX12_245 : ∃ wi, fxCk RX12 (245, 12, 12, 0) wi = true := ⟨1062, by decide +kernel⟩
theorem tfX12_292 : ∃ wi, fxCk RX12 (292, 12, 42, 0) wi = true := ⟨1092, by decide +kernel⟩
theorem tfX12_295 : ∃ wi, fxCk RX12 (295, 12, 44, 0) wi = true := ⟨1094, by decide +kernel⟩
theorem tfX12_298 : ∃ wi, fxCk RX12 (298, 12, 43, 4) wi = true := ⟨1093, by decide +kernel⟩
theorem tfX12_378 : ∃ wi, fxCk RX12 (378, 12, 52, 0) wi = true := ⟨1102, by decide +kernel⟩
theorem tcX12_122 : ∃ ws, (if (0 : Nat) = 4 then pCk RX12 122 ws else cCk RX12 122 0 mX12_beginPupils ws) = true := ⟨[1049, 93, 1046, 1048, 38], by rw [if_neg (by decide)]; decide +kernel⟩
theorem tcX12_127 : ∃ ws, (if (1 : Nat) = 4 then pCk RX12 127 ws else cCk RX12 127 1 mX12_in ws) = true := ⟨[1224, 93, 1222, 1223], by rw [if_neg (by decide)]; decide +kernel⟩
theorem tcX12_139 : ∃ ws, (if (0 : Nat) = 4 then pCk RX12 139 ws else cCk RX12 139 0 mX12_here ws) = true := ⟨[1233, 93, 1230, 1232, 39], by rw [if_neg (by decide)]; decide +kernel⟩
theorem tcX12_166 : ∃ ws, (if (0 : Nat) = 4 then pCk RX12 166 ws else cCk RX12 166 0 mX12_fails ws) = true := ⟨[1257, 93, 1254, 1256, 42], by rw [if_neg (by decide)]; decide +kernel⟩
theorem tcX12_179 : ∃ ws, (if (0 : Nat) = 4 then pCk RX12 179 ws else cCk RX12 179 0 mX12_takeNumber ws) = true := ⟨[1265, 93, 1262, 1264, 44], by rw [if_neg (by decide)]; decide +kernel⟩
theorem tcX12_183 : ∃ ws, (if (0 : Nat) = 4 then pCk RX12 183 ws else cCk RX12 183 0 mX12_readWord ws) = true := ⟨[1241, 93, 1238, 1240, 41], by rw [if_neg (by decide)]; decide +kernel⟩
theorem tcX12_188 : ∃ ws, (if (1 : Nat) = 4 then pCk RX12 188 ws else cCk RX12 188 1 mX12_code ws) = true := ⟨[1250, 93, 1248, 1249], by rw [if_neg (by decide)]; decide +kernel⟩
theorem tcX12_192 : ∃ ws, (if (1 : Nat) = 4 then pCk RX12 192 ws else cCk RX12 192 1 mX12_longer ws) = true := ⟨[1253, 93, 1251, 1252], by rw [if_neg (by decide)]; decide +kernel⟩
theorem tcX12_199 : ∃ ws, (if (0 : Nat) = 4 then pCk RX12 199 ws else cCk RX12 199 0 mX12_wordOf ws) = true := ⟨[1276, 93, 1273, 1275, 46], by rw [if_neg (by decide)]; decide +kernel⟩
theorem tcX12_205 : ∃ ws, (if (1 : Nat) = 4 then pCk RX12 205 ws else cCk RX12 205 1 mX12_has ws) = true := ⟨[1287, 93, 1285, 1286], by rw [if_neg (by decide)]; decide +kernel⟩
theorem tcX12_212 : ∃ ws, (if (0 : Nat) = 4 then pCk RX12 212 ws else cCk RX12 212 0 mX12_takeList ws) = true := ⟨[1284, 93, 1281, 1283, 48], by rw [if_neg (by decide)]; decide +kernel⟩
theorem tcX12_218 : ∃ ws, (if (0 : Nat) = 4 then pCk RX12 218 ws else cCk RX12 218 0 mX12_takeSign ws) = true := ⟨[1261, 93, 1258, 1260, 43], by rw [if_neg (by decide)]; decide +kernel⟩
theorem tcX12_221 : ∃ ws, (if (0 : Nat) = 4 then pCk RX12 221 ws else cCk RX12 221 0 mX12_takeWord ws) = true := ⟨[1272, 93, 1269, 1271, 45], by rw [if_neg (by decide)]; decide +kernel⟩
theorem tcX12_224 : ∃ ws, (if (0 : Nat) = 4 then pCk RX12 224 ws else cCk RX12 224 0 mX12_takeLesson ws) = true := ⟨[1280, 93, 1277, 1279, 47], by rw [if_neg (by decide)]; decide +kernel⟩
theorem tcX12_227 : ∃ ws, (if (0 : Nat) = 4 then pCk RX12 227 ws else cCk RX12 227 0 mX12_takePage ws) = true := ⟨[1291, 93, 1288, 1290, 49], by rw [if_neg (by decide)]; decide +kernel⟩
theorem tcX12_230 : ∃ ws, (if (0 : Nat) = 4 then pCk RX12 230 ws else cCk RX12 230 0 mX12_takeClause ws) = true := ⟨[1237, 93, 1234, 1236, 40], by rw [if_neg (by decide)]; decide +kernel⟩
theorem tcX12_233 : ∃ ws, (if (0 : Nat) = 4 then pCk RX12 233 ws else cCk RX12 233 0 mX12_keepPrimer ws) = true := ⟨[1295, 93, 1292, 1294, 50], by rw [if_neg (by decide)]; decide +kernel⟩
theorem tcX12_248 : ∃ ws, (if (0 : Nat) = 4 then pCk RX12 248 ws else cCk RX12 248 0 mX12_isSign ws) = true := ⟨[1307, 93, 1304, 1306, 51], by rw [if_neg (by decide)]; decide +kernel⟩
theorem tcX12_256 : ∃ ws, (if (0 : Nat) = 4 then pCk RX12 256 ws else cCk RX12 256 0 mX12_isWord ws) = true := ⟨[1317, 93, 1314, 1316, 52], by rw [if_neg (by decide)]; decide +kernel⟩
theorem tcX12_267 : ∃ ws, (if (0 : Nat) = 4 then pCk RX12 267 ws else cCk RX12 267 0 mX12_isLesson ws) = true := ⟨[1329, 93, 1326, 1328, 53], by rw [if_neg (by decide)]; decide +kernel⟩
theorem tcX12_270 : ∃ ws, (if (0 : Nat) = 4 then pCk RX12 270 ws else cCk RX12 270 0 mX12_isPage ws) = true := ⟨[1337, 93, 1334, 1336, 54], by rw [if_neg (by decide)]; decide +kernel⟩
theorem tcX12_275 : ∃ ws, (if (0 : Nat) = 4 then pCk RX12 275 ws else cCk RX12 275 0 mX12_isFit ws) = true := ⟨[1350, 93, 1347, 1349, 55], by rw [if_neg (by decide)]; decide +kernel⟩
theorem tcX12_279 : ∃ ws, (if (0 : Nat) = 4 then pCk RX12 279 ws else cCk RX12 279 0 mX12_leads ws) = true := ⟨[1366, 93, 1363, 1365, 58], by rw [if_neg (by decide)]; decide +kernel⟩
theorem tcX12_283 : ∃ ws, (if (0 : Nat) = 4 then pCk RX12 283 ws else cCk RX12 283 0 mX12_areSigns ws) = true := ⟨[1358, 93, 1355, 1357, 56], by rw [if_neg (by decide)]; decide +kernel⟩
theorem tcX12_286 : ∃ ws, (if (0 : Nat) = 4 then pCk RX12 286 ws else cCk RX12 286 0 mX12_findWays ws) = true := ⟨[1362, 93, 1359, 1361, 57], by rw [if_neg (by decide)]; decide +kernel⟩
theorem tcX12_302 : ∃ ws, (if (0 : Nat) = 4 then pCk RX12 302 ws else cCk RX12 302 0 mX12_speak ws) = true := ⟨[1379, 93, 1376, 1378, 59], by rw [if_neg (by decide)]; decide +kernel⟩
theorem tcX12_306 : ∃ ws, (if (0 : Nat) = 4 then pCk RX12 306 ws else cCk RX12 306 0 mX12_areSounds ws) = true := ⟨[1395, 93, 1392, 1394, 62], by rw [if_neg (by decide)]; decide +kernel⟩
theorem tcX12_309 : ∃ ws, (if (0 : Nat) = 4 then pCk RX12 309 ws else cCk RX12 309 0 mX12_outAt ws) = true := ⟨[1383, 93, 1380, 1382, 60], by rw [if_neg (by decide)]; decide +kernel⟩
theorem tcX12_312 : ∃ ws, (if (0 : Nat) = 4 then pCk RX12 312 ws else cCk RX12 312 0 mX12_spell ws) = true := ⟨[1403, 93, 1400, 1402, 64], by rw [if_neg (by decide)]; decide +kernel⟩
theorem tcX12_315 : ∃ ws, (if (0 : Nat) = 4 then pCk RX12 315 ws else cCk RX12 315 0 mX12_isRight ws) = true := ⟨[1391, 93, 1388, 1390, 61], by rw [if_neg (by decide)]; decide +kernel⟩
theorem tcX12_318 : ∃ ws, (if (0 : Nat) = 4 then pCk RX12 318 ws else cCk RX12 318 0 mX12_isWell ws) = true := ⟨[1399, 93, 1396, 1398, 63], by rw [if_neg (by decide)]; decide +kernel⟩
theorem tcX12_321 : ∃ ws, (if (0 : Nat) = 4 then pCk RX12 321 ws else cCk RX12 321 0 mX12_teach ws) = true := ⟨[1423, 93, 1420, 1422, 67], by rw [if_neg (by decide)]; decide +kernel⟩
theorem tcX12_324 : ∃ ws, (if (0 : Nat) = 4 then pCk RX12 324 ws else cCk RX12 324 0 mX12_areLessons ws) = true := ⟨[1415, 93, 1412, 1414, 65], by rw [if_neg (by decide)]; decide +kernel⟩
theorem tcX12_327 : ∃ ws, (if (0 : Nat) = 4 then pCk RX12 327 ws else cCk RX12 327 0 mX12_isClosed ws) = true := ⟨[1419, 93, 1416, 1418, 66], by rw [if_neg (by decide)]; decide +kernel⟩
theorem tcX12_330 : ∃ ws, (if (0 : Nat) = 4 then pCk RX12 330 ws else cCk RX12 330 0 mX12_readsOf ws) = true := ⟨[1431, 93, 1428, 1430, 68], by rw [if_neg (by decide)]; decide +kernel⟩
theorem tcX12_333 : ∃ ws, (if (1 : Nat) = 4 then pCk RX12 333 ws else cCk RX12 333 1 mX12_bits ws) = true := ⟨[1442, 93, 1440, 1441], by rw [if_neg (by decide)]; decide +kernel⟩
theorem tcX12_338 : ∃ ws, (if (1 : Nat) = 4 then pCk RX12 338 ws else cCk RX12 338 1 mX12_isFew ws) = true := ⟨[1449, 93, 1447, 1448], by rw [if_neg (by decide)]; decide +kernel⟩
theorem tcX12_341 : ∃ ws, (if (0 : Nat) = 4 then pCk RX12 341 ws else cCk RX12 341 0 mX12_met ws) = true := ⟨[1466, 93, 1463, 1465, 71], by rw [if_neg (by decide)]; decide +kernel⟩
theorem tcX12_344 : ∃ ws, (if (0 : Nat) = 4 then pCk RX12 344 ws else cCk RX12 344 0 mX12_stepTo ws) = true := ⟨[1462, 93, 1459, 1461, 70], by rw [if_neg (by decide)]; decide +kernel⟩
theorem tcX12_348 : ∃ ws, (if (0 : Nat) = 4 then pCk RX12 348 ws else cCk RX12 348 0 mX12_findCourses ws) = true := ⟨[1458, 93, 1455, 1457, 69], by rw [if_neg (by decide)]; decide +kernel⟩
theorem tcX12_351 : ∃ ws, (if (0 : Nat) = 4 then pCk RX12 351 ws else cCk RX12 351 0 mX12_behind ws) = true := ⟨[1474, 93, 1471, 1473, 72], by rw [if_neg (by decide)]; decide +kernel⟩
theorem tcX12_354 : ∃ ws, (if (0 : Nat) = 4 then pCk RX12 354 ws else cCk RX12 354 0 mX12_isHeld ws) = true := ⟨[1498, 93, 1495, 1497, 75], by rw [if_neg (by decide)]; decide +kernel⟩
theorem tcX12_357 : ∃ ws, (if (0 : Nat) = 4 then pCk RX12 357 ws else cCk RX12 357 0 mX12_use ws) = true := ⟨[1510, 93, 1507, 1509, 78], by rw [if_neg (by decide)]; decide +kernel⟩
theorem tcX12_362 : ∃ ws, (if (0 : Nat) = 4 then pCk RX12 362 ws else cCk RX12 362 0 mX12_heldSigns ws) = true := ⟨[1494, 93, 1491, 1493, 74], by rw [if_neg (by decide)]; decide +kernel⟩
theorem tcX12_365 : ∃ ws, (if (0 : Nat) = 4 then pCk RX12 365 ws else cCk RX12 365 0 mX12_heldWords ws) = true := ⟨[1502, 93, 1499, 1501, 76], by rw [if_neg (by decide)]; decide +kernel⟩
theorem tcX12_368 : ∃ ws, (if (1 : Nat) = 4 then pCk RX12 368 ws else cCk RX12 368 1 mX12_isPupil ws) = true := ⟨[1486, 93, 1484, 1485], by rw [if_neg (by decide)]; decide +kernel⟩
theorem tcX12_371 : ∃ ws, (if (0 : Nat) = 4 then pCk RX12 371 ws else cCk RX12 371 0 mX12_lacking ws) = true := ⟨[1490, 93, 1487, 1489, 73], by rw [if_neg (by decide)]; decide +kernel⟩
theorem tcX12_374 : ∃ ws, (if (0 : Nat) = 4 then pCk RX12 374 ws else cCk RX12 374 0 mX12_useAll ws) = true := ⟨[1506, 93, 1503, 1505, 77], by rw [if_neg (by decide)]; decide +kernel⟩
theorem tcX12_381 : ∃ ws, (if (0 : Nat) = 4 then pCk RX12 381 ws else cCk RX12 381 0 mX12_meetsOf ws) = true := ⟨[1518, 93, 1515, 1517, 79], by rw [if_neg (by decide)]; decide +kernel⟩
theorem tkX12_93 : ∃ wi, kCk RX12 93 (.int (32768)) wi = true := ⟨1045, by decide +kernel⟩
theorem tkX12_125 : ∃ wi, kCk RX12 125 (.long (8)) wi = true := ⟨1221, by decide +kernel⟩
theorem tkX12_134 : ∃ wi, kCk RX12 134 (.long (255)) wi = true := ⟨1225, by decide +kernel⟩
theorem tkX12_150 : ∃ wi, kCk RX12 150 (.long (97)) wi = true := ⟨1242, by decide +kernel⟩
theorem tkX12_152 : ∃ wi, kCk RX12 152 (.long (122)) wi = true := ⟨1243, by decide +kernel⟩
theorem tkX12_154 : ∃ wi, kCk RX12 154 (.long (1000000000000)) wi = true := ⟨1244, by decide +kernel⟩
theorem tkX12_156 : ∃ wi, kCk RX12 156 (.long (2000000000000)) wi = true := ⟨1245, by decide +kernel⟩
theorem tkX12_158 : ∃ wi, kCk RX12 158 (.long (27)) wi = true := ⟨1246, by decide +kernel⟩
theorem tkX12_160 : ∃ wi, kCk RX12 160 (.long (96)) wi = true := ⟨1247, by decide +kernel⟩
theorem tkX12_162 : ∃ wi, kCk RX12 162 (.long (48)) wi = true := ⟨1266, by decide +kernel⟩
theorem tkX12_164 : ∃ wi, kCk RX12 164 (.long (57)) wi = true := ⟨1267, by decide +kernel⟩
theorem tkX12_186 : ∃ wi, kCk RX12 186 (.long (4027)) wi = true := ⟨1268, by decide +kernel⟩
theorem tkX12_252 : ∃ wi, kCk RX12 252 (.long (3)) wi = true := ⟨1308, by decide +kernel⟩
theorem tkX12_254 : ∃ wi, kCk RX12 254 (.long (6)) wi = true := ⟨1309, by decide +kernel⟩
theorem tkX12_259 : ∃ wi, kCk RX12 259 (.long (2)) wi = true := ⟨1318, by decide +kernel⟩
theorem tkX12_261 : ∃ wi, kCk RX12 261 (.long (9)) wi = true := ⟨1319, by decide +kernel⟩
theorem tkX12_263 : ∃ wi, kCk RX12 263 (.long (10)) wi = true := ⟨1320, by decide +kernel⟩
theorem tkX12_265 : ∃ wi, kCk RX12 265 (.long (17)) wi = true := ⟨1321, by decide +kernel⟩
theorem tkX12_273 : ∃ wi, kCk RX12 273 (.long (15)) wi = true := ⟨1338, by decide +kernel⟩
theorem tkX12_290 : ∃ wi, kCk RX12 290 (.long (-1001)) wi = true := ⟨1367, by decide +kernel⟩
theorem tkX12_336 : ∃ wi, kCk RX12 336 (.long (16)) wi = true := ⟨1450, by decide +kernel⟩
theorem tkX12_360 : ∃ wi, kCk RX12 360 (.long (30)) wi = true := ⟨1479, by decide +kernel⟩
theorem tkX12_384 : ∃ wi, kCk RX12 384 (.long (999)) wi = true := ⟨1523, by decide +kernel⟩
theorem toX12_1 : ∃ ws, oCk RX12 1 ws = true := ⟨[1044, 108, 109], by decide +kernel⟩
theorem tbX12_ok : tbOK RX12 tbX12 := tbOK_of (List.forall_mem_cons.mpr ⟨tfX12_7, (List.forall_mem_cons.mpr ⟨tfX12_13, (List.forall_mem_cons.mpr ⟨tfX12_16, (List.forall_mem_cons.mpr ⟨tfX12_19, (List.forall_mem_cons.mpr ⟨tfX12_22, (List.forall_mem_cons.mpr ⟨tfX12_25, (List.forall_mem_cons.mpr ⟨tfX12_28, (List.forall_mem_cons.mpr ⟨tfX12_31, (List.forall_mem_cons.mpr ⟨tfX12_34, (List.forall_mem_cons.mpr ⟨tfX12_37, (List.forall_mem_cons.mpr ⟨tfX12_40, (List.forall_mem_cons.mpr ⟨tfX12_43, (List.forall_mem_cons.mpr ⟨tfX12_46, (List.forall_mem_cons.mpr ⟨tfX12_49, (List.forall_mem_cons.mpr ⟨tfX12_53, (List.forall_mem_cons.mpr ⟨tfX12_56, (List.forall_mem_cons.mpr ⟨tfX12_59, (List.forall_mem_cons.mpr ⟨tfX12_62, (List.forall_mem_cons.mpr ⟨tfX12_65, (List.forall_mem_cons.mpr ⟨tfX12_68, (List.forall_mem_cons.mpr ⟨tfX12_71, (List.forall_mem_cons.mpr ⟨tfX12_74, (List.forall_mem_cons.mpr ⟨tfX12_77, (List.forall_mem_cons.mpr ⟨tfX12_80, (List.forall_mem_cons.mpr ⟨tfX12_83, (List.forall_mem_cons.mpr ⟨tfX12_86, (List.forall_mem_cons.mpr ⟨tfX12_90, (List.forall_mem_cons.mpr ⟨tfX12_94, (List.forall_mem_cons.mpr ⟨tfX12_97, (List.forall_mem_cons.mpr ⟨tfX12_100, (List.forall_mem_cons.mpr ⟨tfX12_103, (List.forall_mem_cons.mpr ⟨tfX12_106, (List.forall_mem_cons.mpr ⟨tfX12_109, (List.forall_mem_cons.mpr ⟨tfX12_112, (List.forall_mem_cons.mpr ⟨tfX12_115, (List.forall_mem_cons.mpr ⟨tfX12_118, (List.forall_mem_cons.mpr ⟨tfX12_131, (List.forall_mem_cons.mpr ⟨tfX12_136, (List.forall_mem_cons.mpr ⟨tfX12_143, (List.forall_mem_cons.mpr ⟨tfX12_147, (List.forall_mem_cons.mpr ⟨tfX12_170, (List.forall_mem_cons.mpr ⟨tfX12_173, (List.forall_mem_cons.mpr ⟨tfX12_176, (List.forall_mem_cons.mpr ⟨tfX12_196, (List.forall_mem_cons.mpr ⟨tfX12_202, (List.forall_mem_cons.mpr ⟨tfX12_209, (List.forall_mem_cons.mpr ⟨tfX12_215, (List.forall_mem_cons.mpr ⟨tfX12_236, (List.forall_mem_cons.mpr ⟨tfX12_239, (List.forall_mem_cons.mpr ⟨tfX12_242, (List.forall_mem_cons.mpr ⟨tfX12_245, (List.forall_mem_cons.mpr ⟨tfX12_292, (List.forall_mem_cons.mpr ⟨tfX12_295, (List.forall_mem_cons.mpr ⟨tfX12_298, (List.forall_mem_cons.mpr ⟨tfX12_378, (fun _ h => absurd h List.not_mem_nil)⟩)⟩)⟩)⟩)⟩)⟩)⟩)⟩)⟩)⟩)⟩)⟩)⟩)⟩)⟩)⟩)⟩)⟩)⟩)⟩)⟩)⟩)⟩)⟩)⟩)⟩)⟩)⟩)⟩)⟩)⟩)⟩)⟩)⟩)⟩)⟩)⟩)⟩)⟩)⟩)⟩)⟩)⟩)⟩)⟩)⟩)⟩)⟩)⟩)⟩)⟩)⟩)⟩)⟩)⟩) (List.forall_mem_cons.mpr ⟨tcX12_122, (List.forall_mem_cons.mpr ⟨tcX12_127, (List.forall_mem_cons.mpr ⟨tcX12_139, (List.forall_mem_cons.mpr ⟨tcX12_166, (List.forall_mem_cons.mpr ⟨tcX12_179, (List.forall_mem_cons.mpr ⟨tcX12_183, (List.forall_mem_cons.mpr ⟨tcX12_188, (List.forall_mem_cons.mpr ⟨tcX12_192, (List.forall_mem_cons.mpr ⟨tcX12_199, (List.forall_mem_cons.mpr ⟨tcX12_205, (List.forall_mem_cons.mpr ⟨tcX12_212, (List.forall_mem_cons.mpr ⟨tcX12_218, (List.forall_mem_cons.mpr ⟨tcX12_221, (List.forall_mem_cons.mpr ⟨tcX12_224, (List.forall_mem_cons.mpr ⟨tcX12_227, (List.forall_mem_cons.mpr ⟨tcX12_230, (List.forall_mem_cons.mpr ⟨tcX12_233, (List.forall_mem_cons.mpr ⟨tcX12_248, (List.forall_mem_cons.mpr ⟨tcX12_256, (List.forall_mem_cons.mpr ⟨tcX12_267, (List.forall_mem_cons.mpr ⟨tcX12_270, (List.forall_mem_cons.mpr ⟨tcX12_275, (List.forall_mem_cons.mpr ⟨tcX12_279, (List.forall_mem_cons.mpr ⟨tcX12_283, (List.forall_mem_cons.mpr ⟨tcX12_286, (List.forall_mem_cons.mpr ⟨tcX12_302, (List.forall_mem_cons.mpr ⟨tcX12_306, (List.forall_mem_cons.mpr ⟨tcX12_309, (List.forall_mem_cons.mpr ⟨tcX12_312, (List.forall_mem_cons.mpr ⟨tcX12_315, (List.forall_mem_cons.mpr ⟨tcX12_318, (List.forall_mem_cons.mpr ⟨tcX12_321, (List.forall_mem_cons.mpr ⟨tcX12_324, (List.forall_mem_cons.mpr ⟨tcX12_327, (List.forall_mem_cons.mpr ⟨tcX12_330, (List.forall_mem_cons.mpr ⟨tcX12_333, (List.forall_mem_cons.mpr ⟨tcX12_338, (List.forall_mem_cons.mpr ⟨tcX12_341, (List.forall_mem_cons.mpr ⟨tcX12_344, (List.forall_mem_cons.mpr ⟨tcX12_348, (List.forall_mem_cons.mpr ⟨tcX12_351, (List.forall_mem_cons.mpr ⟨tcX12_354, (List.forall_mem_cons.mpr ⟨tcX12_357, (List.forall_mem_cons.mpr ⟨tcX12_362, (List.forall_mem_cons.mpr ⟨tcX12_365, (List.forall_mem_cons.mpr ⟨tcX12_368, (List.forall_mem_cons.mpr ⟨tcX12_371, (List.forall_mem_cons.mpr ⟨tcX12_374, (List.forall_mem_cons.mpr ⟨tcX12_381, (fun _ h => absurd h List.not_mem_nil)⟩)⟩)⟩)⟩)⟩)⟩)⟩)⟩)⟩)⟩)⟩)⟩)⟩)⟩)⟩)⟩)⟩)⟩)⟩)⟩)⟩)⟩)⟩)⟩)⟩)⟩)⟩)⟩)⟩)⟩)⟩)⟩)⟩)⟩)⟩)⟩)⟩)⟩)⟩)⟩)⟩)⟩)⟩)⟩)⟩)⟩)⟩)⟩)⟩) (List.forall_mem_cons.mpr ⟨tkX12_93, (List.forall_mem_cons.mpr ⟨tkX12_125, (List.forall_mem_cons.mpr ⟨tkX12_134, (List.forall_mem_cons.mpr ⟨tkX12_150, (List.forall_mem_cons.mpr ⟨tkX12_152, (List.forall_mem_cons.mpr ⟨tkX12_154, (List.forall_mem_cons.mpr ⟨tkX12_156, (List.forall_mem_cons.mpr ⟨tkX12_158, (List.forall_mem_cons.mpr ⟨tkX12_160, (List.forall_mem_cons.mpr ⟨tkX12_162, (List.forall_mem_cons.mpr ⟨tkX12_164, (List.forall_mem_cons.mpr ⟨tkX12_186, (List.forall_mem_cons.mpr ⟨tkX12_252, (List.forall_mem_cons.mpr ⟨tkX12_254, (List.forall_mem_cons.mpr ⟨tkX12_259, (List.forall_mem_cons.mpr ⟨tkX12_261, (List.forall_mem_cons.mpr ⟨tkX12_263, (List.forall_mem_cons.mpr ⟨tkX12_265, (List.forall_mem_cons.mpr ⟨tkX12_273, (List.forall_mem_cons.mpr ⟨tkX12_290, (List.forall_mem_cons.mpr ⟨tkX12_336, (List.forall_mem_cons.mpr ⟨tkX12_360, (List.forall_mem_cons.mpr ⟨tkX12_384, (fun _ h => absurd h List.not_mem_nil)⟩)⟩)⟩)⟩)⟩)⟩)⟩)⟩)⟩)⟩)⟩)⟩)⟩)⟩)⟩)⟩)⟩)⟩)⟩)⟩)⟩)⟩)⟩) (fun _ h => absurd h List.not_mem_nil) (List.forall_mem_cons.mpr ⟨toX12_1, (fun _ h => absurd h List.not_mem_nil)⟩)

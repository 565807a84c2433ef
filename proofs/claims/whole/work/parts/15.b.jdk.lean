def isJ6_bitCount_0f7a4 : Is := [(0, .iload_n 0, 1, 0, 0, 1), (1, .iload_n 0, 1, 0, 0, 2), (2, .iconst 1, 1, 1, 0, 3), (3, .iushr, 1, 0, 0, 4), (4, .ldc_w 265, 3, 0, 0, 7), (7, .iand, 1, 0, 0, 8), (8, .isub, 1, 0, 0, 9), (9, .istore_n 0, 1, 0, 0, 10), (10, .iload_n 0, 1, 0, 0, 11), (11, .ldc_w 266, 3, 0, 0, 14), (14, .iand, 1, 0, 0, 15), (15, .iload_n 0, 1, 0, 0, 16), (16, .iconst 2, 1, 2, 0, 17), (17, .iushr, 1, 0, 0, 18), (18, .ldc_w 266, 3, 0, 0, 21), (21, .iand, 1, 0, 0, 22), (22, .iadd, 1, 0, 0, 23), (23, .istore_n 0, 1, 0, 0, 24), (24, .iload_n 0, 1, 0, 0, 25), (25, .iload_n 0, 1, 0, 0, 26), (26, .iconst 4, 1, 4, 0, 27), (27, .iushr, 1, 0, 0, 28), (28, .iadd, 1, 0, 0, 29), (29, .ldc_w 267, 3, 0, 0, 32), (32, .iand, 1, 0, 0, 33), (33, .istore_n 0, 1, 0, 0, 34), (34, .iload_n 0, 1, 0, 0, 35), (35, .iload_n 0, 1, 0, 0, 36), (36, .bipush 8, 2, 8, 0, 38), (38, .iushr, 1, 0, 0, 39), (39, .iadd, 1, 0, 0, 40), (40, .istore_n 0, 1, 0, 0, 41), (41, .iload_n 0, 1, 0, 0, 42), (42, .iload_n 0, 1, 0, 0, 43), (43, .bipush 16, 2, 16, 0, 45), (45, .iushr, 1, 0, 0, 46), (46, .iadd, 1, 0, 0, 47), (47, .istore_n 0, 1, 0, 0, 48), (48, .iload_n 0, 1, 0, 0, 49), (49, .bipush 63, 2, 63, 0, 51), (51, .iand, 1, 0, 0, 52), (52, .ireturn, 1, 0, 0, 53)]
def swJ6_bitCount_0f7a4 : Sw := []
def cuJ6_bitCount_0f7a4 : Cu := []
set_option maxRecDepth 100000 in
theorem msJ6_bitCount_0f7a4 : msOK mJ6_bitCount_0f7a4 isJ6_bitCount_0f7a4 swJ6_bitCount_0f7a4 := msOK_of (by decide +kernel)
def isJ9_max_7cf53 : Is := [(0, .iload_n 0, 1, 0, 0, 1), (1, .iload_n 1, 1, 0, 0, 2), (2, .if_icmp .lt 7, 3, 0, 9, 5), (5, .iload_n 0, 1, 0, 0, 6), (6, .goto 4, 3, 0, 10, 9), (9, .iload_n 1, 1, 0, 0, 10), (10, .ireturn, 1, 0, 0, 11)]
def swJ9_max_7cf53 : Sw := []
def cuJ9_max_7cf53 : Cu := []
set_option maxRecDepth 100000 in
theorem msJ9_max_7cf53 : msOK mJ9_max_7cf53 isJ9_max_7cf53 swJ9_max_7cf53 := msOK_of (by decide +kernel)
def isJ9_min_7cf53 : Is := [(0, .iload_n 0, 1, 0, 0, 1), (1, .iload_n 1, 1, 0, 0, 2), (2, .if_icmp .gt 7, 3, 0, 9, 5), (5, .iload_n 0, 1, 0, 0, 6), (6, .goto 4, 3, 0, 10, 9), (9, .iload_n 1, 1, 0, 0, 10), (10, .ireturn, 1, 0, 0, 11)]
def swJ9_min_7cf53 : Sw := []
def cuJ9_min_7cf53 : Cu := []
set_option maxRecDepth 100000 in
theorem msJ9_min_7cf53 : msOK mJ9_min_7cf53 isJ9_min_7cf53 swJ9_min_7cf53 := msOK_of (by decide +kernel)
def isJ7_fill_53178 : Is := [(0, .iconst 0, 1, 0, 0, 1), (1, .istore_n 2, 1, 0, 0, 2), (2, .aload_n 0, 1, 0, 0, 3), (3, .arraylength, 1, 0, 0, 4), (4, .istore_n 3, 1, 0, 0, 5), (5, .iload_n 2, 1, 0, 0, 6), (6, .iload_n 3, 1, 0, 0, 7), (7, .if_icmp .ge 13, 3, 0, 20, 10), (10, .aload_n 0, 1, 0, 0, 11), (11, .iload_n 2, 1, 0, 0, 12), (12, .iload_n 1, 1, 0, 0, 13), (13, .iastore, 1, 0, 0, 14), (14, .iinc 2 1, 3, 1, 0, 17), (17, .goto (-12), 3, 0, 5, 20), (20, .return_, 1, 0, 0, 21)]
def swJ7_fill_53178 : Sw := []
def cuJ7_fill_53178 : Cu := [(5, [0, 1, 2, 3])]
set_option maxRecDepth 100000 in
theorem msJ7_fill_53178 : msOK mJ7_fill_53178 isJ7_fill_53178 swJ7_fill_53178 := msOK_of (by decide +kernel)
def isJ7_fill_d0a16 : Is := [(0, .iconst 0, 1, 0, 0, 1), (1, .istore_n 3, 1, 0, 0, 2), (2, .aload_n 0, 1, 0, 0, 3), (3, .arraylength, 1, 0, 0, 4), (4, .istore 4, 2, 0, 0, 6), (6, .iload_n 3, 1, 0, 0, 7), (7, .iload 4, 2, 0, 0, 9), (9, .if_icmp .ge 13, 3, 0, 22, 12), (12, .aload_n 0, 1, 0, 0, 13), (13, .iload_n 3, 1, 0, 0, 14), (14, .lload_n 1, 1, 0, 0, 15), (15, .lastore, 1, 0, 0, 16), (16, .iinc 3 1, 3, 1, 0, 19), (19, .goto (-13), 3, 0, 6, 22), (22, .return_, 1, 0, 0, 23)]
def swJ7_fill_d0a16 : Sw := []
def cuJ7_fill_d0a16 : Cu := [(6, [0, 1, 3, 4])]
set_option maxRecDepth 100000 in
theorem msJ7_fill_d0a16 : msOK mJ7_fill_d0a16 isJ7_fill_d0a16 swJ7_fill_d0a16 := msOK_of (by decide +kernel)
def isJ0_length_8abf5 : Is := [(0, .aload_n 0, 1, 0, 0, 1), (1, .getfield 9, 3, 0, 0, 4), (4, .arraylength, 1, 0, 0, 5), (5, .aload_n 0, 1, 0, 0, 6), (6, .invokevirtual 335, 3, 0, 0, 9), (9, .ishr, 1, 0, 0, 10), (10, .ireturn, 1, 0, 0, 11)]
def swJ0_length_8abf5 : Sw := []
def cuJ0_length_8abf5 : Cu := []
set_option maxRecDepth 100000 in
theorem msJ0_length_8abf5 : msOK mJ0_length_8abf5 isJ0_length_8abf5 swJ0_length_8abf5 := msOK_of (by decide +kernel)
def isJ0_coder_7d493 : Is := [(0, .getstatic 38, 3, 0, 0, 3), (3, .ifCond .eq 10, 3, 0, 13, 6), (6, .aload_n 0, 1, 0, 0, 7), (7, .getfield 15, 3, 0, 0, 10), (10, .goto 4, 3, 0, 14, 13), (13, .iconst 1, 1, 1, 0, 14), (14, .ireturn, 1, 0, 0, 15)]
def swJ0_coder_7d493 : Sw := []
def cuJ0_coder_7d493 : Cu := []
set_option maxRecDepth 100000 in
theorem msJ0_coder_7d493 : msOK mJ0_coder_7d493 isJ0_coder_7d493 swJ0_coder_7d493 := msOK_of (by decide +kernel)
def isJ0_isLatin1_aae02 : Is := [(0, .getstatic 38, 3, 0, 0, 3), (3, .ifCond .eq 14, 3, 0, 17, 6), (6, .aload_n 0, 1, 0, 0, 7), (7, .getfield 15, 3, 0, 0, 10), (10, .ifCond .ne 7, 3, 0, 17, 13), (13, .iconst 1, 1, 1, 0, 14), (14, .goto 4, 3, 0, 18, 17), (17, .iconst 0, 1, 0, 0, 18), (18, .ireturn, 1, 0, 0, 19)]
def swJ0_isLatin1_aae02 : Sw := []
def cuJ0_isLatin1_aae02 : Cu := []
set_option maxRecDepth 100000 in
theorem msJ0_isLatin1_aae02 : msOK mJ0_isLatin1_aae02 isJ0_isLatin1_aae02 swJ0_isLatin1_aae02 := msOK_of (by decide +kernel)
def isJ0_charAt_5068e : Is := [(0, .aload_n 0, 1, 0, 0, 1), (1, .invokevirtual 492, 3, 0, 0, 4), (4, .ifCond .eq 12, 3, 0, 16, 7), (7, .aload_n 0, 1, 0, 0, 8), (8, .getfield 9, 3, 0, 0, 11), (11, .iload_n 1, 1, 0, 0, 12), (12, .invokestatic 495, 3, 0, 0, 15), (15, .ireturn, 1, 0, 0, 16), (16, .aload_n 0, 1, 0, 0, 17), (17, .getfield 9, 3, 0, 0, 20), (20, .iload_n 1, 1, 0, 0, 21), (21, .invokestatic 498, 3, 0, 0, 24), (24, .ireturn, 1, 0, 0, 25)]
def swJ0_charAt_5068e : Sw := []
def cuJ0_charAt_5068e : Cu := []
set_option maxRecDepth 100000 in
theorem msJ0_charAt_5068e : msOK mJ0_charAt_5068e isJ0_charAt_5068e swJ0_charAt_5068e := msOK_of (by decide +kernel)
def isJ0_checkIndex_df160 : Is := [(0, .iload_n 0, 1, 0, 0, 1), (1, .iload_n 1, 1, 0, 0, 2), (2, .getstatic 1053, 3, 0, 0, 5), (5, .invokestatic 1059, 3, 0, 0, 8), (8, .pop, 1, 0, 0, 9), (9, .return_, 1, 0, 0, 10)]
def swJ0_checkIndex_df160 : Sw := []
def cuJ0_checkIndex_df160 : Cu := []
set_option maxRecDepth 100000 in
theorem msJ0_checkIndex_df160 : msOK mJ0_checkIndex_df160 isJ0_checkIndex_df160 swJ0_checkIndex_df160 := msOK_of (by decide +kernel)
def isJ1_charAt_3b067 : Is := [(0, .iload_n 1, 1, 0, 0, 1), (1, .aload_n 0, 1, 0, 0, 2), (2, .arraylength, 1, 0, 0, 3), (3, .invokestatic 9, 3, 0, 0, 6), (6, .aload_n 0, 1, 0, 0, 7), (7, .iload_n 1, 1, 0, 0, 8), (8, .baload, 1, 0, 0, 9), (9, .sipush 255, 3, 255, 0, 12), (12, .iand, 1, 0, 0, 13), (13, .i2c, 1, 0, 0, 14), (14, .ireturn, 1, 0, 0, 15)]
def swJ1_charAt_3b067 : Sw := []
def cuJ1_charAt_3b067 : Cu := []
set_option maxRecDepth 100000 in
theorem msJ1_charAt_3b067 : msOK mJ1_charAt_3b067 isJ1_charAt_3b067 swJ1_charAt_3b067 := msOK_of (by decide +kernel)
def isJ3_checkIndex_8e157 : Is := [(0, .iload_n 0, 1, 0, 0, 1), (1, .ifCond .lt 8, 3, 0, 9, 4), (4, .iload_n 0, 1, 0, 0, 5), (5, .iload_n 1, 1, 0, 0, 6), (6, .if_icmp .lt 10, 3, 0, 16, 9), (9, .aload_n 2, 1, 0, 0, 10), (10, .iload_n 0, 1, 0, 0, 11), (11, .iload_n 1, 1, 0, 0, 12), (12, .invokestatic 95, 3, 0, 0, 15), (15, .athrow, 1, 0, 0, 16), (16, .iload_n 0, 1, 0, 0, 17), (17, .ireturn, 1, 0, 0, 18)]
def swJ3_checkIndex_8e157 : Sw := []
def cuJ3_checkIndex_8e157 : Cu := []
set_option maxRecDepth 100000 in
theorem msJ3_checkIndex_8e157 : msOK mJ3_checkIndex_8e157 isJ3_checkIndex_8e157 swJ3_checkIndex_8e157 := msOK_of (by decide +kernel)

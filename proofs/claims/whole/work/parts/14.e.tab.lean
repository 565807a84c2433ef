def tbX1 : Tb := ([(11, 1, 0, 2), (15, 1, 1, 2), (25, 10, 1, 0), (31, 10, 3, 0), (34, 4, 1, 0), (39, 10, 4, 2), (42, 4, 0, 2), (50, 7, 1, 0), (53, 7, 2, 0), (56, 10, 2, 2), (63, 1, 2, 0)], [(19, 1, mJ7_fill_d0a16), (46, 0, mX1_waysBehind), (59, 0, mX1_inAll), (64, 0, mX1_firstThatGoesOn)], [], [], [3], [])
theorem tfX1_11 : ∃ wi, fxCk RX1 (11, 1, 0, 2) wi = true := ⟨373, by decide +kernel⟩
theorem tfX1_15 : ∃ wi, fxCk RX1 (15, 1, 1, 2) wi = true := ⟨374, by decide +kernel⟩
theorem tfX1_25 : ∃ wi, fxCk RX1 (25, 10, 1, 0) wi = true := ⟨235, by decide +kernel⟩
theorem tfX1_31 : ∃ wi, fxCk RX1 (31, 10, 3, 0) wi = true := ⟨248, by decide +kernel⟩
theorem tfX1_34 : ∃ wi, fxCk RX1 (34, 4, 1, 0) wi = true := ⟨280, by decide +kernel⟩
theorem tfX1_39 : ∃ wi, fxCk RX1 (39, 10, 4, 2) wi = true := ⟨255, by decide +kernel⟩
theorem tfX1_42 : ∃ wi, fxCk RX1 (42, 4, 0, 2) wi = true := ⟨274, by decide +kernel⟩
theorem tfX1_50 : ∃ wi, fxCk RX1 (50, 7, 1, 0) wi = true := ⟨200, by decide +kernel⟩
theorem tfX1_53 : ∃ wi, fxCk RX1 (53, 7, 2, 0) wi = true := ⟨206, by decide +kernel⟩
theorem tfX1_56 : ∃ wi, fxCk RX1 (56, 10, 2, 2) wi = true := ⟨242, by decide +kernel⟩
theorem tfX1_63 : ∃ wi, fxCk RX1 (63, 1, 2, 0) wi = true := ⟨376, by decide +kernel⟩
theorem tcX1_19 : ∃ ws, (if (1 : Nat) = 4 then pCk RX1 19 ws else cCk RX1 19 1 mJ7_fill_d0a16 ws) = true := ⟨[713, 87, 711, 712], by rw [if_neg (by decide)]; decide +kernel⟩
theorem tcX1_46 : ∃ ws, (if (0 : Nat) = 4 then pCk RX1 46 ws else cCk RX1 46 0 mX1_waysBehind ws) = true := ⟨[717, 89, 714, 716, 23], by rw [if_neg (by decide)]; decide +kernel⟩
theorem tcX1_59 : ∃ ws, (if (0 : Nat) = 4 then pCk RX1 59 ws else cCk RX1 59 0 mX1_inAll ws) = true := ⟨[721, 89, 730, 719, 720], by rw [if_neg (by decide)]; decide +kernel⟩
theorem tcX1_64 : ∃ ws, (if (0 : Nat) = 4 then pCk RX1 64 ws else cCk RX1 64 0 mX1_firstThatGoesOn ws) = true := ⟨[734, 89, 731, 733, 24], by rw [if_neg (by decide)]; decide +kernel⟩
theorem toX1_3 : ∃ ws, oCk RX1 3 ws = true := ⟨[372, 108, 109], by decide +kernel⟩
theorem tbX1_ok : tbOK RX1 tbX1 := tbOK_of (List.forall_mem_cons.mpr ⟨tfX1_11, (List.forall_mem_cons.mpr ⟨tfX1_15, (List.forall_mem_cons.mpr ⟨tfX1_25, (List.forall_mem_cons.mpr ⟨tfX1_31, (List.forall_mem_cons.mpr ⟨tfX1_34, (List.forall_mem_cons.mpr ⟨tfX1_39, (List.forall_mem_cons.mpr ⟨tfX1_42, (List.forall_mem_cons.mpr ⟨tfX1_50, (List.forall_mem_cons.mpr ⟨tfX1_53, (List.forall_mem_cons.mpr ⟨tfX1_56, (List.forall_mem_cons.mpr ⟨tfX1_63, (fun _ h => absurd h List.not_mem_nil)⟩)⟩)⟩)⟩)⟩)⟩)⟩)⟩)⟩)⟩)⟩) (List.forall_mem_cons.mpr ⟨tcX1_19, (List.forall_mem_cons.mpr ⟨tcX1_46, (List.forall_mem_cons.mpr ⟨tcX1_59, (List.forall_mem_cons.mpr ⟨tcX1_64, (fun _ h => absurd h List.not_mem_nil)⟩)⟩)⟩)⟩) (fun _ h => absurd h List.not_mem_nil) (fun _ h => absurd h List.not_mem_nil) (List.forall_mem_cons.mpr ⟨toX1_3, (fun _ h => absurd h List.not_mem_nil)⟩)
def tbX2 : Tb := ([(9, 2, 0, 2), (15, 2, 1, 2)], [(18, 1, mJ7_fill_53178), (24, 1, mJ9_min_7cf53), (30, 4, mX0_init), (36, 0, mX2_heldOn)], [], [], [3], [])
theorem tfX2_9 : ∃ wi, fxCk RX2 (9, 2, 0, 2) wi = true := ⟨405, by decide +kernel⟩
theorem tfX2_15 : ∃ wi, fxCk RX2 (15, 2, 1, 2) wi = true := ⟨407, by decide +kernel⟩
theorem tcX2_18 : ∃ ws, (if (1 : Nat) = 4 then pCk RX2 18 ws else cCk RX2 18 1 mJ7_fill_53178 ws) = true := ⟨[270, 87, 646, 269], by rw [if_neg (by decide)]; decide +kernel⟩
theorem tcX2_24 : ∃ ws, (if (1 : Nat) = 4 then pCk RX2 24 ws else cCk RX2 24 1 mJ9_min_7cf53 ws) = true := ⟨[570, 98, 967, 569], by rw [if_neg (by decide)]; decide +kernel⟩
theorem tcX2_30 : ∃ ws, (if (4 : Nat) = 4 then pCk RX2 30 ws else cCk RX2 30 4 mX0_init ws) = true := ⟨[1032, 1034, 1033, 101], by rw [if_pos rfl]; decide +kernel⟩
theorem tcX2_36 : ∃ ws, (if (0 : Nat) = 4 then pCk RX2 36 ws else cCk RX2 36 0 mX2_heldOn ws) = true := ⟨[957, 92, 966, 955, 956], by rw [if_neg (by decide)]; decide +kernel⟩
theorem toX2_3 : ∃ ws, oCk RX2 3 ws = true := ⟨[404, 108, 109], by decide +kernel⟩
theorem tbX2_ok : tbOK RX2 tbX2 := tbOK_of (List.forall_mem_cons.mpr ⟨tfX2_9, (List.forall_mem_cons.mpr ⟨tfX2_15, (fun _ h => absurd h List.not_mem_nil)⟩)⟩) (List.forall_mem_cons.mpr ⟨tcX2_18, (List.forall_mem_cons.mpr ⟨tcX2_24, (List.forall_mem_cons.mpr ⟨tcX2_30, (List.forall_mem_cons.mpr ⟨tcX2_36, (fun _ h => absurd h List.not_mem_nil)⟩)⟩)⟩)⟩) (fun _ h => absurd h List.not_mem_nil) (fun _ h => absurd h List.not_mem_nil) (List.forall_mem_cons.mpr ⟨toX2_3, (fun _ h => absurd h List.not_mem_nil)⟩)
def tbX5 : Tb := ([(14, 5, 2, 2), (20, 5, 3, 2), (23, 5, 0, 0), (31, 5, 1, 0)], [(11, 2, mX2_init), (27, 0, mX2_heldOn), (34, 0, mX2_clear), (37, 0, mX2_becomeLike)], [], [(9, 2)], [3], [])
theorem tfX5_14 : ∃ wi, fxCk RX5 (14, 5, 2, 2) wi = true := ⟨417, by decide +kernel⟩
theorem tfX5_20 : ∃ wi, fxCk RX5 (20, 5, 3, 2) wi = true := ⟨419, by decide +kernel⟩
theorem tfX5_23 : ∃ wi, fxCk RX5 (23, 5, 0, 0) wi = true := ⟨413, by decide +kernel⟩
theorem tfX5_31 : ∃ wi, fxCk RX5 (31, 5, 1, 0) wi = true := ⟨415, by decide +kernel⟩
theorem tcX5_11 : ∃ ws, (if (2 : Nat) = 4 then pCk RX5 11 ws else cCk RX5 11 2 mX2_init ws) = true := ⟨[403, 92, 401, 402], by rw [if_neg (by decide)]; decide +kernel⟩
theorem tcX5_27 : ∃ ws, (if (0 : Nat) = 4 then pCk RX5 27 ws else cCk RX5 27 0 mX2_heldOn ws) = true := ⟨[957, 92, 954, 955, 956], by rw [if_neg (by decide)]; decide +kernel⟩
theorem tcX5_34 : ∃ ws, (if (0 : Nat) = 4 then pCk RX5 34 ws else cCk RX5 34 0 mX2_clear ws) = true := ⟨[645, 92, 642, 643, 644], by rw [if_neg (by decide)]; decide +kernel⟩
theorem tcX5_37 : ∃ ws, (if (0 : Nat) = 4 then pCk RX5 37 ws else cCk RX5 37 0 mX2_becomeLike ws) = true := ⟨[1031, 92, 1028, 1029, 1030], by rw [if_neg (by decide)]; decide +kernel⟩
theorem tnX5_9 : ∃ ws, nCk RX5 9 2 ws = true := ⟨[399, 400, 92], by decide +kernel⟩
theorem toX5_3 : ∃ ws, oCk RX5 3 ws = true := ⟨[398, 108, 109], by decide +kernel⟩
theorem tbX5_ok : tbOK RX5 tbX5 := tbOK_of (List.forall_mem_cons.mpr ⟨tfX5_14, (List.forall_mem_cons.mpr ⟨tfX5_20, (List.forall_mem_cons.mpr ⟨tfX5_23, (List.forall_mem_cons.mpr ⟨tfX5_31, (fun _ h => absurd h List.not_mem_nil)⟩)⟩)⟩)⟩) (List.forall_mem_cons.mpr ⟨tcX5_11, (List.forall_mem_cons.mpr ⟨tcX5_27, (List.forall_mem_cons.mpr ⟨tcX5_34, (List.forall_mem_cons.mpr ⟨tcX5_37, (fun _ h => absurd h List.not_mem_nil)⟩)⟩)⟩)⟩) (fun _ h => absurd h List.not_mem_nil) (List.forall_mem_cons.mpr ⟨tnX5_9, (fun _ h => absurd h List.not_mem_nil)⟩) (List.forall_mem_cons.mpr ⟨toX5_3, (fun _ h => absurd h List.not_mem_nil)⟩)
def tbX6 : Tb := ([(12, 6, 0, 2), (18, 6, 1, 0)], [(11, 3, mX5_init), (22, 0, mX5_beginAnew), (25, 0, mX5_becomeLike)], [], [(9, 5), (100009, 26)], [3], [])
theorem tfX6_12 : ∃ wi, fxCk RX6 (12, 6, 0, 2) wi = true := ⟨430, by decide +kernel⟩
theorem tfX6_18 : ∃ wi, fxCk RX6 (18, 6, 1, 0) wi = true := ⟨432, by decide +kernel⟩
theorem tcX6_11 : ∃ ws, (if (3 : Nat) = 4 then pCk RX6 11 ws else cCk RX6 11 3 mX5_init ws) = true := ⟨[397, 91, 0, 396], by rw [if_neg (by decide)]; decide +kernel⟩
theorem tcX6_22 : ∃ ws, (if (0 : Nat) = 4 then pCk RX6 22 ws else cCk RX6 22 0 mX5_beginAnew ws) = true := ⟨[641, 91, 638, 639, 640], by rw [if_neg (by decide)]; decide +kernel⟩
theorem tcX6_25 : ∃ ws, (if (0 : Nat) = 4 then pCk RX6 25 ws else cCk RX6 25 0 mX5_becomeLike ws) = true := ⟨[1027, 91, 1024, 1025, 1026], by rw [if_neg (by decide)]; decide +kernel⟩
theorem tnX6_9 : ∃ ws, nCk RX6 9 5 ws = true := ⟨[392, 394, 91], by decide +kernel⟩
theorem tnX6_100009 : ∃ ws, nCk RX6 100009 26 ws = true := ⟨[392], by decide +kernel⟩
theorem toX6_3 : ∃ ws, oCk RX6 3 ws = true := ⟨[391, 108, 109], by decide +kernel⟩
theorem tbX6_ok : tbOK RX6 tbX6 := tbOK_of (List.forall_mem_cons.mpr ⟨tfX6_12, (List.forall_mem_cons.mpr ⟨tfX6_18, (fun _ h => absurd h List.not_mem_nil)⟩)⟩) (List.forall_mem_cons.mpr ⟨tcX6_11, (List.forall_mem_cons.mpr ⟨tcX6_22, (List.forall_mem_cons.mpr ⟨tcX6_25, (fun _ h => absurd h List.not_mem_nil)⟩)⟩)⟩) (fun _ h => absurd h List.not_mem_nil) (List.forall_mem_cons.mpr ⟨tnX6_9, (List.forall_mem_cons.mpr ⟨tnX6_100009, (fun _ h => absurd h List.not_mem_nil)⟩)⟩) (List.forall_mem_cons.mpr ⟨toX6_3, (fun _ h => absurd h List.not_mem_nil)⟩)
def tbX7 : Tb := ([(9, 7, 0, 2), (15, 7, 1, 0), (19, 10, 1, 0), (22, 7, 3, 0), (25, 10, 0, 2)], [], [], [], [3], [])
theorem tfX7_9 : ∃ wi, fxCk RX7 (9, 7, 0, 2) wi = true := ⟨194, by decide +kernel⟩
theorem tfX7_15 : ∃ wi, fxCk RX7 (15, 7, 1, 0) wi = true := ⟨198, by decide +kernel⟩
theorem tfX7_19 : ∃ wi, fxCk RX7 (19, 10, 1, 0) wi = true := ⟨232, by decide +kernel⟩
theorem tfX7_22 : ∃ wi, fxCk RX7 (22, 7, 3, 0) wi = true := ⟨209, by decide +kernel⟩
theorem tfX7_25 : ∃ wi, fxCk RX7 (25, 10, 0, 2) wi = true := ⟨228, by decide +kernel⟩
theorem toX7_3 : ∃ ws, oCk RX7 3 ws = true := ⟨[193, 108, 109], by decide +kernel⟩
theorem tbX7_ok : tbOK RX7 tbX7 := tbOK_of (List.forall_mem_cons.mpr ⟨tfX7_9, (List.forall_mem_cons.mpr ⟨tfX7_15, (List.forall_mem_cons.mpr ⟨tfX7_19, (List.forall_mem_cons.mpr ⟨tfX7_22, (List.forall_mem_cons.mpr ⟨tfX7_25, (fun _ h => absurd h List.not_mem_nil)⟩)⟩)⟩)⟩)⟩) (fun _ h => absurd h List.not_mem_nil) (fun _ h => absurd h List.not_mem_nil) (fun _ h => absurd h List.not_mem_nil) (List.forall_mem_cons.mpr ⟨toX7_3, (fun _ h => absurd h List.not_mem_nil)⟩)
def tbX8 : Tb := ([(9, 8, 0, 2), (15, 8, 1, 0), (19, 8, 2, 0), (22, 10, 1, 0), (27, 10, 4, 2), (34, 4, 0, 2), (39, 7, 2, 0), (44, 7, 1, 0), (51, 8, 3, 4), (55, 10, 2, 2), (56, 10, 3, 0), (63, 8, 4, 4), (66, 4, 1, 0)], [(30, 1, mX8_longest), (45, 1, mJ9_max_7cf53), (59, 6, mX11_areAlike)], [], [], [3], [])
theorem tfX8_9 : ∃ wi, fxCk RX8 (9, 8, 0, 2) wi = true := ⟨164, by decide +kernel⟩
theorem tfX8_15 : ∃ wi, fxCk RX8 (15, 8, 1, 0) wi = true := ⟨167, by decide +kernel⟩
theorem tfX8_19 : ∃ wi, fxCk RX8 (19, 8, 2, 0) wi = true := ⟨170, by decide +kernel⟩
theorem tfX8_22 : ∃ wi, fxCk RX8 (22, 10, 1, 0) wi = true := ⟨233, by decide +kernel⟩
theorem tfX8_27 : ∃ wi, fxCk RX8 (27, 10, 4, 2) wi = true := ⟨253, by decide +kernel⟩
theorem tfX8_34 : ∃ wi, fxCk RX8 (34, 4, 0, 2) wi = true := ⟨273, by decide +kernel⟩
theorem tfX8_39 : ∃ wi, fxCk RX8 (39, 7, 2, 0) wi = true := ⟨204, by decide +kernel⟩
theorem tfX8_44 : ∃ wi, fxCk RX8 (44, 7, 1, 0) wi = true := ⟨199, by decide +kernel⟩
theorem tfX8_51 : ∃ wi, fxCk RX8 (51, 8, 3, 4) wi = true := ⟨172, by decide +kernel⟩
theorem tfX8_55 : ∃ wi, fxCk RX8 (55, 10, 2, 2) wi = true := ⟨240, by decide +kernel⟩
theorem tfX8_56 : ∃ wi, fxCk RX8 (56, 10, 3, 0) wi = true := ⟨247, by decide +kernel⟩
theorem tfX8_63 : ∃ wi, fxCk RX8 (63, 8, 4, 4) wi = true := ⟨174, by decide +kernel⟩
theorem tfX8_66 : ∃ wi, fxCk RX8 (66, 4, 1, 0) wi = true := ⟨279, by decide +kernel⟩
theorem tcX8_30 : ∃ ws, (if (1 : Nat) = 4 then pCk RX8 30 ws else cCk RX8 30 1 mX8_longest ws) = true := ⟨[745, 84, 743, 744], by rw [if_neg (by decide)]; decide +kernel⟩
theorem tcX8_45 : ∃ ws, (if (1 : Nat) = 4 then pCk RX8 45 ws else cCk RX8 45 1 mJ9_max_7cf53 ws) = true := ⟨[748, 98, 746, 747], by rw [if_neg (by decide)]; decide +kernel⟩
theorem tcX8_59 : ∃ ws, (if (6 : Nat) = 4 then pCk RX8 59 ws else cCk RX8 59 6 mX11_areAlike ws) = true := ⟨[751, 81, 0, 750], by rw [if_neg (by decide)]; decide +kernel⟩
theorem toX8_3 : ∃ ws, oCk RX8 3 ws = true := ⟨[163, 108, 109], by decide +kernel⟩
theorem tbX8_ok : tbOK RX8 tbX8 := tbOK_of (List.forall_mem_cons.mpr ⟨tfX8_9, (List.forall_mem_cons.mpr ⟨tfX8_15, (List.forall_mem_cons.mpr ⟨tfX8_19, (List.forall_mem_cons.mpr ⟨tfX8_22, (List.forall_mem_cons.mpr ⟨tfX8_27, (List.forall_mem_cons.mpr ⟨tfX8_34, (List.forall_mem_cons.mpr ⟨tfX8_39, (List.forall_mem_cons.mpr ⟨tfX8_44, (List.forall_mem_cons.mpr ⟨tfX8_51, (List.forall_mem_cons.mpr ⟨tfX8_55, (List.forall_mem_cons.mpr ⟨tfX8_56, (List.forall_mem_cons.mpr ⟨tfX8_63, (List.forall_mem_cons.mpr ⟨tfX8_66, (fun _ h => absurd h List.not_mem_nil)⟩)⟩)⟩)⟩)⟩)⟩)⟩)⟩)⟩)⟩)⟩)⟩)⟩) (List.forall_mem_cons.mpr ⟨tcX8_30, (List.forall_mem_cons.mpr ⟨tcX8_45, (List.forall_mem_cons.mpr ⟨tcX8_59, (fun _ h => absurd h List.not_mem_nil)⟩)⟩)⟩) (fun _ h => absurd h List.not_mem_nil) (fun _ h => absurd h List.not_mem_nil) (List.forall_mem_cons.mpr ⟨toX8_3, (fun _ h => absurd h List.not_mem_nil)⟩)
def tbX9 : Tb := ([(9, 9, 0, 2), (15, 9, 1, 0), (19, 9, 2, 4), (23, 10, 3, 0), (32, 4, 0, 2), (42, 10, 0, 2), (43, 10, 1, 0), (50, 4, 1, 0), (53, 7, 3, 0), (58, 7, 2, 0), (61, 10, 2, 2), (64, 7, 1, 0), (65, 7, 0, 2)], [(28, 1, mX9_firstFor), (38, 0, mX9_append), (46, 6, mX11_areAlike)], [], [], [3], [])
theorem tfX9_9 : ∃ wi, fxCk RX9 (9, 9, 0, 2) wi = true := ⟨354, by decide +kernel⟩
theorem tfX9_15 : ∃ wi, fxCk RX9 (15, 9, 1, 0) wi = true := ⟨356, by decide +kernel⟩
theorem tfX9_19 : ∃ wi, fxCk RX9 (19, 9, 2, 4) wi = true := ⟨358, by decide +kernel⟩
theorem tfX9_23 : ∃ wi, fxCk RX9 (23, 10, 3, 0) wi = true := ⟨246, by decide +kernel⟩
theorem tfX9_32 : ∃ wi, fxCk RX9 (32, 4, 0, 2) wi = true := ⟨272, by decide +kernel⟩
theorem tfX9_42 : ∃ wi, fxCk RX9 (42, 10, 0, 2) wi = true := ⟨229, by decide +kernel⟩
theorem tfX9_43 : ∃ wi, fxCk RX9 (43, 10, 1, 0) wi = true := ⟨234, by decide +kernel⟩
theorem tfX9_50 : ∃ wi, fxCk RX9 (50, 4, 1, 0) wi = true := ⟨278, by decide +kernel⟩
theorem tfX9_53 : ∃ wi, fxCk RX9 (53, 7, 3, 0) wi = true := ⟨210, by decide +kernel⟩
theorem tfX9_58 : ∃ wi, fxCk RX9 (58, 7, 2, 0) wi = true := ⟨205, by decide +kernel⟩
theorem tfX9_61 : ∃ wi, fxCk RX9 (61, 10, 2, 2) wi = true := ⟨241, by decide +kernel⟩
theorem tfX9_64 : ∃ wi, fxCk RX9 (64, 7, 1, 0) wi = true := ⟨201, by decide +kernel⟩
theorem tfX9_65 : ∃ wi, fxCk RX9 (65, 7, 0, 2) wi = true := ⟨195, by decide +kernel⟩
theorem tcX9_28 : ∃ ws, (if (1 : Nat) = 4 then pCk RX9 28 ws else cCk RX9 28 1 mX9_firstFor ws) = true := ⟨[765, 88, 763, 764], by rw [if_neg (by decide)]; decide +kernel⟩
theorem tcX9_38 : ∃ ws, (if (0 : Nat) = 4 then pCk RX9 38 ws else cCk RX9 38 0 mX9_append ws) = true := ⟨[769, 88, 766, 768, 25], by rw [if_neg (by decide)]; decide +kernel⟩
theorem tcX9_46 : ∃ ws, (if (6 : Nat) = 4 then pCk RX9 46 ws else cCk RX9 46 6 mX11_areAlike ws) = true := ⟨[751, 81, 0, 750], by rw [if_neg (by decide)]; decide +kernel⟩
theorem toX9_3 : ∃ ws, oCk RX9 3 ws = true := ⟨[353, 108, 109], by decide +kernel⟩
theorem tbX9_ok : tbOK RX9 tbX9 := tbOK_of (List.forall_mem_cons.mpr ⟨tfX9_9, (List.forall_mem_cons.mpr ⟨tfX9_15, (List.forall_mem_cons.mpr ⟨tfX9_19, (List.forall_mem_cons.mpr ⟨tfX9_23, (List.forall_mem_cons.mpr ⟨tfX9_32, (List.forall_mem_cons.mpr ⟨tfX9_42, (List.forall_mem_cons.mpr ⟨tfX9_43, (List.forall_mem_cons.mpr ⟨tfX9_50, (List.forall_mem_cons.mpr ⟨tfX9_53, (List.forall_mem_cons.mpr ⟨tfX9_58, (List.forall_mem_cons.mpr ⟨tfX9_61, (List.forall_mem_cons.mpr ⟨tfX9_64, (List.forall_mem_cons.mpr ⟨tfX9_65, (fun _ h => absurd h List.not_mem_nil)⟩)⟩)⟩)⟩)⟩)⟩)⟩)⟩)⟩)⟩)⟩)⟩)⟩) (List.forall_mem_cons.mpr ⟨tcX9_28, (List.forall_mem_cons.mpr ⟨tcX9_38, (List.forall_mem_cons.mpr ⟨tcX9_46, (fun _ h => absurd h List.not_mem_nil)⟩)⟩)⟩) (fun _ h => absurd h List.not_mem_nil) (fun _ h => absurd h List.not_mem_nil) (List.forall_mem_cons.mpr ⟨toX9_3, (fun _ h => absurd h List.not_mem_nil)⟩)
def tbX10 : Tb := ([(9, 10, 0, 2), (15, 10, 2, 2), (18, 10, 4, 2)], [], [], [], [3], [])
theorem tfX10_9 : ∃ wi, fxCk RX10 (9, 10, 0, 2) wi = true := ⟨227, by decide +kernel⟩
theorem tfX10_15 : ∃ wi, fxCk RX10 (15, 10, 2, 2) wi = true := ⟨239, by decide +kernel⟩
theorem tfX10_18 : ∃ wi, fxCk RX10 (18, 10, 4, 2) wi = true := ⟨252, by decide +kernel⟩
theorem toX10_3 : ∃ ws, oCk RX10 3 ws = true := ⟨[226, 108, 109], by decide +kernel⟩
theorem tbX10_ok : tbOK RX10 tbX10 := tbOK_of (List.forall_mem_cons.mpr ⟨tfX10_9, (List.forall_mem_cons.mpr ⟨tfX10_15, (List.forall_mem_cons.mpr ⟨tfX10_18, (fun _ h => absurd h List.not_mem_nil)⟩)⟩)⟩) (fun _ h => absurd h List.not_mem_nil) (fun _ h => absurd h List.not_mem_nil) (fun _ h => absurd h List.not_mem_nil) (List.forall_mem_cons.mpr ⟨toX10_3, (fun _ h => absurd h List.not_mem_nil)⟩)
def tbJ6 : Tb := ([], [], [(265, .int (1431655765)), (266, .int (858993459)), (267, .int (252645135))], [], [], [])
theorem tkJ6_265 : ∃ wi, kCk RJ6 265 (.int (1431655765)) wi = true := ⟨833, by decide +kernel⟩
theorem tkJ6_266 : ∃ wi, kCk RJ6 266 (.int (858993459)) wi = true := ⟨834, by decide +kernel⟩
theorem tkJ6_267 : ∃ wi, kCk RJ6 267 (.int (252645135)) wi = true := ⟨835, by decide +kernel⟩
theorem tbJ6_ok : tbOK RJ6 tbJ6 := tbOK_of (fun _ h => absurd h List.not_mem_nil) (fun _ h => absurd h List.not_mem_nil) (List.forall_mem_cons.mpr ⟨tkJ6_265, (List.forall_mem_cons.mpr ⟨tkJ6_266, (List.forall_mem_cons.mpr ⟨tkJ6_267, (fun _ h => absurd h List.not_mem_nil)⟩)⟩)⟩) (fun _ h => absurd h List.not_mem_nil) (fun _ h => absurd h List.not_mem_nil)
def tbJ9 : Tb := ([], [], [], [], [], [])
theorem tbJ9_ok : tbOK RJ9 tbJ9 := tbOK_of (fun _ h => absurd h List.not_mem_nil) (fun _ h => absurd h List.not_mem_nil) (fun _ h => absurd h List.not_mem_nil) (fun _ h => absurd h List.not_mem_nil) (fun _ h => absurd h List.not_mem_nil)
def tbJ7 : Tb := ([], [], [], [], [], [])
theorem tbJ7_ok : tbOK RJ7 tbJ7 := tbOK_of (fun _ h => absurd h List.not_mem_nil) (fun _ h => absurd h List.not_mem_nil) (fun _ h => absurd h List.not_mem_nil) (fun _ h => absurd h List.not_mem_nil) (fun _ h => absurd h List.not_mem_nil)
def tbJ0 : Tb := ([(9, 99, 0, 7), (15, 99, 0, 8), (38, 99, 0, 9), (1053, 99, 0, 10)], [(335, 5, mJ0_coder_7d493), (492, 5, mJ0_isLatin1_aae02), (495, 1, mJ1_charAt_3b067), (1059, 1, mJ3_checkIndex_8e157)], [], [], [], [])
theorem tfJ0_9 : ∃ wi, fxCk RJ0 (9, 99, 0, 7) wi = true := ⟨1553, by decide +kernel⟩
theorem tfJ0_15 : ∃ wi, fxCk RJ0 (15, 99, 0, 8) wi = true := ⟨1554, by decide +kernel⟩
theorem tfJ0_38 : ∃ wi, fxCk RJ0 (38, 99, 0, 9) wi = true := ⟨516, by decide +kernel⟩
theorem tfJ0_1053 : ∃ wi, fxCk RJ0 (1053, 99, 0, 10) wi = true := ⟨532, by decide +kernel⟩
theorem tcJ0_335 : ∃ ws, (if (5 : Nat) = 4 then pCk RJ0 335 ws else cCk RJ0 335 5 mJ0_coder_7d493 ws) = true := ⟨[515, 94, 512, 513, 514], by rw [if_neg (by decide)]; decide +kernel⟩
theorem tcJ0_492 : ∃ ws, (if (5 : Nat) = 4 then pCk RJ0 492 ws else cCk RJ0 492 5 mJ0_isLatin1_aae02 ws) = true := ⟨[525, 94, 522, 523, 524], by rw [if_neg (by decide)]; decide +kernel⟩
theorem tcJ0_495 : ∃ ws, (if (1 : Nat) = 4 then pCk RJ0 495 ws else cCk RJ0 495 1 mJ1_charAt_3b067 ws) = true := ⟨[528, 95, 526, 527], by rw [if_neg (by decide)]; decide +kernel⟩
theorem tcJ0_1059 : ∃ ws, (if (1 : Nat) = 4 then pCk RJ0 1059 ws else cCk RJ0 1059 1 mJ3_checkIndex_8e157 ws) = true := ⟨[536, 96, 534, 535], by rw [if_neg (by decide)]; decide +kernel⟩
theorem tbJ0_ok : tbOK RJ0 tbJ0 := tbOK_of (List.forall_mem_cons.mpr ⟨tfJ0_9, (List.forall_mem_cons.mpr ⟨tfJ0_15, (List.forall_mem_cons.mpr ⟨tfJ0_38, (List.forall_mem_cons.mpr ⟨tfJ0_1053, (fun _ h => absurd h List.not_mem_nil)⟩)⟩)⟩)⟩) (List.forall_mem_cons.mpr ⟨tcJ0_335, (List.forall_mem_cons.mpr ⟨tcJ0_492, (List.forall_mem_cons.mpr ⟨tcJ0_495, (List.forall_mem_cons.mpr ⟨tcJ0_1059, (fun _ h => absurd h List.not_mem_nil)⟩)⟩)⟩)⟩) (fun _ h => absurd h List.not_mem_nil) (fun _ h => absurd h List.not_mem_nil) (fun _ h => absurd h List.not_mem_nil)
def tbJ1 : Tb := ([], [(9, 1, mJ0_checkIndex_df160)], [], [], [], [])
theorem tcJ1_9 : ∃ ws, (if (1 : Nat) = 4 then pCk RJ1 9 ws else cCk RJ1 9 1 mJ0_checkIndex_df160 ws) = true := ⟨[531, 94, 529, 530], by rw [if_neg (by decide)]; decide +kernel⟩
theorem tbJ1_ok : tbOK RJ1 tbJ1 := tbOK_of (fun _ h => absurd h List.not_mem_nil) (List.forall_mem_cons.mpr ⟨tcJ1_9, (fun _ h => absurd h List.not_mem_nil)⟩) (fun _ h => absurd h List.not_mem_nil) (fun _ h => absurd h List.not_mem_nil) (fun _ h => absurd h List.not_mem_nil)
def tbJ3 : Tb := ([], [], [], [], [], [])
theorem tbJ3_ok : tbOK RJ3 tbJ3 := tbOK_of (fun _ h => absurd h List.not_mem_nil) (fun _ h => absurd h List.not_mem_nil) (fun _ h => absurd h List.not_mem_nil) (fun _ h => absurd h List.not_mem_nil) (fun _ h => absurd h List.not_mem_nil)

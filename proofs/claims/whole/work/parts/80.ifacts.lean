/-! the constructors and the law: their instructions -/
theorem pq0 : gm_PT[0]? = some (yX0_init, cX0_init, 1, none, 0, 0, 1, 20, 1, 7, cd_0) := rfl
theorem pq12 : gm_PT[12]? = some (yX1_init, cX1_init, 2, none, 1, 1, 1, 20, 4, 486, cd_12) := rfl
theorem pq24 : gm_PT[24]? = some (yX2_init, cX2_init, 1, none, 2, 0, 1, 20, 1, 7, cd_24) := rfl
theorem pq32 : gm_PT[32]? = some (yX3_init, cX3_init, 2, none, 3, 1, 2, 40, 14, 924, cd_32) := rfl
theorem pq55 : gm_PT[55]? = some (yX4_init, cX4_init, 1, none, 4, 0, 1, 20, 3, 315, cd_55) := rfl
theorem pq65 : gm_PT[65]? = some (yX5_init, cX5_init, 1, none, 5, 0, 1, 20, 1, 60, cd_65) := rfl
theorem pq70 : gm_PT[70]? = some (yX6_init, cX6_init, 2, none, 6, 0, 3, 61, 46, 1797, cd_70) := rfl
theorem pq113 : gm_PT[113]? = some (yX7_init, cX7_init, 2, none, 7, 0, 1, 20, 22, 3150, cd_113) := rfl
theorem pq199 : gm_PT[199]? = some (yL_law, cL_law, 4, (some .boolean), 12, 1, 11, 434, 600000, 7302250, cd_199) := rfl
theorem fe0 (pc : Nat) : gm_fetch 0 pc = gm_find pc cd_0 := rfl
theorem f0_0 : gm_fetch 0 0 = some (1, .aload_n 0, 0, 0, 0, 0) := (fe0 0).trans rfl
theorem f0_1 : gm_fetch 0 1 = some (4, .invokespecial 3, 3, 0, 3, 0) := (fe0 1).trans rfl
theorem f0_4 : gm_fetch 0 4 = some (5, .aload_n 0, 0, 0, 0, 0) := (fe0 4).trans rfl
theorem f0_5 : gm_fetch 0 5 = some (6, .iconst 5, 0, 0, 0, 0) := (fe0 5).trans rfl
theorem f0_6 : gm_fetch 0 6 = some (9, .putfield 9, 0, 0, 0, 0) := (fe0 6).trans rfl
theorem f0_9 : gm_fetch 0 9 = some (10, .aload_n 0, 0, 0, 0, 0) := (fe0 9).trans rfl
theorem f0_10 : gm_fetch 0 10 = some (12, .bipush 6, 0, 0, 0, 0) := (fe0 10).trans rfl
theorem f0_12 : gm_fetch 0 12 = some (15, .putfield 15, 5, 0, 1, 0) := (fe0 12).trans rfl
theorem f0_15 : gm_fetch 0 15 = some (16, .aload_n 0, 0, 0, 0, 0) := (fe0 15).trans rfl
theorem f0_16 : gm_fetch 0 16 = some (17, .iconst 4, 0, 0, 0, 0) := (fe0 16).trans rfl
theorem f0_17 : gm_fetch 0 17 = some (20, .putfield 18, 10, 0, 2, 0) := (fe0 17).trans rfl
theorem f0_20 : gm_fetch 0 20 = some (21, .aload_n 0, 0, 0, 0, 0) := (fe0 20).trans rfl
theorem f0_21 : gm_fetch 0 21 = some (22, .iconst 1, 0, 0, 0, 0) := (fe0 21).trans rfl
theorem f0_22 : gm_fetch 0 22 = some (25, .putfield 21, 14, 0, 3, 0) := (fe0 22).trans rfl
theorem f0_25 : gm_fetch 0 25 = some (26, .aload_n 0, 0, 0, 0, 0) := (fe0 25).trans rfl
theorem f0_26 : gm_fetch 0 26 = some (27, .iconst 4, 0, 0, 0, 0) := (fe0 26).trans rfl
theorem f0_27 : gm_fetch 0 27 = some (30, .putfield 24, 18, 0, 4, 0) := (fe0 27).trans rfl
theorem f0_30 : gm_fetch 0 30 = some (31, .aload_n 0, 0, 0, 0, 0) := (fe0 30).trans rfl
theorem f0_31 : gm_fetch 0 31 = some (32, .iconst 1, 0, 0, 0, 0) := (fe0 31).trans rfl
theorem f0_32 : gm_fetch 0 32 = some (35, .putfield 27, 20, 0, 5, 0) := (fe0 32).trans rfl
theorem f0_35 : gm_fetch 0 35 = some (36, .aload_n 0, 0, 0, 0, 0) := (fe0 35).trans rfl
theorem f0_36 : gm_fetch 0 36 = some (38, .bipush 7, 0, 0, 0, 0) := (fe0 36).trans rfl
theorem f0_38 : gm_fetch 0 38 = some (40, .newarray .int, 0, 0, 0, 0) := (fe0 38).trans rfl
theorem f0_40 : gm_fetch 0 40 = some (43, .putfield 30, 23, 0, 6, 0) := (fe0 40).trans rfl
theorem f0_43 : gm_fetch 0 43 = some (44, .return_, 0, 0, 0, 0) := (fe0 43).trans rfl
theorem fe12 (pc : Nat) : gm_fetch 12 pc = gm_find pc cd_12 := rfl
theorem f12_0 : gm_fetch 12 0 = some (1, .aload_n 0, 0, 0, 0, 0) := (fe12 0).trans rfl
theorem f12_1 : gm_fetch 12 1 = some (4, .invokespecial 5, 9, 0, 3, 0) := (fe12 1).trans rfl
theorem f12_4 : gm_fetch 12 4 = some (5, .aload_n 0, 0, 0, 0, 0) := (fe12 4).trans rfl
theorem f12_5 : gm_fetch 12 5 = some (7, .bipush 81, 0, 0, 0, 0) := (fe12 5).trans rfl
theorem f12_7 : gm_fetch 12 7 = some (9, .newarray .int, 0, 0, 0, 0) := (fe12 7).trans rfl
theorem f12_9 : gm_fetch 12 9 = some (12, .putfield 11, 52, 1, 1, 0) := (fe12 9).trans rfl
theorem f12_12 : gm_fetch 12 12 = some (13, .aload_n 0, 0, 0, 0, 0) := (fe12 12).trans rfl
theorem f12_13 : gm_fetch 12 13 = some (15, .bipush 81, 0, 0, 0, 0) := (fe12 13).trans rfl
theorem f12_15 : gm_fetch 12 15 = some (17, .newarray .int, 0, 0, 0, 0) := (fe12 15).trans rfl
theorem f12_17 : gm_fetch 12 17 = some (20, .putfield 15, 53, 1, 2, 0) := (fe12 17).trans rfl
theorem f12_20 : gm_fetch 12 20 = some (21, .aload_n 0, 0, 0, 0, 0) := (fe12 20).trans rfl
theorem f12_21 : gm_fetch 12 21 = some (24, .sipush 162, 0, 0, 0, 0) := (fe12 21).trans rfl
theorem f12_24 : gm_fetch 12 24 = some (26, .newarray .int, 0, 0, 0, 0) := (fe12 24).trans rfl
theorem f12_26 : gm_fetch 12 26 = some (29, .putfield 18, 54, 1, 3, 0) := (fe12 26).trans rfl
theorem f12_29 : gm_fetch 12 29 = some (30, .aload_n 0, 0, 0, 0, 0) := (fe12 29).trans rfl
theorem f12_30 : gm_fetch 12 30 = some (33, .sipush 162, 0, 0, 0, 0) := (fe12 30).trans rfl
theorem f12_33 : gm_fetch 12 33 = some (35, .newarray .int, 0, 0, 0, 0) := (fe12 33).trans rfl
theorem f12_35 : gm_fetch 12 35 = some (38, .putfield 21, 55, 1, 4, 0) := (fe12 35).trans rfl
theorem f12_38 : gm_fetch 12 38 = some (39, .aload_n 0, 0, 0, 0, 0) := (fe12 38).trans rfl
theorem f12_39 : gm_fetch 12 39 = some (40, .aload_n 1, 0, 0, 0, 0) := (fe12 39).trans rfl
theorem f12_40 : gm_fetch 12 40 = some (43, .putfield 24, 51, 1, 0, 0) := (fe12 40).trans rfl
theorem f12_43 : gm_fetch 12 43 = some (44, .return_, 0, 0, 0, 0) := (fe12 43).trans rfl
theorem fe24 (pc : Nat) : gm_fetch 24 pc = gm_find pc cd_24 := rfl
theorem f24_0 : gm_fetch 24 0 = some (1, .aload_n 0, 0, 0, 0, 0) := (fe24 0).trans rfl
theorem f24_1 : gm_fetch 24 1 = some (4, .invokespecial 3, 11, 0, 3, 0) := (fe24 1).trans rfl
theorem f24_4 : gm_fetch 24 4 = some (5, .aload_n 0, 0, 0, 0, 0) := (fe24 4).trans rfl
theorem f24_5 : gm_fetch 24 5 = some (7, .bipush 7, 0, 0, 0, 0) := (fe24 5).trans rfl
theorem f24_7 : gm_fetch 24 7 = some (9, .newarray .int, 0, 0, 0, 0) := (fe24 7).trans rfl
theorem f24_9 : gm_fetch 24 9 = some (12, .putfield 9, 65, 2, 4, 0) := (fe24 9).trans rfl
theorem f24_12 : gm_fetch 24 12 = some (13, .return_, 0, 0, 0, 0) := (fe24 12).trans rfl
theorem fe32 (pc : Nat) : gm_fetch 32 pc = gm_find pc cd_32 := rfl
theorem f32_0 : gm_fetch 32 0 = some (1, .aload_n 0, 0, 0, 0, 0) := (fe32 0).trans rfl
theorem f32_1 : gm_fetch 32 1 = some (4, .invokespecial 3, 5, 0, 3, 0) := (fe32 1).trans rfl
theorem f32_4 : gm_fetch 32 4 = some (5, .aload_n 0, 0, 0, 0, 0) := (fe32 4).trans rfl
theorem f32_5 : gm_fetch 32 5 = some (8, .new 9, 3, 4, 0, 0) := (fe32 5).trans rfl
theorem f32_8 : gm_fetch 32 8 = some (9, .dup, 0, 0, 0, 0) := (fe32 8).trans rfl
theorem f32_9 : gm_fetch 32 9 = some (12, .invokespecial 11, 6, 55, 1, 0) := (fe32 9).trans rfl
theorem f32_12 : gm_fetch 32 12 = some (15, .putfield 12, 38, 3, 1, 0) := (fe32 12).trans rfl
theorem f32_15 : gm_fetch 32 15 = some (16, .aload_n 0, 0, 0, 0, 0) := (fe32 15).trans rfl
theorem f32_16 : gm_fetch 32 16 = some (18, .bipush 7, 0, 0, 0, 0) := (fe32 16).trans rfl
theorem f32_18 : gm_fetch 32 18 = some (20, .newarray .long, 0, 0, 0, 0) := (fe32 18).trans rfl
theorem f32_20 : gm_fetch 32 20 = some (23, .putfield 18, 39, 3, 2, 0) := (fe32 20).trans rfl
theorem f32_23 : gm_fetch 32 23 = some (24, .aload_n 0, 0, 0, 0, 0) := (fe32 23).trans rfl
theorem f32_24 : gm_fetch 32 24 = some (27, .new 9, 3, 4, 0, 0) := (fe32 24).trans rfl
theorem f32_27 : gm_fetch 32 27 = some (28, .dup, 0, 0, 0, 0) := (fe32 27).trans rfl
theorem f32_28 : gm_fetch 32 28 = some (31, .invokespecial 11, 6, 55, 1, 0) := (fe32 28).trans rfl
theorem f32_31 : gm_fetch 32 31 = some (34, .putfield 22, 40, 3, 3, 0) := (fe32 31).trans rfl
theorem f32_34 : gm_fetch 32 34 = some (35, .aload_n 0, 0, 0, 0, 0) := (fe32 34).trans rfl
theorem f32_35 : gm_fetch 32 35 = some (37, .bipush 7, 0, 0, 0, 0) := (fe32 35).trans rfl
theorem f32_37 : gm_fetch 32 37 = some (39, .newarray .long, 0, 0, 0, 0) := (fe32 37).trans rfl
theorem f32_39 : gm_fetch 32 39 = some (42, .putfield 25, 41, 3, 4, 0) := (fe32 39).trans rfl
theorem f32_42 : gm_fetch 32 42 = some (43, .aload_n 0, 0, 0, 0, 0) := (fe32 42).trans rfl
theorem f32_43 : gm_fetch 32 43 = some (45, .bipush 7, 0, 0, 0, 0) := (fe32 43).trans rfl
theorem f32_45 : gm_fetch 32 45 = some (47, .newarray .int, 0, 0, 0, 0) := (fe32 45).trans rfl
theorem f32_47 : gm_fetch 32 47 = some (50, .putfield 28, 42, 3, 5, 0) := (fe32 47).trans rfl
theorem f32_50 : gm_fetch 32 50 = some (51, .aload_n 0, 0, 0, 0, 0) := (fe32 50).trans rfl
theorem f32_51 : gm_fetch 32 51 = some (53, .bipush 7, 0, 0, 0, 0) := (fe32 51).trans rfl
theorem f32_53 : gm_fetch 32 53 = some (55, .newarray .int, 0, 0, 0, 0) := (fe32 53).trans rfl
theorem f32_55 : gm_fetch 32 55 = some (58, .putfield 32, 43, 3, 6, 0) := (fe32 55).trans rfl
theorem f32_58 : gm_fetch 32 58 = some (59, .aload_n 0, 0, 0, 0, 0) := (fe32 58).trans rfl
theorem f32_59 : gm_fetch 32 59 = some (62, .sipush 245, 0, 0, 0, 0) := (fe32 59).trans rfl
theorem f32_62 : gm_fetch 32 62 = some (64, .newarray .int, 0, 0, 0, 0) := (fe32 62).trans rfl
theorem f32_64 : gm_fetch 32 64 = some (67, .putfield 35, 44, 3, 7, 0) := (fe32 64).trans rfl
theorem f32_67 : gm_fetch 32 67 = some (68, .aload_n 0, 0, 0, 0, 0) := (fe32 67).trans rfl
theorem f32_68 : gm_fetch 32 68 = some (70, .bipush 7, 0, 0, 0, 0) := (fe32 68).trans rfl
theorem f32_70 : gm_fetch 32 70 = some (72, .newarray .int, 0, 0, 0, 0) := (fe32 70).trans rfl
theorem f32_72 : gm_fetch 32 72 = some (75, .putfield 38, 45, 3, 8, 0) := (fe32 72).trans rfl
theorem f32_75 : gm_fetch 32 75 = some (76, .aload_n 0, 0, 0, 0, 0) := (fe32 75).trans rfl
theorem f32_76 : gm_fetch 32 76 = some (77, .aload_n 1, 0, 0, 0, 0) := (fe32 76).trans rfl
theorem f32_77 : gm_fetch 32 77 = some (80, .putfield 41, 37, 3, 0, 0) := (fe32 77).trans rfl
theorem f32_80 : gm_fetch 32 80 = some (81, .return_, 0, 0, 0, 0) := (fe32 80).trans rfl
theorem fe55 (pc : Nat) : gm_fetch 55 pc = gm_find pc cd_55 := rfl
theorem f55_0 : gm_fetch 55 0 = some (1, .aload_n 0, 0, 0, 0, 0) := (fe55 0).trans rfl
theorem f55_1 : gm_fetch 55 1 = some (4, .invokespecial 3, 7, 0, 3, 0) := (fe55 1).trans rfl
theorem f55_4 : gm_fetch 55 4 = some (5, .aload_n 0, 0, 0, 0, 0) := (fe55 4).trans rfl
theorem f55_5 : gm_fetch 55 5 = some (7, .bipush 35, 0, 0, 0, 0) := (fe55 5).trans rfl
theorem f55_7 : gm_fetch 55 7 = some (9, .newarray .int, 0, 0, 0, 0) := (fe55 7).trans rfl
theorem f55_9 : gm_fetch 55 9 = some (12, .putfield 9, 30, 4, 1, 0) := (fe55 9).trans rfl
theorem f55_12 : gm_fetch 55 12 = some (13, .aload_n 0, 0, 0, 0, 0) := (fe55 12).trans rfl
theorem f55_13 : gm_fetch 55 13 = some (16, .sipush 245, 0, 0, 0, 0) := (fe55 13).trans rfl
theorem f55_16 : gm_fetch 55 16 = some (18, .newarray .int, 0, 0, 0, 0) := (fe55 16).trans rfl
theorem f55_18 : gm_fetch 55 18 = some (21, .putfield 15, 32, 4, 2, 0) := (fe55 18).trans rfl
theorem f55_21 : gm_fetch 55 21 = some (22, .aload_n 0, 0, 0, 0, 0) := (fe55 21).trans rfl
theorem f55_22 : gm_fetch 55 22 = some (24, .bipush 35, 0, 0, 0, 0) := (fe55 22).trans rfl
theorem f55_24 : gm_fetch 55 24 = some (26, .newarray .long, 0, 0, 0, 0) := (fe55 24).trans rfl
theorem f55_26 : gm_fetch 55 26 = some (29, .putfield 18, 33, 4, 3, 0) := (fe55 26).trans rfl
theorem f55_29 : gm_fetch 55 29 = some (30, .return_, 0, 0, 0, 0) := (fe55 29).trans rfl
theorem fe65 (pc : Nat) : gm_fetch 65 pc = gm_find pc cd_65 := rfl
theorem f65_0 : gm_fetch 65 0 = some (1, .aload_n 0, 0, 0, 0, 0) := (fe65 0).trans rfl
theorem f65_1 : gm_fetch 65 1 = some (4, .invokespecial 3, 13, 0, 3, 0) := (fe65 1).trans rfl
theorem f65_4 : gm_fetch 65 4 = some (5, .aload_n 0, 0, 0, 0, 0) := (fe65 4).trans rfl
theorem f65_5 : gm_fetch 65 5 = some (6, .iconst 1, 0, 0, 0, 0) := (fe65 5).trans rfl
theorem f65_6 : gm_fetch 65 6 = some (9, .putfield 9, 68, 5, 0, 0) := (fe65 6).trans rfl
theorem f65_9 : gm_fetch 65 9 = some (10, .aload_n 0, 0, 0, 0, 0) := (fe65 9).trans rfl
theorem f65_10 : gm_fetch 65 10 = some (12, .bipush 60, 0, 0, 0, 0) := (fe65 10).trans rfl
theorem f65_12 : gm_fetch 65 12 = some (14, .newarray .int, 0, 0, 0, 0) := (fe65 12).trans rfl
theorem f65_14 : gm_fetch 65 14 = some (17, .putfield 15, 74, 5, 3, 0) := (fe65 14).trans rfl
theorem f65_17 : gm_fetch 65 17 = some (18, .return_, 0, 0, 0, 0) := (fe65 17).trans rfl
theorem fe70 (pc : Nat) : gm_fetch 70 pc = gm_find pc cd_70 := rfl
set_option maxRecDepth 20000 in
theorem f70_0 : gm_fetch 70 0 = some (1, .aload_n 0, 0, 0, 0, 0) := (fe70 0).trans rfl
set_option maxRecDepth 20000 in
theorem f70_1 : gm_fetch 70 1 = some (4, .invokespecial 3, 1, 0, 3, 0) := (fe70 1).trans rfl
set_option maxRecDepth 20000 in
theorem f70_4 : gm_fetch 70 4 = some (5, .aload_n 0, 0, 0, 0, 0) := (fe70 4).trans rfl
set_option maxRecDepth 20000 in
theorem f70_5 : gm_fetch 70 5 = some (8, .new 9, 1, 0, 0, 0) := (fe70 5).trans rfl
set_option maxRecDepth 20000 in
theorem f70_8 : gm_fetch 70 8 = some (9, .dup, 0, 0, 0, 0) := (fe70 8).trans rfl
set_option maxRecDepth 20000 in
theorem f70_9 : gm_fetch 70 9 = some (12, .invokespecial 11, 2, 0, 1, 0) := (fe70 9).trans rfl
set_option maxRecDepth 20000 in
theorem f70_12 : gm_fetch 70 12 = some (15, .putfield 12, 76, 6, 0, 0) := (fe70 12).trans rfl
set_option maxRecDepth 20000 in
theorem f70_15 : gm_fetch 70 15 = some (16, .aload_n 0, 0, 0, 0, 0) := (fe70 15).trans rfl
set_option maxRecDepth 20000 in
theorem f70_16 : gm_fetch 70 16 = some (19, .new 16, 2, 3, 0, 0) := (fe70 16).trans rfl
set_option maxRecDepth 20000 in
theorem f70_19 : gm_fetch 70 19 = some (20, .dup, 0, 0, 0, 0) := (fe70 19).trans rfl
set_option maxRecDepth 20000 in
theorem f70_20 : gm_fetch 70 20 = some (21, .aload_n 0, 0, 0, 0, 0) := (fe70 20).trans rfl
set_option maxRecDepth 20000 in
theorem f70_21 : gm_fetch 70 21 = some (24, .getfield 12, 76, 6, 0, 0) := (fe70 21).trans rfl
set_option maxRecDepth 20000 in
theorem f70_24 : gm_fetch 70 24 = some (27, .invokespecial 18, 4, 32, 0, 0) := (fe70 24).trans rfl
set_option maxRecDepth 20000 in
theorem f70_27 : gm_fetch 70 27 = some (30, .putfield 21, 77, 6, 1, 0) := (fe70 27).trans rfl
set_option maxRecDepth 20000 in
theorem f70_30 : gm_fetch 70 30 = some (31, .aload_n 0, 0, 0, 0, 0) := (fe70 30).trans rfl
set_option maxRecDepth 20000 in
theorem f70_31 : gm_fetch 70 31 = some (34, .new 25, 4, 1, 0, 0) := (fe70 31).trans rfl
set_option maxRecDepth 20000 in
theorem f70_34 : gm_fetch 70 34 = some (35, .dup, 0, 0, 0, 0) := (fe70 34).trans rfl
set_option maxRecDepth 20000 in
theorem f70_35 : gm_fetch 70 35 = some (36, .aload_n 0, 0, 0, 0, 0) := (fe70 35).trans rfl
set_option maxRecDepth 20000 in
theorem f70_36 : gm_fetch 70 36 = some (39, .getfield 12, 76, 6, 0, 0) := (fe70 36).trans rfl
set_option maxRecDepth 20000 in
theorem f70_39 : gm_fetch 70 39 = some (42, .invokespecial 27, 8, 12, 0, 0) := (fe70 39).trans rfl
set_option maxRecDepth 20000 in
theorem f70_42 : gm_fetch 70 42 = some (45, .putfield 28, 78, 6, 2, 0) := (fe70 42).trans rfl
set_option maxRecDepth 20000 in
theorem f70_45 : gm_fetch 70 45 = some (46, .aload_n 0, 0, 0, 0, 0) := (fe70 45).trans rfl
set_option maxRecDepth 20000 in
theorem f70_46 : gm_fetch 70 46 = some (49, .new 32, 5, 2, 0, 0) := (fe70 46).trans rfl
set_option maxRecDepth 20000 in
theorem f70_49 : gm_fetch 70 49 = some (50, .dup, 0, 0, 0, 0) := (fe70 49).trans rfl
set_option maxRecDepth 20000 in
theorem f70_50 : gm_fetch 70 50 = some (53, .invokespecial 34, 10, 24, 1, 0) := (fe70 50).trans rfl
set_option maxRecDepth 20000 in
theorem f70_53 : gm_fetch 70 53 = some (56, .putfield 35, 79, 6, 3, 0) := (fe70 53).trans rfl
set_option maxRecDepth 20000 in
theorem f70_56 : gm_fetch 70 56 = some (57, .aload_n 0, 0, 0, 0, 0) := (fe70 56).trans rfl
set_option maxRecDepth 20000 in
theorem f70_57 : gm_fetch 70 57 = some (59, .bipush 6, 0, 0, 0, 0) := (fe70 57).trans rfl
set_option maxRecDepth 20000 in
theorem f70_59 : gm_fetch 70 59 = some (62, .anewarray 32, 5, 2, 0, 0) := (fe70 59).trans rfl
set_option maxRecDepth 20000 in
theorem f70_62 : gm_fetch 70 62 = some (65, .putfield 39, 80, 6, 4, 0) := (fe70 62).trans rfl
set_option maxRecDepth 20000 in
theorem f70_65 : gm_fetch 70 65 = some (66, .aload_n 0, 0, 0, 0, 0) := (fe70 65).trans rfl
set_option maxRecDepth 20000 in
theorem f70_66 : gm_fetch 70 66 = some (67, .iconst 4, 0, 0, 0, 0) := (fe70 66).trans rfl
set_option maxRecDepth 20000 in
theorem f70_67 : gm_fetch 70 67 = some (70, .anewarray 43, 6, 5, 0, 0) := (fe70 67).trans rfl
set_option maxRecDepth 20000 in
theorem f70_70 : gm_fetch 70 70 = some (73, .putfield 45, 81, 6, 5, 0) := (fe70 70).trans rfl
set_option maxRecDepth 20000 in
theorem f70_73 : gm_fetch 70 73 = some (74, .iconst 0, 0, 0, 0, 0) := (fe70 73).trans rfl
set_option maxRecDepth 20000 in
theorem f70_74 : gm_fetch 70 74 = some (75, .istore_n 1, 0, 0, 0, 0) := (fe70 74).trans rfl
set_option maxRecDepth 20000 in
theorem f70_75 : gm_fetch 70 75 = some (76, .iload_n 1, 0, 0, 0, 0) := (fe70 75).trans rfl
set_option maxRecDepth 20000 in
theorem f70_76 : gm_fetch 70 76 = some (78, .bipush 6, 0, 0, 0, 0) := (fe70 76).trans rfl
set_option maxRecDepth 20000 in
theorem f70_78 : gm_fetch 70 78 = some (81, .if_icmp .ge 22, 0, 100, 0, 0) := (fe70 78).trans rfl
set_option maxRecDepth 20000 in
theorem f70_81 : gm_fetch 70 81 = some (82, .aload_n 0, 0, 0, 0, 0) := (fe70 81).trans rfl
set_option maxRecDepth 20000 in
theorem f70_82 : gm_fetch 70 82 = some (85, .getfield 39, 80, 6, 4, 0) := (fe70 82).trans rfl
set_option maxRecDepth 20000 in
theorem f70_85 : gm_fetch 70 85 = some (86, .iload_n 1, 0, 0, 0, 0) := (fe70 85).trans rfl
set_option maxRecDepth 20000 in
theorem f70_86 : gm_fetch 70 86 = some (89, .new 32, 5, 2, 0, 0) := (fe70 86).trans rfl
set_option maxRecDepth 20000 in
theorem f70_89 : gm_fetch 70 89 = some (90, .dup, 0, 0, 0, 0) := (fe70 89).trans rfl
set_option maxRecDepth 20000 in
theorem f70_90 : gm_fetch 70 90 = some (93, .invokespecial 34, 10, 24, 1, 0) := (fe70 90).trans rfl
set_option maxRecDepth 20000 in
theorem f70_93 : gm_fetch 70 93 = some (94, .aastore, 0, 0, 0, 0) := (fe70 93).trans rfl
set_option maxRecDepth 20000 in
theorem f70_94 : gm_fetch 70 94 = some (97, .iinc 1 1, 0, 0, 0, 0) := (fe70 94).trans rfl
set_option maxRecDepth 20000 in
theorem f70_97 : gm_fetch 70 97 = some (100, .goto (-22), 0, 75, 0, 0) := (fe70 97).trans rfl
set_option maxRecDepth 20000 in
theorem f70_100 : gm_fetch 70 100 = some (101, .iconst 0, 0, 0, 0, 0) := (fe70 100).trans rfl
set_option maxRecDepth 20000 in
theorem f70_101 : gm_fetch 70 101 = some (102, .istore_n 1, 0, 0, 0, 0) := (fe70 101).trans rfl
set_option maxRecDepth 20000 in
theorem f70_102 : gm_fetch 70 102 = some (103, .iload_n 1, 0, 0, 0, 0) := (fe70 102).trans rfl
set_option maxRecDepth 20000 in
theorem f70_103 : gm_fetch 70 103 = some (104, .iconst 4, 0, 0, 0, 0) := (fe70 103).trans rfl
set_option maxRecDepth 20000 in
theorem f70_104 : gm_fetch 70 104 = some (107, .if_icmp .ge 22, 0, 126, 0, 0) := (fe70 104).trans rfl
set_option maxRecDepth 20000 in
theorem f70_107 : gm_fetch 70 107 = some (108, .aload_n 0, 0, 0, 0, 0) := (fe70 107).trans rfl
set_option maxRecDepth 20000 in
theorem f70_108 : gm_fetch 70 108 = some (111, .getfield 45, 81, 6, 5, 0) := (fe70 108).trans rfl
set_option maxRecDepth 20000 in
theorem f70_111 : gm_fetch 70 111 = some (112, .iload_n 1, 0, 0, 0, 0) := (fe70 111).trans rfl
set_option maxRecDepth 20000 in
theorem f70_112 : gm_fetch 70 112 = some (115, .new 43, 6, 5, 0, 0) := (fe70 112).trans rfl
set_option maxRecDepth 20000 in
theorem f70_115 : gm_fetch 70 115 = some (116, .dup, 0, 0, 0, 0) := (fe70 115).trans rfl
set_option maxRecDepth 20000 in
theorem f70_116 : gm_fetch 70 116 = some (119, .invokespecial 49, 12, 65, 1, 0) := (fe70 116).trans rfl
set_option maxRecDepth 20000 in
theorem f70_119 : gm_fetch 70 119 = some (120, .aastore, 0, 0, 0, 0) := (fe70 119).trans rfl
set_option maxRecDepth 20000 in
theorem f70_120 : gm_fetch 70 120 = some (123, .iinc 1 1, 0, 0, 0, 0) := (fe70 120).trans rfl
set_option maxRecDepth 20000 in
theorem f70_123 : gm_fetch 70 123 = some (126, .goto (-21), 0, 102, 0, 0) := (fe70 123).trans rfl
set_option maxRecDepth 20000 in
theorem f70_126 : gm_fetch 70 126 = some (127, .return_, 0, 0, 0, 0) := (fe70 126).trans rfl
theorem fe113 (pc : Nat) : gm_fetch 113 pc = gm_find pc cd_113 := rfl
set_option maxRecDepth 20000 in
theorem f113_0 : gm_fetch 113 0 = some (1, .aload_n 0, 0, 0, 0, 0) := (fe113 0).trans rfl
set_option maxRecDepth 20000 in
theorem f113_1 : gm_fetch 113 1 = some (4, .invokespecial 1, 155, 0, 3, 0) := (fe113 1).trans rfl
set_option maxRecDepth 20000 in
theorem f113_4 : gm_fetch 113 4 = some (5, .aload_n 0, 0, 0, 0, 0) := (fe113 4).trans rfl
set_option maxRecDepth 20000 in
theorem f113_5 : gm_fetch 113 5 = some (6, .iconst 4, 0, 0, 0, 0) := (fe113 5).trans rfl
set_option maxRecDepth 20000 in
theorem f113_6 : gm_fetch 113 6 = some (8, .newarray .int, 0, 0, 0, 0) := (fe113 6).trans rfl
set_option maxRecDepth 20000 in
theorem f113_8 : gm_fetch 113 8 = some (11, .putfield 7, 84, 7, 0, 0) := (fe113 8).trans rfl
set_option maxRecDepth 20000 in
theorem f113_11 : gm_fetch 113 11 = some (12, .aload_n 0, 0, 0, 0, 0) := (fe113 11).trans rfl
set_option maxRecDepth 20000 in
theorem f113_12 : gm_fetch 113 12 = some (13, .iconst 4, 0, 0, 0, 0) := (fe113 12).trans rfl
set_option maxRecDepth 20000 in
theorem f113_13 : gm_fetch 113 13 = some (15, .newarray .int, 0, 0, 0, 0) := (fe113 13).trans rfl
set_option maxRecDepth 20000 in
theorem f113_15 : gm_fetch 113 15 = some (18, .putfield 13, 85, 7, 1, 0) := (fe113 15).trans rfl
set_option maxRecDepth 20000 in
theorem f113_18 : gm_fetch 113 18 = some (19, .aload_n 0, 0, 0, 0, 0) := (fe113 18).trans rfl
set_option maxRecDepth 20000 in
theorem f113_19 : gm_fetch 113 19 = some (22, .sipush 240, 0, 0, 0, 0) := (fe113 19).trans rfl
set_option maxRecDepth 20000 in
theorem f113_22 : gm_fetch 113 22 = some (24, .newarray .int, 0, 0, 0, 0) := (fe113 22).trans rfl
set_option maxRecDepth 20000 in
theorem f113_24 : gm_fetch 113 24 = some (27, .putfield 16, 86, 7, 2, 0) := (fe113 24).trans rfl
set_option maxRecDepth 20000 in
theorem f113_27 : gm_fetch 113 27 = some (28, .aload_n 0, 0, 0, 0, 0) := (fe113 27).trans rfl
set_option maxRecDepth 20000 in
theorem f113_28 : gm_fetch 113 28 = some (30, .bipush 60, 0, 0, 0, 0) := (fe113 28).trans rfl
set_option maxRecDepth 20000 in
theorem f113_30 : gm_fetch 113 30 = some (32, .newarray .int, 0, 0, 0, 0) := (fe113 30).trans rfl
set_option maxRecDepth 20000 in
theorem f113_32 : gm_fetch 113 32 = some (35, .putfield 19, 87, 7, 3, 0) := (fe113 32).trans rfl
set_option maxRecDepth 20000 in
theorem f113_35 : gm_fetch 113 35 = some (36, .aload_n 0, 0, 0, 0, 0) := (fe113 35).trans rfl
set_option maxRecDepth 20000 in
theorem f113_36 : gm_fetch 113 36 = some (38, .bipush 7, 0, 0, 0, 0) := (fe113 36).trans rfl
set_option maxRecDepth 20000 in
theorem f113_38 : gm_fetch 113 38 = some (40, .newarray .int, 0, 0, 0, 0) := (fe113 38).trans rfl
set_option maxRecDepth 20000 in
theorem f113_40 : gm_fetch 113 40 = some (43, .putfield 22, 94, 7, 10, 0) := (fe113 40).trans rfl
set_option maxRecDepth 20000 in
theorem f113_43 : gm_fetch 113 43 = some (44, .aload_n 0, 0, 0, 0, 0) := (fe113 43).trans rfl
set_option maxRecDepth 20000 in
theorem f113_44 : gm_fetch 113 44 = some (46, .bipush 7, 0, 0, 0, 0) := (fe113 44).trans rfl
set_option maxRecDepth 20000 in
theorem f113_46 : gm_fetch 113 46 = some (48, .newarray .int, 0, 0, 0, 0) := (fe113 46).trans rfl
set_option maxRecDepth 20000 in
theorem f113_48 : gm_fetch 113 48 = some (51, .putfield 25, 96, 7, 12, 0) := (fe113 48).trans rfl
set_option maxRecDepth 20000 in
theorem f113_51 : gm_fetch 113 51 = some (52, .aload_n 0, 0, 0, 0, 0) := (fe113 51).trans rfl
set_option maxRecDepth 20000 in
theorem f113_52 : gm_fetch 113 52 = some (54, .bipush 40, 0, 0, 0, 0) := (fe113 52).trans rfl
set_option maxRecDepth 20000 in
theorem f113_54 : gm_fetch 113 54 = some (56, .newarray .int, 0, 0, 0, 0) := (fe113 54).trans rfl
set_option maxRecDepth 20000 in
theorem f113_56 : gm_fetch 113 56 = some (59, .putfield 28, 98, 7, 14, 0) := (fe113 56).trans rfl
set_option maxRecDepth 20000 in
theorem f113_59 : gm_fetch 113 59 = some (60, .aload_n 0, 0, 0, 0, 0) := (fe113 59).trans rfl
set_option maxRecDepth 20000 in
theorem f113_60 : gm_fetch 113 60 = some (63, .sipush 280, 0, 0, 0, 0) := (fe113 60).trans rfl
set_option maxRecDepth 20000 in
theorem f113_63 : gm_fetch 113 63 = some (65, .newarray .int, 0, 0, 0, 0) := (fe113 63).trans rfl
set_option maxRecDepth 20000 in
theorem f113_65 : gm_fetch 113 65 = some (68, .putfield 31, 99, 7, 15, 0) := (fe113 65).trans rfl
set_option maxRecDepth 20000 in
theorem f113_68 : gm_fetch 113 68 = some (69, .aload_n 0, 0, 0, 0, 0) := (fe113 68).trans rfl
set_option maxRecDepth 20000 in
theorem f113_69 : gm_fetch 113 69 = some (71, .bipush 40, 0, 0, 0, 0) := (fe113 69).trans rfl
set_option maxRecDepth 20000 in
theorem f113_71 : gm_fetch 113 71 = some (73, .newarray .boolean, 0, 0, 0, 0) := (fe113 71).trans rfl
set_option maxRecDepth 20000 in
theorem f113_73 : gm_fetch 113 73 = some (76, .putfield 34, 100, 7, 16, 0) := (fe113 73).trans rfl
set_option maxRecDepth 20000 in
theorem f113_76 : gm_fetch 113 76 = some (77, .aload_n 0, 0, 0, 0, 0) := (fe113 76).trans rfl
set_option maxRecDepth 20000 in
theorem f113_77 : gm_fetch 113 77 = some (80, .sipush 1600, 0, 0, 0, 0) := (fe113 77).trans rfl
set_option maxRecDepth 20000 in
theorem f113_80 : gm_fetch 113 80 = some (82, .newarray .boolean, 0, 0, 0, 0) := (fe113 80).trans rfl
set_option maxRecDepth 20000 in
theorem f113_82 : gm_fetch 113 82 = some (85, .putfield 38, 101, 7, 17, 0) := (fe113 82).trans rfl
set_option maxRecDepth 20000 in
theorem f113_85 : gm_fetch 113 85 = some (86, .aload_n 0, 0, 0, 0, 0) := (fe113 85).trans rfl
set_option maxRecDepth 20000 in
theorem f113_86 : gm_fetch 113 86 = some (88, .bipush 40, 0, 0, 0, 0) := (fe113 86).trans rfl
set_option maxRecDepth 20000 in
theorem f113_88 : gm_fetch 113 88 = some (90, .newarray .boolean, 0, 0, 0, 0) := (fe113 88).trans rfl
set_option maxRecDepth 20000 in
theorem f113_90 : gm_fetch 113 90 = some (93, .putfield 41, 103, 7, 19, 0) := (fe113 90).trans rfl
set_option maxRecDepth 20000 in
theorem f113_93 : gm_fetch 113 93 = some (94, .aload_n 0, 0, 0, 0, 0) := (fe113 93).trans rfl
set_option maxRecDepth 20000 in
theorem f113_94 : gm_fetch 113 94 = some (96, .bipush 40, 0, 0, 0, 0) := (fe113 94).trans rfl
set_option maxRecDepth 20000 in
theorem f113_96 : gm_fetch 113 96 = some (98, .newarray .boolean, 0, 0, 0, 0) := (fe113 96).trans rfl
set_option maxRecDepth 20000 in
theorem f113_98 : gm_fetch 113 98 = some (101, .putfield 44, 104, 7, 20, 0) := (fe113 98).trans rfl
set_option maxRecDepth 20000 in
theorem f113_101 : gm_fetch 113 101 = some (102, .aload_n 0, 0, 0, 0, 0) := (fe113 101).trans rfl
set_option maxRecDepth 20000 in
theorem f113_102 : gm_fetch 113 102 = some (105, .sipush 280, 0, 0, 0, 0) := (fe113 102).trans rfl
set_option maxRecDepth 20000 in
theorem f113_105 : gm_fetch 113 105 = some (107, .newarray .int, 0, 0, 0, 0) := (fe113 105).trans rfl
set_option maxRecDepth 20000 in
theorem f113_107 : gm_fetch 113 107 = some (110, .putfield 47, 105, 7, 21, 0) := (fe113 107).trans rfl
set_option maxRecDepth 20000 in
theorem f113_110 : gm_fetch 113 110 = some (111, .aload_n 0, 0, 0, 0, 0) := (fe113 110).trans rfl
set_option maxRecDepth 20000 in
theorem f113_111 : gm_fetch 113 111 = some (113, .bipush 7, 0, 0, 0, 0) := (fe113 111).trans rfl
set_option maxRecDepth 20000 in
theorem f113_113 : gm_fetch 113 113 = some (115, .newarray .int, 0, 0, 0, 0) := (fe113 113).trans rfl
set_option maxRecDepth 20000 in
theorem f113_115 : gm_fetch 113 115 = some (118, .putfield 50, 106, 7, 22, 0) := (fe113 115).trans rfl
set_option maxRecDepth 20000 in
theorem f113_118 : gm_fetch 113 118 = some (119, .aload_n 0, 0, 0, 0, 0) := (fe113 118).trans rfl
set_option maxRecDepth 20000 in
theorem f113_119 : gm_fetch 113 119 = some (121, .bipush 49, 0, 0, 0, 0) := (fe113 119).trans rfl
set_option maxRecDepth 20000 in
theorem f113_121 : gm_fetch 113 121 = some (123, .newarray .boolean, 0, 0, 0, 0) := (fe113 121).trans rfl
set_option maxRecDepth 20000 in
theorem f113_123 : gm_fetch 113 123 = some (126, .putfield 53, 107, 7, 23, 0) := (fe113 123).trans rfl
set_option maxRecDepth 20000 in
theorem f113_126 : gm_fetch 113 126 = some (127, .aload_n 0, 0, 0, 0, 0) := (fe113 126).trans rfl
set_option maxRecDepth 20000 in
theorem f113_127 : gm_fetch 113 127 = some (130, .sipush 196, 0, 0, 0, 0) := (fe113 127).trans rfl
set_option maxRecDepth 20000 in
theorem f113_130 : gm_fetch 113 130 = some (132, .newarray .boolean, 0, 0, 0, 0) := (fe113 130).trans rfl
set_option maxRecDepth 20000 in
theorem f113_132 : gm_fetch 113 132 = some (135, .putfield 56, 108, 7, 24, 0) := (fe113 132).trans rfl
set_option maxRecDepth 20000 in
theorem f113_135 : gm_fetch 113 135 = some (136, .aload_n 0, 0, 0, 0, 0) := (fe113 135).trans rfl
set_option maxRecDepth 20000 in
theorem f113_136 : gm_fetch 113 136 = some (138, .bipush 98, 0, 0, 0, 0) := (fe113 136).trans rfl
set_option maxRecDepth 20000 in
theorem f113_138 : gm_fetch 113 138 = some (140, .newarray .int, 0, 0, 0, 0) := (fe113 138).trans rfl
set_option maxRecDepth 20000 in
theorem f113_140 : gm_fetch 113 140 = some (143, .putfield 59, 109, 7, 25, 0) := (fe113 140).trans rfl
set_option maxRecDepth 20000 in
theorem f113_143 : gm_fetch 113 143 = some (144, .aload_n 0, 0, 0, 0, 0) := (fe113 143).trans rfl
set_option maxRecDepth 20000 in
theorem f113_144 : gm_fetch 113 144 = some (146, .bipush 98, 0, 0, 0, 0) := (fe113 144).trans rfl
set_option maxRecDepth 20000 in
theorem f113_146 : gm_fetch 113 146 = some (148, .newarray .int, 0, 0, 0, 0) := (fe113 146).trans rfl
set_option maxRecDepth 20000 in
theorem f113_148 : gm_fetch 113 148 = some (151, .putfield 62, 110, 7, 26, 0) := (fe113 148).trans rfl
set_option maxRecDepth 20000 in
theorem f113_151 : gm_fetch 113 151 = some (152, .aload_n 0, 0, 0, 0, 0) := (fe113 151).trans rfl
set_option maxRecDepth 20000 in
theorem f113_152 : gm_fetch 113 152 = some (154, .bipush 42, 0, 0, 0, 0) := (fe113 152).trans rfl
set_option maxRecDepth 20000 in
theorem f113_154 : gm_fetch 113 154 = some (156, .newarray .int, 0, 0, 0, 0) := (fe113 154).trans rfl
set_option maxRecDepth 20000 in
theorem f113_156 : gm_fetch 113 156 = some (159, .putfield 65, 113, 7, 29, 0) := (fe113 156).trans rfl
set_option maxRecDepth 20000 in
theorem f113_159 : gm_fetch 113 159 = some (160, .aload_n 0, 0, 0, 0, 0) := (fe113 159).trans rfl
set_option maxRecDepth 20000 in
theorem f113_160 : gm_fetch 113 160 = some (162, .bipush 6, 0, 0, 0, 0) := (fe113 160).trans rfl
set_option maxRecDepth 20000 in
theorem f113_162 : gm_fetch 113 162 = some (164, .newarray .int, 0, 0, 0, 0) := (fe113 162).trans rfl
set_option maxRecDepth 20000 in
theorem f113_164 : gm_fetch 113 164 = some (167, .putfield 68, 114, 7, 30, 0) := (fe113 164).trans rfl
set_option maxRecDepth 20000 in
theorem f113_167 : gm_fetch 113 167 = some (168, .aload_n 0, 0, 0, 0, 0) := (fe113 167).trans rfl
set_option maxRecDepth 20000 in
theorem f113_168 : gm_fetch 113 168 = some (170, .bipush 6, 0, 0, 0, 0) := (fe113 168).trans rfl
set_option maxRecDepth 20000 in
theorem f113_170 : gm_fetch 113 170 = some (172, .newarray .int, 0, 0, 0, 0) := (fe113 170).trans rfl
set_option maxRecDepth 20000 in
theorem f113_172 : gm_fetch 113 172 = some (175, .putfield 71, 115, 7, 31, 0) := (fe113 172).trans rfl
set_option maxRecDepth 20000 in
theorem f113_175 : gm_fetch 113 175 = some (176, .aload_n 0, 0, 0, 0, 0) := (fe113 175).trans rfl
set_option maxRecDepth 20000 in
theorem f113_176 : gm_fetch 113 176 = some (178, .bipush 6, 0, 0, 0, 0) := (fe113 176).trans rfl
set_option maxRecDepth 20000 in
theorem f113_178 : gm_fetch 113 178 = some (180, .newarray .int, 0, 0, 0, 0) := (fe113 178).trans rfl
set_option maxRecDepth 20000 in
theorem f113_180 : gm_fetch 113 180 = some (183, .putfield 74, 116, 7, 32, 0) := (fe113 180).trans rfl
set_option maxRecDepth 20000 in
theorem f113_183 : gm_fetch 113 183 = some (184, .iconst 0, 0, 0, 0, 0) := (fe113 183).trans rfl
set_option maxRecDepth 20000 in
theorem f113_184 : gm_fetch 113 184 = some (185, .istore_n 1, 0, 0, 0, 0) := (fe113 184).trans rfl
set_option maxRecDepth 20000 in
theorem f113_185 : gm_fetch 113 185 = some (186, .iload_n 1, 0, 0, 0, 0) := (fe113 185).trans rfl
set_option maxRecDepth 20000 in
theorem f113_186 : gm_fetch 113 186 = some (187, .iconst 4, 0, 0, 0, 0) := (fe113 186).trans rfl
set_option maxRecDepth 20000 in
theorem f113_187 : gm_fetch 113 187 = some (190, .if_icmp .ge 16, 0, 203, 0, 0) := (fe113 187).trans rfl
set_option maxRecDepth 20000 in
theorem f113_190 : gm_fetch 113 190 = some (191, .aload_n 0, 0, 0, 0, 0) := (fe113 190).trans rfl
set_option maxRecDepth 20000 in
theorem f113_191 : gm_fetch 113 191 = some (194, .getfield 7, 84, 7, 0, 0) := (fe113 191).trans rfl
set_option maxRecDepth 20000 in
theorem f113_194 : gm_fetch 113 194 = some (195, .iload_n 1, 0, 0, 0, 0) := (fe113 194).trans rfl
set_option maxRecDepth 20000 in
theorem f113_195 : gm_fetch 113 195 = some (196, .iconst (-1), 0, 0, 0, 0) := (fe113 195).trans rfl
set_option maxRecDepth 20000 in
theorem f113_196 : gm_fetch 113 196 = some (197, .iastore, 0, 0, 0, 0) := (fe113 196).trans rfl
set_option maxRecDepth 20000 in
theorem f113_197 : gm_fetch 113 197 = some (200, .iinc 1 1, 0, 0, 0, 0) := (fe113 197).trans rfl
set_option maxRecDepth 20000 in
theorem f113_200 : gm_fetch 113 200 = some (203, .goto (-15), 0, 185, 0, 0) := (fe113 200).trans rfl
set_option maxRecDepth 20000 in
theorem f113_203 : gm_fetch 113 203 = some (204, .aload_n 0, 0, 0, 0, 0) := (fe113 203).trans rfl
set_option maxRecDepth 20000 in
theorem f113_204 : gm_fetch 113 204 = some (205, .iconst 5, 0, 0, 0, 0) := (fe113 204).trans rfl
set_option maxRecDepth 20000 in
theorem f113_205 : gm_fetch 113 205 = some (208, .putfield 77, 89, 7, 5, 0) := (fe113 205).trans rfl
set_option maxRecDepth 20000 in
theorem f113_208 : gm_fetch 113 208 = some (209, .aload_n 0, 0, 0, 0, 0) := (fe113 208).trans rfl
set_option maxRecDepth 20000 in
theorem f113_209 : gm_fetch 113 209 = some (211, .bipush 6, 0, 0, 0, 0) := (fe113 209).trans rfl
set_option maxRecDepth 20000 in
theorem f113_211 : gm_fetch 113 211 = some (214, .putfield 81, 90, 7, 6, 0) := (fe113 211).trans rfl
set_option maxRecDepth 20000 in
theorem f113_214 : gm_fetch 113 214 = some (215, .aload_n 0, 0, 0, 0, 0) := (fe113 214).trans rfl
set_option maxRecDepth 20000 in
theorem f113_215 : gm_fetch 113 215 = some (216, .iconst 4, 0, 0, 0, 0) := (fe113 215).trans rfl
set_option maxRecDepth 20000 in
theorem f113_216 : gm_fetch 113 216 = some (219, .putfield 84, 91, 7, 7, 0) := (fe113 216).trans rfl
set_option maxRecDepth 20000 in
theorem f113_219 : gm_fetch 113 219 = some (220, .aload_n 0, 0, 0, 0, 0) := (fe113 219).trans rfl
set_option maxRecDepth 20000 in
theorem f113_220 : gm_fetch 113 220 = some (221, .iconst 1, 0, 0, 0, 0) := (fe113 220).trans rfl
set_option maxRecDepth 20000 in
theorem f113_221 : gm_fetch 113 221 = some (224, .putfield 87, 92, 7, 8, 0) := (fe113 221).trans rfl
set_option maxRecDepth 20000 in
theorem f113_224 : gm_fetch 113 224 = some (225, .aload_n 0, 0, 0, 0, 0) := (fe113 224).trans rfl
set_option maxRecDepth 20000 in
theorem f113_225 : gm_fetch 113 225 = some (226, .iconst 4, 0, 0, 0, 0) := (fe113 225).trans rfl
set_option maxRecDepth 20000 in
theorem f113_226 : gm_fetch 113 226 = some (229, .putfield 90, 93, 7, 9, 0) := (fe113 226).trans rfl
set_option maxRecDepth 20000 in
theorem f113_229 : gm_fetch 113 229 = some (230, .return_, 0, 0, 0, 0) := (fe113 229).trans rfl

theorem tdX0_init_0 : decs cX0_init [(0, .aload_n 0, 1), (1, .invokespecial 3, 3), (4, .aload_n 0, 1), (5, .iconst 5, 1), (6, .putfield 9, 3), (9, .aload_n 0, 1), (10, .iconst 0, 1), (11, .putfield 15, 3), (14, .aload_n 0, 1), (15, .iconst 0, 1), (16, .putfield 18, 3), (19, .aload_n 0, 1), (20, .iconst 3, 1), (21, .putfield 21, 3), (24, .aload_n 0, 1), (25, .iconst 0, 1), (26, .putfield 24, 3), (29, .aload_n 0, 1), (30, .iconst 0, 1), (31, .putfield 27, 3), (34, .aload_n 0, 1), (35, .iconst 1, 1), (36, .putfield 30, 3), (39, .aload_n 0, 1), (40, .iconst 0, 1), (41, .putfield 33, 3), (44, .aload_n 0, 1), (45, .bipush 70, 2), (47, .newarray .boolean, 2), (49, .putfield 36, 3), (52, .aload_n 0, 1), (53, .bipush 8, 2), (55, .newarray .int, 2), (57, .putfield 40, 3), (60, .aload_n 0, 1), (61, .bipush 8, 2), (63, .newarray .int, 2), (65, .putfield 44, 3), (68, .aload_n 0, 1), (69, .bipush 8, 2)] = true := by decide +kernel
theorem dX0_init_0 : decode cX0_init 0 = .ok (.aload_n 0, 1) := decs_at tdX0_init_0 0 rfl
theorem dX0_init_1 : decode cX0_init 1 = .ok (.invokespecial 3, 3) := decs_at tdX0_init_0 1 rfl
theorem dX0_init_4 : decode cX0_init 4 = .ok (.aload_n 0, 1) := decs_at tdX0_init_0 2 rfl
theorem dX0_init_5 : decode cX0_init 5 = .ok (.iconst 5, 1) := decs_at tdX0_init_0 3 rfl
theorem dX0_init_6 : decode cX0_init 6 = .ok (.putfield 9, 3) := decs_at tdX0_init_0 4 rfl
theorem dX0_init_9 : decode cX0_init 9 = .ok (.aload_n 0, 1) := decs_at tdX0_init_0 5 rfl
theorem dX0_init_10 : decode cX0_init 10 = .ok (.iconst 0, 1) := decs_at tdX0_init_0 6 rfl
theorem dX0_init_11 : decode cX0_init 11 = .ok (.putfield 15, 3) := decs_at tdX0_init_0 7 rfl
theorem dX0_init_14 : decode cX0_init 14 = .ok (.aload_n 0, 1) := decs_at tdX0_init_0 8 rfl
theorem dX0_init_15 : decode cX0_init 15 = .ok (.iconst 0, 1) := decs_at tdX0_init_0 9 rfl
theorem dX0_init_16 : decode cX0_init 16 = .ok (.putfield 18, 3) := decs_at tdX0_init_0 10 rfl
theorem dX0_init_19 : decode cX0_init 19 = .ok (.aload_n 0, 1) := decs_at tdX0_init_0 11 rfl
theorem dX0_init_20 : decode cX0_init 20 = .ok (.iconst 3, 1) := decs_at tdX0_init_0 12 rfl
theorem dX0_init_21 : decode cX0_init 21 = .ok (.putfield 21, 3) := decs_at tdX0_init_0 13 rfl
theorem dX0_init_24 : decode cX0_init 24 = .ok (.aload_n 0, 1) := decs_at tdX0_init_0 14 rfl
theorem dX0_init_25 : decode cX0_init 25 = .ok (.iconst 0, 1) := decs_at tdX0_init_0 15 rfl
theorem dX0_init_26 : decode cX0_init 26 = .ok (.putfield 24, 3) := decs_at tdX0_init_0 16 rfl
theorem dX0_init_29 : decode cX0_init 29 = .ok (.aload_n 0, 1) := decs_at tdX0_init_0 17 rfl
theorem dX0_init_30 : decode cX0_init 30 = .ok (.iconst 0, 1) := decs_at tdX0_init_0 18 rfl
theorem dX0_init_31 : decode cX0_init 31 = .ok (.putfield 27, 3) := decs_at tdX0_init_0 19 rfl
theorem dX0_init_34 : decode cX0_init 34 = .ok (.aload_n 0, 1) := decs_at tdX0_init_0 20 rfl
theorem dX0_init_35 : decode cX0_init 35 = .ok (.iconst 1, 1) := decs_at tdX0_init_0 21 rfl
theorem dX0_init_36 : decode cX0_init 36 = .ok (.putfield 30, 3) := decs_at tdX0_init_0 22 rfl
theorem dX0_init_39 : decode cX0_init 39 = .ok (.aload_n 0, 1) := decs_at tdX0_init_0 23 rfl
theorem dX0_init_40 : decode cX0_init 40 = .ok (.iconst 0, 1) := decs_at tdX0_init_0 24 rfl
theorem dX0_init_41 : decode cX0_init 41 = .ok (.putfield 33, 3) := decs_at tdX0_init_0 25 rfl
theorem dX0_init_44 : decode cX0_init 44 = .ok (.aload_n 0, 1) := decs_at tdX0_init_0 26 rfl
theorem dX0_init_45 : decode cX0_init 45 = .ok (.bipush 70, 2) := decs_at tdX0_init_0 27 rfl
theorem dX0_init_47 : decode cX0_init 47 = .ok (.newarray .boolean, 2) := decs_at tdX0_init_0 28 rfl
theorem dX0_init_49 : decode cX0_init 49 = .ok (.putfield 36, 3) := decs_at tdX0_init_0 29 rfl
theorem dX0_init_52 : decode cX0_init 52 = .ok (.aload_n 0, 1) := decs_at tdX0_init_0 30 rfl
theorem dX0_init_53 : decode cX0_init 53 = .ok (.bipush 8, 2) := decs_at tdX0_init_0 31 rfl
theorem dX0_init_55 : decode cX0_init 55 = .ok (.newarray .int, 2) := decs_at tdX0_init_0 32 rfl
theorem dX0_init_57 : decode cX0_init 57 = .ok (.putfield 40, 3) := decs_at tdX0_init_0 33 rfl
theorem dX0_init_60 : decode cX0_init 60 = .ok (.aload_n 0, 1) := decs_at tdX0_init_0 34 rfl
theorem dX0_init_61 : decode cX0_init 61 = .ok (.bipush 8, 2) := decs_at tdX0_init_0 35 rfl
theorem dX0_init_63 : decode cX0_init 63 = .ok (.newarray .int, 2) := decs_at tdX0_init_0 36 rfl
theorem dX0_init_65 : decode cX0_init 65 = .ok (.putfield 44, 3) := decs_at tdX0_init_0 37 rfl
theorem dX0_init_68 : decode cX0_init 68 = .ok (.aload_n 0, 1) := decs_at tdX0_init_0 38 rfl
theorem dX0_init_69 : decode cX0_init 69 = .ok (.bipush 8, 2) := decs_at tdX0_init_0 39 rfl
theorem tdX0_init_71 : decs cX0_init [(71, .newarray .int, 2), (73, .putfield 47, 3), (76, .aload_n 0, 1), (77, .bipush 8, 2), (79, .newarray .int, 2), (81, .putfield 50, 3), (84, .aload_n 0, 1), (85, .bipush 8, 2), (87, .newarray .int, 2), (89, .putfield 53, 3), (92, .return_, 1)] = true := by decide +kernel
theorem dX0_init_71 : decode cX0_init 71 = .ok (.newarray .int, 2) := decs_at tdX0_init_71 0 rfl
theorem dX0_init_73 : decode cX0_init 73 = .ok (.putfield 47, 3) := decs_at tdX0_init_71 1 rfl
theorem dX0_init_76 : decode cX0_init 76 = .ok (.aload_n 0, 1) := decs_at tdX0_init_71 2 rfl
theorem dX0_init_77 : decode cX0_init 77 = .ok (.bipush 8, 2) := decs_at tdX0_init_71 3 rfl
theorem dX0_init_79 : decode cX0_init 79 = .ok (.newarray .int, 2) := decs_at tdX0_init_71 4 rfl
theorem dX0_init_81 : decode cX0_init 81 = .ok (.putfield 50, 3) := decs_at tdX0_init_71 5 rfl
theorem dX0_init_84 : decode cX0_init 84 = .ok (.aload_n 0, 1) := decs_at tdX0_init_71 6 rfl
theorem dX0_init_85 : decode cX0_init 85 = .ok (.bipush 8, 2) := decs_at tdX0_init_71 7 rfl
theorem dX0_init_87 : decode cX0_init 87 = .ok (.newarray .int, 2) := decs_at tdX0_init_71 8 rfl
theorem dX0_init_89 : decode cX0_init 89 = .ok (.putfield 53, 3) := decs_at tdX0_init_71 9 rfl
theorem dX0_init_92 : decode cX0_init 92 = .ok (.return_, 1) := decs_at tdX0_init_71 10 rfl
theorem tdX0_become_0 : decs cX0_become [(0, .aload_n 0, 1), (1, .aload_n 1, 1), (2, .getfield 9, 3), (5, .putfield 9, 3), (8, .aload_n 0, 1), (9, .aload_n 1, 1), (10, .getfield 15, 3), (13, .putfield 15, 3), (16, .aload_n 0, 1), (17, .aload_n 1, 1), (18, .getfield 18, 3), (21, .putfield 18, 3), (24, .aload_n 0, 1), (25, .aload_n 1, 1), (26, .getfield 21, 3), (29, .putfield 21, 3), (32, .aload_n 0, 1), (33, .aload_n 1, 1), (34, .getfield 24, 3), (37, .putfield 24, 3), (40, .aload_n 0, 1), (41, .aload_n 1, 1), (42, .getfield 27, 3), (45, .putfield 27, 3), (48, .aload_n 0, 1), (49, .aload_n 1, 1), (50, .getfield 30, 3), (53, .putfield 30, 3), (56, .aload_n 0, 1), (57, .aload_n 1, 1), (58, .getfield 33, 3), (61, .putfield 33, 3), (64, .iconst 0, 1), (65, .istore_n 2, 1), (66, .iload_n 2, 1), (67, .bipush 70, 2), (69, .if_icmp .ge 21, 3), (72, .aload_n 0, 1), (73, .getfield 36, 3), (76, .iload_n 2, 1)] = true := by decide +kernel
theorem dX0_become_0 : decode cX0_become 0 = .ok (.aload_n 0, 1) := decs_at tdX0_become_0 0 rfl
theorem dX0_become_1 : decode cX0_become 1 = .ok (.aload_n 1, 1) := decs_at tdX0_become_0 1 rfl
theorem dX0_become_2 : decode cX0_become 2 = .ok (.getfield 9, 3) := decs_at tdX0_become_0 2 rfl
theorem dX0_become_5 : decode cX0_become 5 = .ok (.putfield 9, 3) := decs_at tdX0_become_0 3 rfl
theorem dX0_become_8 : decode cX0_become 8 = .ok (.aload_n 0, 1) := decs_at tdX0_become_0 4 rfl
theorem dX0_become_9 : decode cX0_become 9 = .ok (.aload_n 1, 1) := decs_at tdX0_become_0 5 rfl
theorem dX0_become_10 : decode cX0_become 10 = .ok (.getfield 15, 3) := decs_at tdX0_become_0 6 rfl
theorem dX0_become_13 : decode cX0_become 13 = .ok (.putfield 15, 3) := decs_at tdX0_become_0 7 rfl
theorem dX0_become_16 : decode cX0_become 16 = .ok (.aload_n 0, 1) := decs_at tdX0_become_0 8 rfl
theorem dX0_become_17 : decode cX0_become 17 = .ok (.aload_n 1, 1) := decs_at tdX0_become_0 9 rfl
theorem dX0_become_18 : decode cX0_become 18 = .ok (.getfield 18, 3) := decs_at tdX0_become_0 10 rfl
theorem dX0_become_21 : decode cX0_become 21 = .ok (.putfield 18, 3) := decs_at tdX0_become_0 11 rfl
theorem dX0_become_24 : decode cX0_become 24 = .ok (.aload_n 0, 1) := decs_at tdX0_become_0 12 rfl
theorem dX0_become_25 : decode cX0_become 25 = .ok (.aload_n 1, 1) := decs_at tdX0_become_0 13 rfl
theorem dX0_become_26 : decode cX0_become 26 = .ok (.getfield 21, 3) := decs_at tdX0_become_0 14 rfl
theorem dX0_become_29 : decode cX0_become 29 = .ok (.putfield 21, 3) := decs_at tdX0_become_0 15 rfl
theorem dX0_become_32 : decode cX0_become 32 = .ok (.aload_n 0, 1) := decs_at tdX0_become_0 16 rfl
theorem dX0_become_33 : decode cX0_become 33 = .ok (.aload_n 1, 1) := decs_at tdX0_become_0 17 rfl
theorem dX0_become_34 : decode cX0_become 34 = .ok (.getfield 24, 3) := decs_at tdX0_become_0 18 rfl
theorem dX0_become_37 : decode cX0_become 37 = .ok (.putfield 24, 3) := decs_at tdX0_become_0 19 rfl
theorem dX0_become_40 : decode cX0_become 40 = .ok (.aload_n 0, 1) := decs_at tdX0_become_0 20 rfl
theorem dX0_become_41 : decode cX0_become 41 = .ok (.aload_n 1, 1) := decs_at tdX0_become_0 21 rfl
theorem dX0_become_42 : decode cX0_become 42 = .ok (.getfield 27, 3) := decs_at tdX0_become_0 22 rfl
theorem dX0_become_45 : decode cX0_become 45 = .ok (.putfield 27, 3) := decs_at tdX0_become_0 23 rfl
theorem dX0_become_48 : decode cX0_become 48 = .ok (.aload_n 0, 1) := decs_at tdX0_become_0 24 rfl
theorem dX0_become_49 : decode cX0_become 49 = .ok (.aload_n 1, 1) := decs_at tdX0_become_0 25 rfl
theorem dX0_become_50 : decode cX0_become 50 = .ok (.getfield 30, 3) := decs_at tdX0_become_0 26 rfl
theorem dX0_become_53 : decode cX0_become 53 = .ok (.putfield 30, 3) := decs_at tdX0_become_0 27 rfl
theorem dX0_become_56 : decode cX0_become 56 = .ok (.aload_n 0, 1) := decs_at tdX0_become_0 28 rfl
theorem dX0_become_57 : decode cX0_become 57 = .ok (.aload_n 1, 1) := decs_at tdX0_become_0 29 rfl
theorem dX0_become_58 : decode cX0_become 58 = .ok (.getfield 33, 3) := decs_at tdX0_become_0 30 rfl
theorem dX0_become_61 : decode cX0_become 61 = .ok (.putfield 33, 3) := decs_at tdX0_become_0 31 rfl
theorem dX0_become_64 : decode cX0_become 64 = .ok (.iconst 0, 1) := decs_at tdX0_become_0 32 rfl
theorem dX0_become_65 : decode cX0_become 65 = .ok (.istore_n 2, 1) := decs_at tdX0_become_0 33 rfl
theorem dX0_become_66 : decode cX0_become 66 = .ok (.iload_n 2, 1) := decs_at tdX0_become_0 34 rfl
theorem dX0_become_67 : decode cX0_become 67 = .ok (.bipush 70, 2) := decs_at tdX0_become_0 35 rfl
theorem dX0_become_69 : decode cX0_become 69 = .ok (.if_icmp .ge 21, 3) := decs_at tdX0_become_0 36 rfl
theorem dX0_become_72 : decode cX0_become 72 = .ok (.aload_n 0, 1) := decs_at tdX0_become_0 37 rfl
theorem dX0_become_73 : decode cX0_become 73 = .ok (.getfield 36, 3) := decs_at tdX0_become_0 38 rfl
theorem dX0_become_76 : decode cX0_become 76 = .ok (.iload_n 2, 1) := decs_at tdX0_become_0 39 rfl
theorem tdX0_become_77 : decs cX0_become [(77, .aload_n 1, 1), (78, .getfield 36, 3), (81, .iload_n 2, 1), (82, .baload, 1), (83, .bastore, 1), (84, .iinc 2 1, 3), (87, .goto (-21), 3), (90, .iconst 0, 1), (91, .istore_n 2, 1), (92, .iload_n 2, 1), (93, .bipush 8, 2), (95, .if_icmp .ge 69, 3), (98, .aload_n 0, 1), (99, .getfield 40, 3), (102, .iload_n 2, 1), (103, .aload_n 1, 1), (104, .getfield 40, 3), (107, .iload_n 2, 1), (108, .iaload, 1), (109, .iastore, 1), (110, .aload_n 0, 1), (111, .getfield 44, 3), (114, .iload_n 2, 1), (115, .aload_n 1, 1), (116, .getfield 44, 3), (119, .iload_n 2, 1), (120, .iaload, 1), (121, .iastore, 1), (122, .aload_n 0, 1), (123, .getfield 47, 3), (126, .iload_n 2, 1), (127, .aload_n 1, 1), (128, .getfield 47, 3), (131, .iload_n 2, 1), (132, .iaload, 1), (133, .iastore, 1), (134, .aload_n 0, 1), (135, .getfield 50, 3), (138, .iload_n 2, 1), (139, .aload_n 1, 1)] = true := by decide +kernel
theorem dX0_become_77 : decode cX0_become 77 = .ok (.aload_n 1, 1) := decs_at tdX0_become_77 0 rfl
theorem dX0_become_78 : decode cX0_become 78 = .ok (.getfield 36, 3) := decs_at tdX0_become_77 1 rfl
theorem dX0_become_81 : decode cX0_become 81 = .ok (.iload_n 2, 1) := decs_at tdX0_become_77 2 rfl
theorem dX0_become_82 : decode cX0_become 82 = .ok (.baload, 1) := decs_at tdX0_become_77 3 rfl
theorem dX0_become_83 : decode cX0_become 83 = .ok (.bastore, 1) := decs_at tdX0_become_77 4 rfl
theorem dX0_become_84 : decode cX0_become 84 = .ok (.iinc 2 1, 3) := decs_at tdX0_become_77 5 rfl
theorem dX0_become_87 : decode cX0_become 87 = .ok (.goto (-21), 3) := decs_at tdX0_become_77 6 rfl
theorem dX0_become_90 : decode cX0_become 90 = .ok (.iconst 0, 1) := decs_at tdX0_become_77 7 rfl
theorem dX0_become_91 : decode cX0_become 91 = .ok (.istore_n 2, 1) := decs_at tdX0_become_77 8 rfl
theorem dX0_become_92 : decode cX0_become 92 = .ok (.iload_n 2, 1) := decs_at tdX0_become_77 9 rfl
theorem dX0_become_93 : decode cX0_become 93 = .ok (.bipush 8, 2) := decs_at tdX0_become_77 10 rfl
theorem dX0_become_95 : decode cX0_become 95 = .ok (.if_icmp .ge 69, 3) := decs_at tdX0_become_77 11 rfl
theorem dX0_become_98 : decode cX0_become 98 = .ok (.aload_n 0, 1) := decs_at tdX0_become_77 12 rfl
theorem dX0_become_99 : decode cX0_become 99 = .ok (.getfield 40, 3) := decs_at tdX0_become_77 13 rfl
theorem dX0_become_102 : decode cX0_become 102 = .ok (.iload_n 2, 1) := decs_at tdX0_become_77 14 rfl
theorem dX0_become_103 : decode cX0_become 103 = .ok (.aload_n 1, 1) := decs_at tdX0_become_77 15 rfl
theorem dX0_become_104 : decode cX0_become 104 = .ok (.getfield 40, 3) := decs_at tdX0_become_77 16 rfl
theorem dX0_become_107 : decode cX0_become 107 = .ok (.iload_n 2, 1) := decs_at tdX0_become_77 17 rfl
theorem dX0_become_108 : decode cX0_become 108 = .ok (.iaload, 1) := decs_at tdX0_become_77 18 rfl
theorem dX0_become_109 : decode cX0_become 109 = .ok (.iastore, 1) := decs_at tdX0_become_77 19 rfl
theorem dX0_become_110 : decode cX0_become 110 = .ok (.aload_n 0, 1) := decs_at tdX0_become_77 20 rfl
theorem dX0_become_111 : decode cX0_become 111 = .ok (.getfield 44, 3) := decs_at tdX0_become_77 21 rfl
theorem dX0_become_114 : decode cX0_become 114 = .ok (.iload_n 2, 1) := decs_at tdX0_become_77 22 rfl
theorem dX0_become_115 : decode cX0_become 115 = .ok (.aload_n 1, 1) := decs_at tdX0_become_77 23 rfl
theorem dX0_become_116 : decode cX0_become 116 = .ok (.getfield 44, 3) := decs_at tdX0_become_77 24 rfl
theorem dX0_become_119 : decode cX0_become 119 = .ok (.iload_n 2, 1) := decs_at tdX0_become_77 25 rfl
theorem dX0_become_120 : decode cX0_become 120 = .ok (.iaload, 1) := decs_at tdX0_become_77 26 rfl
theorem dX0_become_121 : decode cX0_become 121 = .ok (.iastore, 1) := decs_at tdX0_become_77 27 rfl
theorem dX0_become_122 : decode cX0_become 122 = .ok (.aload_n 0, 1) := decs_at tdX0_become_77 28 rfl
theorem dX0_become_123 : decode cX0_become 123 = .ok (.getfield 47, 3) := decs_at tdX0_become_77 29 rfl
theorem dX0_become_126 : decode cX0_become 126 = .ok (.iload_n 2, 1) := decs_at tdX0_become_77 30 rfl
theorem dX0_become_127 : decode cX0_become 127 = .ok (.aload_n 1, 1) := decs_at tdX0_become_77 31 rfl
theorem dX0_become_128 : decode cX0_become 128 = .ok (.getfield 47, 3) := decs_at tdX0_become_77 32 rfl
theorem dX0_become_131 : decode cX0_become 131 = .ok (.iload_n 2, 1) := decs_at tdX0_become_77 33 rfl
theorem dX0_become_132 : decode cX0_become 132 = .ok (.iaload, 1) := decs_at tdX0_become_77 34 rfl
theorem dX0_become_133 : decode cX0_become 133 = .ok (.iastore, 1) := decs_at tdX0_become_77 35 rfl
theorem dX0_become_134 : decode cX0_become 134 = .ok (.aload_n 0, 1) := decs_at tdX0_become_77 36 rfl
theorem dX0_become_135 : decode cX0_become 135 = .ok (.getfield 50, 3) := decs_at tdX0_become_77 37 rfl
theorem dX0_become_138 : decode cX0_become 138 = .ok (.iload_n 2, 1) := decs_at tdX0_become_77 38 rfl
theorem dX0_become_139 : decode cX0_become 139 = .ok (.aload_n 1, 1) := decs_at tdX0_become_77 39 rfl
theorem tdX0_become_140 : decs cX0_become [(140, .getfield 50, 3), (143, .iload_n 2, 1), (144, .iaload, 1), (145, .iastore, 1), (146, .aload_n 0, 1), (147, .getfield 53, 3), (150, .iload_n 2, 1), (151, .aload_n 1, 1), (152, .getfield 53, 3), (155, .iload_n 2, 1), (156, .iaload, 1), (157, .iastore, 1), (158, .iinc 2 1, 3), (161, .goto (-69), 3), (164, .return_, 1)] = true := by decide +kernel
theorem dX0_become_140 : decode cX0_become 140 = .ok (.getfield 50, 3) := decs_at tdX0_become_140 0 rfl
theorem dX0_become_143 : decode cX0_become 143 = .ok (.iload_n 2, 1) := decs_at tdX0_become_140 1 rfl
theorem dX0_become_144 : decode cX0_become 144 = .ok (.iaload, 1) := decs_at tdX0_become_140 2 rfl
theorem dX0_become_145 : decode cX0_become 145 = .ok (.iastore, 1) := decs_at tdX0_become_140 3 rfl
theorem dX0_become_146 : decode cX0_become 146 = .ok (.aload_n 0, 1) := decs_at tdX0_become_140 4 rfl
theorem dX0_become_147 : decode cX0_become 147 = .ok (.getfield 53, 3) := decs_at tdX0_become_140 5 rfl
theorem dX0_become_150 : decode cX0_become 150 = .ok (.iload_n 2, 1) := decs_at tdX0_become_140 6 rfl
theorem dX0_become_151 : decode cX0_become 151 = .ok (.aload_n 1, 1) := decs_at tdX0_become_140 7 rfl
theorem dX0_become_152 : decode cX0_become 152 = .ok (.getfield 53, 3) := decs_at tdX0_become_140 8 rfl
theorem dX0_become_155 : decode cX0_become 155 = .ok (.iload_n 2, 1) := decs_at tdX0_become_140 9 rfl
theorem dX0_become_156 : decode cX0_become 156 = .ok (.iaload, 1) := decs_at tdX0_become_140 10 rfl
theorem dX0_become_157 : decode cX0_become 157 = .ok (.iastore, 1) := decs_at tdX0_become_140 11 rfl
theorem dX0_become_158 : decode cX0_become 158 = .ok (.iinc 2 1, 3) := decs_at tdX0_become_140 12 rfl
theorem dX0_become_161 : decode cX0_become 161 = .ok (.goto (-69), 3) := decs_at tdX0_become_140 13 rfl
theorem dX0_become_164 : decode cX0_become 164 = .ok (.return_, 1) := decs_at tdX0_become_140 14 rfl
set_option maxRecDepth 20000 in
theorem ggX0_maySide_X5_isWithin : GoodIn wsX0_maySide wsX5_isWithin := goodIn_sub (List.forall_mem_cons.mpr ⟨(List.mem_cons_of_mem _ (List.mem_append_left _ (List.mem_of_getElem? (i := 7) rfl))), (fun _ h => absurd h List.not_mem_nil)⟩) (by decide +kernel)
set_option maxRecDepth 20000 in
theorem gX0_maySide_X5_isWithin_n62 : GoodIn wsX0_maySide (wsX5_isWithin) := ggX0_maySide_X5_isWithin
theorem tdX0_maySide_0 : decs cX0_maySide [(0, .iload_n 1, 1), (1, .aload_n 0, 1), (2, .getfield 9, 3), (5, .iconst 3, 1), (6, .invokestatic 56, 3), (9, .bipush 7, 2), (11, .invokestatic 62, 3), (14, .ireturn, 1)] = true := by decide +kernel
theorem dX0_maySide_0 : decode cX0_maySide 0 = .ok (.iload_n 1, 1) := decs_at tdX0_maySide_0 0 rfl
theorem dX0_maySide_1 : decode cX0_maySide 1 = .ok (.aload_n 0, 1) := decs_at tdX0_maySide_0 1 rfl
theorem dX0_maySide_2 : decode cX0_maySide 2 = .ok (.getfield 9, 3) := decs_at tdX0_maySide_0 2 rfl
theorem dX0_maySide_5 : decode cX0_maySide 5 = .ok (.iconst 3, 1) := decs_at tdX0_maySide_0 3 rfl
theorem dX0_maySide_6 : decode cX0_maySide 6 = .ok (.invokestatic 56, 3) := decs_at tdX0_maySide_0 4 rfl
theorem dX0_maySide_9 : decode cX0_maySide 9 = .ok (.bipush 7, 2) := decs_at tdX0_maySide_0 5 rfl
theorem dX0_maySide_11 : decode cX0_maySide 11 = .ok (.invokestatic 62, 3) := decs_at tdX0_maySide_0 6 rfl
theorem dX0_maySide_14 : decode cX0_maySide 14 = .ok (.ireturn, 1) := decs_at tdX0_maySide_0 7 rfl
theorem tdX0_isCell_0 : decs cX0_isCell [(0, .iload_n 1, 1), (1, .ifCond .lt 35, 3), (4, .iload_n 1, 1), (5, .bipush 70, 2), (7, .if_icmp .ge 29, 3), (10, .iload_n 1, 1), (11, .bipush 10, 2), (13, .idiv, 1), (14, .aload_n 0, 1), (15, .getfield 9, 3), (18, .if_icmp .ge 18, 3), (21, .iload_n 1, 1), (22, .bipush 10, 2), (24, .irem, 1), (25, .aload_n 0, 1), (26, .getfield 9, 3), (29, .if_icmp .ge 7, 3), (32, .iconst 1, 1), (33, .goto 4, 3), (36, .iconst 0, 1), (37, .ireturn, 1)] = true := by decide +kernel
theorem dX0_isCell_0 : decode cX0_isCell 0 = .ok (.iload_n 1, 1) := decs_at tdX0_isCell_0 0 rfl
theorem dX0_isCell_1 : decode cX0_isCell 1 = .ok (.ifCond .lt 35, 3) := decs_at tdX0_isCell_0 1 rfl
theorem dX0_isCell_4 : decode cX0_isCell 4 = .ok (.iload_n 1, 1) := decs_at tdX0_isCell_0 2 rfl
theorem dX0_isCell_5 : decode cX0_isCell 5 = .ok (.bipush 70, 2) := decs_at tdX0_isCell_0 3 rfl
theorem dX0_isCell_7 : decode cX0_isCell 7 = .ok (.if_icmp .ge 29, 3) := decs_at tdX0_isCell_0 4 rfl
theorem dX0_isCell_10 : decode cX0_isCell 10 = .ok (.iload_n 1, 1) := decs_at tdX0_isCell_0 5 rfl
theorem dX0_isCell_11 : decode cX0_isCell 11 = .ok (.bipush 10, 2) := decs_at tdX0_isCell_0 6 rfl
theorem dX0_isCell_13 : decode cX0_isCell 13 = .ok (.idiv, 1) := decs_at tdX0_isCell_0 7 rfl
theorem dX0_isCell_14 : decode cX0_isCell 14 = .ok (.aload_n 0, 1) := decs_at tdX0_isCell_0 8 rfl
theorem dX0_isCell_15 : decode cX0_isCell 15 = .ok (.getfield 9, 3) := decs_at tdX0_isCell_0 9 rfl
theorem dX0_isCell_18 : decode cX0_isCell 18 = .ok (.if_icmp .ge 18, 3) := decs_at tdX0_isCell_0 10 rfl
theorem dX0_isCell_21 : decode cX0_isCell 21 = .ok (.iload_n 1, 1) := decs_at tdX0_isCell_0 11 rfl
theorem dX0_isCell_22 : decode cX0_isCell 22 = .ok (.bipush 10, 2) := decs_at tdX0_isCell_0 12 rfl
theorem dX0_isCell_24 : decode cX0_isCell 24 = .ok (.irem, 1) := decs_at tdX0_isCell_0 13 rfl
theorem dX0_isCell_25 : decode cX0_isCell 25 = .ok (.aload_n 0, 1) := decs_at tdX0_isCell_0 14 rfl
theorem dX0_isCell_26 : decode cX0_isCell 26 = .ok (.getfield 9, 3) := decs_at tdX0_isCell_0 15 rfl
theorem dX0_isCell_29 : decode cX0_isCell 29 = .ok (.if_icmp .ge 7, 3) := decs_at tdX0_isCell_0 16 rfl
theorem dX0_isCell_32 : decode cX0_isCell 32 = .ok (.iconst 1, 1) := decs_at tdX0_isCell_0 17 rfl
theorem dX0_isCell_33 : decode cX0_isCell 33 = .ok (.goto 4, 3) := decs_at tdX0_isCell_0 18 rfl
theorem dX0_isCell_36 : decode cX0_isCell 36 = .ok (.iconst 0, 1) := decs_at tdX0_isCell_0 19 rfl
theorem dX0_isCell_37 : decode cX0_isCell 37 = .ok (.ireturn, 1) := decs_at tdX0_isCell_0 20 rfl
set_option maxRecDepth 20000 in
theorem pl_wsX0_hasPond_wsX00 : ∀ w ∈ wsX00, w ∈ wsX0_hasPond := fun _ h => List.mem_cons_of_mem _ (List.mem_append_right _ (h))
theorem ggX0_hasPond_X0_isCell : GoodIn wsX0_hasPond wsX0_isCell := goodIn_sub (List.forall_mem_cons.mpr ⟨(List.mem_cons_of_mem _ (List.mem_append_left _ (List.mem_of_getElem? (i := 5) rfl))), (fun w h => (List.mem_append.mp h).elim ((List.forall_mem_cons.mpr ⟨(List.mem_cons_of_mem _ (List.mem_append_left _ (List.mem_of_getElem? (i := 6) rfl))), fun _ h => absurd h List.not_mem_nil⟩) w) (pl_wsX0_hasPond_wsX00 w))⟩) (by decide +kernel)
set_option maxRecDepth 20000 in
theorem gX0_hasPond_X0_isCell : GoodIn wsX0_hasPond (wsV RX0 66 RX0 yX0_isCell wsX0_isCell) := goodIn_app (goodIn_sub (List.forall_mem_cons.mpr ⟨(List.mem_cons_of_mem _ (List.mem_append_left _ (List.mem_of_getElem? (i := 1) rfl))), List.forall_mem_cons.mpr ⟨(List.mem_cons_of_mem _ (List.mem_append_left _ (List.mem_of_getElem? (i := 2) rfl))), List.forall_mem_cons.mpr ⟨(List.mem_cons_of_mem _ (List.mem_append_left _ (List.mem_of_getElem? (i := 3) rfl))), List.forall_mem_cons.mpr ⟨(List.mem_cons_of_mem _ (List.mem_append_left _ (List.mem_of_getElem? (i := 4) rfl))), fun _ h => absurd h List.not_mem_nil⟩⟩⟩⟩) (by decide +kernel)) ggX0_hasPond_X0_isCell
theorem tdX0_hasPond_0 : decs cX0_hasPond [(0, .aload_n 0, 1), (1, .iload_n 1, 1), (2, .invokevirtual 66, 3), (5, .ifCond .eq 16, 3), (8, .aload_n 0, 1), (9, .getfield 36, 3), (12, .iload_n 1, 1), (13, .baload, 1), (14, .ifCond .eq 7, 3), (17, .iconst 1, 1), (18, .goto 4, 3), (21, .iconst 0, 1), (22, .ireturn, 1)] = true := by decide +kernel
theorem dX0_hasPond_0 : decode cX0_hasPond 0 = .ok (.aload_n 0, 1) := decs_at tdX0_hasPond_0 0 rfl
theorem dX0_hasPond_1 : decode cX0_hasPond 1 = .ok (.iload_n 1, 1) := decs_at tdX0_hasPond_0 1 rfl
theorem dX0_hasPond_2 : decode cX0_hasPond 2 = .ok (.invokevirtual 66, 3) := decs_at tdX0_hasPond_0 2 rfl
theorem dX0_hasPond_5 : decode cX0_hasPond 5 = .ok (.ifCond .eq 16, 3) := decs_at tdX0_hasPond_0 3 rfl
theorem dX0_hasPond_8 : decode cX0_hasPond 8 = .ok (.aload_n 0, 1) := decs_at tdX0_hasPond_0 4 rfl
theorem dX0_hasPond_9 : decode cX0_hasPond 9 = .ok (.getfield 36, 3) := decs_at tdX0_hasPond_0 5 rfl
theorem dX0_hasPond_12 : decode cX0_hasPond 12 = .ok (.iload_n 1, 1) := decs_at tdX0_hasPond_0 6 rfl
theorem dX0_hasPond_13 : decode cX0_hasPond 13 = .ok (.baload, 1) := decs_at tdX0_hasPond_0 7 rfl
theorem dX0_hasPond_14 : decode cX0_hasPond 14 = .ok (.ifCond .eq 7, 3) := decs_at tdX0_hasPond_0 8 rfl
theorem dX0_hasPond_17 : decode cX0_hasPond 17 = .ok (.iconst 1, 1) := decs_at tdX0_hasPond_0 9 rfl
theorem dX0_hasPond_18 : decode cX0_hasPond 18 = .ok (.goto 4, 3) := decs_at tdX0_hasPond_0 10 rfl
theorem dX0_hasPond_21 : decode cX0_hasPond 21 = .ok (.iconst 0, 1) := decs_at tdX0_hasPond_0 11 rfl
theorem dX0_hasPond_22 : decode cX0_hasPond 22 = .ok (.ireturn, 1) := decs_at tdX0_hasPond_0 12 rfl
set_option maxRecDepth 20000 in
theorem pl_wsX0_isDry_wsX00 : ∀ w ∈ wsX00, w ∈ wsX0_isDry := fun _ h => List.mem_cons_of_mem _ (List.mem_append_right _ (h))
theorem ggX0_isDry_X0_isCell : GoodIn wsX0_isDry wsX0_isCell := goodIn_sub (List.forall_mem_cons.mpr ⟨(List.mem_cons_of_mem _ (List.mem_append_left _ (List.mem_of_getElem? (i := 5) rfl))), (fun w h => (List.mem_append.mp h).elim ((List.forall_mem_cons.mpr ⟨(List.mem_cons_of_mem _ (List.mem_append_left _ (List.mem_of_getElem? (i := 6) rfl))), fun _ h => absurd h List.not_mem_nil⟩) w) (pl_wsX0_isDry_wsX00 w))⟩) (by decide +kernel)
set_option maxRecDepth 20000 in
theorem gX0_isDry_X0_isCell : GoodIn wsX0_isDry (wsV RX0 66 RX0 yX0_isCell wsX0_isCell) := goodIn_app (goodIn_sub (List.forall_mem_cons.mpr ⟨(List.mem_cons_of_mem _ (List.mem_append_left _ (List.mem_of_getElem? (i := 1) rfl))), List.forall_mem_cons.mpr ⟨(List.mem_cons_of_mem _ (List.mem_append_left _ (List.mem_of_getElem? (i := 2) rfl))), List.forall_mem_cons.mpr ⟨(List.mem_cons_of_mem _ (List.mem_append_left _ (List.mem_of_getElem? (i := 3) rfl))), List.forall_mem_cons.mpr ⟨(List.mem_cons_of_mem _ (List.mem_append_left _ (List.mem_of_getElem? (i := 4) rfl))), fun _ h => absurd h List.not_mem_nil⟩⟩⟩⟩) (by decide +kernel)) ggX0_isDry_X0_isCell
theorem tdX0_isDry_0 : decs cX0_isDry [(0, .aload_n 0, 1), (1, .iload_n 1, 1), (2, .invokevirtual 66, 3), (5, .ifCond .eq 16, 3), (8, .aload_n 0, 1), (9, .getfield 36, 3), (12, .iload_n 1, 1), (13, .baload, 1), (14, .ifCond .ne 7, 3), (17, .iconst 1, 1), (18, .goto 4, 3), (21, .iconst 0, 1), (22, .ireturn, 1)] = true := by decide +kernel
theorem dX0_isDry_0 : decode cX0_isDry 0 = .ok (.aload_n 0, 1) := decs_at tdX0_isDry_0 0 rfl
theorem dX0_isDry_1 : decode cX0_isDry 1 = .ok (.iload_n 1, 1) := decs_at tdX0_isDry_0 1 rfl
theorem dX0_isDry_2 : decode cX0_isDry 2 = .ok (.invokevirtual 66, 3) := decs_at tdX0_isDry_0 2 rfl
theorem dX0_isDry_5 : decode cX0_isDry 5 = .ok (.ifCond .eq 16, 3) := decs_at tdX0_isDry_0 3 rfl
theorem dX0_isDry_8 : decode cX0_isDry 8 = .ok (.aload_n 0, 1) := decs_at tdX0_isDry_0 4 rfl
theorem dX0_isDry_9 : decode cX0_isDry 9 = .ok (.getfield 36, 3) := decs_at tdX0_isDry_0 5 rfl
theorem dX0_isDry_12 : decode cX0_isDry 12 = .ok (.iload_n 1, 1) := decs_at tdX0_isDry_0 6 rfl
theorem dX0_isDry_13 : decode cX0_isDry 13 = .ok (.baload, 1) := decs_at tdX0_isDry_0 7 rfl
theorem dX0_isDry_14 : decode cX0_isDry 14 = .ok (.ifCond .ne 7, 3) := decs_at tdX0_isDry_0 8 rfl
theorem dX0_isDry_17 : decode cX0_isDry 17 = .ok (.iconst 1, 1) := decs_at tdX0_isDry_0 9 rfl
theorem dX0_isDry_18 : decode cX0_isDry 18 = .ok (.goto 4, 3) := decs_at tdX0_isDry_0 10 rfl
theorem dX0_isDry_21 : decode cX0_isDry 21 = .ok (.iconst 0, 1) := decs_at tdX0_isDry_0 11 rfl
theorem dX0_isDry_22 : decode cX0_isDry 22 = .ok (.ireturn, 1) := decs_at tdX0_isDry_0 12 rfl
theorem tdX0_cellAhead_0 : decs cX0_cellAhead [(0, .iload_n 1, 1), (1, .bipush 10, 2), (3, .idiv, 1), (4, .getstatic 70, 3), (7, .iload_n 2, 1), (8, .iconst 3, 1), (9, .iand, 1), (10, .iaload, 1), (11, .iadd, 1), (12, .istore_n 3, 1), (13, .iload_n 1, 1), (14, .bipush 10, 2), (16, .irem, 1), (17, .getstatic 73, 3), (20, .iload_n 2, 1), (21, .iconst 3, 1), (22, .iand, 1), (23, .iaload, 1), (24, .iadd, 1), (25, .istore 4, 2), (27, .iload_n 3, 1), (28, .ifCond .lt 29, 3), (31, .iload_n 3, 1), (32, .aload_n 0, 1), (33, .getfield 9, 3), (36, .if_icmp .ge 21, 3), (39, .iload 4, 2), (41, .ifCond .lt 16, 3), (44, .iload 4, 2), (46, .aload_n 0, 1), (47, .getfield 9, 3), (50, .if_icmp .ge 7, 3), (53, .iconst 1, 1), (54, .goto 4, 3), (57, .iconst 0, 1), (58, .istore 5, 2), (60, .iload 5, 2), (62, .ifCond .eq 13, 3), (65, .bipush 10, 2), (67, .iload_n 3, 1)] = true := by decide +kernel
theorem dX0_cellAhead_0 : decode cX0_cellAhead 0 = .ok (.iload_n 1, 1) := decs_at tdX0_cellAhead_0 0 rfl
theorem dX0_cellAhead_1 : decode cX0_cellAhead 1 = .ok (.bipush 10, 2) := decs_at tdX0_cellAhead_0 1 rfl
theorem dX0_cellAhead_3 : decode cX0_cellAhead 3 = .ok (.idiv, 1) := decs_at tdX0_cellAhead_0 2 rfl
theorem dX0_cellAhead_4 : decode cX0_cellAhead 4 = .ok (.getstatic 70, 3) := decs_at tdX0_cellAhead_0 3 rfl
theorem dX0_cellAhead_7 : decode cX0_cellAhead 7 = .ok (.iload_n 2, 1) := decs_at tdX0_cellAhead_0 4 rfl
theorem dX0_cellAhead_8 : decode cX0_cellAhead 8 = .ok (.iconst 3, 1) := decs_at tdX0_cellAhead_0 5 rfl
theorem dX0_cellAhead_9 : decode cX0_cellAhead 9 = .ok (.iand, 1) := decs_at tdX0_cellAhead_0 6 rfl
theorem dX0_cellAhead_10 : decode cX0_cellAhead 10 = .ok (.iaload, 1) := decs_at tdX0_cellAhead_0 7 rfl
theorem dX0_cellAhead_11 : decode cX0_cellAhead 11 = .ok (.iadd, 1) := decs_at tdX0_cellAhead_0 8 rfl
theorem dX0_cellAhead_12 : decode cX0_cellAhead 12 = .ok (.istore_n 3, 1) := decs_at tdX0_cellAhead_0 9 rfl
theorem dX0_cellAhead_13 : decode cX0_cellAhead 13 = .ok (.iload_n 1, 1) := decs_at tdX0_cellAhead_0 10 rfl
theorem dX0_cellAhead_14 : decode cX0_cellAhead 14 = .ok (.bipush 10, 2) := decs_at tdX0_cellAhead_0 11 rfl
theorem dX0_cellAhead_16 : decode cX0_cellAhead 16 = .ok (.irem, 1) := decs_at tdX0_cellAhead_0 12 rfl
theorem dX0_cellAhead_17 : decode cX0_cellAhead 17 = .ok (.getstatic 73, 3) := decs_at tdX0_cellAhead_0 13 rfl
theorem dX0_cellAhead_20 : decode cX0_cellAhead 20 = .ok (.iload_n 2, 1) := decs_at tdX0_cellAhead_0 14 rfl
theorem dX0_cellAhead_21 : decode cX0_cellAhead 21 = .ok (.iconst 3, 1) := decs_at tdX0_cellAhead_0 15 rfl
theorem dX0_cellAhead_22 : decode cX0_cellAhead 22 = .ok (.iand, 1) := decs_at tdX0_cellAhead_0 16 rfl
theorem dX0_cellAhead_23 : decode cX0_cellAhead 23 = .ok (.iaload, 1) := decs_at tdX0_cellAhead_0 17 rfl
theorem dX0_cellAhead_24 : decode cX0_cellAhead 24 = .ok (.iadd, 1) := decs_at tdX0_cellAhead_0 18 rfl
theorem dX0_cellAhead_25 : decode cX0_cellAhead 25 = .ok (.istore 4, 2) := decs_at tdX0_cellAhead_0 19 rfl
theorem dX0_cellAhead_27 : decode cX0_cellAhead 27 = .ok (.iload_n 3, 1) := decs_at tdX0_cellAhead_0 20 rfl
theorem dX0_cellAhead_28 : decode cX0_cellAhead 28 = .ok (.ifCond .lt 29, 3) := decs_at tdX0_cellAhead_0 21 rfl
theorem dX0_cellAhead_31 : decode cX0_cellAhead 31 = .ok (.iload_n 3, 1) := decs_at tdX0_cellAhead_0 22 rfl
theorem dX0_cellAhead_32 : decode cX0_cellAhead 32 = .ok (.aload_n 0, 1) := decs_at tdX0_cellAhead_0 23 rfl
theorem dX0_cellAhead_33 : decode cX0_cellAhead 33 = .ok (.getfield 9, 3) := decs_at tdX0_cellAhead_0 24 rfl
theorem dX0_cellAhead_36 : decode cX0_cellAhead 36 = .ok (.if_icmp .ge 21, 3) := decs_at tdX0_cellAhead_0 25 rfl
theorem dX0_cellAhead_39 : decode cX0_cellAhead 39 = .ok (.iload 4, 2) := decs_at tdX0_cellAhead_0 26 rfl
theorem dX0_cellAhead_41 : decode cX0_cellAhead 41 = .ok (.ifCond .lt 16, 3) := decs_at tdX0_cellAhead_0 27 rfl
theorem dX0_cellAhead_44 : decode cX0_cellAhead 44 = .ok (.iload 4, 2) := decs_at tdX0_cellAhead_0 28 rfl
theorem dX0_cellAhead_46 : decode cX0_cellAhead 46 = .ok (.aload_n 0, 1) := decs_at tdX0_cellAhead_0 29 rfl
theorem dX0_cellAhead_47 : decode cX0_cellAhead 47 = .ok (.getfield 9, 3) := decs_at tdX0_cellAhead_0 30 rfl
theorem dX0_cellAhead_50 : decode cX0_cellAhead 50 = .ok (.if_icmp .ge 7, 3) := decs_at tdX0_cellAhead_0 31 rfl
theorem dX0_cellAhead_53 : decode cX0_cellAhead 53 = .ok (.iconst 1, 1) := decs_at tdX0_cellAhead_0 32 rfl
theorem dX0_cellAhead_54 : decode cX0_cellAhead 54 = .ok (.goto 4, 3) := decs_at tdX0_cellAhead_0 33 rfl
theorem dX0_cellAhead_57 : decode cX0_cellAhead 57 = .ok (.iconst 0, 1) := decs_at tdX0_cellAhead_0 34 rfl
theorem dX0_cellAhead_58 : decode cX0_cellAhead 58 = .ok (.istore 5, 2) := decs_at tdX0_cellAhead_0 35 rfl
theorem dX0_cellAhead_60 : decode cX0_cellAhead 60 = .ok (.iload 5, 2) := decs_at tdX0_cellAhead_0 36 rfl
theorem dX0_cellAhead_62 : decode cX0_cellAhead 62 = .ok (.ifCond .eq 13, 3) := decs_at tdX0_cellAhead_0 37 rfl
theorem dX0_cellAhead_65 : decode cX0_cellAhead 65 = .ok (.bipush 10, 2) := decs_at tdX0_cellAhead_0 38 rfl
theorem dX0_cellAhead_67 : decode cX0_cellAhead 67 = .ok (.iload_n 3, 1) := decs_at tdX0_cellAhead_0 39 rfl
theorem tdX0_cellAhead_68 : decs cX0_cellAhead [(68, .imul, 1), (69, .iload 4, 2), (71, .iadd, 1), (72, .goto 4, 3), (75, .iconst (-1), 1), (76, .ireturn, 1)] = true := by decide +kernel
theorem dX0_cellAhead_68 : decode cX0_cellAhead 68 = .ok (.imul, 1) := decs_at tdX0_cellAhead_68 0 rfl
theorem dX0_cellAhead_69 : decode cX0_cellAhead 69 = .ok (.iload 4, 2) := decs_at tdX0_cellAhead_68 1 rfl
theorem dX0_cellAhead_71 : decode cX0_cellAhead 71 = .ok (.iadd, 1) := decs_at tdX0_cellAhead_68 2 rfl
theorem dX0_cellAhead_72 : decode cX0_cellAhead 72 = .ok (.goto 4, 3) := decs_at tdX0_cellAhead_68 3 rfl
theorem dX0_cellAhead_75 : decode cX0_cellAhead 75 = .ok (.iconst (-1), 1) := decs_at tdX0_cellAhead_68 4 rfl
theorem dX0_cellAhead_76 : decode cX0_cellAhead 76 = .ok (.ireturn, 1) := decs_at tdX0_cellAhead_68 5 rfl
set_option maxRecDepth 20000 in
theorem pl_wsX0_hasPondBeside_wsX00 : ∀ w ∈ wsX00, w ∈ wsX0_hasPondBeside := fun _ h => List.mem_cons_of_mem _ (List.mem_append_right _ (h))
theorem ggX0_hasPondBeside_X0_cellAhead : GoodIn wsX0_hasPondBeside wsX0_cellAhead := goodIn_sub (List.forall_mem_cons.mpr ⟨(List.mem_cons_of_mem _ (List.mem_append_left _ (List.mem_of_getElem? (i := 5) rfl))), (fun w h => (List.mem_append.mp h).elim ((List.forall_mem_cons.mpr ⟨(List.mem_cons_of_mem _ (List.mem_append_left _ (List.mem_of_getElem? (i := 6) rfl))), List.forall_mem_cons.mpr ⟨(List.mem_cons_of_mem _ (List.mem_append_left _ (List.mem_of_getElem? (i := 7) rfl))), List.forall_mem_cons.mpr ⟨(List.mem_cons_of_mem _ (List.mem_append_left _ (List.mem_of_getElem? (i := 8) rfl))), fun _ h => absurd h List.not_mem_nil⟩⟩⟩) w) (pl_wsX0_hasPondBeside_wsX00 w))⟩) (by decide +kernel)
set_option maxRecDepth 20000 in
theorem gX0_hasPondBeside_X0_cellAhead : GoodIn wsX0_hasPondBeside (wsV RX0 76 RX0 yX0_cellAhead wsX0_cellAhead) := goodIn_app (goodIn_sub (List.forall_mem_cons.mpr ⟨(List.mem_cons_of_mem _ (List.mem_append_left _ (List.mem_of_getElem? (i := 1) rfl))), List.forall_mem_cons.mpr ⟨(List.mem_cons_of_mem _ (List.mem_append_left _ (List.mem_of_getElem? (i := 2) rfl))), List.forall_mem_cons.mpr ⟨(List.mem_cons_of_mem _ (List.mem_append_left _ (List.mem_of_getElem? (i := 3) rfl))), List.forall_mem_cons.mpr ⟨(List.mem_cons_of_mem _ (List.mem_append_left _ (List.mem_of_getElem? (i := 4) rfl))), fun _ h => absurd h List.not_mem_nil⟩⟩⟩⟩) (by decide +kernel)) ggX0_hasPondBeside_X0_cellAhead
theorem tdX0_hasPondBeside_0 : decs cX0_hasPondBeside [(0, .iconst 0, 1), (1, .istore_n 2, 1), (2, .iload_n 2, 1), (3, .iconst 4, 1), (4, .if_icmp .ge 32, 3), (7, .aload_n 0, 1), (8, .iload_n 1, 1), (9, .iload_n 2, 1), (10, .invokevirtual 76, 3), (13, .istore_n 3, 1), (14, .iload_n 3, 1), (15, .iconst (-1), 1), (16, .if_icmp .eq 14, 3), (19, .aload_n 0, 1), (20, .getfield 36, 3), (23, .iload_n 3, 1), (24, .baload, 1), (25, .ifCond .eq 5, 3), (28, .iconst 1, 1), (29, .ireturn, 1), (30, .iinc 2 1, 3), (33, .goto (-31), 3), (36, .iconst 0, 1), (37, .ireturn, 1)] = true := by decide +kernel
theorem dX0_hasPondBeside_0 : decode cX0_hasPondBeside 0 = .ok (.iconst 0, 1) := decs_at tdX0_hasPondBeside_0 0 rfl
theorem dX0_hasPondBeside_1 : decode cX0_hasPondBeside 1 = .ok (.istore_n 2, 1) := decs_at tdX0_hasPondBeside_0 1 rfl
theorem dX0_hasPondBeside_2 : decode cX0_hasPondBeside 2 = .ok (.iload_n 2, 1) := decs_at tdX0_hasPondBeside_0 2 rfl
theorem dX0_hasPondBeside_3 : decode cX0_hasPondBeside 3 = .ok (.iconst 4, 1) := decs_at tdX0_hasPondBeside_0 3 rfl
theorem dX0_hasPondBeside_4 : decode cX0_hasPondBeside 4 = .ok (.if_icmp .ge 32, 3) := decs_at tdX0_hasPondBeside_0 4 rfl
theorem dX0_hasPondBeside_7 : decode cX0_hasPondBeside 7 = .ok (.aload_n 0, 1) := decs_at tdX0_hasPondBeside_0 5 rfl
theorem dX0_hasPondBeside_8 : decode cX0_hasPondBeside 8 = .ok (.iload_n 1, 1) := decs_at tdX0_hasPondBeside_0 6 rfl
theorem dX0_hasPondBeside_9 : decode cX0_hasPondBeside 9 = .ok (.iload_n 2, 1) := decs_at tdX0_hasPondBeside_0 7 rfl
theorem dX0_hasPondBeside_10 : decode cX0_hasPondBeside 10 = .ok (.invokevirtual 76, 3) := decs_at tdX0_hasPondBeside_0 8 rfl
theorem dX0_hasPondBeside_13 : decode cX0_hasPondBeside 13 = .ok (.istore_n 3, 1) := decs_at tdX0_hasPondBeside_0 9 rfl
theorem dX0_hasPondBeside_14 : decode cX0_hasPondBeside 14 = .ok (.iload_n 3, 1) := decs_at tdX0_hasPondBeside_0 10 rfl
theorem dX0_hasPondBeside_15 : decode cX0_hasPondBeside 15 = .ok (.iconst (-1), 1) := decs_at tdX0_hasPondBeside_0 11 rfl
theorem dX0_hasPondBeside_16 : decode cX0_hasPondBeside 16 = .ok (.if_icmp .eq 14, 3) := decs_at tdX0_hasPondBeside_0 12 rfl
theorem dX0_hasPondBeside_19 : decode cX0_hasPondBeside 19 = .ok (.aload_n 0, 1) := decs_at tdX0_hasPondBeside_0 13 rfl
theorem dX0_hasPondBeside_20 : decode cX0_hasPondBeside 20 = .ok (.getfield 36, 3) := decs_at tdX0_hasPondBeside_0 14 rfl
theorem dX0_hasPondBeside_23 : decode cX0_hasPondBeside 23 = .ok (.iload_n 3, 1) := decs_at tdX0_hasPondBeside_0 15 rfl
theorem dX0_hasPondBeside_24 : decode cX0_hasPondBeside 24 = .ok (.baload, 1) := decs_at tdX0_hasPondBeside_0 16 rfl
theorem dX0_hasPondBeside_25 : decode cX0_hasPondBeside 25 = .ok (.ifCond .eq 5, 3) := decs_at tdX0_hasPondBeside_0 17 rfl
theorem dX0_hasPondBeside_28 : decode cX0_hasPondBeside 28 = .ok (.iconst 1, 1) := decs_at tdX0_hasPondBeside_0 18 rfl
theorem dX0_hasPondBeside_29 : decode cX0_hasPondBeside 29 = .ok (.ireturn, 1) := decs_at tdX0_hasPondBeside_0 19 rfl
theorem dX0_hasPondBeside_30 : decode cX0_hasPondBeside 30 = .ok (.iinc 2 1, 3) := decs_at tdX0_hasPondBeside_0 20 rfl
theorem dX0_hasPondBeside_33 : decode cX0_hasPondBeside 33 = .ok (.goto (-31), 3) := decs_at tdX0_hasPondBeside_0 21 rfl
theorem dX0_hasPondBeside_36 : decode cX0_hasPondBeside 36 = .ok (.iconst 0, 1) := decs_at tdX0_hasPondBeside_0 22 rfl
theorem dX0_hasPondBeside_37 : decode cX0_hasPondBeside 37 = .ok (.ireturn, 1) := decs_at tdX0_hasPondBeside_0 23 rfl
set_option maxRecDepth 20000 in
theorem pl_wsX0_howManyPonds_wsX00 : ∀ w ∈ wsX00, w ∈ wsX0_howManyPonds := fun _ h => List.mem_cons_of_mem _ (List.mem_append_right _ (h))
theorem ggX0_howManyPonds_X0_hasPond : GoodIn wsX0_howManyPonds wsX0_hasPond := goodIn_sub (List.forall_mem_cons.mpr ⟨(List.mem_cons_of_mem _ (List.mem_append_left _ (List.mem_of_getElem? (i := 4) rfl))), (fun w h => (List.mem_append.mp h).elim ((List.forall_mem_cons.mpr ⟨(List.mem_cons_of_mem _ (List.mem_append_left _ (List.mem_of_getElem? (i := 5) rfl))), List.forall_mem_cons.mpr ⟨(List.mem_cons_of_mem _ (List.mem_append_left _ (List.mem_of_getElem? (i := 6) rfl))), List.forall_mem_cons.mpr ⟨(List.mem_cons_of_mem _ (List.mem_append_left _ (List.mem_of_getElem? (i := 7) rfl))), List.forall_mem_cons.mpr ⟨(List.mem_cons_of_mem _ (List.mem_append_left _ (List.mem_of_getElem? (i := 8) rfl))), List.forall_mem_cons.mpr ⟨(List.mem_cons_of_mem _ (List.mem_append_left _ (List.mem_of_getElem? (i := 3) rfl))), List.forall_mem_cons.mpr ⟨(List.mem_cons_of_mem _ (List.mem_append_left _ (List.mem_of_getElem? (i := 9) rfl))), List.forall_mem_cons.mpr ⟨(List.mem_cons_of_mem _ (List.mem_append_left _ (List.mem_of_getElem? (i := 10) rfl))), fun _ h => absurd h List.not_mem_nil⟩⟩⟩⟩⟩⟩⟩) w) (pl_wsX0_howManyPonds_wsX00 w))⟩) (by decide +kernel)
set_option maxRecDepth 20000 in
theorem gX0_howManyPonds_X0_hasPond : GoodIn wsX0_howManyPonds (wsV RX0 79 RX0 yX0_hasPond wsX0_hasPond) := goodIn_app (goodIn_sub (List.forall_mem_cons.mpr ⟨(List.mem_cons_of_mem _ (List.mem_append_left _ (List.mem_of_getElem? (i := 0) rfl))), List.forall_mem_cons.mpr ⟨(List.mem_cons_of_mem _ (List.mem_append_left _ (List.mem_of_getElem? (i := 1) rfl))), List.forall_mem_cons.mpr ⟨(List.mem_cons_of_mem _ (List.mem_append_left _ (List.mem_of_getElem? (i := 2) rfl))), List.forall_mem_cons.mpr ⟨(List.mem_cons_of_mem _ (List.mem_append_left _ (List.mem_of_getElem? (i := 3) rfl))), fun _ h => absurd h List.not_mem_nil⟩⟩⟩⟩) (by decide +kernel)) ggX0_howManyPonds_X0_hasPond
set_option maxRecDepth 20000 in
theorem ggX0_howManyPonds_X5_asNumber : GoodIn wsX0_howManyPonds wsX5_asNumber := goodIn_sub (List.forall_mem_cons.mpr ⟨(List.mem_cons_of_mem _ (List.mem_append_left _ (List.mem_of_getElem? (i := 13) rfl))), (fun _ h => absurd h List.not_mem_nil)⟩) (by decide +kernel)
set_option maxRecDepth 20000 in
theorem gX0_howManyPonds_X5_asNumber_n82 : GoodIn wsX0_howManyPonds (wsX5_asNumber) := ggX0_howManyPonds_X5_asNumber
theorem tdX0_howManyPonds_0 : decs cX0_howManyPonds [(0, .iconst 0, 1), (1, .istore_n 1, 1), (2, .iconst 0, 1), (3, .istore_n 2, 1), (4, .iload_n 2, 1), (5, .bipush 70, 2), (7, .if_icmp .ge 20, 3), (10, .iload_n 1, 1), (11, .aload_n 0, 1), (12, .iload_n 2, 1), (13, .invokevirtual 79, 3), (16, .invokestatic 82, 3), (19, .iadd, 1), (20, .istore_n 1, 1), (21, .iinc 2 1, 3), (24, .goto (-20), 3), (27, .iload_n 1, 1), (28, .ireturn, 1)] = true := by decide +kernel
theorem dX0_howManyPonds_0 : decode cX0_howManyPonds 0 = .ok (.iconst 0, 1) := decs_at tdX0_howManyPonds_0 0 rfl
theorem dX0_howManyPonds_1 : decode cX0_howManyPonds 1 = .ok (.istore_n 1, 1) := decs_at tdX0_howManyPonds_0 1 rfl
theorem dX0_howManyPonds_2 : decode cX0_howManyPonds 2 = .ok (.iconst 0, 1) := decs_at tdX0_howManyPonds_0 2 rfl
theorem dX0_howManyPonds_3 : decode cX0_howManyPonds 3 = .ok (.istore_n 2, 1) := decs_at tdX0_howManyPonds_0 3 rfl
theorem dX0_howManyPonds_4 : decode cX0_howManyPonds 4 = .ok (.iload_n 2, 1) := decs_at tdX0_howManyPonds_0 4 rfl
theorem dX0_howManyPonds_5 : decode cX0_howManyPonds 5 = .ok (.bipush 70, 2) := decs_at tdX0_howManyPonds_0 5 rfl
theorem dX0_howManyPonds_7 : decode cX0_howManyPonds 7 = .ok (.if_icmp .ge 20, 3) := decs_at tdX0_howManyPonds_0 6 rfl
theorem dX0_howManyPonds_10 : decode cX0_howManyPonds 10 = .ok (.iload_n 1, 1) := decs_at tdX0_howManyPonds_0 7 rfl
theorem dX0_howManyPonds_11 : decode cX0_howManyPonds 11 = .ok (.aload_n 0, 1) := decs_at tdX0_howManyPonds_0 8 rfl
theorem dX0_howManyPonds_12 : decode cX0_howManyPonds 12 = .ok (.iload_n 2, 1) := decs_at tdX0_howManyPonds_0 9 rfl
theorem dX0_howManyPonds_13 : decode cX0_howManyPonds 13 = .ok (.invokevirtual 79, 3) := decs_at tdX0_howManyPonds_0 10 rfl
theorem dX0_howManyPonds_16 : decode cX0_howManyPonds 16 = .ok (.invokestatic 82, 3) := decs_at tdX0_howManyPonds_0 11 rfl
theorem dX0_howManyPonds_19 : decode cX0_howManyPonds 19 = .ok (.iadd, 1) := decs_at tdX0_howManyPonds_0 12 rfl
theorem dX0_howManyPonds_20 : decode cX0_howManyPonds 20 = .ok (.istore_n 1, 1) := decs_at tdX0_howManyPonds_0 13 rfl
theorem dX0_howManyPonds_21 : decode cX0_howManyPonds 21 = .ok (.iinc 2 1, 3) := decs_at tdX0_howManyPonds_0 14 rfl
theorem dX0_howManyPonds_24 : decode cX0_howManyPonds 24 = .ok (.goto (-20), 3) := decs_at tdX0_howManyPonds_0 15 rfl
theorem dX0_howManyPonds_27 : decode cX0_howManyPonds 27 = .ok (.iload_n 1, 1) := decs_at tdX0_howManyPonds_0 16 rfl
theorem dX0_howManyPonds_28 : decode cX0_howManyPonds 28 = .ok (.ireturn, 1) := decs_at tdX0_howManyPonds_0 17 rfl
set_option maxRecDepth 20000 in
theorem ggX0_isOne_X5_isWithin : GoodIn wsX0_isOne wsX5_isWithin := goodIn_sub (List.forall_mem_cons.mpr ⟨(List.mem_cons_of_mem _ (List.mem_append_left _ (List.mem_of_getElem? (i := 3) rfl))), (fun _ h => absurd h List.not_mem_nil)⟩) (by decide +kernel)
set_option maxRecDepth 20000 in
theorem gX0_isOne_X5_isWithin_n62 : GoodIn wsX0_isOne (wsX5_isWithin) := ggX0_isOne_X5_isWithin
theorem tdX0_isOne_0 : decs cX0_isOne [(0, .iload_n 1, 1), (1, .iconst 0, 1), (2, .bipush 7, 2), (4, .invokestatic 62, 3), (7, .ifCond .eq 15, 3), (10, .iload_n 1, 1), (11, .aload_n 0, 1), (12, .getfield 33, 3), (15, .if_icmp .ge 7, 3), (18, .iconst 1, 1), (19, .goto 4, 3), (22, .iconst 0, 1), (23, .ireturn, 1)] = true := by decide +kernel
theorem dX0_isOne_0 : decode cX0_isOne 0 = .ok (.iload_n 1, 1) := decs_at tdX0_isOne_0 0 rfl
theorem dX0_isOne_1 : decode cX0_isOne 1 = .ok (.iconst 0, 1) := decs_at tdX0_isOne_0 1 rfl
theorem dX0_isOne_2 : decode cX0_isOne 2 = .ok (.bipush 7, 2) := decs_at tdX0_isOne_0 2 rfl
theorem dX0_isOne_4 : decode cX0_isOne 4 = .ok (.invokestatic 62, 3) := decs_at tdX0_isOne_0 3 rfl
theorem dX0_isOne_7 : decode cX0_isOne 7 = .ok (.ifCond .eq 15, 3) := decs_at tdX0_isOne_0 4 rfl
theorem dX0_isOne_10 : decode cX0_isOne 10 = .ok (.iload_n 1, 1) := decs_at tdX0_isOne_0 5 rfl
theorem dX0_isOne_11 : decode cX0_isOne 11 = .ok (.aload_n 0, 1) := decs_at tdX0_isOne_0 6 rfl
theorem dX0_isOne_12 : decode cX0_isOne 12 = .ok (.getfield 33, 3) := decs_at tdX0_isOne_0 7 rfl
theorem dX0_isOne_15 : decode cX0_isOne 15 = .ok (.if_icmp .ge 7, 3) := decs_at tdX0_isOne_0 8 rfl
theorem dX0_isOne_18 : decode cX0_isOne 18 = .ok (.iconst 1, 1) := decs_at tdX0_isOne_0 9 rfl
theorem dX0_isOne_19 : decode cX0_isOne 19 = .ok (.goto 4, 3) := decs_at tdX0_isOne_0 10 rfl
theorem dX0_isOne_22 : decode cX0_isOne 22 = .ok (.iconst 0, 1) := decs_at tdX0_isOne_0 11 rfl
theorem dX0_isOne_23 : decode cX0_isOne 23 = .ok (.ireturn, 1) := decs_at tdX0_isOne_0 12 rfl
theorem tdX0_isFull_0 : decs cX0_isFull [(0, .aload_n 0, 1), (1, .getfield 33, 3), (4, .bipush 8, 2), (6, .if_icmp .lt 7, 3), (9, .iconst 1, 1), (10, .goto 4, 3), (13, .iconst 0, 1), (14, .ireturn, 1)] = true := by decide +kernel
theorem dX0_isFull_0 : decode cX0_isFull 0 = .ok (.aload_n 0, 1) := decs_at tdX0_isFull_0 0 rfl
theorem dX0_isFull_1 : decode cX0_isFull 1 = .ok (.getfield 33, 3) := decs_at tdX0_isFull_0 1 rfl
theorem dX0_isFull_4 : decode cX0_isFull 4 = .ok (.bipush 8, 2) := decs_at tdX0_isFull_0 2 rfl
theorem dX0_isFull_6 : decode cX0_isFull 6 = .ok (.if_icmp .lt 7, 3) := decs_at tdX0_isFull_0 3 rfl
theorem dX0_isFull_9 : decode cX0_isFull 9 = .ok (.iconst 1, 1) := decs_at tdX0_isFull_0 4 rfl
theorem dX0_isFull_10 : decode cX0_isFull 10 = .ok (.goto 4, 3) := decs_at tdX0_isFull_0 5 rfl
theorem dX0_isFull_13 : decode cX0_isFull 13 = .ok (.iconst 0, 1) := decs_at tdX0_isFull_0 6 rfl
theorem dX0_isFull_14 : decode cX0_isFull 14 = .ok (.ireturn, 1) := decs_at tdX0_isFull_0 7 rfl
theorem tdX0_hasSomebody_0 : decs cX0_hasSomebody [(0, .iconst 0, 1), (1, .istore_n 2, 1), (2, .iload_n 2, 1), (3, .aload_n 0, 1), (4, .getfield 33, 3), (7, .if_icmp .ge 21, 3), (10, .aload_n 0, 1), (11, .getfield 47, 3), (14, .iload_n 2, 1), (15, .iaload, 1), (16, .iload_n 1, 1), (17, .if_icmp .ne 5, 3), (20, .iconst 1, 1), (21, .ireturn, 1), (22, .iinc 2 1, 3), (25, .goto (-23), 3), (28, .iconst 0, 1), (29, .ireturn, 1)] = true := by decide +kernel
theorem dX0_hasSomebody_0 : decode cX0_hasSomebody 0 = .ok (.iconst 0, 1) := decs_at tdX0_hasSomebody_0 0 rfl
theorem dX0_hasSomebody_1 : decode cX0_hasSomebody 1 = .ok (.istore_n 2, 1) := decs_at tdX0_hasSomebody_0 1 rfl
theorem dX0_hasSomebody_2 : decode cX0_hasSomebody 2 = .ok (.iload_n 2, 1) := decs_at tdX0_hasSomebody_0 2 rfl
theorem dX0_hasSomebody_3 : decode cX0_hasSomebody 3 = .ok (.aload_n 0, 1) := decs_at tdX0_hasSomebody_0 3 rfl
theorem dX0_hasSomebody_4 : decode cX0_hasSomebody 4 = .ok (.getfield 33, 3) := decs_at tdX0_hasSomebody_0 4 rfl
theorem dX0_hasSomebody_7 : decode cX0_hasSomebody 7 = .ok (.if_icmp .ge 21, 3) := decs_at tdX0_hasSomebody_0 5 rfl
theorem dX0_hasSomebody_10 : decode cX0_hasSomebody 10 = .ok (.aload_n 0, 1) := decs_at tdX0_hasSomebody_0 6 rfl
theorem dX0_hasSomebody_11 : decode cX0_hasSomebody 11 = .ok (.getfield 47, 3) := decs_at tdX0_hasSomebody_0 7 rfl
theorem dX0_hasSomebody_14 : decode cX0_hasSomebody 14 = .ok (.iload_n 2, 1) := decs_at tdX0_hasSomebody_0 8 rfl
theorem dX0_hasSomebody_15 : decode cX0_hasSomebody 15 = .ok (.iaload, 1) := decs_at tdX0_hasSomebody_0 9 rfl
theorem dX0_hasSomebody_16 : decode cX0_hasSomebody 16 = .ok (.iload_n 1, 1) := decs_at tdX0_hasSomebody_0 10 rfl
theorem dX0_hasSomebody_17 : decode cX0_hasSomebody 17 = .ok (.if_icmp .ne 5, 3) := decs_at tdX0_hasSomebody_0 11 rfl
theorem dX0_hasSomebody_20 : decode cX0_hasSomebody 20 = .ok (.iconst 1, 1) := decs_at tdX0_hasSomebody_0 12 rfl
theorem dX0_hasSomebody_21 : decode cX0_hasSomebody 21 = .ok (.ireturn, 1) := decs_at tdX0_hasSomebody_0 13 rfl
theorem dX0_hasSomebody_22 : decode cX0_hasSomebody 22 = .ok (.iinc 2 1, 3) := decs_at tdX0_hasSomebody_0 14 rfl
theorem dX0_hasSomebody_25 : decode cX0_hasSomebody 25 = .ok (.goto (-23), 3) := decs_at tdX0_hasSomebody_0 15 rfl
theorem dX0_hasSomebody_28 : decode cX0_hasSomebody 28 = .ok (.iconst 0, 1) := decs_at tdX0_hasSomebody_0 16 rfl
theorem dX0_hasSomebody_29 : decode cX0_hasSomebody 29 = .ok (.ireturn, 1) := decs_at tdX0_hasSomebody_0 17 rfl
set_option maxRecDepth 20000 in
theorem pl_wsX0_add_wsX00 : ∀ w ∈ wsX00, w ∈ wsX0_add := fun _ h => List.mem_cons_of_mem _ (List.mem_append_right _ (h))
theorem ggX0_add_X0_isFull : GoodIn wsX0_add wsX0_isFull := goodIn_sub (List.forall_mem_cons.mpr ⟨(List.mem_cons_of_mem _ (List.mem_append_left _ (List.mem_of_getElem? (i := 10) rfl))), (fun w h => (List.mem_append.mp h).elim ((List.forall_mem_cons.mpr ⟨(List.mem_cons_of_mem _ (List.mem_append_left _ (List.mem_of_getElem? (i := 0) rfl))), fun _ h => absurd h List.not_mem_nil⟩) w) (pl_wsX0_add_wsX00 w))⟩) (by decide +kernel)
set_option maxRecDepth 20000 in
theorem gX0_add_X0_isFull : GoodIn wsX0_add (wsV RX0 86 RX0 yX0_isFull wsX0_isFull) := goodIn_app (goodIn_sub (List.forall_mem_cons.mpr ⟨(List.mem_cons_of_mem _ (List.mem_append_left _ (List.mem_of_getElem? (i := 6) rfl))), List.forall_mem_cons.mpr ⟨(List.mem_cons_of_mem _ (List.mem_append_left _ (List.mem_of_getElem? (i := 7) rfl))), List.forall_mem_cons.mpr ⟨(List.mem_cons_of_mem _ (List.mem_append_left _ (List.mem_of_getElem? (i := 8) rfl))), List.forall_mem_cons.mpr ⟨(List.mem_cons_of_mem _ (List.mem_append_left _ (List.mem_of_getElem? (i := 9) rfl))), fun _ h => absurd h List.not_mem_nil⟩⟩⟩⟩) (by decide +kernel)) ggX0_add_X0_isFull
theorem tdX0_add_0 : decs cX0_add [(0, .aload_n 0, 1), (1, .invokevirtual 86, 3), (4, .ifCond .eq 5, 3), (7, .iconst (-1), 1), (8, .ireturn, 1), (9, .aload_n 0, 1), (10, .getfield 33, 3), (13, .istore 5, 2), (15, .aload_n 0, 1), (16, .getfield 40, 3), (19, .iload 5, 2), (21, .iload_n 1, 1), (22, .iastore, 1), (23, .aload_n 0, 1), (24, .getfield 44, 3), (27, .iload 5, 2), (29, .iload_n 2, 1), (30, .iastore, 1), (31, .aload_n 0, 1), (32, .getfield 47, 3), (35, .iload 5, 2), (37, .iload_n 3, 1), (38, .iastore, 1), (39, .aload_n 0, 1), (40, .getfield 50, 3), (43, .iload 5, 2), (45, .iload 4, 2), (47, .iastore, 1), (48, .aload_n 0, 1), (49, .getfield 53, 3), (52, .iload 5, 2), (54, .iconst 0, 1), (55, .iastore, 1), (56, .aload_n 0, 1), (57, .dup, 1), (58, .getfield 33, 3), (61, .iconst 1, 1), (62, .iadd, 1), (63, .putfield 33, 3), (66, .iload 5, 2)] = true := by decide +kernel
theorem dX0_add_0 : decode cX0_add 0 = .ok (.aload_n 0, 1) := decs_at tdX0_add_0 0 rfl
theorem dX0_add_1 : decode cX0_add 1 = .ok (.invokevirtual 86, 3) := decs_at tdX0_add_0 1 rfl
theorem dX0_add_4 : decode cX0_add 4 = .ok (.ifCond .eq 5, 3) := decs_at tdX0_add_0 2 rfl
theorem dX0_add_7 : decode cX0_add 7 = .ok (.iconst (-1), 1) := decs_at tdX0_add_0 3 rfl
theorem dX0_add_8 : decode cX0_add 8 = .ok (.ireturn, 1) := decs_at tdX0_add_0 4 rfl
theorem dX0_add_9 : decode cX0_add 9 = .ok (.aload_n 0, 1) := decs_at tdX0_add_0 5 rfl
theorem dX0_add_10 : decode cX0_add 10 = .ok (.getfield 33, 3) := decs_at tdX0_add_0 6 rfl
theorem dX0_add_13 : decode cX0_add 13 = .ok (.istore 5, 2) := decs_at tdX0_add_0 7 rfl
theorem dX0_add_15 : decode cX0_add 15 = .ok (.aload_n 0, 1) := decs_at tdX0_add_0 8 rfl
theorem dX0_add_16 : decode cX0_add 16 = .ok (.getfield 40, 3) := decs_at tdX0_add_0 9 rfl
theorem dX0_add_19 : decode cX0_add 19 = .ok (.iload 5, 2) := decs_at tdX0_add_0 10 rfl
theorem dX0_add_21 : decode cX0_add 21 = .ok (.iload_n 1, 1) := decs_at tdX0_add_0 11 rfl
theorem dX0_add_22 : decode cX0_add 22 = .ok (.iastore, 1) := decs_at tdX0_add_0 12 rfl
theorem dX0_add_23 : decode cX0_add 23 = .ok (.aload_n 0, 1) := decs_at tdX0_add_0 13 rfl
theorem dX0_add_24 : decode cX0_add 24 = .ok (.getfield 44, 3) := decs_at tdX0_add_0 14 rfl
theorem dX0_add_27 : decode cX0_add 27 = .ok (.iload 5, 2) := decs_at tdX0_add_0 15 rfl
theorem dX0_add_29 : decode cX0_add 29 = .ok (.iload_n 2, 1) := decs_at tdX0_add_0 16 rfl
theorem dX0_add_30 : decode cX0_add 30 = .ok (.iastore, 1) := decs_at tdX0_add_0 17 rfl
theorem dX0_add_31 : decode cX0_add 31 = .ok (.aload_n 0, 1) := decs_at tdX0_add_0 18 rfl
theorem dX0_add_32 : decode cX0_add 32 = .ok (.getfield 47, 3) := decs_at tdX0_add_0 19 rfl
theorem dX0_add_35 : decode cX0_add 35 = .ok (.iload 5, 2) := decs_at tdX0_add_0 20 rfl
theorem dX0_add_37 : decode cX0_add 37 = .ok (.iload_n 3, 1) := decs_at tdX0_add_0 21 rfl
theorem dX0_add_38 : decode cX0_add 38 = .ok (.iastore, 1) := decs_at tdX0_add_0 22 rfl
theorem dX0_add_39 : decode cX0_add 39 = .ok (.aload_n 0, 1) := decs_at tdX0_add_0 23 rfl
theorem dX0_add_40 : decode cX0_add 40 = .ok (.getfield 50, 3) := decs_at tdX0_add_0 24 rfl
theorem dX0_add_43 : decode cX0_add 43 = .ok (.iload 5, 2) := decs_at tdX0_add_0 25 rfl
theorem dX0_add_45 : decode cX0_add 45 = .ok (.iload 4, 2) := decs_at tdX0_add_0 26 rfl
theorem dX0_add_47 : decode cX0_add 47 = .ok (.iastore, 1) := decs_at tdX0_add_0 27 rfl
theorem dX0_add_48 : decode cX0_add 48 = .ok (.aload_n 0, 1) := decs_at tdX0_add_0 28 rfl
theorem dX0_add_49 : decode cX0_add 49 = .ok (.getfield 53, 3) := decs_at tdX0_add_0 29 rfl
theorem dX0_add_52 : decode cX0_add 52 = .ok (.iload 5, 2) := decs_at tdX0_add_0 30 rfl
theorem dX0_add_54 : decode cX0_add 54 = .ok (.iconst 0, 1) := decs_at tdX0_add_0 31 rfl
theorem dX0_add_55 : decode cX0_add 55 = .ok (.iastore, 1) := decs_at tdX0_add_0 32 rfl
theorem dX0_add_56 : decode cX0_add 56 = .ok (.aload_n 0, 1) := decs_at tdX0_add_0 33 rfl
theorem dX0_add_57 : decode cX0_add 57 = .ok (.dup, 1) := decs_at tdX0_add_0 34 rfl
theorem dX0_add_58 : decode cX0_add 58 = .ok (.getfield 33, 3) := decs_at tdX0_add_0 35 rfl
theorem dX0_add_61 : decode cX0_add 61 = .ok (.iconst 1, 1) := decs_at tdX0_add_0 36 rfl
theorem dX0_add_62 : decode cX0_add 62 = .ok (.iadd, 1) := decs_at tdX0_add_0 37 rfl
theorem dX0_add_63 : decode cX0_add 63 = .ok (.putfield 33, 3) := decs_at tdX0_add_0 38 rfl
theorem dX0_add_66 : decode cX0_add 66 = .ok (.iload 5, 2) := decs_at tdX0_add_0 39 rfl
theorem tdX0_add_68 : decs cX0_add [(68, .ireturn, 1)] = true := by decide +kernel
theorem dX0_add_68 : decode cX0_add 68 = .ok (.ireturn, 1) := decs_at tdX0_add_68 0 rfl
theorem tdX0_weightOf_0 : decs cX0_weightOf [(0, .iconst 0, 1), (1, .istore_n 2, 1), (2, .iconst 0, 1), (3, .istore_n 3, 1), (4, .iload_n 3, 1), (5, .aload_n 0, 1), (6, .getfield 33, 3), (9, .if_icmp .ge 27, 3), (12, .iload_n 1, 1), (13, .iload_n 3, 1), (14, .ishr, 1), (15, .iconst 1, 1), (16, .iand, 1), (17, .iconst 1, 1), (18, .if_icmp .ne 12, 3), (21, .iload_n 2, 1), (22, .aload_n 0, 1), (23, .getfield 44, 3), (26, .iload_n 3, 1), (27, .iaload, 1), (28, .iadd, 1), (29, .istore_n 2, 1), (30, .iinc 3 1, 3), (33, .goto (-29), 3), (36, .iload_n 2, 1), (37, .ireturn, 1)] = true := by decide +kernel
theorem dX0_weightOf_0 : decode cX0_weightOf 0 = .ok (.iconst 0, 1) := decs_at tdX0_weightOf_0 0 rfl
theorem dX0_weightOf_1 : decode cX0_weightOf 1 = .ok (.istore_n 2, 1) := decs_at tdX0_weightOf_0 1 rfl
theorem dX0_weightOf_2 : decode cX0_weightOf 2 = .ok (.iconst 0, 1) := decs_at tdX0_weightOf_0 2 rfl
theorem dX0_weightOf_3 : decode cX0_weightOf 3 = .ok (.istore_n 3, 1) := decs_at tdX0_weightOf_0 3 rfl
theorem dX0_weightOf_4 : decode cX0_weightOf 4 = .ok (.iload_n 3, 1) := decs_at tdX0_weightOf_0 4 rfl
theorem dX0_weightOf_5 : decode cX0_weightOf 5 = .ok (.aload_n 0, 1) := decs_at tdX0_weightOf_0 5 rfl
theorem dX0_weightOf_6 : decode cX0_weightOf 6 = .ok (.getfield 33, 3) := decs_at tdX0_weightOf_0 6 rfl
theorem dX0_weightOf_9 : decode cX0_weightOf 9 = .ok (.if_icmp .ge 27, 3) := decs_at tdX0_weightOf_0 7 rfl
theorem dX0_weightOf_12 : decode cX0_weightOf 12 = .ok (.iload_n 1, 1) := decs_at tdX0_weightOf_0 8 rfl
theorem dX0_weightOf_13 : decode cX0_weightOf 13 = .ok (.iload_n 3, 1) := decs_at tdX0_weightOf_0 9 rfl
theorem dX0_weightOf_14 : decode cX0_weightOf 14 = .ok (.ishr, 1) := decs_at tdX0_weightOf_0 10 rfl
theorem dX0_weightOf_15 : decode cX0_weightOf 15 = .ok (.iconst 1, 1) := decs_at tdX0_weightOf_0 11 rfl
theorem dX0_weightOf_16 : decode cX0_weightOf 16 = .ok (.iand, 1) := decs_at tdX0_weightOf_0 12 rfl
theorem dX0_weightOf_17 : decode cX0_weightOf 17 = .ok (.iconst 1, 1) := decs_at tdX0_weightOf_0 13 rfl
theorem dX0_weightOf_18 : decode cX0_weightOf 18 = .ok (.if_icmp .ne 12, 3) := decs_at tdX0_weightOf_0 14 rfl
theorem dX0_weightOf_21 : decode cX0_weightOf 21 = .ok (.iload_n 2, 1) := decs_at tdX0_weightOf_0 15 rfl
theorem dX0_weightOf_22 : decode cX0_weightOf 22 = .ok (.aload_n 0, 1) := decs_at tdX0_weightOf_0 16 rfl
theorem dX0_weightOf_23 : decode cX0_weightOf 23 = .ok (.getfield 44, 3) := decs_at tdX0_weightOf_0 17 rfl
theorem dX0_weightOf_26 : decode cX0_weightOf 26 = .ok (.iload_n 3, 1) := decs_at tdX0_weightOf_0 18 rfl
theorem dX0_weightOf_27 : decode cX0_weightOf 27 = .ok (.iaload, 1) := decs_at tdX0_weightOf_0 19 rfl
theorem dX0_weightOf_28 : decode cX0_weightOf 28 = .ok (.iadd, 1) := decs_at tdX0_weightOf_0 20 rfl
theorem dX0_weightOf_29 : decode cX0_weightOf 29 = .ok (.istore_n 2, 1) := decs_at tdX0_weightOf_0 21 rfl
theorem dX0_weightOf_30 : decode cX0_weightOf 30 = .ok (.iinc 3 1, 3) := decs_at tdX0_weightOf_0 22 rfl
theorem dX0_weightOf_33 : decode cX0_weightOf 33 = .ok (.goto (-29), 3) := decs_at tdX0_weightOf_0 23 rfl
theorem dX0_weightOf_36 : decode cX0_weightOf 36 = .ok (.iload_n 2, 1) := decs_at tdX0_weightOf_0 24 rfl
theorem dX0_weightOf_37 : decode cX0_weightOf 37 = .ok (.ireturn, 1) := decs_at tdX0_weightOf_0 25 rfl
set_option maxRecDepth 20000 in
theorem pl_wsX0_powerOf_wsX00 : ∀ w ∈ wsX00, w ∈ wsX0_powerOf := fun _ h => List.mem_cons_of_mem _ (List.mem_append_right _ (h))
theorem ggX0_powerOf_X0_weightOf : GoodIn wsX0_powerOf wsX0_weightOf := goodIn_sub (List.forall_mem_cons.mpr ⟨(List.mem_cons_of_mem _ (List.mem_append_left _ (List.mem_of_getElem? (i := 6) rfl))), (fun w h => (List.mem_append.mp h).elim ((List.forall_mem_cons.mpr ⟨(List.mem_cons_of_mem _ (List.mem_append_left _ (List.mem_of_getElem? (i := 0) rfl))), List.forall_mem_cons.mpr ⟨(List.mem_cons_of_mem _ (List.mem_append_left _ (List.mem_of_getElem? (i := 1) rfl))), fun _ h => absurd h List.not_mem_nil⟩⟩) w) (pl_wsX0_powerOf_wsX00 w))⟩) (by decide +kernel)
set_option maxRecDepth 20000 in
theorem gX0_powerOf_X0_weightOf : GoodIn wsX0_powerOf (wsV RX0 90 RX0 yX0_weightOf wsX0_weightOf) := goodIn_app (goodIn_sub (List.forall_mem_cons.mpr ⟨(List.mem_cons_of_mem _ (List.mem_append_left _ (List.mem_of_getElem? (i := 2) rfl))), List.forall_mem_cons.mpr ⟨(List.mem_cons_of_mem _ (List.mem_append_left _ (List.mem_of_getElem? (i := 3) rfl))), List.forall_mem_cons.mpr ⟨(List.mem_cons_of_mem _ (List.mem_append_left _ (List.mem_of_getElem? (i := 4) rfl))), List.forall_mem_cons.mpr ⟨(List.mem_cons_of_mem _ (List.mem_append_left _ (List.mem_of_getElem? (i := 5) rfl))), fun _ h => absurd h List.not_mem_nil⟩⟩⟩⟩) (by decide +kernel)) ggX0_powerOf_X0_weightOf
set_option maxRecDepth 20000 in
theorem ggX0_powerOf_X5_asNumber : GoodIn wsX0_powerOf wsX5_asNumber := goodIn_sub (List.forall_mem_cons.mpr ⟨(List.mem_cons_of_mem _ (List.mem_append_left _ (List.mem_of_getElem? (i := 9) rfl))), (fun _ h => absurd h List.not_mem_nil)⟩) (by decide +kernel)
set_option maxRecDepth 20000 in
theorem gX0_powerOf_X5_asNumber_n82 : GoodIn wsX0_powerOf (wsX5_asNumber) := ggX0_powerOf_X5_asNumber
theorem tdX0_powerOf_0 : decs cX0_powerOf [(0, .iconst 1, 1), (1, .aload_n 0, 1), (2, .getfield 33, 3), (5, .ishl, 1), (6, .istore_n 2, 1), (7, .aload_n 0, 1), (8, .iload_n 2, 1), (9, .iconst 1, 1), (10, .isub, 1), (11, .invokevirtual 90, 3), (14, .istore_n 3, 1), (15, .iconst 0, 1), (16, .istore 4, 2), (18, .iconst 0, 1), (19, .istore 5, 2), (21, .iload 5, 2), (23, .iload_n 2, 1), (24, .if_icmp .ge 66, 3), (27, .iload 5, 2), (29, .iload_n 1, 1), (30, .ishr, 1), (31, .iconst 1, 1), (32, .iand, 1), (33, .ifCond .ne 51, 3), (36, .aload_n 0, 1), (37, .iload 5, 2), (39, .invokevirtual 90, 3), (42, .istore 6, 2), (44, .iload 6, 2), (46, .aload_n 0, 1), (47, .getfield 44, 3), (50, .iload_n 1, 1), (51, .iaload, 1), (52, .iadd, 1), (53, .istore 7, 2), (55, .iload 4, 2), (57, .iconst 2, 1), (58, .iload 6, 2), (60, .imul, 1), (61, .iload_n 3, 1)] = true := by decide +kernel
theorem dX0_powerOf_0 : decode cX0_powerOf 0 = .ok (.iconst 1, 1) := decs_at tdX0_powerOf_0 0 rfl
theorem dX0_powerOf_1 : decode cX0_powerOf 1 = .ok (.aload_n 0, 1) := decs_at tdX0_powerOf_0 1 rfl
theorem dX0_powerOf_2 : decode cX0_powerOf 2 = .ok (.getfield 33, 3) := decs_at tdX0_powerOf_0 2 rfl
theorem dX0_powerOf_5 : decode cX0_powerOf 5 = .ok (.ishl, 1) := decs_at tdX0_powerOf_0 3 rfl
theorem dX0_powerOf_6 : decode cX0_powerOf 6 = .ok (.istore_n 2, 1) := decs_at tdX0_powerOf_0 4 rfl
theorem dX0_powerOf_7 : decode cX0_powerOf 7 = .ok (.aload_n 0, 1) := decs_at tdX0_powerOf_0 5 rfl
theorem dX0_powerOf_8 : decode cX0_powerOf 8 = .ok (.iload_n 2, 1) := decs_at tdX0_powerOf_0 6 rfl
theorem dX0_powerOf_9 : decode cX0_powerOf 9 = .ok (.iconst 1, 1) := decs_at tdX0_powerOf_0 7 rfl
theorem dX0_powerOf_10 : decode cX0_powerOf 10 = .ok (.isub, 1) := decs_at tdX0_powerOf_0 8 rfl
theorem dX0_powerOf_11 : decode cX0_powerOf 11 = .ok (.invokevirtual 90, 3) := decs_at tdX0_powerOf_0 9 rfl
theorem dX0_powerOf_14 : decode cX0_powerOf 14 = .ok (.istore_n 3, 1) := decs_at tdX0_powerOf_0 10 rfl
theorem dX0_powerOf_15 : decode cX0_powerOf 15 = .ok (.iconst 0, 1) := decs_at tdX0_powerOf_0 11 rfl
theorem dX0_powerOf_16 : decode cX0_powerOf 16 = .ok (.istore 4, 2) := decs_at tdX0_powerOf_0 12 rfl
theorem dX0_powerOf_18 : decode cX0_powerOf 18 = .ok (.iconst 0, 1) := decs_at tdX0_powerOf_0 13 rfl
theorem dX0_powerOf_19 : decode cX0_powerOf 19 = .ok (.istore 5, 2) := decs_at tdX0_powerOf_0 14 rfl
theorem dX0_powerOf_21 : decode cX0_powerOf 21 = .ok (.iload 5, 2) := decs_at tdX0_powerOf_0 15 rfl
theorem dX0_powerOf_23 : decode cX0_powerOf 23 = .ok (.iload_n 2, 1) := decs_at tdX0_powerOf_0 16 rfl
theorem dX0_powerOf_24 : decode cX0_powerOf 24 = .ok (.if_icmp .ge 66, 3) := decs_at tdX0_powerOf_0 17 rfl
theorem dX0_powerOf_27 : decode cX0_powerOf 27 = .ok (.iload 5, 2) := decs_at tdX0_powerOf_0 18 rfl
theorem dX0_powerOf_29 : decode cX0_powerOf 29 = .ok (.iload_n 1, 1) := decs_at tdX0_powerOf_0 19 rfl
theorem dX0_powerOf_30 : decode cX0_powerOf 30 = .ok (.ishr, 1) := decs_at tdX0_powerOf_0 20 rfl
theorem dX0_powerOf_31 : decode cX0_powerOf 31 = .ok (.iconst 1, 1) := decs_at tdX0_powerOf_0 21 rfl
theorem dX0_powerOf_32 : decode cX0_powerOf 32 = .ok (.iand, 1) := decs_at tdX0_powerOf_0 22 rfl
theorem dX0_powerOf_33 : decode cX0_powerOf 33 = .ok (.ifCond .ne 51, 3) := decs_at tdX0_powerOf_0 23 rfl
theorem dX0_powerOf_36 : decode cX0_powerOf 36 = .ok (.aload_n 0, 1) := decs_at tdX0_powerOf_0 24 rfl
theorem dX0_powerOf_37 : decode cX0_powerOf 37 = .ok (.iload 5, 2) := decs_at tdX0_powerOf_0 25 rfl
theorem dX0_powerOf_39 : decode cX0_powerOf 39 = .ok (.invokevirtual 90, 3) := decs_at tdX0_powerOf_0 26 rfl
theorem dX0_powerOf_42 : decode cX0_powerOf 42 = .ok (.istore 6, 2) := decs_at tdX0_powerOf_0 27 rfl
theorem dX0_powerOf_44 : decode cX0_powerOf 44 = .ok (.iload 6, 2) := decs_at tdX0_powerOf_0 28 rfl
theorem dX0_powerOf_46 : decode cX0_powerOf 46 = .ok (.aload_n 0, 1) := decs_at tdX0_powerOf_0 29 rfl
theorem dX0_powerOf_47 : decode cX0_powerOf 47 = .ok (.getfield 44, 3) := decs_at tdX0_powerOf_0 30 rfl
theorem dX0_powerOf_50 : decode cX0_powerOf 50 = .ok (.iload_n 1, 1) := decs_at tdX0_powerOf_0 31 rfl
theorem dX0_powerOf_51 : decode cX0_powerOf 51 = .ok (.iaload, 1) := decs_at tdX0_powerOf_0 32 rfl
theorem dX0_powerOf_52 : decode cX0_powerOf 52 = .ok (.iadd, 1) := decs_at tdX0_powerOf_0 33 rfl
theorem dX0_powerOf_53 : decode cX0_powerOf 53 = .ok (.istore 7, 2) := decs_at tdX0_powerOf_0 34 rfl
theorem dX0_powerOf_55 : decode cX0_powerOf 55 = .ok (.iload 4, 2) := decs_at tdX0_powerOf_0 35 rfl
theorem dX0_powerOf_57 : decode cX0_powerOf 57 = .ok (.iconst 2, 1) := decs_at tdX0_powerOf_0 36 rfl
theorem dX0_powerOf_58 : decode cX0_powerOf 58 = .ok (.iload 6, 2) := decs_at tdX0_powerOf_0 37 rfl
theorem dX0_powerOf_60 : decode cX0_powerOf 60 = .ok (.imul, 1) := decs_at tdX0_powerOf_0 38 rfl
theorem dX0_powerOf_61 : decode cX0_powerOf 61 = .ok (.iload_n 3, 1) := decs_at tdX0_powerOf_0 39 rfl
theorem tdX0_powerOf_62 : decs cX0_powerOf [(62, .if_icmp .gt 15, 3), (65, .iconst 2, 1), (66, .iload 7, 2), (68, .imul, 1), (69, .iload_n 3, 1), (70, .if_icmp .le 7, 3), (73, .iconst 1, 1), (74, .goto 4, 3), (77, .iconst 0, 1), (78, .invokestatic 82, 3), (81, .iadd, 1), (82, .istore 4, 2), (84, .iinc 5 1, 3), (87, .goto (-66), 3), (90, .iload 4, 2), (92, .ireturn, 1)] = true := by decide +kernel
theorem dX0_powerOf_62 : decode cX0_powerOf 62 = .ok (.if_icmp .gt 15, 3) := decs_at tdX0_powerOf_62 0 rfl
theorem dX0_powerOf_65 : decode cX0_powerOf 65 = .ok (.iconst 2, 1) := decs_at tdX0_powerOf_62 1 rfl
theorem dX0_powerOf_66 : decode cX0_powerOf 66 = .ok (.iload 7, 2) := decs_at tdX0_powerOf_62 2 rfl
theorem dX0_powerOf_68 : decode cX0_powerOf 68 = .ok (.imul, 1) := decs_at tdX0_powerOf_62 3 rfl
theorem dX0_powerOf_69 : decode cX0_powerOf 69 = .ok (.iload_n 3, 1) := decs_at tdX0_powerOf_62 4 rfl
theorem dX0_powerOf_70 : decode cX0_powerOf 70 = .ok (.if_icmp .le 7, 3) := decs_at tdX0_powerOf_62 5 rfl
theorem dX0_powerOf_73 : decode cX0_powerOf 73 = .ok (.iconst 1, 1) := decs_at tdX0_powerOf_62 6 rfl
theorem dX0_powerOf_74 : decode cX0_powerOf 74 = .ok (.goto 4, 3) := decs_at tdX0_powerOf_62 7 rfl
theorem dX0_powerOf_77 : decode cX0_powerOf 77 = .ok (.iconst 0, 1) := decs_at tdX0_powerOf_62 8 rfl
theorem dX0_powerOf_78 : decode cX0_powerOf 78 = .ok (.invokestatic 82, 3) := decs_at tdX0_powerOf_62 9 rfl
theorem dX0_powerOf_81 : decode cX0_powerOf 81 = .ok (.iadd, 1) := decs_at tdX0_powerOf_62 10 rfl
theorem dX0_powerOf_82 : decode cX0_powerOf 82 = .ok (.istore 4, 2) := decs_at tdX0_powerOf_62 11 rfl
theorem dX0_powerOf_84 : decode cX0_powerOf 84 = .ok (.iinc 5 1, 3) := decs_at tdX0_powerOf_62 12 rfl
theorem dX0_powerOf_87 : decode cX0_powerOf 87 = .ok (.goto (-66), 3) := decs_at tdX0_powerOf_62 13 rfl
theorem dX0_powerOf_90 : decode cX0_powerOf 90 = .ok (.iload 4, 2) := decs_at tdX0_powerOf_62 14 rfl
theorem dX0_powerOf_92 : decode cX0_powerOf 92 = .ok (.ireturn, 1) := decs_at tdX0_powerOf_62 15 rfl
theorem tdX0_carriedIf_0 : decs cX0_carriedIf [(0, .iconst 0, 1), (1, .istore_n 2, 1), (2, .iconst 0, 1), (3, .istore_n 3, 1), (4, .iload_n 3, 1), (5, .aload_n 0, 1), (6, .getfield 33, 3), (9, .if_icmp .ge 54, 3), (12, .aload_n 0, 1), (13, .getfield 53, 3), (16, .iload_n 3, 1), (17, .iaload, 1), (18, .iload_n 1, 1), (19, .iload_n 3, 1), (20, .ishr, 1), (21, .iconst 1, 1), (22, .iand, 1), (23, .if_icmp .eq 7, 3), (26, .iconst 1, 1), (27, .goto 4, 3), (30, .iconst 0, 1), (31, .istore 4, 2), (33, .iload_n 2, 1), (34, .iload 4, 2), (36, .ifCond .eq 12, 3), (39, .aload_n 0, 1), (40, .getfield 44, 3), (43, .iload_n 3, 1), (44, .iaload, 1), (45, .goto 10, 3), (48, .aload_n 0, 1), (49, .getfield 44, 3), (52, .iload_n 3, 1), (53, .iaload, 1), (54, .ineg, 1), (55, .iadd, 1), (56, .istore_n 2, 1), (57, .iinc 3 1, 3), (60, .goto (-56), 3), (63, .iload_n 2, 1)] = true := by decide +kernel
theorem dX0_carriedIf_0 : decode cX0_carriedIf 0 = .ok (.iconst 0, 1) := decs_at tdX0_carriedIf_0 0 rfl
theorem dX0_carriedIf_1 : decode cX0_carriedIf 1 = .ok (.istore_n 2, 1) := decs_at tdX0_carriedIf_0 1 rfl
theorem dX0_carriedIf_2 : decode cX0_carriedIf 2 = .ok (.iconst 0, 1) := decs_at tdX0_carriedIf_0 2 rfl
theorem dX0_carriedIf_3 : decode cX0_carriedIf 3 = .ok (.istore_n 3, 1) := decs_at tdX0_carriedIf_0 3 rfl
theorem dX0_carriedIf_4 : decode cX0_carriedIf 4 = .ok (.iload_n 3, 1) := decs_at tdX0_carriedIf_0 4 rfl
theorem dX0_carriedIf_5 : decode cX0_carriedIf 5 = .ok (.aload_n 0, 1) := decs_at tdX0_carriedIf_0 5 rfl
theorem dX0_carriedIf_6 : decode cX0_carriedIf 6 = .ok (.getfield 33, 3) := decs_at tdX0_carriedIf_0 6 rfl
theorem dX0_carriedIf_9 : decode cX0_carriedIf 9 = .ok (.if_icmp .ge 54, 3) := decs_at tdX0_carriedIf_0 7 rfl
theorem dX0_carriedIf_12 : decode cX0_carriedIf 12 = .ok (.aload_n 0, 1) := decs_at tdX0_carriedIf_0 8 rfl
theorem dX0_carriedIf_13 : decode cX0_carriedIf 13 = .ok (.getfield 53, 3) := decs_at tdX0_carriedIf_0 9 rfl
theorem dX0_carriedIf_16 : decode cX0_carriedIf 16 = .ok (.iload_n 3, 1) := decs_at tdX0_carriedIf_0 10 rfl
theorem dX0_carriedIf_17 : decode cX0_carriedIf 17 = .ok (.iaload, 1) := decs_at tdX0_carriedIf_0 11 rfl
theorem dX0_carriedIf_18 : decode cX0_carriedIf 18 = .ok (.iload_n 1, 1) := decs_at tdX0_carriedIf_0 12 rfl
theorem dX0_carriedIf_19 : decode cX0_carriedIf 19 = .ok (.iload_n 3, 1) := decs_at tdX0_carriedIf_0 13 rfl
theorem dX0_carriedIf_20 : decode cX0_carriedIf 20 = .ok (.ishr, 1) := decs_at tdX0_carriedIf_0 14 rfl
theorem dX0_carriedIf_21 : decode cX0_carriedIf 21 = .ok (.iconst 1, 1) := decs_at tdX0_carriedIf_0 15 rfl
theorem dX0_carriedIf_22 : decode cX0_carriedIf 22 = .ok (.iand, 1) := decs_at tdX0_carriedIf_0 16 rfl
theorem dX0_carriedIf_23 : decode cX0_carriedIf 23 = .ok (.if_icmp .eq 7, 3) := decs_at tdX0_carriedIf_0 17 rfl
theorem dX0_carriedIf_26 : decode cX0_carriedIf 26 = .ok (.iconst 1, 1) := decs_at tdX0_carriedIf_0 18 rfl
theorem dX0_carriedIf_27 : decode cX0_carriedIf 27 = .ok (.goto 4, 3) := decs_at tdX0_carriedIf_0 19 rfl
theorem dX0_carriedIf_30 : decode cX0_carriedIf 30 = .ok (.iconst 0, 1) := decs_at tdX0_carriedIf_0 20 rfl
theorem dX0_carriedIf_31 : decode cX0_carriedIf 31 = .ok (.istore 4, 2) := decs_at tdX0_carriedIf_0 21 rfl
theorem dX0_carriedIf_33 : decode cX0_carriedIf 33 = .ok (.iload_n 2, 1) := decs_at tdX0_carriedIf_0 22 rfl
theorem dX0_carriedIf_34 : decode cX0_carriedIf 34 = .ok (.iload 4, 2) := decs_at tdX0_carriedIf_0 23 rfl
theorem dX0_carriedIf_36 : decode cX0_carriedIf 36 = .ok (.ifCond .eq 12, 3) := decs_at tdX0_carriedIf_0 24 rfl
theorem dX0_carriedIf_39 : decode cX0_carriedIf 39 = .ok (.aload_n 0, 1) := decs_at tdX0_carriedIf_0 25 rfl
theorem dX0_carriedIf_40 : decode cX0_carriedIf 40 = .ok (.getfield 44, 3) := decs_at tdX0_carriedIf_0 26 rfl
theorem dX0_carriedIf_43 : decode cX0_carriedIf 43 = .ok (.iload_n 3, 1) := decs_at tdX0_carriedIf_0 27 rfl
theorem dX0_carriedIf_44 : decode cX0_carriedIf 44 = .ok (.iaload, 1) := decs_at tdX0_carriedIf_0 28 rfl
theorem dX0_carriedIf_45 : decode cX0_carriedIf 45 = .ok (.goto 10, 3) := decs_at tdX0_carriedIf_0 29 rfl
theorem dX0_carriedIf_48 : decode cX0_carriedIf 48 = .ok (.aload_n 0, 1) := decs_at tdX0_carriedIf_0 30 rfl
theorem dX0_carriedIf_49 : decode cX0_carriedIf 49 = .ok (.getfield 44, 3) := decs_at tdX0_carriedIf_0 31 rfl
theorem dX0_carriedIf_52 : decode cX0_carriedIf 52 = .ok (.iload_n 3, 1) := decs_at tdX0_carriedIf_0 32 rfl
theorem dX0_carriedIf_53 : decode cX0_carriedIf 53 = .ok (.iaload, 1) := decs_at tdX0_carriedIf_0 33 rfl
theorem dX0_carriedIf_54 : decode cX0_carriedIf 54 = .ok (.ineg, 1) := decs_at tdX0_carriedIf_0 34 rfl
theorem dX0_carriedIf_55 : decode cX0_carriedIf 55 = .ok (.iadd, 1) := decs_at tdX0_carriedIf_0 35 rfl
theorem dX0_carriedIf_56 : decode cX0_carriedIf 56 = .ok (.istore_n 2, 1) := decs_at tdX0_carriedIf_0 36 rfl
theorem dX0_carriedIf_57 : decode cX0_carriedIf 57 = .ok (.iinc 3 1, 3) := decs_at tdX0_carriedIf_0 37 rfl
theorem dX0_carriedIf_60 : decode cX0_carriedIf 60 = .ok (.goto (-56), 3) := decs_at tdX0_carriedIf_0 38 rfl
theorem dX0_carriedIf_63 : decode cX0_carriedIf 63 = .ok (.iload_n 2, 1) := decs_at tdX0_carriedIf_0 39 rfl
theorem tdX0_carriedIf_64 : decs cX0_carriedIf [(64, .ifCond .ne 8, 3), (67, .aload_n 0, 1), (68, .getfield 15, 3), (71, .ireturn, 1), (72, .iload_n 2, 1), (73, .ifCond .le 7, 3), (76, .iconst 1, 1), (77, .goto 4, 3), (80, .iconst 0, 1), (81, .ireturn, 1)] = true := by decide +kernel
theorem dX0_carriedIf_64 : decode cX0_carriedIf 64 = .ok (.ifCond .ne 8, 3) := decs_at tdX0_carriedIf_64 0 rfl
theorem dX0_carriedIf_67 : decode cX0_carriedIf 67 = .ok (.aload_n 0, 1) := decs_at tdX0_carriedIf_64 1 rfl
theorem dX0_carriedIf_68 : decode cX0_carriedIf 68 = .ok (.getfield 15, 3) := decs_at tdX0_carriedIf_64 2 rfl
theorem dX0_carriedIf_71 : decode cX0_carriedIf 71 = .ok (.ireturn, 1) := decs_at tdX0_carriedIf_64 3 rfl
theorem dX0_carriedIf_72 : decode cX0_carriedIf 72 = .ok (.iload_n 2, 1) := decs_at tdX0_carriedIf_64 4 rfl
theorem dX0_carriedIf_73 : decode cX0_carriedIf 73 = .ok (.ifCond .le 7, 3) := decs_at tdX0_carriedIf_64 5 rfl
theorem dX0_carriedIf_76 : decode cX0_carriedIf 76 = .ok (.iconst 1, 1) := decs_at tdX0_carriedIf_64 6 rfl
theorem dX0_carriedIf_77 : decode cX0_carriedIf 77 = .ok (.goto 4, 3) := decs_at tdX0_carriedIf_64 7 rfl
theorem dX0_carriedIf_80 : decode cX0_carriedIf 80 = .ok (.iconst 0, 1) := decs_at tdX0_carriedIf_64 8 rfl
theorem dX0_carriedIf_81 : decode cX0_carriedIf 81 = .ok (.ireturn, 1) := decs_at tdX0_carriedIf_64 9 rfl
set_option maxRecDepth 20000 in
theorem pl_wsX0_fewestToTurn_wsX00 : ∀ w ∈ wsX00, w ∈ wsX0_fewestToTurn := fun _ h => List.mem_cons_of_mem _ (List.mem_append_right _ (h))
theorem ggX0_fewestToTurn_X0_carriedIf : GoodIn wsX0_fewestToTurn wsX0_carriedIf := goodIn_sub (List.forall_mem_cons.mpr ⟨(List.mem_cons_of_mem _ (List.mem_append_left _ (List.mem_of_getElem? (i := 5) rfl))), (fun w h => (List.mem_append.mp h).elim ((List.forall_mem_cons.mpr ⟨(List.mem_cons_of_mem _ (List.mem_append_left _ (List.mem_of_getElem? (i := 0) rfl))), List.forall_mem_cons.mpr ⟨(List.mem_cons_of_mem _ (List.mem_append_left _ (List.mem_of_getElem? (i := 6) rfl))), List.forall_mem_cons.mpr ⟨(List.mem_cons_of_mem _ (List.mem_append_left _ (List.mem_of_getElem? (i := 7) rfl))), List.forall_mem_cons.mpr ⟨(List.mem_cons_of_mem _ (List.mem_append_left _ (List.mem_of_getElem? (i := 8) rfl))), fun _ h => absurd h List.not_mem_nil⟩⟩⟩⟩) w) (pl_wsX0_fewestToTurn_wsX00 w))⟩) (by decide +kernel)
set_option maxRecDepth 20000 in
theorem gX0_fewestToTurn_X0_carriedIf : GoodIn wsX0_fewestToTurn (wsV RX0 94 RX0 yX0_carriedIf wsX0_carriedIf) := goodIn_app (goodIn_sub (List.forall_mem_cons.mpr ⟨(List.mem_cons_of_mem _ (List.mem_append_left _ (List.mem_of_getElem? (i := 1) rfl))), List.forall_mem_cons.mpr ⟨(List.mem_cons_of_mem _ (List.mem_append_left _ (List.mem_of_getElem? (i := 2) rfl))), List.forall_mem_cons.mpr ⟨(List.mem_cons_of_mem _ (List.mem_append_left _ (List.mem_of_getElem? (i := 3) rfl))), List.forall_mem_cons.mpr ⟨(List.mem_cons_of_mem _ (List.mem_append_left _ (List.mem_of_getElem? (i := 4) rfl))), fun _ h => absurd h List.not_mem_nil⟩⟩⟩⟩) (by decide +kernel)) ggX0_fewestToTurn_X0_carriedIf
set_option maxRecDepth 20000 in
theorem ggX0_fewestToTurn_J6_bitCount_0f7a4 : GoodIn wsX0_fewestToTurn wsJ6_bitCount_0f7a4 := goodIn_sub (List.forall_mem_cons.mpr ⟨(List.mem_cons_of_mem _ (List.mem_append_left _ (List.mem_of_getElem? (i := 12) rfl))), (List.forall_mem_cons.mpr ⟨(List.mem_cons_of_mem _ (List.mem_append_left _ (List.mem_of_getElem? (i := 13) rfl))), List.forall_mem_cons.mpr ⟨(List.mem_cons_of_mem _ (List.mem_append_left _ (List.mem_of_getElem? (i := 14) rfl))), List.forall_mem_cons.mpr ⟨(List.mem_cons_of_mem _ (List.mem_append_left _ (List.mem_of_getElem? (i := 15) rfl))), fun _ h => absurd h List.not_mem_nil⟩⟩⟩)⟩) (by decide +kernel)
set_option maxRecDepth 20000 in
theorem gX0_fewestToTurn_J6_bitCount_0f7a4 : GoodIn wsX0_fewestToTurn (va_wsS RX0 97 yJ6_bitCount_0f7a4 wsJ6_bitCount_0f7a4) := goodIn_app (goodIn_sub (List.forall_mem_cons.mpr ⟨(List.mem_cons_of_mem _ (List.mem_append_left _ (List.mem_of_getElem? (i := 9) rfl))), List.forall_mem_cons.mpr ⟨(List.mem_cons_of_mem _ (List.mem_append_left _ (List.mem_of_getElem? (i := 10) rfl))), List.forall_mem_cons.mpr ⟨(List.mem_cons_of_mem _ (List.mem_append_left _ (List.mem_of_getElem? (i := 11) rfl))), fun _ h => absurd h List.not_mem_nil⟩⟩⟩) (by decide +kernel)) ggX0_fewestToTurn_J6_bitCount_0f7a4
theorem tdX0_fewestToTurn_0 : decs cX0_fewestToTurn [(0, .iconst 1, 1), (1, .aload_n 0, 1), (2, .iconst 0, 1), (3, .invokevirtual 94, 3), (6, .isub, 1), (7, .istore_n 1, 1), (8, .iconst (-1), 1), (9, .istore_n 2, 1), (10, .bipush 9, 2), (12, .istore_n 3, 1), (13, .iconst 0, 1), (14, .istore 4, 2), (16, .iload 4, 2), (18, .iconst 1, 1), (19, .aload_n 0, 1), (20, .getfield 33, 3), (23, .ishl, 1), (24, .if_icmp .ge 38, 3), (27, .iload 4, 2), (29, .invokestatic 97, 3), (32, .istore 5, 2), (34, .iload 5, 2), (36, .iload_n 3, 1), (37, .if_icmp .ge 19, 3), (40, .aload_n 0, 1), (41, .iload 4, 2), (43, .invokevirtual 94, 3), (46, .iload_n 1, 1), (47, .if_icmp .ne 9, 3), (50, .iload 4, 2), (52, .istore_n 2, 1), (53, .iload 5, 2), (55, .istore_n 3, 1), (56, .iinc 4 1, 3), (59, .goto (-43), 3), (62, .iload_n 2, 1), (63, .ireturn, 1)] = true := by decide +kernel
theorem dX0_fewestToTurn_0 : decode cX0_fewestToTurn 0 = .ok (.iconst 1, 1) := decs_at tdX0_fewestToTurn_0 0 rfl
theorem dX0_fewestToTurn_1 : decode cX0_fewestToTurn 1 = .ok (.aload_n 0, 1) := decs_at tdX0_fewestToTurn_0 1 rfl
theorem dX0_fewestToTurn_2 : decode cX0_fewestToTurn 2 = .ok (.iconst 0, 1) := decs_at tdX0_fewestToTurn_0 2 rfl
theorem dX0_fewestToTurn_3 : decode cX0_fewestToTurn 3 = .ok (.invokevirtual 94, 3) := decs_at tdX0_fewestToTurn_0 3 rfl
theorem dX0_fewestToTurn_6 : decode cX0_fewestToTurn 6 = .ok (.isub, 1) := decs_at tdX0_fewestToTurn_0 4 rfl
theorem dX0_fewestToTurn_7 : decode cX0_fewestToTurn 7 = .ok (.istore_n 1, 1) := decs_at tdX0_fewestToTurn_0 5 rfl
theorem dX0_fewestToTurn_8 : decode cX0_fewestToTurn 8 = .ok (.iconst (-1), 1) := decs_at tdX0_fewestToTurn_0 6 rfl
theorem dX0_fewestToTurn_9 : decode cX0_fewestToTurn 9 = .ok (.istore_n 2, 1) := decs_at tdX0_fewestToTurn_0 7 rfl
theorem dX0_fewestToTurn_10 : decode cX0_fewestToTurn 10 = .ok (.bipush 9, 2) := decs_at tdX0_fewestToTurn_0 8 rfl
theorem dX0_fewestToTurn_12 : decode cX0_fewestToTurn 12 = .ok (.istore_n 3, 1) := decs_at tdX0_fewestToTurn_0 9 rfl
theorem dX0_fewestToTurn_13 : decode cX0_fewestToTurn 13 = .ok (.iconst 0, 1) := decs_at tdX0_fewestToTurn_0 10 rfl
theorem dX0_fewestToTurn_14 : decode cX0_fewestToTurn 14 = .ok (.istore 4, 2) := decs_at tdX0_fewestToTurn_0 11 rfl
theorem dX0_fewestToTurn_16 : decode cX0_fewestToTurn 16 = .ok (.iload 4, 2) := decs_at tdX0_fewestToTurn_0 12 rfl
theorem dX0_fewestToTurn_18 : decode cX0_fewestToTurn 18 = .ok (.iconst 1, 1) := decs_at tdX0_fewestToTurn_0 13 rfl
theorem dX0_fewestToTurn_19 : decode cX0_fewestToTurn 19 = .ok (.aload_n 0, 1) := decs_at tdX0_fewestToTurn_0 14 rfl
theorem dX0_fewestToTurn_20 : decode cX0_fewestToTurn 20 = .ok (.getfield 33, 3) := decs_at tdX0_fewestToTurn_0 15 rfl
theorem dX0_fewestToTurn_23 : decode cX0_fewestToTurn 23 = .ok (.ishl, 1) := decs_at tdX0_fewestToTurn_0 16 rfl
theorem dX0_fewestToTurn_24 : decode cX0_fewestToTurn 24 = .ok (.if_icmp .ge 38, 3) := decs_at tdX0_fewestToTurn_0 17 rfl
theorem dX0_fewestToTurn_27 : decode cX0_fewestToTurn 27 = .ok (.iload 4, 2) := decs_at tdX0_fewestToTurn_0 18 rfl
theorem dX0_fewestToTurn_29 : decode cX0_fewestToTurn 29 = .ok (.invokestatic 97, 3) := decs_at tdX0_fewestToTurn_0 19 rfl
theorem dX0_fewestToTurn_32 : decode cX0_fewestToTurn 32 = .ok (.istore 5, 2) := decs_at tdX0_fewestToTurn_0 20 rfl
theorem dX0_fewestToTurn_34 : decode cX0_fewestToTurn 34 = .ok (.iload 5, 2) := decs_at tdX0_fewestToTurn_0 21 rfl
theorem dX0_fewestToTurn_36 : decode cX0_fewestToTurn 36 = .ok (.iload_n 3, 1) := decs_at tdX0_fewestToTurn_0 22 rfl
theorem dX0_fewestToTurn_37 : decode cX0_fewestToTurn 37 = .ok (.if_icmp .ge 19, 3) := decs_at tdX0_fewestToTurn_0 23 rfl
theorem dX0_fewestToTurn_40 : decode cX0_fewestToTurn 40 = .ok (.aload_n 0, 1) := decs_at tdX0_fewestToTurn_0 24 rfl
theorem dX0_fewestToTurn_41 : decode cX0_fewestToTurn 41 = .ok (.iload 4, 2) := decs_at tdX0_fewestToTurn_0 25 rfl
theorem dX0_fewestToTurn_43 : decode cX0_fewestToTurn 43 = .ok (.invokevirtual 94, 3) := decs_at tdX0_fewestToTurn_0 26 rfl
theorem dX0_fewestToTurn_46 : decode cX0_fewestToTurn 46 = .ok (.iload_n 1, 1) := decs_at tdX0_fewestToTurn_0 27 rfl
theorem dX0_fewestToTurn_47 : decode cX0_fewestToTurn 47 = .ok (.if_icmp .ne 9, 3) := decs_at tdX0_fewestToTurn_0 28 rfl
theorem dX0_fewestToTurn_50 : decode cX0_fewestToTurn 50 = .ok (.iload 4, 2) := decs_at tdX0_fewestToTurn_0 29 rfl
theorem dX0_fewestToTurn_52 : decode cX0_fewestToTurn 52 = .ok (.istore_n 2, 1) := decs_at tdX0_fewestToTurn_0 30 rfl
theorem dX0_fewestToTurn_53 : decode cX0_fewestToTurn 53 = .ok (.iload 5, 2) := decs_at tdX0_fewestToTurn_0 31 rfl
theorem dX0_fewestToTurn_55 : decode cX0_fewestToTurn 55 = .ok (.istore_n 3, 1) := decs_at tdX0_fewestToTurn_0 32 rfl
theorem dX0_fewestToTurn_56 : decode cX0_fewestToTurn 56 = .ok (.iinc 4 1, 3) := decs_at tdX0_fewestToTurn_0 33 rfl
theorem dX0_fewestToTurn_59 : decode cX0_fewestToTurn 59 = .ok (.goto (-43), 3) := decs_at tdX0_fewestToTurn_0 34 rfl
theorem dX0_fewestToTurn_62 : decode cX0_fewestToTurn 62 = .ok (.iload_n 2, 1) := decs_at tdX0_fewestToTurn_0 35 rfl
theorem dX0_fewestToTurn_63 : decode cX0_fewestToTurn 63 = .ok (.ireturn, 1) := decs_at tdX0_fewestToTurn_0 36 rfl
set_option maxRecDepth 20000 in
theorem pl_wsX0_passYear_wsX00 : ∀ w ∈ wsX00, w ∈ wsX0_passYear := fun _ h => List.mem_cons_of_mem _ (List.mem_append_right _ (h))
theorem ggX0_passYear_X0_carriedIf : GoodIn wsX0_passYear wsX0_carriedIf := goodIn_sub (List.forall_mem_cons.mpr ⟨(List.mem_cons_of_mem _ (List.mem_append_left _ (List.mem_of_getElem? (i := 10) rfl))), (fun w h => (List.mem_append.mp h).elim ((List.forall_mem_cons.mpr ⟨(List.mem_cons_of_mem _ (List.mem_append_left _ (List.mem_of_getElem? (i := 2) rfl))), List.forall_mem_cons.mpr ⟨(List.mem_cons_of_mem _ (List.mem_append_left _ (List.mem_of_getElem? (i := 4) rfl))), List.forall_mem_cons.mpr ⟨(List.mem_cons_of_mem _ (List.mem_append_left _ (List.mem_of_getElem? (i := 11) rfl))), List.forall_mem_cons.mpr ⟨(List.mem_cons_of_mem _ (List.mem_append_left _ (List.mem_of_getElem? (i := 0) rfl))), fun _ h => absurd h List.not_mem_nil⟩⟩⟩⟩) w) (pl_wsX0_passYear_wsX00 w))⟩) (by decide +kernel)
set_option maxRecDepth 20000 in
theorem gX0_passYear_X0_carriedIf : GoodIn wsX0_passYear (wsV RX0 94 RX0 yX0_carriedIf wsX0_carriedIf) := goodIn_app (goodIn_sub (List.forall_mem_cons.mpr ⟨(List.mem_cons_of_mem _ (List.mem_append_left _ (List.mem_of_getElem? (i := 6) rfl))), List.forall_mem_cons.mpr ⟨(List.mem_cons_of_mem _ (List.mem_append_left _ (List.mem_of_getElem? (i := 7) rfl))), List.forall_mem_cons.mpr ⟨(List.mem_cons_of_mem _ (List.mem_append_left _ (List.mem_of_getElem? (i := 8) rfl))), List.forall_mem_cons.mpr ⟨(List.mem_cons_of_mem _ (List.mem_append_left _ (List.mem_of_getElem? (i := 9) rfl))), fun _ h => absurd h List.not_mem_nil⟩⟩⟩⟩) (by decide +kernel)) ggX0_passYear_X0_carriedIf
set_option maxRecDepth 20000 in
theorem ggX0_passYear_X0_draw : GoodIn wsX0_passYear wsX0_draw := goodIn_sub (List.forall_mem_cons.mpr ⟨(List.mem_cons_of_mem _ (List.mem_append_left _ (List.mem_of_getElem? (i := 15) rfl))), (fun w h => (List.mem_append.mp h).elim ((List.forall_mem_cons.mpr ⟨(List.mem_cons_of_mem _ (List.mem_append_left _ (List.mem_of_getElem? (i := 16) rfl))), List.forall_mem_cons.mpr ⟨(List.mem_cons_of_mem _ (List.mem_append_left _ (List.mem_of_getElem? (i := 17) rfl))), fun _ h => absurd h List.not_mem_nil⟩⟩) w) (pl_wsX0_passYear_wsX00 w))⟩) (by decide +kernel)
set_option maxRecDepth 20000 in
theorem gX0_passYear_X0_draw : GoodIn wsX0_passYear (wsV RX0 102 RX0 yX0_draw wsX0_draw) := goodIn_app (goodIn_sub (List.forall_mem_cons.mpr ⟨(List.mem_cons_of_mem _ (List.mem_append_left _ (List.mem_of_getElem? (i := 12) rfl))), List.forall_mem_cons.mpr ⟨(List.mem_cons_of_mem _ (List.mem_append_left _ (List.mem_of_getElem? (i := 13) rfl))), List.forall_mem_cons.mpr ⟨(List.mem_cons_of_mem _ (List.mem_append_left _ (List.mem_of_getElem? (i := 14) rfl))), List.forall_mem_cons.mpr ⟨(List.mem_cons_of_mem _ (List.mem_append_left _ (List.mem_of_getElem? (i := 9) rfl))), fun _ h => absurd h List.not_mem_nil⟩⟩⟩⟩) (by decide +kernel)) ggX0_passYear_X0_draw
theorem tdX0_passYear_0 : decs cX0_passYear [(0, .aload_n 0, 1), (1, .iconst 0, 1), (2, .invokevirtual 94, 3), (5, .istore_n 1, 1), (6, .aload_n 0, 1), (7, .aload_n 0, 1), (8, .getfield 15, 3), (11, .putfield 18, 3), (14, .aload_n 0, 1), (15, .iload_n 1, 1), (16, .putfield 15, 3), (19, .iconst 0, 1), (20, .istore_n 2, 1), (21, .iload_n 2, 1), (22, .aload_n 0, 1), (23, .getfield 33, 3), (26, .if_icmp .ge 34, 3), (29, .aload_n 0, 1), (30, .invokevirtual 102, 3), (33, .aload_n 0, 1), (34, .getfield 21, 3), (37, .if_icmp .ge 17, 3), (40, .aload_n 0, 1), (41, .getfield 53, 3), (44, .iload_n 2, 1), (45, .iconst 1, 1), (46, .aload_n 0, 1), (47, .getfield 53, 3), (50, .iload_n 2, 1), (51, .iaload, 1), (52, .isub, 1), (53, .iastore, 1), (54, .iinc 2 1, 3), (57, .goto (-36), 3), (60, .aload_n 0, 1), (61, .dup, 1), (62, .getfield 24, 3), (65, .iconst 1, 1), (66, .iadd, 1), (67, .putfield 24, 3)] = true := by decide +kernel
theorem dX0_passYear_0 : decode cX0_passYear 0 = .ok (.aload_n 0, 1) := decs_at tdX0_passYear_0 0 rfl
theorem dX0_passYear_1 : decode cX0_passYear 1 = .ok (.iconst 0, 1) := decs_at tdX0_passYear_0 1 rfl
theorem dX0_passYear_2 : decode cX0_passYear 2 = .ok (.invokevirtual 94, 3) := decs_at tdX0_passYear_0 2 rfl
theorem dX0_passYear_5 : decode cX0_passYear 5 = .ok (.istore_n 1, 1) := decs_at tdX0_passYear_0 3 rfl
theorem dX0_passYear_6 : decode cX0_passYear 6 = .ok (.aload_n 0, 1) := decs_at tdX0_passYear_0 4 rfl
theorem dX0_passYear_7 : decode cX0_passYear 7 = .ok (.aload_n 0, 1) := decs_at tdX0_passYear_0 5 rfl
theorem dX0_passYear_8 : decode cX0_passYear 8 = .ok (.getfield 15, 3) := decs_at tdX0_passYear_0 6 rfl
theorem dX0_passYear_11 : decode cX0_passYear 11 = .ok (.putfield 18, 3) := decs_at tdX0_passYear_0 7 rfl
theorem dX0_passYear_14 : decode cX0_passYear 14 = .ok (.aload_n 0, 1) := decs_at tdX0_passYear_0 8 rfl
theorem dX0_passYear_15 : decode cX0_passYear 15 = .ok (.iload_n 1, 1) := decs_at tdX0_passYear_0 9 rfl
theorem dX0_passYear_16 : decode cX0_passYear 16 = .ok (.putfield 15, 3) := decs_at tdX0_passYear_0 10 rfl
theorem dX0_passYear_19 : decode cX0_passYear 19 = .ok (.iconst 0, 1) := decs_at tdX0_passYear_0 11 rfl
theorem dX0_passYear_20 : decode cX0_passYear 20 = .ok (.istore_n 2, 1) := decs_at tdX0_passYear_0 12 rfl
theorem dX0_passYear_21 : decode cX0_passYear 21 = .ok (.iload_n 2, 1) := decs_at tdX0_passYear_0 13 rfl
theorem dX0_passYear_22 : decode cX0_passYear 22 = .ok (.aload_n 0, 1) := decs_at tdX0_passYear_0 14 rfl
theorem dX0_passYear_23 : decode cX0_passYear 23 = .ok (.getfield 33, 3) := decs_at tdX0_passYear_0 15 rfl
theorem dX0_passYear_26 : decode cX0_passYear 26 = .ok (.if_icmp .ge 34, 3) := decs_at tdX0_passYear_0 16 rfl
theorem dX0_passYear_29 : decode cX0_passYear 29 = .ok (.aload_n 0, 1) := decs_at tdX0_passYear_0 17 rfl
theorem dX0_passYear_30 : decode cX0_passYear 30 = .ok (.invokevirtual 102, 3) := decs_at tdX0_passYear_0 18 rfl
theorem dX0_passYear_33 : decode cX0_passYear 33 = .ok (.aload_n 0, 1) := decs_at tdX0_passYear_0 19 rfl
theorem dX0_passYear_34 : decode cX0_passYear 34 = .ok (.getfield 21, 3) := decs_at tdX0_passYear_0 20 rfl
theorem dX0_passYear_37 : decode cX0_passYear 37 = .ok (.if_icmp .ge 17, 3) := decs_at tdX0_passYear_0 21 rfl
theorem dX0_passYear_40 : decode cX0_passYear 40 = .ok (.aload_n 0, 1) := decs_at tdX0_passYear_0 22 rfl
theorem dX0_passYear_41 : decode cX0_passYear 41 = .ok (.getfield 53, 3) := decs_at tdX0_passYear_0 23 rfl
theorem dX0_passYear_44 : decode cX0_passYear 44 = .ok (.iload_n 2, 1) := decs_at tdX0_passYear_0 24 rfl
theorem dX0_passYear_45 : decode cX0_passYear 45 = .ok (.iconst 1, 1) := decs_at tdX0_passYear_0 25 rfl
theorem dX0_passYear_46 : decode cX0_passYear 46 = .ok (.aload_n 0, 1) := decs_at tdX0_passYear_0 26 rfl
theorem dX0_passYear_47 : decode cX0_passYear 47 = .ok (.getfield 53, 3) := decs_at tdX0_passYear_0 27 rfl
theorem dX0_passYear_50 : decode cX0_passYear 50 = .ok (.iload_n 2, 1) := decs_at tdX0_passYear_0 28 rfl
theorem dX0_passYear_51 : decode cX0_passYear 51 = .ok (.iaload, 1) := decs_at tdX0_passYear_0 29 rfl
theorem dX0_passYear_52 : decode cX0_passYear 52 = .ok (.isub, 1) := decs_at tdX0_passYear_0 30 rfl
theorem dX0_passYear_53 : decode cX0_passYear 53 = .ok (.iastore, 1) := decs_at tdX0_passYear_0 31 rfl
theorem dX0_passYear_54 : decode cX0_passYear 54 = .ok (.iinc 2 1, 3) := decs_at tdX0_passYear_0 32 rfl
theorem dX0_passYear_57 : decode cX0_passYear 57 = .ok (.goto (-36), 3) := decs_at tdX0_passYear_0 33 rfl
theorem dX0_passYear_60 : decode cX0_passYear 60 = .ok (.aload_n 0, 1) := decs_at tdX0_passYear_0 34 rfl
theorem dX0_passYear_61 : decode cX0_passYear 61 = .ok (.dup, 1) := decs_at tdX0_passYear_0 35 rfl
theorem dX0_passYear_62 : decode cX0_passYear 62 = .ok (.getfield 24, 3) := decs_at tdX0_passYear_0 36 rfl
theorem dX0_passYear_65 : decode cX0_passYear 65 = .ok (.iconst 1, 1) := decs_at tdX0_passYear_0 37 rfl
theorem dX0_passYear_66 : decode cX0_passYear 66 = .ok (.iadd, 1) := decs_at tdX0_passYear_0 38 rfl
theorem dX0_passYear_67 : decode cX0_passYear 67 = .ok (.putfield 24, 3) := decs_at tdX0_passYear_0 39 rfl
theorem tdX0_passYear_70 : decs cX0_passYear [(70, .return_, 1)] = true := by decide +kernel
theorem dX0_passYear_70 : decode cX0_passYear 70 = .ok (.return_, 1) := decs_at tdX0_passYear_70 0 rfl
theorem tdX0_draw_0 : decs cX0_draw [(0, .aload_n 0, 1), (1, .aload_n 0, 1), (2, .getfield 30, 3), (5, .ldc 106, 2), (7, .imul, 1), (8, .sipush 12345, 3), (11, .iadd, 1), (12, .putfield 30, 3), (15, .aload_n 0, 1), (16, .getfield 30, 3), (19, .bipush 16, 2), (21, .iushr, 1), (22, .bipush 12, 2), (24, .irem, 1), (25, .ireturn, 1)] = true := by decide +kernel
theorem dX0_draw_0 : decode cX0_draw 0 = .ok (.aload_n 0, 1) := decs_at tdX0_draw_0 0 rfl
theorem dX0_draw_1 : decode cX0_draw 1 = .ok (.aload_n 0, 1) := decs_at tdX0_draw_0 1 rfl
theorem dX0_draw_2 : decode cX0_draw 2 = .ok (.getfield 30, 3) := decs_at tdX0_draw_0 2 rfl
theorem dX0_draw_5 : decode cX0_draw 5 = .ok (.ldc 106, 2) := decs_at tdX0_draw_0 3 rfl
theorem dX0_draw_7 : decode cX0_draw 7 = .ok (.imul, 1) := decs_at tdX0_draw_0 4 rfl
theorem dX0_draw_8 : decode cX0_draw 8 = .ok (.sipush 12345, 3) := decs_at tdX0_draw_0 5 rfl
theorem dX0_draw_11 : decode cX0_draw 11 = .ok (.iadd, 1) := decs_at tdX0_draw_0 6 rfl
theorem dX0_draw_12 : decode cX0_draw 12 = .ok (.putfield 30, 3) := decs_at tdX0_draw_0 7 rfl
theorem dX0_draw_15 : decode cX0_draw 15 = .ok (.aload_n 0, 1) := decs_at tdX0_draw_0 8 rfl
theorem dX0_draw_16 : decode cX0_draw 16 = .ok (.getfield 30, 3) := decs_at tdX0_draw_0 9 rfl
theorem dX0_draw_19 : decode cX0_draw 19 = .ok (.bipush 16, 2) := decs_at tdX0_draw_0 10 rfl
theorem dX0_draw_21 : decode cX0_draw 21 = .ok (.iushr, 1) := decs_at tdX0_draw_0 11 rfl
theorem dX0_draw_22 : decode cX0_draw 22 = .ok (.bipush 12, 2) := decs_at tdX0_draw_0 12 rfl
theorem dX0_draw_24 : decode cX0_draw 24 = .ok (.irem, 1) := decs_at tdX0_draw_0 13 rfl
theorem dX0_draw_25 : decode cX0_draw 25 = .ok (.ireturn, 1) := decs_at tdX0_draw_0 14 rfl
theorem tdX1_init_0 : decs cX1_init [(0, .aload_n 0, 1), (1, .invokespecial 3, 3), (4, .aload_n 0, 1), (5, .sipush 250, 3), (8, .newarray .int, 2), (10, .putfield 11, 3), (13, .aload_n 0, 1), (14, .iconst 0, 1), (15, .putfield 15, 3), (18, .aload_n 0, 1), (19, .iconst 0, 1), (20, .putfield 19, 3), (23, .aload_n 0, 1), (24, .iconst 0, 1), (25, .putfield 22, 3), (28, .aload_n 0, 1), (29, .iconst 0, 1), (30, .putfield 25, 3), (33, .aload_n 0, 1), (34, .iconst 0, 1), (35, .putfield 28, 3), (38, .aload_n 0, 1), (39, .aload_n 1, 1), (40, .putfield 31, 3), (43, .return_, 1)] = true := by decide +kernel
theorem dX1_init_0 : decode cX1_init 0 = .ok (.aload_n 0, 1) := decs_at tdX1_init_0 0 rfl
theorem dX1_init_1 : decode cX1_init 1 = .ok (.invokespecial 3, 3) := decs_at tdX1_init_0 1 rfl
theorem dX1_init_4 : decode cX1_init 4 = .ok (.aload_n 0, 1) := decs_at tdX1_init_0 2 rfl
theorem dX1_init_5 : decode cX1_init 5 = .ok (.sipush 250, 3) := decs_at tdX1_init_0 3 rfl
theorem dX1_init_8 : decode cX1_init 8 = .ok (.newarray .int, 2) := decs_at tdX1_init_0 4 rfl
theorem dX1_init_10 : decode cX1_init 10 = .ok (.putfield 11, 3) := decs_at tdX1_init_0 5 rfl
theorem dX1_init_13 : decode cX1_init 13 = .ok (.aload_n 0, 1) := decs_at tdX1_init_0 6 rfl
theorem dX1_init_14 : decode cX1_init 14 = .ok (.iconst 0, 1) := decs_at tdX1_init_0 7 rfl
theorem dX1_init_15 : decode cX1_init 15 = .ok (.putfield 15, 3) := decs_at tdX1_init_0 8 rfl
theorem dX1_init_18 : decode cX1_init 18 = .ok (.aload_n 0, 1) := decs_at tdX1_init_0 9 rfl
theorem dX1_init_19 : decode cX1_init 19 = .ok (.iconst 0, 1) := decs_at tdX1_init_0 10 rfl
theorem dX1_init_20 : decode cX1_init 20 = .ok (.putfield 19, 3) := decs_at tdX1_init_0 11 rfl
theorem dX1_init_23 : decode cX1_init 23 = .ok (.aload_n 0, 1) := decs_at tdX1_init_0 12 rfl
theorem dX1_init_24 : decode cX1_init 24 = .ok (.iconst 0, 1) := decs_at tdX1_init_0 13 rfl
theorem dX1_init_25 : decode cX1_init 25 = .ok (.putfield 22, 3) := decs_at tdX1_init_0 14 rfl
theorem dX1_init_28 : decode cX1_init 28 = .ok (.aload_n 0, 1) := decs_at tdX1_init_0 15 rfl
theorem dX1_init_29 : decode cX1_init 29 = .ok (.iconst 0, 1) := decs_at tdX1_init_0 16 rfl
theorem dX1_init_30 : decode cX1_init 30 = .ok (.putfield 25, 3) := decs_at tdX1_init_0 17 rfl
theorem dX1_init_33 : decode cX1_init 33 = .ok (.aload_n 0, 1) := decs_at tdX1_init_0 18 rfl
theorem dX1_init_34 : decode cX1_init 34 = .ok (.iconst 0, 1) := decs_at tdX1_init_0 19 rfl
theorem dX1_init_35 : decode cX1_init 35 = .ok (.putfield 28, 3) := decs_at tdX1_init_0 20 rfl
theorem dX1_init_38 : decode cX1_init 38 = .ok (.aload_n 0, 1) := decs_at tdX1_init_0 21 rfl
theorem dX1_init_39 : decode cX1_init 39 = .ok (.aload_n 1, 1) := decs_at tdX1_init_0 22 rfl
theorem dX1_init_40 : decode cX1_init 40 = .ok (.putfield 31, 3) := decs_at tdX1_init_0 23 rfl
theorem dX1_init_43 : decode cX1_init 43 = .ok (.return_, 1) := decs_at tdX1_init_0 24 rfl
theorem tdX1_isFull_0 : decs cX1_isFull [(0, .aload_n 0, 1), (1, .getfield 15, 3), (4, .sipush 250, 3), (7, .if_icmp .lt 7, 3), (10, .iconst 1, 1), (11, .goto 4, 3), (14, .iconst 0, 1), (15, .ireturn, 1)] = true := by decide +kernel
theorem dX1_isFull_0 : decode cX1_isFull 0 = .ok (.aload_n 0, 1) := decs_at tdX1_isFull_0 0 rfl
theorem dX1_isFull_1 : decode cX1_isFull 1 = .ok (.getfield 15, 3) := decs_at tdX1_isFull_0 1 rfl
theorem dX1_isFull_4 : decode cX1_isFull 4 = .ok (.sipush 250, 3) := decs_at tdX1_isFull_0 2 rfl
theorem dX1_isFull_7 : decode cX1_isFull 7 = .ok (.if_icmp .lt 7, 3) := decs_at tdX1_isFull_0 3 rfl
theorem dX1_isFull_10 : decode cX1_isFull 10 = .ok (.iconst 1, 1) := decs_at tdX1_isFull_0 4 rfl
theorem dX1_isFull_11 : decode cX1_isFull 11 = .ok (.goto 4, 3) := decs_at tdX1_isFull_0 5 rfl
theorem dX1_isFull_14 : decode cX1_isFull 14 = .ok (.iconst 0, 1) := decs_at tdX1_isFull_0 6 rfl
theorem dX1_isFull_15 : decode cX1_isFull 15 = .ok (.ireturn, 1) := decs_at tdX1_isFull_0 7 rfl
set_option maxRecDepth 20000 in
theorem pl_wsX1_append_wsX10 : ∀ w ∈ wsX10, w ∈ wsX1_append := fun _ h => List.mem_cons_of_mem _ (List.mem_append_right _ (h))
theorem ggX1_append_X1_isFull : GoodIn wsX1_append wsX1_isFull := goodIn_sub (List.forall_mem_cons.mpr ⟨(List.mem_cons_of_mem _ (List.mem_append_left _ (List.mem_of_getElem? (i := 6) rfl))), (fun w h => (List.mem_append.mp h).elim ((List.forall_mem_cons.mpr ⟨(List.mem_cons_of_mem _ (List.mem_append_left _ (List.mem_of_getElem? (i := 1) rfl))), fun _ h => absurd h List.not_mem_nil⟩) w) (pl_wsX1_append_wsX10 w))⟩) (by decide +kernel)
set_option maxRecDepth 20000 in
theorem gX1_append_X1_isFull : GoodIn wsX1_append (wsV RX1 35 RX1 yX1_isFull wsX1_isFull) := goodIn_app (goodIn_sub (List.forall_mem_cons.mpr ⟨(List.mem_cons_of_mem _ (List.mem_append_left _ (List.mem_of_getElem? (i := 2) rfl))), List.forall_mem_cons.mpr ⟨(List.mem_cons_of_mem _ (List.mem_append_left _ (List.mem_of_getElem? (i := 3) rfl))), List.forall_mem_cons.mpr ⟨(List.mem_cons_of_mem _ (List.mem_append_left _ (List.mem_of_getElem? (i := 4) rfl))), List.forall_mem_cons.mpr ⟨(List.mem_cons_of_mem _ (List.mem_append_left _ (List.mem_of_getElem? (i := 5) rfl))), fun _ h => absurd h List.not_mem_nil⟩⟩⟩⟩) (by decide +kernel)) ggX1_append_X1_isFull
theorem tdX1_append_0 : decs cX1_append [(0, .aload_n 0, 1), (1, .invokevirtual 35, 3), (4, .ifCond .ne 23, 3), (7, .aload_n 0, 1), (8, .getfield 11, 3), (11, .aload_n 0, 1), (12, .getfield 15, 3), (15, .iload_n 1, 1), (16, .iastore, 1), (17, .aload_n 0, 1), (18, .dup, 1), (19, .getfield 15, 3), (22, .iconst 1, 1), (23, .iadd, 1), (24, .putfield 15, 3), (27, .aload_n 0, 1), (28, .getfield 15, 3), (31, .ireturn, 1)] = true := by decide +kernel
theorem dX1_append_0 : decode cX1_append 0 = .ok (.aload_n 0, 1) := decs_at tdX1_append_0 0 rfl
theorem dX1_append_1 : decode cX1_append 1 = .ok (.invokevirtual 35, 3) := decs_at tdX1_append_0 1 rfl
theorem dX1_append_4 : decode cX1_append 4 = .ok (.ifCond .ne 23, 3) := decs_at tdX1_append_0 2 rfl
theorem dX1_append_7 : decode cX1_append 7 = .ok (.aload_n 0, 1) := decs_at tdX1_append_0 3 rfl
theorem dX1_append_8 : decode cX1_append 8 = .ok (.getfield 11, 3) := decs_at tdX1_append_0 4 rfl
theorem dX1_append_11 : decode cX1_append 11 = .ok (.aload_n 0, 1) := decs_at tdX1_append_0 5 rfl
theorem dX1_append_12 : decode cX1_append 12 = .ok (.getfield 15, 3) := decs_at tdX1_append_0 6 rfl
theorem dX1_append_15 : decode cX1_append 15 = .ok (.iload_n 1, 1) := decs_at tdX1_append_0 7 rfl
theorem dX1_append_16 : decode cX1_append 16 = .ok (.iastore, 1) := decs_at tdX1_append_0 8 rfl
theorem dX1_append_17 : decode cX1_append 17 = .ok (.aload_n 0, 1) := decs_at tdX1_append_0 9 rfl
theorem dX1_append_18 : decode cX1_append 18 = .ok (.dup, 1) := decs_at tdX1_append_0 10 rfl
theorem dX1_append_19 : decode cX1_append 19 = .ok (.getfield 15, 3) := decs_at tdX1_append_0 11 rfl
theorem dX1_append_22 : decode cX1_append 22 = .ok (.iconst 1, 1) := decs_at tdX1_append_0 12 rfl
theorem dX1_append_23 : decode cX1_append 23 = .ok (.iadd, 1) := decs_at tdX1_append_0 13 rfl
theorem dX1_append_24 : decode cX1_append 24 = .ok (.putfield 15, 3) := decs_at tdX1_append_0 14 rfl
theorem dX1_append_27 : decode cX1_append 27 = .ok (.aload_n 0, 1) := decs_at tdX1_append_0 15 rfl
theorem dX1_append_28 : decode cX1_append 28 = .ok (.getfield 15, 3) := decs_at tdX1_append_0 16 rfl
theorem dX1_append_31 : decode cX1_append 31 = .ok (.ireturn, 1) := decs_at tdX1_append_0 17 rfl
theorem tdX1_clear_0 : decs cX1_clear [(0, .aload_n 0, 1), (1, .getfield 15, 3), (4, .istore_n 1, 1), (5, .aload_n 0, 1), (6, .iconst 0, 1), (7, .putfield 15, 3), (10, .iload_n 1, 1), (11, .ireturn, 1)] = true := by decide +kernel
theorem dX1_clear_0 : decode cX1_clear 0 = .ok (.aload_n 0, 1) := decs_at tdX1_clear_0 0 rfl
theorem dX1_clear_1 : decode cX1_clear 1 = .ok (.getfield 15, 3) := decs_at tdX1_clear_0 1 rfl
theorem dX1_clear_4 : decode cX1_clear 4 = .ok (.istore_n 1, 1) := decs_at tdX1_clear_0 2 rfl
theorem dX1_clear_5 : decode cX1_clear 5 = .ok (.aload_n 0, 1) := decs_at tdX1_clear_0 3 rfl
theorem dX1_clear_6 : decode cX1_clear 6 = .ok (.iconst 0, 1) := decs_at tdX1_clear_0 4 rfl
theorem dX1_clear_7 : decode cX1_clear 7 = .ok (.putfield 15, 3) := decs_at tdX1_clear_0 5 rfl
theorem dX1_clear_10 : decode cX1_clear 10 = .ok (.iload_n 1, 1) := decs_at tdX1_clear_0 6 rfl
theorem dX1_clear_11 : decode cX1_clear 11 = .ok (.ireturn, 1) := decs_at tdX1_clear_0 7 rfl
set_option maxRecDepth 20000 in
theorem pl_wsX1_readAll_wsX1_readAll_r1 : ∀ w ∈ wsX1_readAll_r1, w ∈ wsX1_readAll := fun _ h => List.mem_cons_of_mem _ (List.mem_append_left _ (List.mem_append_left _ (List.mem_append_left _ (h))))
theorem pl_wsX1_readAll_wsX1_readAll_r2 : ∀ w ∈ wsX1_readAll_r2, w ∈ wsX1_readAll := fun _ h => List.mem_cons_of_mem _ (List.mem_append_left _ (List.mem_append_left _ (List.mem_append_right _ (List.mem_append_left _ (h)))))
theorem pl_wsX1_readAll_wsX1_readAll_r3 : ∀ w ∈ wsX1_readAll_r3, w ∈ wsX1_readAll := fun _ h => List.mem_cons_of_mem _ (List.mem_append_left _ (List.mem_append_left _ (List.mem_append_right _ (List.mem_append_right _ (List.mem_append_left _ (h))))))
theorem pl_wsX1_readAll_wsX1_readAll_r4 : ∀ w ∈ wsX1_readAll_r4, w ∈ wsX1_readAll := fun _ h => List.mem_cons_of_mem _ (List.mem_append_left _ (List.mem_append_left _ (List.mem_append_right _ (List.mem_append_right _ (List.mem_append_right _ (List.mem_append_left _ (h)))))))
theorem pl_wsX1_readAll_wsX1_readAll_r5 : ∀ w ∈ wsX1_readAll_r5, w ∈ wsX1_readAll := fun _ h => List.mem_cons_of_mem _ (List.mem_append_left _ (List.mem_append_left _ (List.mem_append_right _ (List.mem_append_right _ (List.mem_append_right _ (List.mem_append_right _ (List.mem_append_left _ (h))))))))
theorem pl_wsX1_readAll_wsX1_readAll_r6 : ∀ w ∈ wsX1_readAll_r6, w ∈ wsX1_readAll := fun _ h => List.mem_cons_of_mem _ (List.mem_append_left _ (List.mem_append_left _ (List.mem_append_right _ (List.mem_append_right _ (List.mem_append_right _ (List.mem_append_right _ (List.mem_append_right _ (List.mem_append_left _ (h)))))))))
theorem pl_wsX1_readAll_wsX1_readAll_r7 : ∀ w ∈ wsX1_readAll_r7, w ∈ wsX1_readAll := fun _ h => List.mem_cons_of_mem _ (List.mem_append_left _ (List.mem_append_left _ (List.mem_append_right _ (List.mem_append_right _ (List.mem_append_right _ (List.mem_append_right _ (List.mem_append_right _ (List.mem_append_right _ (h)))))))))
theorem pl_wsX1_readAll_wsX10 : ∀ w ∈ wsX10, w ∈ wsX1_readAll := fun _ h => List.mem_cons_of_mem _ (List.mem_append_left _ (List.mem_append_right _ (h)))
theorem pl_wsX1_readAll_wsX00 : ∀ w ∈ wsX00, w ∈ wsX1_readAll := fun _ h => List.mem_cons_of_mem _ (List.mem_append_right _ (h))
theorem ggX1_readAll_X1_readStatement : GoodIn wsX1_readAll wsX1_readStatement := goodIn_sub (List.forall_mem_cons.mpr ⟨(pl_wsX1_readAll_wsX1_readAll_r1 _ (List.mem_of_getElem? (i := 7) rfl)), (fun w h => (List.mem_append.mp h).elim ((fun w h => (List.mem_append.mp h).elim ((fun w h => (List.mem_append.mp h).elim ((List.forall_mem_cons.mpr ⟨(pl_wsX1_readAll_wsX1_readAll_r1 _ (List.mem_of_getElem? (i := 1) rfl)), List.forall_mem_cons.mpr ⟨(pl_wsX1_readAll_wsX1_readAll_r1 _ (List.mem_of_getElem? (i := 8) rfl)), List.forall_mem_cons.mpr ⟨(pl_wsX1_readAll_wsX1_readAll_r1 _ (List.mem_of_getElem? (i := 9) rfl)), List.forall_mem_cons.mpr ⟨(pl_wsX1_readAll_wsX1_readAll_r1 _ (List.mem_of_getElem? (i := 10) rfl)), List.forall_mem_cons.mpr ⟨(pl_wsX1_readAll_wsX1_readAll_r1 _ (List.mem_of_getElem? (i := 6) rfl)), List.forall_mem_cons.mpr ⟨(pl_wsX1_readAll_wsX1_readAll_r1 _ (List.mem_of_getElem? (i := 11) rfl)), List.forall_mem_cons.mpr ⟨(pl_wsX1_readAll_wsX1_readAll_r1 _ (List.mem_of_getElem? (i := 0) rfl)), List.forall_mem_cons.mpr ⟨(pl_wsX1_readAll_wsX1_readAll_r1 _ (List.mem_of_getElem? (i := 12) rfl)), List.forall_mem_cons.mpr ⟨(pl_wsX1_readAll_wsX1_readAll_r1 _ (List.mem_of_getElem? (i := 13) rfl)), List.forall_mem_cons.mpr ⟨(pl_wsX1_readAll_wsX1_readAll_r1 _ (List.mem_of_getElem? (i := 2) rfl)), List.forall_mem_cons.mpr ⟨(pl_wsX1_readAll_wsX1_readAll_r1 _ (List.mem_of_getElem? (i := 14) rfl)), List.forall_mem_cons.mpr ⟨(pl_wsX1_readAll_wsX1_readAll_r1 _ (List.mem_of_getElem? (i := 15) rfl)), List.forall_mem_cons.mpr ⟨(pl_wsX1_readAll_wsX1_readAll_r1 _ (List.mem_of_getElem? (i := 16) rfl)), List.forall_mem_cons.mpr ⟨(pl_wsX1_readAll_wsX1_readAll_r1 _ (List.mem_of_getElem? (i := 17) rfl)), List.forall_mem_cons.mpr ⟨(pl_wsX1_readAll_wsX1_readAll_r1 _ (List.mem_of_getElem? (i := 18) rfl)), List.forall_mem_cons.mpr ⟨(pl_wsX1_readAll_wsX1_readAll_r1 _ (List.mem_of_getElem? (i := 19) rfl)), List.forall_mem_cons.mpr ⟨(pl_wsX1_readAll_wsX1_readAll_r1 _ (List.mem_of_getElem? (i := 20) rfl)), List.forall_mem_cons.mpr ⟨(pl_wsX1_readAll_wsX1_readAll_r1 _ (List.mem_of_getElem? (i := 21) rfl)), List.forall_mem_cons.mpr ⟨(pl_wsX1_readAll_wsX1_readAll_r1 _ (List.mem_of_getElem? (i := 22) rfl)), List.forall_mem_cons.mpr ⟨(pl_wsX1_readAll_wsX1_readAll_r1 _ (List.mem_of_getElem? (i := 23) rfl)), List.forall_mem_cons.mpr ⟨(pl_wsX1_readAll_wsX1_readAll_r2 _ (List.mem_of_getElem? (i := 0) rfl)), List.forall_mem_cons.mpr ⟨(pl_wsX1_readAll_wsX1_readAll_r2 _ (List.mem_of_getElem? (i := 1) rfl)), List.forall_mem_cons.mpr ⟨(pl_wsX1_readAll_wsX1_readAll_r2 _ (List.mem_of_getElem? (i := 2) rfl)), List.forall_mem_cons.mpr ⟨(pl_wsX1_readAll_wsX1_readAll_r2 _ (List.mem_of_getElem? (i := 3) rfl)), fun _ h => absurd h List.not_mem_nil⟩⟩⟩⟩⟩⟩⟩⟩⟩⟩⟩⟩⟩⟩⟩⟩⟩⟩⟩⟩⟩⟩⟩⟩) w) ((fun w h => (List.mem_append.mp h).elim ((List.forall_mem_cons.mpr ⟨(pl_wsX1_readAll_wsX1_readAll_r2 _ (List.mem_of_getElem? (i := 4) rfl)), List.forall_mem_cons.mpr ⟨(pl_wsX1_readAll_wsX1_readAll_r2 _ (List.mem_of_getElem? (i := 5) rfl)), List.forall_mem_cons.mpr ⟨(pl_wsX1_readAll_wsX1_readAll_r2 _ (List.mem_of_getElem? (i := 6) rfl)), List.forall_mem_cons.mpr ⟨(pl_wsX1_readAll_wsX1_readAll_r2 _ (List.mem_of_getElem? (i := 7) rfl)), List.forall_mem_cons.mpr ⟨(pl_wsX1_readAll_wsX1_readAll_r2 _ (List.mem_of_getElem? (i := 8) rfl)), List.forall_mem_cons.mpr ⟨(pl_wsX1_readAll_wsX1_readAll_r2 _ (List.mem_of_getElem? (i := 9) rfl)), List.forall_mem_cons.mpr ⟨(pl_wsX1_readAll_wsX1_readAll_r2 _ (List.mem_of_getElem? (i := 10) rfl)), List.forall_mem_cons.mpr ⟨(pl_wsX1_readAll_wsX1_readAll_r2 _ (List.mem_of_getElem? (i := 11) rfl)), List.forall_mem_cons.mpr ⟨(pl_wsX1_readAll_wsX1_readAll_r2 _ (List.mem_of_getElem? (i := 12) rfl)), List.forall_mem_cons.mpr ⟨(pl_wsX1_readAll_wsX1_readAll_r2 _ (List.mem_of_getElem? (i := 13) rfl)), List.forall_mem_cons.mpr ⟨(pl_wsX1_readAll_wsX1_readAll_r2 _ (List.mem_of_getElem? (i := 14) rfl)), List.forall_mem_cons.mpr ⟨(pl_wsX1_readAll_wsX1_readAll_r2 _ (List.mem_of_getElem? (i := 15) rfl)), List.forall_mem_cons.mpr ⟨(pl_wsX1_readAll_wsX1_readAll_r2 _ (List.mem_of_getElem? (i := 16) rfl)), List.forall_mem_cons.mpr ⟨(pl_wsX1_readAll_wsX1_readAll_r2 _ (List.mem_of_getElem? (i := 17) rfl)), List.forall_mem_cons.mpr ⟨(pl_wsX1_readAll_wsX1_readAll_r2 _ (List.mem_of_getElem? (i := 18) rfl)), List.forall_mem_cons.mpr ⟨(pl_wsX1_readAll_wsX1_readAll_r2 _ (List.mem_of_getElem? (i := 19) rfl)), List.forall_mem_cons.mpr ⟨(pl_wsX1_readAll_wsX1_readAll_r2 _ (List.mem_of_getElem? (i := 20) rfl)), List.forall_mem_cons.mpr ⟨(pl_wsX1_readAll_wsX1_readAll_r2 _ (List.mem_of_getElem? (i := 21) rfl)), List.forall_mem_cons.mpr ⟨(pl_wsX1_readAll_wsX1_readAll_r2 _ (List.mem_of_getElem? (i := 22) rfl)), List.forall_mem_cons.mpr ⟨(pl_wsX1_readAll_wsX1_readAll_r2 _ (List.mem_of_getElem? (i := 23) rfl)), List.forall_mem_cons.mpr ⟨(pl_wsX1_readAll_wsX1_readAll_r3 _ (List.mem_of_getElem? (i := 0) rfl)), List.forall_mem_cons.mpr ⟨(pl_wsX1_readAll_wsX1_readAll_r3 _ (List.mem_of_getElem? (i := 1) rfl)), List.forall_mem_cons.mpr ⟨(pl_wsX1_readAll_wsX1_readAll_r3 _ (List.mem_of_getElem? (i := 2) rfl)), List.forall_mem_cons.mpr ⟨(pl_wsX1_readAll_wsX1_readAll_r3 _ (List.mem_of_getElem? (i := 3) rfl)), fun _ h => absurd h List.not_mem_nil⟩⟩⟩⟩⟩⟩⟩⟩⟩⟩⟩⟩⟩⟩⟩⟩⟩⟩⟩⟩⟩⟩⟩⟩) w) ((fun w h => (List.mem_append.mp h).elim ((List.forall_mem_cons.mpr ⟨(pl_wsX1_readAll_wsX1_readAll_r3 _ (List.mem_of_getElem? (i := 4) rfl)), List.forall_mem_cons.mpr ⟨(pl_wsX1_readAll_wsX1_readAll_r3 _ (List.mem_of_getElem? (i := 5) rfl)), List.forall_mem_cons.mpr ⟨(pl_wsX1_readAll_wsX1_readAll_r3 _ (List.mem_of_getElem? (i := 6) rfl)), List.forall_mem_cons.mpr ⟨(pl_wsX1_readAll_wsX1_readAll_r3 _ (List.mem_of_getElem? (i := 7) rfl)), List.forall_mem_cons.mpr ⟨(pl_wsX1_readAll_wsX1_readAll_r3 _ (List.mem_of_getElem? (i := 8) rfl)), List.forall_mem_cons.mpr ⟨(pl_wsX1_readAll_wsX1_readAll_r3 _ (List.mem_of_getElem? (i := 9) rfl)), List.forall_mem_cons.mpr ⟨(pl_wsX1_readAll_wsX1_readAll_r3 _ (List.mem_of_getElem? (i := 10) rfl)), List.forall_mem_cons.mpr ⟨(pl_wsX1_readAll_wsX1_readAll_r3 _ (List.mem_of_getElem? (i := 11) rfl)), List.forall_mem_cons.mpr ⟨(pl_wsX1_readAll_wsX1_readAll_r3 _ (List.mem_of_getElem? (i := 12) rfl)), List.forall_mem_cons.mpr ⟨(pl_wsX1_readAll_wsX1_readAll_r3 _ (List.mem_of_getElem? (i := 13) rfl)), List.forall_mem_cons.mpr ⟨(pl_wsX1_readAll_wsX1_readAll_r3 _ (List.mem_of_getElem? (i := 14) rfl)), List.forall_mem_cons.mpr ⟨(pl_wsX1_readAll_wsX1_readAll_r3 _ (List.mem_of_getElem? (i := 15) rfl)), List.forall_mem_cons.mpr ⟨(pl_wsX1_readAll_wsX1_readAll_r3 _ (List.mem_of_getElem? (i := 16) rfl)), List.forall_mem_cons.mpr ⟨(pl_wsX1_readAll_wsX1_readAll_r3 _ (List.mem_of_getElem? (i := 17) rfl)), List.forall_mem_cons.mpr ⟨(pl_wsX1_readAll_wsX1_readAll_r3 _ (List.mem_of_getElem? (i := 18) rfl)), List.forall_mem_cons.mpr ⟨(pl_wsX1_readAll_wsX1_readAll_r3 _ (List.mem_of_getElem? (i := 19) rfl)), List.forall_mem_cons.mpr ⟨(pl_wsX1_readAll_wsX1_readAll_r3 _ (List.mem_of_getElem? (i := 20) rfl)), List.forall_mem_cons.mpr ⟨(pl_wsX1_readAll_wsX1_readAll_r3 _ (List.mem_of_getElem? (i := 21) rfl)), List.forall_mem_cons.mpr ⟨(pl_wsX1_readAll_wsX1_readAll_r3 _ (List.mem_of_getElem? (i := 22) rfl)), List.forall_mem_cons.mpr ⟨(pl_wsX1_readAll_wsX1_readAll_r3 _ (List.mem_of_getElem? (i := 23) rfl)), List.forall_mem_cons.mpr ⟨(pl_wsX1_readAll_wsX1_readAll_r4 _ (List.mem_of_getElem? (i := 0) rfl)), List.forall_mem_cons.mpr ⟨(pl_wsX1_readAll_wsX1_readAll_r4 _ (List.mem_of_getElem? (i := 1) rfl)), List.forall_mem_cons.mpr ⟨(pl_wsX1_readAll_wsX1_readAll_r4 _ (List.mem_of_getElem? (i := 2) rfl)), List.forall_mem_cons.mpr ⟨(pl_wsX1_readAll_wsX1_readAll_r4 _ (List.mem_of_getElem? (i := 3) rfl)), fun _ h => absurd h List.not_mem_nil⟩⟩⟩⟩⟩⟩⟩⟩⟩⟩⟩⟩⟩⟩⟩⟩⟩⟩⟩⟩⟩⟩⟩⟩) w) ((fun w h => (List.mem_append.mp h).elim ((List.forall_mem_cons.mpr ⟨(pl_wsX1_readAll_wsX1_readAll_r4 _ (List.mem_of_getElem? (i := 4) rfl)), List.forall_mem_cons.mpr ⟨(pl_wsX1_readAll_wsX1_readAll_r4 _ (List.mem_of_getElem? (i := 5) rfl)), List.forall_mem_cons.mpr ⟨(pl_wsX1_readAll_wsX1_readAll_r4 _ (List.mem_of_getElem? (i := 6) rfl)), List.forall_mem_cons.mpr ⟨(pl_wsX1_readAll_wsX1_readAll_r4 _ (List.mem_of_getElem? (i := 7) rfl)), List.forall_mem_cons.mpr ⟨(pl_wsX1_readAll_wsX1_readAll_r4 _ (List.mem_of_getElem? (i := 8) rfl)), List.forall_mem_cons.mpr ⟨(pl_wsX1_readAll_wsX1_readAll_r4 _ (List.mem_of_getElem? (i := 9) rfl)), List.forall_mem_cons.mpr ⟨(pl_wsX1_readAll_wsX1_readAll_r4 _ (List.mem_of_getElem? (i := 10) rfl)), List.forall_mem_cons.mpr ⟨(pl_wsX1_readAll_wsX1_readAll_r4 _ (List.mem_of_getElem? (i := 11) rfl)), List.forall_mem_cons.mpr ⟨(pl_wsX1_readAll_wsX1_readAll_r4 _ (List.mem_of_getElem? (i := 12) rfl)), List.forall_mem_cons.mpr ⟨(pl_wsX1_readAll_wsX1_readAll_r4 _ (List.mem_of_getElem? (i := 13) rfl)), List.forall_mem_cons.mpr ⟨(pl_wsX1_readAll_wsX1_readAll_r4 _ (List.mem_of_getElem? (i := 14) rfl)), List.forall_mem_cons.mpr ⟨(pl_wsX1_readAll_wsX1_readAll_r4 _ (List.mem_of_getElem? (i := 15) rfl)), List.forall_mem_cons.mpr ⟨(pl_wsX1_readAll_wsX1_readAll_r4 _ (List.mem_of_getElem? (i := 16) rfl)), List.forall_mem_cons.mpr ⟨(pl_wsX1_readAll_wsX1_readAll_r4 _ (List.mem_of_getElem? (i := 17) rfl)), List.forall_mem_cons.mpr ⟨(pl_wsX1_readAll_wsX1_readAll_r4 _ (List.mem_of_getElem? (i := 18) rfl)), List.forall_mem_cons.mpr ⟨(pl_wsX1_readAll_wsX1_readAll_r4 _ (List.mem_of_getElem? (i := 19) rfl)), List.forall_mem_cons.mpr ⟨(pl_wsX1_readAll_wsX1_readAll_r4 _ (List.mem_of_getElem? (i := 20) rfl)), List.forall_mem_cons.mpr ⟨(pl_wsX1_readAll_wsX1_readAll_r4 _ (List.mem_of_getElem? (i := 21) rfl)), List.forall_mem_cons.mpr ⟨(pl_wsX1_readAll_wsX1_readAll_r4 _ (List.mem_of_getElem? (i := 22) rfl)), List.forall_mem_cons.mpr ⟨(pl_wsX1_readAll_wsX1_readAll_r4 _ (List.mem_of_getElem? (i := 23) rfl)), List.forall_mem_cons.mpr ⟨(pl_wsX1_readAll_wsX1_readAll_r5 _ (List.mem_of_getElem? (i := 0) rfl)), List.forall_mem_cons.mpr ⟨(pl_wsX1_readAll_wsX1_readAll_r5 _ (List.mem_of_getElem? (i := 1) rfl)), List.forall_mem_cons.mpr ⟨(pl_wsX1_readAll_wsX1_readAll_r5 _ (List.mem_of_getElem? (i := 2) rfl)), List.forall_mem_cons.mpr ⟨(pl_wsX1_readAll_wsX1_readAll_r5 _ (List.mem_of_getElem? (i := 3) rfl)), fun _ h => absurd h List.not_mem_nil⟩⟩⟩⟩⟩⟩⟩⟩⟩⟩⟩⟩⟩⟩⟩⟩⟩⟩⟩⟩⟩⟩⟩⟩) w) ((fun w h => (List.mem_append.mp h).elim ((List.forall_mem_cons.mpr ⟨(pl_wsX1_readAll_wsX1_readAll_r5 _ (List.mem_of_getElem? (i := 4) rfl)), List.forall_mem_cons.mpr ⟨(pl_wsX1_readAll_wsX1_readAll_r5 _ (List.mem_of_getElem? (i := 5) rfl)), List.forall_mem_cons.mpr ⟨(pl_wsX1_readAll_wsX1_readAll_r5 _ (List.mem_of_getElem? (i := 6) rfl)), List.forall_mem_cons.mpr ⟨(pl_wsX1_readAll_wsX1_readAll_r5 _ (List.mem_of_getElem? (i := 7) rfl)), List.forall_mem_cons.mpr ⟨(pl_wsX1_readAll_wsX1_readAll_r5 _ (List.mem_of_getElem? (i := 8) rfl)), List.forall_mem_cons.mpr ⟨(pl_wsX1_readAll_wsX1_readAll_r5 _ (List.mem_of_getElem? (i := 9) rfl)), List.forall_mem_cons.mpr ⟨(pl_wsX1_readAll_wsX1_readAll_r5 _ (List.mem_of_getElem? (i := 10) rfl)), List.forall_mem_cons.mpr ⟨(pl_wsX1_readAll_wsX1_readAll_r5 _ (List.mem_of_getElem? (i := 11) rfl)), List.forall_mem_cons.mpr ⟨(pl_wsX1_readAll_wsX1_readAll_r5 _ (List.mem_of_getElem? (i := 12) rfl)), List.forall_mem_cons.mpr ⟨(pl_wsX1_readAll_wsX1_readAll_r5 _ (List.mem_of_getElem? (i := 13) rfl)), List.forall_mem_cons.mpr ⟨(pl_wsX1_readAll_wsX1_readAll_r5 _ (List.mem_of_getElem? (i := 14) rfl)), List.forall_mem_cons.mpr ⟨(pl_wsX1_readAll_wsX1_readAll_r5 _ (List.mem_of_getElem? (i := 15) rfl)), List.forall_mem_cons.mpr ⟨(pl_wsX1_readAll_wsX1_readAll_r5 _ (List.mem_of_getElem? (i := 16) rfl)), List.forall_mem_cons.mpr ⟨(pl_wsX1_readAll_wsX1_readAll_r5 _ (List.mem_of_getElem? (i := 17) rfl)), List.forall_mem_cons.mpr ⟨(pl_wsX1_readAll_wsX1_readAll_r5 _ (List.mem_of_getElem? (i := 18) rfl)), List.forall_mem_cons.mpr ⟨(pl_wsX1_readAll_wsX1_readAll_r5 _ (List.mem_of_getElem? (i := 19) rfl)), List.forall_mem_cons.mpr ⟨(pl_wsX1_readAll_wsX1_readAll_r5 _ (List.mem_of_getElem? (i := 20) rfl)), List.forall_mem_cons.mpr ⟨(pl_wsX1_readAll_wsX1_readAll_r5 _ (List.mem_of_getElem? (i := 21) rfl)), List.forall_mem_cons.mpr ⟨(pl_wsX1_readAll_wsX1_readAll_r5 _ (List.mem_of_getElem? (i := 22) rfl)), List.forall_mem_cons.mpr ⟨(pl_wsX1_readAll_wsX1_readAll_r5 _ (List.mem_of_getElem? (i := 23) rfl)), List.forall_mem_cons.mpr ⟨(pl_wsX1_readAll_wsX1_readAll_r6 _ (List.mem_of_getElem? (i := 0) rfl)), List.forall_mem_cons.mpr ⟨(pl_wsX1_readAll_wsX1_readAll_r6 _ (List.mem_of_getElem? (i := 1) rfl)), List.forall_mem_cons.mpr ⟨(pl_wsX1_readAll_wsX1_readAll_r6 _ (List.mem_of_getElem? (i := 2) rfl)), List.forall_mem_cons.mpr ⟨(pl_wsX1_readAll_wsX1_readAll_r6 _ (List.mem_of_getElem? (i := 3) rfl)), fun _ h => absurd h List.not_mem_nil⟩⟩⟩⟩⟩⟩⟩⟩⟩⟩⟩⟩⟩⟩⟩⟩⟩⟩⟩⟩⟩⟩⟩⟩) w) ((fun w h => (List.mem_append.mp h).elim ((List.forall_mem_cons.mpr ⟨(pl_wsX1_readAll_wsX1_readAll_r6 _ (List.mem_of_getElem? (i := 4) rfl)), List.forall_mem_cons.mpr ⟨(pl_wsX1_readAll_wsX1_readAll_r6 _ (List.mem_of_getElem? (i := 5) rfl)), List.forall_mem_cons.mpr ⟨(pl_wsX1_readAll_wsX1_readAll_r6 _ (List.mem_of_getElem? (i := 6) rfl)), List.forall_mem_cons.mpr ⟨(pl_wsX1_readAll_wsX1_readAll_r6 _ (List.mem_of_getElem? (i := 7) rfl)), List.forall_mem_cons.mpr ⟨(pl_wsX1_readAll_wsX1_readAll_r6 _ (List.mem_of_getElem? (i := 8) rfl)), List.forall_mem_cons.mpr ⟨(pl_wsX1_readAll_wsX1_readAll_r6 _ (List.mem_of_getElem? (i := 9) rfl)), List.forall_mem_cons.mpr ⟨(pl_wsX1_readAll_wsX1_readAll_r6 _ (List.mem_of_getElem? (i := 10) rfl)), List.forall_mem_cons.mpr ⟨(pl_wsX1_readAll_wsX1_readAll_r6 _ (List.mem_of_getElem? (i := 11) rfl)), List.forall_mem_cons.mpr ⟨(pl_wsX1_readAll_wsX1_readAll_r6 _ (List.mem_of_getElem? (i := 12) rfl)), List.forall_mem_cons.mpr ⟨(pl_wsX1_readAll_wsX1_readAll_r6 _ (List.mem_of_getElem? (i := 13) rfl)), List.forall_mem_cons.mpr ⟨(pl_wsX1_readAll_wsX1_readAll_r6 _ (List.mem_of_getElem? (i := 14) rfl)), List.forall_mem_cons.mpr ⟨(pl_wsX1_readAll_wsX1_readAll_r6 _ (List.mem_of_getElem? (i := 15) rfl)), List.forall_mem_cons.mpr ⟨(pl_wsX1_readAll_wsX1_readAll_r6 _ (List.mem_of_getElem? (i := 16) rfl)), List.forall_mem_cons.mpr ⟨(pl_wsX1_readAll_wsX1_readAll_r6 _ (List.mem_of_getElem? (i := 17) rfl)), List.forall_mem_cons.mpr ⟨(pl_wsX1_readAll_wsX1_readAll_r6 _ (List.mem_of_getElem? (i := 18) rfl)), List.forall_mem_cons.mpr ⟨(pl_wsX1_readAll_wsX1_readAll_r6 _ (List.mem_of_getElem? (i := 19) rfl)), List.forall_mem_cons.mpr ⟨(pl_wsX1_readAll_wsX1_readAll_r6 _ (List.mem_of_getElem? (i := 20) rfl)), List.forall_mem_cons.mpr ⟨(pl_wsX1_readAll_wsX1_readAll_r6 _ (List.mem_of_getElem? (i := 21) rfl)), List.forall_mem_cons.mpr ⟨(pl_wsX1_readAll_wsX1_readAll_r6 _ (List.mem_of_getElem? (i := 22) rfl)), List.forall_mem_cons.mpr ⟨(pl_wsX1_readAll_wsX1_readAll_r6 _ (List.mem_of_getElem? (i := 23) rfl)), List.forall_mem_cons.mpr ⟨(pl_wsX1_readAll_wsX1_readAll_r7 _ (List.mem_of_getElem? (i := 0) rfl)), List.forall_mem_cons.mpr ⟨(pl_wsX1_readAll_wsX1_readAll_r7 _ (List.mem_of_getElem? (i := 1) rfl)), List.forall_mem_cons.mpr ⟨(pl_wsX1_readAll_wsX1_readAll_r7 _ (List.mem_of_getElem? (i := 2) rfl)), List.forall_mem_cons.mpr ⟨(pl_wsX1_readAll_wsX1_readAll_r7 _ (List.mem_of_getElem? (i := 3) rfl)), fun _ h => absurd h List.not_mem_nil⟩⟩⟩⟩⟩⟩⟩⟩⟩⟩⟩⟩⟩⟩⟩⟩⟩⟩⟩⟩⟩⟩⟩⟩) w) ((List.forall_mem_cons.mpr ⟨(pl_wsX1_readAll_wsX1_readAll_r7 _ (List.mem_of_getElem? (i := 4) rfl)), List.forall_mem_cons.mpr ⟨(pl_wsX1_readAll_wsX1_readAll_r7 _ (List.mem_of_getElem? (i := 5) rfl)), List.forall_mem_cons.mpr ⟨(pl_wsX1_readAll_wsX1_readAll_r7 _ (List.mem_of_getElem? (i := 6) rfl)), List.forall_mem_cons.mpr ⟨(pl_wsX1_readAll_wsX1_readAll_r7 _ (List.mem_of_getElem? (i := 7) rfl)), List.forall_mem_cons.mpr ⟨(pl_wsX1_readAll_wsX1_readAll_r7 _ (List.mem_of_getElem? (i := 8) rfl)), List.forall_mem_cons.mpr ⟨(pl_wsX1_readAll_wsX1_readAll_r7 _ (List.mem_of_getElem? (i := 9) rfl)), List.forall_mem_cons.mpr ⟨(pl_wsX1_readAll_wsX1_readAll_r7 _ (List.mem_of_getElem? (i := 10) rfl)), fun _ h => absurd h List.not_mem_nil⟩⟩⟩⟩⟩⟩⟩) w)) w)) w)) w)) w)) w)) w) (pl_wsX1_readAll_wsX10 w)) w) (pl_wsX1_readAll_wsX00 w))⟩) (by decide +kernel)
set_option maxRecDepth 20000 in
theorem gX1_readAll_X1_readStatement : GoodIn wsX1_readAll (wsV RX1 39 RX1 yX1_readStatement wsX1_readStatement) := goodIn_app (goodIn_sub (List.forall_mem_cons.mpr ⟨(pl_wsX1_readAll_wsX1_readAll_r1 _ (List.mem_of_getElem? (i := 3) rfl)), List.forall_mem_cons.mpr ⟨(pl_wsX1_readAll_wsX1_readAll_r1 _ (List.mem_of_getElem? (i := 4) rfl)), List.forall_mem_cons.mpr ⟨(pl_wsX1_readAll_wsX1_readAll_r1 _ (List.mem_of_getElem? (i := 5) rfl)), List.forall_mem_cons.mpr ⟨(pl_wsX1_readAll_wsX1_readAll_r1 _ (List.mem_of_getElem? (i := 6) rfl)), fun _ h => absurd h List.not_mem_nil⟩⟩⟩⟩) (by decide +kernel)) ggX1_readAll_X1_readStatement
set_option maxRecDepth 20000 in
theorem ggX1_readAll_X1_nextToken : GoodIn wsX1_readAll wsX1_nextToken := goodIn_sub (List.forall_mem_cons.mpr ⟨(pl_wsX1_readAll_wsX1_readAll_r1 _ (List.mem_of_getElem? (i := 11) rfl)), (fun w h => (List.mem_append.mp h).elim ((List.forall_mem_cons.mpr ⟨(pl_wsX1_readAll_wsX1_readAll_r1 _ (List.mem_of_getElem? (i := 0) rfl)), List.forall_mem_cons.mpr ⟨(pl_wsX1_readAll_wsX1_readAll_r1 _ (List.mem_of_getElem? (i := 12) rfl)), List.forall_mem_cons.mpr ⟨(pl_wsX1_readAll_wsX1_readAll_r1 _ (List.mem_of_getElem? (i := 13) rfl)), List.forall_mem_cons.mpr ⟨(pl_wsX1_readAll_wsX1_readAll_r1 _ (List.mem_of_getElem? (i := 2) rfl)), List.forall_mem_cons.mpr ⟨(pl_wsX1_readAll_wsX1_readAll_r1 _ (List.mem_of_getElem? (i := 1) rfl)), List.forall_mem_cons.mpr ⟨(pl_wsX1_readAll_wsX1_readAll_r1 _ (List.mem_of_getElem? (i := 14) rfl)), List.forall_mem_cons.mpr ⟨(pl_wsX1_readAll_wsX1_readAll_r1 _ (List.mem_of_getElem? (i := 15) rfl)), List.forall_mem_cons.mpr ⟨(pl_wsX1_readAll_wsX1_readAll_r1 _ (List.mem_of_getElem? (i := 16) rfl)), List.forall_mem_cons.mpr ⟨(pl_wsX1_readAll_wsX1_readAll_r1 _ (List.mem_of_getElem? (i := 17) rfl)), List.forall_mem_cons.mpr ⟨(pl_wsX1_readAll_wsX1_readAll_r1 _ (List.mem_of_getElem? (i := 18) rfl)), List.forall_mem_cons.mpr ⟨(pl_wsX1_readAll_wsX1_readAll_r1 _ (List.mem_of_getElem? (i := 19) rfl)), List.forall_mem_cons.mpr ⟨(pl_wsX1_readAll_wsX1_readAll_r1 _ (List.mem_of_getElem? (i := 20) rfl)), List.forall_mem_cons.mpr ⟨(pl_wsX1_readAll_wsX1_readAll_r1 _ (List.mem_of_getElem? (i := 6) rfl)), List.forall_mem_cons.mpr ⟨(pl_wsX1_readAll_wsX1_readAll_r1 _ (List.mem_of_getElem? (i := 21) rfl)), List.forall_mem_cons.mpr ⟨(pl_wsX1_readAll_wsX1_readAll_r1 _ (List.mem_of_getElem? (i := 22) rfl)), List.forall_mem_cons.mpr ⟨(pl_wsX1_readAll_wsX1_readAll_r1 _ (List.mem_of_getElem? (i := 23) rfl)), List.forall_mem_cons.mpr ⟨(pl_wsX1_readAll_wsX1_readAll_r2 _ (List.mem_of_getElem? (i := 0) rfl)), List.forall_mem_cons.mpr ⟨(pl_wsX1_readAll_wsX1_readAll_r2 _ (List.mem_of_getElem? (i := 1) rfl)), fun _ h => absurd h List.not_mem_nil⟩⟩⟩⟩⟩⟩⟩⟩⟩⟩⟩⟩⟩⟩⟩⟩⟩⟩) w) (pl_wsX1_readAll_wsX10 w))⟩) (by decide +kernel)
set_option maxRecDepth 20000 in
theorem gX1_readAll_X1_nextToken : GoodIn wsX1_readAll (wsV RX1 42 RX1 yX1_nextToken wsX1_nextToken) := goodIn_app (goodIn_sub (List.forall_mem_cons.mpr ⟨(pl_wsX1_readAll_wsX1_readAll_r1 _ (List.mem_of_getElem? (i := 8) rfl)), List.forall_mem_cons.mpr ⟨(pl_wsX1_readAll_wsX1_readAll_r1 _ (List.mem_of_getElem? (i := 9) rfl)), List.forall_mem_cons.mpr ⟨(pl_wsX1_readAll_wsX1_readAll_r1 _ (List.mem_of_getElem? (i := 10) rfl)), List.forall_mem_cons.mpr ⟨(pl_wsX1_readAll_wsX1_readAll_r1 _ (List.mem_of_getElem? (i := 6) rfl)), fun _ h => absurd h List.not_mem_nil⟩⟩⟩⟩) (by decide +kernel)) ggX1_readAll_X1_nextToken
theorem tdX1_readAll_0 : decs cX1_readAll [(0, .aload_n 0, 1), (1, .iconst 0, 1), (2, .putfield 19, 3), (5, .iconst 1, 1), (6, .istore_n 1, 1), (7, .iload_n 1, 1), (8, .sipush 250, 3), (11, .if_icmp .gt 43, 3), (14, .aload_n 0, 1), (15, .invokevirtual 39, 3), (18, .ifCond .ne 6, 3), (21, .goto 33, 3), (24, .aload_n 0, 1), (25, .invokevirtual 42, 3), (28, .aload_n 0, 1), (29, .getfield 22, 3), (32, .ifCond .ne 5, 3), (35, .iload_n 1, 1), (36, .ireturn, 1), (37, .aload_n 0, 1), (38, .getfield 22, 3), (41, .iconst 3, 1), (42, .if_icmp .eq 6, 3), (45, .goto 9, 3), (48, .iinc 1 1, 3), (51, .goto (-44), 3), (54, .bipush (-20), 2), (56, .aload_n 0, 1), (57, .getfield 25, 3), (60, .isub, 1), (61, .ireturn, 1)] = true := by decide +kernel
theorem dX1_readAll_0 : decode cX1_readAll 0 = .ok (.aload_n 0, 1) := decs_at tdX1_readAll_0 0 rfl
theorem dX1_readAll_1 : decode cX1_readAll 1 = .ok (.iconst 0, 1) := decs_at tdX1_readAll_0 1 rfl
theorem dX1_readAll_2 : decode cX1_readAll 2 = .ok (.putfield 19, 3) := decs_at tdX1_readAll_0 2 rfl
theorem dX1_readAll_5 : decode cX1_readAll 5 = .ok (.iconst 1, 1) := decs_at tdX1_readAll_0 3 rfl
theorem dX1_readAll_6 : decode cX1_readAll 6 = .ok (.istore_n 1, 1) := decs_at tdX1_readAll_0 4 rfl
theorem dX1_readAll_7 : decode cX1_readAll 7 = .ok (.iload_n 1, 1) := decs_at tdX1_readAll_0 5 rfl
theorem dX1_readAll_8 : decode cX1_readAll 8 = .ok (.sipush 250, 3) := decs_at tdX1_readAll_0 6 rfl
theorem dX1_readAll_11 : decode cX1_readAll 11 = .ok (.if_icmp .gt 43, 3) := decs_at tdX1_readAll_0 7 rfl
theorem dX1_readAll_14 : decode cX1_readAll 14 = .ok (.aload_n 0, 1) := decs_at tdX1_readAll_0 8 rfl
theorem dX1_readAll_15 : decode cX1_readAll 15 = .ok (.invokevirtual 39, 3) := decs_at tdX1_readAll_0 9 rfl
theorem dX1_readAll_18 : decode cX1_readAll 18 = .ok (.ifCond .ne 6, 3) := decs_at tdX1_readAll_0 10 rfl
theorem dX1_readAll_21 : decode cX1_readAll 21 = .ok (.goto 33, 3) := decs_at tdX1_readAll_0 11 rfl
theorem dX1_readAll_24 : decode cX1_readAll 24 = .ok (.aload_n 0, 1) := decs_at tdX1_readAll_0 12 rfl
theorem dX1_readAll_25 : decode cX1_readAll 25 = .ok (.invokevirtual 42, 3) := decs_at tdX1_readAll_0 13 rfl
theorem dX1_readAll_28 : decode cX1_readAll 28 = .ok (.aload_n 0, 1) := decs_at tdX1_readAll_0 14 rfl
theorem dX1_readAll_29 : decode cX1_readAll 29 = .ok (.getfield 22, 3) := decs_at tdX1_readAll_0 15 rfl
theorem dX1_readAll_32 : decode cX1_readAll 32 = .ok (.ifCond .ne 5, 3) := decs_at tdX1_readAll_0 16 rfl
theorem dX1_readAll_35 : decode cX1_readAll 35 = .ok (.iload_n 1, 1) := decs_at tdX1_readAll_0 17 rfl
theorem dX1_readAll_36 : decode cX1_readAll 36 = .ok (.ireturn, 1) := decs_at tdX1_readAll_0 18 rfl
theorem dX1_readAll_37 : decode cX1_readAll 37 = .ok (.aload_n 0, 1) := decs_at tdX1_readAll_0 19 rfl
theorem dX1_readAll_38 : decode cX1_readAll 38 = .ok (.getfield 22, 3) := decs_at tdX1_readAll_0 20 rfl
theorem dX1_readAll_41 : decode cX1_readAll 41 = .ok (.iconst 3, 1) := decs_at tdX1_readAll_0 21 rfl
theorem dX1_readAll_42 : decode cX1_readAll 42 = .ok (.if_icmp .eq 6, 3) := decs_at tdX1_readAll_0 22 rfl
theorem dX1_readAll_45 : decode cX1_readAll 45 = .ok (.goto 9, 3) := decs_at tdX1_readAll_0 23 rfl
theorem dX1_readAll_48 : decode cX1_readAll 48 = .ok (.iinc 1 1, 3) := decs_at tdX1_readAll_0 24 rfl
theorem dX1_readAll_51 : decode cX1_readAll 51 = .ok (.goto (-44), 3) := decs_at tdX1_readAll_0 25 rfl
theorem dX1_readAll_54 : decode cX1_readAll 54 = .ok (.bipush (-20), 2) := decs_at tdX1_readAll_0 26 rfl
theorem dX1_readAll_56 : decode cX1_readAll 56 = .ok (.aload_n 0, 1) := decs_at tdX1_readAll_0 27 rfl
theorem dX1_readAll_57 : decode cX1_readAll 57 = .ok (.getfield 25, 3) := decs_at tdX1_readAll_0 28 rfl
theorem dX1_readAll_60 : decode cX1_readAll 60 = .ok (.isub, 1) := decs_at tdX1_readAll_0 29 rfl
theorem dX1_readAll_61 : decode cX1_readAll 61 = .ok (.ireturn, 1) := decs_at tdX1_readAll_0 30 rfl
set_option maxRecDepth 20000 in
theorem pl_wsX1_readStatement_wsX1_readStatement_r1 : ∀ w ∈ wsX1_readStatement_r1, w ∈ wsX1_readStatement := fun _ h => List.mem_cons_of_mem _ (List.mem_append_left _ (List.mem_append_left _ (List.mem_append_left _ (h))))
theorem pl_wsX1_readStatement_wsX10 : ∀ w ∈ wsX10, w ∈ wsX1_readStatement := fun _ h => List.mem_cons_of_mem _ (List.mem_append_left _ (List.mem_append_right _ (h)))
theorem ggX1_readStatement_X1_nextToken : GoodIn wsX1_readStatement wsX1_nextToken := goodIn_sub (List.forall_mem_cons.mpr ⟨(pl_wsX1_readStatement_wsX1_readStatement_r1 _ (List.mem_of_getElem? (i := 5) rfl)), (fun w h => (List.mem_append.mp h).elim ((List.forall_mem_cons.mpr ⟨(pl_wsX1_readStatement_wsX1_readStatement_r1 _ (List.mem_of_getElem? (i := 6) rfl)), List.forall_mem_cons.mpr ⟨(pl_wsX1_readStatement_wsX1_readStatement_r1 _ (List.mem_of_getElem? (i := 7) rfl)), List.forall_mem_cons.mpr ⟨(pl_wsX1_readStatement_wsX1_readStatement_r1 _ (List.mem_of_getElem? (i := 8) rfl)), List.forall_mem_cons.mpr ⟨(pl_wsX1_readStatement_wsX1_readStatement_r1 _ (List.mem_of_getElem? (i := 9) rfl)), List.forall_mem_cons.mpr ⟨(pl_wsX1_readStatement_wsX1_readStatement_r1 _ (List.mem_of_getElem? (i := 0) rfl)), List.forall_mem_cons.mpr ⟨(pl_wsX1_readStatement_wsX1_readStatement_r1 _ (List.mem_of_getElem? (i := 10) rfl)), List.forall_mem_cons.mpr ⟨(pl_wsX1_readStatement_wsX1_readStatement_r1 _ (List.mem_of_getElem? (i := 11) rfl)), List.forall_mem_cons.mpr ⟨(pl_wsX1_readStatement_wsX1_readStatement_r1 _ (List.mem_of_getElem? (i := 12) rfl)), List.forall_mem_cons.mpr ⟨(pl_wsX1_readStatement_wsX1_readStatement_r1 _ (List.mem_of_getElem? (i := 13) rfl)), List.forall_mem_cons.mpr ⟨(pl_wsX1_readStatement_wsX1_readStatement_r1 _ (List.mem_of_getElem? (i := 14) rfl)), List.forall_mem_cons.mpr ⟨(pl_wsX1_readStatement_wsX1_readStatement_r1 _ (List.mem_of_getElem? (i := 15) rfl)), List.forall_mem_cons.mpr ⟨(pl_wsX1_readStatement_wsX1_readStatement_r1 _ (List.mem_of_getElem? (i := 16) rfl)), List.forall_mem_cons.mpr ⟨(pl_wsX1_readStatement_wsX1_readStatement_r1 _ (List.mem_of_getElem? (i := 4) rfl)), List.forall_mem_cons.mpr ⟨(pl_wsX1_readStatement_wsX1_readStatement_r1 _ (List.mem_of_getElem? (i := 17) rfl)), List.forall_mem_cons.mpr ⟨(pl_wsX1_readStatement_wsX1_readStatement_r1 _ (List.mem_of_getElem? (i := 18) rfl)), List.forall_mem_cons.mpr ⟨(pl_wsX1_readStatement_wsX1_readStatement_r1 _ (List.mem_of_getElem? (i := 19) rfl)), List.forall_mem_cons.mpr ⟨(pl_wsX1_readStatement_wsX1_readStatement_r1 _ (List.mem_of_getElem? (i := 20) rfl)), List.forall_mem_cons.mpr ⟨(pl_wsX1_readStatement_wsX1_readStatement_r1 _ (List.mem_of_getElem? (i := 21) rfl)), fun _ h => absurd h List.not_mem_nil⟩⟩⟩⟩⟩⟩⟩⟩⟩⟩⟩⟩⟩⟩⟩⟩⟩⟩) w) (pl_wsX1_readStatement_wsX10 w))⟩) (by decide +kernel)
set_option maxRecDepth 20000 in
theorem gX1_readStatement_X1_nextToken : GoodIn wsX1_readStatement (wsV RX1 42 RX1 yX1_nextToken wsX1_nextToken) := goodIn_app (goodIn_sub (List.forall_mem_cons.mpr ⟨(pl_wsX1_readStatement_wsX1_readStatement_r1 _ (List.mem_of_getElem? (i := 1) rfl)), List.forall_mem_cons.mpr ⟨(pl_wsX1_readStatement_wsX1_readStatement_r1 _ (List.mem_of_getElem? (i := 2) rfl)), List.forall_mem_cons.mpr ⟨(pl_wsX1_readStatement_wsX1_readStatement_r1 _ (List.mem_of_getElem? (i := 3) rfl)), List.forall_mem_cons.mpr ⟨(pl_wsX1_readStatement_wsX1_readStatement_r1 _ (List.mem_of_getElem? (i := 4) rfl)), fun _ h => absurd h List.not_mem_nil⟩⟩⟩⟩) (by decide +kernel)) ggX1_readStatement_X1_nextToken
set_option maxRecDepth 20000 in
theorem pl_wsX1_readStatement_wsX1_readStatement_r2 : ∀ w ∈ wsX1_readStatement_r2, w ∈ wsX1_readStatement := fun _ h => List.mem_cons_of_mem _ (List.mem_append_left _ (List.mem_append_left _ (List.mem_append_right _ (List.mem_append_left _ (h)))))
theorem pl_wsX1_readStatement_wsX1_readStatement_r3 : ∀ w ∈ wsX1_readStatement_r3, w ∈ wsX1_readStatement := fun _ h => List.mem_cons_of_mem _ (List.mem_append_left _ (List.mem_append_left _ (List.mem_append_right _ (List.mem_append_right _ (List.mem_append_left _ (h))))))
theorem pl_wsX1_readStatement_wsX1_readStatement_r4 : ∀ w ∈ wsX1_readStatement_r4, w ∈ wsX1_readStatement := fun _ h => List.mem_cons_of_mem _ (List.mem_append_left _ (List.mem_append_left _ (List.mem_append_right _ (List.mem_append_right _ (List.mem_append_right _ (List.mem_append_left _ (h)))))))
theorem ggX1_readStatement_X1_isWord : GoodIn wsX1_readStatement wsX1_isWord := goodIn_sub (List.forall_mem_cons.mpr ⟨(pl_wsX1_readStatement_wsX1_readStatement_r2 _ (List.mem_of_getElem? (i := 1) rfl)), (fun w h => (List.mem_append.mp h).elim ((fun w h => (List.mem_append.mp h).elim ((List.forall_mem_cons.mpr ⟨(pl_wsX1_readStatement_wsX1_readStatement_r1 _ (List.mem_of_getElem? (i := 6) rfl)), List.forall_mem_cons.mpr ⟨(pl_wsX1_readStatement_wsX1_readStatement_r1 _ (List.mem_of_getElem? (i := 9) rfl)), List.forall_mem_cons.mpr ⟨(pl_wsX1_readStatement_wsX1_readStatement_r1 _ (List.mem_of_getElem? (i := 8) rfl)), List.forall_mem_cons.mpr ⟨(pl_wsX1_readStatement_wsX1_readStatement_r2 _ (List.mem_of_getElem? (i := 2) rfl)), List.forall_mem_cons.mpr ⟨(pl_wsX1_readStatement_wsX1_readStatement_r2 _ (List.mem_of_getElem? (i := 3) rfl)), List.forall_mem_cons.mpr ⟨(pl_wsX1_readStatement_wsX1_readStatement_r2 _ (List.mem_of_getElem? (i := 4) rfl)), List.forall_mem_cons.mpr ⟨(pl_wsX1_readStatement_wsX1_readStatement_r2 _ (List.mem_of_getElem? (i := 5) rfl)), List.forall_mem_cons.mpr ⟨(pl_wsX1_readStatement_wsX1_readStatement_r2 _ (List.mem_of_getElem? (i := 6) rfl)), List.forall_mem_cons.mpr ⟨(pl_wsX1_readStatement_wsX1_readStatement_r2 _ (List.mem_of_getElem? (i := 7) rfl)), List.forall_mem_cons.mpr ⟨(pl_wsX1_readStatement_wsX1_readStatement_r2 _ (List.mem_of_getElem? (i := 8) rfl)), List.forall_mem_cons.mpr ⟨(pl_wsX1_readStatement_wsX1_readStatement_r2 _ (List.mem_of_getElem? (i := 9) rfl)), List.forall_mem_cons.mpr ⟨(pl_wsX1_readStatement_wsX1_readStatement_r2 _ (List.mem_of_getElem? (i := 10) rfl)), List.forall_mem_cons.mpr ⟨(pl_wsX1_readStatement_wsX1_readStatement_r2 _ (List.mem_of_getElem? (i := 11) rfl)), List.forall_mem_cons.mpr ⟨(pl_wsX1_readStatement_wsX1_readStatement_r2 _ (List.mem_of_getElem? (i := 12) rfl)), List.forall_mem_cons.mpr ⟨(pl_wsX1_readStatement_wsX1_readStatement_r2 _ (List.mem_of_getElem? (i := 13) rfl)), List.forall_mem_cons.mpr ⟨(pl_wsX1_readStatement_wsX1_readStatement_r2 _ (List.mem_of_getElem? (i := 14) rfl)), List.forall_mem_cons.mpr ⟨(pl_wsX1_readStatement_wsX1_readStatement_r2 _ (List.mem_of_getElem? (i := 15) rfl)), List.forall_mem_cons.mpr ⟨(pl_wsX1_readStatement_wsX1_readStatement_r2 _ (List.mem_of_getElem? (i := 16) rfl)), List.forall_mem_cons.mpr ⟨(pl_wsX1_readStatement_wsX1_readStatement_r2 _ (List.mem_of_getElem? (i := 17) rfl)), List.forall_mem_cons.mpr ⟨(pl_wsX1_readStatement_wsX1_readStatement_r2 _ (List.mem_of_getElem? (i := 18) rfl)), List.forall_mem_cons.mpr ⟨(pl_wsX1_readStatement_wsX1_readStatement_r2 _ (List.mem_of_getElem? (i := 19) rfl)), List.forall_mem_cons.mpr ⟨(pl_wsX1_readStatement_wsX1_readStatement_r2 _ (List.mem_of_getElem? (i := 20) rfl)), List.forall_mem_cons.mpr ⟨(pl_wsX1_readStatement_wsX1_readStatement_r2 _ (List.mem_of_getElem? (i := 21) rfl)), List.forall_mem_cons.mpr ⟨(pl_wsX1_readStatement_wsX1_readStatement_r2 _ (List.mem_of_getElem? (i := 22) rfl)), fun _ h => absurd h List.not_mem_nil⟩⟩⟩⟩⟩⟩⟩⟩⟩⟩⟩⟩⟩⟩⟩⟩⟩⟩⟩⟩⟩⟩⟩⟩) w) ((fun w h => (List.mem_append.mp h).elim ((List.forall_mem_cons.mpr ⟨(pl_wsX1_readStatement_wsX1_readStatement_r2 _ (List.mem_of_getElem? (i := 23) rfl)), List.forall_mem_cons.mpr ⟨(pl_wsX1_readStatement_wsX1_readStatement_r3 _ (List.mem_of_getElem? (i := 0) rfl)), List.forall_mem_cons.mpr ⟨(pl_wsX1_readStatement_wsX1_readStatement_r3 _ (List.mem_of_getElem? (i := 1) rfl)), List.forall_mem_cons.mpr ⟨(pl_wsX1_readStatement_wsX1_readStatement_r3 _ (List.mem_of_getElem? (i := 2) rfl)), List.forall_mem_cons.mpr ⟨(pl_wsX1_readStatement_wsX1_readStatement_r3 _ (List.mem_of_getElem? (i := 3) rfl)), List.forall_mem_cons.mpr ⟨(pl_wsX1_readStatement_wsX1_readStatement_r3 _ (List.mem_of_getElem? (i := 4) rfl)), List.forall_mem_cons.mpr ⟨(pl_wsX1_readStatement_wsX1_readStatement_r3 _ (List.mem_of_getElem? (i := 5) rfl)), List.forall_mem_cons.mpr ⟨(pl_wsX1_readStatement_wsX1_readStatement_r3 _ (List.mem_of_getElem? (i := 6) rfl)), List.forall_mem_cons.mpr ⟨(pl_wsX1_readStatement_wsX1_readStatement_r3 _ (List.mem_of_getElem? (i := 7) rfl)), List.forall_mem_cons.mpr ⟨(pl_wsX1_readStatement_wsX1_readStatement_r3 _ (List.mem_of_getElem? (i := 8) rfl)), List.forall_mem_cons.mpr ⟨(pl_wsX1_readStatement_wsX1_readStatement_r3 _ (List.mem_of_getElem? (i := 9) rfl)), List.forall_mem_cons.mpr ⟨(pl_wsX1_readStatement_wsX1_readStatement_r3 _ (List.mem_of_getElem? (i := 10) rfl)), List.forall_mem_cons.mpr ⟨(pl_wsX1_readStatement_wsX1_readStatement_r3 _ (List.mem_of_getElem? (i := 11) rfl)), List.forall_mem_cons.mpr ⟨(pl_wsX1_readStatement_wsX1_readStatement_r3 _ (List.mem_of_getElem? (i := 12) rfl)), List.forall_mem_cons.mpr ⟨(pl_wsX1_readStatement_wsX1_readStatement_r3 _ (List.mem_of_getElem? (i := 13) rfl)), List.forall_mem_cons.mpr ⟨(pl_wsX1_readStatement_wsX1_readStatement_r3 _ (List.mem_of_getElem? (i := 14) rfl)), List.forall_mem_cons.mpr ⟨(pl_wsX1_readStatement_wsX1_readStatement_r3 _ (List.mem_of_getElem? (i := 15) rfl)), List.forall_mem_cons.mpr ⟨(pl_wsX1_readStatement_wsX1_readStatement_r3 _ (List.mem_of_getElem? (i := 16) rfl)), List.forall_mem_cons.mpr ⟨(pl_wsX1_readStatement_wsX1_readStatement_r3 _ (List.mem_of_getElem? (i := 17) rfl)), List.forall_mem_cons.mpr ⟨(pl_wsX1_readStatement_wsX1_readStatement_r3 _ (List.mem_of_getElem? (i := 18) rfl)), List.forall_mem_cons.mpr ⟨(pl_wsX1_readStatement_wsX1_readStatement_r3 _ (List.mem_of_getElem? (i := 19) rfl)), List.forall_mem_cons.mpr ⟨(pl_wsX1_readStatement_wsX1_readStatement_r3 _ (List.mem_of_getElem? (i := 20) rfl)), List.forall_mem_cons.mpr ⟨(pl_wsX1_readStatement_wsX1_readStatement_r3 _ (List.mem_of_getElem? (i := 21) rfl)), List.forall_mem_cons.mpr ⟨(pl_wsX1_readStatement_wsX1_readStatement_r3 _ (List.mem_of_getElem? (i := 22) rfl)), fun _ h => absurd h List.not_mem_nil⟩⟩⟩⟩⟩⟩⟩⟩⟩⟩⟩⟩⟩⟩⟩⟩⟩⟩⟩⟩⟩⟩⟩⟩) w) ((List.forall_mem_cons.mpr ⟨(pl_wsX1_readStatement_wsX1_readStatement_r3 _ (List.mem_of_getElem? (i := 23) rfl)), List.forall_mem_cons.mpr ⟨(pl_wsX1_readStatement_wsX1_readStatement_r4 _ (List.mem_of_getElem? (i := 0) rfl)), List.forall_mem_cons.mpr ⟨(pl_wsX1_readStatement_wsX1_readStatement_r4 _ (List.mem_of_getElem? (i := 1) rfl)), List.forall_mem_cons.mpr ⟨(pl_wsX1_readStatement_wsX1_readStatement_r4 _ (List.mem_of_getElem? (i := 2) rfl)), fun _ h => absurd h List.not_mem_nil⟩⟩⟩⟩) w)) w)) w) (pl_wsX1_readStatement_wsX10 w))⟩) (by decide +kernel)
set_option maxRecDepth 20000 in
theorem gX1_readStatement_X1_isWord : GoodIn wsX1_readStatement (wsV RX1 47 RX1 yX1_isWord wsX1_isWord) := goodIn_app (goodIn_sub (List.forall_mem_cons.mpr ⟨(pl_wsX1_readStatement_wsX1_readStatement_r1 _ (List.mem_of_getElem? (i := 22) rfl)), List.forall_mem_cons.mpr ⟨(pl_wsX1_readStatement_wsX1_readStatement_r1 _ (List.mem_of_getElem? (i := 23) rfl)), List.forall_mem_cons.mpr ⟨(pl_wsX1_readStatement_wsX1_readStatement_r2 _ (List.mem_of_getElem? (i := 0) rfl)), List.forall_mem_cons.mpr ⟨(pl_wsX1_readStatement_wsX1_readStatement_r1 _ (List.mem_of_getElem? (i := 4) rfl)), fun _ h => absurd h List.not_mem_nil⟩⟩⟩⟩) (by decide +kernel)) ggX1_readStatement_X1_isWord
set_option maxRecDepth 20000 in
theorem pl_wsX1_readStatement_wsX00 : ∀ w ∈ wsX00, w ∈ wsX1_readStatement := fun _ h => List.mem_cons_of_mem _ (List.mem_append_right _ (h))
theorem ggX1_readStatement_X1_readSide : GoodIn wsX1_readStatement wsX1_readSide := goodIn_sub (List.forall_mem_cons.mpr ⟨(pl_wsX1_readStatement_wsX1_readStatement_r4 _ (List.mem_of_getElem? (i := 6) rfl)), (fun w h => (List.mem_append.mp h).elim ((fun w h => (List.mem_append.mp h).elim ((fun w h => (List.mem_append.mp h).elim ((List.forall_mem_cons.mpr ⟨(pl_wsX1_readStatement_wsX1_readStatement_r4 _ (List.mem_of_getElem? (i := 7) rfl)), List.forall_mem_cons.mpr ⟨(pl_wsX1_readStatement_wsX1_readStatement_r1 _ (List.mem_of_getElem? (i := 10) rfl)), List.forall_mem_cons.mpr ⟨(pl_wsX1_readStatement_wsX1_readStatement_r4 _ (List.mem_of_getElem? (i := 8) rfl)), List.forall_mem_cons.mpr ⟨(pl_wsX1_readStatement_wsX1_readStatement_r4 _ (List.mem_of_getElem? (i := 9) rfl)), List.forall_mem_cons.mpr ⟨(pl_wsX1_readStatement_wsX1_readStatement_r4 _ (List.mem_of_getElem? (i := 10) rfl)), List.forall_mem_cons.mpr ⟨(pl_wsX1_readStatement_wsX1_readStatement_r1 _ (List.mem_of_getElem? (i := 4) rfl)), List.forall_mem_cons.mpr ⟨(pl_wsX1_readStatement_wsX1_readStatement_r4 _ (List.mem_of_getElem? (i := 11) rfl)), List.forall_mem_cons.mpr ⟨(pl_wsX1_readStatement_wsX1_readStatement_r1 _ (List.mem_of_getElem? (i := 0) rfl)), List.forall_mem_cons.mpr ⟨(pl_wsX1_readStatement_wsX1_readStatement_r1 _ (List.mem_of_getElem? (i := 1) rfl)), List.forall_mem_cons.mpr ⟨(pl_wsX1_readStatement_wsX1_readStatement_r1 _ (List.mem_of_getElem? (i := 2) rfl)), List.forall_mem_cons.mpr ⟨(pl_wsX1_readStatement_wsX1_readStatement_r1 _ (List.mem_of_getElem? (i := 3) rfl)), List.forall_mem_cons.mpr ⟨(pl_wsX1_readStatement_wsX1_readStatement_r1 _ (List.mem_of_getElem? (i := 5) rfl)), List.forall_mem_cons.mpr ⟨(pl_wsX1_readStatement_wsX1_readStatement_r1 _ (List.mem_of_getElem? (i := 6) rfl)), List.forall_mem_cons.mpr ⟨(pl_wsX1_readStatement_wsX1_readStatement_r1 _ (List.mem_of_getElem? (i := 7) rfl)), List.forall_mem_cons.mpr ⟨(pl_wsX1_readStatement_wsX1_readStatement_r1 _ (List.mem_of_getElem? (i := 8) rfl)), List.forall_mem_cons.mpr ⟨(pl_wsX1_readStatement_wsX1_readStatement_r1 _ (List.mem_of_getElem? (i := 9) rfl)), List.forall_mem_cons.mpr ⟨(pl_wsX1_readStatement_wsX1_readStatement_r1 _ (List.mem_of_getElem? (i := 11) rfl)), List.forall_mem_cons.mpr ⟨(pl_wsX1_readStatement_wsX1_readStatement_r1 _ (List.mem_of_getElem? (i := 12) rfl)), List.forall_mem_cons.mpr ⟨(pl_wsX1_readStatement_wsX1_readStatement_r1 _ (List.mem_of_getElem? (i := 13) rfl)), List.forall_mem_cons.mpr ⟨(pl_wsX1_readStatement_wsX1_readStatement_r1 _ (List.mem_of_getElem? (i := 14) rfl)), List.forall_mem_cons.mpr ⟨(pl_wsX1_readStatement_wsX1_readStatement_r1 _ (List.mem_of_getElem? (i := 15) rfl)), List.forall_mem_cons.mpr ⟨(pl_wsX1_readStatement_wsX1_readStatement_r1 _ (List.mem_of_getElem? (i := 16) rfl)), List.forall_mem_cons.mpr ⟨(pl_wsX1_readStatement_wsX1_readStatement_r1 _ (List.mem_of_getElem? (i := 17) rfl)), List.forall_mem_cons.mpr ⟨(pl_wsX1_readStatement_wsX1_readStatement_r1 _ (List.mem_of_getElem? (i := 18) rfl)), fun _ h => absurd h List.not_mem_nil⟩⟩⟩⟩⟩⟩⟩⟩⟩⟩⟩⟩⟩⟩⟩⟩⟩⟩⟩⟩⟩⟩⟩⟩) w) ((List.forall_mem_cons.mpr ⟨(pl_wsX1_readStatement_wsX1_readStatement_r1 _ (List.mem_of_getElem? (i := 19) rfl)), List.forall_mem_cons.mpr ⟨(pl_wsX1_readStatement_wsX1_readStatement_r1 _ (List.mem_of_getElem? (i := 20) rfl)), List.forall_mem_cons.mpr ⟨(pl_wsX1_readStatement_wsX1_readStatement_r1 _ (List.mem_of_getElem? (i := 21) rfl)), List.forall_mem_cons.mpr ⟨(pl_wsX1_readStatement_wsX1_readStatement_r4 _ (List.mem_of_getElem? (i := 12) rfl)), List.forall_mem_cons.mpr ⟨(pl_wsX1_readStatement_wsX1_readStatement_r4 _ (List.mem_of_getElem? (i := 13) rfl)), List.forall_mem_cons.mpr ⟨(pl_wsX1_readStatement_wsX1_readStatement_r4 _ (List.mem_of_getElem? (i := 14) rfl)), List.forall_mem_cons.mpr ⟨(pl_wsX1_readStatement_wsX1_readStatement_r4 _ (List.mem_of_getElem? (i := 15) rfl)), List.forall_mem_cons.mpr ⟨(pl_wsX1_readStatement_wsX1_readStatement_r4 _ (List.mem_of_getElem? (i := 16) rfl)), List.forall_mem_cons.mpr ⟨(pl_wsX1_readStatement_wsX1_readStatement_r4 _ (List.mem_of_getElem? (i := 17) rfl)), List.forall_mem_cons.mpr ⟨(pl_wsX1_readStatement_wsX1_readStatement_r4 _ (List.mem_of_getElem? (i := 18) rfl)), List.forall_mem_cons.mpr ⟨(pl_wsX1_readStatement_wsX1_readStatement_r4 _ (List.mem_of_getElem? (i := 19) rfl)), List.forall_mem_cons.mpr ⟨(pl_wsX1_readStatement_wsX1_readStatement_r4 _ (List.mem_of_getElem? (i := 20) rfl)), List.forall_mem_cons.mpr ⟨(pl_wsX1_readStatement_wsX1_readStatement_r4 _ (List.mem_of_getElem? (i := 21) rfl)), fun _ h => absurd h List.not_mem_nil⟩⟩⟩⟩⟩⟩⟩⟩⟩⟩⟩⟩⟩) w)) w) (pl_wsX1_readStatement_wsX10 w)) w) (pl_wsX1_readStatement_wsX00 w))⟩) (by decide +kernel)
set_option maxRecDepth 20000 in
theorem gX1_readStatement_X1_readSide : GoodIn wsX1_readStatement (wsV RX1 51 RX1 yX1_readSide wsX1_readSide) := goodIn_app (goodIn_sub (List.forall_mem_cons.mpr ⟨(pl_wsX1_readStatement_wsX1_readStatement_r4 _ (List.mem_of_getElem? (i := 3) rfl)), List.forall_mem_cons.mpr ⟨(pl_wsX1_readStatement_wsX1_readStatement_r4 _ (List.mem_of_getElem? (i := 4) rfl)), List.forall_mem_cons.mpr ⟨(pl_wsX1_readStatement_wsX1_readStatement_r4 _ (List.mem_of_getElem? (i := 5) rfl)), List.forall_mem_cons.mpr ⟨(pl_wsX1_readStatement_wsX1_readStatement_r1 _ (List.mem_of_getElem? (i := 4) rfl)), fun _ h => absurd h List.not_mem_nil⟩⟩⟩⟩) (by decide +kernel)) ggX1_readStatement_X1_readSide
set_option maxRecDepth 20000 in
theorem pl_wsX1_readStatement_wsX1_readStatement_r5 : ∀ w ∈ wsX1_readStatement_r5, w ∈ wsX1_readStatement := fun _ h => List.mem_cons_of_mem _ (List.mem_append_left _ (List.mem_append_left _ (List.mem_append_right _ (List.mem_append_right _ (List.mem_append_right _ (List.mem_append_right _ (List.mem_append_left _ (h))))))))
theorem ggX1_readStatement_X1_readPond : GoodIn wsX1_readStatement wsX1_readPond := goodIn_sub (List.forall_mem_cons.mpr ⟨(pl_wsX1_readStatement_wsX1_readStatement_r5 _ (List.mem_of_getElem? (i := 1) rfl)), (fun w h => (List.mem_append.mp h).elim ((fun w h => (List.mem_append.mp h).elim ((fun w h => (List.mem_append.mp h).elim ((List.forall_mem_cons.mpr ⟨(pl_wsX1_readStatement_wsX1_readStatement_r4 _ (List.mem_of_getElem? (i := 7) rfl)), List.forall_mem_cons.mpr ⟨(pl_wsX1_readStatement_wsX1_readStatement_r1 _ (List.mem_of_getElem? (i := 10) rfl)), List.forall_mem_cons.mpr ⟨(pl_wsX1_readStatement_wsX1_readStatement_r5 _ (List.mem_of_getElem? (i := 2) rfl)), List.forall_mem_cons.mpr ⟨(pl_wsX1_readStatement_wsX1_readStatement_r5 _ (List.mem_of_getElem? (i := 3) rfl)), List.forall_mem_cons.mpr ⟨(pl_wsX1_readStatement_wsX1_readStatement_r5 _ (List.mem_of_getElem? (i := 4) rfl)), List.forall_mem_cons.mpr ⟨(pl_wsX1_readStatement_wsX1_readStatement_r1 _ (List.mem_of_getElem? (i := 4) rfl)), List.forall_mem_cons.mpr ⟨(pl_wsX1_readStatement_wsX1_readStatement_r5 _ (List.mem_of_getElem? (i := 5) rfl)), List.forall_mem_cons.mpr ⟨(pl_wsX1_readStatement_wsX1_readStatement_r1 _ (List.mem_of_getElem? (i := 0) rfl)), List.forall_mem_cons.mpr ⟨(pl_wsX1_readStatement_wsX1_readStatement_r1 _ (List.mem_of_getElem? (i := 1) rfl)), List.forall_mem_cons.mpr ⟨(pl_wsX1_readStatement_wsX1_readStatement_r1 _ (List.mem_of_getElem? (i := 2) rfl)), List.forall_mem_cons.mpr ⟨(pl_wsX1_readStatement_wsX1_readStatement_r1 _ (List.mem_of_getElem? (i := 3) rfl)), List.forall_mem_cons.mpr ⟨(pl_wsX1_readStatement_wsX1_readStatement_r1 _ (List.mem_of_getElem? (i := 5) rfl)), List.forall_mem_cons.mpr ⟨(pl_wsX1_readStatement_wsX1_readStatement_r1 _ (List.mem_of_getElem? (i := 6) rfl)), List.forall_mem_cons.mpr ⟨(pl_wsX1_readStatement_wsX1_readStatement_r1 _ (List.mem_of_getElem? (i := 7) rfl)), List.forall_mem_cons.mpr ⟨(pl_wsX1_readStatement_wsX1_readStatement_r1 _ (List.mem_of_getElem? (i := 8) rfl)), List.forall_mem_cons.mpr ⟨(pl_wsX1_readStatement_wsX1_readStatement_r1 _ (List.mem_of_getElem? (i := 9) rfl)), List.forall_mem_cons.mpr ⟨(pl_wsX1_readStatement_wsX1_readStatement_r1 _ (List.mem_of_getElem? (i := 11) rfl)), List.forall_mem_cons.mpr ⟨(pl_wsX1_readStatement_wsX1_readStatement_r1 _ (List.mem_of_getElem? (i := 12) rfl)), List.forall_mem_cons.mpr ⟨(pl_wsX1_readStatement_wsX1_readStatement_r1 _ (List.mem_of_getElem? (i := 13) rfl)), List.forall_mem_cons.mpr ⟨(pl_wsX1_readStatement_wsX1_readStatement_r1 _ (List.mem_of_getElem? (i := 14) rfl)), List.forall_mem_cons.mpr ⟨(pl_wsX1_readStatement_wsX1_readStatement_r1 _ (List.mem_of_getElem? (i := 15) rfl)), List.forall_mem_cons.mpr ⟨(pl_wsX1_readStatement_wsX1_readStatement_r1 _ (List.mem_of_getElem? (i := 16) rfl)), List.forall_mem_cons.mpr ⟨(pl_wsX1_readStatement_wsX1_readStatement_r1 _ (List.mem_of_getElem? (i := 17) rfl)), List.forall_mem_cons.mpr ⟨(pl_wsX1_readStatement_wsX1_readStatement_r1 _ (List.mem_of_getElem? (i := 18) rfl)), fun _ h => absurd h List.not_mem_nil⟩⟩⟩⟩⟩⟩⟩⟩⟩⟩⟩⟩⟩⟩⟩⟩⟩⟩⟩⟩⟩⟩⟩⟩) w) ((List.forall_mem_cons.mpr ⟨(pl_wsX1_readStatement_wsX1_readStatement_r1 _ (List.mem_of_getElem? (i := 19) rfl)), List.forall_mem_cons.mpr ⟨(pl_wsX1_readStatement_wsX1_readStatement_r1 _ (List.mem_of_getElem? (i := 20) rfl)), List.forall_mem_cons.mpr ⟨(pl_wsX1_readStatement_wsX1_readStatement_r1 _ (List.mem_of_getElem? (i := 21) rfl)), List.forall_mem_cons.mpr ⟨(pl_wsX1_readStatement_wsX1_readStatement_r5 _ (List.mem_of_getElem? (i := 6) rfl)), List.forall_mem_cons.mpr ⟨(pl_wsX1_readStatement_wsX1_readStatement_r5 _ (List.mem_of_getElem? (i := 7) rfl)), List.forall_mem_cons.mpr ⟨(pl_wsX1_readStatement_wsX1_readStatement_r5 _ (List.mem_of_getElem? (i := 8) rfl)), List.forall_mem_cons.mpr ⟨(pl_wsX1_readStatement_wsX1_readStatement_r4 _ (List.mem_of_getElem? (i := 15) rfl)), List.forall_mem_cons.mpr ⟨(pl_wsX1_readStatement_wsX1_readStatement_r5 _ (List.mem_of_getElem? (i := 9) rfl)), List.forall_mem_cons.mpr ⟨(pl_wsX1_readStatement_wsX1_readStatement_r4 _ (List.mem_of_getElem? (i := 17) rfl)), List.forall_mem_cons.mpr ⟨(pl_wsX1_readStatement_wsX1_readStatement_r5 _ (List.mem_of_getElem? (i := 10) rfl)), List.forall_mem_cons.mpr ⟨(pl_wsX1_readStatement_wsX1_readStatement_r5 _ (List.mem_of_getElem? (i := 11) rfl)), List.forall_mem_cons.mpr ⟨(pl_wsX1_readStatement_wsX1_readStatement_r5 _ (List.mem_of_getElem? (i := 12) rfl)), List.forall_mem_cons.mpr ⟨(pl_wsX1_readStatement_wsX1_readStatement_r5 _ (List.mem_of_getElem? (i := 13) rfl)), List.forall_mem_cons.mpr ⟨(pl_wsX1_readStatement_wsX1_readStatement_r5 _ (List.mem_of_getElem? (i := 14) rfl)), List.forall_mem_cons.mpr ⟨(pl_wsX1_readStatement_wsX1_readStatement_r5 _ (List.mem_of_getElem? (i := 15) rfl)), fun _ h => absurd h List.not_mem_nil⟩⟩⟩⟩⟩⟩⟩⟩⟩⟩⟩⟩⟩⟩⟩) w)) w) (pl_wsX1_readStatement_wsX10 w)) w) (pl_wsX1_readStatement_wsX00 w))⟩) (by decide +kernel)
set_option maxRecDepth 20000 in
theorem gX1_readStatement_X1_readPond : GoodIn wsX1_readStatement (wsV RX1 56 RX1 yX1_readPond wsX1_readPond) := goodIn_app (goodIn_sub (List.forall_mem_cons.mpr ⟨(pl_wsX1_readStatement_wsX1_readStatement_r4 _ (List.mem_of_getElem? (i := 22) rfl)), List.forall_mem_cons.mpr ⟨(pl_wsX1_readStatement_wsX1_readStatement_r4 _ (List.mem_of_getElem? (i := 23) rfl)), List.forall_mem_cons.mpr ⟨(pl_wsX1_readStatement_wsX1_readStatement_r5 _ (List.mem_of_getElem? (i := 0) rfl)), List.forall_mem_cons.mpr ⟨(pl_wsX1_readStatement_wsX1_readStatement_r1 _ (List.mem_of_getElem? (i := 4) rfl)), fun _ h => absurd h List.not_mem_nil⟩⟩⟩⟩) (by decide +kernel)) ggX1_readStatement_X1_readPond
set_option maxRecDepth 20000 in
theorem ggX1_readStatement_X1_readDry : GoodIn wsX1_readStatement wsX1_readDry := goodIn_sub (List.forall_mem_cons.mpr ⟨(pl_wsX1_readStatement_wsX1_readStatement_r5 _ (List.mem_of_getElem? (i := 19) rfl)), (fun w h => (List.mem_append.mp h).elim ((fun w h => (List.mem_append.mp h).elim ((fun w h => (List.mem_append.mp h).elim ((List.forall_mem_cons.mpr ⟨(pl_wsX1_readStatement_wsX1_readStatement_r4 _ (List.mem_of_getElem? (i := 7) rfl)), List.forall_mem_cons.mpr ⟨(pl_wsX1_readStatement_wsX1_readStatement_r1 _ (List.mem_of_getElem? (i := 10) rfl)), List.forall_mem_cons.mpr ⟨(pl_wsX1_readStatement_wsX1_readStatement_r5 _ (List.mem_of_getElem? (i := 2) rfl)), List.forall_mem_cons.mpr ⟨(pl_wsX1_readStatement_wsX1_readStatement_r5 _ (List.mem_of_getElem? (i := 3) rfl)), List.forall_mem_cons.mpr ⟨(pl_wsX1_readStatement_wsX1_readStatement_r5 _ (List.mem_of_getElem? (i := 4) rfl)), List.forall_mem_cons.mpr ⟨(pl_wsX1_readStatement_wsX1_readStatement_r1 _ (List.mem_of_getElem? (i := 4) rfl)), List.forall_mem_cons.mpr ⟨(pl_wsX1_readStatement_wsX1_readStatement_r5 _ (List.mem_of_getElem? (i := 5) rfl)), List.forall_mem_cons.mpr ⟨(pl_wsX1_readStatement_wsX1_readStatement_r1 _ (List.mem_of_getElem? (i := 0) rfl)), List.forall_mem_cons.mpr ⟨(pl_wsX1_readStatement_wsX1_readStatement_r1 _ (List.mem_of_getElem? (i := 1) rfl)), List.forall_mem_cons.mpr ⟨(pl_wsX1_readStatement_wsX1_readStatement_r1 _ (List.mem_of_getElem? (i := 2) rfl)), List.forall_mem_cons.mpr ⟨(pl_wsX1_readStatement_wsX1_readStatement_r1 _ (List.mem_of_getElem? (i := 3) rfl)), List.forall_mem_cons.mpr ⟨(pl_wsX1_readStatement_wsX1_readStatement_r1 _ (List.mem_of_getElem? (i := 5) rfl)), List.forall_mem_cons.mpr ⟨(pl_wsX1_readStatement_wsX1_readStatement_r1 _ (List.mem_of_getElem? (i := 6) rfl)), List.forall_mem_cons.mpr ⟨(pl_wsX1_readStatement_wsX1_readStatement_r1 _ (List.mem_of_getElem? (i := 7) rfl)), List.forall_mem_cons.mpr ⟨(pl_wsX1_readStatement_wsX1_readStatement_r1 _ (List.mem_of_getElem? (i := 8) rfl)), List.forall_mem_cons.mpr ⟨(pl_wsX1_readStatement_wsX1_readStatement_r1 _ (List.mem_of_getElem? (i := 9) rfl)), List.forall_mem_cons.mpr ⟨(pl_wsX1_readStatement_wsX1_readStatement_r1 _ (List.mem_of_getElem? (i := 11) rfl)), List.forall_mem_cons.mpr ⟨(pl_wsX1_readStatement_wsX1_readStatement_r1 _ (List.mem_of_getElem? (i := 12) rfl)), List.forall_mem_cons.mpr ⟨(pl_wsX1_readStatement_wsX1_readStatement_r1 _ (List.mem_of_getElem? (i := 13) rfl)), List.forall_mem_cons.mpr ⟨(pl_wsX1_readStatement_wsX1_readStatement_r1 _ (List.mem_of_getElem? (i := 14) rfl)), List.forall_mem_cons.mpr ⟨(pl_wsX1_readStatement_wsX1_readStatement_r1 _ (List.mem_of_getElem? (i := 15) rfl)), List.forall_mem_cons.mpr ⟨(pl_wsX1_readStatement_wsX1_readStatement_r1 _ (List.mem_of_getElem? (i := 16) rfl)), List.forall_mem_cons.mpr ⟨(pl_wsX1_readStatement_wsX1_readStatement_r1 _ (List.mem_of_getElem? (i := 17) rfl)), List.forall_mem_cons.mpr ⟨(pl_wsX1_readStatement_wsX1_readStatement_r1 _ (List.mem_of_getElem? (i := 18) rfl)), fun _ h => absurd h List.not_mem_nil⟩⟩⟩⟩⟩⟩⟩⟩⟩⟩⟩⟩⟩⟩⟩⟩⟩⟩⟩⟩⟩⟩⟩⟩) w) ((List.forall_mem_cons.mpr ⟨(pl_wsX1_readStatement_wsX1_readStatement_r1 _ (List.mem_of_getElem? (i := 19) rfl)), List.forall_mem_cons.mpr ⟨(pl_wsX1_readStatement_wsX1_readStatement_r1 _ (List.mem_of_getElem? (i := 20) rfl)), List.forall_mem_cons.mpr ⟨(pl_wsX1_readStatement_wsX1_readStatement_r1 _ (List.mem_of_getElem? (i := 21) rfl)), List.forall_mem_cons.mpr ⟨(pl_wsX1_readStatement_wsX1_readStatement_r5 _ (List.mem_of_getElem? (i := 6) rfl)), List.forall_mem_cons.mpr ⟨(pl_wsX1_readStatement_wsX1_readStatement_r5 _ (List.mem_of_getElem? (i := 7) rfl)), List.forall_mem_cons.mpr ⟨(pl_wsX1_readStatement_wsX1_readStatement_r5 _ (List.mem_of_getElem? (i := 8) rfl)), List.forall_mem_cons.mpr ⟨(pl_wsX1_readStatement_wsX1_readStatement_r4 _ (List.mem_of_getElem? (i := 15) rfl)), List.forall_mem_cons.mpr ⟨(pl_wsX1_readStatement_wsX1_readStatement_r5 _ (List.mem_of_getElem? (i := 9) rfl)), List.forall_mem_cons.mpr ⟨(pl_wsX1_readStatement_wsX1_readStatement_r4 _ (List.mem_of_getElem? (i := 17) rfl)), fun _ h => absurd h List.not_mem_nil⟩⟩⟩⟩⟩⟩⟩⟩⟩) w)) w) (pl_wsX1_readStatement_wsX10 w)) w) (pl_wsX1_readStatement_wsX00 w))⟩) (by decide +kernel)
set_option maxRecDepth 20000 in
theorem gX1_readStatement_X1_readDry : GoodIn wsX1_readStatement (wsV RX1 61 RX1 yX1_readDry wsX1_readDry) := goodIn_app (goodIn_sub (List.forall_mem_cons.mpr ⟨(pl_wsX1_readStatement_wsX1_readStatement_r5 _ (List.mem_of_getElem? (i := 16) rfl)), List.forall_mem_cons.mpr ⟨(pl_wsX1_readStatement_wsX1_readStatement_r5 _ (List.mem_of_getElem? (i := 17) rfl)), List.forall_mem_cons.mpr ⟨(pl_wsX1_readStatement_wsX1_readStatement_r5 _ (List.mem_of_getElem? (i := 18) rfl)), List.forall_mem_cons.mpr ⟨(pl_wsX1_readStatement_wsX1_readStatement_r1 _ (List.mem_of_getElem? (i := 4) rfl)), fun _ h => absurd h List.not_mem_nil⟩⟩⟩⟩) (by decide +kernel)) ggX1_readStatement_X1_readDry
set_option maxRecDepth 20000 in
theorem pl_wsX1_readStatement_wsX1_readStatement_r6 : ∀ w ∈ wsX1_readStatement_r6, w ∈ wsX1_readStatement := fun _ h => List.mem_cons_of_mem _ (List.mem_append_left _ (List.mem_append_left _ (List.mem_append_right _ (List.mem_append_right _ (List.mem_append_right _ (List.mem_append_right _ (List.mem_append_right _ (List.mem_append_left _ (h)))))))))
theorem ggX1_readStatement_X1_readPerson : GoodIn wsX1_readStatement wsX1_readPerson := goodIn_sub (List.forall_mem_cons.mpr ⟨(pl_wsX1_readStatement_wsX1_readStatement_r5 _ (List.mem_of_getElem? (i := 23) rfl)), (fun w h => (List.mem_append.mp h).elim ((fun w h => (List.mem_append.mp h).elim ((fun w h => (List.mem_append.mp h).elim ((List.forall_mem_cons.mpr ⟨(pl_wsX1_readStatement_wsX1_readStatement_r4 _ (List.mem_of_getElem? (i := 7) rfl)), List.forall_mem_cons.mpr ⟨(pl_wsX1_readStatement_wsX1_readStatement_r1 _ (List.mem_of_getElem? (i := 10) rfl)), List.forall_mem_cons.mpr ⟨(pl_wsX1_readStatement_wsX1_readStatement_r6 _ (List.mem_of_getElem? (i := 0) rfl)), List.forall_mem_cons.mpr ⟨(pl_wsX1_readStatement_wsX1_readStatement_r6 _ (List.mem_of_getElem? (i := 1) rfl)), List.forall_mem_cons.mpr ⟨(pl_wsX1_readStatement_wsX1_readStatement_r6 _ (List.mem_of_getElem? (i := 2) rfl)), List.forall_mem_cons.mpr ⟨(pl_wsX1_readStatement_wsX1_readStatement_r4 _ (List.mem_of_getElem? (i := 15) rfl)), List.forall_mem_cons.mpr ⟨(pl_wsX1_readStatement_wsX1_readStatement_r6 _ (List.mem_of_getElem? (i := 3) rfl)), List.forall_mem_cons.mpr ⟨(pl_wsX1_readStatement_wsX1_readStatement_r5 _ (List.mem_of_getElem? (i := 14) rfl)), List.forall_mem_cons.mpr ⟨(pl_wsX1_readStatement_wsX1_readStatement_r4 _ (List.mem_of_getElem? (i := 8) rfl)), List.forall_mem_cons.mpr ⟨(pl_wsX1_readStatement_wsX1_readStatement_r4 _ (List.mem_of_getElem? (i := 9) rfl)), List.forall_mem_cons.mpr ⟨(pl_wsX1_readStatement_wsX1_readStatement_r4 _ (List.mem_of_getElem? (i := 10) rfl)), List.forall_mem_cons.mpr ⟨(pl_wsX1_readStatement_wsX1_readStatement_r1 _ (List.mem_of_getElem? (i := 4) rfl)), List.forall_mem_cons.mpr ⟨(pl_wsX1_readStatement_wsX1_readStatement_r4 _ (List.mem_of_getElem? (i := 11) rfl)), List.forall_mem_cons.mpr ⟨(pl_wsX1_readStatement_wsX1_readStatement_r1 _ (List.mem_of_getElem? (i := 0) rfl)), List.forall_mem_cons.mpr ⟨(pl_wsX1_readStatement_wsX1_readStatement_r1 _ (List.mem_of_getElem? (i := 1) rfl)), List.forall_mem_cons.mpr ⟨(pl_wsX1_readStatement_wsX1_readStatement_r1 _ (List.mem_of_getElem? (i := 2) rfl)), List.forall_mem_cons.mpr ⟨(pl_wsX1_readStatement_wsX1_readStatement_r1 _ (List.mem_of_getElem? (i := 3) rfl)), List.forall_mem_cons.mpr ⟨(pl_wsX1_readStatement_wsX1_readStatement_r1 _ (List.mem_of_getElem? (i := 5) rfl)), List.forall_mem_cons.mpr ⟨(pl_wsX1_readStatement_wsX1_readStatement_r1 _ (List.mem_of_getElem? (i := 6) rfl)), List.forall_mem_cons.mpr ⟨(pl_wsX1_readStatement_wsX1_readStatement_r1 _ (List.mem_of_getElem? (i := 7) rfl)), List.forall_mem_cons.mpr ⟨(pl_wsX1_readStatement_wsX1_readStatement_r1 _ (List.mem_of_getElem? (i := 8) rfl)), List.forall_mem_cons.mpr ⟨(pl_wsX1_readStatement_wsX1_readStatement_r1 _ (List.mem_of_getElem? (i := 9) rfl)), List.forall_mem_cons.mpr ⟨(pl_wsX1_readStatement_wsX1_readStatement_r1 _ (List.mem_of_getElem? (i := 11) rfl)), List.forall_mem_cons.mpr ⟨(pl_wsX1_readStatement_wsX1_readStatement_r1 _ (List.mem_of_getElem? (i := 12) rfl)), fun _ h => absurd h List.not_mem_nil⟩⟩⟩⟩⟩⟩⟩⟩⟩⟩⟩⟩⟩⟩⟩⟩⟩⟩⟩⟩⟩⟩⟩⟩) w) ((fun w h => (List.mem_append.mp h).elim ((List.forall_mem_cons.mpr ⟨(pl_wsX1_readStatement_wsX1_readStatement_r1 _ (List.mem_of_getElem? (i := 13) rfl)), List.forall_mem_cons.mpr ⟨(pl_wsX1_readStatement_wsX1_readStatement_r1 _ (List.mem_of_getElem? (i := 14) rfl)), List.forall_mem_cons.mpr ⟨(pl_wsX1_readStatement_wsX1_readStatement_r1 _ (List.mem_of_getElem? (i := 15) rfl)), List.forall_mem_cons.mpr ⟨(pl_wsX1_readStatement_wsX1_readStatement_r1 _ (List.mem_of_getElem? (i := 16) rfl)), List.forall_mem_cons.mpr ⟨(pl_wsX1_readStatement_wsX1_readStatement_r1 _ (List.mem_of_getElem? (i := 17) rfl)), List.forall_mem_cons.mpr ⟨(pl_wsX1_readStatement_wsX1_readStatement_r1 _ (List.mem_of_getElem? (i := 18) rfl)), List.forall_mem_cons.mpr ⟨(pl_wsX1_readStatement_wsX1_readStatement_r1 _ (List.mem_of_getElem? (i := 19) rfl)), List.forall_mem_cons.mpr ⟨(pl_wsX1_readStatement_wsX1_readStatement_r1 _ (List.mem_of_getElem? (i := 20) rfl)), List.forall_mem_cons.mpr ⟨(pl_wsX1_readStatement_wsX1_readStatement_r1 _ (List.mem_of_getElem? (i := 21) rfl)), List.forall_mem_cons.mpr ⟨(pl_wsX1_readStatement_wsX1_readStatement_r5 _ (List.mem_of_getElem? (i := 2) rfl)), List.forall_mem_cons.mpr ⟨(pl_wsX1_readStatement_wsX1_readStatement_r5 _ (List.mem_of_getElem? (i := 3) rfl)), List.forall_mem_cons.mpr ⟨(pl_wsX1_readStatement_wsX1_readStatement_r5 _ (List.mem_of_getElem? (i := 4) rfl)), List.forall_mem_cons.mpr ⟨(pl_wsX1_readStatement_wsX1_readStatement_r5 _ (List.mem_of_getElem? (i := 5) rfl)), List.forall_mem_cons.mpr ⟨(pl_wsX1_readStatement_wsX1_readStatement_r5 _ (List.mem_of_getElem? (i := 6) rfl)), List.forall_mem_cons.mpr ⟨(pl_wsX1_readStatement_wsX1_readStatement_r5 _ (List.mem_of_getElem? (i := 7) rfl)), List.forall_mem_cons.mpr ⟨(pl_wsX1_readStatement_wsX1_readStatement_r5 _ (List.mem_of_getElem? (i := 8) rfl)), List.forall_mem_cons.mpr ⟨(pl_wsX1_readStatement_wsX1_readStatement_r5 _ (List.mem_of_getElem? (i := 9) rfl)), List.forall_mem_cons.mpr ⟨(pl_wsX1_readStatement_wsX1_readStatement_r4 _ (List.mem_of_getElem? (i := 17) rfl)), List.forall_mem_cons.mpr ⟨(pl_wsX1_readStatement_wsX1_readStatement_r6 _ (List.mem_of_getElem? (i := 4) rfl)), List.forall_mem_cons.mpr ⟨(pl_wsX1_readStatement_wsX1_readStatement_r6 _ (List.mem_of_getElem? (i := 5) rfl)), List.forall_mem_cons.mpr ⟨(pl_wsX1_readStatement_wsX1_readStatement_r6 _ (List.mem_of_getElem? (i := 6) rfl)), List.forall_mem_cons.mpr ⟨(pl_wsX1_readStatement_wsX1_readStatement_r6 _ (List.mem_of_getElem? (i := 7) rfl)), List.forall_mem_cons.mpr ⟨(pl_wsX1_readStatement_wsX1_readStatement_r6 _ (List.mem_of_getElem? (i := 8) rfl)), List.forall_mem_cons.mpr ⟨(pl_wsX1_readStatement_wsX1_readStatement_r6 _ (List.mem_of_getElem? (i := 9) rfl)), fun _ h => absurd h List.not_mem_nil⟩⟩⟩⟩⟩⟩⟩⟩⟩⟩⟩⟩⟩⟩⟩⟩⟩⟩⟩⟩⟩⟩⟩⟩) w) ((List.forall_mem_cons.mpr ⟨(pl_wsX1_readStatement_wsX1_readStatement_r6 _ (List.mem_of_getElem? (i := 10) rfl)), List.forall_mem_cons.mpr ⟨(pl_wsX1_readStatement_wsX1_readStatement_r6 _ (List.mem_of_getElem? (i := 11) rfl)), List.forall_mem_cons.mpr ⟨(pl_wsX1_readStatement_wsX1_readStatement_r6 _ (List.mem_of_getElem? (i := 12) rfl)), List.forall_mem_cons.mpr ⟨(pl_wsX1_readStatement_wsX1_readStatement_r6 _ (List.mem_of_getElem? (i := 13) rfl)), List.forall_mem_cons.mpr ⟨(pl_wsX1_readStatement_wsX1_readStatement_r6 _ (List.mem_of_getElem? (i := 14) rfl)), List.forall_mem_cons.mpr ⟨(pl_wsX1_readStatement_wsX1_readStatement_r6 _ (List.mem_of_getElem? (i := 15) rfl)), List.forall_mem_cons.mpr ⟨(pl_wsX1_readStatement_wsX1_readStatement_r5 _ (List.mem_of_getElem? (i := 15) rfl)), List.forall_mem_cons.mpr ⟨(pl_wsX1_readStatement_wsX1_readStatement_r6 _ (List.mem_of_getElem? (i := 16) rfl)), List.forall_mem_cons.mpr ⟨(pl_wsX1_readStatement_wsX1_readStatement_r6 _ (List.mem_of_getElem? (i := 17) rfl)), List.forall_mem_cons.mpr ⟨(pl_wsX1_readStatement_wsX1_readStatement_r6 _ (List.mem_of_getElem? (i := 18) rfl)), fun _ h => absurd h List.not_mem_nil⟩⟩⟩⟩⟩⟩⟩⟩⟩⟩) w)) w)) w) (pl_wsX1_readStatement_wsX10 w)) w) (pl_wsX1_readStatement_wsX00 w))⟩) (by decide +kernel)
set_option maxRecDepth 20000 in
theorem gX1_readStatement_X1_readPerson : GoodIn wsX1_readStatement (wsV RX1 66 RX1 yX1_readPerson wsX1_readPerson) := goodIn_app (goodIn_sub (List.forall_mem_cons.mpr ⟨(pl_wsX1_readStatement_wsX1_readStatement_r5 _ (List.mem_of_getElem? (i := 20) rfl)), List.forall_mem_cons.mpr ⟨(pl_wsX1_readStatement_wsX1_readStatement_r5 _ (List.mem_of_getElem? (i := 21) rfl)), List.forall_mem_cons.mpr ⟨(pl_wsX1_readStatement_wsX1_readStatement_r5 _ (List.mem_of_getElem? (i := 22) rfl)), List.forall_mem_cons.mpr ⟨(pl_wsX1_readStatement_wsX1_readStatement_r1 _ (List.mem_of_getElem? (i := 4) rfl)), fun _ h => absurd h List.not_mem_nil⟩⟩⟩⟩) (by decide +kernel)) ggX1_readStatement_X1_readPerson
set_option maxRecDepth 20000 in
theorem pl_wsX1_readStatement_wsX1_readStatement_r7 : ∀ w ∈ wsX1_readStatement_r7, w ∈ wsX1_readStatement := fun _ h => List.mem_cons_of_mem _ (List.mem_append_left _ (List.mem_append_left _ (List.mem_append_right _ (List.mem_append_right _ (List.mem_append_right _ (List.mem_append_right _ (List.mem_append_right _ (List.mem_append_right _ (h)))))))))
theorem ggX1_readStatement_X1_readIs : GoodIn wsX1_readStatement wsX1_readIs := goodIn_sub (List.forall_mem_cons.mpr ⟨(pl_wsX1_readStatement_wsX1_readStatement_r6 _ (List.mem_of_getElem? (i := 22) rfl)), (fun w h => (List.mem_append.mp h).elim ((fun w h => (List.mem_append.mp h).elim ((fun w h => (List.mem_append.mp h).elim ((List.forall_mem_cons.mpr ⟨(pl_wsX1_readStatement_wsX1_readStatement_r4 _ (List.mem_of_getElem? (i := 7) rfl)), List.forall_mem_cons.mpr ⟨(pl_wsX1_readStatement_wsX1_readStatement_r1 _ (List.mem_of_getElem? (i := 10) rfl)), List.forall_mem_cons.mpr ⟨(pl_wsX1_readStatement_wsX1_readStatement_r4 _ (List.mem_of_getElem? (i := 8) rfl)), List.forall_mem_cons.mpr ⟨(pl_wsX1_readStatement_wsX1_readStatement_r4 _ (List.mem_of_getElem? (i := 9) rfl)), List.forall_mem_cons.mpr ⟨(pl_wsX1_readStatement_wsX1_readStatement_r4 _ (List.mem_of_getElem? (i := 10) rfl)), List.forall_mem_cons.mpr ⟨(pl_wsX1_readStatement_wsX1_readStatement_r1 _ (List.mem_of_getElem? (i := 4) rfl)), List.forall_mem_cons.mpr ⟨(pl_wsX1_readStatement_wsX1_readStatement_r4 _ (List.mem_of_getElem? (i := 11) rfl)), List.forall_mem_cons.mpr ⟨(pl_wsX1_readStatement_wsX1_readStatement_r1 _ (List.mem_of_getElem? (i := 0) rfl)), List.forall_mem_cons.mpr ⟨(pl_wsX1_readStatement_wsX1_readStatement_r1 _ (List.mem_of_getElem? (i := 1) rfl)), List.forall_mem_cons.mpr ⟨(pl_wsX1_readStatement_wsX1_readStatement_r1 _ (List.mem_of_getElem? (i := 2) rfl)), List.forall_mem_cons.mpr ⟨(pl_wsX1_readStatement_wsX1_readStatement_r1 _ (List.mem_of_getElem? (i := 3) rfl)), List.forall_mem_cons.mpr ⟨(pl_wsX1_readStatement_wsX1_readStatement_r1 _ (List.mem_of_getElem? (i := 5) rfl)), List.forall_mem_cons.mpr ⟨(pl_wsX1_readStatement_wsX1_readStatement_r1 _ (List.mem_of_getElem? (i := 6) rfl)), List.forall_mem_cons.mpr ⟨(pl_wsX1_readStatement_wsX1_readStatement_r1 _ (List.mem_of_getElem? (i := 7) rfl)), List.forall_mem_cons.mpr ⟨(pl_wsX1_readStatement_wsX1_readStatement_r1 _ (List.mem_of_getElem? (i := 8) rfl)), List.forall_mem_cons.mpr ⟨(pl_wsX1_readStatement_wsX1_readStatement_r1 _ (List.mem_of_getElem? (i := 9) rfl)), List.forall_mem_cons.mpr ⟨(pl_wsX1_readStatement_wsX1_readStatement_r1 _ (List.mem_of_getElem? (i := 11) rfl)), List.forall_mem_cons.mpr ⟨(pl_wsX1_readStatement_wsX1_readStatement_r1 _ (List.mem_of_getElem? (i := 12) rfl)), List.forall_mem_cons.mpr ⟨(pl_wsX1_readStatement_wsX1_readStatement_r1 _ (List.mem_of_getElem? (i := 13) rfl)), List.forall_mem_cons.mpr ⟨(pl_wsX1_readStatement_wsX1_readStatement_r1 _ (List.mem_of_getElem? (i := 14) rfl)), List.forall_mem_cons.mpr ⟨(pl_wsX1_readStatement_wsX1_readStatement_r1 _ (List.mem_of_getElem? (i := 15) rfl)), List.forall_mem_cons.mpr ⟨(pl_wsX1_readStatement_wsX1_readStatement_r1 _ (List.mem_of_getElem? (i := 16) rfl)), List.forall_mem_cons.mpr ⟨(pl_wsX1_readStatement_wsX1_readStatement_r1 _ (List.mem_of_getElem? (i := 17) rfl)), List.forall_mem_cons.mpr ⟨(pl_wsX1_readStatement_wsX1_readStatement_r1 _ (List.mem_of_getElem? (i := 18) rfl)), fun _ h => absurd h List.not_mem_nil⟩⟩⟩⟩⟩⟩⟩⟩⟩⟩⟩⟩⟩⟩⟩⟩⟩⟩⟩⟩⟩⟩⟩⟩) w) ((List.forall_mem_cons.mpr ⟨(pl_wsX1_readStatement_wsX1_readStatement_r1 _ (List.mem_of_getElem? (i := 19) rfl)), List.forall_mem_cons.mpr ⟨(pl_wsX1_readStatement_wsX1_readStatement_r1 _ (List.mem_of_getElem? (i := 20) rfl)), List.forall_mem_cons.mpr ⟨(pl_wsX1_readStatement_wsX1_readStatement_r1 _ (List.mem_of_getElem? (i := 21) rfl)), List.forall_mem_cons.mpr ⟨(pl_wsX1_readStatement_wsX1_readStatement_r6 _ (List.mem_of_getElem? (i := 23) rfl)), List.forall_mem_cons.mpr ⟨(pl_wsX1_readStatement_wsX1_readStatement_r7 _ (List.mem_of_getElem? (i := 0) rfl)), List.forall_mem_cons.mpr ⟨(pl_wsX1_readStatement_wsX1_readStatement_r7 _ (List.mem_of_getElem? (i := 1) rfl)), List.forall_mem_cons.mpr ⟨(pl_wsX1_readStatement_wsX1_readStatement_r4 _ (List.mem_of_getElem? (i := 15) rfl)), List.forall_mem_cons.mpr ⟨(pl_wsX1_readStatement_wsX1_readStatement_r7 _ (List.mem_of_getElem? (i := 2) rfl)), List.forall_mem_cons.mpr ⟨(pl_wsX1_readStatement_wsX1_readStatement_r5 _ (List.mem_of_getElem? (i := 14) rfl)), fun _ h => absurd h List.not_mem_nil⟩⟩⟩⟩⟩⟩⟩⟩⟩) w)) w) (pl_wsX1_readStatement_wsX10 w)) w) (pl_wsX1_readStatement_wsX00 w))⟩) (by decide +kernel)
set_option maxRecDepth 20000 in
theorem gX1_readStatement_X1_readIs : GoodIn wsX1_readStatement (wsV RX1 71 RX1 yX1_readIs wsX1_readIs) := goodIn_app (goodIn_sub (List.forall_mem_cons.mpr ⟨(pl_wsX1_readStatement_wsX1_readStatement_r6 _ (List.mem_of_getElem? (i := 19) rfl)), List.forall_mem_cons.mpr ⟨(pl_wsX1_readStatement_wsX1_readStatement_r6 _ (List.mem_of_getElem? (i := 20) rfl)), List.forall_mem_cons.mpr ⟨(pl_wsX1_readStatement_wsX1_readStatement_r6 _ (List.mem_of_getElem? (i := 21) rfl)), List.forall_mem_cons.mpr ⟨(pl_wsX1_readStatement_wsX1_readStatement_r1 _ (List.mem_of_getElem? (i := 4) rfl)), fun _ h => absurd h List.not_mem_nil⟩⟩⟩⟩) (by decide +kernel)) ggX1_readStatement_X1_readIs
set_option maxRecDepth 20000 in
theorem ggX1_readStatement_X1_readYear : GoodIn wsX1_readStatement wsX1_readYear := goodIn_sub (List.forall_mem_cons.mpr ⟨(pl_wsX1_readStatement_wsX1_readStatement_r7 _ (List.mem_of_getElem? (i := 6) rfl)), (fun w h => (List.mem_append.mp h).elim ((fun w h => (List.mem_append.mp h).elim ((fun w h => (List.mem_append.mp h).elim ((List.forall_mem_cons.mpr ⟨(pl_wsX1_readStatement_wsX1_readStatement_r4 _ (List.mem_of_getElem? (i := 7) rfl)), List.forall_mem_cons.mpr ⟨(pl_wsX1_readStatement_wsX1_readStatement_r1 _ (List.mem_of_getElem? (i := 10) rfl)), List.forall_mem_cons.mpr ⟨(pl_wsX1_readStatement_wsX1_readStatement_r1 _ (List.mem_of_getElem? (i := 22) rfl)), List.forall_mem_cons.mpr ⟨(pl_wsX1_readStatement_wsX1_readStatement_r1 _ (List.mem_of_getElem? (i := 23) rfl)), List.forall_mem_cons.mpr ⟨(pl_wsX1_readStatement_wsX1_readStatement_r2 _ (List.mem_of_getElem? (i := 0) rfl)), List.forall_mem_cons.mpr ⟨(pl_wsX1_readStatement_wsX1_readStatement_r1 _ (List.mem_of_getElem? (i := 4) rfl)), List.forall_mem_cons.mpr ⟨(pl_wsX1_readStatement_wsX1_readStatement_r2 _ (List.mem_of_getElem? (i := 1) rfl)), List.forall_mem_cons.mpr ⟨(pl_wsX1_readStatement_wsX1_readStatement_r1 _ (List.mem_of_getElem? (i := 6) rfl)), List.forall_mem_cons.mpr ⟨(pl_wsX1_readStatement_wsX1_readStatement_r1 _ (List.mem_of_getElem? (i := 9) rfl)), List.forall_mem_cons.mpr ⟨(pl_wsX1_readStatement_wsX1_readStatement_r1 _ (List.mem_of_getElem? (i := 8) rfl)), List.forall_mem_cons.mpr ⟨(pl_wsX1_readStatement_wsX1_readStatement_r2 _ (List.mem_of_getElem? (i := 2) rfl)), List.forall_mem_cons.mpr ⟨(pl_wsX1_readStatement_wsX1_readStatement_r2 _ (List.mem_of_getElem? (i := 3) rfl)), List.forall_mem_cons.mpr ⟨(pl_wsX1_readStatement_wsX1_readStatement_r2 _ (List.mem_of_getElem? (i := 4) rfl)), List.forall_mem_cons.mpr ⟨(pl_wsX1_readStatement_wsX1_readStatement_r2 _ (List.mem_of_getElem? (i := 5) rfl)), List.forall_mem_cons.mpr ⟨(pl_wsX1_readStatement_wsX1_readStatement_r2 _ (List.mem_of_getElem? (i := 6) rfl)), List.forall_mem_cons.mpr ⟨(pl_wsX1_readStatement_wsX1_readStatement_r2 _ (List.mem_of_getElem? (i := 7) rfl)), List.forall_mem_cons.mpr ⟨(pl_wsX1_readStatement_wsX1_readStatement_r2 _ (List.mem_of_getElem? (i := 8) rfl)), List.forall_mem_cons.mpr ⟨(pl_wsX1_readStatement_wsX1_readStatement_r2 _ (List.mem_of_getElem? (i := 9) rfl)), List.forall_mem_cons.mpr ⟨(pl_wsX1_readStatement_wsX1_readStatement_r2 _ (List.mem_of_getElem? (i := 10) rfl)), List.forall_mem_cons.mpr ⟨(pl_wsX1_readStatement_wsX1_readStatement_r2 _ (List.mem_of_getElem? (i := 11) rfl)), List.forall_mem_cons.mpr ⟨(pl_wsX1_readStatement_wsX1_readStatement_r2 _ (List.mem_of_getElem? (i := 12) rfl)), List.forall_mem_cons.mpr ⟨(pl_wsX1_readStatement_wsX1_readStatement_r2 _ (List.mem_of_getElem? (i := 13) rfl)), List.forall_mem_cons.mpr ⟨(pl_wsX1_readStatement_wsX1_readStatement_r2 _ (List.mem_of_getElem? (i := 14) rfl)), List.forall_mem_cons.mpr ⟨(pl_wsX1_readStatement_wsX1_readStatement_r2 _ (List.mem_of_getElem? (i := 15) rfl)), fun _ h => absurd h List.not_mem_nil⟩⟩⟩⟩⟩⟩⟩⟩⟩⟩⟩⟩⟩⟩⟩⟩⟩⟩⟩⟩⟩⟩⟩⟩) w) ((fun w h => (List.mem_append.mp h).elim ((List.forall_mem_cons.mpr ⟨(pl_wsX1_readStatement_wsX1_readStatement_r2 _ (List.mem_of_getElem? (i := 16) rfl)), List.forall_mem_cons.mpr ⟨(pl_wsX1_readStatement_wsX1_readStatement_r2 _ (List.mem_of_getElem? (i := 17) rfl)), List.forall_mem_cons.mpr ⟨(pl_wsX1_readStatement_wsX1_readStatement_r2 _ (List.mem_of_getElem? (i := 18) rfl)), List.forall_mem_cons.mpr ⟨(pl_wsX1_readStatement_wsX1_readStatement_r2 _ (List.mem_of_getElem? (i := 19) rfl)), List.forall_mem_cons.mpr ⟨(pl_wsX1_readStatement_wsX1_readStatement_r2 _ (List.mem_of_getElem? (i := 20) rfl)), List.forall_mem_cons.mpr ⟨(pl_wsX1_readStatement_wsX1_readStatement_r2 _ (List.mem_of_getElem? (i := 21) rfl)), List.forall_mem_cons.mpr ⟨(pl_wsX1_readStatement_wsX1_readStatement_r2 _ (List.mem_of_getElem? (i := 22) rfl)), List.forall_mem_cons.mpr ⟨(pl_wsX1_readStatement_wsX1_readStatement_r2 _ (List.mem_of_getElem? (i := 23) rfl)), List.forall_mem_cons.mpr ⟨(pl_wsX1_readStatement_wsX1_readStatement_r3 _ (List.mem_of_getElem? (i := 0) rfl)), List.forall_mem_cons.mpr ⟨(pl_wsX1_readStatement_wsX1_readStatement_r3 _ (List.mem_of_getElem? (i := 1) rfl)), List.forall_mem_cons.mpr ⟨(pl_wsX1_readStatement_wsX1_readStatement_r3 _ (List.mem_of_getElem? (i := 2) rfl)), List.forall_mem_cons.mpr ⟨(pl_wsX1_readStatement_wsX1_readStatement_r3 _ (List.mem_of_getElem? (i := 3) rfl)), List.forall_mem_cons.mpr ⟨(pl_wsX1_readStatement_wsX1_readStatement_r3 _ (List.mem_of_getElem? (i := 4) rfl)), List.forall_mem_cons.mpr ⟨(pl_wsX1_readStatement_wsX1_readStatement_r3 _ (List.mem_of_getElem? (i := 5) rfl)), List.forall_mem_cons.mpr ⟨(pl_wsX1_readStatement_wsX1_readStatement_r3 _ (List.mem_of_getElem? (i := 6) rfl)), List.forall_mem_cons.mpr ⟨(pl_wsX1_readStatement_wsX1_readStatement_r3 _ (List.mem_of_getElem? (i := 7) rfl)), List.forall_mem_cons.mpr ⟨(pl_wsX1_readStatement_wsX1_readStatement_r3 _ (List.mem_of_getElem? (i := 8) rfl)), List.forall_mem_cons.mpr ⟨(pl_wsX1_readStatement_wsX1_readStatement_r3 _ (List.mem_of_getElem? (i := 9) rfl)), List.forall_mem_cons.mpr ⟨(pl_wsX1_readStatement_wsX1_readStatement_r3 _ (List.mem_of_getElem? (i := 10) rfl)), List.forall_mem_cons.mpr ⟨(pl_wsX1_readStatement_wsX1_readStatement_r3 _ (List.mem_of_getElem? (i := 11) rfl)), List.forall_mem_cons.mpr ⟨(pl_wsX1_readStatement_wsX1_readStatement_r3 _ (List.mem_of_getElem? (i := 12) rfl)), List.forall_mem_cons.mpr ⟨(pl_wsX1_readStatement_wsX1_readStatement_r3 _ (List.mem_of_getElem? (i := 13) rfl)), List.forall_mem_cons.mpr ⟨(pl_wsX1_readStatement_wsX1_readStatement_r3 _ (List.mem_of_getElem? (i := 14) rfl)), List.forall_mem_cons.mpr ⟨(pl_wsX1_readStatement_wsX1_readStatement_r3 _ (List.mem_of_getElem? (i := 15) rfl)), fun _ h => absurd h List.not_mem_nil⟩⟩⟩⟩⟩⟩⟩⟩⟩⟩⟩⟩⟩⟩⟩⟩⟩⟩⟩⟩⟩⟩⟩⟩) w) ((fun w h => (List.mem_append.mp h).elim ((List.forall_mem_cons.mpr ⟨(pl_wsX1_readStatement_wsX1_readStatement_r3 _ (List.mem_of_getElem? (i := 16) rfl)), List.forall_mem_cons.mpr ⟨(pl_wsX1_readStatement_wsX1_readStatement_r3 _ (List.mem_of_getElem? (i := 17) rfl)), List.forall_mem_cons.mpr ⟨(pl_wsX1_readStatement_wsX1_readStatement_r3 _ (List.mem_of_getElem? (i := 18) rfl)), List.forall_mem_cons.mpr ⟨(pl_wsX1_readStatement_wsX1_readStatement_r3 _ (List.mem_of_getElem? (i := 19) rfl)), List.forall_mem_cons.mpr ⟨(pl_wsX1_readStatement_wsX1_readStatement_r3 _ (List.mem_of_getElem? (i := 20) rfl)), List.forall_mem_cons.mpr ⟨(pl_wsX1_readStatement_wsX1_readStatement_r3 _ (List.mem_of_getElem? (i := 21) rfl)), List.forall_mem_cons.mpr ⟨(pl_wsX1_readStatement_wsX1_readStatement_r3 _ (List.mem_of_getElem? (i := 22) rfl)), List.forall_mem_cons.mpr ⟨(pl_wsX1_readStatement_wsX1_readStatement_r3 _ (List.mem_of_getElem? (i := 23) rfl)), List.forall_mem_cons.mpr ⟨(pl_wsX1_readStatement_wsX1_readStatement_r4 _ (List.mem_of_getElem? (i := 0) rfl)), List.forall_mem_cons.mpr ⟨(pl_wsX1_readStatement_wsX1_readStatement_r4 _ (List.mem_of_getElem? (i := 1) rfl)), List.forall_mem_cons.mpr ⟨(pl_wsX1_readStatement_wsX1_readStatement_r4 _ (List.mem_of_getElem? (i := 2) rfl)), List.forall_mem_cons.mpr ⟨(pl_wsX1_readStatement_wsX1_readStatement_r4 _ (List.mem_of_getElem? (i := 8) rfl)), List.forall_mem_cons.mpr ⟨(pl_wsX1_readStatement_wsX1_readStatement_r4 _ (List.mem_of_getElem? (i := 9) rfl)), List.forall_mem_cons.mpr ⟨(pl_wsX1_readStatement_wsX1_readStatement_r4 _ (List.mem_of_getElem? (i := 10) rfl)), List.forall_mem_cons.mpr ⟨(pl_wsX1_readStatement_wsX1_readStatement_r4 _ (List.mem_of_getElem? (i := 11) rfl)), List.forall_mem_cons.mpr ⟨(pl_wsX1_readStatement_wsX1_readStatement_r1 _ (List.mem_of_getElem? (i := 0) rfl)), List.forall_mem_cons.mpr ⟨(pl_wsX1_readStatement_wsX1_readStatement_r1 _ (List.mem_of_getElem? (i := 1) rfl)), List.forall_mem_cons.mpr ⟨(pl_wsX1_readStatement_wsX1_readStatement_r1 _ (List.mem_of_getElem? (i := 2) rfl)), List.forall_mem_cons.mpr ⟨(pl_wsX1_readStatement_wsX1_readStatement_r1 _ (List.mem_of_getElem? (i := 3) rfl)), List.forall_mem_cons.mpr ⟨(pl_wsX1_readStatement_wsX1_readStatement_r1 _ (List.mem_of_getElem? (i := 5) rfl)), List.forall_mem_cons.mpr ⟨(pl_wsX1_readStatement_wsX1_readStatement_r1 _ (List.mem_of_getElem? (i := 7) rfl)), List.forall_mem_cons.mpr ⟨(pl_wsX1_readStatement_wsX1_readStatement_r1 _ (List.mem_of_getElem? (i := 11) rfl)), List.forall_mem_cons.mpr ⟨(pl_wsX1_readStatement_wsX1_readStatement_r1 _ (List.mem_of_getElem? (i := 12) rfl)), List.forall_mem_cons.mpr ⟨(pl_wsX1_readStatement_wsX1_readStatement_r1 _ (List.mem_of_getElem? (i := 13) rfl)), fun _ h => absurd h List.not_mem_nil⟩⟩⟩⟩⟩⟩⟩⟩⟩⟩⟩⟩⟩⟩⟩⟩⟩⟩⟩⟩⟩⟩⟩⟩) w) ((List.forall_mem_cons.mpr ⟨(pl_wsX1_readStatement_wsX1_readStatement_r1 _ (List.mem_of_getElem? (i := 14) rfl)), List.forall_mem_cons.mpr ⟨(pl_wsX1_readStatement_wsX1_readStatement_r1 _ (List.mem_of_getElem? (i := 15) rfl)), List.forall_mem_cons.mpr ⟨(pl_wsX1_readStatement_wsX1_readStatement_r1 _ (List.mem_of_getElem? (i := 16) rfl)), List.forall_mem_cons.mpr ⟨(pl_wsX1_readStatement_wsX1_readStatement_r1 _ (List.mem_of_getElem? (i := 17) rfl)), List.forall_mem_cons.mpr ⟨(pl_wsX1_readStatement_wsX1_readStatement_r1 _ (List.mem_of_getElem? (i := 18) rfl)), List.forall_mem_cons.mpr ⟨(pl_wsX1_readStatement_wsX1_readStatement_r1 _ (List.mem_of_getElem? (i := 19) rfl)), List.forall_mem_cons.mpr ⟨(pl_wsX1_readStatement_wsX1_readStatement_r1 _ (List.mem_of_getElem? (i := 20) rfl)), List.forall_mem_cons.mpr ⟨(pl_wsX1_readStatement_wsX1_readStatement_r1 _ (List.mem_of_getElem? (i := 21) rfl)), fun _ h => absurd h List.not_mem_nil⟩⟩⟩⟩⟩⟩⟩⟩) w)) w)) w)) w) (pl_wsX1_readStatement_wsX10 w)) w) (pl_wsX1_readStatement_wsX00 w))⟩) (by decide +kernel)
set_option maxRecDepth 20000 in
theorem gX1_readStatement_X1_readYear : GoodIn wsX1_readStatement (wsV RX1 74 RX1 yX1_readYear wsX1_readYear) := goodIn_app (goodIn_sub (List.forall_mem_cons.mpr ⟨(pl_wsX1_readStatement_wsX1_readStatement_r7 _ (List.mem_of_getElem? (i := 3) rfl)), List.forall_mem_cons.mpr ⟨(pl_wsX1_readStatement_wsX1_readStatement_r7 _ (List.mem_of_getElem? (i := 4) rfl)), List.forall_mem_cons.mpr ⟨(pl_wsX1_readStatement_wsX1_readStatement_r7 _ (List.mem_of_getElem? (i := 5) rfl)), List.forall_mem_cons.mpr ⟨(pl_wsX1_readStatement_wsX1_readStatement_r1 _ (List.mem_of_getElem? (i := 4) rfl)), fun _ h => absurd h List.not_mem_nil⟩⟩⟩⟩) (by decide +kernel)) ggX1_readStatement_X1_readYear
theorem tdX1_readStatement_0 : decs cX1_readStatement [(0, .aload_n 0, 1), (1, .invokevirtual 42, 3), (4, .aload_n 0, 1), (5, .getfield 22, 3), (8, .iconst 1, 1), (9, .if_icmp .eq 5, 3), (12, .iconst 0, 1), (13, .ireturn, 1), (14, .aload_n 0, 1), (15, .ldc 45, 2), (17, .invokevirtual 47, 3), (20, .ifCond .eq 8, 3), (23, .aload_n 0, 1), (24, .invokevirtual 51, 3), (27, .ireturn, 1), (28, .aload_n 0, 1), (29, .ldc 54, 2), (31, .invokevirtual 47, 3), (34, .ifCond .eq 8, 3), (37, .aload_n 0, 1), (38, .invokevirtual 56, 3), (41, .ireturn, 1), (42, .aload_n 0, 1), (43, .ldc 59, 2), (45, .invokevirtual 47, 3), (48, .ifCond .eq 8, 3), (51, .aload_n 0, 1), (52, .invokevirtual 61, 3), (55, .ireturn, 1), (56, .aload_n 0, 1), (57, .ldc 64, 2), (59, .invokevirtual 47, 3), (62, .ifCond .eq 8, 3), (65, .aload_n 0, 1), (66, .invokevirtual 66, 3), (69, .ireturn, 1), (70, .aload_n 0, 1), (71, .ldc 69, 2), (73, .invokevirtual 47, 3), (76, .ifCond .eq 8, 3)] = true := by decide +kernel
theorem dX1_readStatement_0 : decode cX1_readStatement 0 = .ok (.aload_n 0, 1) := decs_at tdX1_readStatement_0 0 rfl
theorem dX1_readStatement_1 : decode cX1_readStatement 1 = .ok (.invokevirtual 42, 3) := decs_at tdX1_readStatement_0 1 rfl
theorem dX1_readStatement_4 : decode cX1_readStatement 4 = .ok (.aload_n 0, 1) := decs_at tdX1_readStatement_0 2 rfl
theorem dX1_readStatement_5 : decode cX1_readStatement 5 = .ok (.getfield 22, 3) := decs_at tdX1_readStatement_0 3 rfl
theorem dX1_readStatement_8 : decode cX1_readStatement 8 = .ok (.iconst 1, 1) := decs_at tdX1_readStatement_0 4 rfl
theorem dX1_readStatement_9 : decode cX1_readStatement 9 = .ok (.if_icmp .eq 5, 3) := decs_at tdX1_readStatement_0 5 rfl
theorem dX1_readStatement_12 : decode cX1_readStatement 12 = .ok (.iconst 0, 1) := decs_at tdX1_readStatement_0 6 rfl
theorem dX1_readStatement_13 : decode cX1_readStatement 13 = .ok (.ireturn, 1) := decs_at tdX1_readStatement_0 7 rfl
theorem dX1_readStatement_14 : decode cX1_readStatement 14 = .ok (.aload_n 0, 1) := decs_at tdX1_readStatement_0 8 rfl
theorem dX1_readStatement_15 : decode cX1_readStatement 15 = .ok (.ldc 45, 2) := decs_at tdX1_readStatement_0 9 rfl
theorem dX1_readStatement_17 : decode cX1_readStatement 17 = .ok (.invokevirtual 47, 3) := decs_at tdX1_readStatement_0 10 rfl
theorem dX1_readStatement_20 : decode cX1_readStatement 20 = .ok (.ifCond .eq 8, 3) := decs_at tdX1_readStatement_0 11 rfl
theorem dX1_readStatement_23 : decode cX1_readStatement 23 = .ok (.aload_n 0, 1) := decs_at tdX1_readStatement_0 12 rfl
theorem dX1_readStatement_24 : decode cX1_readStatement 24 = .ok (.invokevirtual 51, 3) := decs_at tdX1_readStatement_0 13 rfl
theorem dX1_readStatement_27 : decode cX1_readStatement 27 = .ok (.ireturn, 1) := decs_at tdX1_readStatement_0 14 rfl
theorem dX1_readStatement_28 : decode cX1_readStatement 28 = .ok (.aload_n 0, 1) := decs_at tdX1_readStatement_0 15 rfl
theorem dX1_readStatement_29 : decode cX1_readStatement 29 = .ok (.ldc 54, 2) := decs_at tdX1_readStatement_0 16 rfl
theorem dX1_readStatement_31 : decode cX1_readStatement 31 = .ok (.invokevirtual 47, 3) := decs_at tdX1_readStatement_0 17 rfl
theorem dX1_readStatement_34 : decode cX1_readStatement 34 = .ok (.ifCond .eq 8, 3) := decs_at tdX1_readStatement_0 18 rfl
theorem dX1_readStatement_37 : decode cX1_readStatement 37 = .ok (.aload_n 0, 1) := decs_at tdX1_readStatement_0 19 rfl
theorem dX1_readStatement_38 : decode cX1_readStatement 38 = .ok (.invokevirtual 56, 3) := decs_at tdX1_readStatement_0 20 rfl
theorem dX1_readStatement_41 : decode cX1_readStatement 41 = .ok (.ireturn, 1) := decs_at tdX1_readStatement_0 21 rfl
theorem dX1_readStatement_42 : decode cX1_readStatement 42 = .ok (.aload_n 0, 1) := decs_at tdX1_readStatement_0 22 rfl
theorem dX1_readStatement_43 : decode cX1_readStatement 43 = .ok (.ldc 59, 2) := decs_at tdX1_readStatement_0 23 rfl
theorem dX1_readStatement_45 : decode cX1_readStatement 45 = .ok (.invokevirtual 47, 3) := decs_at tdX1_readStatement_0 24 rfl
theorem dX1_readStatement_48 : decode cX1_readStatement 48 = .ok (.ifCond .eq 8, 3) := decs_at tdX1_readStatement_0 25 rfl
theorem dX1_readStatement_51 : decode cX1_readStatement 51 = .ok (.aload_n 0, 1) := decs_at tdX1_readStatement_0 26 rfl
theorem dX1_readStatement_52 : decode cX1_readStatement 52 = .ok (.invokevirtual 61, 3) := decs_at tdX1_readStatement_0 27 rfl
theorem dX1_readStatement_55 : decode cX1_readStatement 55 = .ok (.ireturn, 1) := decs_at tdX1_readStatement_0 28 rfl
theorem dX1_readStatement_56 : decode cX1_readStatement 56 = .ok (.aload_n 0, 1) := decs_at tdX1_readStatement_0 29 rfl
theorem dX1_readStatement_57 : decode cX1_readStatement 57 = .ok (.ldc 64, 2) := decs_at tdX1_readStatement_0 30 rfl
theorem dX1_readStatement_59 : decode cX1_readStatement 59 = .ok (.invokevirtual 47, 3) := decs_at tdX1_readStatement_0 31 rfl
theorem dX1_readStatement_62 : decode cX1_readStatement 62 = .ok (.ifCond .eq 8, 3) := decs_at tdX1_readStatement_0 32 rfl
theorem dX1_readStatement_65 : decode cX1_readStatement 65 = .ok (.aload_n 0, 1) := decs_at tdX1_readStatement_0 33 rfl
theorem dX1_readStatement_66 : decode cX1_readStatement 66 = .ok (.invokevirtual 66, 3) := decs_at tdX1_readStatement_0 34 rfl
theorem dX1_readStatement_69 : decode cX1_readStatement 69 = .ok (.ireturn, 1) := decs_at tdX1_readStatement_0 35 rfl
theorem dX1_readStatement_70 : decode cX1_readStatement 70 = .ok (.aload_n 0, 1) := decs_at tdX1_readStatement_0 36 rfl
theorem dX1_readStatement_71 : decode cX1_readStatement 71 = .ok (.ldc 69, 2) := decs_at tdX1_readStatement_0 37 rfl
theorem dX1_readStatement_73 : decode cX1_readStatement 73 = .ok (.invokevirtual 47, 3) := decs_at tdX1_readStatement_0 38 rfl
theorem dX1_readStatement_76 : decode cX1_readStatement 76 = .ok (.ifCond .eq 8, 3) := decs_at tdX1_readStatement_0 39 rfl
theorem tdX1_readStatement_79 : decs cX1_readStatement [(79, .aload_n 0, 1), (80, .invokevirtual 71, 3), (83, .ireturn, 1), (84, .aload_n 0, 1), (85, .invokevirtual 74, 3), (88, .ireturn, 1)] = true := by decide +kernel
theorem dX1_readStatement_79 : decode cX1_readStatement 79 = .ok (.aload_n 0, 1) := decs_at tdX1_readStatement_79 0 rfl
theorem dX1_readStatement_80 : decode cX1_readStatement 80 = .ok (.invokevirtual 71, 3) := decs_at tdX1_readStatement_79 1 rfl
theorem dX1_readStatement_83 : decode cX1_readStatement 83 = .ok (.ireturn, 1) := decs_at tdX1_readStatement_79 2 rfl
theorem dX1_readStatement_84 : decode cX1_readStatement 84 = .ok (.aload_n 0, 1) := decs_at tdX1_readStatement_79 3 rfl
theorem dX1_readStatement_85 : decode cX1_readStatement 85 = .ok (.invokevirtual 74, 3) := decs_at tdX1_readStatement_79 4 rfl
theorem dX1_readStatement_88 : decode cX1_readStatement 88 = .ok (.ireturn, 1) := decs_at tdX1_readStatement_79 5 rfl
set_option maxRecDepth 20000 in
theorem pl_wsX1_readSide_wsX1_readSide_r1 : ∀ w ∈ wsX1_readSide_r1, w ∈ wsX1_readSide := fun _ h => List.mem_cons_of_mem _ (List.mem_append_left _ (List.mem_append_left _ (List.mem_append_left _ (h))))
theorem pl_wsX1_readSide_wsX1_readSide_r2 : ∀ w ∈ wsX1_readSide_r2, w ∈ wsX1_readSide := fun _ h => List.mem_cons_of_mem _ (List.mem_append_left _ (List.mem_append_left _ (List.mem_append_right _ (h))))
theorem pl_wsX1_readSide_wsX10 : ∀ w ∈ wsX10, w ∈ wsX1_readSide := fun _ h => List.mem_cons_of_mem _ (List.mem_append_left _ (List.mem_append_right _ (h)))
theorem ggX1_readSide_X1_readNumber : GoodIn wsX1_readSide wsX1_readNumber := goodIn_sub (List.forall_mem_cons.mpr ⟨(pl_wsX1_readSide_wsX1_readSide_r1 _ (List.mem_of_getElem? (i := 6) rfl)), (fun w h => (List.mem_append.mp h).elim ((List.forall_mem_cons.mpr ⟨(pl_wsX1_readSide_wsX1_readSide_r1 _ (List.mem_of_getElem? (i := 7) rfl)), List.forall_mem_cons.mpr ⟨(pl_wsX1_readSide_wsX1_readSide_r1 _ (List.mem_of_getElem? (i := 1) rfl)), List.forall_mem_cons.mpr ⟨(pl_wsX1_readSide_wsX1_readSide_r1 _ (List.mem_of_getElem? (i := 8) rfl)), List.forall_mem_cons.mpr ⟨(pl_wsX1_readSide_wsX1_readSide_r1 _ (List.mem_of_getElem? (i := 9) rfl)), List.forall_mem_cons.mpr ⟨(pl_wsX1_readSide_wsX1_readSide_r1 _ (List.mem_of_getElem? (i := 10) rfl)), List.forall_mem_cons.mpr ⟨(pl_wsX1_readSide_wsX1_readSide_r1 _ (List.mem_of_getElem? (i := 5) rfl)), List.forall_mem_cons.mpr ⟨(pl_wsX1_readSide_wsX1_readSide_r1 _ (List.mem_of_getElem? (i := 11) rfl)), List.forall_mem_cons.mpr ⟨(pl_wsX1_readSide_wsX1_readSide_r1 _ (List.mem_of_getElem? (i := 12) rfl)), List.forall_mem_cons.mpr ⟨(pl_wsX1_readSide_wsX1_readSide_r1 _ (List.mem_of_getElem? (i := 13) rfl)), List.forall_mem_cons.mpr ⟨(pl_wsX1_readSide_wsX1_readSide_r1 _ (List.mem_of_getElem? (i := 14) rfl)), List.forall_mem_cons.mpr ⟨(pl_wsX1_readSide_wsX1_readSide_r1 _ (List.mem_of_getElem? (i := 15) rfl)), List.forall_mem_cons.mpr ⟨(pl_wsX1_readSide_wsX1_readSide_r1 _ (List.mem_of_getElem? (i := 16) rfl)), List.forall_mem_cons.mpr ⟨(pl_wsX1_readSide_wsX1_readSide_r1 _ (List.mem_of_getElem? (i := 17) rfl)), List.forall_mem_cons.mpr ⟨(pl_wsX1_readSide_wsX1_readSide_r1 _ (List.mem_of_getElem? (i := 18) rfl)), List.forall_mem_cons.mpr ⟨(pl_wsX1_readSide_wsX1_readSide_r1 _ (List.mem_of_getElem? (i := 19) rfl)), List.forall_mem_cons.mpr ⟨(pl_wsX1_readSide_wsX1_readSide_r1 _ (List.mem_of_getElem? (i := 20) rfl)), List.forall_mem_cons.mpr ⟨(pl_wsX1_readSide_wsX1_readSide_r1 _ (List.mem_of_getElem? (i := 21) rfl)), List.forall_mem_cons.mpr ⟨(pl_wsX1_readSide_wsX1_readSide_r1 _ (List.mem_of_getElem? (i := 22) rfl)), List.forall_mem_cons.mpr ⟨(pl_wsX1_readSide_wsX1_readSide_r1 _ (List.mem_of_getElem? (i := 23) rfl)), List.forall_mem_cons.mpr ⟨(pl_wsX1_readSide_wsX1_readSide_r2 _ (List.mem_of_getElem? (i := 0) rfl)), List.forall_mem_cons.mpr ⟨(pl_wsX1_readSide_wsX1_readSide_r2 _ (List.mem_of_getElem? (i := 1) rfl)), List.forall_mem_cons.mpr ⟨(pl_wsX1_readSide_wsX1_readSide_r2 _ (List.mem_of_getElem? (i := 2) rfl)), fun _ h => absurd h List.not_mem_nil⟩⟩⟩⟩⟩⟩⟩⟩⟩⟩⟩⟩⟩⟩⟩⟩⟩⟩⟩⟩⟩⟩) w) (pl_wsX1_readSide_wsX10 w))⟩) (by decide +kernel)
set_option maxRecDepth 20000 in
theorem gX1_readSide_X1_readNumber : GoodIn wsX1_readSide (wsV RX1 77 RX1 yX1_readNumber wsX1_readNumber) := goodIn_app (goodIn_sub (List.forall_mem_cons.mpr ⟨(pl_wsX1_readSide_wsX1_readSide_r1 _ (List.mem_of_getElem? (i := 2) rfl)), List.forall_mem_cons.mpr ⟨(pl_wsX1_readSide_wsX1_readSide_r1 _ (List.mem_of_getElem? (i := 3) rfl)), List.forall_mem_cons.mpr ⟨(pl_wsX1_readSide_wsX1_readSide_r1 _ (List.mem_of_getElem? (i := 4) rfl)), List.forall_mem_cons.mpr ⟨(pl_wsX1_readSide_wsX1_readSide_r1 _ (List.mem_of_getElem? (i := 5) rfl)), fun _ h => absurd h List.not_mem_nil⟩⟩⟩⟩) (by decide +kernel)) ggX1_readSide_X1_readNumber
set_option maxRecDepth 20000 in
theorem pl_wsX1_readSide_wsX00 : ∀ w ∈ wsX00, w ∈ wsX1_readSide := fun _ h => List.mem_cons_of_mem _ (List.mem_append_right _ (h))
theorem ggX1_readSide_X0_maySide : GoodIn wsX1_readSide wsX0_maySide := goodIn_sub (List.forall_mem_cons.mpr ⟨(pl_wsX1_readSide_wsX1_readSide_r2 _ (List.mem_of_getElem? (i := 7) rfl)), (fun w h => (List.mem_append.mp h).elim ((List.forall_mem_cons.mpr ⟨(pl_wsX1_readSide_wsX1_readSide_r2 _ (List.mem_of_getElem? (i := 8) rfl)), List.forall_mem_cons.mpr ⟨(pl_wsX1_readSide_wsX1_readSide_r2 _ (List.mem_of_getElem? (i := 9) rfl)), List.forall_mem_cons.mpr ⟨(pl_wsX1_readSide_wsX1_readSide_r2 _ (List.mem_of_getElem? (i := 10) rfl)), List.forall_mem_cons.mpr ⟨(pl_wsX1_readSide_wsX1_readSide_r2 _ (List.mem_of_getElem? (i := 11) rfl)), List.forall_mem_cons.mpr ⟨(pl_wsX1_readSide_wsX1_readSide_r2 _ (List.mem_of_getElem? (i := 12) rfl)), List.forall_mem_cons.mpr ⟨(pl_wsX1_readSide_wsX1_readSide_r1 _ (List.mem_of_getElem? (i := 16) rfl)), List.forall_mem_cons.mpr ⟨(pl_wsX1_readSide_wsX1_readSide_r1 _ (List.mem_of_getElem? (i := 17) rfl)), List.forall_mem_cons.mpr ⟨(pl_wsX1_readSide_wsX1_readSide_r1 _ (List.mem_of_getElem? (i := 18) rfl)), fun _ h => absurd h List.not_mem_nil⟩⟩⟩⟩⟩⟩⟩⟩) w) (pl_wsX1_readSide_wsX00 w))⟩) (by decide +kernel)
set_option maxRecDepth 20000 in
theorem gX1_readSide_X0_maySide : GoodIn wsX1_readSide (wsV RX1 81 RX0 yX0_maySide wsX0_maySide) := goodIn_app (goodIn_sub (List.forall_mem_cons.mpr ⟨(pl_wsX1_readSide_wsX1_readSide_r2 _ (List.mem_of_getElem? (i := 3) rfl)), List.forall_mem_cons.mpr ⟨(pl_wsX1_readSide_wsX1_readSide_r2 _ (List.mem_of_getElem? (i := 4) rfl)), List.forall_mem_cons.mpr ⟨(pl_wsX1_readSide_wsX1_readSide_r2 _ (List.mem_of_getElem? (i := 5) rfl)), List.forall_mem_cons.mpr ⟨(pl_wsX1_readSide_wsX1_readSide_r2 _ (List.mem_of_getElem? (i := 6) rfl)), fun _ h => absurd h List.not_mem_nil⟩⟩⟩⟩) (by decide +kernel)) ggX1_readSide_X0_maySide
theorem tdX1_readSide_0 : decs cX1_readSide [(0, .aload_n 0, 1), (1, .iconst 3, 1), (2, .bipush 7, 2), (4, .invokevirtual 77, 3), (7, .ifCond .eq 17, 3), (10, .aload_n 0, 1), (11, .getfield 31, 3), (14, .aload_n 0, 1), (15, .getfield 28, 3), (18, .invokevirtual 81, 3), (21, .ifCond .ne 5, 3), (24, .iconst 0, 1), (25, .ireturn, 1), (26, .aload_n 0, 1), (27, .getfield 31, 3), (30, .aload_n 0, 1), (31, .getfield 28, 3), (34, .putfield 87, 3), (37, .iconst 1, 1), (38, .ireturn, 1)] = true := by decide +kernel
theorem dX1_readSide_0 : decode cX1_readSide 0 = .ok (.aload_n 0, 1) := decs_at tdX1_readSide_0 0 rfl
theorem dX1_readSide_1 : decode cX1_readSide 1 = .ok (.iconst 3, 1) := decs_at tdX1_readSide_0 1 rfl
theorem dX1_readSide_2 : decode cX1_readSide 2 = .ok (.bipush 7, 2) := decs_at tdX1_readSide_0 2 rfl
theorem dX1_readSide_4 : decode cX1_readSide 4 = .ok (.invokevirtual 77, 3) := decs_at tdX1_readSide_0 3 rfl
theorem dX1_readSide_7 : decode cX1_readSide 7 = .ok (.ifCond .eq 17, 3) := decs_at tdX1_readSide_0 4 rfl
theorem dX1_readSide_10 : decode cX1_readSide 10 = .ok (.aload_n 0, 1) := decs_at tdX1_readSide_0 5 rfl
theorem dX1_readSide_11 : decode cX1_readSide 11 = .ok (.getfield 31, 3) := decs_at tdX1_readSide_0 6 rfl
theorem dX1_readSide_14 : decode cX1_readSide 14 = .ok (.aload_n 0, 1) := decs_at tdX1_readSide_0 7 rfl
theorem dX1_readSide_15 : decode cX1_readSide 15 = .ok (.getfield 28, 3) := decs_at tdX1_readSide_0 8 rfl
theorem dX1_readSide_18 : decode cX1_readSide 18 = .ok (.invokevirtual 81, 3) := decs_at tdX1_readSide_0 9 rfl
theorem dX1_readSide_21 : decode cX1_readSide 21 = .ok (.ifCond .ne 5, 3) := decs_at tdX1_readSide_0 10 rfl
theorem dX1_readSide_24 : decode cX1_readSide 24 = .ok (.iconst 0, 1) := decs_at tdX1_readSide_0 11 rfl
theorem dX1_readSide_25 : decode cX1_readSide 25 = .ok (.ireturn, 1) := decs_at tdX1_readSide_0 12 rfl
theorem dX1_readSide_26 : decode cX1_readSide 26 = .ok (.aload_n 0, 1) := decs_at tdX1_readSide_0 13 rfl
theorem dX1_readSide_27 : decode cX1_readSide 27 = .ok (.getfield 31, 3) := decs_at tdX1_readSide_0 14 rfl
theorem dX1_readSide_30 : decode cX1_readSide 30 = .ok (.aload_n 0, 1) := decs_at tdX1_readSide_0 15 rfl
theorem dX1_readSide_31 : decode cX1_readSide 31 = .ok (.getfield 28, 3) := decs_at tdX1_readSide_0 16 rfl
theorem dX1_readSide_34 : decode cX1_readSide 34 = .ok (.putfield 87, 3) := decs_at tdX1_readSide_0 17 rfl
theorem dX1_readSide_37 : decode cX1_readSide 37 = .ok (.iconst 1, 1) := decs_at tdX1_readSide_0 18 rfl
theorem dX1_readSide_38 : decode cX1_readSide 38 = .ok (.ireturn, 1) := decs_at tdX1_readSide_0 19 rfl
set_option maxRecDepth 20000 in
theorem pl_wsX1_readPond_wsX1_readPond_r1 : ∀ w ∈ wsX1_readPond_r1, w ∈ wsX1_readPond := fun _ h => List.mem_cons_of_mem _ (List.mem_append_left _ (List.mem_append_left _ (List.mem_append_left _ (h))))
theorem pl_wsX1_readPond_wsX1_readPond_r2 : ∀ w ∈ wsX1_readPond_r2, w ∈ wsX1_readPond := fun _ h => List.mem_cons_of_mem _ (List.mem_append_left _ (List.mem_append_left _ (List.mem_append_right _ (h))))
theorem pl_wsX1_readPond_wsX10 : ∀ w ∈ wsX10, w ∈ wsX1_readPond := fun _ h => List.mem_cons_of_mem _ (List.mem_append_left _ (List.mem_append_right _ (h)))
theorem pl_wsX1_readPond_wsX00 : ∀ w ∈ wsX00, w ∈ wsX1_readPond := fun _ h => List.mem_cons_of_mem _ (List.mem_append_right _ (h))
theorem ggX1_readPond_X1_readCell : GoodIn wsX1_readPond wsX1_readCell := goodIn_sub (List.forall_mem_cons.mpr ⟨(pl_wsX1_readPond_wsX1_readPond_r1 _ (List.mem_of_getElem? (i := 6) rfl)), (fun w h => (List.mem_append.mp h).elim ((fun w h => (List.mem_append.mp h).elim ((fun w h => (List.mem_append.mp h).elim ((List.forall_mem_cons.mpr ⟨(pl_wsX1_readPond_wsX1_readPond_r1 _ (List.mem_of_getElem? (i := 7) rfl)), List.forall_mem_cons.mpr ⟨(pl_wsX1_readPond_wsX1_readPond_r1 _ (List.mem_of_getElem? (i := 0) rfl)), List.forall_mem_cons.mpr ⟨(pl_wsX1_readPond_wsX1_readPond_r1 _ (List.mem_of_getElem? (i := 1) rfl)), List.forall_mem_cons.mpr ⟨(pl_wsX1_readPond_wsX1_readPond_r1 _ (List.mem_of_getElem? (i := 8) rfl)), List.forall_mem_cons.mpr ⟨(pl_wsX1_readPond_wsX1_readPond_r1 _ (List.mem_of_getElem? (i := 9) rfl)), List.forall_mem_cons.mpr ⟨(pl_wsX1_readPond_wsX1_readPond_r1 _ (List.mem_of_getElem? (i := 10) rfl)), List.forall_mem_cons.mpr ⟨(pl_wsX1_readPond_wsX1_readPond_r1 _ (List.mem_of_getElem? (i := 5) rfl)), List.forall_mem_cons.mpr ⟨(pl_wsX1_readPond_wsX1_readPond_r1 _ (List.mem_of_getElem? (i := 11) rfl)), List.forall_mem_cons.mpr ⟨(pl_wsX1_readPond_wsX1_readPond_r1 _ (List.mem_of_getElem? (i := 12) rfl)), List.forall_mem_cons.mpr ⟨(pl_wsX1_readPond_wsX1_readPond_r1 _ (List.mem_of_getElem? (i := 13) rfl)), List.forall_mem_cons.mpr ⟨(pl_wsX1_readPond_wsX1_readPond_r1 _ (List.mem_of_getElem? (i := 14) rfl)), List.forall_mem_cons.mpr ⟨(pl_wsX1_readPond_wsX1_readPond_r1 _ (List.mem_of_getElem? (i := 15) rfl)), List.forall_mem_cons.mpr ⟨(pl_wsX1_readPond_wsX1_readPond_r1 _ (List.mem_of_getElem? (i := 16) rfl)), List.forall_mem_cons.mpr ⟨(pl_wsX1_readPond_wsX1_readPond_r1 _ (List.mem_of_getElem? (i := 17) rfl)), List.forall_mem_cons.mpr ⟨(pl_wsX1_readPond_wsX1_readPond_r1 _ (List.mem_of_getElem? (i := 18) rfl)), List.forall_mem_cons.mpr ⟨(pl_wsX1_readPond_wsX1_readPond_r1 _ (List.mem_of_getElem? (i := 19) rfl)), List.forall_mem_cons.mpr ⟨(pl_wsX1_readPond_wsX1_readPond_r1 _ (List.mem_of_getElem? (i := 20) rfl)), List.forall_mem_cons.mpr ⟨(pl_wsX1_readPond_wsX1_readPond_r1 _ (List.mem_of_getElem? (i := 21) rfl)), List.forall_mem_cons.mpr ⟨(pl_wsX1_readPond_wsX1_readPond_r1 _ (List.mem_of_getElem? (i := 22) rfl)), List.forall_mem_cons.mpr ⟨(pl_wsX1_readPond_wsX1_readPond_r1 _ (List.mem_of_getElem? (i := 23) rfl)), List.forall_mem_cons.mpr ⟨(pl_wsX1_readPond_wsX1_readPond_r2 _ (List.mem_of_getElem? (i := 0) rfl)), List.forall_mem_cons.mpr ⟨(pl_wsX1_readPond_wsX1_readPond_r2 _ (List.mem_of_getElem? (i := 1) rfl)), List.forall_mem_cons.mpr ⟨(pl_wsX1_readPond_wsX1_readPond_r2 _ (List.mem_of_getElem? (i := 2) rfl)), List.forall_mem_cons.mpr ⟨(pl_wsX1_readPond_wsX1_readPond_r2 _ (List.mem_of_getElem? (i := 3) rfl)), fun _ h => absurd h List.not_mem_nil⟩⟩⟩⟩⟩⟩⟩⟩⟩⟩⟩⟩⟩⟩⟩⟩⟩⟩⟩⟩⟩⟩⟩⟩) w) ((List.forall_mem_cons.mpr ⟨(pl_wsX1_readPond_wsX1_readPond_r2 _ (List.mem_of_getElem? (i := 4) rfl)), List.forall_mem_cons.mpr ⟨(pl_wsX1_readPond_wsX1_readPond_r2 _ (List.mem_of_getElem? (i := 5) rfl)), List.forall_mem_cons.mpr ⟨(pl_wsX1_readPond_wsX1_readPond_r2 _ (List.mem_of_getElem? (i := 6) rfl)), List.forall_mem_cons.mpr ⟨(pl_wsX1_readPond_wsX1_readPond_r2 _ (List.mem_of_getElem? (i := 7) rfl)), List.forall_mem_cons.mpr ⟨(pl_wsX1_readPond_wsX1_readPond_r2 _ (List.mem_of_getElem? (i := 8) rfl)), fun _ h => absurd h List.not_mem_nil⟩⟩⟩⟩⟩) w)) w) (pl_wsX1_readPond_wsX10 w)) w) (pl_wsX1_readPond_wsX00 w))⟩) (by decide +kernel)
set_option maxRecDepth 20000 in
theorem gX1_readPond_X1_readCell : GoodIn wsX1_readPond (wsV RX1 89 RX1 yX1_readCell wsX1_readCell) := goodIn_app (goodIn_sub (List.forall_mem_cons.mpr ⟨(pl_wsX1_readPond_wsX1_readPond_r1 _ (List.mem_of_getElem? (i := 2) rfl)), List.forall_mem_cons.mpr ⟨(pl_wsX1_readPond_wsX1_readPond_r1 _ (List.mem_of_getElem? (i := 3) rfl)), List.forall_mem_cons.mpr ⟨(pl_wsX1_readPond_wsX1_readPond_r1 _ (List.mem_of_getElem? (i := 4) rfl)), List.forall_mem_cons.mpr ⟨(pl_wsX1_readPond_wsX1_readPond_r1 _ (List.mem_of_getElem? (i := 5) rfl)), fun _ h => absurd h List.not_mem_nil⟩⟩⟩⟩) (by decide +kernel)) ggX1_readPond_X1_readCell
set_option maxRecDepth 20000 in
theorem ggX1_readPond_X0_hasSomebody : GoodIn wsX1_readPond wsX0_hasSomebody := goodIn_sub (List.forall_mem_cons.mpr ⟨(pl_wsX1_readPond_wsX1_readPond_r2 _ (List.mem_of_getElem? (i := 12) rfl)), (fun w h => (List.mem_append.mp h).elim ((List.forall_mem_cons.mpr ⟨(pl_wsX1_readPond_wsX1_readPond_r2 _ (List.mem_of_getElem? (i := 13) rfl)), List.forall_mem_cons.mpr ⟨(pl_wsX1_readPond_wsX1_readPond_r2 _ (List.mem_of_getElem? (i := 14) rfl)), fun _ h => absurd h List.not_mem_nil⟩⟩) w) (pl_wsX1_readPond_wsX00 w))⟩) (by decide +kernel)
set_option maxRecDepth 20000 in
theorem gX1_readPond_X0_hasSomebody : GoodIn wsX1_readPond (wsV RX1 92 RX0 yX0_hasSomebody wsX0_hasSomebody) := goodIn_app (goodIn_sub (List.forall_mem_cons.mpr ⟨(pl_wsX1_readPond_wsX1_readPond_r2 _ (List.mem_of_getElem? (i := 9) rfl)), List.forall_mem_cons.mpr ⟨(pl_wsX1_readPond_wsX1_readPond_r2 _ (List.mem_of_getElem? (i := 10) rfl)), List.forall_mem_cons.mpr ⟨(pl_wsX1_readPond_wsX1_readPond_r2 _ (List.mem_of_getElem? (i := 11) rfl)), List.forall_mem_cons.mpr ⟨(pl_wsX1_readPond_wsX1_readPond_r2 _ (List.mem_of_getElem? (i := 6) rfl)), fun _ h => absurd h List.not_mem_nil⟩⟩⟩⟩) (by decide +kernel)) ggX1_readPond_X0_hasSomebody
theorem tdX1_readPond_0 : decs cX1_readPond [(0, .aload_n 0, 1), (1, .invokevirtual 89, 3), (4, .ifCond .eq 17, 3), (7, .aload_n 0, 1), (8, .getfield 31, 3), (11, .aload_n 0, 1), (12, .getfield 28, 3), (15, .invokevirtual 92, 3), (18, .ifCond .eq 5, 3), (21, .iconst 0, 1), (22, .ireturn, 1), (23, .aload_n 0, 1), (24, .getfield 31, 3), (27, .getfield 95, 3), (30, .aload_n 0, 1), (31, .getfield 28, 3), (34, .iconst 1, 1), (35, .bastore, 1), (36, .iconst 1, 1), (37, .ireturn, 1)] = true := by decide +kernel
theorem dX1_readPond_0 : decode cX1_readPond 0 = .ok (.aload_n 0, 1) := decs_at tdX1_readPond_0 0 rfl
theorem dX1_readPond_1 : decode cX1_readPond 1 = .ok (.invokevirtual 89, 3) := decs_at tdX1_readPond_0 1 rfl
theorem dX1_readPond_4 : decode cX1_readPond 4 = .ok (.ifCond .eq 17, 3) := decs_at tdX1_readPond_0 2 rfl
theorem dX1_readPond_7 : decode cX1_readPond 7 = .ok (.aload_n 0, 1) := decs_at tdX1_readPond_0 3 rfl
theorem dX1_readPond_8 : decode cX1_readPond 8 = .ok (.getfield 31, 3) := decs_at tdX1_readPond_0 4 rfl
theorem dX1_readPond_11 : decode cX1_readPond 11 = .ok (.aload_n 0, 1) := decs_at tdX1_readPond_0 5 rfl
theorem dX1_readPond_12 : decode cX1_readPond 12 = .ok (.getfield 28, 3) := decs_at tdX1_readPond_0 6 rfl
theorem dX1_readPond_15 : decode cX1_readPond 15 = .ok (.invokevirtual 92, 3) := decs_at tdX1_readPond_0 7 rfl
theorem dX1_readPond_18 : decode cX1_readPond 18 = .ok (.ifCond .eq 5, 3) := decs_at tdX1_readPond_0 8 rfl
theorem dX1_readPond_21 : decode cX1_readPond 21 = .ok (.iconst 0, 1) := decs_at tdX1_readPond_0 9 rfl
theorem dX1_readPond_22 : decode cX1_readPond 22 = .ok (.ireturn, 1) := decs_at tdX1_readPond_0 10 rfl
theorem dX1_readPond_23 : decode cX1_readPond 23 = .ok (.aload_n 0, 1) := decs_at tdX1_readPond_0 11 rfl
theorem dX1_readPond_24 : decode cX1_readPond 24 = .ok (.getfield 31, 3) := decs_at tdX1_readPond_0 12 rfl
theorem dX1_readPond_27 : decode cX1_readPond 27 = .ok (.getfield 95, 3) := decs_at tdX1_readPond_0 13 rfl
theorem dX1_readPond_30 : decode cX1_readPond 30 = .ok (.aload_n 0, 1) := decs_at tdX1_readPond_0 14 rfl
theorem dX1_readPond_31 : decode cX1_readPond 31 = .ok (.getfield 28, 3) := decs_at tdX1_readPond_0 15 rfl
theorem dX1_readPond_34 : decode cX1_readPond 34 = .ok (.iconst 1, 1) := decs_at tdX1_readPond_0 16 rfl
theorem dX1_readPond_35 : decode cX1_readPond 35 = .ok (.bastore, 1) := decs_at tdX1_readPond_0 17 rfl
theorem dX1_readPond_36 : decode cX1_readPond 36 = .ok (.iconst 1, 1) := decs_at tdX1_readPond_0 18 rfl
theorem dX1_readPond_37 : decode cX1_readPond 37 = .ok (.ireturn, 1) := decs_at tdX1_readPond_0 19 rfl
set_option maxRecDepth 20000 in
theorem pl_wsX1_readDry_wsX1_readDry_r1 : ∀ w ∈ wsX1_readDry_r1, w ∈ wsX1_readDry := fun _ h => List.mem_cons_of_mem _ (List.mem_append_left _ (List.mem_append_left _ (List.mem_append_left _ (h))))
theorem pl_wsX1_readDry_wsX1_readDry_r2 : ∀ w ∈ wsX1_readDry_r2, w ∈ wsX1_readDry := fun _ h => List.mem_cons_of_mem _ (List.mem_append_left _ (List.mem_append_left _ (List.mem_append_right _ (h))))
theorem pl_wsX1_readDry_wsX10 : ∀ w ∈ wsX10, w ∈ wsX1_readDry := fun _ h => List.mem_cons_of_mem _ (List.mem_append_left _ (List.mem_append_right _ (h)))
theorem pl_wsX1_readDry_wsX00 : ∀ w ∈ wsX00, w ∈ wsX1_readDry := fun _ h => List.mem_cons_of_mem _ (List.mem_append_right _ (h))
theorem ggX1_readDry_X1_readCell : GoodIn wsX1_readDry wsX1_readCell := goodIn_sub (List.forall_mem_cons.mpr ⟨(pl_wsX1_readDry_wsX1_readDry_r1 _ (List.mem_of_getElem? (i := 6) rfl)), (fun w h => (List.mem_append.mp h).elim ((fun w h => (List.mem_append.mp h).elim ((fun w h => (List.mem_append.mp h).elim ((List.forall_mem_cons.mpr ⟨(pl_wsX1_readDry_wsX1_readDry_r1 _ (List.mem_of_getElem? (i := 7) rfl)), List.forall_mem_cons.mpr ⟨(pl_wsX1_readDry_wsX1_readDry_r1 _ (List.mem_of_getElem? (i := 0) rfl)), List.forall_mem_cons.mpr ⟨(pl_wsX1_readDry_wsX1_readDry_r1 _ (List.mem_of_getElem? (i := 1) rfl)), List.forall_mem_cons.mpr ⟨(pl_wsX1_readDry_wsX1_readDry_r1 _ (List.mem_of_getElem? (i := 8) rfl)), List.forall_mem_cons.mpr ⟨(pl_wsX1_readDry_wsX1_readDry_r1 _ (List.mem_of_getElem? (i := 9) rfl)), List.forall_mem_cons.mpr ⟨(pl_wsX1_readDry_wsX1_readDry_r1 _ (List.mem_of_getElem? (i := 10) rfl)), List.forall_mem_cons.mpr ⟨(pl_wsX1_readDry_wsX1_readDry_r1 _ (List.mem_of_getElem? (i := 5) rfl)), List.forall_mem_cons.mpr ⟨(pl_wsX1_readDry_wsX1_readDry_r1 _ (List.mem_of_getElem? (i := 11) rfl)), List.forall_mem_cons.mpr ⟨(pl_wsX1_readDry_wsX1_readDry_r1 _ (List.mem_of_getElem? (i := 12) rfl)), List.forall_mem_cons.mpr ⟨(pl_wsX1_readDry_wsX1_readDry_r1 _ (List.mem_of_getElem? (i := 13) rfl)), List.forall_mem_cons.mpr ⟨(pl_wsX1_readDry_wsX1_readDry_r1 _ (List.mem_of_getElem? (i := 14) rfl)), List.forall_mem_cons.mpr ⟨(pl_wsX1_readDry_wsX1_readDry_r1 _ (List.mem_of_getElem? (i := 15) rfl)), List.forall_mem_cons.mpr ⟨(pl_wsX1_readDry_wsX1_readDry_r1 _ (List.mem_of_getElem? (i := 16) rfl)), List.forall_mem_cons.mpr ⟨(pl_wsX1_readDry_wsX1_readDry_r1 _ (List.mem_of_getElem? (i := 17) rfl)), List.forall_mem_cons.mpr ⟨(pl_wsX1_readDry_wsX1_readDry_r1 _ (List.mem_of_getElem? (i := 18) rfl)), List.forall_mem_cons.mpr ⟨(pl_wsX1_readDry_wsX1_readDry_r1 _ (List.mem_of_getElem? (i := 19) rfl)), List.forall_mem_cons.mpr ⟨(pl_wsX1_readDry_wsX1_readDry_r1 _ (List.mem_of_getElem? (i := 20) rfl)), List.forall_mem_cons.mpr ⟨(pl_wsX1_readDry_wsX1_readDry_r1 _ (List.mem_of_getElem? (i := 21) rfl)), List.forall_mem_cons.mpr ⟨(pl_wsX1_readDry_wsX1_readDry_r1 _ (List.mem_of_getElem? (i := 22) rfl)), List.forall_mem_cons.mpr ⟨(pl_wsX1_readDry_wsX1_readDry_r1 _ (List.mem_of_getElem? (i := 23) rfl)), List.forall_mem_cons.mpr ⟨(pl_wsX1_readDry_wsX1_readDry_r2 _ (List.mem_of_getElem? (i := 0) rfl)), List.forall_mem_cons.mpr ⟨(pl_wsX1_readDry_wsX1_readDry_r2 _ (List.mem_of_getElem? (i := 1) rfl)), List.forall_mem_cons.mpr ⟨(pl_wsX1_readDry_wsX1_readDry_r2 _ (List.mem_of_getElem? (i := 2) rfl)), List.forall_mem_cons.mpr ⟨(pl_wsX1_readDry_wsX1_readDry_r2 _ (List.mem_of_getElem? (i := 3) rfl)), fun _ h => absurd h List.not_mem_nil⟩⟩⟩⟩⟩⟩⟩⟩⟩⟩⟩⟩⟩⟩⟩⟩⟩⟩⟩⟩⟩⟩⟩⟩) w) ((List.forall_mem_cons.mpr ⟨(pl_wsX1_readDry_wsX1_readDry_r2 _ (List.mem_of_getElem? (i := 4) rfl)), List.forall_mem_cons.mpr ⟨(pl_wsX1_readDry_wsX1_readDry_r2 _ (List.mem_of_getElem? (i := 5) rfl)), List.forall_mem_cons.mpr ⟨(pl_wsX1_readDry_wsX1_readDry_r2 _ (List.mem_of_getElem? (i := 6) rfl)), List.forall_mem_cons.mpr ⟨(pl_wsX1_readDry_wsX1_readDry_r2 _ (List.mem_of_getElem? (i := 7) rfl)), List.forall_mem_cons.mpr ⟨(pl_wsX1_readDry_wsX1_readDry_r2 _ (List.mem_of_getElem? (i := 8) rfl)), fun _ h => absurd h List.not_mem_nil⟩⟩⟩⟩⟩) w)) w) (pl_wsX1_readDry_wsX10 w)) w) (pl_wsX1_readDry_wsX00 w))⟩) (by decide +kernel)
set_option maxRecDepth 20000 in
theorem gX1_readDry_X1_readCell : GoodIn wsX1_readDry (wsV RX1 89 RX1 yX1_readCell wsX1_readCell) := goodIn_app (goodIn_sub (List.forall_mem_cons.mpr ⟨(pl_wsX1_readDry_wsX1_readDry_r1 _ (List.mem_of_getElem? (i := 2) rfl)), List.forall_mem_cons.mpr ⟨(pl_wsX1_readDry_wsX1_readDry_r1 _ (List.mem_of_getElem? (i := 3) rfl)), List.forall_mem_cons.mpr ⟨(pl_wsX1_readDry_wsX1_readDry_r1 _ (List.mem_of_getElem? (i := 4) rfl)), List.forall_mem_cons.mpr ⟨(pl_wsX1_readDry_wsX1_readDry_r1 _ (List.mem_of_getElem? (i := 5) rfl)), fun _ h => absurd h List.not_mem_nil⟩⟩⟩⟩) (by decide +kernel)) ggX1_readDry_X1_readCell
theorem tdX1_readDry_0 : decs cX1_readDry [(0, .aload_n 0, 1), (1, .invokevirtual 89, 3), (4, .ifCond .ne 5, 3), (7, .iconst 0, 1), (8, .ireturn, 1), (9, .aload_n 0, 1), (10, .getfield 31, 3), (13, .getfield 95, 3), (16, .aload_n 0, 1), (17, .getfield 28, 3), (20, .iconst 0, 1), (21, .bastore, 1), (22, .iconst 1, 1), (23, .ireturn, 1)] = true := by decide +kernel
theorem dX1_readDry_0 : decode cX1_readDry 0 = .ok (.aload_n 0, 1) := decs_at tdX1_readDry_0 0 rfl
theorem dX1_readDry_1 : decode cX1_readDry 1 = .ok (.invokevirtual 89, 3) := decs_at tdX1_readDry_0 1 rfl
theorem dX1_readDry_4 : decode cX1_readDry 4 = .ok (.ifCond .ne 5, 3) := decs_at tdX1_readDry_0 2 rfl
theorem dX1_readDry_7 : decode cX1_readDry 7 = .ok (.iconst 0, 1) := decs_at tdX1_readDry_0 3 rfl
theorem dX1_readDry_8 : decode cX1_readDry 8 = .ok (.ireturn, 1) := decs_at tdX1_readDry_0 4 rfl
theorem dX1_readDry_9 : decode cX1_readDry 9 = .ok (.aload_n 0, 1) := decs_at tdX1_readDry_0 5 rfl
theorem dX1_readDry_10 : decode cX1_readDry 10 = .ok (.getfield 31, 3) := decs_at tdX1_readDry_0 6 rfl
theorem dX1_readDry_13 : decode cX1_readDry 13 = .ok (.getfield 95, 3) := decs_at tdX1_readDry_0 7 rfl
theorem dX1_readDry_16 : decode cX1_readDry 16 = .ok (.aload_n 0, 1) := decs_at tdX1_readDry_0 8 rfl
theorem dX1_readDry_17 : decode cX1_readDry 17 = .ok (.getfield 28, 3) := decs_at tdX1_readDry_0 9 rfl
theorem dX1_readDry_20 : decode cX1_readDry 20 = .ok (.iconst 0, 1) := decs_at tdX1_readDry_0 10 rfl
theorem dX1_readDry_21 : decode cX1_readDry 21 = .ok (.bastore, 1) := decs_at tdX1_readDry_0 11 rfl
theorem dX1_readDry_22 : decode cX1_readDry 22 = .ok (.iconst 1, 1) := decs_at tdX1_readDry_0 12 rfl
theorem dX1_readDry_23 : decode cX1_readDry 23 = .ok (.ireturn, 1) := decs_at tdX1_readDry_0 13 rfl
set_option maxRecDepth 20000 in
theorem pl_wsX1_readPerson_wsX1_readPerson_r1 : ∀ w ∈ wsX1_readPerson_r1, w ∈ wsX1_readPerson := fun _ h => List.mem_cons_of_mem _ (List.mem_append_left _ (List.mem_append_left _ (List.mem_append_left _ (h))))
theorem pl_wsX1_readPerson_wsX00 : ∀ w ∈ wsX00, w ∈ wsX1_readPerson := fun _ h => List.mem_cons_of_mem _ (List.mem_append_right _ (h))
theorem ggX1_readPerson_X0_isFull : GoodIn wsX1_readPerson wsX0_isFull := goodIn_sub (List.forall_mem_cons.mpr ⟨(pl_wsX1_readPerson_wsX1_readPerson_r1 _ (List.mem_of_getElem? (i := 6) rfl)), (fun w h => (List.mem_append.mp h).elim ((List.forall_mem_cons.mpr ⟨(pl_wsX1_readPerson_wsX1_readPerson_r1 _ (List.mem_of_getElem? (i := 7) rfl)), fun _ h => absurd h List.not_mem_nil⟩) w) (pl_wsX1_readPerson_wsX00 w))⟩) (by decide +kernel)
set_option maxRecDepth 20000 in
theorem gX1_readPerson_X0_isFull : GoodIn wsX1_readPerson (wsV RX1 99 RX0 yX0_isFull wsX0_isFull) := goodIn_app (goodIn_sub (List.forall_mem_cons.mpr ⟨(pl_wsX1_readPerson_wsX1_readPerson_r1 _ (List.mem_of_getElem? (i := 2) rfl)), List.forall_mem_cons.mpr ⟨(pl_wsX1_readPerson_wsX1_readPerson_r1 _ (List.mem_of_getElem? (i := 3) rfl)), List.forall_mem_cons.mpr ⟨(pl_wsX1_readPerson_wsX1_readPerson_r1 _ (List.mem_of_getElem? (i := 4) rfl)), List.forall_mem_cons.mpr ⟨(pl_wsX1_readPerson_wsX1_readPerson_r1 _ (List.mem_of_getElem? (i := 5) rfl)), fun _ h => absurd h List.not_mem_nil⟩⟩⟩⟩) (by decide +kernel)) ggX1_readPerson_X0_isFull
set_option maxRecDepth 20000 in
theorem pl_wsX1_readPerson_wsX1_readPerson_r2 : ∀ w ∈ wsX1_readPerson_r2, w ∈ wsX1_readPerson := fun _ h => List.mem_cons_of_mem _ (List.mem_append_left _ (List.mem_append_left _ (List.mem_append_right _ (List.mem_append_left _ (h)))))
theorem pl_wsX1_readPerson_wsX10 : ∀ w ∈ wsX10, w ∈ wsX1_readPerson := fun _ h => List.mem_cons_of_mem _ (List.mem_append_left _ (List.mem_append_right _ (h)))
theorem ggX1_readPerson_X1_readNumber : GoodIn wsX1_readPerson wsX1_readNumber := goodIn_sub (List.forall_mem_cons.mpr ⟨(pl_wsX1_readPerson_wsX1_readPerson_r1 _ (List.mem_of_getElem? (i := 12) rfl)), (fun w h => (List.mem_append.mp h).elim ((List.forall_mem_cons.mpr ⟨(pl_wsX1_readPerson_wsX1_readPerson_r1 _ (List.mem_of_getElem? (i := 13) rfl)), List.forall_mem_cons.mpr ⟨(pl_wsX1_readPerson_wsX1_readPerson_r1 _ (List.mem_of_getElem? (i := 1) rfl)), List.forall_mem_cons.mpr ⟨(pl_wsX1_readPerson_wsX1_readPerson_r1 _ (List.mem_of_getElem? (i := 14) rfl)), List.forall_mem_cons.mpr ⟨(pl_wsX1_readPerson_wsX1_readPerson_r1 _ (List.mem_of_getElem? (i := 15) rfl)), List.forall_mem_cons.mpr ⟨(pl_wsX1_readPerson_wsX1_readPerson_r1 _ (List.mem_of_getElem? (i := 16) rfl)), List.forall_mem_cons.mpr ⟨(pl_wsX1_readPerson_wsX1_readPerson_r1 _ (List.mem_of_getElem? (i := 11) rfl)), List.forall_mem_cons.mpr ⟨(pl_wsX1_readPerson_wsX1_readPerson_r1 _ (List.mem_of_getElem? (i := 17) rfl)), List.forall_mem_cons.mpr ⟨(pl_wsX1_readPerson_wsX1_readPerson_r1 _ (List.mem_of_getElem? (i := 18) rfl)), List.forall_mem_cons.mpr ⟨(pl_wsX1_readPerson_wsX1_readPerson_r1 _ (List.mem_of_getElem? (i := 19) rfl)), List.forall_mem_cons.mpr ⟨(pl_wsX1_readPerson_wsX1_readPerson_r1 _ (List.mem_of_getElem? (i := 20) rfl)), List.forall_mem_cons.mpr ⟨(pl_wsX1_readPerson_wsX1_readPerson_r1 _ (List.mem_of_getElem? (i := 21) rfl)), List.forall_mem_cons.mpr ⟨(pl_wsX1_readPerson_wsX1_readPerson_r1 _ (List.mem_of_getElem? (i := 22) rfl)), List.forall_mem_cons.mpr ⟨(pl_wsX1_readPerson_wsX1_readPerson_r1 _ (List.mem_of_getElem? (i := 23) rfl)), List.forall_mem_cons.mpr ⟨(pl_wsX1_readPerson_wsX1_readPerson_r2 _ (List.mem_of_getElem? (i := 0) rfl)), List.forall_mem_cons.mpr ⟨(pl_wsX1_readPerson_wsX1_readPerson_r2 _ (List.mem_of_getElem? (i := 1) rfl)), List.forall_mem_cons.mpr ⟨(pl_wsX1_readPerson_wsX1_readPerson_r2 _ (List.mem_of_getElem? (i := 2) rfl)), List.forall_mem_cons.mpr ⟨(pl_wsX1_readPerson_wsX1_readPerson_r2 _ (List.mem_of_getElem? (i := 3) rfl)), List.forall_mem_cons.mpr ⟨(pl_wsX1_readPerson_wsX1_readPerson_r2 _ (List.mem_of_getElem? (i := 4) rfl)), List.forall_mem_cons.mpr ⟨(pl_wsX1_readPerson_wsX1_readPerson_r2 _ (List.mem_of_getElem? (i := 5) rfl)), List.forall_mem_cons.mpr ⟨(pl_wsX1_readPerson_wsX1_readPerson_r2 _ (List.mem_of_getElem? (i := 6) rfl)), List.forall_mem_cons.mpr ⟨(pl_wsX1_readPerson_wsX1_readPerson_r2 _ (List.mem_of_getElem? (i := 7) rfl)), List.forall_mem_cons.mpr ⟨(pl_wsX1_readPerson_wsX1_readPerson_r2 _ (List.mem_of_getElem? (i := 8) rfl)), fun _ h => absurd h List.not_mem_nil⟩⟩⟩⟩⟩⟩⟩⟩⟩⟩⟩⟩⟩⟩⟩⟩⟩⟩⟩⟩⟩⟩) w) (pl_wsX1_readPerson_wsX10 w))⟩) (by decide +kernel)
set_option maxRecDepth 20000 in
theorem gX1_readPerson_X1_readNumber : GoodIn wsX1_readPerson (wsV RX1 77 RX1 yX1_readNumber wsX1_readNumber) := goodIn_app (goodIn_sub (List.forall_mem_cons.mpr ⟨(pl_wsX1_readPerson_wsX1_readPerson_r1 _ (List.mem_of_getElem? (i := 8) rfl)), List.forall_mem_cons.mpr ⟨(pl_wsX1_readPerson_wsX1_readPerson_r1 _ (List.mem_of_getElem? (i := 9) rfl)), List.forall_mem_cons.mpr ⟨(pl_wsX1_readPerson_wsX1_readPerson_r1 _ (List.mem_of_getElem? (i := 10) rfl)), List.forall_mem_cons.mpr ⟨(pl_wsX1_readPerson_wsX1_readPerson_r1 _ (List.mem_of_getElem? (i := 11) rfl)), fun _ h => absurd h List.not_mem_nil⟩⟩⟩⟩) (by decide +kernel)) ggX1_readPerson_X1_readNumber
set_option maxRecDepth 20000 in
theorem ggX1_readPerson_X1_readCell : GoodIn wsX1_readPerson wsX1_readCell := goodIn_sub (List.forall_mem_cons.mpr ⟨(pl_wsX1_readPerson_wsX1_readPerson_r2 _ (List.mem_of_getElem? (i := 12) rfl)), (fun w h => (List.mem_append.mp h).elim ((fun w h => (List.mem_append.mp h).elim ((fun w h => (List.mem_append.mp h).elim ((List.forall_mem_cons.mpr ⟨(pl_wsX1_readPerson_wsX1_readPerson_r1 _ (List.mem_of_getElem? (i := 13) rfl)), List.forall_mem_cons.mpr ⟨(pl_wsX1_readPerson_wsX1_readPerson_r1 _ (List.mem_of_getElem? (i := 0) rfl)), List.forall_mem_cons.mpr ⟨(pl_wsX1_readPerson_wsX1_readPerson_r1 _ (List.mem_of_getElem? (i := 1) rfl)), List.forall_mem_cons.mpr ⟨(pl_wsX1_readPerson_wsX1_readPerson_r1 _ (List.mem_of_getElem? (i := 14) rfl)), List.forall_mem_cons.mpr ⟨(pl_wsX1_readPerson_wsX1_readPerson_r1 _ (List.mem_of_getElem? (i := 15) rfl)), List.forall_mem_cons.mpr ⟨(pl_wsX1_readPerson_wsX1_readPerson_r1 _ (List.mem_of_getElem? (i := 16) rfl)), List.forall_mem_cons.mpr ⟨(pl_wsX1_readPerson_wsX1_readPerson_r1 _ (List.mem_of_getElem? (i := 11) rfl)), List.forall_mem_cons.mpr ⟨(pl_wsX1_readPerson_wsX1_readPerson_r1 _ (List.mem_of_getElem? (i := 17) rfl)), List.forall_mem_cons.mpr ⟨(pl_wsX1_readPerson_wsX1_readPerson_r1 _ (List.mem_of_getElem? (i := 18) rfl)), List.forall_mem_cons.mpr ⟨(pl_wsX1_readPerson_wsX1_readPerson_r1 _ (List.mem_of_getElem? (i := 19) rfl)), List.forall_mem_cons.mpr ⟨(pl_wsX1_readPerson_wsX1_readPerson_r1 _ (List.mem_of_getElem? (i := 20) rfl)), List.forall_mem_cons.mpr ⟨(pl_wsX1_readPerson_wsX1_readPerson_r1 _ (List.mem_of_getElem? (i := 21) rfl)), List.forall_mem_cons.mpr ⟨(pl_wsX1_readPerson_wsX1_readPerson_r1 _ (List.mem_of_getElem? (i := 22) rfl)), List.forall_mem_cons.mpr ⟨(pl_wsX1_readPerson_wsX1_readPerson_r1 _ (List.mem_of_getElem? (i := 23) rfl)), List.forall_mem_cons.mpr ⟨(pl_wsX1_readPerson_wsX1_readPerson_r2 _ (List.mem_of_getElem? (i := 0) rfl)), List.forall_mem_cons.mpr ⟨(pl_wsX1_readPerson_wsX1_readPerson_r2 _ (List.mem_of_getElem? (i := 1) rfl)), List.forall_mem_cons.mpr ⟨(pl_wsX1_readPerson_wsX1_readPerson_r2 _ (List.mem_of_getElem? (i := 2) rfl)), List.forall_mem_cons.mpr ⟨(pl_wsX1_readPerson_wsX1_readPerson_r2 _ (List.mem_of_getElem? (i := 3) rfl)), List.forall_mem_cons.mpr ⟨(pl_wsX1_readPerson_wsX1_readPerson_r2 _ (List.mem_of_getElem? (i := 4) rfl)), List.forall_mem_cons.mpr ⟨(pl_wsX1_readPerson_wsX1_readPerson_r2 _ (List.mem_of_getElem? (i := 5) rfl)), List.forall_mem_cons.mpr ⟨(pl_wsX1_readPerson_wsX1_readPerson_r2 _ (List.mem_of_getElem? (i := 6) rfl)), List.forall_mem_cons.mpr ⟨(pl_wsX1_readPerson_wsX1_readPerson_r2 _ (List.mem_of_getElem? (i := 7) rfl)), List.forall_mem_cons.mpr ⟨(pl_wsX1_readPerson_wsX1_readPerson_r2 _ (List.mem_of_getElem? (i := 8) rfl)), List.forall_mem_cons.mpr ⟨(pl_wsX1_readPerson_wsX1_readPerson_r2 _ (List.mem_of_getElem? (i := 13) rfl)), fun _ h => absurd h List.not_mem_nil⟩⟩⟩⟩⟩⟩⟩⟩⟩⟩⟩⟩⟩⟩⟩⟩⟩⟩⟩⟩⟩⟩⟩⟩) w) ((List.forall_mem_cons.mpr ⟨(pl_wsX1_readPerson_wsX1_readPerson_r2 _ (List.mem_of_getElem? (i := 14) rfl)), List.forall_mem_cons.mpr ⟨(pl_wsX1_readPerson_wsX1_readPerson_r2 _ (List.mem_of_getElem? (i := 15) rfl)), List.forall_mem_cons.mpr ⟨(pl_wsX1_readPerson_wsX1_readPerson_r1 _ (List.mem_of_getElem? (i := 5) rfl)), List.forall_mem_cons.mpr ⟨(pl_wsX1_readPerson_wsX1_readPerson_r2 _ (List.mem_of_getElem? (i := 16) rfl)), List.forall_mem_cons.mpr ⟨(pl_wsX1_readPerson_wsX1_readPerson_r2 _ (List.mem_of_getElem? (i := 17) rfl)), fun _ h => absurd h List.not_mem_nil⟩⟩⟩⟩⟩) w)) w) (pl_wsX1_readPerson_wsX10 w)) w) (pl_wsX1_readPerson_wsX00 w))⟩) (by decide +kernel)
set_option maxRecDepth 20000 in
theorem gX1_readPerson_X1_readCell : GoodIn wsX1_readPerson (wsV RX1 89 RX1 yX1_readCell wsX1_readCell) := goodIn_app (goodIn_sub (List.forall_mem_cons.mpr ⟨(pl_wsX1_readPerson_wsX1_readPerson_r2 _ (List.mem_of_getElem? (i := 9) rfl)), List.forall_mem_cons.mpr ⟨(pl_wsX1_readPerson_wsX1_readPerson_r2 _ (List.mem_of_getElem? (i := 10) rfl)), List.forall_mem_cons.mpr ⟨(pl_wsX1_readPerson_wsX1_readPerson_r2 _ (List.mem_of_getElem? (i := 11) rfl)), List.forall_mem_cons.mpr ⟨(pl_wsX1_readPerson_wsX1_readPerson_r1 _ (List.mem_of_getElem? (i := 11) rfl)), fun _ h => absurd h List.not_mem_nil⟩⟩⟩⟩) (by decide +kernel)) ggX1_readPerson_X1_readCell
set_option maxRecDepth 20000 in
theorem ggX1_readPerson_X0_hasPond : GoodIn wsX1_readPerson wsX0_hasPond := goodIn_sub (List.forall_mem_cons.mpr ⟨(pl_wsX1_readPerson_wsX1_readPerson_r2 _ (List.mem_of_getElem? (i := 21) rfl)), (fun w h => (List.mem_append.mp h).elim ((List.forall_mem_cons.mpr ⟨(pl_wsX1_readPerson_wsX1_readPerson_r2 _ (List.mem_of_getElem? (i := 22) rfl)), List.forall_mem_cons.mpr ⟨(pl_wsX1_readPerson_wsX1_readPerson_r2 _ (List.mem_of_getElem? (i := 23) rfl)), List.forall_mem_cons.mpr ⟨(pl_wsX1_readPerson_wsX1_readPerson_r2 _ (List.mem_of_getElem? (i := 14) rfl)), List.forall_mem_cons.mpr ⟨(pl_wsX1_readPerson_wsX1_readPerson_r2 _ (List.mem_of_getElem? (i := 15) rfl)), List.forall_mem_cons.mpr ⟨(pl_wsX1_readPerson_wsX1_readPerson_r1 _ (List.mem_of_getElem? (i := 5) rfl)), List.forall_mem_cons.mpr ⟨(pl_wsX1_readPerson_wsX1_readPerson_r2 _ (List.mem_of_getElem? (i := 16) rfl)), List.forall_mem_cons.mpr ⟨(pl_wsX1_readPerson_wsX1_readPerson_r2 _ (List.mem_of_getElem? (i := 17) rfl)), fun _ h => absurd h List.not_mem_nil⟩⟩⟩⟩⟩⟩⟩) w) (pl_wsX1_readPerson_wsX00 w))⟩) (by decide +kernel)
set_option maxRecDepth 20000 in
theorem gX1_readPerson_X0_hasPond : GoodIn wsX1_readPerson (wsV RX1 100 RX0 yX0_hasPond wsX0_hasPond) := goodIn_app (goodIn_sub (List.forall_mem_cons.mpr ⟨(pl_wsX1_readPerson_wsX1_readPerson_r2 _ (List.mem_of_getElem? (i := 18) rfl)), List.forall_mem_cons.mpr ⟨(pl_wsX1_readPerson_wsX1_readPerson_r2 _ (List.mem_of_getElem? (i := 19) rfl)), List.forall_mem_cons.mpr ⟨(pl_wsX1_readPerson_wsX1_readPerson_r2 _ (List.mem_of_getElem? (i := 20) rfl)), List.forall_mem_cons.mpr ⟨(pl_wsX1_readPerson_wsX1_readPerson_r1 _ (List.mem_of_getElem? (i := 5) rfl)), fun _ h => absurd h List.not_mem_nil⟩⟩⟩⟩) (by decide +kernel)) ggX1_readPerson_X0_hasPond
set_option maxRecDepth 20000 in
theorem pl_wsX1_readPerson_wsX1_readPerson_r3 : ∀ w ∈ wsX1_readPerson_r3, w ∈ wsX1_readPerson := fun _ h => List.mem_cons_of_mem _ (List.mem_append_left _ (List.mem_append_left _ (List.mem_append_right _ (List.mem_append_right _ (h)))))
theorem ggX1_readPerson_X0_add : GoodIn wsX1_readPerson wsX0_add := goodIn_sub (List.forall_mem_cons.mpr ⟨(pl_wsX1_readPerson_wsX1_readPerson_r3 _ (List.mem_of_getElem? (i := 3) rfl)), (fun w h => (List.mem_append.mp h).elim ((List.forall_mem_cons.mpr ⟨(pl_wsX1_readPerson_wsX1_readPerson_r1 _ (List.mem_of_getElem? (i := 7) rfl)), List.forall_mem_cons.mpr ⟨(pl_wsX1_readPerson_wsX1_readPerson_r3 _ (List.mem_of_getElem? (i := 4) rfl)), List.forall_mem_cons.mpr ⟨(pl_wsX1_readPerson_wsX1_readPerson_r3 _ (List.mem_of_getElem? (i := 5) rfl)), List.forall_mem_cons.mpr ⟨(pl_wsX1_readPerson_wsX1_readPerson_r3 _ (List.mem_of_getElem? (i := 6) rfl)), List.forall_mem_cons.mpr ⟨(pl_wsX1_readPerson_wsX1_readPerson_r3 _ (List.mem_of_getElem? (i := 7) rfl)), List.forall_mem_cons.mpr ⟨(pl_wsX1_readPerson_wsX1_readPerson_r3 _ (List.mem_of_getElem? (i := 8) rfl)), List.forall_mem_cons.mpr ⟨(pl_wsX1_readPerson_wsX1_readPerson_r3 _ (List.mem_of_getElem? (i := 9) rfl)), List.forall_mem_cons.mpr ⟨(pl_wsX1_readPerson_wsX1_readPerson_r1 _ (List.mem_of_getElem? (i := 3) rfl)), List.forall_mem_cons.mpr ⟨(pl_wsX1_readPerson_wsX1_readPerson_r1 _ (List.mem_of_getElem? (i := 4) rfl)), List.forall_mem_cons.mpr ⟨(pl_wsX1_readPerson_wsX1_readPerson_r1 _ (List.mem_of_getElem? (i := 5) rfl)), List.forall_mem_cons.mpr ⟨(pl_wsX1_readPerson_wsX1_readPerson_r1 _ (List.mem_of_getElem? (i := 6) rfl)), fun _ h => absurd h List.not_mem_nil⟩⟩⟩⟩⟩⟩⟩⟩⟩⟩⟩) w) (pl_wsX1_readPerson_wsX00 w))⟩) (by decide +kernel)
set_option maxRecDepth 20000 in
theorem gX1_readPerson_X0_add : GoodIn wsX1_readPerson (wsV RX1 103 RX0 yX0_add wsX0_add) := goodIn_app (goodIn_sub (List.forall_mem_cons.mpr ⟨(pl_wsX1_readPerson_wsX1_readPerson_r3 _ (List.mem_of_getElem? (i := 0) rfl)), List.forall_mem_cons.mpr ⟨(pl_wsX1_readPerson_wsX1_readPerson_r3 _ (List.mem_of_getElem? (i := 1) rfl)), List.forall_mem_cons.mpr ⟨(pl_wsX1_readPerson_wsX1_readPerson_r3 _ (List.mem_of_getElem? (i := 2) rfl)), List.forall_mem_cons.mpr ⟨(pl_wsX1_readPerson_wsX1_readPerson_r1 _ (List.mem_of_getElem? (i := 5) rfl)), fun _ h => absurd h List.not_mem_nil⟩⟩⟩⟩) (by decide +kernel)) ggX1_readPerson_X0_add
theorem tdX1_readPerson_0 : decs cX1_readPerson [(0, .aload_n 0, 1), (1, .getfield 31, 3), (4, .invokevirtual 99, 3), (7, .ifCond .ne 12, 3), (10, .aload_n 0, 1), (11, .iconst 0, 1), (12, .iconst 5, 1), (13, .invokevirtual 77, 3), (16, .ifCond .ne 5, 3), (19, .iconst 0, 1), (20, .ireturn, 1), (21, .aload_n 0, 1), (22, .getfield 28, 3), (25, .istore_n 1, 1), (26, .aload_n 0, 1), (27, .iconst 0, 1), (28, .bipush 9, 2), (30, .invokevirtual 77, 3), (33, .ifCond .ne 5, 3), (36, .iconst 0, 1), (37, .ireturn, 1), (38, .aload_n 0, 1), (39, .getfield 28, 3), (42, .istore_n 2, 1), (43, .aload_n 0, 1), (44, .invokevirtual 89, 3), (47, .ifCond .eq 17, 3), (50, .aload_n 0, 1), (51, .getfield 31, 3), (54, .aload_n 0, 1), (55, .getfield 28, 3), (58, .invokevirtual 100, 3), (61, .ifCond .eq 5, 3), (64, .iconst 0, 1), (65, .ireturn, 1), (66, .aload_n 0, 1), (67, .getfield 28, 3), (70, .istore_n 3, 1), (71, .aload_n 0, 1), (72, .iconst 0, 1)] = true := by decide +kernel
theorem dX1_readPerson_0 : decode cX1_readPerson 0 = .ok (.aload_n 0, 1) := decs_at tdX1_readPerson_0 0 rfl
theorem dX1_readPerson_1 : decode cX1_readPerson 1 = .ok (.getfield 31, 3) := decs_at tdX1_readPerson_0 1 rfl
theorem dX1_readPerson_4 : decode cX1_readPerson 4 = .ok (.invokevirtual 99, 3) := decs_at tdX1_readPerson_0 2 rfl
theorem dX1_readPerson_7 : decode cX1_readPerson 7 = .ok (.ifCond .ne 12, 3) := decs_at tdX1_readPerson_0 3 rfl
theorem dX1_readPerson_10 : decode cX1_readPerson 10 = .ok (.aload_n 0, 1) := decs_at tdX1_readPerson_0 4 rfl
theorem dX1_readPerson_11 : decode cX1_readPerson 11 = .ok (.iconst 0, 1) := decs_at tdX1_readPerson_0 5 rfl
theorem dX1_readPerson_12 : decode cX1_readPerson 12 = .ok (.iconst 5, 1) := decs_at tdX1_readPerson_0 6 rfl
theorem dX1_readPerson_13 : decode cX1_readPerson 13 = .ok (.invokevirtual 77, 3) := decs_at tdX1_readPerson_0 7 rfl
theorem dX1_readPerson_16 : decode cX1_readPerson 16 = .ok (.ifCond .ne 5, 3) := decs_at tdX1_readPerson_0 8 rfl
theorem dX1_readPerson_19 : decode cX1_readPerson 19 = .ok (.iconst 0, 1) := decs_at tdX1_readPerson_0 9 rfl
theorem dX1_readPerson_20 : decode cX1_readPerson 20 = .ok (.ireturn, 1) := decs_at tdX1_readPerson_0 10 rfl
theorem dX1_readPerson_21 : decode cX1_readPerson 21 = .ok (.aload_n 0, 1) := decs_at tdX1_readPerson_0 11 rfl
theorem dX1_readPerson_22 : decode cX1_readPerson 22 = .ok (.getfield 28, 3) := decs_at tdX1_readPerson_0 12 rfl
theorem dX1_readPerson_25 : decode cX1_readPerson 25 = .ok (.istore_n 1, 1) := decs_at tdX1_readPerson_0 13 rfl
theorem dX1_readPerson_26 : decode cX1_readPerson 26 = .ok (.aload_n 0, 1) := decs_at tdX1_readPerson_0 14 rfl
theorem dX1_readPerson_27 : decode cX1_readPerson 27 = .ok (.iconst 0, 1) := decs_at tdX1_readPerson_0 15 rfl
theorem dX1_readPerson_28 : decode cX1_readPerson 28 = .ok (.bipush 9, 2) := decs_at tdX1_readPerson_0 16 rfl
theorem dX1_readPerson_30 : decode cX1_readPerson 30 = .ok (.invokevirtual 77, 3) := decs_at tdX1_readPerson_0 17 rfl
theorem dX1_readPerson_33 : decode cX1_readPerson 33 = .ok (.ifCond .ne 5, 3) := decs_at tdX1_readPerson_0 18 rfl
theorem dX1_readPerson_36 : decode cX1_readPerson 36 = .ok (.iconst 0, 1) := decs_at tdX1_readPerson_0 19 rfl
theorem dX1_readPerson_37 : decode cX1_readPerson 37 = .ok (.ireturn, 1) := decs_at tdX1_readPerson_0 20 rfl
theorem dX1_readPerson_38 : decode cX1_readPerson 38 = .ok (.aload_n 0, 1) := decs_at tdX1_readPerson_0 21 rfl
theorem dX1_readPerson_39 : decode cX1_readPerson 39 = .ok (.getfield 28, 3) := decs_at tdX1_readPerson_0 22 rfl
theorem dX1_readPerson_42 : decode cX1_readPerson 42 = .ok (.istore_n 2, 1) := decs_at tdX1_readPerson_0 23 rfl
theorem dX1_readPerson_43 : decode cX1_readPerson 43 = .ok (.aload_n 0, 1) := decs_at tdX1_readPerson_0 24 rfl
theorem dX1_readPerson_44 : decode cX1_readPerson 44 = .ok (.invokevirtual 89, 3) := decs_at tdX1_readPerson_0 25 rfl
theorem dX1_readPerson_47 : decode cX1_readPerson 47 = .ok (.ifCond .eq 17, 3) := decs_at tdX1_readPerson_0 26 rfl
theorem dX1_readPerson_50 : decode cX1_readPerson 50 = .ok (.aload_n 0, 1) := decs_at tdX1_readPerson_0 27 rfl
theorem dX1_readPerson_51 : decode cX1_readPerson 51 = .ok (.getfield 31, 3) := decs_at tdX1_readPerson_0 28 rfl
theorem dX1_readPerson_54 : decode cX1_readPerson 54 = .ok (.aload_n 0, 1) := decs_at tdX1_readPerson_0 29 rfl
theorem dX1_readPerson_55 : decode cX1_readPerson 55 = .ok (.getfield 28, 3) := decs_at tdX1_readPerson_0 30 rfl
theorem dX1_readPerson_58 : decode cX1_readPerson 58 = .ok (.invokevirtual 100, 3) := decs_at tdX1_readPerson_0 31 rfl
theorem dX1_readPerson_61 : decode cX1_readPerson 61 = .ok (.ifCond .eq 5, 3) := decs_at tdX1_readPerson_0 32 rfl
theorem dX1_readPerson_64 : decode cX1_readPerson 64 = .ok (.iconst 0, 1) := decs_at tdX1_readPerson_0 33 rfl
theorem dX1_readPerson_65 : decode cX1_readPerson 65 = .ok (.ireturn, 1) := decs_at tdX1_readPerson_0 34 rfl
theorem dX1_readPerson_66 : decode cX1_readPerson 66 = .ok (.aload_n 0, 1) := decs_at tdX1_readPerson_0 35 rfl
theorem dX1_readPerson_67 : decode cX1_readPerson 67 = .ok (.getfield 28, 3) := decs_at tdX1_readPerson_0 36 rfl
theorem dX1_readPerson_70 : decode cX1_readPerson 70 = .ok (.istore_n 3, 1) := decs_at tdX1_readPerson_0 37 rfl
theorem dX1_readPerson_71 : decode cX1_readPerson 71 = .ok (.aload_n 0, 1) := decs_at tdX1_readPerson_0 38 rfl
theorem dX1_readPerson_72 : decode cX1_readPerson 72 = .ok (.iconst 0, 1) := decs_at tdX1_readPerson_0 39 rfl
theorem tdX1_readPerson_73 : decs cX1_readPerson [(73, .iconst 3, 1), (74, .invokevirtual 77, 3), (77, .ifCond .ne 5, 3), (80, .iconst 0, 1), (81, .ireturn, 1), (82, .aload_n 0, 1), (83, .getfield 31, 3), (86, .iload_n 1, 1), (87, .iload_n 2, 1), (88, .iload_n 3, 1), (89, .aload_n 0, 1), (90, .getfield 28, 3), (93, .invokevirtual 103, 3), (96, .pop, 1), (97, .iconst 1, 1), (98, .ireturn, 1)] = true := by decide +kernel
theorem dX1_readPerson_73 : decode cX1_readPerson 73 = .ok (.iconst 3, 1) := decs_at tdX1_readPerson_73 0 rfl
theorem dX1_readPerson_74 : decode cX1_readPerson 74 = .ok (.invokevirtual 77, 3) := decs_at tdX1_readPerson_73 1 rfl
theorem dX1_readPerson_77 : decode cX1_readPerson 77 = .ok (.ifCond .ne 5, 3) := decs_at tdX1_readPerson_73 2 rfl
theorem dX1_readPerson_80 : decode cX1_readPerson 80 = .ok (.iconst 0, 1) := decs_at tdX1_readPerson_73 3 rfl
theorem dX1_readPerson_81 : decode cX1_readPerson 81 = .ok (.ireturn, 1) := decs_at tdX1_readPerson_73 4 rfl
theorem dX1_readPerson_82 : decode cX1_readPerson 82 = .ok (.aload_n 0, 1) := decs_at tdX1_readPerson_73 5 rfl
theorem dX1_readPerson_83 : decode cX1_readPerson 83 = .ok (.getfield 31, 3) := decs_at tdX1_readPerson_73 6 rfl
theorem dX1_readPerson_86 : decode cX1_readPerson 86 = .ok (.iload_n 1, 1) := decs_at tdX1_readPerson_73 7 rfl
theorem dX1_readPerson_87 : decode cX1_readPerson 87 = .ok (.iload_n 2, 1) := decs_at tdX1_readPerson_73 8 rfl
theorem dX1_readPerson_88 : decode cX1_readPerson 88 = .ok (.iload_n 3, 1) := decs_at tdX1_readPerson_73 9 rfl
theorem dX1_readPerson_89 : decode cX1_readPerson 89 = .ok (.aload_n 0, 1) := decs_at tdX1_readPerson_73 10 rfl
theorem dX1_readPerson_90 : decode cX1_readPerson 90 = .ok (.getfield 28, 3) := decs_at tdX1_readPerson_73 11 rfl
theorem dX1_readPerson_93 : decode cX1_readPerson 93 = .ok (.invokevirtual 103, 3) := decs_at tdX1_readPerson_73 12 rfl
theorem dX1_readPerson_96 : decode cX1_readPerson 96 = .ok (.pop, 1) := decs_at tdX1_readPerson_73 13 rfl
theorem dX1_readPerson_97 : decode cX1_readPerson 97 = .ok (.iconst 1, 1) := decs_at tdX1_readPerson_73 14 rfl
theorem dX1_readPerson_98 : decode cX1_readPerson 98 = .ok (.ireturn, 1) := decs_at tdX1_readPerson_73 15 rfl
set_option maxRecDepth 20000 in
theorem pl_wsX1_readIs_wsX1_readIs_r1 : ∀ w ∈ wsX1_readIs_r1, w ∈ wsX1_readIs := fun _ h => List.mem_cons_of_mem _ (List.mem_append_left _ (List.mem_append_left _ (List.mem_append_left _ (h))))
theorem pl_wsX1_readIs_wsX1_readIs_r2 : ∀ w ∈ wsX1_readIs_r2, w ∈ wsX1_readIs := fun _ h => List.mem_cons_of_mem _ (List.mem_append_left _ (List.mem_append_left _ (List.mem_append_right _ (h))))
theorem pl_wsX1_readIs_wsX10 : ∀ w ∈ wsX10, w ∈ wsX1_readIs := fun _ h => List.mem_cons_of_mem _ (List.mem_append_left _ (List.mem_append_right _ (h)))
theorem ggX1_readIs_X1_readNumber : GoodIn wsX1_readIs wsX1_readNumber := goodIn_sub (List.forall_mem_cons.mpr ⟨(pl_wsX1_readIs_wsX1_readIs_r1 _ (List.mem_of_getElem? (i := 6) rfl)), (fun w h => (List.mem_append.mp h).elim ((List.forall_mem_cons.mpr ⟨(pl_wsX1_readIs_wsX1_readIs_r1 _ (List.mem_of_getElem? (i := 7) rfl)), List.forall_mem_cons.mpr ⟨(pl_wsX1_readIs_wsX1_readIs_r1 _ (List.mem_of_getElem? (i := 1) rfl)), List.forall_mem_cons.mpr ⟨(pl_wsX1_readIs_wsX1_readIs_r1 _ (List.mem_of_getElem? (i := 8) rfl)), List.forall_mem_cons.mpr ⟨(pl_wsX1_readIs_wsX1_readIs_r1 _ (List.mem_of_getElem? (i := 9) rfl)), List.forall_mem_cons.mpr ⟨(pl_wsX1_readIs_wsX1_readIs_r1 _ (List.mem_of_getElem? (i := 10) rfl)), List.forall_mem_cons.mpr ⟨(pl_wsX1_readIs_wsX1_readIs_r1 _ (List.mem_of_getElem? (i := 5) rfl)), List.forall_mem_cons.mpr ⟨(pl_wsX1_readIs_wsX1_readIs_r1 _ (List.mem_of_getElem? (i := 11) rfl)), List.forall_mem_cons.mpr ⟨(pl_wsX1_readIs_wsX1_readIs_r1 _ (List.mem_of_getElem? (i := 12) rfl)), List.forall_mem_cons.mpr ⟨(pl_wsX1_readIs_wsX1_readIs_r1 _ (List.mem_of_getElem? (i := 13) rfl)), List.forall_mem_cons.mpr ⟨(pl_wsX1_readIs_wsX1_readIs_r1 _ (List.mem_of_getElem? (i := 14) rfl)), List.forall_mem_cons.mpr ⟨(pl_wsX1_readIs_wsX1_readIs_r1 _ (List.mem_of_getElem? (i := 15) rfl)), List.forall_mem_cons.mpr ⟨(pl_wsX1_readIs_wsX1_readIs_r1 _ (List.mem_of_getElem? (i := 16) rfl)), List.forall_mem_cons.mpr ⟨(pl_wsX1_readIs_wsX1_readIs_r1 _ (List.mem_of_getElem? (i := 17) rfl)), List.forall_mem_cons.mpr ⟨(pl_wsX1_readIs_wsX1_readIs_r1 _ (List.mem_of_getElem? (i := 18) rfl)), List.forall_mem_cons.mpr ⟨(pl_wsX1_readIs_wsX1_readIs_r1 _ (List.mem_of_getElem? (i := 19) rfl)), List.forall_mem_cons.mpr ⟨(pl_wsX1_readIs_wsX1_readIs_r1 _ (List.mem_of_getElem? (i := 20) rfl)), List.forall_mem_cons.mpr ⟨(pl_wsX1_readIs_wsX1_readIs_r1 _ (List.mem_of_getElem? (i := 21) rfl)), List.forall_mem_cons.mpr ⟨(pl_wsX1_readIs_wsX1_readIs_r1 _ (List.mem_of_getElem? (i := 22) rfl)), List.forall_mem_cons.mpr ⟨(pl_wsX1_readIs_wsX1_readIs_r1 _ (List.mem_of_getElem? (i := 23) rfl)), List.forall_mem_cons.mpr ⟨(pl_wsX1_readIs_wsX1_readIs_r2 _ (List.mem_of_getElem? (i := 0) rfl)), List.forall_mem_cons.mpr ⟨(pl_wsX1_readIs_wsX1_readIs_r2 _ (List.mem_of_getElem? (i := 1) rfl)), List.forall_mem_cons.mpr ⟨(pl_wsX1_readIs_wsX1_readIs_r2 _ (List.mem_of_getElem? (i := 2) rfl)), fun _ h => absurd h List.not_mem_nil⟩⟩⟩⟩⟩⟩⟩⟩⟩⟩⟩⟩⟩⟩⟩⟩⟩⟩⟩⟩⟩⟩) w) (pl_wsX1_readIs_wsX10 w))⟩) (by decide +kernel)
set_option maxRecDepth 20000 in
theorem gX1_readIs_X1_readNumber : GoodIn wsX1_readIs (wsV RX1 77 RX1 yX1_readNumber wsX1_readNumber) := goodIn_app (goodIn_sub (List.forall_mem_cons.mpr ⟨(pl_wsX1_readIs_wsX1_readIs_r1 _ (List.mem_of_getElem? (i := 2) rfl)), List.forall_mem_cons.mpr ⟨(pl_wsX1_readIs_wsX1_readIs_r1 _ (List.mem_of_getElem? (i := 3) rfl)), List.forall_mem_cons.mpr ⟨(pl_wsX1_readIs_wsX1_readIs_r1 _ (List.mem_of_getElem? (i := 4) rfl)), List.forall_mem_cons.mpr ⟨(pl_wsX1_readIs_wsX1_readIs_r1 _ (List.mem_of_getElem? (i := 5) rfl)), fun _ h => absurd h List.not_mem_nil⟩⟩⟩⟩) (by decide +kernel)) ggX1_readIs_X1_readNumber
set_option maxRecDepth 20000 in
theorem pl_wsX1_readIs_wsX00 : ∀ w ∈ wsX00, w ∈ wsX1_readIs := fun _ h => List.mem_cons_of_mem _ (List.mem_append_right _ (h))
theorem ggX1_readIs_X0_isOne : GoodIn wsX1_readIs wsX0_isOne := goodIn_sub (List.forall_mem_cons.mpr ⟨(pl_wsX1_readIs_wsX1_readIs_r2 _ (List.mem_of_getElem? (i := 7) rfl)), (fun w h => (List.mem_append.mp h).elim ((List.forall_mem_cons.mpr ⟨(pl_wsX1_readIs_wsX1_readIs_r2 _ (List.mem_of_getElem? (i := 8) rfl)), List.forall_mem_cons.mpr ⟨(pl_wsX1_readIs_wsX1_readIs_r1 _ (List.mem_of_getElem? (i := 16) rfl)), List.forall_mem_cons.mpr ⟨(pl_wsX1_readIs_wsX1_readIs_r1 _ (List.mem_of_getElem? (i := 17) rfl)), List.forall_mem_cons.mpr ⟨(pl_wsX1_readIs_wsX1_readIs_r1 _ (List.mem_of_getElem? (i := 18) rfl)), fun _ h => absurd h List.not_mem_nil⟩⟩⟩⟩) w) (pl_wsX1_readIs_wsX00 w))⟩) (by decide +kernel)
set_option maxRecDepth 20000 in
theorem gX1_readIs_X0_isOne : GoodIn wsX1_readIs (wsV RX1 107 RX0 yX0_isOne wsX0_isOne) := goodIn_app (goodIn_sub (List.forall_mem_cons.mpr ⟨(pl_wsX1_readIs_wsX1_readIs_r2 _ (List.mem_of_getElem? (i := 3) rfl)), List.forall_mem_cons.mpr ⟨(pl_wsX1_readIs_wsX1_readIs_r2 _ (List.mem_of_getElem? (i := 4) rfl)), List.forall_mem_cons.mpr ⟨(pl_wsX1_readIs_wsX1_readIs_r2 _ (List.mem_of_getElem? (i := 5) rfl)), List.forall_mem_cons.mpr ⟨(pl_wsX1_readIs_wsX1_readIs_r2 _ (List.mem_of_getElem? (i := 6) rfl)), fun _ h => absurd h List.not_mem_nil⟩⟩⟩⟩) (by decide +kernel)) ggX1_readIs_X0_isOne
theorem tdX1_readIs_0 : decs cX1_readIs [(0, .aload_n 0, 1), (1, .iconst 0, 1), (2, .bipush 7, 2), (4, .invokevirtual 77, 3), (7, .ifCond .eq 17, 3), (10, .aload_n 0, 1), (11, .getfield 31, 3), (14, .aload_n 0, 1), (15, .getfield 28, 3), (18, .invokevirtual 107, 3), (21, .ifCond .ne 5, 3), (24, .iconst 0, 1), (25, .ireturn, 1), (26, .aload_n 0, 1), (27, .getfield 28, 3), (30, .istore_n 1, 1), (31, .aload_n 0, 1), (32, .iconst 0, 1), (33, .iconst 1, 1), (34, .invokevirtual 77, 3), (37, .ifCond .ne 5, 3), (40, .iconst 0, 1), (41, .ireturn, 1), (42, .aload_n 0, 1), (43, .getfield 31, 3), (46, .getfield 110, 3), (49, .iload_n 1, 1), (50, .aload_n 0, 1), (51, .getfield 28, 3), (54, .iastore, 1), (55, .iconst 1, 1), (56, .ireturn, 1)] = true := by decide +kernel
theorem dX1_readIs_0 : decode cX1_readIs 0 = .ok (.aload_n 0, 1) := decs_at tdX1_readIs_0 0 rfl
theorem dX1_readIs_1 : decode cX1_readIs 1 = .ok (.iconst 0, 1) := decs_at tdX1_readIs_0 1 rfl
theorem dX1_readIs_2 : decode cX1_readIs 2 = .ok (.bipush 7, 2) := decs_at tdX1_readIs_0 2 rfl
theorem dX1_readIs_4 : decode cX1_readIs 4 = .ok (.invokevirtual 77, 3) := decs_at tdX1_readIs_0 3 rfl
theorem dX1_readIs_7 : decode cX1_readIs 7 = .ok (.ifCond .eq 17, 3) := decs_at tdX1_readIs_0 4 rfl
theorem dX1_readIs_10 : decode cX1_readIs 10 = .ok (.aload_n 0, 1) := decs_at tdX1_readIs_0 5 rfl
theorem dX1_readIs_11 : decode cX1_readIs 11 = .ok (.getfield 31, 3) := decs_at tdX1_readIs_0 6 rfl
theorem dX1_readIs_14 : decode cX1_readIs 14 = .ok (.aload_n 0, 1) := decs_at tdX1_readIs_0 7 rfl
theorem dX1_readIs_15 : decode cX1_readIs 15 = .ok (.getfield 28, 3) := decs_at tdX1_readIs_0 8 rfl
theorem dX1_readIs_18 : decode cX1_readIs 18 = .ok (.invokevirtual 107, 3) := decs_at tdX1_readIs_0 9 rfl
theorem dX1_readIs_21 : decode cX1_readIs 21 = .ok (.ifCond .ne 5, 3) := decs_at tdX1_readIs_0 10 rfl
theorem dX1_readIs_24 : decode cX1_readIs 24 = .ok (.iconst 0, 1) := decs_at tdX1_readIs_0 11 rfl
theorem dX1_readIs_25 : decode cX1_readIs 25 = .ok (.ireturn, 1) := decs_at tdX1_readIs_0 12 rfl
theorem dX1_readIs_26 : decode cX1_readIs 26 = .ok (.aload_n 0, 1) := decs_at tdX1_readIs_0 13 rfl
theorem dX1_readIs_27 : decode cX1_readIs 27 = .ok (.getfield 28, 3) := decs_at tdX1_readIs_0 14 rfl
theorem dX1_readIs_30 : decode cX1_readIs 30 = .ok (.istore_n 1, 1) := decs_at tdX1_readIs_0 15 rfl
theorem dX1_readIs_31 : decode cX1_readIs 31 = .ok (.aload_n 0, 1) := decs_at tdX1_readIs_0 16 rfl
theorem dX1_readIs_32 : decode cX1_readIs 32 = .ok (.iconst 0, 1) := decs_at tdX1_readIs_0 17 rfl
theorem dX1_readIs_33 : decode cX1_readIs 33 = .ok (.iconst 1, 1) := decs_at tdX1_readIs_0 18 rfl
theorem dX1_readIs_34 : decode cX1_readIs 34 = .ok (.invokevirtual 77, 3) := decs_at tdX1_readIs_0 19 rfl
theorem dX1_readIs_37 : decode cX1_readIs 37 = .ok (.ifCond .ne 5, 3) := decs_at tdX1_readIs_0 20 rfl
theorem dX1_readIs_40 : decode cX1_readIs 40 = .ok (.iconst 0, 1) := decs_at tdX1_readIs_0 21 rfl
theorem dX1_readIs_41 : decode cX1_readIs 41 = .ok (.ireturn, 1) := decs_at tdX1_readIs_0 22 rfl
theorem dX1_readIs_42 : decode cX1_readIs 42 = .ok (.aload_n 0, 1) := decs_at tdX1_readIs_0 23 rfl
theorem dX1_readIs_43 : decode cX1_readIs 43 = .ok (.getfield 31, 3) := decs_at tdX1_readIs_0 24 rfl
theorem dX1_readIs_46 : decode cX1_readIs 46 = .ok (.getfield 110, 3) := decs_at tdX1_readIs_0 25 rfl
theorem dX1_readIs_49 : decode cX1_readIs 49 = .ok (.iload_n 1, 1) := decs_at tdX1_readIs_0 26 rfl
theorem dX1_readIs_50 : decode cX1_readIs 50 = .ok (.aload_n 0, 1) := decs_at tdX1_readIs_0 27 rfl
theorem dX1_readIs_51 : decode cX1_readIs 51 = .ok (.getfield 28, 3) := decs_at tdX1_readIs_0 28 rfl
theorem dX1_readIs_54 : decode cX1_readIs 54 = .ok (.iastore, 1) := decs_at tdX1_readIs_0 29 rfl
theorem dX1_readIs_55 : decode cX1_readIs 55 = .ok (.iconst 1, 1) := decs_at tdX1_readIs_0 30 rfl
theorem dX1_readIs_56 : decode cX1_readIs 56 = .ok (.ireturn, 1) := decs_at tdX1_readIs_0 31 rfl
set_option maxRecDepth 20000 in
theorem pl_wsX1_readYear_wsX1_readYear_r1 : ∀ w ∈ wsX1_readYear_r1, w ∈ wsX1_readYear := fun _ h => List.mem_cons_of_mem _ (List.mem_append_left _ (List.mem_append_left _ (List.mem_append_left _ (h))))
theorem pl_wsX1_readYear_wsX1_readYear_r2 : ∀ w ∈ wsX1_readYear_r2, w ∈ wsX1_readYear := fun _ h => List.mem_cons_of_mem _ (List.mem_append_left _ (List.mem_append_left _ (List.mem_append_right _ (List.mem_append_left _ (h)))))
theorem pl_wsX1_readYear_wsX1_readYear_r3 : ∀ w ∈ wsX1_readYear_r3, w ∈ wsX1_readYear := fun _ h => List.mem_cons_of_mem _ (List.mem_append_left _ (List.mem_append_left _ (List.mem_append_right _ (List.mem_append_right _ (List.mem_append_left _ (h))))))
theorem pl_wsX1_readYear_wsX10 : ∀ w ∈ wsX10, w ∈ wsX1_readYear := fun _ h => List.mem_cons_of_mem _ (List.mem_append_left _ (List.mem_append_right _ (h)))
theorem ggX1_readYear_X1_isWord : GoodIn wsX1_readYear wsX1_isWord := goodIn_sub (List.forall_mem_cons.mpr ⟨(pl_wsX1_readYear_wsX1_readYear_r1 _ (List.mem_of_getElem? (i := 6) rfl)), (fun w h => (List.mem_append.mp h).elim ((fun w h => (List.mem_append.mp h).elim ((List.forall_mem_cons.mpr ⟨(pl_wsX1_readYear_wsX1_readYear_r1 _ (List.mem_of_getElem? (i := 7) rfl)), List.forall_mem_cons.mpr ⟨(pl_wsX1_readYear_wsX1_readYear_r1 _ (List.mem_of_getElem? (i := 8) rfl)), List.forall_mem_cons.mpr ⟨(pl_wsX1_readYear_wsX1_readYear_r1 _ (List.mem_of_getElem? (i := 9) rfl)), List.forall_mem_cons.mpr ⟨(pl_wsX1_readYear_wsX1_readYear_r1 _ (List.mem_of_getElem? (i := 10) rfl)), List.forall_mem_cons.mpr ⟨(pl_wsX1_readYear_wsX1_readYear_r1 _ (List.mem_of_getElem? (i := 11) rfl)), List.forall_mem_cons.mpr ⟨(pl_wsX1_readYear_wsX1_readYear_r1 _ (List.mem_of_getElem? (i := 12) rfl)), List.forall_mem_cons.mpr ⟨(pl_wsX1_readYear_wsX1_readYear_r1 _ (List.mem_of_getElem? (i := 13) rfl)), List.forall_mem_cons.mpr ⟨(pl_wsX1_readYear_wsX1_readYear_r1 _ (List.mem_of_getElem? (i := 14) rfl)), List.forall_mem_cons.mpr ⟨(pl_wsX1_readYear_wsX1_readYear_r1 _ (List.mem_of_getElem? (i := 15) rfl)), List.forall_mem_cons.mpr ⟨(pl_wsX1_readYear_wsX1_readYear_r1 _ (List.mem_of_getElem? (i := 16) rfl)), List.forall_mem_cons.mpr ⟨(pl_wsX1_readYear_wsX1_readYear_r1 _ (List.mem_of_getElem? (i := 17) rfl)), List.forall_mem_cons.mpr ⟨(pl_wsX1_readYear_wsX1_readYear_r1 _ (List.mem_of_getElem? (i := 18) rfl)), List.forall_mem_cons.mpr ⟨(pl_wsX1_readYear_wsX1_readYear_r1 _ (List.mem_of_getElem? (i := 19) rfl)), List.forall_mem_cons.mpr ⟨(pl_wsX1_readYear_wsX1_readYear_r1 _ (List.mem_of_getElem? (i := 20) rfl)), List.forall_mem_cons.mpr ⟨(pl_wsX1_readYear_wsX1_readYear_r1 _ (List.mem_of_getElem? (i := 21) rfl)), List.forall_mem_cons.mpr ⟨(pl_wsX1_readYear_wsX1_readYear_r1 _ (List.mem_of_getElem? (i := 22) rfl)), List.forall_mem_cons.mpr ⟨(pl_wsX1_readYear_wsX1_readYear_r1 _ (List.mem_of_getElem? (i := 23) rfl)), List.forall_mem_cons.mpr ⟨(pl_wsX1_readYear_wsX1_readYear_r2 _ (List.mem_of_getElem? (i := 0) rfl)), List.forall_mem_cons.mpr ⟨(pl_wsX1_readYear_wsX1_readYear_r2 _ (List.mem_of_getElem? (i := 1) rfl)), List.forall_mem_cons.mpr ⟨(pl_wsX1_readYear_wsX1_readYear_r2 _ (List.mem_of_getElem? (i := 2) rfl)), List.forall_mem_cons.mpr ⟨(pl_wsX1_readYear_wsX1_readYear_r2 _ (List.mem_of_getElem? (i := 3) rfl)), List.forall_mem_cons.mpr ⟨(pl_wsX1_readYear_wsX1_readYear_r2 _ (List.mem_of_getElem? (i := 4) rfl)), List.forall_mem_cons.mpr ⟨(pl_wsX1_readYear_wsX1_readYear_r2 _ (List.mem_of_getElem? (i := 5) rfl)), List.forall_mem_cons.mpr ⟨(pl_wsX1_readYear_wsX1_readYear_r2 _ (List.mem_of_getElem? (i := 6) rfl)), fun _ h => absurd h List.not_mem_nil⟩⟩⟩⟩⟩⟩⟩⟩⟩⟩⟩⟩⟩⟩⟩⟩⟩⟩⟩⟩⟩⟩⟩⟩) w) ((fun w h => (List.mem_append.mp h).elim ((List.forall_mem_cons.mpr ⟨(pl_wsX1_readYear_wsX1_readYear_r2 _ (List.mem_of_getElem? (i := 7) rfl)), List.forall_mem_cons.mpr ⟨(pl_wsX1_readYear_wsX1_readYear_r2 _ (List.mem_of_getElem? (i := 8) rfl)), List.forall_mem_cons.mpr ⟨(pl_wsX1_readYear_wsX1_readYear_r2 _ (List.mem_of_getElem? (i := 9) rfl)), List.forall_mem_cons.mpr ⟨(pl_wsX1_readYear_wsX1_readYear_r2 _ (List.mem_of_getElem? (i := 10) rfl)), List.forall_mem_cons.mpr ⟨(pl_wsX1_readYear_wsX1_readYear_r2 _ (List.mem_of_getElem? (i := 11) rfl)), List.forall_mem_cons.mpr ⟨(pl_wsX1_readYear_wsX1_readYear_r2 _ (List.mem_of_getElem? (i := 12) rfl)), List.forall_mem_cons.mpr ⟨(pl_wsX1_readYear_wsX1_readYear_r2 _ (List.mem_of_getElem? (i := 13) rfl)), List.forall_mem_cons.mpr ⟨(pl_wsX1_readYear_wsX1_readYear_r2 _ (List.mem_of_getElem? (i := 14) rfl)), List.forall_mem_cons.mpr ⟨(pl_wsX1_readYear_wsX1_readYear_r2 _ (List.mem_of_getElem? (i := 15) rfl)), List.forall_mem_cons.mpr ⟨(pl_wsX1_readYear_wsX1_readYear_r2 _ (List.mem_of_getElem? (i := 16) rfl)), List.forall_mem_cons.mpr ⟨(pl_wsX1_readYear_wsX1_readYear_r2 _ (List.mem_of_getElem? (i := 17) rfl)), List.forall_mem_cons.mpr ⟨(pl_wsX1_readYear_wsX1_readYear_r2 _ (List.mem_of_getElem? (i := 18) rfl)), List.forall_mem_cons.mpr ⟨(pl_wsX1_readYear_wsX1_readYear_r2 _ (List.mem_of_getElem? (i := 19) rfl)), List.forall_mem_cons.mpr ⟨(pl_wsX1_readYear_wsX1_readYear_r2 _ (List.mem_of_getElem? (i := 20) rfl)), List.forall_mem_cons.mpr ⟨(pl_wsX1_readYear_wsX1_readYear_r2 _ (List.mem_of_getElem? (i := 21) rfl)), List.forall_mem_cons.mpr ⟨(pl_wsX1_readYear_wsX1_readYear_r2 _ (List.mem_of_getElem? (i := 22) rfl)), List.forall_mem_cons.mpr ⟨(pl_wsX1_readYear_wsX1_readYear_r2 _ (List.mem_of_getElem? (i := 23) rfl)), List.forall_mem_cons.mpr ⟨(pl_wsX1_readYear_wsX1_readYear_r3 _ (List.mem_of_getElem? (i := 0) rfl)), List.forall_mem_cons.mpr ⟨(pl_wsX1_readYear_wsX1_readYear_r3 _ (List.mem_of_getElem? (i := 1) rfl)), List.forall_mem_cons.mpr ⟨(pl_wsX1_readYear_wsX1_readYear_r3 _ (List.mem_of_getElem? (i := 2) rfl)), List.forall_mem_cons.mpr ⟨(pl_wsX1_readYear_wsX1_readYear_r3 _ (List.mem_of_getElem? (i := 3) rfl)), List.forall_mem_cons.mpr ⟨(pl_wsX1_readYear_wsX1_readYear_r3 _ (List.mem_of_getElem? (i := 4) rfl)), List.forall_mem_cons.mpr ⟨(pl_wsX1_readYear_wsX1_readYear_r3 _ (List.mem_of_getElem? (i := 5) rfl)), List.forall_mem_cons.mpr ⟨(pl_wsX1_readYear_wsX1_readYear_r3 _ (List.mem_of_getElem? (i := 6) rfl)), fun _ h => absurd h List.not_mem_nil⟩⟩⟩⟩⟩⟩⟩⟩⟩⟩⟩⟩⟩⟩⟩⟩⟩⟩⟩⟩⟩⟩⟩⟩) w) ((List.forall_mem_cons.mpr ⟨(pl_wsX1_readYear_wsX1_readYear_r3 _ (List.mem_of_getElem? (i := 7) rfl)), List.forall_mem_cons.mpr ⟨(pl_wsX1_readYear_wsX1_readYear_r3 _ (List.mem_of_getElem? (i := 8) rfl)), List.forall_mem_cons.mpr ⟨(pl_wsX1_readYear_wsX1_readYear_r3 _ (List.mem_of_getElem? (i := 9) rfl)), List.forall_mem_cons.mpr ⟨(pl_wsX1_readYear_wsX1_readYear_r3 _ (List.mem_of_getElem? (i := 10) rfl)), fun _ h => absurd h List.not_mem_nil⟩⟩⟩⟩) w)) w)) w) (pl_wsX1_readYear_wsX10 w))⟩) (by decide +kernel)
set_option maxRecDepth 20000 in
theorem gX1_readYear_X1_isWord : GoodIn wsX1_readYear (wsV RX1 47 RX1 yX1_isWord wsX1_isWord) := goodIn_app (goodIn_sub (List.forall_mem_cons.mpr ⟨(pl_wsX1_readYear_wsX1_readYear_r1 _ (List.mem_of_getElem? (i := 2) rfl)), List.forall_mem_cons.mpr ⟨(pl_wsX1_readYear_wsX1_readYear_r1 _ (List.mem_of_getElem? (i := 3) rfl)), List.forall_mem_cons.mpr ⟨(pl_wsX1_readYear_wsX1_readYear_r1 _ (List.mem_of_getElem? (i := 4) rfl)), List.forall_mem_cons.mpr ⟨(pl_wsX1_readYear_wsX1_readYear_r1 _ (List.mem_of_getElem? (i := 5) rfl)), fun _ h => absurd h List.not_mem_nil⟩⟩⟩⟩) (by decide +kernel)) ggX1_readYear_X1_isWord
set_option maxRecDepth 20000 in
theorem pl_wsX1_readYear_wsX1_readYear_r4 : ∀ w ∈ wsX1_readYear_r4, w ∈ wsX1_readYear := fun _ h => List.mem_cons_of_mem _ (List.mem_append_left _ (List.mem_append_left _ (List.mem_append_right _ (List.mem_append_right _ (List.mem_append_right _ (h))))))
theorem ggX1_readYear_X1_readNumber : GoodIn wsX1_readYear wsX1_readNumber := goodIn_sub (List.forall_mem_cons.mpr ⟨(pl_wsX1_readYear_wsX1_readYear_r3 _ (List.mem_of_getElem? (i := 14) rfl)), (fun w h => (List.mem_append.mp h).elim ((List.forall_mem_cons.mpr ⟨(pl_wsX1_readYear_wsX1_readYear_r3 _ (List.mem_of_getElem? (i := 15) rfl)), List.forall_mem_cons.mpr ⟨(pl_wsX1_readYear_wsX1_readYear_r1 _ (List.mem_of_getElem? (i := 1) rfl)), List.forall_mem_cons.mpr ⟨(pl_wsX1_readYear_wsX1_readYear_r3 _ (List.mem_of_getElem? (i := 16) rfl)), List.forall_mem_cons.mpr ⟨(pl_wsX1_readYear_wsX1_readYear_r3 _ (List.mem_of_getElem? (i := 17) rfl)), List.forall_mem_cons.mpr ⟨(pl_wsX1_readYear_wsX1_readYear_r3 _ (List.mem_of_getElem? (i := 18) rfl)), List.forall_mem_cons.mpr ⟨(pl_wsX1_readYear_wsX1_readYear_r1 _ (List.mem_of_getElem? (i := 5) rfl)), List.forall_mem_cons.mpr ⟨(pl_wsX1_readYear_wsX1_readYear_r3 _ (List.mem_of_getElem? (i := 19) rfl)), List.forall_mem_cons.mpr ⟨(pl_wsX1_readYear_wsX1_readYear_r1 _ (List.mem_of_getElem? (i := 7) rfl)), List.forall_mem_cons.mpr ⟨(pl_wsX1_readYear_wsX1_readYear_r3 _ (List.mem_of_getElem? (i := 20) rfl)), List.forall_mem_cons.mpr ⟨(pl_wsX1_readYear_wsX1_readYear_r1 _ (List.mem_of_getElem? (i := 9) rfl)), List.forall_mem_cons.mpr ⟨(pl_wsX1_readYear_wsX1_readYear_r1 _ (List.mem_of_getElem? (i := 8) rfl)), List.forall_mem_cons.mpr ⟨(pl_wsX1_readYear_wsX1_readYear_r3 _ (List.mem_of_getElem? (i := 21) rfl)), List.forall_mem_cons.mpr ⟨(pl_wsX1_readYear_wsX1_readYear_r3 _ (List.mem_of_getElem? (i := 22) rfl)), List.forall_mem_cons.mpr ⟨(pl_wsX1_readYear_wsX1_readYear_r3 _ (List.mem_of_getElem? (i := 23) rfl)), List.forall_mem_cons.mpr ⟨(pl_wsX1_readYear_wsX1_readYear_r4 _ (List.mem_of_getElem? (i := 0) rfl)), List.forall_mem_cons.mpr ⟨(pl_wsX1_readYear_wsX1_readYear_r4 _ (List.mem_of_getElem? (i := 1) rfl)), List.forall_mem_cons.mpr ⟨(pl_wsX1_readYear_wsX1_readYear_r4 _ (List.mem_of_getElem? (i := 2) rfl)), List.forall_mem_cons.mpr ⟨(pl_wsX1_readYear_wsX1_readYear_r4 _ (List.mem_of_getElem? (i := 3) rfl)), List.forall_mem_cons.mpr ⟨(pl_wsX1_readYear_wsX1_readYear_r4 _ (List.mem_of_getElem? (i := 4) rfl)), List.forall_mem_cons.mpr ⟨(pl_wsX1_readYear_wsX1_readYear_r4 _ (List.mem_of_getElem? (i := 5) rfl)), List.forall_mem_cons.mpr ⟨(pl_wsX1_readYear_wsX1_readYear_r4 _ (List.mem_of_getElem? (i := 6) rfl)), List.forall_mem_cons.mpr ⟨(pl_wsX1_readYear_wsX1_readYear_r4 _ (List.mem_of_getElem? (i := 7) rfl)), fun _ h => absurd h List.not_mem_nil⟩⟩⟩⟩⟩⟩⟩⟩⟩⟩⟩⟩⟩⟩⟩⟩⟩⟩⟩⟩⟩⟩) w) (pl_wsX1_readYear_wsX10 w))⟩) (by decide +kernel)
set_option maxRecDepth 20000 in
theorem gX1_readYear_X1_readNumber : GoodIn wsX1_readYear (wsV RX1 77 RX1 yX1_readNumber wsX1_readNumber) := goodIn_app (goodIn_sub (List.forall_mem_cons.mpr ⟨(pl_wsX1_readYear_wsX1_readYear_r3 _ (List.mem_of_getElem? (i := 11) rfl)), List.forall_mem_cons.mpr ⟨(pl_wsX1_readYear_wsX1_readYear_r3 _ (List.mem_of_getElem? (i := 12) rfl)), List.forall_mem_cons.mpr ⟨(pl_wsX1_readYear_wsX1_readYear_r3 _ (List.mem_of_getElem? (i := 13) rfl)), List.forall_mem_cons.mpr ⟨(pl_wsX1_readYear_wsX1_readYear_r1 _ (List.mem_of_getElem? (i := 5) rfl)), fun _ h => absurd h List.not_mem_nil⟩⟩⟩⟩) (by decide +kernel)) ggX1_readYear_X1_readNumber
theorem tdX1_readYear_0 : decs cX1_readYear [(0, .aload_n 0, 1), (1, .ldc 113, 2), (3, .invokevirtual 47, 3), (6, .ifCond .eq 27, 3), (9, .aload_n 0, 1), (10, .iconst 0, 1), (11, .iconst 1, 1), (12, .invokevirtual 77, 3), (15, .ifCond .ne 5, 3), (18, .iconst 0, 1), (19, .ireturn, 1), (20, .aload_n 0, 1), (21, .getfield 31, 3), (24, .aload_n 0, 1), (25, .getfield 28, 3), (28, .putfield 115, 3), (31, .iconst 1, 1), (32, .ireturn, 1), (33, .aload_n 0, 1), (34, .ldc 117, 2), (36, .invokevirtual 47, 3), (39, .ifCond .eq 27, 3), (42, .aload_n 0, 1), (43, .iconst 0, 1), (44, .iconst 1, 1), (45, .invokevirtual 77, 3), (48, .ifCond .ne 5, 3), (51, .iconst 0, 1), (52, .ireturn, 1), (53, .aload_n 0, 1), (54, .getfield 31, 3), (57, .aload_n 0, 1), (58, .getfield 28, 3), (61, .putfield 119, 3), (64, .iconst 1, 1), (65, .ireturn, 1), (66, .aload_n 0, 1), (67, .ldc 121, 2), (69, .invokevirtual 47, 3), (72, .ifCond .eq 13, 3)] = true := by decide +kernel
theorem dX1_readYear_0 : decode cX1_readYear 0 = .ok (.aload_n 0, 1) := decs_at tdX1_readYear_0 0 rfl
theorem dX1_readYear_1 : decode cX1_readYear 1 = .ok (.ldc 113, 2) := decs_at tdX1_readYear_0 1 rfl
theorem dX1_readYear_3 : decode cX1_readYear 3 = .ok (.invokevirtual 47, 3) := decs_at tdX1_readYear_0 2 rfl
theorem dX1_readYear_6 : decode cX1_readYear 6 = .ok (.ifCond .eq 27, 3) := decs_at tdX1_readYear_0 3 rfl
theorem dX1_readYear_9 : decode cX1_readYear 9 = .ok (.aload_n 0, 1) := decs_at tdX1_readYear_0 4 rfl
theorem dX1_readYear_10 : decode cX1_readYear 10 = .ok (.iconst 0, 1) := decs_at tdX1_readYear_0 5 rfl
theorem dX1_readYear_11 : decode cX1_readYear 11 = .ok (.iconst 1, 1) := decs_at tdX1_readYear_0 6 rfl
theorem dX1_readYear_12 : decode cX1_readYear 12 = .ok (.invokevirtual 77, 3) := decs_at tdX1_readYear_0 7 rfl
theorem dX1_readYear_15 : decode cX1_readYear 15 = .ok (.ifCond .ne 5, 3) := decs_at tdX1_readYear_0 8 rfl
theorem dX1_readYear_18 : decode cX1_readYear 18 = .ok (.iconst 0, 1) := decs_at tdX1_readYear_0 9 rfl
theorem dX1_readYear_19 : decode cX1_readYear 19 = .ok (.ireturn, 1) := decs_at tdX1_readYear_0 10 rfl
theorem dX1_readYear_20 : decode cX1_readYear 20 = .ok (.aload_n 0, 1) := decs_at tdX1_readYear_0 11 rfl
theorem dX1_readYear_21 : decode cX1_readYear 21 = .ok (.getfield 31, 3) := decs_at tdX1_readYear_0 12 rfl
theorem dX1_readYear_24 : decode cX1_readYear 24 = .ok (.aload_n 0, 1) := decs_at tdX1_readYear_0 13 rfl
theorem dX1_readYear_25 : decode cX1_readYear 25 = .ok (.getfield 28, 3) := decs_at tdX1_readYear_0 14 rfl
theorem dX1_readYear_28 : decode cX1_readYear 28 = .ok (.putfield 115, 3) := decs_at tdX1_readYear_0 15 rfl
theorem dX1_readYear_31 : decode cX1_readYear 31 = .ok (.iconst 1, 1) := decs_at tdX1_readYear_0 16 rfl
theorem dX1_readYear_32 : decode cX1_readYear 32 = .ok (.ireturn, 1) := decs_at tdX1_readYear_0 17 rfl
theorem dX1_readYear_33 : decode cX1_readYear 33 = .ok (.aload_n 0, 1) := decs_at tdX1_readYear_0 18 rfl
theorem dX1_readYear_34 : decode cX1_readYear 34 = .ok (.ldc 117, 2) := decs_at tdX1_readYear_0 19 rfl
theorem dX1_readYear_36 : decode cX1_readYear 36 = .ok (.invokevirtual 47, 3) := decs_at tdX1_readYear_0 20 rfl
theorem dX1_readYear_39 : decode cX1_readYear 39 = .ok (.ifCond .eq 27, 3) := decs_at tdX1_readYear_0 21 rfl
theorem dX1_readYear_42 : decode cX1_readYear 42 = .ok (.aload_n 0, 1) := decs_at tdX1_readYear_0 22 rfl
theorem dX1_readYear_43 : decode cX1_readYear 43 = .ok (.iconst 0, 1) := decs_at tdX1_readYear_0 23 rfl
theorem dX1_readYear_44 : decode cX1_readYear 44 = .ok (.iconst 1, 1) := decs_at tdX1_readYear_0 24 rfl
theorem dX1_readYear_45 : decode cX1_readYear 45 = .ok (.invokevirtual 77, 3) := decs_at tdX1_readYear_0 25 rfl
theorem dX1_readYear_48 : decode cX1_readYear 48 = .ok (.ifCond .ne 5, 3) := decs_at tdX1_readYear_0 26 rfl
theorem dX1_readYear_51 : decode cX1_readYear 51 = .ok (.iconst 0, 1) := decs_at tdX1_readYear_0 27 rfl
theorem dX1_readYear_52 : decode cX1_readYear 52 = .ok (.ireturn, 1) := decs_at tdX1_readYear_0 28 rfl
theorem dX1_readYear_53 : decode cX1_readYear 53 = .ok (.aload_n 0, 1) := decs_at tdX1_readYear_0 29 rfl
theorem dX1_readYear_54 : decode cX1_readYear 54 = .ok (.getfield 31, 3) := decs_at tdX1_readYear_0 30 rfl
theorem dX1_readYear_57 : decode cX1_readYear 57 = .ok (.aload_n 0, 1) := decs_at tdX1_readYear_0 31 rfl
theorem dX1_readYear_58 : decode cX1_readYear 58 = .ok (.getfield 28, 3) := decs_at tdX1_readYear_0 32 rfl
theorem dX1_readYear_61 : decode cX1_readYear 61 = .ok (.putfield 119, 3) := decs_at tdX1_readYear_0 33 rfl
theorem dX1_readYear_64 : decode cX1_readYear 64 = .ok (.iconst 1, 1) := decs_at tdX1_readYear_0 34 rfl
theorem dX1_readYear_65 : decode cX1_readYear 65 = .ok (.ireturn, 1) := decs_at tdX1_readYear_0 35 rfl
theorem dX1_readYear_66 : decode cX1_readYear 66 = .ok (.aload_n 0, 1) := decs_at tdX1_readYear_0 36 rfl
theorem dX1_readYear_67 : decode cX1_readYear 67 = .ok (.ldc 121, 2) := decs_at tdX1_readYear_0 37 rfl
theorem dX1_readYear_69 : decode cX1_readYear 69 = .ok (.invokevirtual 47, 3) := decs_at tdX1_readYear_0 38 rfl
theorem dX1_readYear_72 : decode cX1_readYear 72 = .ok (.ifCond .eq 13, 3) := decs_at tdX1_readYear_0 39 rfl
theorem tdX1_readYear_75 : decs cX1_readYear [(75, .aload_n 0, 1), (76, .iconst 0, 1), (77, .bipush 12, 2), (79, .invokevirtual 77, 3), (82, .ifCond .ne 5, 3), (85, .iconst 0, 1), (86, .ireturn, 1), (87, .aload_n 0, 1), (88, .getfield 31, 3), (91, .aload_n 0, 1), (92, .getfield 28, 3), (95, .putfield 123, 3), (98, .iconst 1, 1), (99, .ireturn, 1)] = true := by decide +kernel
theorem dX1_readYear_75 : decode cX1_readYear 75 = .ok (.aload_n 0, 1) := decs_at tdX1_readYear_75 0 rfl
theorem dX1_readYear_76 : decode cX1_readYear 76 = .ok (.iconst 0, 1) := decs_at tdX1_readYear_75 1 rfl
theorem dX1_readYear_77 : decode cX1_readYear 77 = .ok (.bipush 12, 2) := decs_at tdX1_readYear_75 2 rfl
theorem dX1_readYear_79 : decode cX1_readYear 79 = .ok (.invokevirtual 77, 3) := decs_at tdX1_readYear_75 3 rfl
theorem dX1_readYear_82 : decode cX1_readYear 82 = .ok (.ifCond .ne 5, 3) := decs_at tdX1_readYear_75 4 rfl
theorem dX1_readYear_85 : decode cX1_readYear 85 = .ok (.iconst 0, 1) := decs_at tdX1_readYear_75 5 rfl
theorem dX1_readYear_86 : decode cX1_readYear 86 = .ok (.ireturn, 1) := decs_at tdX1_readYear_75 6 rfl
theorem dX1_readYear_87 : decode cX1_readYear 87 = .ok (.aload_n 0, 1) := decs_at tdX1_readYear_75 7 rfl
theorem dX1_readYear_88 : decode cX1_readYear 88 = .ok (.getfield 31, 3) := decs_at tdX1_readYear_75 8 rfl
theorem dX1_readYear_91 : decode cX1_readYear 91 = .ok (.aload_n 0, 1) := decs_at tdX1_readYear_75 9 rfl
theorem dX1_readYear_92 : decode cX1_readYear 92 = .ok (.getfield 28, 3) := decs_at tdX1_readYear_75 10 rfl
theorem dX1_readYear_95 : decode cX1_readYear 95 = .ok (.putfield 123, 3) := decs_at tdX1_readYear_75 11 rfl
theorem dX1_readYear_98 : decode cX1_readYear 98 = .ok (.iconst 1, 1) := decs_at tdX1_readYear_75 12 rfl
theorem dX1_readYear_99 : decode cX1_readYear 99 = .ok (.ireturn, 1) := decs_at tdX1_readYear_75 13 rfl
set_option maxRecDepth 20000 in
theorem pl_wsX1_readNumber_wsX10 : ∀ w ∈ wsX10, w ∈ wsX1_readNumber := fun _ h => List.mem_cons_of_mem _ (List.mem_append_right _ (h))
theorem ggX1_readNumber_X1_nextToken : GoodIn wsX1_readNumber wsX1_nextToken := goodIn_sub (List.forall_mem_cons.mpr ⟨(List.mem_cons_of_mem _ (List.mem_append_left _ (List.mem_of_getElem? (i := 6) rfl))), (fun w h => (List.mem_append.mp h).elim ((List.forall_mem_cons.mpr ⟨(List.mem_cons_of_mem _ (List.mem_append_left _ (List.mem_of_getElem? (i := 7) rfl))), List.forall_mem_cons.mpr ⟨(List.mem_cons_of_mem _ (List.mem_append_left _ (List.mem_of_getElem? (i := 8) rfl))), List.forall_mem_cons.mpr ⟨(List.mem_cons_of_mem _ (List.mem_append_left _ (List.mem_of_getElem? (i := 9) rfl))), List.forall_mem_cons.mpr ⟨(List.mem_cons_of_mem _ (List.mem_append_left _ (List.mem_of_getElem? (i := 10) rfl))), List.forall_mem_cons.mpr ⟨(List.mem_cons_of_mem _ (List.mem_append_left _ (List.mem_of_getElem? (i := 0) rfl))), List.forall_mem_cons.mpr ⟨(List.mem_cons_of_mem _ (List.mem_append_left _ (List.mem_of_getElem? (i := 1) rfl))), List.forall_mem_cons.mpr ⟨(List.mem_cons_of_mem _ (List.mem_append_left _ (List.mem_of_getElem? (i := 11) rfl))), List.forall_mem_cons.mpr ⟨(List.mem_cons_of_mem _ (List.mem_append_left _ (List.mem_of_getElem? (i := 12) rfl))), List.forall_mem_cons.mpr ⟨(List.mem_cons_of_mem _ (List.mem_append_left _ (List.mem_of_getElem? (i := 13) rfl))), List.forall_mem_cons.mpr ⟨(List.mem_cons_of_mem _ (List.mem_append_left _ (List.mem_of_getElem? (i := 14) rfl))), List.forall_mem_cons.mpr ⟨(List.mem_cons_of_mem _ (List.mem_append_left _ (List.mem_of_getElem? (i := 15) rfl))), List.forall_mem_cons.mpr ⟨(List.mem_cons_of_mem _ (List.mem_append_left _ (List.mem_of_getElem? (i := 16) rfl))), List.forall_mem_cons.mpr ⟨(List.mem_cons_of_mem _ (List.mem_append_left _ (List.mem_of_getElem? (i := 5) rfl))), List.forall_mem_cons.mpr ⟨(List.mem_cons_of_mem _ (List.mem_append_left _ (List.mem_of_getElem? (i := 17) rfl))), List.forall_mem_cons.mpr ⟨(List.mem_cons_of_mem _ (List.mem_append_left _ (List.mem_of_getElem? (i := 18) rfl))), List.forall_mem_cons.mpr ⟨(List.mem_cons_of_mem _ (List.mem_append_left _ (List.mem_of_getElem? (i := 19) rfl))), List.forall_mem_cons.mpr ⟨(List.mem_cons_of_mem _ (List.mem_append_left _ (List.mem_of_getElem? (i := 20) rfl))), List.forall_mem_cons.mpr ⟨(List.mem_cons_of_mem _ (List.mem_append_left _ (List.mem_of_getElem? (i := 21) rfl))), fun _ h => absurd h List.not_mem_nil⟩⟩⟩⟩⟩⟩⟩⟩⟩⟩⟩⟩⟩⟩⟩⟩⟩⟩) w) (pl_wsX1_readNumber_wsX10 w))⟩) (by decide +kernel)
set_option maxRecDepth 20000 in
theorem gX1_readNumber_X1_nextToken : GoodIn wsX1_readNumber (wsV RX1 42 RX1 yX1_nextToken wsX1_nextToken) := goodIn_app (goodIn_sub (List.forall_mem_cons.mpr ⟨(List.mem_cons_of_mem _ (List.mem_append_left _ (List.mem_of_getElem? (i := 2) rfl))), List.forall_mem_cons.mpr ⟨(List.mem_cons_of_mem _ (List.mem_append_left _ (List.mem_of_getElem? (i := 3) rfl))), List.forall_mem_cons.mpr ⟨(List.mem_cons_of_mem _ (List.mem_append_left _ (List.mem_of_getElem? (i := 4) rfl))), List.forall_mem_cons.mpr ⟨(List.mem_cons_of_mem _ (List.mem_append_left _ (List.mem_of_getElem? (i := 5) rfl))), fun _ h => absurd h List.not_mem_nil⟩⟩⟩⟩) (by decide +kernel)) ggX1_readNumber_X1_nextToken
set_option maxRecDepth 20000 in
theorem ggX1_readNumber_X5_isWithin : GoodIn wsX1_readNumber wsX5_isWithin := goodIn_sub (List.forall_mem_cons.mpr ⟨(List.mem_cons_of_mem _ (List.mem_append_left _ (List.mem_of_getElem? (i := 13) rfl))), (fun _ h => absurd h List.not_mem_nil)⟩) (by decide +kernel)
set_option maxRecDepth 20000 in
theorem gX1_readNumber_X5_isWithin_n125 : GoodIn wsX1_readNumber (wsX5_isWithin) := ggX1_readNumber_X5_isWithin
theorem tdX1_readNumber_0 : decs cX1_readNumber [(0, .aload_n 0, 1), (1, .invokevirtual 42, 3), (4, .aload_n 0, 1), (5, .getfield 22, 3), (8, .iconst 2, 1), (9, .if_icmp .ne 19, 3), (12, .aload_n 0, 1), (13, .getfield 28, 3), (16, .iload_n 1, 1), (17, .iload_n 2, 1), (18, .invokestatic 125, 3), (21, .ifCond .eq 7, 3), (24, .iconst 1, 1), (25, .goto 4, 3), (28, .iconst 0, 1), (29, .ireturn, 1)] = true := by decide +kernel
theorem dX1_readNumber_0 : decode cX1_readNumber 0 = .ok (.aload_n 0, 1) := decs_at tdX1_readNumber_0 0 rfl
theorem dX1_readNumber_1 : decode cX1_readNumber 1 = .ok (.invokevirtual 42, 3) := decs_at tdX1_readNumber_0 1 rfl
theorem dX1_readNumber_4 : decode cX1_readNumber 4 = .ok (.aload_n 0, 1) := decs_at tdX1_readNumber_0 2 rfl
theorem dX1_readNumber_5 : decode cX1_readNumber 5 = .ok (.getfield 22, 3) := decs_at tdX1_readNumber_0 3 rfl
theorem dX1_readNumber_8 : decode cX1_readNumber 8 = .ok (.iconst 2, 1) := decs_at tdX1_readNumber_0 4 rfl
theorem dX1_readNumber_9 : decode cX1_readNumber 9 = .ok (.if_icmp .ne 19, 3) := decs_at tdX1_readNumber_0 5 rfl
theorem dX1_readNumber_12 : decode cX1_readNumber 12 = .ok (.aload_n 0, 1) := decs_at tdX1_readNumber_0 6 rfl
theorem dX1_readNumber_13 : decode cX1_readNumber 13 = .ok (.getfield 28, 3) := decs_at tdX1_readNumber_0 7 rfl
theorem dX1_readNumber_16 : decode cX1_readNumber 16 = .ok (.iload_n 1, 1) := decs_at tdX1_readNumber_0 8 rfl
theorem dX1_readNumber_17 : decode cX1_readNumber 17 = .ok (.iload_n 2, 1) := decs_at tdX1_readNumber_0 9 rfl
theorem dX1_readNumber_18 : decode cX1_readNumber 18 = .ok (.invokestatic 125, 3) := decs_at tdX1_readNumber_0 10 rfl
theorem dX1_readNumber_21 : decode cX1_readNumber 21 = .ok (.ifCond .eq 7, 3) := decs_at tdX1_readNumber_0 11 rfl
theorem dX1_readNumber_24 : decode cX1_readNumber 24 = .ok (.iconst 1, 1) := decs_at tdX1_readNumber_0 12 rfl
theorem dX1_readNumber_25 : decode cX1_readNumber 25 = .ok (.goto 4, 3) := decs_at tdX1_readNumber_0 13 rfl
theorem dX1_readNumber_28 : decode cX1_readNumber 28 = .ok (.iconst 0, 1) := decs_at tdX1_readNumber_0 14 rfl
theorem dX1_readNumber_29 : decode cX1_readNumber 29 = .ok (.ireturn, 1) := decs_at tdX1_readNumber_0 15 rfl
set_option maxRecDepth 20000 in
theorem pl_wsX1_readCell_wsX1_readCell_r1 : ∀ w ∈ wsX1_readCell_r1, w ∈ wsX1_readCell := fun _ h => List.mem_cons_of_mem _ (List.mem_append_left _ (List.mem_append_left _ (List.mem_append_left _ (h))))
theorem pl_wsX1_readCell_wsX10 : ∀ w ∈ wsX10, w ∈ wsX1_readCell := fun _ h => List.mem_cons_of_mem _ (List.mem_append_left _ (List.mem_append_right _ (h)))
theorem ggX1_readCell_X1_nextToken : GoodIn wsX1_readCell wsX1_nextToken := goodIn_sub (List.forall_mem_cons.mpr ⟨(pl_wsX1_readCell_wsX1_readCell_r1 _ (List.mem_of_getElem? (i := 7) rfl)), (fun w h => (List.mem_append.mp h).elim ((List.forall_mem_cons.mpr ⟨(pl_wsX1_readCell_wsX1_readCell_r1 _ (List.mem_of_getElem? (i := 8) rfl)), List.forall_mem_cons.mpr ⟨(pl_wsX1_readCell_wsX1_readCell_r1 _ (List.mem_of_getElem? (i := 9) rfl)), List.forall_mem_cons.mpr ⟨(pl_wsX1_readCell_wsX1_readCell_r1 _ (List.mem_of_getElem? (i := 10) rfl)), List.forall_mem_cons.mpr ⟨(pl_wsX1_readCell_wsX1_readCell_r1 _ (List.mem_of_getElem? (i := 11) rfl)), List.forall_mem_cons.mpr ⟨(pl_wsX1_readCell_wsX1_readCell_r1 _ (List.mem_of_getElem? (i := 0) rfl)), List.forall_mem_cons.mpr ⟨(pl_wsX1_readCell_wsX1_readCell_r1 _ (List.mem_of_getElem? (i := 2) rfl)), List.forall_mem_cons.mpr ⟨(pl_wsX1_readCell_wsX1_readCell_r1 _ (List.mem_of_getElem? (i := 12) rfl)), List.forall_mem_cons.mpr ⟨(pl_wsX1_readCell_wsX1_readCell_r1 _ (List.mem_of_getElem? (i := 13) rfl)), List.forall_mem_cons.mpr ⟨(pl_wsX1_readCell_wsX1_readCell_r1 _ (List.mem_of_getElem? (i := 14) rfl)), List.forall_mem_cons.mpr ⟨(pl_wsX1_readCell_wsX1_readCell_r1 _ (List.mem_of_getElem? (i := 15) rfl)), List.forall_mem_cons.mpr ⟨(pl_wsX1_readCell_wsX1_readCell_r1 _ (List.mem_of_getElem? (i := 16) rfl)), List.forall_mem_cons.mpr ⟨(pl_wsX1_readCell_wsX1_readCell_r1 _ (List.mem_of_getElem? (i := 17) rfl)), List.forall_mem_cons.mpr ⟨(pl_wsX1_readCell_wsX1_readCell_r1 _ (List.mem_of_getElem? (i := 6) rfl)), List.forall_mem_cons.mpr ⟨(pl_wsX1_readCell_wsX1_readCell_r1 _ (List.mem_of_getElem? (i := 18) rfl)), List.forall_mem_cons.mpr ⟨(pl_wsX1_readCell_wsX1_readCell_r1 _ (List.mem_of_getElem? (i := 19) rfl)), List.forall_mem_cons.mpr ⟨(pl_wsX1_readCell_wsX1_readCell_r1 _ (List.mem_of_getElem? (i := 20) rfl)), List.forall_mem_cons.mpr ⟨(pl_wsX1_readCell_wsX1_readCell_r1 _ (List.mem_of_getElem? (i := 21) rfl)), List.forall_mem_cons.mpr ⟨(pl_wsX1_readCell_wsX1_readCell_r1 _ (List.mem_of_getElem? (i := 22) rfl)), fun _ h => absurd h List.not_mem_nil⟩⟩⟩⟩⟩⟩⟩⟩⟩⟩⟩⟩⟩⟩⟩⟩⟩⟩) w) (pl_wsX1_readCell_wsX10 w))⟩) (by decide +kernel)
set_option maxRecDepth 20000 in
theorem gX1_readCell_X1_nextToken : GoodIn wsX1_readCell (wsV RX1 42 RX1 yX1_nextToken wsX1_nextToken) := goodIn_app (goodIn_sub (List.forall_mem_cons.mpr ⟨(pl_wsX1_readCell_wsX1_readCell_r1 _ (List.mem_of_getElem? (i := 3) rfl)), List.forall_mem_cons.mpr ⟨(pl_wsX1_readCell_wsX1_readCell_r1 _ (List.mem_of_getElem? (i := 4) rfl)), List.forall_mem_cons.mpr ⟨(pl_wsX1_readCell_wsX1_readCell_r1 _ (List.mem_of_getElem? (i := 5) rfl)), List.forall_mem_cons.mpr ⟨(pl_wsX1_readCell_wsX1_readCell_r1 _ (List.mem_of_getElem? (i := 6) rfl)), fun _ h => absurd h List.not_mem_nil⟩⟩⟩⟩) (by decide +kernel)) ggX1_readCell_X1_nextToken
set_option maxRecDepth 20000 in
theorem pl_wsX1_readCell_wsX1_readCell_r2 : ∀ w ∈ wsX1_readCell_r2, w ∈ wsX1_readCell := fun _ h => List.mem_cons_of_mem _ (List.mem_append_left _ (List.mem_append_left _ (List.mem_append_right _ (h))))
theorem pl_wsX1_readCell_wsX00 : ∀ w ∈ wsX00, w ∈ wsX1_readCell := fun _ h => List.mem_cons_of_mem _ (List.mem_append_right _ (h))
theorem ggX1_readCell_X0_isCell : GoodIn wsX1_readCell wsX0_isCell := goodIn_sub (List.forall_mem_cons.mpr ⟨(pl_wsX1_readCell_wsX1_readCell_r2 _ (List.mem_of_getElem? (i := 3) rfl)), (fun w h => (List.mem_append.mp h).elim ((List.forall_mem_cons.mpr ⟨(pl_wsX1_readCell_wsX1_readCell_r2 _ (List.mem_of_getElem? (i := 4) rfl)), fun _ h => absurd h List.not_mem_nil⟩) w) (pl_wsX1_readCell_wsX00 w))⟩) (by decide +kernel)
set_option maxRecDepth 20000 in
theorem gX1_readCell_X0_isCell : GoodIn wsX1_readCell (wsV RX1 129 RX0 yX0_isCell wsX0_isCell) := goodIn_app (goodIn_sub (List.forall_mem_cons.mpr ⟨(pl_wsX1_readCell_wsX1_readCell_r1 _ (List.mem_of_getElem? (i := 23) rfl)), List.forall_mem_cons.mpr ⟨(pl_wsX1_readCell_wsX1_readCell_r2 _ (List.mem_of_getElem? (i := 0) rfl)), List.forall_mem_cons.mpr ⟨(pl_wsX1_readCell_wsX1_readCell_r2 _ (List.mem_of_getElem? (i := 1) rfl)), List.forall_mem_cons.mpr ⟨(pl_wsX1_readCell_wsX1_readCell_r2 _ (List.mem_of_getElem? (i := 2) rfl)), fun _ h => absurd h List.not_mem_nil⟩⟩⟩⟩) (by decide +kernel)) ggX1_readCell_X0_isCell
theorem tdX1_readCell_0 : decs cX1_readCell [(0, .aload_n 0, 1), (1, .invokevirtual 42, 3), (4, .aload_n 0, 1), (5, .getfield 22, 3), (8, .iconst 2, 1), (9, .if_icmp .ne 21, 3), (12, .aload_n 0, 1), (13, .getfield 31, 3), (16, .aload_n 0, 1), (17, .getfield 28, 3), (20, .invokevirtual 129, 3), (23, .ifCond .eq 7, 3), (26, .iconst 1, 1), (27, .goto 4, 3), (30, .iconst 0, 1), (31, .ireturn, 1)] = true := by decide +kernel
theorem dX1_readCell_0 : decode cX1_readCell 0 = .ok (.aload_n 0, 1) := decs_at tdX1_readCell_0 0 rfl
theorem dX1_readCell_1 : decode cX1_readCell 1 = .ok (.invokevirtual 42, 3) := decs_at tdX1_readCell_0 1 rfl
theorem dX1_readCell_4 : decode cX1_readCell 4 = .ok (.aload_n 0, 1) := decs_at tdX1_readCell_0 2 rfl
theorem dX1_readCell_5 : decode cX1_readCell 5 = .ok (.getfield 22, 3) := decs_at tdX1_readCell_0 3 rfl
theorem dX1_readCell_8 : decode cX1_readCell 8 = .ok (.iconst 2, 1) := decs_at tdX1_readCell_0 4 rfl
theorem dX1_readCell_9 : decode cX1_readCell 9 = .ok (.if_icmp .ne 21, 3) := decs_at tdX1_readCell_0 5 rfl
theorem dX1_readCell_12 : decode cX1_readCell 12 = .ok (.aload_n 0, 1) := decs_at tdX1_readCell_0 6 rfl
theorem dX1_readCell_13 : decode cX1_readCell 13 = .ok (.getfield 31, 3) := decs_at tdX1_readCell_0 7 rfl
theorem dX1_readCell_16 : decode cX1_readCell 16 = .ok (.aload_n 0, 1) := decs_at tdX1_readCell_0 8 rfl
theorem dX1_readCell_17 : decode cX1_readCell 17 = .ok (.getfield 28, 3) := decs_at tdX1_readCell_0 9 rfl
theorem dX1_readCell_20 : decode cX1_readCell 20 = .ok (.invokevirtual 129, 3) := decs_at tdX1_readCell_0 10 rfl
theorem dX1_readCell_23 : decode cX1_readCell 23 = .ok (.ifCond .eq 7, 3) := decs_at tdX1_readCell_0 11 rfl
theorem dX1_readCell_26 : decode cX1_readCell 26 = .ok (.iconst 1, 1) := decs_at tdX1_readCell_0 12 rfl
theorem dX1_readCell_27 : decode cX1_readCell 27 = .ok (.goto 4, 3) := decs_at tdX1_readCell_0 13 rfl
theorem dX1_readCell_30 : decode cX1_readCell 30 = .ok (.iconst 0, 1) := decs_at tdX1_readCell_0 14 rfl
theorem dX1_readCell_31 : decode cX1_readCell 31 = .ok (.ireturn, 1) := decs_at tdX1_readCell_0 15 rfl
set_option maxRecDepth 20000 in
theorem ggX1_nextToken_X5_isWithin : GoodIn wsX1_nextToken wsX5_isWithin := goodIn_sub (List.forall_mem_cons.mpr ⟨(List.mem_cons_of_mem _ (List.mem_append_left _ (List.mem_of_getElem? (i := 8) rfl))), (fun _ h => absurd h List.not_mem_nil)⟩) (by decide +kernel)
set_option maxRecDepth 20000 in
theorem gX1_nextToken_X5_isWithin_n125 : GoodIn wsX1_nextToken (wsX5_isWithin) := ggX1_nextToken_X5_isWithin
set_option maxRecDepth 20000 in
theorem pl_wsX1_nextToken_wsX10 : ∀ w ∈ wsX10, w ∈ wsX1_nextToken := fun _ h => List.mem_cons_of_mem _ (List.mem_append_right _ (h))
theorem ggX1_nextToken_X1_passAll : GoodIn wsX1_nextToken wsX1_passAll := goodIn_sub (List.forall_mem_cons.mpr ⟨(List.mem_cons_of_mem _ (List.mem_append_left _ (List.mem_of_getElem? (i := 13) rfl))), (fun w h => (List.mem_append.mp h).elim ((List.forall_mem_cons.mpr ⟨(List.mem_cons_of_mem _ (List.mem_append_left _ (List.mem_of_getElem? (i := 0) rfl))), List.forall_mem_cons.mpr ⟨(List.mem_cons_of_mem _ (List.mem_append_left _ (List.mem_of_getElem? (i := 1) rfl))), List.forall_mem_cons.mpr ⟨(List.mem_cons_of_mem _ (List.mem_append_left _ (List.mem_of_getElem? (i := 2) rfl))), fun _ h => absurd h List.not_mem_nil⟩⟩⟩) w) (pl_wsX1_nextToken_wsX10 w))⟩) (by decide +kernel)
set_option maxRecDepth 20000 in
theorem gX1_nextToken_X1_passAll : GoodIn wsX1_nextToken (wsV RX1 132 RX1 yX1_passAll wsX1_passAll) := goodIn_app (goodIn_sub (List.forall_mem_cons.mpr ⟨(List.mem_cons_of_mem _ (List.mem_append_left _ (List.mem_of_getElem? (i := 9) rfl))), List.forall_mem_cons.mpr ⟨(List.mem_cons_of_mem _ (List.mem_append_left _ (List.mem_of_getElem? (i := 10) rfl))), List.forall_mem_cons.mpr ⟨(List.mem_cons_of_mem _ (List.mem_append_left _ (List.mem_of_getElem? (i := 11) rfl))), List.forall_mem_cons.mpr ⟨(List.mem_cons_of_mem _ (List.mem_append_left _ (List.mem_of_getElem? (i := 12) rfl))), fun _ h => absurd h List.not_mem_nil⟩⟩⟩⟩) (by decide +kernel)) ggX1_nextToken_X1_passAll
set_option maxRecDepth 20000 in
theorem ggX1_nextToken_X1_numberPassed : GoodIn wsX1_nextToken wsX1_numberPassed := goodIn_sub (List.forall_mem_cons.mpr ⟨(List.mem_cons_of_mem _ (List.mem_append_left _ (List.mem_of_getElem? (i := 17) rfl))), (fun w h => (List.mem_append.mp h).elim ((List.forall_mem_cons.mpr ⟨(List.mem_cons_of_mem _ (List.mem_append_left _ (List.mem_of_getElem? (i := 0) rfl))), List.forall_mem_cons.mpr ⟨(List.mem_cons_of_mem _ (List.mem_append_left _ (List.mem_of_getElem? (i := 3) rfl))), List.forall_mem_cons.mpr ⟨(List.mem_cons_of_mem _ (List.mem_append_left _ (List.mem_of_getElem? (i := 2) rfl))), fun _ h => absurd h List.not_mem_nil⟩⟩⟩) w) (pl_wsX1_nextToken_wsX10 w))⟩) (by decide +kernel)
set_option maxRecDepth 20000 in
theorem gX1_nextToken_X1_numberPassed : GoodIn wsX1_nextToken (wsV RX1 136 RX1 yX1_numberPassed wsX1_numberPassed) := goodIn_app (goodIn_sub (List.forall_mem_cons.mpr ⟨(List.mem_cons_of_mem _ (List.mem_append_left _ (List.mem_of_getElem? (i := 14) rfl))), List.forall_mem_cons.mpr ⟨(List.mem_cons_of_mem _ (List.mem_append_left _ (List.mem_of_getElem? (i := 15) rfl))), List.forall_mem_cons.mpr ⟨(List.mem_cons_of_mem _ (List.mem_append_left _ (List.mem_of_getElem? (i := 16) rfl))), List.forall_mem_cons.mpr ⟨(List.mem_cons_of_mem _ (List.mem_append_left _ (List.mem_of_getElem? (i := 12) rfl))), fun _ h => absurd h List.not_mem_nil⟩⟩⟩⟩) (by decide +kernel)) ggX1_nextToken_X1_numberPassed
theorem tdX1_nextToken_0 : decs cX1_nextToken [(0, .aload_n 0, 1), (1, .getfield 19, 3), (4, .aload_n 0, 1), (5, .getfield 15, 3), (8, .if_icmp .ge 30, 3), (11, .aload_n 0, 1), (12, .getfield 11, 3), (15, .aload_n 0, 1), (16, .getfield 19, 3), (19, .iaload, 1), (20, .bipush 32, 2), (22, .if_icmp .ne 16, 3), (25, .aload_n 0, 1), (26, .dup, 1), (27, .getfield 19, 3), (30, .iconst 1, 1), (31, .iadd, 1), (32, .putfield 19, 3), (35, .goto (-35), 3), (38, .aload_n 0, 1), (39, .aload_n 0, 1), (40, .getfield 19, 3), (43, .putfield 25, 3), (46, .aload_n 0, 1), (47, .getfield 19, 3), (50, .aload_n 0, 1), (51, .getfield 15, 3), (54, .if_icmp .lt 11, 3), (57, .aload_n 0, 1), (58, .iconst 0, 1), (59, .putfield 22, 3), (62, .goto 114, 3), (65, .aload_n 0, 1), (66, .getfield 11, 3), (69, .aload_n 0, 1), (70, .getfield 19, 3), (73, .iaload, 1), (74, .bipush 97, 2), (76, .bipush 122, 2), (78, .invokestatic 125, 3)] = true := by decide +kernel
theorem dX1_nextToken_0 : decode cX1_nextToken 0 = .ok (.aload_n 0, 1) := decs_at tdX1_nextToken_0 0 rfl
theorem dX1_nextToken_1 : decode cX1_nextToken 1 = .ok (.getfield 19, 3) := decs_at tdX1_nextToken_0 1 rfl
theorem dX1_nextToken_4 : decode cX1_nextToken 4 = .ok (.aload_n 0, 1) := decs_at tdX1_nextToken_0 2 rfl
theorem dX1_nextToken_5 : decode cX1_nextToken 5 = .ok (.getfield 15, 3) := decs_at tdX1_nextToken_0 3 rfl
theorem dX1_nextToken_8 : decode cX1_nextToken 8 = .ok (.if_icmp .ge 30, 3) := decs_at tdX1_nextToken_0 4 rfl
theorem dX1_nextToken_11 : decode cX1_nextToken 11 = .ok (.aload_n 0, 1) := decs_at tdX1_nextToken_0 5 rfl
theorem dX1_nextToken_12 : decode cX1_nextToken 12 = .ok (.getfield 11, 3) := decs_at tdX1_nextToken_0 6 rfl
theorem dX1_nextToken_15 : decode cX1_nextToken 15 = .ok (.aload_n 0, 1) := decs_at tdX1_nextToken_0 7 rfl
theorem dX1_nextToken_16 : decode cX1_nextToken 16 = .ok (.getfield 19, 3) := decs_at tdX1_nextToken_0 8 rfl
theorem dX1_nextToken_19 : decode cX1_nextToken 19 = .ok (.iaload, 1) := decs_at tdX1_nextToken_0 9 rfl
theorem dX1_nextToken_20 : decode cX1_nextToken 20 = .ok (.bipush 32, 2) := decs_at tdX1_nextToken_0 10 rfl
theorem dX1_nextToken_22 : decode cX1_nextToken 22 = .ok (.if_icmp .ne 16, 3) := decs_at tdX1_nextToken_0 11 rfl
theorem dX1_nextToken_25 : decode cX1_nextToken 25 = .ok (.aload_n 0, 1) := decs_at tdX1_nextToken_0 12 rfl
theorem dX1_nextToken_26 : decode cX1_nextToken 26 = .ok (.dup, 1) := decs_at tdX1_nextToken_0 13 rfl
theorem dX1_nextToken_27 : decode cX1_nextToken 27 = .ok (.getfield 19, 3) := decs_at tdX1_nextToken_0 14 rfl
theorem dX1_nextToken_30 : decode cX1_nextToken 30 = .ok (.iconst 1, 1) := decs_at tdX1_nextToken_0 15 rfl
theorem dX1_nextToken_31 : decode cX1_nextToken 31 = .ok (.iadd, 1) := decs_at tdX1_nextToken_0 16 rfl
theorem dX1_nextToken_32 : decode cX1_nextToken 32 = .ok (.putfield 19, 3) := decs_at tdX1_nextToken_0 17 rfl
theorem dX1_nextToken_35 : decode cX1_nextToken 35 = .ok (.goto (-35), 3) := decs_at tdX1_nextToken_0 18 rfl
theorem dX1_nextToken_38 : decode cX1_nextToken 38 = .ok (.aload_n 0, 1) := decs_at tdX1_nextToken_0 19 rfl
theorem dX1_nextToken_39 : decode cX1_nextToken 39 = .ok (.aload_n 0, 1) := decs_at tdX1_nextToken_0 20 rfl
theorem dX1_nextToken_40 : decode cX1_nextToken 40 = .ok (.getfield 19, 3) := decs_at tdX1_nextToken_0 21 rfl
theorem dX1_nextToken_43 : decode cX1_nextToken 43 = .ok (.putfield 25, 3) := decs_at tdX1_nextToken_0 22 rfl
theorem dX1_nextToken_46 : decode cX1_nextToken 46 = .ok (.aload_n 0, 1) := decs_at tdX1_nextToken_0 23 rfl
theorem dX1_nextToken_47 : decode cX1_nextToken 47 = .ok (.getfield 19, 3) := decs_at tdX1_nextToken_0 24 rfl
theorem dX1_nextToken_50 : decode cX1_nextToken 50 = .ok (.aload_n 0, 1) := decs_at tdX1_nextToken_0 25 rfl
theorem dX1_nextToken_51 : decode cX1_nextToken 51 = .ok (.getfield 15, 3) := decs_at tdX1_nextToken_0 26 rfl
theorem dX1_nextToken_54 : decode cX1_nextToken 54 = .ok (.if_icmp .lt 11, 3) := decs_at tdX1_nextToken_0 27 rfl
theorem dX1_nextToken_57 : decode cX1_nextToken 57 = .ok (.aload_n 0, 1) := decs_at tdX1_nextToken_0 28 rfl
theorem dX1_nextToken_58 : decode cX1_nextToken 58 = .ok (.iconst 0, 1) := decs_at tdX1_nextToken_0 29 rfl
theorem dX1_nextToken_59 : decode cX1_nextToken 59 = .ok (.putfield 22, 3) := decs_at tdX1_nextToken_0 30 rfl
theorem dX1_nextToken_62 : decode cX1_nextToken 62 = .ok (.goto 114, 3) := decs_at tdX1_nextToken_0 31 rfl
theorem dX1_nextToken_65 : decode cX1_nextToken 65 = .ok (.aload_n 0, 1) := decs_at tdX1_nextToken_0 32 rfl
theorem dX1_nextToken_66 : decode cX1_nextToken 66 = .ok (.getfield 11, 3) := decs_at tdX1_nextToken_0 33 rfl
theorem dX1_nextToken_69 : decode cX1_nextToken 69 = .ok (.aload_n 0, 1) := decs_at tdX1_nextToken_0 34 rfl
theorem dX1_nextToken_70 : decode cX1_nextToken 70 = .ok (.getfield 19, 3) := decs_at tdX1_nextToken_0 35 rfl
theorem dX1_nextToken_73 : decode cX1_nextToken 73 = .ok (.iaload, 1) := decs_at tdX1_nextToken_0 36 rfl
theorem dX1_nextToken_74 : decode cX1_nextToken 74 = .ok (.bipush 97, 2) := decs_at tdX1_nextToken_0 37 rfl
theorem dX1_nextToken_76 : decode cX1_nextToken 76 = .ok (.bipush 122, 2) := decs_at tdX1_nextToken_0 38 rfl
theorem dX1_nextToken_78 : decode cX1_nextToken 78 = .ok (.invokestatic 125, 3) := decs_at tdX1_nextToken_0 39 rfl
theorem tdX1_nextToken_81 : decs cX1_nextToken [(81, .ifCond .eq 19, 3), (84, .aload_n 0, 1), (85, .iconst 1, 1), (86, .putfield 22, 3), (89, .aload_n 0, 1), (90, .bipush 97, 2), (92, .bipush 122, 2), (94, .invokevirtual 132, 3), (97, .goto 79, 3), (100, .aload_n 0, 1), (101, .getfield 11, 3), (104, .aload_n 0, 1), (105, .getfield 19, 3), (108, .iaload, 1), (109, .bipush 48, 2), (111, .bipush 57, 2), (113, .invokestatic 125, 3), (116, .ifCond .eq 27, 3), (119, .aload_n 0, 1), (120, .iconst 2, 1), (121, .putfield 22, 3), (124, .aload_n 0, 1), (125, .bipush 48, 2), (127, .bipush 57, 2), (129, .invokevirtual 132, 3), (132, .aload_n 0, 1), (133, .aload_n 0, 1), (134, .invokevirtual 136, 3), (137, .putfield 28, 3), (140, .goto 36, 3), (143, .aload_n 0, 1), (144, .aload_n 0, 1), (145, .getfield 11, 3), (148, .aload_n 0, 1), (149, .getfield 19, 3), (152, .iaload, 1), (153, .bipush 59, 2), (155, .if_icmp .ne 7, 3), (158, .iconst 3, 1), (159, .goto 4, 3)] = true := by decide +kernel
theorem dX1_nextToken_81 : decode cX1_nextToken 81 = .ok (.ifCond .eq 19, 3) := decs_at tdX1_nextToken_81 0 rfl
theorem dX1_nextToken_84 : decode cX1_nextToken 84 = .ok (.aload_n 0, 1) := decs_at tdX1_nextToken_81 1 rfl
theorem dX1_nextToken_85 : decode cX1_nextToken 85 = .ok (.iconst 1, 1) := decs_at tdX1_nextToken_81 2 rfl
theorem dX1_nextToken_86 : decode cX1_nextToken 86 = .ok (.putfield 22, 3) := decs_at tdX1_nextToken_81 3 rfl
theorem dX1_nextToken_89 : decode cX1_nextToken 89 = .ok (.aload_n 0, 1) := decs_at tdX1_nextToken_81 4 rfl
theorem dX1_nextToken_90 : decode cX1_nextToken 90 = .ok (.bipush 97, 2) := decs_at tdX1_nextToken_81 5 rfl
theorem dX1_nextToken_92 : decode cX1_nextToken 92 = .ok (.bipush 122, 2) := decs_at tdX1_nextToken_81 6 rfl
theorem dX1_nextToken_94 : decode cX1_nextToken 94 = .ok (.invokevirtual 132, 3) := decs_at tdX1_nextToken_81 7 rfl
theorem dX1_nextToken_97 : decode cX1_nextToken 97 = .ok (.goto 79, 3) := decs_at tdX1_nextToken_81 8 rfl
theorem dX1_nextToken_100 : decode cX1_nextToken 100 = .ok (.aload_n 0, 1) := decs_at tdX1_nextToken_81 9 rfl
theorem dX1_nextToken_101 : decode cX1_nextToken 101 = .ok (.getfield 11, 3) := decs_at tdX1_nextToken_81 10 rfl
theorem dX1_nextToken_104 : decode cX1_nextToken 104 = .ok (.aload_n 0, 1) := decs_at tdX1_nextToken_81 11 rfl
theorem dX1_nextToken_105 : decode cX1_nextToken 105 = .ok (.getfield 19, 3) := decs_at tdX1_nextToken_81 12 rfl
theorem dX1_nextToken_108 : decode cX1_nextToken 108 = .ok (.iaload, 1) := decs_at tdX1_nextToken_81 13 rfl
theorem dX1_nextToken_109 : decode cX1_nextToken 109 = .ok (.bipush 48, 2) := decs_at tdX1_nextToken_81 14 rfl
theorem dX1_nextToken_111 : decode cX1_nextToken 111 = .ok (.bipush 57, 2) := decs_at tdX1_nextToken_81 15 rfl
theorem dX1_nextToken_113 : decode cX1_nextToken 113 = .ok (.invokestatic 125, 3) := decs_at tdX1_nextToken_81 16 rfl
theorem dX1_nextToken_116 : decode cX1_nextToken 116 = .ok (.ifCond .eq 27, 3) := decs_at tdX1_nextToken_81 17 rfl
theorem dX1_nextToken_119 : decode cX1_nextToken 119 = .ok (.aload_n 0, 1) := decs_at tdX1_nextToken_81 18 rfl
theorem dX1_nextToken_120 : decode cX1_nextToken 120 = .ok (.iconst 2, 1) := decs_at tdX1_nextToken_81 19 rfl
theorem dX1_nextToken_121 : decode cX1_nextToken 121 = .ok (.putfield 22, 3) := decs_at tdX1_nextToken_81 20 rfl
theorem dX1_nextToken_124 : decode cX1_nextToken 124 = .ok (.aload_n 0, 1) := decs_at tdX1_nextToken_81 21 rfl
theorem dX1_nextToken_125 : decode cX1_nextToken 125 = .ok (.bipush 48, 2) := decs_at tdX1_nextToken_81 22 rfl
theorem dX1_nextToken_127 : decode cX1_nextToken 127 = .ok (.bipush 57, 2) := decs_at tdX1_nextToken_81 23 rfl
theorem dX1_nextToken_129 : decode cX1_nextToken 129 = .ok (.invokevirtual 132, 3) := decs_at tdX1_nextToken_81 24 rfl
theorem dX1_nextToken_132 : decode cX1_nextToken 132 = .ok (.aload_n 0, 1) := decs_at tdX1_nextToken_81 25 rfl
theorem dX1_nextToken_133 : decode cX1_nextToken 133 = .ok (.aload_n 0, 1) := decs_at tdX1_nextToken_81 26 rfl
theorem dX1_nextToken_134 : decode cX1_nextToken 134 = .ok (.invokevirtual 136, 3) := decs_at tdX1_nextToken_81 27 rfl
theorem dX1_nextToken_137 : decode cX1_nextToken 137 = .ok (.putfield 28, 3) := decs_at tdX1_nextToken_81 28 rfl
theorem dX1_nextToken_140 : decode cX1_nextToken 140 = .ok (.goto 36, 3) := decs_at tdX1_nextToken_81 29 rfl
theorem dX1_nextToken_143 : decode cX1_nextToken 143 = .ok (.aload_n 0, 1) := decs_at tdX1_nextToken_81 30 rfl
theorem dX1_nextToken_144 : decode cX1_nextToken 144 = .ok (.aload_n 0, 1) := decs_at tdX1_nextToken_81 31 rfl
theorem dX1_nextToken_145 : decode cX1_nextToken 145 = .ok (.getfield 11, 3) := decs_at tdX1_nextToken_81 32 rfl
theorem dX1_nextToken_148 : decode cX1_nextToken 148 = .ok (.aload_n 0, 1) := decs_at tdX1_nextToken_81 33 rfl
theorem dX1_nextToken_149 : decode cX1_nextToken 149 = .ok (.getfield 19, 3) := decs_at tdX1_nextToken_81 34 rfl
theorem dX1_nextToken_152 : decode cX1_nextToken 152 = .ok (.iaload, 1) := decs_at tdX1_nextToken_81 35 rfl
theorem dX1_nextToken_153 : decode cX1_nextToken 153 = .ok (.bipush 59, 2) := decs_at tdX1_nextToken_81 36 rfl
theorem dX1_nextToken_155 : decode cX1_nextToken 155 = .ok (.if_icmp .ne 7, 3) := decs_at tdX1_nextToken_81 37 rfl
theorem dX1_nextToken_158 : decode cX1_nextToken 158 = .ok (.iconst 3, 1) := decs_at tdX1_nextToken_81 38 rfl
theorem dX1_nextToken_159 : decode cX1_nextToken 159 = .ok (.goto 4, 3) := decs_at tdX1_nextToken_81 39 rfl
theorem tdX1_nextToken_162 : decs cX1_nextToken [(162, .iconst 4, 1), (163, .putfield 22, 3), (166, .aload_n 0, 1), (167, .dup, 1), (168, .getfield 19, 3), (171, .iconst 1, 1), (172, .iadd, 1), (173, .putfield 19, 3), (176, .return_, 1)] = true := by decide +kernel
theorem dX1_nextToken_162 : decode cX1_nextToken 162 = .ok (.iconst 4, 1) := decs_at tdX1_nextToken_162 0 rfl
theorem dX1_nextToken_163 : decode cX1_nextToken 163 = .ok (.putfield 22, 3) := decs_at tdX1_nextToken_162 1 rfl
theorem dX1_nextToken_166 : decode cX1_nextToken 166 = .ok (.aload_n 0, 1) := decs_at tdX1_nextToken_162 2 rfl
theorem dX1_nextToken_167 : decode cX1_nextToken 167 = .ok (.dup, 1) := decs_at tdX1_nextToken_162 3 rfl
theorem dX1_nextToken_168 : decode cX1_nextToken 168 = .ok (.getfield 19, 3) := decs_at tdX1_nextToken_162 4 rfl
theorem dX1_nextToken_171 : decode cX1_nextToken 171 = .ok (.iconst 1, 1) := decs_at tdX1_nextToken_162 5 rfl
theorem dX1_nextToken_172 : decode cX1_nextToken 172 = .ok (.iadd, 1) := decs_at tdX1_nextToken_162 6 rfl
theorem dX1_nextToken_173 : decode cX1_nextToken 173 = .ok (.putfield 19, 3) := decs_at tdX1_nextToken_162 7 rfl
theorem dX1_nextToken_176 : decode cX1_nextToken 176 = .ok (.return_, 1) := decs_at tdX1_nextToken_162 8 rfl
theorem tdX1_passAll_0 : decs cX1_passAll [(0, .aload_n 0, 1), (1, .getfield 19, 3), (4, .aload_n 0, 1), (5, .getfield 15, 3), (8, .if_icmp .ge 42, 3), (11, .aload_n 0, 1), (12, .getfield 11, 3), (15, .aload_n 0, 1), (16, .getfield 19, 3), (19, .iaload, 1), (20, .iload_n 1, 1), (21, .if_icmp .lt 29, 3), (24, .aload_n 0, 1), (25, .getfield 11, 3), (28, .aload_n 0, 1), (29, .getfield 19, 3), (32, .iaload, 1), (33, .iload_n 2, 1), (34, .if_icmp .gt 16, 3), (37, .aload_n 0, 1), (38, .dup, 1), (39, .getfield 19, 3), (42, .iconst 1, 1), (43, .iadd, 1), (44, .putfield 19, 3), (47, .goto (-47), 3), (50, .return_, 1)] = true := by decide +kernel
theorem dX1_passAll_0 : decode cX1_passAll 0 = .ok (.aload_n 0, 1) := decs_at tdX1_passAll_0 0 rfl
theorem dX1_passAll_1 : decode cX1_passAll 1 = .ok (.getfield 19, 3) := decs_at tdX1_passAll_0 1 rfl
theorem dX1_passAll_4 : decode cX1_passAll 4 = .ok (.aload_n 0, 1) := decs_at tdX1_passAll_0 2 rfl
theorem dX1_passAll_5 : decode cX1_passAll 5 = .ok (.getfield 15, 3) := decs_at tdX1_passAll_0 3 rfl
theorem dX1_passAll_8 : decode cX1_passAll 8 = .ok (.if_icmp .ge 42, 3) := decs_at tdX1_passAll_0 4 rfl
theorem dX1_passAll_11 : decode cX1_passAll 11 = .ok (.aload_n 0, 1) := decs_at tdX1_passAll_0 5 rfl
theorem dX1_passAll_12 : decode cX1_passAll 12 = .ok (.getfield 11, 3) := decs_at tdX1_passAll_0 6 rfl
theorem dX1_passAll_15 : decode cX1_passAll 15 = .ok (.aload_n 0, 1) := decs_at tdX1_passAll_0 7 rfl
theorem dX1_passAll_16 : decode cX1_passAll 16 = .ok (.getfield 19, 3) := decs_at tdX1_passAll_0 8 rfl
theorem dX1_passAll_19 : decode cX1_passAll 19 = .ok (.iaload, 1) := decs_at tdX1_passAll_0 9 rfl
theorem dX1_passAll_20 : decode cX1_passAll 20 = .ok (.iload_n 1, 1) := decs_at tdX1_passAll_0 10 rfl
theorem dX1_passAll_21 : decode cX1_passAll 21 = .ok (.if_icmp .lt 29, 3) := decs_at tdX1_passAll_0 11 rfl
theorem dX1_passAll_24 : decode cX1_passAll 24 = .ok (.aload_n 0, 1) := decs_at tdX1_passAll_0 12 rfl
theorem dX1_passAll_25 : decode cX1_passAll 25 = .ok (.getfield 11, 3) := decs_at tdX1_passAll_0 13 rfl
theorem dX1_passAll_28 : decode cX1_passAll 28 = .ok (.aload_n 0, 1) := decs_at tdX1_passAll_0 14 rfl
theorem dX1_passAll_29 : decode cX1_passAll 29 = .ok (.getfield 19, 3) := decs_at tdX1_passAll_0 15 rfl
theorem dX1_passAll_32 : decode cX1_passAll 32 = .ok (.iaload, 1) := decs_at tdX1_passAll_0 16 rfl
theorem dX1_passAll_33 : decode cX1_passAll 33 = .ok (.iload_n 2, 1) := decs_at tdX1_passAll_0 17 rfl
theorem dX1_passAll_34 : decode cX1_passAll 34 = .ok (.if_icmp .gt 16, 3) := decs_at tdX1_passAll_0 18 rfl
theorem dX1_passAll_37 : decode cX1_passAll 37 = .ok (.aload_n 0, 1) := decs_at tdX1_passAll_0 19 rfl
theorem dX1_passAll_38 : decode cX1_passAll 38 = .ok (.dup, 1) := decs_at tdX1_passAll_0 20 rfl
theorem dX1_passAll_39 : decode cX1_passAll 39 = .ok (.getfield 19, 3) := decs_at tdX1_passAll_0 21 rfl
theorem dX1_passAll_42 : decode cX1_passAll 42 = .ok (.iconst 1, 1) := decs_at tdX1_passAll_0 22 rfl
theorem dX1_passAll_43 : decode cX1_passAll 43 = .ok (.iadd, 1) := decs_at tdX1_passAll_0 23 rfl
theorem dX1_passAll_44 : decode cX1_passAll 44 = .ok (.putfield 19, 3) := decs_at tdX1_passAll_0 24 rfl
theorem dX1_passAll_47 : decode cX1_passAll 47 = .ok (.goto (-47), 3) := decs_at tdX1_passAll_0 25 rfl
theorem dX1_passAll_50 : decode cX1_passAll 50 = .ok (.return_, 1) := decs_at tdX1_passAll_0 26 rfl
theorem tdX1_numberPassed_0 : decs cX1_numberPassed [(0, .aload_n 0, 1), (1, .getfield 19, 3), (4, .aload_n 0, 1), (5, .getfield 25, 3), (8, .isub, 1), (9, .iconst 2, 1), (10, .if_icmp .le 6, 3), (13, .bipush 100, 2), (15, .ireturn, 1), (16, .iconst 0, 1), (17, .istore_n 1, 1), (18, .aload_n 0, 1), (19, .getfield 25, 3), (22, .istore_n 2, 1), (23, .iload_n 2, 1), (24, .aload_n 0, 1), (25, .getfield 19, 3), (28, .if_icmp .ge 24, 3), (31, .bipush 10, 2), (33, .iload_n 1, 1), (34, .imul, 1), (35, .aload_n 0, 1), (36, .getfield 11, 3), (39, .iload_n 2, 1), (40, .iaload, 1), (41, .iadd, 1), (42, .bipush 48, 2), (44, .isub, 1), (45, .istore_n 1, 1), (46, .iinc 2 1, 3), (49, .goto (-26), 3), (52, .iload_n 1, 1), (53, .ireturn, 1)] = true := by decide +kernel
theorem dX1_numberPassed_0 : decode cX1_numberPassed 0 = .ok (.aload_n 0, 1) := decs_at tdX1_numberPassed_0 0 rfl
theorem dX1_numberPassed_1 : decode cX1_numberPassed 1 = .ok (.getfield 19, 3) := decs_at tdX1_numberPassed_0 1 rfl
theorem dX1_numberPassed_4 : decode cX1_numberPassed 4 = .ok (.aload_n 0, 1) := decs_at tdX1_numberPassed_0 2 rfl
theorem dX1_numberPassed_5 : decode cX1_numberPassed 5 = .ok (.getfield 25, 3) := decs_at tdX1_numberPassed_0 3 rfl
theorem dX1_numberPassed_8 : decode cX1_numberPassed 8 = .ok (.isub, 1) := decs_at tdX1_numberPassed_0 4 rfl
theorem dX1_numberPassed_9 : decode cX1_numberPassed 9 = .ok (.iconst 2, 1) := decs_at tdX1_numberPassed_0 5 rfl
theorem dX1_numberPassed_10 : decode cX1_numberPassed 10 = .ok (.if_icmp .le 6, 3) := decs_at tdX1_numberPassed_0 6 rfl
theorem dX1_numberPassed_13 : decode cX1_numberPassed 13 = .ok (.bipush 100, 2) := decs_at tdX1_numberPassed_0 7 rfl
theorem dX1_numberPassed_15 : decode cX1_numberPassed 15 = .ok (.ireturn, 1) := decs_at tdX1_numberPassed_0 8 rfl
theorem dX1_numberPassed_16 : decode cX1_numberPassed 16 = .ok (.iconst 0, 1) := decs_at tdX1_numberPassed_0 9 rfl
theorem dX1_numberPassed_17 : decode cX1_numberPassed 17 = .ok (.istore_n 1, 1) := decs_at tdX1_numberPassed_0 10 rfl
theorem dX1_numberPassed_18 : decode cX1_numberPassed 18 = .ok (.aload_n 0, 1) := decs_at tdX1_numberPassed_0 11 rfl
theorem dX1_numberPassed_19 : decode cX1_numberPassed 19 = .ok (.getfield 25, 3) := decs_at tdX1_numberPassed_0 12 rfl
theorem dX1_numberPassed_22 : decode cX1_numberPassed 22 = .ok (.istore_n 2, 1) := decs_at tdX1_numberPassed_0 13 rfl
theorem dX1_numberPassed_23 : decode cX1_numberPassed 23 = .ok (.iload_n 2, 1) := decs_at tdX1_numberPassed_0 14 rfl
theorem dX1_numberPassed_24 : decode cX1_numberPassed 24 = .ok (.aload_n 0, 1) := decs_at tdX1_numberPassed_0 15 rfl
theorem dX1_numberPassed_25 : decode cX1_numberPassed 25 = .ok (.getfield 19, 3) := decs_at tdX1_numberPassed_0 16 rfl
theorem dX1_numberPassed_28 : decode cX1_numberPassed 28 = .ok (.if_icmp .ge 24, 3) := decs_at tdX1_numberPassed_0 17 rfl
theorem dX1_numberPassed_31 : decode cX1_numberPassed 31 = .ok (.bipush 10, 2) := decs_at tdX1_numberPassed_0 18 rfl
theorem dX1_numberPassed_33 : decode cX1_numberPassed 33 = .ok (.iload_n 1, 1) := decs_at tdX1_numberPassed_0 19 rfl
theorem dX1_numberPassed_34 : decode cX1_numberPassed 34 = .ok (.imul, 1) := decs_at tdX1_numberPassed_0 20 rfl
theorem dX1_numberPassed_35 : decode cX1_numberPassed 35 = .ok (.aload_n 0, 1) := decs_at tdX1_numberPassed_0 21 rfl
theorem dX1_numberPassed_36 : decode cX1_numberPassed 36 = .ok (.getfield 11, 3) := decs_at tdX1_numberPassed_0 22 rfl
theorem dX1_numberPassed_39 : decode cX1_numberPassed 39 = .ok (.iload_n 2, 1) := decs_at tdX1_numberPassed_0 23 rfl
theorem dX1_numberPassed_40 : decode cX1_numberPassed 40 = .ok (.iaload, 1) := decs_at tdX1_numberPassed_0 24 rfl
theorem dX1_numberPassed_41 : decode cX1_numberPassed 41 = .ok (.iadd, 1) := decs_at tdX1_numberPassed_0 25 rfl
theorem dX1_numberPassed_42 : decode cX1_numberPassed 42 = .ok (.bipush 48, 2) := decs_at tdX1_numberPassed_0 26 rfl
theorem dX1_numberPassed_44 : decode cX1_numberPassed 44 = .ok (.isub, 1) := decs_at tdX1_numberPassed_0 27 rfl
theorem dX1_numberPassed_45 : decode cX1_numberPassed 45 = .ok (.istore_n 1, 1) := decs_at tdX1_numberPassed_0 28 rfl
theorem dX1_numberPassed_46 : decode cX1_numberPassed 46 = .ok (.iinc 2 1, 3) := decs_at tdX1_numberPassed_0 29 rfl
theorem dX1_numberPassed_49 : decode cX1_numberPassed 49 = .ok (.goto (-26), 3) := decs_at tdX1_numberPassed_0 30 rfl
theorem dX1_numberPassed_52 : decode cX1_numberPassed 52 = .ok (.iload_n 1, 1) := decs_at tdX1_numberPassed_0 31 rfl
theorem dX1_numberPassed_53 : decode cX1_numberPassed 53 = .ok (.ireturn, 1) := decs_at tdX1_numberPassed_0 32 rfl
set_option maxRecDepth 20000 in
theorem pl_wsX1_isWord_wsX1_isWord_r1 : ∀ w ∈ wsX1_isWord_r1, w ∈ wsX1_isWord := fun _ h => List.mem_cons_of_mem _ (List.mem_append_left _ (List.mem_append_left _ (h)))
theorem ggX1_isWord_J0_length_8abf5 : GoodIn wsX1_isWord wsJ0_length_8abf5 := goodIn_sub (List.forall_mem_cons.mpr ⟨(pl_wsX1_isWord_wsX1_isWord_r1 _ (List.mem_of_getElem? (i := 7) rfl)), (List.forall_mem_cons.mpr ⟨(pl_wsX1_isWord_wsX1_isWord_r1 _ (List.mem_of_getElem? (i := 8) rfl)), List.forall_mem_cons.mpr ⟨(pl_wsX1_isWord_wsX1_isWord_r1 _ (List.mem_of_getElem? (i := 9) rfl)), List.forall_mem_cons.mpr ⟨(pl_wsX1_isWord_wsX1_isWord_r1 _ (List.mem_of_getElem? (i := 10) rfl)), List.forall_mem_cons.mpr ⟨(pl_wsX1_isWord_wsX1_isWord_r1 _ (List.mem_of_getElem? (i := 11) rfl)), List.forall_mem_cons.mpr ⟨(pl_wsX1_isWord_wsX1_isWord_r1 _ (List.mem_of_getElem? (i := 6) rfl)), List.forall_mem_cons.mpr ⟨(pl_wsX1_isWord_wsX1_isWord_r1 _ (List.mem_of_getElem? (i := 12) rfl)), List.forall_mem_cons.mpr ⟨(pl_wsX1_isWord_wsX1_isWord_r1 _ (List.mem_of_getElem? (i := 13) rfl)), List.forall_mem_cons.mpr ⟨(pl_wsX1_isWord_wsX1_isWord_r1 _ (List.mem_of_getElem? (i := 14) rfl)), fun _ h => absurd h List.not_mem_nil⟩⟩⟩⟩⟩⟩⟩⟩)⟩) (by decide +kernel)
set_option maxRecDepth 20000 in
theorem gX1_isWord_J0_length_8abf5 : GoodIn wsX1_isWord (wsV RX1 140 RJ0 yJ0_length_8abf5 wsJ0_length_8abf5) := goodIn_app (goodIn_sub (List.forall_mem_cons.mpr ⟨(pl_wsX1_isWord_wsX1_isWord_r1 _ (List.mem_of_getElem? (i := 3) rfl)), List.forall_mem_cons.mpr ⟨(pl_wsX1_isWord_wsX1_isWord_r1 _ (List.mem_of_getElem? (i := 4) rfl)), List.forall_mem_cons.mpr ⟨(pl_wsX1_isWord_wsX1_isWord_r1 _ (List.mem_of_getElem? (i := 5) rfl)), List.forall_mem_cons.mpr ⟨(pl_wsX1_isWord_wsX1_isWord_r1 _ (List.mem_of_getElem? (i := 6) rfl)), fun _ h => absurd h List.not_mem_nil⟩⟩⟩⟩) (by decide +kernel)) ggX1_isWord_J0_length_8abf5
set_option maxRecDepth 20000 in
theorem pl_wsX1_isWord_wsX1_isWord_r2 : ∀ w ∈ wsX1_isWord_r2, w ∈ wsX1_isWord := fun _ h => List.mem_cons_of_mem _ (List.mem_append_left _ (List.mem_append_right _ (List.mem_append_left _ (h))))
theorem pl_wsX1_isWord_wsX1_isWord_r3 : ∀ w ∈ wsX1_isWord_r3, w ∈ wsX1_isWord := fun _ h => List.mem_cons_of_mem _ (List.mem_append_left _ (List.mem_append_right _ (List.mem_append_right _ (h))))
theorem ggX1_isWord_J0_charAt_5068e : GoodIn wsX1_isWord wsJ0_charAt_5068e := goodIn_sub (List.forall_mem_cons.mpr ⟨(pl_wsX1_isWord_wsX1_isWord_r1 _ (List.mem_of_getElem? (i := 18) rfl)), (fun w h => (List.mem_append.mp h).elim ((List.forall_mem_cons.mpr ⟨(pl_wsX1_isWord_wsX1_isWord_r1 _ (List.mem_of_getElem? (i := 8) rfl)), List.forall_mem_cons.mpr ⟨(pl_wsX1_isWord_wsX1_isWord_r1 _ (List.mem_of_getElem? (i := 19) rfl)), List.forall_mem_cons.mpr ⟨(pl_wsX1_isWord_wsX1_isWord_r1 _ (List.mem_of_getElem? (i := 20) rfl)), List.forall_mem_cons.mpr ⟨(pl_wsX1_isWord_wsX1_isWord_r1 _ (List.mem_of_getElem? (i := 21) rfl)), List.forall_mem_cons.mpr ⟨(pl_wsX1_isWord_wsX1_isWord_r1 _ (List.mem_of_getElem? (i := 6) rfl)), List.forall_mem_cons.mpr ⟨(pl_wsX1_isWord_wsX1_isWord_r1 _ (List.mem_of_getElem? (i := 22) rfl)), List.forall_mem_cons.mpr ⟨(pl_wsX1_isWord_wsX1_isWord_r1 _ (List.mem_of_getElem? (i := 13) rfl)), List.forall_mem_cons.mpr ⟨(pl_wsX1_isWord_wsX1_isWord_r1 _ (List.mem_of_getElem? (i := 14) rfl)), List.forall_mem_cons.mpr ⟨(pl_wsX1_isWord_wsX1_isWord_r1 _ (List.mem_of_getElem? (i := 23) rfl)), List.forall_mem_cons.mpr ⟨(pl_wsX1_isWord_wsX1_isWord_r2 _ (List.mem_of_getElem? (i := 0) rfl)), List.forall_mem_cons.mpr ⟨(pl_wsX1_isWord_wsX1_isWord_r2 _ (List.mem_of_getElem? (i := 1) rfl)), List.forall_mem_cons.mpr ⟨(pl_wsX1_isWord_wsX1_isWord_r2 _ (List.mem_of_getElem? (i := 2) rfl)), List.forall_mem_cons.mpr ⟨(pl_wsX1_isWord_wsX1_isWord_r2 _ (List.mem_of_getElem? (i := 3) rfl)), List.forall_mem_cons.mpr ⟨(pl_wsX1_isWord_wsX1_isWord_r2 _ (List.mem_of_getElem? (i := 4) rfl)), List.forall_mem_cons.mpr ⟨(pl_wsX1_isWord_wsX1_isWord_r2 _ (List.mem_of_getElem? (i := 5) rfl)), List.forall_mem_cons.mpr ⟨(pl_wsX1_isWord_wsX1_isWord_r2 _ (List.mem_of_getElem? (i := 6) rfl)), List.forall_mem_cons.mpr ⟨(pl_wsX1_isWord_wsX1_isWord_r2 _ (List.mem_of_getElem? (i := 7) rfl)), List.forall_mem_cons.mpr ⟨(pl_wsX1_isWord_wsX1_isWord_r2 _ (List.mem_of_getElem? (i := 8) rfl)), List.forall_mem_cons.mpr ⟨(pl_wsX1_isWord_wsX1_isWord_r2 _ (List.mem_of_getElem? (i := 9) rfl)), List.forall_mem_cons.mpr ⟨(pl_wsX1_isWord_wsX1_isWord_r2 _ (List.mem_of_getElem? (i := 10) rfl)), List.forall_mem_cons.mpr ⟨(pl_wsX1_isWord_wsX1_isWord_r2 _ (List.mem_of_getElem? (i := 11) rfl)), List.forall_mem_cons.mpr ⟨(pl_wsX1_isWord_wsX1_isWord_r2 _ (List.mem_of_getElem? (i := 12) rfl)), List.forall_mem_cons.mpr ⟨(pl_wsX1_isWord_wsX1_isWord_r2 _ (List.mem_of_getElem? (i := 13) rfl)), List.forall_mem_cons.mpr ⟨(pl_wsX1_isWord_wsX1_isWord_r2 _ (List.mem_of_getElem? (i := 14) rfl)), fun _ h => absurd h List.not_mem_nil⟩⟩⟩⟩⟩⟩⟩⟩⟩⟩⟩⟩⟩⟩⟩⟩⟩⟩⟩⟩⟩⟩⟩⟩) w) ((List.forall_mem_cons.mpr ⟨(pl_wsX1_isWord_wsX1_isWord_r2 _ (List.mem_of_getElem? (i := 15) rfl)), List.forall_mem_cons.mpr ⟨(pl_wsX1_isWord_wsX1_isWord_r2 _ (List.mem_of_getElem? (i := 16) rfl)), List.forall_mem_cons.mpr ⟨(pl_wsX1_isWord_wsX1_isWord_r2 _ (List.mem_of_getElem? (i := 17) rfl)), List.forall_mem_cons.mpr ⟨(pl_wsX1_isWord_wsX1_isWord_r2 _ (List.mem_of_getElem? (i := 18) rfl)), List.forall_mem_cons.mpr ⟨(pl_wsX1_isWord_wsX1_isWord_r2 _ (List.mem_of_getElem? (i := 19) rfl)), List.forall_mem_cons.mpr ⟨(pl_wsX1_isWord_wsX1_isWord_r2 _ (List.mem_of_getElem? (i := 20) rfl)), List.forall_mem_cons.mpr ⟨(pl_wsX1_isWord_wsX1_isWord_r2 _ (List.mem_of_getElem? (i := 21) rfl)), List.forall_mem_cons.mpr ⟨(pl_wsX1_isWord_wsX1_isWord_r2 _ (List.mem_of_getElem? (i := 22) rfl)), List.forall_mem_cons.mpr ⟨(pl_wsX1_isWord_wsX1_isWord_r2 _ (List.mem_of_getElem? (i := 23) rfl)), List.forall_mem_cons.mpr ⟨(pl_wsX1_isWord_wsX1_isWord_r3 _ (List.mem_of_getElem? (i := 0) rfl)), List.forall_mem_cons.mpr ⟨(pl_wsX1_isWord_wsX1_isWord_r3 _ (List.mem_of_getElem? (i := 1) rfl)), List.forall_mem_cons.mpr ⟨(pl_wsX1_isWord_wsX1_isWord_r3 _ (List.mem_of_getElem? (i := 2) rfl)), List.forall_mem_cons.mpr ⟨(pl_wsX1_isWord_wsX1_isWord_r3 _ (List.mem_of_getElem? (i := 3) rfl)), fun _ h => absurd h List.not_mem_nil⟩⟩⟩⟩⟩⟩⟩⟩⟩⟩⟩⟩⟩) w))⟩) (by decide +kernel)
set_option maxRecDepth 20000 in
theorem gX1_isWord_J0_charAt_5068e : GoodIn wsX1_isWord (wsV RX1 145 RJ0 yJ0_charAt_5068e wsJ0_charAt_5068e) := goodIn_app (goodIn_sub (List.forall_mem_cons.mpr ⟨(pl_wsX1_isWord_wsX1_isWord_r1 _ (List.mem_of_getElem? (i := 15) rfl)), List.forall_mem_cons.mpr ⟨(pl_wsX1_isWord_wsX1_isWord_r1 _ (List.mem_of_getElem? (i := 16) rfl)), List.forall_mem_cons.mpr ⟨(pl_wsX1_isWord_wsX1_isWord_r1 _ (List.mem_of_getElem? (i := 17) rfl)), List.forall_mem_cons.mpr ⟨(pl_wsX1_isWord_wsX1_isWord_r1 _ (List.mem_of_getElem? (i := 6) rfl)), fun _ h => absurd h List.not_mem_nil⟩⟩⟩⟩) (by decide +kernel)) ggX1_isWord_J0_charAt_5068e
theorem tdX1_isWord_0 : decs cX1_isWord [(0, .aload_n 0, 1), (1, .getfield 19, 3), (4, .aload_n 0, 1), (5, .getfield 25, 3), (8, .isub, 1), (9, .aload_n 1, 1), (10, .invokevirtual 140, 3), (13, .if_icmp .eq 5, 3), (16, .iconst 0, 1), (17, .ireturn, 1), (18, .iconst 0, 1), (19, .istore_n 2, 1), (20, .iload_n 2, 1), (21, .aload_n 1, 1), (22, .invokevirtual 140, 3), (25, .if_icmp .ge 30, 3), (28, .aload_n 0, 1), (29, .getfield 11, 3), (32, .aload_n 0, 1), (33, .getfield 25, 3), (36, .iload_n 2, 1), (37, .iadd, 1), (38, .iaload, 1), (39, .aload_n 1, 1), (40, .iload_n 2, 1), (41, .invokevirtual 145, 3), (44, .if_icmp .eq 5, 3), (47, .iconst 0, 1), (48, .ireturn, 1), (49, .iinc 2 1, 3), (52, .goto (-32), 3), (55, .iconst 1, 1), (56, .ireturn, 1)] = true := by decide +kernel
theorem dX1_isWord_0 : decode cX1_isWord 0 = .ok (.aload_n 0, 1) := decs_at tdX1_isWord_0 0 rfl
theorem dX1_isWord_1 : decode cX1_isWord 1 = .ok (.getfield 19, 3) := decs_at tdX1_isWord_0 1 rfl
theorem dX1_isWord_4 : decode cX1_isWord 4 = .ok (.aload_n 0, 1) := decs_at tdX1_isWord_0 2 rfl
theorem dX1_isWord_5 : decode cX1_isWord 5 = .ok (.getfield 25, 3) := decs_at tdX1_isWord_0 3 rfl
theorem dX1_isWord_8 : decode cX1_isWord 8 = .ok (.isub, 1) := decs_at tdX1_isWord_0 4 rfl
theorem dX1_isWord_9 : decode cX1_isWord 9 = .ok (.aload_n 1, 1) := decs_at tdX1_isWord_0 5 rfl
theorem dX1_isWord_10 : decode cX1_isWord 10 = .ok (.invokevirtual 140, 3) := decs_at tdX1_isWord_0 6 rfl
theorem dX1_isWord_13 : decode cX1_isWord 13 = .ok (.if_icmp .eq 5, 3) := decs_at tdX1_isWord_0 7 rfl
theorem dX1_isWord_16 : decode cX1_isWord 16 = .ok (.iconst 0, 1) := decs_at tdX1_isWord_0 8 rfl
theorem dX1_isWord_17 : decode cX1_isWord 17 = .ok (.ireturn, 1) := decs_at tdX1_isWord_0 9 rfl
theorem dX1_isWord_18 : decode cX1_isWord 18 = .ok (.iconst 0, 1) := decs_at tdX1_isWord_0 10 rfl
theorem dX1_isWord_19 : decode cX1_isWord 19 = .ok (.istore_n 2, 1) := decs_at tdX1_isWord_0 11 rfl
theorem dX1_isWord_20 : decode cX1_isWord 20 = .ok (.iload_n 2, 1) := decs_at tdX1_isWord_0 12 rfl
theorem dX1_isWord_21 : decode cX1_isWord 21 = .ok (.aload_n 1, 1) := decs_at tdX1_isWord_0 13 rfl
theorem dX1_isWord_22 : decode cX1_isWord 22 = .ok (.invokevirtual 140, 3) := decs_at tdX1_isWord_0 14 rfl
theorem dX1_isWord_25 : decode cX1_isWord 25 = .ok (.if_icmp .ge 30, 3) := decs_at tdX1_isWord_0 15 rfl
theorem dX1_isWord_28 : decode cX1_isWord 28 = .ok (.aload_n 0, 1) := decs_at tdX1_isWord_0 16 rfl
theorem dX1_isWord_29 : decode cX1_isWord 29 = .ok (.getfield 11, 3) := decs_at tdX1_isWord_0 17 rfl
theorem dX1_isWord_32 : decode cX1_isWord 32 = .ok (.aload_n 0, 1) := decs_at tdX1_isWord_0 18 rfl
theorem dX1_isWord_33 : decode cX1_isWord 33 = .ok (.getfield 25, 3) := decs_at tdX1_isWord_0 19 rfl
theorem dX1_isWord_36 : decode cX1_isWord 36 = .ok (.iload_n 2, 1) := decs_at tdX1_isWord_0 20 rfl
theorem dX1_isWord_37 : decode cX1_isWord 37 = .ok (.iadd, 1) := decs_at tdX1_isWord_0 21 rfl
theorem dX1_isWord_38 : decode cX1_isWord 38 = .ok (.iaload, 1) := decs_at tdX1_isWord_0 22 rfl
theorem dX1_isWord_39 : decode cX1_isWord 39 = .ok (.aload_n 1, 1) := decs_at tdX1_isWord_0 23 rfl
theorem dX1_isWord_40 : decode cX1_isWord 40 = .ok (.iload_n 2, 1) := decs_at tdX1_isWord_0 24 rfl
theorem dX1_isWord_41 : decode cX1_isWord 41 = .ok (.invokevirtual 145, 3) := decs_at tdX1_isWord_0 25 rfl
theorem dX1_isWord_44 : decode cX1_isWord 44 = .ok (.if_icmp .eq 5, 3) := decs_at tdX1_isWord_0 26 rfl
theorem dX1_isWord_47 : decode cX1_isWord 47 = .ok (.iconst 0, 1) := decs_at tdX1_isWord_0 27 rfl
theorem dX1_isWord_48 : decode cX1_isWord 48 = .ok (.ireturn, 1) := decs_at tdX1_isWord_0 28 rfl
theorem dX1_isWord_49 : decode cX1_isWord 49 = .ok (.iinc 2 1, 3) := decs_at tdX1_isWord_0 29 rfl
theorem dX1_isWord_52 : decode cX1_isWord 52 = .ok (.goto (-32), 3) := decs_at tdX1_isWord_0 30 rfl
theorem dX1_isWord_55 : decode cX1_isWord 55 = .ok (.iconst 1, 1) := decs_at tdX1_isWord_0 31 rfl
theorem dX1_isWord_56 : decode cX1_isWord 56 = .ok (.ireturn, 1) := decs_at tdX1_isWord_0 32 rfl
theorem tdX2_init_0 : decs cX2_init [(0, .aload_n 0, 1), (1, .invokespecial 3, 3), (4, .aload_n 0, 1), (5, .sipush 1093, 3), (8, .newarray .int, 2), (10, .putfield 9, 3), (13, .aload_n 0, 1), (14, .sipush 1093, 3), (17, .newarray .int, 2), (19, .putfield 15, 3), (22, .aload_n 0, 1), (23, .bipush 70, 2), (25, .newarray .boolean, 2), (27, .putfield 18, 3), (30, .aload_n 0, 1), (31, .aload_n 1, 1), (32, .putfield 22, 3), (35, .aload_n 0, 1), (36, .aload_n 2, 1), (37, .putfield 26, 3), (40, .return_, 1)] = true := by decide +kernel
theorem dX2_init_0 : decode cX2_init 0 = .ok (.aload_n 0, 1) := decs_at tdX2_init_0 0 rfl
theorem dX2_init_1 : decode cX2_init 1 = .ok (.invokespecial 3, 3) := decs_at tdX2_init_0 1 rfl
theorem dX2_init_4 : decode cX2_init 4 = .ok (.aload_n 0, 1) := decs_at tdX2_init_0 2 rfl
theorem dX2_init_5 : decode cX2_init 5 = .ok (.sipush 1093, 3) := decs_at tdX2_init_0 3 rfl
theorem dX2_init_8 : decode cX2_init 8 = .ok (.newarray .int, 2) := decs_at tdX2_init_0 4 rfl
theorem dX2_init_10 : decode cX2_init 10 = .ok (.putfield 9, 3) := decs_at tdX2_init_0 5 rfl
theorem dX2_init_13 : decode cX2_init 13 = .ok (.aload_n 0, 1) := decs_at tdX2_init_0 6 rfl
theorem dX2_init_14 : decode cX2_init 14 = .ok (.sipush 1093, 3) := decs_at tdX2_init_0 7 rfl
theorem dX2_init_17 : decode cX2_init 17 = .ok (.newarray .int, 2) := decs_at tdX2_init_0 8 rfl
theorem dX2_init_19 : decode cX2_init 19 = .ok (.putfield 15, 3) := decs_at tdX2_init_0 9 rfl
theorem dX2_init_22 : decode cX2_init 22 = .ok (.aload_n 0, 1) := decs_at tdX2_init_0 10 rfl
theorem dX2_init_23 : decode cX2_init 23 = .ok (.bipush 70, 2) := decs_at tdX2_init_0 11 rfl
theorem dX2_init_25 : decode cX2_init 25 = .ok (.newarray .boolean, 2) := decs_at tdX2_init_0 12 rfl
theorem dX2_init_27 : decode cX2_init 27 = .ok (.putfield 18, 3) := decs_at tdX2_init_0 13 rfl
theorem dX2_init_30 : decode cX2_init 30 = .ok (.aload_n 0, 1) := decs_at tdX2_init_0 14 rfl
theorem dX2_init_31 : decode cX2_init 31 = .ok (.aload_n 1, 1) := decs_at tdX2_init_0 15 rfl
theorem dX2_init_32 : decode cX2_init 32 = .ok (.putfield 22, 3) := decs_at tdX2_init_0 16 rfl
theorem dX2_init_35 : decode cX2_init 35 = .ok (.aload_n 0, 1) := decs_at tdX2_init_0 17 rfl
theorem dX2_init_36 : decode cX2_init 36 = .ok (.aload_n 2, 1) := decs_at tdX2_init_0 18 rfl
theorem dX2_init_37 : decode cX2_init 37 = .ok (.putfield 26, 3) := decs_at tdX2_init_0 19 rfl
theorem dX2_init_40 : decode cX2_init 40 = .ok (.return_, 1) := decs_at tdX2_init_0 20 rfl
set_option maxRecDepth 20000 in
theorem pl_wsX2_find_wsX2_find_r1 : ∀ w ∈ wsX2_find_r1, w ∈ wsX2_find := fun _ h => List.mem_cons_of_mem _ (List.mem_append_left _ (List.mem_append_left _ (List.mem_append_left _ (List.mem_append_left _ (h)))))
theorem pl_wsX2_find_wsX2_find_r2 : ∀ w ∈ wsX2_find_r2, w ∈ wsX2_find := fun _ h => List.mem_cons_of_mem _ (List.mem_append_left _ (List.mem_append_left _ (List.mem_append_left _ (List.mem_append_right _ (List.mem_append_left _ (h))))))
theorem pl_wsX2_find_wsX40 : ∀ w ∈ wsX40, w ∈ wsX2_find := fun _ h => List.mem_cons_of_mem _ (List.mem_append_left _ (List.mem_append_right _ (h)))
theorem pl_wsX2_find_wsX00 : ∀ w ∈ wsX00, w ∈ wsX2_find := fun _ h => List.mem_cons_of_mem _ (List.mem_append_right _ (h))
theorem ggX2_find_X4_begin : GoodIn wsX2_find wsX4_begin := goodIn_sub (List.forall_mem_cons.mpr ⟨(pl_wsX2_find_wsX2_find_r1 _ (List.mem_of_getElem? (i := 8) rfl)), (fun w h => (List.mem_append.mp h).elim ((fun w h => (List.mem_append.mp h).elim ((List.forall_mem_cons.mpr ⟨(pl_wsX2_find_wsX2_find_r1 _ (List.mem_of_getElem? (i := 9) rfl)), List.forall_mem_cons.mpr ⟨(pl_wsX2_find_wsX2_find_r1 _ (List.mem_of_getElem? (i := 10) rfl)), List.forall_mem_cons.mpr ⟨(pl_wsX2_find_wsX2_find_r1 _ (List.mem_of_getElem? (i := 11) rfl)), List.forall_mem_cons.mpr ⟨(pl_wsX2_find_wsX2_find_r1 _ (List.mem_of_getElem? (i := 12) rfl)), List.forall_mem_cons.mpr ⟨(pl_wsX2_find_wsX2_find_r1 _ (List.mem_of_getElem? (i := 13) rfl)), List.forall_mem_cons.mpr ⟨(pl_wsX2_find_wsX2_find_r1 _ (List.mem_of_getElem? (i := 14) rfl)), List.forall_mem_cons.mpr ⟨(pl_wsX2_find_wsX2_find_r1 _ (List.mem_of_getElem? (i := 15) rfl)), List.forall_mem_cons.mpr ⟨(pl_wsX2_find_wsX2_find_r1 _ (List.mem_of_getElem? (i := 16) rfl)), List.forall_mem_cons.mpr ⟨(pl_wsX2_find_wsX2_find_r1 _ (List.mem_of_getElem? (i := 17) rfl)), List.forall_mem_cons.mpr ⟨(pl_wsX2_find_wsX2_find_r1 _ (List.mem_of_getElem? (i := 18) rfl)), List.forall_mem_cons.mpr ⟨(pl_wsX2_find_wsX2_find_r1 _ (List.mem_of_getElem? (i := 19) rfl)), List.forall_mem_cons.mpr ⟨(pl_wsX2_find_wsX2_find_r1 _ (List.mem_of_getElem? (i := 20) rfl)), List.forall_mem_cons.mpr ⟨(pl_wsX2_find_wsX2_find_r1 _ (List.mem_of_getElem? (i := 21) rfl)), List.forall_mem_cons.mpr ⟨(pl_wsX2_find_wsX2_find_r1 _ (List.mem_of_getElem? (i := 22) rfl)), List.forall_mem_cons.mpr ⟨(pl_wsX2_find_wsX2_find_r1 _ (List.mem_of_getElem? (i := 23) rfl)), List.forall_mem_cons.mpr ⟨(pl_wsX2_find_wsX2_find_r2 _ (List.mem_of_getElem? (i := 0) rfl)), List.forall_mem_cons.mpr ⟨(pl_wsX2_find_wsX2_find_r2 _ (List.mem_of_getElem? (i := 1) rfl)), List.forall_mem_cons.mpr ⟨(pl_wsX2_find_wsX2_find_r2 _ (List.mem_of_getElem? (i := 2) rfl)), List.forall_mem_cons.mpr ⟨(pl_wsX2_find_wsX2_find_r2 _ (List.mem_of_getElem? (i := 3) rfl)), List.forall_mem_cons.mpr ⟨(pl_wsX2_find_wsX2_find_r2 _ (List.mem_of_getElem? (i := 4) rfl)), fun _ h => absurd h List.not_mem_nil⟩⟩⟩⟩⟩⟩⟩⟩⟩⟩⟩⟩⟩⟩⟩⟩⟩⟩⟩⟩) w) (pl_wsX2_find_wsX40 w)) w) (pl_wsX2_find_wsX00 w))⟩) (by decide +kernel)
set_option maxRecDepth 20000 in
theorem gX2_find_X4_begin : GoodIn wsX2_find (wsV RX2 29 RX4 yX4_begin wsX4_begin) := goodIn_app (goodIn_sub (List.forall_mem_cons.mpr ⟨(pl_wsX2_find_wsX2_find_r1 _ (List.mem_of_getElem? (i := 4) rfl)), List.forall_mem_cons.mpr ⟨(pl_wsX2_find_wsX2_find_r1 _ (List.mem_of_getElem? (i := 5) rfl)), List.forall_mem_cons.mpr ⟨(pl_wsX2_find_wsX2_find_r1 _ (List.mem_of_getElem? (i := 6) rfl)), List.forall_mem_cons.mpr ⟨(pl_wsX2_find_wsX2_find_r1 _ (List.mem_of_getElem? (i := 7) rfl)), fun _ h => absurd h List.not_mem_nil⟩⟩⟩⟩) (by decide +kernel)) ggX2_find_X4_begin
set_option maxRecDepth 20000 in
theorem pl_wsX2_find_wsX2_find_r3 : ∀ w ∈ wsX2_find_r3, w ∈ wsX2_find := fun _ h => List.mem_cons_of_mem _ (List.mem_append_left _ (List.mem_append_left _ (List.mem_append_left _ (List.mem_append_right _ (List.mem_append_right _ (List.mem_append_left _ (h)))))))
theorem pl_wsX2_find_wsX2_find_r4 : ∀ w ∈ wsX2_find_r4, w ∈ wsX2_find := fun _ h => List.mem_cons_of_mem _ (List.mem_append_left _ (List.mem_append_left _ (List.mem_append_left _ (List.mem_append_right _ (List.mem_append_right _ (List.mem_append_right _ (h)))))))
theorem ggX2_find_X2_grow : GoodIn wsX2_find wsX2_grow := goodIn_sub (List.forall_mem_cons.mpr ⟨(pl_wsX2_find_wsX2_find_r2 _ (List.mem_of_getElem? (i := 8) rfl)), (fun w h => (List.mem_append.mp h).elim ((fun w h => (List.mem_append.mp h).elim ((fun w h => (List.mem_append.mp h).elim ((List.forall_mem_cons.mpr ⟨(pl_wsX2_find_wsX2_find_r2 _ (List.mem_of_getElem? (i := 9) rfl)), List.forall_mem_cons.mpr ⟨(pl_wsX2_find_wsX2_find_r2 _ (List.mem_of_getElem? (i := 10) rfl)), List.forall_mem_cons.mpr ⟨(pl_wsX2_find_wsX2_find_r2 _ (List.mem_of_getElem? (i := 11) rfl)), List.forall_mem_cons.mpr ⟨(pl_wsX2_find_wsX2_find_r1 _ (List.mem_of_getElem? (i := 7) rfl)), List.forall_mem_cons.mpr ⟨(pl_wsX2_find_wsX2_find_r2 _ (List.mem_of_getElem? (i := 12) rfl)), List.forall_mem_cons.mpr ⟨(pl_wsX2_find_wsX2_find_r1 _ (List.mem_of_getElem? (i := 17) rfl)), List.forall_mem_cons.mpr ⟨(pl_wsX2_find_wsX2_find_r1 _ (List.mem_of_getElem? (i := 19) rfl)), List.forall_mem_cons.mpr ⟨(pl_wsX2_find_wsX2_find_r1 _ (List.mem_of_getElem? (i := 18) rfl)), List.forall_mem_cons.mpr ⟨(pl_wsX2_find_wsX2_find_r1 _ (List.mem_of_getElem? (i := 13) rfl)), List.forall_mem_cons.mpr ⟨(pl_wsX2_find_wsX2_find_r1 _ (List.mem_of_getElem? (i := 14) rfl)), List.forall_mem_cons.mpr ⟨(pl_wsX2_find_wsX2_find_r2 _ (List.mem_of_getElem? (i := 13) rfl)), List.forall_mem_cons.mpr ⟨(pl_wsX2_find_wsX2_find_r2 _ (List.mem_of_getElem? (i := 14) rfl)), List.forall_mem_cons.mpr ⟨(pl_wsX2_find_wsX2_find_r2 _ (List.mem_of_getElem? (i := 15) rfl)), List.forall_mem_cons.mpr ⟨(pl_wsX2_find_wsX2_find_r2 _ (List.mem_of_getElem? (i := 16) rfl)), List.forall_mem_cons.mpr ⟨(pl_wsX2_find_wsX2_find_r1 _ (List.mem_of_getElem? (i := 16) rfl)), List.forall_mem_cons.mpr ⟨(pl_wsX2_find_wsX2_find_r2 _ (List.mem_of_getElem? (i := 17) rfl)), List.forall_mem_cons.mpr ⟨(pl_wsX2_find_wsX2_find_r2 _ (List.mem_of_getElem? (i := 3) rfl)), List.forall_mem_cons.mpr ⟨(pl_wsX2_find_wsX2_find_r2 _ (List.mem_of_getElem? (i := 18) rfl)), List.forall_mem_cons.mpr ⟨(pl_wsX2_find_wsX2_find_r2 _ (List.mem_of_getElem? (i := 19) rfl)), List.forall_mem_cons.mpr ⟨(pl_wsX2_find_wsX2_find_r2 _ (List.mem_of_getElem? (i := 20) rfl)), List.forall_mem_cons.mpr ⟨(pl_wsX2_find_wsX2_find_r2 _ (List.mem_of_getElem? (i := 21) rfl)), List.forall_mem_cons.mpr ⟨(pl_wsX2_find_wsX2_find_r2 _ (List.mem_of_getElem? (i := 22) rfl)), List.forall_mem_cons.mpr ⟨(pl_wsX2_find_wsX2_find_r2 _ (List.mem_of_getElem? (i := 23) rfl)), List.forall_mem_cons.mpr ⟨(pl_wsX2_find_wsX2_find_r3 _ (List.mem_of_getElem? (i := 0) rfl)), fun _ h => absurd h List.not_mem_nil⟩⟩⟩⟩⟩⟩⟩⟩⟩⟩⟩⟩⟩⟩⟩⟩⟩⟩⟩⟩⟩⟩⟩⟩) w) ((fun w h => (List.mem_append.mp h).elim ((List.forall_mem_cons.mpr ⟨(pl_wsX2_find_wsX2_find_r3 _ (List.mem_of_getElem? (i := 1) rfl)), List.forall_mem_cons.mpr ⟨(pl_wsX2_find_wsX2_find_r3 _ (List.mem_of_getElem? (i := 2) rfl)), List.forall_mem_cons.mpr ⟨(pl_wsX2_find_wsX2_find_r1 _ (List.mem_of_getElem? (i := 15) rfl)), List.forall_mem_cons.mpr ⟨(pl_wsX2_find_wsX2_find_r3 _ (List.mem_of_getElem? (i := 3) rfl)), List.forall_mem_cons.mpr ⟨(pl_wsX2_find_wsX2_find_r3 _ (List.mem_of_getElem? (i := 4) rfl)), List.forall_mem_cons.mpr ⟨(pl_wsX2_find_wsX2_find_r3 _ (List.mem_of_getElem? (i := 5) rfl)), List.forall_mem_cons.mpr ⟨(pl_wsX2_find_wsX2_find_r3 _ (List.mem_of_getElem? (i := 6) rfl)), List.forall_mem_cons.mpr ⟨(pl_wsX2_find_wsX2_find_r1 _ (List.mem_of_getElem? (i := 9) rfl)), List.forall_mem_cons.mpr ⟨(pl_wsX2_find_wsX2_find_r3 _ (List.mem_of_getElem? (i := 7) rfl)), List.forall_mem_cons.mpr ⟨(pl_wsX2_find_wsX2_find_r3 _ (List.mem_of_getElem? (i := 8) rfl)), List.forall_mem_cons.mpr ⟨(pl_wsX2_find_wsX2_find_r3 _ (List.mem_of_getElem? (i := 9) rfl)), List.forall_mem_cons.mpr ⟨(pl_wsX2_find_wsX2_find_r1 _ (List.mem_of_getElem? (i := 23) rfl)), List.forall_mem_cons.mpr ⟨(pl_wsX2_find_wsX2_find_r3 _ (List.mem_of_getElem? (i := 10) rfl)), List.forall_mem_cons.mpr ⟨(pl_wsX2_find_wsX2_find_r3 _ (List.mem_of_getElem? (i := 11) rfl)), List.forall_mem_cons.mpr ⟨(pl_wsX2_find_wsX2_find_r3 _ (List.mem_of_getElem? (i := 12) rfl)), List.forall_mem_cons.mpr ⟨(pl_wsX2_find_wsX2_find_r3 _ (List.mem_of_getElem? (i := 13) rfl)), List.forall_mem_cons.mpr ⟨(pl_wsX2_find_wsX2_find_r3 _ (List.mem_of_getElem? (i := 14) rfl)), List.forall_mem_cons.mpr ⟨(pl_wsX2_find_wsX2_find_r3 _ (List.mem_of_getElem? (i := 15) rfl)), List.forall_mem_cons.mpr ⟨(pl_wsX2_find_wsX2_find_r3 _ (List.mem_of_getElem? (i := 16) rfl)), List.forall_mem_cons.mpr ⟨(pl_wsX2_find_wsX2_find_r3 _ (List.mem_of_getElem? (i := 17) rfl)), List.forall_mem_cons.mpr ⟨(pl_wsX2_find_wsX2_find_r3 _ (List.mem_of_getElem? (i := 18) rfl)), List.forall_mem_cons.mpr ⟨(pl_wsX2_find_wsX2_find_r3 _ (List.mem_of_getElem? (i := 19) rfl)), List.forall_mem_cons.mpr ⟨(pl_wsX2_find_wsX2_find_r3 _ (List.mem_of_getElem? (i := 20) rfl)), List.forall_mem_cons.mpr ⟨(pl_wsX2_find_wsX2_find_r3 _ (List.mem_of_getElem? (i := 21) rfl)), fun _ h => absurd h List.not_mem_nil⟩⟩⟩⟩⟩⟩⟩⟩⟩⟩⟩⟩⟩⟩⟩⟩⟩⟩⟩⟩⟩⟩⟩⟩) w) ((List.forall_mem_cons.mpr ⟨(pl_wsX2_find_wsX2_find_r3 _ (List.mem_of_getElem? (i := 22) rfl)), List.forall_mem_cons.mpr ⟨(pl_wsX2_find_wsX2_find_r3 _ (List.mem_of_getElem? (i := 23) rfl)), List.forall_mem_cons.mpr ⟨(pl_wsX2_find_wsX2_find_r4 _ (List.mem_of_getElem? (i := 0) rfl)), List.forall_mem_cons.mpr ⟨(pl_wsX2_find_wsX2_find_r4 _ (List.mem_of_getElem? (i := 1) rfl)), List.forall_mem_cons.mpr ⟨(pl_wsX2_find_wsX2_find_r4 _ (List.mem_of_getElem? (i := 2) rfl)), List.forall_mem_cons.mpr ⟨(pl_wsX2_find_wsX2_find_r1 _ (List.mem_of_getElem? (i := 10) rfl)), List.forall_mem_cons.mpr ⟨(pl_wsX2_find_wsX2_find_r1 _ (List.mem_of_getElem? (i := 12) rfl)), List.forall_mem_cons.mpr ⟨(pl_wsX2_find_wsX2_find_r1 _ (List.mem_of_getElem? (i := 11) rfl)), List.forall_mem_cons.mpr ⟨(pl_wsX2_find_wsX2_find_r4 _ (List.mem_of_getElem? (i := 3) rfl)), List.forall_mem_cons.mpr ⟨(pl_wsX2_find_wsX2_find_r4 _ (List.mem_of_getElem? (i := 4) rfl)), List.forall_mem_cons.mpr ⟨(pl_wsX2_find_wsX2_find_r4 _ (List.mem_of_getElem? (i := 5) rfl)), List.forall_mem_cons.mpr ⟨(pl_wsX2_find_wsX2_find_r4 _ (List.mem_of_getElem? (i := 6) rfl)), List.forall_mem_cons.mpr ⟨(pl_wsX2_find_wsX2_find_r4 _ (List.mem_of_getElem? (i := 7) rfl)), List.forall_mem_cons.mpr ⟨(pl_wsX2_find_wsX2_find_r4 _ (List.mem_of_getElem? (i := 8) rfl)), List.forall_mem_cons.mpr ⟨(pl_wsX2_find_wsX2_find_r4 _ (List.mem_of_getElem? (i := 9) rfl)), List.forall_mem_cons.mpr ⟨(pl_wsX2_find_wsX2_find_r4 _ (List.mem_of_getElem? (i := 10) rfl)), List.forall_mem_cons.mpr ⟨(pl_wsX2_find_wsX2_find_r4 _ (List.mem_of_getElem? (i := 11) rfl)), List.forall_mem_cons.mpr ⟨(pl_wsX2_find_wsX2_find_r4 _ (List.mem_of_getElem? (i := 12) rfl)), List.forall_mem_cons.mpr ⟨(pl_wsX2_find_wsX2_find_r4 _ (List.mem_of_getElem? (i := 13) rfl)), List.forall_mem_cons.mpr ⟨(pl_wsX2_find_wsX2_find_r4 _ (List.mem_of_getElem? (i := 14) rfl)), List.forall_mem_cons.mpr ⟨(pl_wsX2_find_wsX2_find_r4 _ (List.mem_of_getElem? (i := 15) rfl)), fun _ h => absurd h List.not_mem_nil⟩⟩⟩⟩⟩⟩⟩⟩⟩⟩⟩⟩⟩⟩⟩⟩⟩⟩⟩⟩⟩) w)) w)) w) (pl_wsX2_find_wsX40 w)) w) (pl_wsX2_find_wsX00 w))⟩) (by decide +kernel)
set_option maxRecDepth 20000 in
theorem gX2_find_X2_grow : GoodIn wsX2_find (va_wsS RX2 39 yX2_grow wsX2_grow) := goodIn_app (goodIn_sub (List.forall_mem_cons.mpr ⟨(pl_wsX2_find_wsX2_find_r2 _ (List.mem_of_getElem? (i := 5) rfl)), List.forall_mem_cons.mpr ⟨(pl_wsX2_find_wsX2_find_r2 _ (List.mem_of_getElem? (i := 6) rfl)), List.forall_mem_cons.mpr ⟨(pl_wsX2_find_wsX2_find_r2 _ (List.mem_of_getElem? (i := 7) rfl)), fun _ h => absurd h List.not_mem_nil⟩⟩⟩) (by decide +kernel)) ggX2_find_X2_grow
set_option maxRecDepth 20000 in
theorem ggX2_find_X4_cellOf : GoodIn wsX2_find wsX4_cellOf := goodIn_sub (List.forall_mem_cons.mpr ⟨(pl_wsX2_find_wsX2_find_r4 _ (List.mem_of_getElem? (i := 18) rfl)), (fun _ h => absurd h List.not_mem_nil)⟩) (by decide +kernel)
set_option maxRecDepth 20000 in
theorem gX2_find_X4_cellOf : GoodIn wsX2_find (va_wsS RX2 43 yX4_cellOf wsX4_cellOf) := goodIn_app (goodIn_sub (List.forall_mem_cons.mpr ⟨(pl_wsX2_find_wsX2_find_r4 _ (List.mem_of_getElem? (i := 16) rfl)), List.forall_mem_cons.mpr ⟨(pl_wsX2_find_wsX2_find_r4 _ (List.mem_of_getElem? (i := 17) rfl)), List.forall_mem_cons.mpr ⟨(pl_wsX2_find_wsX2_find_r1 _ (List.mem_of_getElem? (i := 7) rfl)), fun _ h => absurd h List.not_mem_nil⟩⟩⟩) (by decide +kernel)) ggX2_find_X4_cellOf
theorem tdX2_find_0 : decs cX2_find [(0, .aload_n 0, 1), (1, .getfield 22, 3), (4, .iload_n 1, 1), (5, .invokevirtual 29, 3), (8, .aload_n 0, 1), (9, .getfield 22, 3), (12, .iload_n 3, 1), (13, .putfield 35, 3), (16, .aload_n 0, 1), (17, .getfield 26, 3), (20, .iload_n 1, 1), (21, .invokevirtual 29, 3), (24, .aload_n 0, 1), (25, .getfield 26, 3), (28, .iload 4, 2), (30, .putfield 35, 3), (33, .iconst 0, 1), (34, .istore 5, 2), (36, .iload 5, 2), (38, .aload_n 0, 1), (39, .getfield 15, 3), (42, .arraylength, 1), (43, .if_icmp .ge 66, 3), (46, .aload_n 0, 1), (47, .getfield 22, 3), (50, .aload_n 0, 1), (51, .getfield 9, 3), (54, .iload 5, 2), (56, .invokestatic 39, 3), (59, .aload_n 0, 1), (60, .getfield 26, 3), (63, .aload_n 0, 1), (64, .getfield 15, 3), (67, .iload 5, 2), (69, .invokestatic 39, 3), (72, .aload_n 0, 1), (73, .getfield 9, 3), (76, .iload 5, 2), (78, .iaload, 1), (79, .invokestatic 43, 3)] = true := by decide +kernel
theorem dX2_find_0 : decode cX2_find 0 = .ok (.aload_n 0, 1) := decs_at tdX2_find_0 0 rfl
theorem dX2_find_1 : decode cX2_find 1 = .ok (.getfield 22, 3) := decs_at tdX2_find_0 1 rfl
theorem dX2_find_4 : decode cX2_find 4 = .ok (.iload_n 1, 1) := decs_at tdX2_find_0 2 rfl
theorem dX2_find_5 : decode cX2_find 5 = .ok (.invokevirtual 29, 3) := decs_at tdX2_find_0 3 rfl
theorem dX2_find_8 : decode cX2_find 8 = .ok (.aload_n 0, 1) := decs_at tdX2_find_0 4 rfl
theorem dX2_find_9 : decode cX2_find 9 = .ok (.getfield 22, 3) := decs_at tdX2_find_0 5 rfl
theorem dX2_find_12 : decode cX2_find 12 = .ok (.iload_n 3, 1) := decs_at tdX2_find_0 6 rfl
theorem dX2_find_13 : decode cX2_find 13 = .ok (.putfield 35, 3) := decs_at tdX2_find_0 7 rfl
theorem dX2_find_16 : decode cX2_find 16 = .ok (.aload_n 0, 1) := decs_at tdX2_find_0 8 rfl
theorem dX2_find_17 : decode cX2_find 17 = .ok (.getfield 26, 3) := decs_at tdX2_find_0 9 rfl
theorem dX2_find_20 : decode cX2_find 20 = .ok (.iload_n 1, 1) := decs_at tdX2_find_0 10 rfl
theorem dX2_find_21 : decode cX2_find 21 = .ok (.invokevirtual 29, 3) := decs_at tdX2_find_0 11 rfl
theorem dX2_find_24 : decode cX2_find 24 = .ok (.aload_n 0, 1) := decs_at tdX2_find_0 12 rfl
theorem dX2_find_25 : decode cX2_find 25 = .ok (.getfield 26, 3) := decs_at tdX2_find_0 13 rfl
theorem dX2_find_28 : decode cX2_find 28 = .ok (.iload 4, 2) := decs_at tdX2_find_0 14 rfl
theorem dX2_find_30 : decode cX2_find 30 = .ok (.putfield 35, 3) := decs_at tdX2_find_0 15 rfl
theorem dX2_find_33 : decode cX2_find 33 = .ok (.iconst 0, 1) := decs_at tdX2_find_0 16 rfl
theorem dX2_find_34 : decode cX2_find 34 = .ok (.istore 5, 2) := decs_at tdX2_find_0 17 rfl
theorem dX2_find_36 : decode cX2_find 36 = .ok (.iload 5, 2) := decs_at tdX2_find_0 18 rfl
theorem dX2_find_38 : decode cX2_find 38 = .ok (.aload_n 0, 1) := decs_at tdX2_find_0 19 rfl
theorem dX2_find_39 : decode cX2_find 39 = .ok (.getfield 15, 3) := decs_at tdX2_find_0 20 rfl
theorem dX2_find_42 : decode cX2_find 42 = .ok (.arraylength, 1) := decs_at tdX2_find_0 21 rfl
theorem dX2_find_43 : decode cX2_find 43 = .ok (.if_icmp .ge 66, 3) := decs_at tdX2_find_0 22 rfl
theorem dX2_find_46 : decode cX2_find 46 = .ok (.aload_n 0, 1) := decs_at tdX2_find_0 23 rfl
theorem dX2_find_47 : decode cX2_find 47 = .ok (.getfield 22, 3) := decs_at tdX2_find_0 24 rfl
theorem dX2_find_50 : decode cX2_find 50 = .ok (.aload_n 0, 1) := decs_at tdX2_find_0 25 rfl
theorem dX2_find_51 : decode cX2_find 51 = .ok (.getfield 9, 3) := decs_at tdX2_find_0 26 rfl
theorem dX2_find_54 : decode cX2_find 54 = .ok (.iload 5, 2) := decs_at tdX2_find_0 27 rfl
theorem dX2_find_56 : decode cX2_find 56 = .ok (.invokestatic 39, 3) := decs_at tdX2_find_0 28 rfl
theorem dX2_find_59 : decode cX2_find 59 = .ok (.aload_n 0, 1) := decs_at tdX2_find_0 29 rfl
theorem dX2_find_60 : decode cX2_find 60 = .ok (.getfield 26, 3) := decs_at tdX2_find_0 30 rfl
theorem dX2_find_63 : decode cX2_find 63 = .ok (.aload_n 0, 1) := decs_at tdX2_find_0 31 rfl
theorem dX2_find_64 : decode cX2_find 64 = .ok (.getfield 15, 3) := decs_at tdX2_find_0 32 rfl
theorem dX2_find_67 : decode cX2_find 67 = .ok (.iload 5, 2) := decs_at tdX2_find_0 33 rfl
theorem dX2_find_69 : decode cX2_find 69 = .ok (.invokestatic 39, 3) := decs_at tdX2_find_0 34 rfl
theorem dX2_find_72 : decode cX2_find 72 = .ok (.aload_n 0, 1) := decs_at tdX2_find_0 35 rfl
theorem dX2_find_73 : decode cX2_find 73 = .ok (.getfield 9, 3) := decs_at tdX2_find_0 36 rfl
theorem dX2_find_76 : decode cX2_find 76 = .ok (.iload 5, 2) := decs_at tdX2_find_0 37 rfl
theorem dX2_find_78 : decode cX2_find 78 = .ok (.iaload, 1) := decs_at tdX2_find_0 38 rfl
theorem dX2_find_79 : decode cX2_find 79 = .ok (.invokestatic 43, 3) := decs_at tdX2_find_0 39 rfl
theorem tdX2_find_82 : decs cX2_find [(82, .iload_n 2, 1), (83, .if_icmp .ne 20, 3), (86, .aload_n 0, 1), (87, .getfield 15, 3), (90, .iload 5, 2), (92, .iaload, 1), (93, .invokestatic 43, 3), (96, .iload_n 2, 1), (97, .if_icmp .ne 6, 3), (100, .iload 5, 2), (102, .ireturn, 1), (103, .iinc 5 1, 3), (106, .goto (-70), 3), (109, .iconst (-1), 1), (110, .ireturn, 1)] = true := by decide +kernel
theorem dX2_find_82 : decode cX2_find 82 = .ok (.iload_n 2, 1) := decs_at tdX2_find_82 0 rfl
theorem dX2_find_83 : decode cX2_find 83 = .ok (.if_icmp .ne 20, 3) := decs_at tdX2_find_82 1 rfl
theorem dX2_find_86 : decode cX2_find 86 = .ok (.aload_n 0, 1) := decs_at tdX2_find_82 2 rfl
theorem dX2_find_87 : decode cX2_find 87 = .ok (.getfield 15, 3) := decs_at tdX2_find_82 3 rfl
theorem dX2_find_90 : decode cX2_find 90 = .ok (.iload 5, 2) := decs_at tdX2_find_82 4 rfl
theorem dX2_find_92 : decode cX2_find 92 = .ok (.iaload, 1) := decs_at tdX2_find_82 5 rfl
theorem dX2_find_93 : decode cX2_find 93 = .ok (.invokestatic 43, 3) := decs_at tdX2_find_82 6 rfl
theorem dX2_find_96 : decode cX2_find 96 = .ok (.iload_n 2, 1) := decs_at tdX2_find_82 7 rfl
theorem dX2_find_97 : decode cX2_find 97 = .ok (.if_icmp .ne 6, 3) := decs_at tdX2_find_82 8 rfl
theorem dX2_find_100 : decode cX2_find 100 = .ok (.iload 5, 2) := decs_at tdX2_find_82 9 rfl
theorem dX2_find_102 : decode cX2_find 102 = .ok (.ireturn, 1) := decs_at tdX2_find_82 10 rfl
theorem dX2_find_103 : decode cX2_find 103 = .ok (.iinc 5 1, 3) := decs_at tdX2_find_82 11 rfl
theorem dX2_find_106 : decode cX2_find 106 = .ok (.goto (-70), 3) := decs_at tdX2_find_82 12 rfl
theorem dX2_find_109 : decode cX2_find 109 = .ok (.iconst (-1), 1) := decs_at tdX2_find_82 13 rfl
theorem dX2_find_110 : decode cX2_find 110 = .ok (.ireturn, 1) := decs_at tdX2_find_82 14 rfl
set_option maxRecDepth 20000 in
theorem pl_wsX2_countReached_wsX2_countReached_r1 : ∀ w ∈ wsX2_countReached_r1, w ∈ wsX2_countReached := fun _ h => List.mem_cons_of_mem _ (List.mem_append_left _ (List.mem_append_left _ (List.mem_append_left _ (List.mem_append_left _ (h)))))
theorem pl_wsX2_countReached_wsX2_countReached_r2 : ∀ w ∈ wsX2_countReached_r2, w ∈ wsX2_countReached := fun _ h => List.mem_cons_of_mem _ (List.mem_append_left _ (List.mem_append_left _ (List.mem_append_left _ (List.mem_append_right _ (List.mem_append_left _ (h))))))
theorem pl_wsX2_countReached_wsX40 : ∀ w ∈ wsX40, w ∈ wsX2_countReached := fun _ h => List.mem_cons_of_mem _ (List.mem_append_left _ (List.mem_append_right _ (h)))
theorem pl_wsX2_countReached_wsX00 : ∀ w ∈ wsX00, w ∈ wsX2_countReached := fun _ h => List.mem_cons_of_mem _ (List.mem_append_right _ (h))
theorem ggX2_countReached_X4_begin : GoodIn wsX2_countReached wsX4_begin := goodIn_sub (List.forall_mem_cons.mpr ⟨(pl_wsX2_countReached_wsX2_countReached_r1 _ (List.mem_of_getElem? (i := 8) rfl)), (fun w h => (List.mem_append.mp h).elim ((fun w h => (List.mem_append.mp h).elim ((List.forall_mem_cons.mpr ⟨(pl_wsX2_countReached_wsX2_countReached_r1 _ (List.mem_of_getElem? (i := 9) rfl)), List.forall_mem_cons.mpr ⟨(pl_wsX2_countReached_wsX2_countReached_r1 _ (List.mem_of_getElem? (i := 10) rfl)), List.forall_mem_cons.mpr ⟨(pl_wsX2_countReached_wsX2_countReached_r1 _ (List.mem_of_getElem? (i := 11) rfl)), List.forall_mem_cons.mpr ⟨(pl_wsX2_countReached_wsX2_countReached_r1 _ (List.mem_of_getElem? (i := 12) rfl)), List.forall_mem_cons.mpr ⟨(pl_wsX2_countReached_wsX2_countReached_r1 _ (List.mem_of_getElem? (i := 13) rfl)), List.forall_mem_cons.mpr ⟨(pl_wsX2_countReached_wsX2_countReached_r1 _ (List.mem_of_getElem? (i := 14) rfl)), List.forall_mem_cons.mpr ⟨(pl_wsX2_countReached_wsX2_countReached_r1 _ (List.mem_of_getElem? (i := 15) rfl)), List.forall_mem_cons.mpr ⟨(pl_wsX2_countReached_wsX2_countReached_r1 _ (List.mem_of_getElem? (i := 16) rfl)), List.forall_mem_cons.mpr ⟨(pl_wsX2_countReached_wsX2_countReached_r1 _ (List.mem_of_getElem? (i := 17) rfl)), List.forall_mem_cons.mpr ⟨(pl_wsX2_countReached_wsX2_countReached_r1 _ (List.mem_of_getElem? (i := 18) rfl)), List.forall_mem_cons.mpr ⟨(pl_wsX2_countReached_wsX2_countReached_r1 _ (List.mem_of_getElem? (i := 19) rfl)), List.forall_mem_cons.mpr ⟨(pl_wsX2_countReached_wsX2_countReached_r1 _ (List.mem_of_getElem? (i := 20) rfl)), List.forall_mem_cons.mpr ⟨(pl_wsX2_countReached_wsX2_countReached_r1 _ (List.mem_of_getElem? (i := 21) rfl)), List.forall_mem_cons.mpr ⟨(pl_wsX2_countReached_wsX2_countReached_r1 _ (List.mem_of_getElem? (i := 22) rfl)), List.forall_mem_cons.mpr ⟨(pl_wsX2_countReached_wsX2_countReached_r1 _ (List.mem_of_getElem? (i := 23) rfl)), List.forall_mem_cons.mpr ⟨(pl_wsX2_countReached_wsX2_countReached_r2 _ (List.mem_of_getElem? (i := 0) rfl)), List.forall_mem_cons.mpr ⟨(pl_wsX2_countReached_wsX2_countReached_r2 _ (List.mem_of_getElem? (i := 1) rfl)), List.forall_mem_cons.mpr ⟨(pl_wsX2_countReached_wsX2_countReached_r2 _ (List.mem_of_getElem? (i := 2) rfl)), List.forall_mem_cons.mpr ⟨(pl_wsX2_countReached_wsX2_countReached_r2 _ (List.mem_of_getElem? (i := 3) rfl)), List.forall_mem_cons.mpr ⟨(pl_wsX2_countReached_wsX2_countReached_r2 _ (List.mem_of_getElem? (i := 4) rfl)), fun _ h => absurd h List.not_mem_nil⟩⟩⟩⟩⟩⟩⟩⟩⟩⟩⟩⟩⟩⟩⟩⟩⟩⟩⟩⟩) w) (pl_wsX2_countReached_wsX40 w)) w) (pl_wsX2_countReached_wsX00 w))⟩) (by decide +kernel)
set_option maxRecDepth 20000 in
theorem gX2_countReached_X4_begin : GoodIn wsX2_countReached (wsV RX2 29 RX4 yX4_begin wsX4_begin) := goodIn_app (goodIn_sub (List.forall_mem_cons.mpr ⟨(pl_wsX2_countReached_wsX2_countReached_r1 _ (List.mem_of_getElem? (i := 4) rfl)), List.forall_mem_cons.mpr ⟨(pl_wsX2_countReached_wsX2_countReached_r1 _ (List.mem_of_getElem? (i := 5) rfl)), List.forall_mem_cons.mpr ⟨(pl_wsX2_countReached_wsX2_countReached_r1 _ (List.mem_of_getElem? (i := 6) rfl)), List.forall_mem_cons.mpr ⟨(pl_wsX2_countReached_wsX2_countReached_r1 _ (List.mem_of_getElem? (i := 7) rfl)), fun _ h => absurd h List.not_mem_nil⟩⟩⟩⟩) (by decide +kernel)) ggX2_countReached_X4_begin
set_option maxRecDepth 20000 in
theorem ggX2_countReached_X5_isWithin : GoodIn wsX2_countReached wsX5_isWithin := goodIn_sub (List.forall_mem_cons.mpr ⟨(pl_wsX2_countReached_wsX2_countReached_r2 _ (List.mem_of_getElem? (i := 4) rfl)), (fun _ h => absurd h List.not_mem_nil)⟩) (by decide +kernel)
set_option maxRecDepth 20000 in
theorem gX2_countReached_X5_isWithin_n47 : GoodIn wsX2_countReached (wsX5_isWithin) := ggX2_countReached_X5_isWithin
set_option maxRecDepth 20000 in
theorem pl_wsX2_countReached_wsX2_countReached_r3 : ∀ w ∈ wsX2_countReached_r3, w ∈ wsX2_countReached := fun _ h => List.mem_cons_of_mem _ (List.mem_append_left _ (List.mem_append_left _ (List.mem_append_left _ (List.mem_append_right _ (List.mem_append_right _ (List.mem_append_left _ (h)))))))
theorem pl_wsX2_countReached_wsX2_countReached_r4 : ∀ w ∈ wsX2_countReached_r4, w ∈ wsX2_countReached := fun _ h => List.mem_cons_of_mem _ (List.mem_append_left _ (List.mem_append_left _ (List.mem_append_left _ (List.mem_append_right _ (List.mem_append_right _ (List.mem_append_right _ (h)))))))
theorem ggX2_countReached_X2_grow : GoodIn wsX2_countReached wsX2_grow := goodIn_sub (List.forall_mem_cons.mpr ⟨(pl_wsX2_countReached_wsX2_countReached_r2 _ (List.mem_of_getElem? (i := 8) rfl)), (fun w h => (List.mem_append.mp h).elim ((fun w h => (List.mem_append.mp h).elim ((fun w h => (List.mem_append.mp h).elim ((List.forall_mem_cons.mpr ⟨(pl_wsX2_countReached_wsX2_countReached_r2 _ (List.mem_of_getElem? (i := 9) rfl)), List.forall_mem_cons.mpr ⟨(pl_wsX2_countReached_wsX2_countReached_r2 _ (List.mem_of_getElem? (i := 10) rfl)), List.forall_mem_cons.mpr ⟨(pl_wsX2_countReached_wsX2_countReached_r2 _ (List.mem_of_getElem? (i := 11) rfl)), List.forall_mem_cons.mpr ⟨(pl_wsX2_countReached_wsX2_countReached_r1 _ (List.mem_of_getElem? (i := 7) rfl)), List.forall_mem_cons.mpr ⟨(pl_wsX2_countReached_wsX2_countReached_r2 _ (List.mem_of_getElem? (i := 12) rfl)), List.forall_mem_cons.mpr ⟨(pl_wsX2_countReached_wsX2_countReached_r1 _ (List.mem_of_getElem? (i := 17) rfl)), List.forall_mem_cons.mpr ⟨(pl_wsX2_countReached_wsX2_countReached_r1 _ (List.mem_of_getElem? (i := 19) rfl)), List.forall_mem_cons.mpr ⟨(pl_wsX2_countReached_wsX2_countReached_r1 _ (List.mem_of_getElem? (i := 18) rfl)), List.forall_mem_cons.mpr ⟨(pl_wsX2_countReached_wsX2_countReached_r1 _ (List.mem_of_getElem? (i := 13) rfl)), List.forall_mem_cons.mpr ⟨(pl_wsX2_countReached_wsX2_countReached_r1 _ (List.mem_of_getElem? (i := 14) rfl)), List.forall_mem_cons.mpr ⟨(pl_wsX2_countReached_wsX2_countReached_r2 _ (List.mem_of_getElem? (i := 13) rfl)), List.forall_mem_cons.mpr ⟨(pl_wsX2_countReached_wsX2_countReached_r2 _ (List.mem_of_getElem? (i := 14) rfl)), List.forall_mem_cons.mpr ⟨(pl_wsX2_countReached_wsX2_countReached_r2 _ (List.mem_of_getElem? (i := 15) rfl)), List.forall_mem_cons.mpr ⟨(pl_wsX2_countReached_wsX2_countReached_r2 _ (List.mem_of_getElem? (i := 16) rfl)), List.forall_mem_cons.mpr ⟨(pl_wsX2_countReached_wsX2_countReached_r1 _ (List.mem_of_getElem? (i := 16) rfl)), List.forall_mem_cons.mpr ⟨(pl_wsX2_countReached_wsX2_countReached_r2 _ (List.mem_of_getElem? (i := 17) rfl)), List.forall_mem_cons.mpr ⟨(pl_wsX2_countReached_wsX2_countReached_r2 _ (List.mem_of_getElem? (i := 3) rfl)), List.forall_mem_cons.mpr ⟨(pl_wsX2_countReached_wsX2_countReached_r2 _ (List.mem_of_getElem? (i := 18) rfl)), List.forall_mem_cons.mpr ⟨(pl_wsX2_countReached_wsX2_countReached_r2 _ (List.mem_of_getElem? (i := 19) rfl)), List.forall_mem_cons.mpr ⟨(pl_wsX2_countReached_wsX2_countReached_r2 _ (List.mem_of_getElem? (i := 20) rfl)), List.forall_mem_cons.mpr ⟨(pl_wsX2_countReached_wsX2_countReached_r2 _ (List.mem_of_getElem? (i := 21) rfl)), List.forall_mem_cons.mpr ⟨(pl_wsX2_countReached_wsX2_countReached_r2 _ (List.mem_of_getElem? (i := 22) rfl)), List.forall_mem_cons.mpr ⟨(pl_wsX2_countReached_wsX2_countReached_r2 _ (List.mem_of_getElem? (i := 23) rfl)), List.forall_mem_cons.mpr ⟨(pl_wsX2_countReached_wsX2_countReached_r3 _ (List.mem_of_getElem? (i := 0) rfl)), fun _ h => absurd h List.not_mem_nil⟩⟩⟩⟩⟩⟩⟩⟩⟩⟩⟩⟩⟩⟩⟩⟩⟩⟩⟩⟩⟩⟩⟩⟩) w) ((fun w h => (List.mem_append.mp h).elim ((List.forall_mem_cons.mpr ⟨(pl_wsX2_countReached_wsX2_countReached_r3 _ (List.mem_of_getElem? (i := 1) rfl)), List.forall_mem_cons.mpr ⟨(pl_wsX2_countReached_wsX2_countReached_r3 _ (List.mem_of_getElem? (i := 2) rfl)), List.forall_mem_cons.mpr ⟨(pl_wsX2_countReached_wsX2_countReached_r1 _ (List.mem_of_getElem? (i := 15) rfl)), List.forall_mem_cons.mpr ⟨(pl_wsX2_countReached_wsX2_countReached_r3 _ (List.mem_of_getElem? (i := 3) rfl)), List.forall_mem_cons.mpr ⟨(pl_wsX2_countReached_wsX2_countReached_r3 _ (List.mem_of_getElem? (i := 4) rfl)), List.forall_mem_cons.mpr ⟨(pl_wsX2_countReached_wsX2_countReached_r3 _ (List.mem_of_getElem? (i := 5) rfl)), List.forall_mem_cons.mpr ⟨(pl_wsX2_countReached_wsX2_countReached_r3 _ (List.mem_of_getElem? (i := 6) rfl)), List.forall_mem_cons.mpr ⟨(pl_wsX2_countReached_wsX2_countReached_r1 _ (List.mem_of_getElem? (i := 9) rfl)), List.forall_mem_cons.mpr ⟨(pl_wsX2_countReached_wsX2_countReached_r3 _ (List.mem_of_getElem? (i := 7) rfl)), List.forall_mem_cons.mpr ⟨(pl_wsX2_countReached_wsX2_countReached_r3 _ (List.mem_of_getElem? (i := 8) rfl)), List.forall_mem_cons.mpr ⟨(pl_wsX2_countReached_wsX2_countReached_r3 _ (List.mem_of_getElem? (i := 9) rfl)), List.forall_mem_cons.mpr ⟨(pl_wsX2_countReached_wsX2_countReached_r1 _ (List.mem_of_getElem? (i := 23) rfl)), List.forall_mem_cons.mpr ⟨(pl_wsX2_countReached_wsX2_countReached_r3 _ (List.mem_of_getElem? (i := 10) rfl)), List.forall_mem_cons.mpr ⟨(pl_wsX2_countReached_wsX2_countReached_r3 _ (List.mem_of_getElem? (i := 11) rfl)), List.forall_mem_cons.mpr ⟨(pl_wsX2_countReached_wsX2_countReached_r3 _ (List.mem_of_getElem? (i := 12) rfl)), List.forall_mem_cons.mpr ⟨(pl_wsX2_countReached_wsX2_countReached_r3 _ (List.mem_of_getElem? (i := 13) rfl)), List.forall_mem_cons.mpr ⟨(pl_wsX2_countReached_wsX2_countReached_r3 _ (List.mem_of_getElem? (i := 14) rfl)), List.forall_mem_cons.mpr ⟨(pl_wsX2_countReached_wsX2_countReached_r3 _ (List.mem_of_getElem? (i := 15) rfl)), List.forall_mem_cons.mpr ⟨(pl_wsX2_countReached_wsX2_countReached_r3 _ (List.mem_of_getElem? (i := 16) rfl)), List.forall_mem_cons.mpr ⟨(pl_wsX2_countReached_wsX2_countReached_r3 _ (List.mem_of_getElem? (i := 17) rfl)), List.forall_mem_cons.mpr ⟨(pl_wsX2_countReached_wsX2_countReached_r3 _ (List.mem_of_getElem? (i := 18) rfl)), List.forall_mem_cons.mpr ⟨(pl_wsX2_countReached_wsX2_countReached_r3 _ (List.mem_of_getElem? (i := 19) rfl)), List.forall_mem_cons.mpr ⟨(pl_wsX2_countReached_wsX2_countReached_r3 _ (List.mem_of_getElem? (i := 20) rfl)), List.forall_mem_cons.mpr ⟨(pl_wsX2_countReached_wsX2_countReached_r3 _ (List.mem_of_getElem? (i := 21) rfl)), fun _ h => absurd h List.not_mem_nil⟩⟩⟩⟩⟩⟩⟩⟩⟩⟩⟩⟩⟩⟩⟩⟩⟩⟩⟩⟩⟩⟩⟩⟩) w) ((List.forall_mem_cons.mpr ⟨(pl_wsX2_countReached_wsX2_countReached_r3 _ (List.mem_of_getElem? (i := 22) rfl)), List.forall_mem_cons.mpr ⟨(pl_wsX2_countReached_wsX2_countReached_r3 _ (List.mem_of_getElem? (i := 23) rfl)), List.forall_mem_cons.mpr ⟨(pl_wsX2_countReached_wsX2_countReached_r4 _ (List.mem_of_getElem? (i := 0) rfl)), List.forall_mem_cons.mpr ⟨(pl_wsX2_countReached_wsX2_countReached_r4 _ (List.mem_of_getElem? (i := 1) rfl)), List.forall_mem_cons.mpr ⟨(pl_wsX2_countReached_wsX2_countReached_r4 _ (List.mem_of_getElem? (i := 2) rfl)), List.forall_mem_cons.mpr ⟨(pl_wsX2_countReached_wsX2_countReached_r1 _ (List.mem_of_getElem? (i := 10) rfl)), List.forall_mem_cons.mpr ⟨(pl_wsX2_countReached_wsX2_countReached_r1 _ (List.mem_of_getElem? (i := 12) rfl)), List.forall_mem_cons.mpr ⟨(pl_wsX2_countReached_wsX2_countReached_r1 _ (List.mem_of_getElem? (i := 11) rfl)), List.forall_mem_cons.mpr ⟨(pl_wsX2_countReached_wsX2_countReached_r4 _ (List.mem_of_getElem? (i := 3) rfl)), List.forall_mem_cons.mpr ⟨(pl_wsX2_countReached_wsX2_countReached_r4 _ (List.mem_of_getElem? (i := 4) rfl)), List.forall_mem_cons.mpr ⟨(pl_wsX2_countReached_wsX2_countReached_r4 _ (List.mem_of_getElem? (i := 5) rfl)), List.forall_mem_cons.mpr ⟨(pl_wsX2_countReached_wsX2_countReached_r4 _ (List.mem_of_getElem? (i := 6) rfl)), List.forall_mem_cons.mpr ⟨(pl_wsX2_countReached_wsX2_countReached_r4 _ (List.mem_of_getElem? (i := 7) rfl)), List.forall_mem_cons.mpr ⟨(pl_wsX2_countReached_wsX2_countReached_r4 _ (List.mem_of_getElem? (i := 8) rfl)), List.forall_mem_cons.mpr ⟨(pl_wsX2_countReached_wsX2_countReached_r4 _ (List.mem_of_getElem? (i := 9) rfl)), List.forall_mem_cons.mpr ⟨(pl_wsX2_countReached_wsX2_countReached_r4 _ (List.mem_of_getElem? (i := 10) rfl)), List.forall_mem_cons.mpr ⟨(pl_wsX2_countReached_wsX2_countReached_r4 _ (List.mem_of_getElem? (i := 11) rfl)), List.forall_mem_cons.mpr ⟨(pl_wsX2_countReached_wsX2_countReached_r4 _ (List.mem_of_getElem? (i := 12) rfl)), List.forall_mem_cons.mpr ⟨(pl_wsX2_countReached_wsX2_countReached_r4 _ (List.mem_of_getElem? (i := 13) rfl)), List.forall_mem_cons.mpr ⟨(pl_wsX2_countReached_wsX2_countReached_r4 _ (List.mem_of_getElem? (i := 14) rfl)), List.forall_mem_cons.mpr ⟨(pl_wsX2_countReached_wsX2_countReached_r4 _ (List.mem_of_getElem? (i := 15) rfl)), fun _ h => absurd h List.not_mem_nil⟩⟩⟩⟩⟩⟩⟩⟩⟩⟩⟩⟩⟩⟩⟩⟩⟩⟩⟩⟩⟩) w)) w)) w) (pl_wsX2_countReached_wsX40 w)) w) (pl_wsX2_countReached_wsX00 w))⟩) (by decide +kernel)
set_option maxRecDepth 20000 in
theorem gX2_countReached_X2_grow : GoodIn wsX2_countReached (va_wsS RX2 39 yX2_grow wsX2_grow) := goodIn_app (goodIn_sub (List.forall_mem_cons.mpr ⟨(pl_wsX2_countReached_wsX2_countReached_r2 _ (List.mem_of_getElem? (i := 5) rfl)), List.forall_mem_cons.mpr ⟨(pl_wsX2_countReached_wsX2_countReached_r2 _ (List.mem_of_getElem? (i := 6) rfl)), List.forall_mem_cons.mpr ⟨(pl_wsX2_countReached_wsX2_countReached_r2 _ (List.mem_of_getElem? (i := 7) rfl)), fun _ h => absurd h List.not_mem_nil⟩⟩⟩) (by decide +kernel)) ggX2_countReached_X2_grow
set_option maxRecDepth 20000 in
theorem ggX2_countReached_X4_cellOf : GoodIn wsX2_countReached wsX4_cellOf := goodIn_sub (List.forall_mem_cons.mpr ⟨(pl_wsX2_countReached_wsX2_countReached_r4 _ (List.mem_of_getElem? (i := 18) rfl)), (fun _ h => absurd h List.not_mem_nil)⟩) (by decide +kernel)
set_option maxRecDepth 20000 in
theorem gX2_countReached_X4_cellOf : GoodIn wsX2_countReached (va_wsS RX2 43 yX4_cellOf wsX4_cellOf) := goodIn_app (goodIn_sub (List.forall_mem_cons.mpr ⟨(pl_wsX2_countReached_wsX2_countReached_r4 _ (List.mem_of_getElem? (i := 16) rfl)), List.forall_mem_cons.mpr ⟨(pl_wsX2_countReached_wsX2_countReached_r4 _ (List.mem_of_getElem? (i := 17) rfl)), List.forall_mem_cons.mpr ⟨(pl_wsX2_countReached_wsX2_countReached_r1 _ (List.mem_of_getElem? (i := 7) rfl)), fun _ h => absurd h List.not_mem_nil⟩⟩⟩) (by decide +kernel)) ggX2_countReached_X4_cellOf
theorem tdX2_countReached_0 : decs cX2_countReached [(0, .iconst 0, 1), (1, .istore_n 3, 1), (2, .iload_n 3, 1), (3, .bipush 70, 2), (5, .if_icmp .ge 16, 3), (8, .aload_n 0, 1), (9, .getfield 18, 3), (12, .iload_n 3, 1), (13, .iconst 0, 1), (14, .bastore, 1), (15, .iinc 3 1, 3), (18, .goto (-16), 3), (21, .aload_n 0, 1), (22, .getfield 22, 3), (25, .iload_n 1, 1), (26, .invokevirtual 29, 3), (29, .iload_n 2, 1), (30, .iconst 0, 1), (31, .bipush 6, 2), (33, .invokestatic 47, 3), (36, .ifCond .eq 11, 3), (39, .getstatic 51, 3), (42, .iload_n 2, 1), (43, .iaload, 1), (44, .goto 4, 3), (47, .iconst 0, 1), (48, .istore_n 3, 1), (49, .iconst 0, 1), (50, .istore 4, 2), (52, .iconst 0, 1), (53, .istore 5, 2), (55, .iload 5, 2), (57, .iload_n 3, 1), (58, .if_icmp .ge 66, 3), (61, .aload_n 0, 1), (62, .getfield 22, 3), (65, .aload_n 0, 1), (66, .getfield 9, 3), (69, .iload 5, 2), (71, .invokestatic 39, 3)] = true := by decide +kernel
theorem dX2_countReached_0 : decode cX2_countReached 0 = .ok (.iconst 0, 1) := decs_at tdX2_countReached_0 0 rfl
theorem dX2_countReached_1 : decode cX2_countReached 1 = .ok (.istore_n 3, 1) := decs_at tdX2_countReached_0 1 rfl
theorem dX2_countReached_2 : decode cX2_countReached 2 = .ok (.iload_n 3, 1) := decs_at tdX2_countReached_0 2 rfl
theorem dX2_countReached_3 : decode cX2_countReached 3 = .ok (.bipush 70, 2) := decs_at tdX2_countReached_0 3 rfl
theorem dX2_countReached_5 : decode cX2_countReached 5 = .ok (.if_icmp .ge 16, 3) := decs_at tdX2_countReached_0 4 rfl
theorem dX2_countReached_8 : decode cX2_countReached 8 = .ok (.aload_n 0, 1) := decs_at tdX2_countReached_0 5 rfl
theorem dX2_countReached_9 : decode cX2_countReached 9 = .ok (.getfield 18, 3) := decs_at tdX2_countReached_0 6 rfl
theorem dX2_countReached_12 : decode cX2_countReached 12 = .ok (.iload_n 3, 1) := decs_at tdX2_countReached_0 7 rfl
theorem dX2_countReached_13 : decode cX2_countReached 13 = .ok (.iconst 0, 1) := decs_at tdX2_countReached_0 8 rfl
theorem dX2_countReached_14 : decode cX2_countReached 14 = .ok (.bastore, 1) := decs_at tdX2_countReached_0 9 rfl
theorem dX2_countReached_15 : decode cX2_countReached 15 = .ok (.iinc 3 1, 3) := decs_at tdX2_countReached_0 10 rfl
theorem dX2_countReached_18 : decode cX2_countReached 18 = .ok (.goto (-16), 3) := decs_at tdX2_countReached_0 11 rfl
theorem dX2_countReached_21 : decode cX2_countReached 21 = .ok (.aload_n 0, 1) := decs_at tdX2_countReached_0 12 rfl
theorem dX2_countReached_22 : decode cX2_countReached 22 = .ok (.getfield 22, 3) := decs_at tdX2_countReached_0 13 rfl
theorem dX2_countReached_25 : decode cX2_countReached 25 = .ok (.iload_n 1, 1) := decs_at tdX2_countReached_0 14 rfl
theorem dX2_countReached_26 : decode cX2_countReached 26 = .ok (.invokevirtual 29, 3) := decs_at tdX2_countReached_0 15 rfl
theorem dX2_countReached_29 : decode cX2_countReached 29 = .ok (.iload_n 2, 1) := decs_at tdX2_countReached_0 16 rfl
theorem dX2_countReached_30 : decode cX2_countReached 30 = .ok (.iconst 0, 1) := decs_at tdX2_countReached_0 17 rfl
theorem dX2_countReached_31 : decode cX2_countReached 31 = .ok (.bipush 6, 2) := decs_at tdX2_countReached_0 18 rfl
theorem dX2_countReached_33 : decode cX2_countReached 33 = .ok (.invokestatic 47, 3) := decs_at tdX2_countReached_0 19 rfl
theorem dX2_countReached_36 : decode cX2_countReached 36 = .ok (.ifCond .eq 11, 3) := decs_at tdX2_countReached_0 20 rfl
theorem dX2_countReached_39 : decode cX2_countReached 39 = .ok (.getstatic 51, 3) := decs_at tdX2_countReached_0 21 rfl
theorem dX2_countReached_42 : decode cX2_countReached 42 = .ok (.iload_n 2, 1) := decs_at tdX2_countReached_0 22 rfl
theorem dX2_countReached_43 : decode cX2_countReached 43 = .ok (.iaload, 1) := decs_at tdX2_countReached_0 23 rfl
theorem dX2_countReached_44 : decode cX2_countReached 44 = .ok (.goto 4, 3) := decs_at tdX2_countReached_0 24 rfl
theorem dX2_countReached_47 : decode cX2_countReached 47 = .ok (.iconst 0, 1) := decs_at tdX2_countReached_0 25 rfl
theorem dX2_countReached_48 : decode cX2_countReached 48 = .ok (.istore_n 3, 1) := decs_at tdX2_countReached_0 26 rfl
theorem dX2_countReached_49 : decode cX2_countReached 49 = .ok (.iconst 0, 1) := decs_at tdX2_countReached_0 27 rfl
theorem dX2_countReached_50 : decode cX2_countReached 50 = .ok (.istore 4, 2) := decs_at tdX2_countReached_0 28 rfl
theorem dX2_countReached_52 : decode cX2_countReached 52 = .ok (.iconst 0, 1) := decs_at tdX2_countReached_0 29 rfl
theorem dX2_countReached_53 : decode cX2_countReached 53 = .ok (.istore 5, 2) := decs_at tdX2_countReached_0 30 rfl
theorem dX2_countReached_55 : decode cX2_countReached 55 = .ok (.iload 5, 2) := decs_at tdX2_countReached_0 31 rfl
theorem dX2_countReached_57 : decode cX2_countReached 57 = .ok (.iload_n 3, 1) := decs_at tdX2_countReached_0 32 rfl
theorem dX2_countReached_58 : decode cX2_countReached 58 = .ok (.if_icmp .ge 66, 3) := decs_at tdX2_countReached_0 33 rfl
theorem dX2_countReached_61 : decode cX2_countReached 61 = .ok (.aload_n 0, 1) := decs_at tdX2_countReached_0 34 rfl
theorem dX2_countReached_62 : decode cX2_countReached 62 = .ok (.getfield 22, 3) := decs_at tdX2_countReached_0 35 rfl
theorem dX2_countReached_65 : decode cX2_countReached 65 = .ok (.aload_n 0, 1) := decs_at tdX2_countReached_0 36 rfl
theorem dX2_countReached_66 : decode cX2_countReached 66 = .ok (.getfield 9, 3) := decs_at tdX2_countReached_0 37 rfl
theorem dX2_countReached_69 : decode cX2_countReached 69 = .ok (.iload 5, 2) := decs_at tdX2_countReached_0 38 rfl
theorem dX2_countReached_71 : decode cX2_countReached 71 = .ok (.invokestatic 39, 3) := decs_at tdX2_countReached_0 39 rfl
theorem tdX2_countReached_74 : decs cX2_countReached [(74, .aload_n 0, 1), (75, .getfield 9, 3), (78, .iload 5, 2), (80, .iaload, 1), (81, .invokestatic 43, 3), (84, .istore 6, 2), (86, .iload 6, 2), (88, .iconst 0, 1), (89, .bipush 69, 2), (91, .invokestatic 47, 3), (94, .ifCond .eq 24, 3), (97, .aload_n 0, 1), (98, .getfield 18, 3), (101, .iload 6, 2), (103, .baload, 1), (104, .ifCond .ne 14, 3), (107, .aload_n 0, 1), (108, .getfield 18, 3), (111, .iload 6, 2), (113, .iconst 1, 1), (114, .bastore, 1), (115, .iinc 4 1, 3), (118, .iinc 5 1, 3), (121, .goto (-66), 3), (124, .iload 4, 2), (126, .ireturn, 1)] = true := by decide +kernel
theorem dX2_countReached_74 : decode cX2_countReached 74 = .ok (.aload_n 0, 1) := decs_at tdX2_countReached_74 0 rfl
theorem dX2_countReached_75 : decode cX2_countReached 75 = .ok (.getfield 9, 3) := decs_at tdX2_countReached_74 1 rfl
theorem dX2_countReached_78 : decode cX2_countReached 78 = .ok (.iload 5, 2) := decs_at tdX2_countReached_74 2 rfl
theorem dX2_countReached_80 : decode cX2_countReached 80 = .ok (.iaload, 1) := decs_at tdX2_countReached_74 3 rfl
theorem dX2_countReached_81 : decode cX2_countReached 81 = .ok (.invokestatic 43, 3) := decs_at tdX2_countReached_74 4 rfl
theorem dX2_countReached_84 : decode cX2_countReached 84 = .ok (.istore 6, 2) := decs_at tdX2_countReached_74 5 rfl
theorem dX2_countReached_86 : decode cX2_countReached 86 = .ok (.iload 6, 2) := decs_at tdX2_countReached_74 6 rfl
theorem dX2_countReached_88 : decode cX2_countReached 88 = .ok (.iconst 0, 1) := decs_at tdX2_countReached_74 7 rfl
theorem dX2_countReached_89 : decode cX2_countReached 89 = .ok (.bipush 69, 2) := decs_at tdX2_countReached_74 8 rfl
theorem dX2_countReached_91 : decode cX2_countReached 91 = .ok (.invokestatic 47, 3) := decs_at tdX2_countReached_74 9 rfl
theorem dX2_countReached_94 : decode cX2_countReached 94 = .ok (.ifCond .eq 24, 3) := decs_at tdX2_countReached_74 10 rfl
theorem dX2_countReached_97 : decode cX2_countReached 97 = .ok (.aload_n 0, 1) := decs_at tdX2_countReached_74 11 rfl
theorem dX2_countReached_98 : decode cX2_countReached 98 = .ok (.getfield 18, 3) := decs_at tdX2_countReached_74 12 rfl
theorem dX2_countReached_101 : decode cX2_countReached 101 = .ok (.iload 6, 2) := decs_at tdX2_countReached_74 13 rfl
theorem dX2_countReached_103 : decode cX2_countReached 103 = .ok (.baload, 1) := decs_at tdX2_countReached_74 14 rfl
theorem dX2_countReached_104 : decode cX2_countReached 104 = .ok (.ifCond .ne 14, 3) := decs_at tdX2_countReached_74 15 rfl
theorem dX2_countReached_107 : decode cX2_countReached 107 = .ok (.aload_n 0, 1) := decs_at tdX2_countReached_74 16 rfl
theorem dX2_countReached_108 : decode cX2_countReached 108 = .ok (.getfield 18, 3) := decs_at tdX2_countReached_74 17 rfl
theorem dX2_countReached_111 : decode cX2_countReached 111 = .ok (.iload 6, 2) := decs_at tdX2_countReached_74 18 rfl
theorem dX2_countReached_113 : decode cX2_countReached 113 = .ok (.iconst 1, 1) := decs_at tdX2_countReached_74 19 rfl
theorem dX2_countReached_114 : decode cX2_countReached 114 = .ok (.bastore, 1) := decs_at tdX2_countReached_74 20 rfl
theorem dX2_countReached_115 : decode cX2_countReached 115 = .ok (.iinc 4 1, 3) := decs_at tdX2_countReached_74 21 rfl
theorem dX2_countReached_118 : decode cX2_countReached 118 = .ok (.iinc 5 1, 3) := decs_at tdX2_countReached_74 22 rfl
theorem dX2_countReached_121 : decode cX2_countReached 121 = .ok (.goto (-66), 3) := decs_at tdX2_countReached_74 23 rfl
theorem dX2_countReached_124 : decode cX2_countReached 124 = .ok (.iload 4, 2) := decs_at tdX2_countReached_74 24 rfl
theorem dX2_countReached_126 : decode cX2_countReached 126 = .ok (.ireturn, 1) := decs_at tdX2_countReached_74 25 rfl
set_option maxRecDepth 20000 in
theorem pl_wsX2_grow_wsX2_grow_r1 : ∀ w ∈ wsX2_grow_r1, w ∈ wsX2_grow := fun _ h => List.mem_cons_of_mem _ (List.mem_append_left _ (List.mem_append_left _ (List.mem_append_left _ (h))))
theorem pl_wsX2_grow_wsX40 : ∀ w ∈ wsX40, w ∈ wsX2_grow := fun _ h => List.mem_cons_of_mem _ (List.mem_append_left _ (List.mem_append_right _ (h)))
theorem ggX2_grow_X4_state : GoodIn wsX2_grow wsX4_state := goodIn_sub (List.forall_mem_cons.mpr ⟨(pl_wsX2_grow_wsX2_grow_r1 _ (List.mem_of_getElem? (i := 4) rfl)), (fun w h => (List.mem_append.mp h).elim ((List.forall_mem_cons.mpr ⟨(pl_wsX2_grow_wsX2_grow_r1 _ (List.mem_of_getElem? (i := 5) rfl)), List.forall_mem_cons.mpr ⟨(pl_wsX2_grow_wsX2_grow_r1 _ (List.mem_of_getElem? (i := 6) rfl)), List.forall_mem_cons.mpr ⟨(pl_wsX2_grow_wsX2_grow_r1 _ (List.mem_of_getElem? (i := 7) rfl)), List.forall_mem_cons.mpr ⟨(pl_wsX2_grow_wsX2_grow_r1 _ (List.mem_of_getElem? (i := 8) rfl)), List.forall_mem_cons.mpr ⟨(pl_wsX2_grow_wsX2_grow_r1 _ (List.mem_of_getElem? (i := 9) rfl)), List.forall_mem_cons.mpr ⟨(pl_wsX2_grow_wsX2_grow_r1 _ (List.mem_of_getElem? (i := 10) rfl)), List.forall_mem_cons.mpr ⟨(pl_wsX2_grow_wsX2_grow_r1 _ (List.mem_of_getElem? (i := 11) rfl)), List.forall_mem_cons.mpr ⟨(pl_wsX2_grow_wsX2_grow_r1 _ (List.mem_of_getElem? (i := 12) rfl)), List.forall_mem_cons.mpr ⟨(pl_wsX2_grow_wsX2_grow_r1 _ (List.mem_of_getElem? (i := 3) rfl)), List.forall_mem_cons.mpr ⟨(pl_wsX2_grow_wsX2_grow_r1 _ (List.mem_of_getElem? (i := 13) rfl)), List.forall_mem_cons.mpr ⟨(pl_wsX2_grow_wsX2_grow_r1 _ (List.mem_of_getElem? (i := 14) rfl)), List.forall_mem_cons.mpr ⟨(pl_wsX2_grow_wsX2_grow_r1 _ (List.mem_of_getElem? (i := 15) rfl)), List.forall_mem_cons.mpr ⟨(pl_wsX2_grow_wsX2_grow_r1 _ (List.mem_of_getElem? (i := 16) rfl)), List.forall_mem_cons.mpr ⟨(pl_wsX2_grow_wsX2_grow_r1 _ (List.mem_of_getElem? (i := 17) rfl)), fun _ h => absurd h List.not_mem_nil⟩⟩⟩⟩⟩⟩⟩⟩⟩⟩⟩⟩⟩⟩) w) (pl_wsX2_grow_wsX40 w))⟩) (by decide +kernel)
set_option maxRecDepth 20000 in
theorem gX2_grow_X4_state : GoodIn wsX2_grow (wsV RX2 54 RX4 yX4_state wsX4_state) := goodIn_app (goodIn_sub (List.forall_mem_cons.mpr ⟨(pl_wsX2_grow_wsX2_grow_r1 _ (List.mem_of_getElem? (i := 0) rfl)), List.forall_mem_cons.mpr ⟨(pl_wsX2_grow_wsX2_grow_r1 _ (List.mem_of_getElem? (i := 1) rfl)), List.forall_mem_cons.mpr ⟨(pl_wsX2_grow_wsX2_grow_r1 _ (List.mem_of_getElem? (i := 2) rfl)), List.forall_mem_cons.mpr ⟨(pl_wsX2_grow_wsX2_grow_r1 _ (List.mem_of_getElem? (i := 3) rfl)), fun _ h => absurd h List.not_mem_nil⟩⟩⟩⟩) (by decide +kernel)) ggX2_grow_X4_state
set_option maxRecDepth 20000 in
theorem ggX2_grow_X4_resume : GoodIn wsX2_grow wsX4_resume := goodIn_sub (List.forall_mem_cons.mpr ⟨(pl_wsX2_grow_wsX2_grow_r1 _ (List.mem_of_getElem? (i := 21) rfl)), (fun w h => (List.mem_append.mp h).elim ((List.forall_mem_cons.mpr ⟨(pl_wsX2_grow_wsX2_grow_r1 _ (List.mem_of_getElem? (i := 8) rfl)), List.forall_mem_cons.mpr ⟨(pl_wsX2_grow_wsX2_grow_r1 _ (List.mem_of_getElem? (i := 9) rfl)), List.forall_mem_cons.mpr ⟨(pl_wsX2_grow_wsX2_grow_r1 _ (List.mem_of_getElem? (i := 5) rfl)), List.forall_mem_cons.mpr ⟨(pl_wsX2_grow_wsX2_grow_r1 _ (List.mem_of_getElem? (i := 6) rfl)), List.forall_mem_cons.mpr ⟨(pl_wsX2_grow_wsX2_grow_r1 _ (List.mem_of_getElem? (i := 7) rfl)), List.forall_mem_cons.mpr ⟨(pl_wsX2_grow_wsX2_grow_r1 _ (List.mem_of_getElem? (i := 14) rfl)), fun _ h => absurd h List.not_mem_nil⟩⟩⟩⟩⟩⟩) w) (pl_wsX2_grow_wsX40 w))⟩) (by decide +kernel)
set_option maxRecDepth 20000 in
theorem gX2_grow_X4_resume : GoodIn wsX2_grow (wsV RX2 58 RX4 yX4_resume wsX4_resume) := goodIn_app (goodIn_sub (List.forall_mem_cons.mpr ⟨(pl_wsX2_grow_wsX2_grow_r1 _ (List.mem_of_getElem? (i := 18) rfl)), List.forall_mem_cons.mpr ⟨(pl_wsX2_grow_wsX2_grow_r1 _ (List.mem_of_getElem? (i := 19) rfl)), List.forall_mem_cons.mpr ⟨(pl_wsX2_grow_wsX2_grow_r1 _ (List.mem_of_getElem? (i := 20) rfl)), List.forall_mem_cons.mpr ⟨(pl_wsX2_grow_wsX2_grow_r1 _ (List.mem_of_getElem? (i := 3) rfl)), fun _ h => absurd h List.not_mem_nil⟩⟩⟩⟩) (by decide +kernel)) ggX2_grow_X4_resume
set_option maxRecDepth 20000 in
theorem pl_wsX2_grow_wsX2_grow_r2 : ∀ w ∈ wsX2_grow_r2, w ∈ wsX2_grow := fun _ h => List.mem_cons_of_mem _ (List.mem_append_left _ (List.mem_append_left _ (List.mem_append_right _ (List.mem_append_left _ (h)))))
theorem pl_wsX2_grow_wsX2_grow_r3 : ∀ w ∈ wsX2_grow_r3, w ∈ wsX2_grow := fun _ h => List.mem_cons_of_mem _ (List.mem_append_left _ (List.mem_append_left _ (List.mem_append_right _ (List.mem_append_right _ (h)))))
theorem pl_wsX2_grow_wsX00 : ∀ w ∈ wsX00, w ∈ wsX2_grow := fun _ h => List.mem_cons_of_mem _ (List.mem_append_right _ (h))
theorem ggX2_grow_X4_step : GoodIn wsX2_grow wsX4_step := goodIn_sub (List.forall_mem_cons.mpr ⟨(pl_wsX2_grow_wsX2_grow_r2 _ (List.mem_of_getElem? (i := 1) rfl)), (fun w h => (List.mem_append.mp h).elim ((fun w h => (List.mem_append.mp h).elim ((fun w h => (List.mem_append.mp h).elim ((List.forall_mem_cons.mpr ⟨(pl_wsX2_grow_wsX2_grow_r2 _ (List.mem_of_getElem? (i := 2) rfl)), List.forall_mem_cons.mpr ⟨(pl_wsX2_grow_wsX2_grow_r1 _ (List.mem_of_getElem? (i := 10) rfl)), List.forall_mem_cons.mpr ⟨(pl_wsX2_grow_wsX2_grow_r1 _ (List.mem_of_getElem? (i := 11) rfl)), List.forall_mem_cons.mpr ⟨(pl_wsX2_grow_wsX2_grow_r1 _ (List.mem_of_getElem? (i := 12) rfl)), List.forall_mem_cons.mpr ⟨(pl_wsX2_grow_wsX2_grow_r1 _ (List.mem_of_getElem? (i := 3) rfl)), List.forall_mem_cons.mpr ⟨(pl_wsX2_grow_wsX2_grow_r1 _ (List.mem_of_getElem? (i := 13) rfl)), List.forall_mem_cons.mpr ⟨(pl_wsX2_grow_wsX2_grow_r1 _ (List.mem_of_getElem? (i := 14) rfl)), List.forall_mem_cons.mpr ⟨(pl_wsX2_grow_wsX2_grow_r2 _ (List.mem_of_getElem? (i := 3) rfl)), List.forall_mem_cons.mpr ⟨(pl_wsX2_grow_wsX2_grow_r2 _ (List.mem_of_getElem? (i := 4) rfl)), List.forall_mem_cons.mpr ⟨(pl_wsX2_grow_wsX2_grow_r2 _ (List.mem_of_getElem? (i := 5) rfl)), List.forall_mem_cons.mpr ⟨(pl_wsX2_grow_wsX2_grow_r2 _ (List.mem_of_getElem? (i := 6) rfl)), List.forall_mem_cons.mpr ⟨(pl_wsX2_grow_wsX2_grow_r2 _ (List.mem_of_getElem? (i := 7) rfl)), List.forall_mem_cons.mpr ⟨(pl_wsX2_grow_wsX2_grow_r1 _ (List.mem_of_getElem? (i := 8) rfl)), List.forall_mem_cons.mpr ⟨(pl_wsX2_grow_wsX2_grow_r1 _ (List.mem_of_getElem? (i := 9) rfl)), List.forall_mem_cons.mpr ⟨(pl_wsX2_grow_wsX2_grow_r2 _ (List.mem_of_getElem? (i := 8) rfl)), List.forall_mem_cons.mpr ⟨(pl_wsX2_grow_wsX2_grow_r2 _ (List.mem_of_getElem? (i := 9) rfl)), List.forall_mem_cons.mpr ⟨(pl_wsX2_grow_wsX2_grow_r2 _ (List.mem_of_getElem? (i := 10) rfl)), List.forall_mem_cons.mpr ⟨(pl_wsX2_grow_wsX2_grow_r2 _ (List.mem_of_getElem? (i := 11) rfl)), List.forall_mem_cons.mpr ⟨(pl_wsX2_grow_wsX2_grow_r2 _ (List.mem_of_getElem? (i := 12) rfl)), List.forall_mem_cons.mpr ⟨(pl_wsX2_grow_wsX2_grow_r2 _ (List.mem_of_getElem? (i := 13) rfl)), List.forall_mem_cons.mpr ⟨(pl_wsX2_grow_wsX2_grow_r2 _ (List.mem_of_getElem? (i := 14) rfl)), List.forall_mem_cons.mpr ⟨(pl_wsX2_grow_wsX2_grow_r2 _ (List.mem_of_getElem? (i := 15) rfl)), List.forall_mem_cons.mpr ⟨(pl_wsX2_grow_wsX2_grow_r2 _ (List.mem_of_getElem? (i := 16) rfl)), List.forall_mem_cons.mpr ⟨(pl_wsX2_grow_wsX2_grow_r2 _ (List.mem_of_getElem? (i := 17) rfl)), fun _ h => absurd h List.not_mem_nil⟩⟩⟩⟩⟩⟩⟩⟩⟩⟩⟩⟩⟩⟩⟩⟩⟩⟩⟩⟩⟩⟩⟩⟩) w) ((fun w h => (List.mem_append.mp h).elim ((List.forall_mem_cons.mpr ⟨(pl_wsX2_grow_wsX2_grow_r2 _ (List.mem_of_getElem? (i := 18) rfl)), List.forall_mem_cons.mpr ⟨(pl_wsX2_grow_wsX2_grow_r2 _ (List.mem_of_getElem? (i := 19) rfl)), List.forall_mem_cons.mpr ⟨(pl_wsX2_grow_wsX2_grow_r2 _ (List.mem_of_getElem? (i := 20) rfl)), List.forall_mem_cons.mpr ⟨(pl_wsX2_grow_wsX2_grow_r2 _ (List.mem_of_getElem? (i := 21) rfl)), List.forall_mem_cons.mpr ⟨(pl_wsX2_grow_wsX2_grow_r2 _ (List.mem_of_getElem? (i := 22) rfl)), List.forall_mem_cons.mpr ⟨(pl_wsX2_grow_wsX2_grow_r2 _ (List.mem_of_getElem? (i := 23) rfl)), List.forall_mem_cons.mpr ⟨(pl_wsX2_grow_wsX2_grow_r3 _ (List.mem_of_getElem? (i := 0) rfl)), List.forall_mem_cons.mpr ⟨(pl_wsX2_grow_wsX2_grow_r3 _ (List.mem_of_getElem? (i := 1) rfl)), List.forall_mem_cons.mpr ⟨(pl_wsX2_grow_wsX2_grow_r3 _ (List.mem_of_getElem? (i := 2) rfl)), List.forall_mem_cons.mpr ⟨(pl_wsX2_grow_wsX2_grow_r3 _ (List.mem_of_getElem? (i := 3) rfl)), List.forall_mem_cons.mpr ⟨(pl_wsX2_grow_wsX2_grow_r3 _ (List.mem_of_getElem? (i := 4) rfl)), List.forall_mem_cons.mpr ⟨(pl_wsX2_grow_wsX2_grow_r3 _ (List.mem_of_getElem? (i := 5) rfl)), List.forall_mem_cons.mpr ⟨(pl_wsX2_grow_wsX2_grow_r3 _ (List.mem_of_getElem? (i := 6) rfl)), List.forall_mem_cons.mpr ⟨(pl_wsX2_grow_wsX2_grow_r1 _ (List.mem_of_getElem? (i := 5) rfl)), List.forall_mem_cons.mpr ⟨(pl_wsX2_grow_wsX2_grow_r3 _ (List.mem_of_getElem? (i := 7) rfl)), List.forall_mem_cons.mpr ⟨(pl_wsX2_grow_wsX2_grow_r3 _ (List.mem_of_getElem? (i := 8) rfl)), List.forall_mem_cons.mpr ⟨(pl_wsX2_grow_wsX2_grow_r3 _ (List.mem_of_getElem? (i := 9) rfl)), List.forall_mem_cons.mpr ⟨(pl_wsX2_grow_wsX2_grow_r3 _ (List.mem_of_getElem? (i := 10) rfl)), List.forall_mem_cons.mpr ⟨(pl_wsX2_grow_wsX2_grow_r3 _ (List.mem_of_getElem? (i := 11) rfl)), List.forall_mem_cons.mpr ⟨(pl_wsX2_grow_wsX2_grow_r3 _ (List.mem_of_getElem? (i := 12) rfl)), List.forall_mem_cons.mpr ⟨(pl_wsX2_grow_wsX2_grow_r3 _ (List.mem_of_getElem? (i := 13) rfl)), List.forall_mem_cons.mpr ⟨(pl_wsX2_grow_wsX2_grow_r3 _ (List.mem_of_getElem? (i := 14) rfl)), List.forall_mem_cons.mpr ⟨(pl_wsX2_grow_wsX2_grow_r3 _ (List.mem_of_getElem? (i := 15) rfl)), List.forall_mem_cons.mpr ⟨(pl_wsX2_grow_wsX2_grow_r3 _ (List.mem_of_getElem? (i := 16) rfl)), fun _ h => absurd h List.not_mem_nil⟩⟩⟩⟩⟩⟩⟩⟩⟩⟩⟩⟩⟩⟩⟩⟩⟩⟩⟩⟩⟩⟩⟩⟩) w) ((List.forall_mem_cons.mpr ⟨(pl_wsX2_grow_wsX2_grow_r1 _ (List.mem_of_getElem? (i := 7) rfl)), List.forall_mem_cons.mpr ⟨(pl_wsX2_grow_wsX2_grow_r1 _ (List.mem_of_getElem? (i := 6) rfl)), List.forall_mem_cons.mpr ⟨(pl_wsX2_grow_wsX2_grow_r3 _ (List.mem_of_getElem? (i := 17) rfl)), List.forall_mem_cons.mpr ⟨(pl_wsX2_grow_wsX2_grow_r3 _ (List.mem_of_getElem? (i := 18) rfl)), List.forall_mem_cons.mpr ⟨(pl_wsX2_grow_wsX2_grow_r3 _ (List.mem_of_getElem? (i := 19) rfl)), List.forall_mem_cons.mpr ⟨(pl_wsX2_grow_wsX2_grow_r3 _ (List.mem_of_getElem? (i := 20) rfl)), fun _ h => absurd h List.not_mem_nil⟩⟩⟩⟩⟩⟩) w)) w)) w) (pl_wsX2_grow_wsX40 w)) w) (pl_wsX2_grow_wsX00 w))⟩) (by decide +kernel)
set_option maxRecDepth 20000 in
theorem gX2_grow_X4_step : GoodIn wsX2_grow (wsV RX2 61 RX4 yX4_step wsX4_step) := goodIn_app (goodIn_sub (List.forall_mem_cons.mpr ⟨(pl_wsX2_grow_wsX2_grow_r1 _ (List.mem_of_getElem? (i := 22) rfl)), List.forall_mem_cons.mpr ⟨(pl_wsX2_grow_wsX2_grow_r1 _ (List.mem_of_getElem? (i := 23) rfl)), List.forall_mem_cons.mpr ⟨(pl_wsX2_grow_wsX2_grow_r2 _ (List.mem_of_getElem? (i := 0) rfl)), List.forall_mem_cons.mpr ⟨(pl_wsX2_grow_wsX2_grow_r1 _ (List.mem_of_getElem? (i := 3) rfl)), fun _ h => absurd h List.not_mem_nil⟩⟩⟩⟩) (by decide +kernel)) ggX2_grow_X4_step
theorem tdX2_grow_0 : decs cX2_grow [(0, .iload_n 2, 1), (1, .ifCond .ne 11, 3), (4, .aload_n 1, 1), (5, .iconst 0, 1), (6, .aload_n 0, 1), (7, .invokevirtual 54, 3), (10, .iastore, 1), (11, .return_, 1), (12, .aload_n 1, 1), (13, .iload_n 2, 1), (14, .iconst 1, 1), (15, .isub, 1), (16, .iconst 3, 1), (17, .idiv, 1), (18, .iaload, 1), (19, .istore_n 3, 1), (20, .iload_n 3, 1), (21, .iconst (-1), 1), (22, .if_icmp .ne 8, 3), (25, .aload_n 1, 1), (26, .iload_n 2, 1), (27, .iconst (-1), 1), (28, .iastore, 1), (29, .return_, 1), (30, .aload_n 0, 1), (31, .iload_n 3, 1), (32, .invokevirtual 58, 3), (35, .aload_n 0, 1), (36, .iload_n 2, 1), (37, .iconst 1, 1), (38, .isub, 1), (39, .iconst 3, 1), (40, .irem, 1), (41, .invokevirtual 61, 3), (44, .aload_n 1, 1), (45, .iload_n 2, 1), (46, .aload_n 0, 1), (47, .invokevirtual 54, 3), (50, .iastore, 1), (51, .return_, 1)] = true := by decide +kernel
theorem dX2_grow_0 : decode cX2_grow 0 = .ok (.iload_n 2, 1) := decs_at tdX2_grow_0 0 rfl
theorem dX2_grow_1 : decode cX2_grow 1 = .ok (.ifCond .ne 11, 3) := decs_at tdX2_grow_0 1 rfl
theorem dX2_grow_4 : decode cX2_grow 4 = .ok (.aload_n 1, 1) := decs_at tdX2_grow_0 2 rfl
theorem dX2_grow_5 : decode cX2_grow 5 = .ok (.iconst 0, 1) := decs_at tdX2_grow_0 3 rfl
theorem dX2_grow_6 : decode cX2_grow 6 = .ok (.aload_n 0, 1) := decs_at tdX2_grow_0 4 rfl
theorem dX2_grow_7 : decode cX2_grow 7 = .ok (.invokevirtual 54, 3) := decs_at tdX2_grow_0 5 rfl
theorem dX2_grow_10 : decode cX2_grow 10 = .ok (.iastore, 1) := decs_at tdX2_grow_0 6 rfl
theorem dX2_grow_11 : decode cX2_grow 11 = .ok (.return_, 1) := decs_at tdX2_grow_0 7 rfl
theorem dX2_grow_12 : decode cX2_grow 12 = .ok (.aload_n 1, 1) := decs_at tdX2_grow_0 8 rfl
theorem dX2_grow_13 : decode cX2_grow 13 = .ok (.iload_n 2, 1) := decs_at tdX2_grow_0 9 rfl
theorem dX2_grow_14 : decode cX2_grow 14 = .ok (.iconst 1, 1) := decs_at tdX2_grow_0 10 rfl
theorem dX2_grow_15 : decode cX2_grow 15 = .ok (.isub, 1) := decs_at tdX2_grow_0 11 rfl
theorem dX2_grow_16 : decode cX2_grow 16 = .ok (.iconst 3, 1) := decs_at tdX2_grow_0 12 rfl
theorem dX2_grow_17 : decode cX2_grow 17 = .ok (.idiv, 1) := decs_at tdX2_grow_0 13 rfl
theorem dX2_grow_18 : decode cX2_grow 18 = .ok (.iaload, 1) := decs_at tdX2_grow_0 14 rfl
theorem dX2_grow_19 : decode cX2_grow 19 = .ok (.istore_n 3, 1) := decs_at tdX2_grow_0 15 rfl
theorem dX2_grow_20 : decode cX2_grow 20 = .ok (.iload_n 3, 1) := decs_at tdX2_grow_0 16 rfl
theorem dX2_grow_21 : decode cX2_grow 21 = .ok (.iconst (-1), 1) := decs_at tdX2_grow_0 17 rfl
theorem dX2_grow_22 : decode cX2_grow 22 = .ok (.if_icmp .ne 8, 3) := decs_at tdX2_grow_0 18 rfl
theorem dX2_grow_25 : decode cX2_grow 25 = .ok (.aload_n 1, 1) := decs_at tdX2_grow_0 19 rfl
theorem dX2_grow_26 : decode cX2_grow 26 = .ok (.iload_n 2, 1) := decs_at tdX2_grow_0 20 rfl
theorem dX2_grow_27 : decode cX2_grow 27 = .ok (.iconst (-1), 1) := decs_at tdX2_grow_0 21 rfl
theorem dX2_grow_28 : decode cX2_grow 28 = .ok (.iastore, 1) := decs_at tdX2_grow_0 22 rfl
theorem dX2_grow_29 : decode cX2_grow 29 = .ok (.return_, 1) := decs_at tdX2_grow_0 23 rfl
theorem dX2_grow_30 : decode cX2_grow 30 = .ok (.aload_n 0, 1) := decs_at tdX2_grow_0 24 rfl
theorem dX2_grow_31 : decode cX2_grow 31 = .ok (.iload_n 3, 1) := decs_at tdX2_grow_0 25 rfl
theorem dX2_grow_32 : decode cX2_grow 32 = .ok (.invokevirtual 58, 3) := decs_at tdX2_grow_0 26 rfl
theorem dX2_grow_35 : decode cX2_grow 35 = .ok (.aload_n 0, 1) := decs_at tdX2_grow_0 27 rfl
theorem dX2_grow_36 : decode cX2_grow 36 = .ok (.iload_n 2, 1) := decs_at tdX2_grow_0 28 rfl
theorem dX2_grow_37 : decode cX2_grow 37 = .ok (.iconst 1, 1) := decs_at tdX2_grow_0 29 rfl
theorem dX2_grow_38 : decode cX2_grow 38 = .ok (.isub, 1) := decs_at tdX2_grow_0 30 rfl
theorem dX2_grow_39 : decode cX2_grow 39 = .ok (.iconst 3, 1) := decs_at tdX2_grow_0 31 rfl
theorem dX2_grow_40 : decode cX2_grow 40 = .ok (.irem, 1) := decs_at tdX2_grow_0 32 rfl
theorem dX2_grow_41 : decode cX2_grow 41 = .ok (.invokevirtual 61, 3) := decs_at tdX2_grow_0 33 rfl
theorem dX2_grow_44 : decode cX2_grow 44 = .ok (.aload_n 1, 1) := decs_at tdX2_grow_0 34 rfl
theorem dX2_grow_45 : decode cX2_grow 45 = .ok (.iload_n 2, 1) := decs_at tdX2_grow_0 35 rfl
theorem dX2_grow_46 : decode cX2_grow 46 = .ok (.aload_n 0, 1) := decs_at tdX2_grow_0 36 rfl
theorem dX2_grow_47 : decode cX2_grow 47 = .ok (.invokevirtual 54, 3) := decs_at tdX2_grow_0 37 rfl
theorem dX2_grow_50 : decode cX2_grow 50 = .ok (.iastore, 1) := decs_at tdX2_grow_0 38 rfl
theorem dX2_grow_51 : decode cX2_grow 51 = .ok (.return_, 1) := decs_at tdX2_grow_0 39 rfl
theorem tdX2_signsTo_0 : decs cX2_signsTo [(0, .iconst 0, 1), (1, .istore_n 2, 1), (2, .iload_n 2, 1), (3, .bipush 6, 2), (5, .if_icmp .ge 18, 3), (8, .iload_n 1, 1), (9, .getstatic 51, 3), (12, .iload_n 2, 1), (13, .iaload, 1), (14, .if_icmp .lt 9, 3), (17, .iinc 2 1, 3), (20, .goto (-18), 3), (23, .iload_n 2, 1), (24, .ireturn, 1)] = true := by decide +kernel
theorem dX2_signsTo_0 : decode cX2_signsTo 0 = .ok (.iconst 0, 1) := decs_at tdX2_signsTo_0 0 rfl
theorem dX2_signsTo_1 : decode cX2_signsTo 1 = .ok (.istore_n 2, 1) := decs_at tdX2_signsTo_0 1 rfl
theorem dX2_signsTo_2 : decode cX2_signsTo 2 = .ok (.iload_n 2, 1) := decs_at tdX2_signsTo_0 2 rfl
theorem dX2_signsTo_3 : decode cX2_signsTo 3 = .ok (.bipush 6, 2) := decs_at tdX2_signsTo_0 3 rfl
theorem dX2_signsTo_5 : decode cX2_signsTo 5 = .ok (.if_icmp .ge 18, 3) := decs_at tdX2_signsTo_0 4 rfl
theorem dX2_signsTo_8 : decode cX2_signsTo 8 = .ok (.iload_n 1, 1) := decs_at tdX2_signsTo_0 5 rfl
theorem dX2_signsTo_9 : decode cX2_signsTo 9 = .ok (.getstatic 51, 3) := decs_at tdX2_signsTo_0 6 rfl
theorem dX2_signsTo_12 : decode cX2_signsTo 12 = .ok (.iload_n 2, 1) := decs_at tdX2_signsTo_0 7 rfl
theorem dX2_signsTo_13 : decode cX2_signsTo 13 = .ok (.iaload, 1) := decs_at tdX2_signsTo_0 8 rfl
theorem dX2_signsTo_14 : decode cX2_signsTo 14 = .ok (.if_icmp .lt 9, 3) := decs_at tdX2_signsTo_0 9 rfl
theorem dX2_signsTo_17 : decode cX2_signsTo 17 = .ok (.iinc 2 1, 3) := decs_at tdX2_signsTo_0 10 rfl
theorem dX2_signsTo_20 : decode cX2_signsTo 20 = .ok (.goto (-18), 3) := decs_at tdX2_signsTo_0 11 rfl
theorem dX2_signsTo_23 : decode cX2_signsTo 23 = .ok (.iload_n 2, 1) := decs_at tdX2_signsTo_0 12 rfl
theorem dX2_signsTo_24 : decode cX2_signsTo 24 = .ok (.ireturn, 1) := decs_at tdX2_signsTo_0 13 rfl
theorem tdX2_signOf_0 : decs cX2_signOf [(0, .iload_n 1, 1), (1, .istore_n 3, 1), (2, .iconst 0, 1), (3, .istore 4, 2), (5, .iload 4, 2), (7, .iload_n 2, 1), (8, .if_icmp .ge 19, 3), (11, .iload_n 3, 1), (12, .ifCond .le 15, 3), (15, .iload_n 3, 1), (16, .iconst 1, 1), (17, .isub, 1), (18, .iconst 3, 1), (19, .idiv, 1), (20, .istore_n 3, 1), (21, .iinc 4 1, 3), (24, .goto (-19), 3), (27, .iload_n 3, 1), (28, .ifCond .le 11, 3), (31, .iload_n 3, 1), (32, .iconst 1, 1), (33, .isub, 1), (34, .iconst 3, 1), (35, .irem, 1), (36, .goto 4, 3), (39, .iconst 0, 1), (40, .ireturn, 1)] = true := by decide +kernel
theorem dX2_signOf_0 : decode cX2_signOf 0 = .ok (.iload_n 1, 1) := decs_at tdX2_signOf_0 0 rfl
theorem dX2_signOf_1 : decode cX2_signOf 1 = .ok (.istore_n 3, 1) := decs_at tdX2_signOf_0 1 rfl
theorem dX2_signOf_2 : decode cX2_signOf 2 = .ok (.iconst 0, 1) := decs_at tdX2_signOf_0 2 rfl
theorem dX2_signOf_3 : decode cX2_signOf 3 = .ok (.istore 4, 2) := decs_at tdX2_signOf_0 3 rfl
theorem dX2_signOf_5 : decode cX2_signOf 5 = .ok (.iload 4, 2) := decs_at tdX2_signOf_0 4 rfl
theorem dX2_signOf_7 : decode cX2_signOf 7 = .ok (.iload_n 2, 1) := decs_at tdX2_signOf_0 5 rfl
theorem dX2_signOf_8 : decode cX2_signOf 8 = .ok (.if_icmp .ge 19, 3) := decs_at tdX2_signOf_0 6 rfl
theorem dX2_signOf_11 : decode cX2_signOf 11 = .ok (.iload_n 3, 1) := decs_at tdX2_signOf_0 7 rfl
theorem dX2_signOf_12 : decode cX2_signOf 12 = .ok (.ifCond .le 15, 3) := decs_at tdX2_signOf_0 8 rfl
theorem dX2_signOf_15 : decode cX2_signOf 15 = .ok (.iload_n 3, 1) := decs_at tdX2_signOf_0 9 rfl
theorem dX2_signOf_16 : decode cX2_signOf 16 = .ok (.iconst 1, 1) := decs_at tdX2_signOf_0 10 rfl
theorem dX2_signOf_17 : decode cX2_signOf 17 = .ok (.isub, 1) := decs_at tdX2_signOf_0 11 rfl
theorem dX2_signOf_18 : decode cX2_signOf 18 = .ok (.iconst 3, 1) := decs_at tdX2_signOf_0 12 rfl
theorem dX2_signOf_19 : decode cX2_signOf 19 = .ok (.idiv, 1) := decs_at tdX2_signOf_0 13 rfl
theorem dX2_signOf_20 : decode cX2_signOf 20 = .ok (.istore_n 3, 1) := decs_at tdX2_signOf_0 14 rfl
theorem dX2_signOf_21 : decode cX2_signOf 21 = .ok (.iinc 4 1, 3) := decs_at tdX2_signOf_0 15 rfl
theorem dX2_signOf_24 : decode cX2_signOf 24 = .ok (.goto (-19), 3) := decs_at tdX2_signOf_0 16 rfl
theorem dX2_signOf_27 : decode cX2_signOf 27 = .ok (.iload_n 3, 1) := decs_at tdX2_signOf_0 17 rfl
theorem dX2_signOf_28 : decode cX2_signOf 28 = .ok (.ifCond .le 11, 3) := decs_at tdX2_signOf_0 18 rfl
theorem dX2_signOf_31 : decode cX2_signOf 31 = .ok (.iload_n 3, 1) := decs_at tdX2_signOf_0 19 rfl
theorem dX2_signOf_32 : decode cX2_signOf 32 = .ok (.iconst 1, 1) := decs_at tdX2_signOf_0 20 rfl
theorem dX2_signOf_33 : decode cX2_signOf 33 = .ok (.isub, 1) := decs_at tdX2_signOf_0 21 rfl
theorem dX2_signOf_34 : decode cX2_signOf 34 = .ok (.iconst 3, 1) := decs_at tdX2_signOf_0 22 rfl
theorem dX2_signOf_35 : decode cX2_signOf 35 = .ok (.irem, 1) := decs_at tdX2_signOf_0 23 rfl
theorem dX2_signOf_36 : decode cX2_signOf 36 = .ok (.goto 4, 3) := decs_at tdX2_signOf_0 24 rfl
theorem dX2_signOf_39 : decode cX2_signOf 39 = .ok (.iconst 0, 1) := decs_at tdX2_signOf_0 25 rfl
theorem dX2_signOf_40 : decode cX2_signOf 40 = .ok (.ireturn, 1) := decs_at tdX2_signOf_0 26 rfl
theorem tdX3_init_0 : decs cX3_init [(0, .aload_n 0, 1), (1, .invokespecial 3, 3), (4, .aload_n 0, 1), (5, .bipush 8, 2), (7, .newarray .int, 2), (9, .dup, 1), (10, .iconst 0, 1), (11, .iconst (-1), 1), (12, .iastore, 1), (13, .dup, 1), (14, .iconst 1, 1), (15, .iconst (-1), 1), (16, .iastore, 1), (17, .dup, 1), (18, .iconst 2, 1), (19, .iconst (-1), 1), (20, .iastore, 1), (21, .dup, 1), (22, .iconst 3, 1), (23, .iconst (-1), 1), (24, .iastore, 1), (25, .dup, 1), (26, .iconst 4, 1), (27, .iconst (-1), 1), (28, .iastore, 1), (29, .dup, 1), (30, .iconst 5, 1), (31, .iconst (-1), 1), (32, .iastore, 1), (33, .dup, 1), (34, .bipush 6, 2), (36, .iconst (-1), 1), (37, .iastore, 1), (38, .dup, 1), (39, .bipush 7, 2), (41, .iconst (-1), 1), (42, .iastore, 1), (43, .putfield 9, 3), (46, .aload_n 0, 1), (47, .bipush 8, 2)] = true := by decide +kernel
theorem dX3_init_0 : decode cX3_init 0 = .ok (.aload_n 0, 1) := decs_at tdX3_init_0 0 rfl
theorem dX3_init_1 : decode cX3_init 1 = .ok (.invokespecial 3, 3) := decs_at tdX3_init_0 1 rfl
theorem dX3_init_4 : decode cX3_init 4 = .ok (.aload_n 0, 1) := decs_at tdX3_init_0 2 rfl
theorem dX3_init_5 : decode cX3_init 5 = .ok (.bipush 8, 2) := decs_at tdX3_init_0 3 rfl
theorem dX3_init_7 : decode cX3_init 7 = .ok (.newarray .int, 2) := decs_at tdX3_init_0 4 rfl
theorem dX3_init_9 : decode cX3_init 9 = .ok (.dup, 1) := decs_at tdX3_init_0 5 rfl
theorem dX3_init_10 : decode cX3_init 10 = .ok (.iconst 0, 1) := decs_at tdX3_init_0 6 rfl
theorem dX3_init_11 : decode cX3_init 11 = .ok (.iconst (-1), 1) := decs_at tdX3_init_0 7 rfl
theorem dX3_init_12 : decode cX3_init 12 = .ok (.iastore, 1) := decs_at tdX3_init_0 8 rfl
theorem dX3_init_13 : decode cX3_init 13 = .ok (.dup, 1) := decs_at tdX3_init_0 9 rfl
theorem dX3_init_14 : decode cX3_init 14 = .ok (.iconst 1, 1) := decs_at tdX3_init_0 10 rfl
theorem dX3_init_15 : decode cX3_init 15 = .ok (.iconst (-1), 1) := decs_at tdX3_init_0 11 rfl
theorem dX3_init_16 : decode cX3_init 16 = .ok (.iastore, 1) := decs_at tdX3_init_0 12 rfl
theorem dX3_init_17 : decode cX3_init 17 = .ok (.dup, 1) := decs_at tdX3_init_0 13 rfl
theorem dX3_init_18 : decode cX3_init 18 = .ok (.iconst 2, 1) := decs_at tdX3_init_0 14 rfl
theorem dX3_init_19 : decode cX3_init 19 = .ok (.iconst (-1), 1) := decs_at tdX3_init_0 15 rfl
theorem dX3_init_20 : decode cX3_init 20 = .ok (.iastore, 1) := decs_at tdX3_init_0 16 rfl
theorem dX3_init_21 : decode cX3_init 21 = .ok (.dup, 1) := decs_at tdX3_init_0 17 rfl
theorem dX3_init_22 : decode cX3_init 22 = .ok (.iconst 3, 1) := decs_at tdX3_init_0 18 rfl
theorem dX3_init_23 : decode cX3_init 23 = .ok (.iconst (-1), 1) := decs_at tdX3_init_0 19 rfl
theorem dX3_init_24 : decode cX3_init 24 = .ok (.iastore, 1) := decs_at tdX3_init_0 20 rfl
theorem dX3_init_25 : decode cX3_init 25 = .ok (.dup, 1) := decs_at tdX3_init_0 21 rfl
theorem dX3_init_26 : decode cX3_init 26 = .ok (.iconst 4, 1) := decs_at tdX3_init_0 22 rfl
theorem dX3_init_27 : decode cX3_init 27 = .ok (.iconst (-1), 1) := decs_at tdX3_init_0 23 rfl
theorem dX3_init_28 : decode cX3_init 28 = .ok (.iastore, 1) := decs_at tdX3_init_0 24 rfl
theorem dX3_init_29 : decode cX3_init 29 = .ok (.dup, 1) := decs_at tdX3_init_0 25 rfl
theorem dX3_init_30 : decode cX3_init 30 = .ok (.iconst 5, 1) := decs_at tdX3_init_0 26 rfl
theorem dX3_init_31 : decode cX3_init 31 = .ok (.iconst (-1), 1) := decs_at tdX3_init_0 27 rfl
theorem dX3_init_32 : decode cX3_init 32 = .ok (.iastore, 1) := decs_at tdX3_init_0 28 rfl
theorem dX3_init_33 : decode cX3_init 33 = .ok (.dup, 1) := decs_at tdX3_init_0 29 rfl
theorem dX3_init_34 : decode cX3_init 34 = .ok (.bipush 6, 2) := decs_at tdX3_init_0 30 rfl
theorem dX3_init_36 : decode cX3_init 36 = .ok (.iconst (-1), 1) := decs_at tdX3_init_0 31 rfl
theorem dX3_init_37 : decode cX3_init 37 = .ok (.iastore, 1) := decs_at tdX3_init_0 32 rfl
theorem dX3_init_38 : decode cX3_init 38 = .ok (.dup, 1) := decs_at tdX3_init_0 33 rfl
theorem dX3_init_39 : decode cX3_init 39 = .ok (.bipush 7, 2) := decs_at tdX3_init_0 34 rfl
theorem dX3_init_41 : decode cX3_init 41 = .ok (.iconst (-1), 1) := decs_at tdX3_init_0 35 rfl
theorem dX3_init_42 : decode cX3_init 42 = .ok (.iastore, 1) := decs_at tdX3_init_0 36 rfl
theorem dX3_init_43 : decode cX3_init 43 = .ok (.putfield 9, 3) := decs_at tdX3_init_0 37 rfl
theorem dX3_init_46 : decode cX3_init 46 = .ok (.aload_n 0, 1) := decs_at tdX3_init_0 38 rfl
theorem dX3_init_47 : decode cX3_init 47 = .ok (.bipush 8, 2) := decs_at tdX3_init_0 39 rfl
theorem tdX3_init_49 : decs cX3_init [(49, .newarray .int, 2), (51, .putfield 15, 3), (54, .aload_n 0, 1), (55, .sipush 320, 3), (58, .newarray .long, 2), (60, .putfield 18, 3), (63, .return_, 1)] = true := by decide +kernel
theorem dX3_init_49 : decode cX3_init 49 = .ok (.newarray .int, 2) := decs_at tdX3_init_49 0 rfl
theorem dX3_init_51 : decode cX3_init 51 = .ok (.putfield 15, 3) := decs_at tdX3_init_49 1 rfl
theorem dX3_init_54 : decode cX3_init 54 = .ok (.aload_n 0, 1) := decs_at tdX3_init_49 2 rfl
theorem dX3_init_55 : decode cX3_init 55 = .ok (.sipush 320, 3) := decs_at tdX3_init_49 3 rfl
theorem dX3_init_58 : decode cX3_init 58 = .ok (.newarray .long, 2) := decs_at tdX3_init_49 4 rfl
theorem dX3_init_60 : decode cX3_init 60 = .ok (.putfield 18, 3) := decs_at tdX3_init_49 5 rfl
theorem dX3_init_63 : decode cX3_init 63 = .ok (.return_, 1) := decs_at tdX3_init_49 6 rfl
set_option maxRecDepth 20000 in
theorem ggX3_isShelf_X5_isWithin : GoodIn wsX3_isShelf wsX5_isWithin := goodIn_sub (List.forall_mem_cons.mpr ⟨(List.mem_cons_of_mem _ (List.mem_of_getElem? (i := 2) rfl)), (fun _ h => absurd h List.not_mem_nil)⟩) (by decide +kernel)
set_option maxRecDepth 20000 in
theorem gX3_isShelf_X5_isWithin_n22 : GoodIn wsX3_isShelf (wsX5_isWithin) := ggX3_isShelf_X5_isWithin
theorem tdX3_isShelf_0 : decs cX3_isShelf [(0, .iload_n 1, 1), (1, .iconst 0, 1), (2, .bipush 7, 2), (4, .invokestatic 22, 3), (7, .ireturn, 1)] = true := by decide +kernel
theorem dX3_isShelf_0 : decode cX3_isShelf 0 = .ok (.iload_n 1, 1) := decs_at tdX3_isShelf_0 0 rfl
theorem dX3_isShelf_1 : decode cX3_isShelf 1 = .ok (.iconst 0, 1) := decs_at tdX3_isShelf_0 1 rfl
theorem dX3_isShelf_2 : decode cX3_isShelf 2 = .ok (.bipush 7, 2) := decs_at tdX3_isShelf_0 2 rfl
theorem dX3_isShelf_4 : decode cX3_isShelf 4 = .ok (.invokestatic 22, 3) := decs_at tdX3_isShelf_0 3 rfl
theorem dX3_isShelf_7 : decode cX3_isShelf 7 = .ok (.ireturn, 1) := decs_at tdX3_isShelf_0 4 rfl
theorem tdX3_held_0 : decs cX3_held [(0, .aload_n 0, 1), (1, .getfield 9, 3), (4, .iload_n 1, 1), (5, .iaload, 1), (6, .ireturn, 1)] = true := by decide +kernel
theorem dX3_held_0 : decode cX3_held 0 = .ok (.aload_n 0, 1) := decs_at tdX3_held_0 0 rfl
theorem dX3_held_1 : decode cX3_held 1 = .ok (.getfield 9, 3) := decs_at tdX3_held_0 1 rfl
theorem dX3_held_4 : decode cX3_held 4 = .ok (.iload_n 1, 1) := decs_at tdX3_held_0 2 rfl
theorem dX3_held_5 : decode cX3_held 5 = .ok (.iaload, 1) := decs_at tdX3_held_0 3 rfl
theorem dX3_held_6 : decode cX3_held 6 = .ok (.ireturn, 1) := decs_at tdX3_held_0 4 rfl
theorem tdX3_holdsOne_0 : decs cX3_holdsOne [(0, .aload_n 0, 1), (1, .getfield 9, 3), (4, .iload_n 1, 1), (5, .iaload, 1), (6, .bipush 10, 2), (8, .if_icmp .lt 7, 3), (11, .iconst 1, 1), (12, .goto 4, 3), (15, .iconst 0, 1), (16, .ireturn, 1)] = true := by decide +kernel
theorem dX3_holdsOne_0 : decode cX3_holdsOne 0 = .ok (.aload_n 0, 1) := decs_at tdX3_holdsOne_0 0 rfl
theorem dX3_holdsOne_1 : decode cX3_holdsOne 1 = .ok (.getfield 9, 3) := decs_at tdX3_holdsOne_0 1 rfl
theorem dX3_holdsOne_4 : decode cX3_holdsOne 4 = .ok (.iload_n 1, 1) := decs_at tdX3_holdsOne_0 2 rfl
theorem dX3_holdsOne_5 : decode cX3_holdsOne 5 = .ok (.iaload, 1) := decs_at tdX3_holdsOne_0 3 rfl
theorem dX3_holdsOne_6 : decode cX3_holdsOne 6 = .ok (.bipush 10, 2) := decs_at tdX3_holdsOne_0 4 rfl
theorem dX3_holdsOne_8 : decode cX3_holdsOne 8 = .ok (.if_icmp .lt 7, 3) := decs_at tdX3_holdsOne_0 5 rfl
theorem dX3_holdsOne_11 : decode cX3_holdsOne 11 = .ok (.iconst 1, 1) := decs_at tdX3_holdsOne_0 6 rfl
theorem dX3_holdsOne_12 : decode cX3_holdsOne 12 = .ok (.goto 4, 3) := decs_at tdX3_holdsOne_0 7 rfl
theorem dX3_holdsOne_15 : decode cX3_holdsOne 15 = .ok (.iconst 0, 1) := decs_at tdX3_holdsOne_0 8 rfl
theorem dX3_holdsOne_16 : decode cX3_holdsOne 16 = .ok (.ireturn, 1) := decs_at tdX3_holdsOne_0 9 rfl
set_option maxRecDepth 20000 in
theorem ggX3_holdsRow_X5_isWithin : GoodIn wsX3_holdsRow wsX5_isWithin := goodIn_sub (List.forall_mem_cons.mpr ⟨(List.mem_cons_of_mem _ (List.mem_append_left _ (List.mem_of_getElem? (i := 3) rfl))), (fun _ h => absurd h List.not_mem_nil)⟩) (by decide +kernel)
set_option maxRecDepth 20000 in
theorem gX3_holdsRow_X5_isWithin_n22 : GoodIn wsX3_holdsRow (wsX5_isWithin) := ggX3_holdsRow_X5_isWithin
theorem tdX3_holdsRow_0 : decs cX3_holdsRow [(0, .aload_n 0, 1), (1, .getfield 9, 3), (4, .iload_n 1, 1), (5, .iaload, 1), (6, .iconst 0, 1), (7, .iconst 4, 1), (8, .invokestatic 22, 3), (11, .ireturn, 1)] = true := by decide +kernel
theorem dX3_holdsRow_0 : decode cX3_holdsRow 0 = .ok (.aload_n 0, 1) := decs_at tdX3_holdsRow_0 0 rfl
theorem dX3_holdsRow_1 : decode cX3_holdsRow 1 = .ok (.getfield 9, 3) := decs_at tdX3_holdsRow_0 1 rfl
theorem dX3_holdsRow_4 : decode cX3_holdsRow 4 = .ok (.iload_n 1, 1) := decs_at tdX3_holdsRow_0 2 rfl
theorem dX3_holdsRow_5 : decode cX3_holdsRow 5 = .ok (.iaload, 1) := decs_at tdX3_holdsRow_0 3 rfl
theorem dX3_holdsRow_6 : decode cX3_holdsRow 6 = .ok (.iconst 0, 1) := decs_at tdX3_holdsRow_0 4 rfl
theorem dX3_holdsRow_7 : decode cX3_holdsRow 7 = .ok (.iconst 4, 1) := decs_at tdX3_holdsRow_0 5 rfl
theorem dX3_holdsRow_8 : decode cX3_holdsRow 8 = .ok (.invokestatic 22, 3) := decs_at tdX3_holdsRow_0 6 rfl
theorem dX3_holdsRow_11 : decode cX3_holdsRow 11 = .ok (.ireturn, 1) := decs_at tdX3_holdsRow_0 7 rfl
set_option maxRecDepth 20000 in
theorem pl_wsX3_oneIn_wsX30 : ∀ w ∈ wsX30, w ∈ wsX3_oneIn := fun _ h => List.mem_cons_of_mem _ (List.mem_append_right _ (h))
theorem ggX3_oneIn_X3_holdsOne : GoodIn wsX3_oneIn wsX3_holdsOne := goodIn_sub (List.forall_mem_cons.mpr ⟨(List.mem_cons_of_mem _ (List.mem_append_left _ (List.mem_of_getElem? (i := 5) rfl))), (fun w h => (List.mem_append.mp h).elim ((List.forall_mem_cons.mpr ⟨(List.mem_cons_of_mem _ (List.mem_append_left _ (List.mem_of_getElem? (i := 0) rfl))), fun _ h => absurd h List.not_mem_nil⟩) w) (pl_wsX3_oneIn_wsX30 w))⟩) (by decide +kernel)
set_option maxRecDepth 20000 in
theorem gX3_oneIn_X3_holdsOne : GoodIn wsX3_oneIn (wsV RX3 26 RX3 yX3_holdsOne wsX3_holdsOne) := goodIn_app (goodIn_sub (List.forall_mem_cons.mpr ⟨(List.mem_cons_of_mem _ (List.mem_append_left _ (List.mem_of_getElem? (i := 1) rfl))), List.forall_mem_cons.mpr ⟨(List.mem_cons_of_mem _ (List.mem_append_left _ (List.mem_of_getElem? (i := 2) rfl))), List.forall_mem_cons.mpr ⟨(List.mem_cons_of_mem _ (List.mem_append_left _ (List.mem_of_getElem? (i := 3) rfl))), List.forall_mem_cons.mpr ⟨(List.mem_cons_of_mem _ (List.mem_append_left _ (List.mem_of_getElem? (i := 4) rfl))), fun _ h => absurd h List.not_mem_nil⟩⟩⟩⟩) (by decide +kernel)) ggX3_oneIn_X3_holdsOne
theorem tdX3_oneIn_0 : decs cX3_oneIn [(0, .aload_n 0, 1), (1, .iload_n 1, 1), (2, .invokevirtual 26, 3), (5, .ifCond .eq 15, 3), (8, .aload_n 0, 1), (9, .getfield 9, 3), (12, .iload_n 1, 1), (13, .iaload, 1), (14, .bipush 10, 2), (16, .isub, 1), (17, .goto 4, 3), (20, .iconst (-1), 1), (21, .ireturn, 1)] = true := by decide +kernel
theorem dX3_oneIn_0 : decode cX3_oneIn 0 = .ok (.aload_n 0, 1) := decs_at tdX3_oneIn_0 0 rfl
theorem dX3_oneIn_1 : decode cX3_oneIn 1 = .ok (.iload_n 1, 1) := decs_at tdX3_oneIn_0 1 rfl
theorem dX3_oneIn_2 : decode cX3_oneIn 2 = .ok (.invokevirtual 26, 3) := decs_at tdX3_oneIn_0 2 rfl
theorem dX3_oneIn_5 : decode cX3_oneIn 5 = .ok (.ifCond .eq 15, 3) := decs_at tdX3_oneIn_0 3 rfl
theorem dX3_oneIn_8 : decode cX3_oneIn 8 = .ok (.aload_n 0, 1) := decs_at tdX3_oneIn_0 4 rfl
theorem dX3_oneIn_9 : decode cX3_oneIn 9 = .ok (.getfield 9, 3) := decs_at tdX3_oneIn_0 5 rfl
theorem dX3_oneIn_12 : decode cX3_oneIn 12 = .ok (.iload_n 1, 1) := decs_at tdX3_oneIn_0 6 rfl
theorem dX3_oneIn_13 : decode cX3_oneIn 13 = .ok (.iaload, 1) := decs_at tdX3_oneIn_0 7 rfl
theorem dX3_oneIn_14 : decode cX3_oneIn 14 = .ok (.bipush 10, 2) := decs_at tdX3_oneIn_0 8 rfl
theorem dX3_oneIn_16 : decode cX3_oneIn 16 = .ok (.isub, 1) := decs_at tdX3_oneIn_0 9 rfl
theorem dX3_oneIn_17 : decode cX3_oneIn 17 = .ok (.goto 4, 3) := decs_at tdX3_oneIn_0 10 rfl
theorem dX3_oneIn_20 : decode cX3_oneIn 20 = .ok (.iconst (-1), 1) := decs_at tdX3_oneIn_0 11 rfl
theorem dX3_oneIn_21 : decode cX3_oneIn 21 = .ok (.ireturn, 1) := decs_at tdX3_oneIn_0 12 rfl
theorem tdX3_sizeOf_0 : decs cX3_sizeOf [(0, .aload_n 0, 1), (1, .getfield 15, 3), (4, .iload_n 1, 1), (5, .iaload, 1), (6, .ireturn, 1)] = true := by decide +kernel
theorem dX3_sizeOf_0 : decode cX3_sizeOf 0 = .ok (.aload_n 0, 1) := decs_at tdX3_sizeOf_0 0 rfl
theorem dX3_sizeOf_1 : decode cX3_sizeOf 1 = .ok (.getfield 15, 3) := decs_at tdX3_sizeOf_0 1 rfl
theorem dX3_sizeOf_4 : decode cX3_sizeOf 4 = .ok (.iload_n 1, 1) := decs_at tdX3_sizeOf_0 2 rfl
theorem dX3_sizeOf_5 : decode cX3_sizeOf 5 = .ok (.iaload, 1) := decs_at tdX3_sizeOf_0 3 rfl
theorem dX3_sizeOf_6 : decode cX3_sizeOf 6 = .ok (.ireturn, 1) := decs_at tdX3_sizeOf_0 4 rfl
theorem tdX3_holdNothing_0 : decs cX3_holdNothing [(0, .aload_n 0, 1), (1, .getfield 9, 3), (4, .iload_n 1, 1), (5, .iconst (-1), 1), (6, .iastore, 1), (7, .aload_n 0, 1), (8, .getfield 15, 3), (11, .iload_n 1, 1), (12, .iconst 0, 1), (13, .iastore, 1), (14, .return_, 1)] = true := by decide +kernel
theorem dX3_holdNothing_0 : decode cX3_holdNothing 0 = .ok (.aload_n 0, 1) := decs_at tdX3_holdNothing_0 0 rfl
theorem dX3_holdNothing_1 : decode cX3_holdNothing 1 = .ok (.getfield 9, 3) := decs_at tdX3_holdNothing_0 1 rfl
theorem dX3_holdNothing_4 : decode cX3_holdNothing 4 = .ok (.iload_n 1, 1) := decs_at tdX3_holdNothing_0 2 rfl
theorem dX3_holdNothing_5 : decode cX3_holdNothing 5 = .ok (.iconst (-1), 1) := decs_at tdX3_holdNothing_0 3 rfl
theorem dX3_holdNothing_6 : decode cX3_holdNothing 6 = .ok (.iastore, 1) := decs_at tdX3_holdNothing_0 4 rfl
theorem dX3_holdNothing_7 : decode cX3_holdNothing 7 = .ok (.aload_n 0, 1) := decs_at tdX3_holdNothing_0 5 rfl
theorem dX3_holdNothing_8 : decode cX3_holdNothing 8 = .ok (.getfield 15, 3) := decs_at tdX3_holdNothing_0 6 rfl
theorem dX3_holdNothing_11 : decode cX3_holdNothing 11 = .ok (.iload_n 1, 1) := decs_at tdX3_holdNothing_0 7 rfl
theorem dX3_holdNothing_12 : decode cX3_holdNothing 12 = .ok (.iconst 0, 1) := decs_at tdX3_holdNothing_0 8 rfl
theorem dX3_holdNothing_13 : decode cX3_holdNothing 13 = .ok (.iastore, 1) := decs_at tdX3_holdNothing_0 9 rfl
theorem dX3_holdNothing_14 : decode cX3_holdNothing 14 = .ok (.return_, 1) := decs_at tdX3_holdNothing_0 10 rfl
theorem tdX3_holdOne_0 : decs cX3_holdOne [(0, .aload_n 0, 1), (1, .getfield 9, 3), (4, .iload_n 1, 1), (5, .bipush 10, 2), (7, .iload_n 2, 1), (8, .iadd, 1), (9, .iastore, 1), (10, .aload_n 0, 1), (11, .getfield 15, 3), (14, .iload_n 1, 1), (15, .iconst 0, 1), (16, .iastore, 1), (17, .return_, 1)] = true := by decide +kernel
theorem dX3_holdOne_0 : decode cX3_holdOne 0 = .ok (.aload_n 0, 1) := decs_at tdX3_holdOne_0 0 rfl
theorem dX3_holdOne_1 : decode cX3_holdOne 1 = .ok (.getfield 9, 3) := decs_at tdX3_holdOne_0 1 rfl
theorem dX3_holdOne_4 : decode cX3_holdOne 4 = .ok (.iload_n 1, 1) := decs_at tdX3_holdOne_0 2 rfl
theorem dX3_holdOne_5 : decode cX3_holdOne 5 = .ok (.bipush 10, 2) := decs_at tdX3_holdOne_0 3 rfl
theorem dX3_holdOne_7 : decode cX3_holdOne 7 = .ok (.iload_n 2, 1) := decs_at tdX3_holdOne_0 4 rfl
theorem dX3_holdOne_8 : decode cX3_holdOne 8 = .ok (.iadd, 1) := decs_at tdX3_holdOne_0 5 rfl
theorem dX3_holdOne_9 : decode cX3_holdOne 9 = .ok (.iastore, 1) := decs_at tdX3_holdOne_0 6 rfl
theorem dX3_holdOne_10 : decode cX3_holdOne 10 = .ok (.aload_n 0, 1) := decs_at tdX3_holdOne_0 7 rfl
theorem dX3_holdOne_11 : decode cX3_holdOne 11 = .ok (.getfield 15, 3) := decs_at tdX3_holdOne_0 8 rfl
theorem dX3_holdOne_14 : decode cX3_holdOne 14 = .ok (.iload_n 1, 1) := decs_at tdX3_holdOne_0 9 rfl
theorem dX3_holdOne_15 : decode cX3_holdOne 15 = .ok (.iconst 0, 1) := decs_at tdX3_holdOne_0 10 rfl
theorem dX3_holdOne_16 : decode cX3_holdOne 16 = .ok (.iastore, 1) := decs_at tdX3_holdOne_0 11 rfl
theorem dX3_holdOne_17 : decode cX3_holdOne 17 = .ok (.return_, 1) := decs_at tdX3_holdOne_0 12 rfl
theorem tdX3_holdRow_0 : decs cX3_holdRow [(0, .aload_n 0, 1), (1, .getfield 9, 3), (4, .iload_n 1, 1), (5, .iload_n 2, 1), (6, .iastore, 1), (7, .aload_n 0, 1), (8, .getfield 15, 3), (11, .iload_n 1, 1), (12, .iload_n 3, 1), (13, .iastore, 1), (14, .iconst 0, 1), (15, .istore 4, 2), (17, .iload 4, 2), (19, .iload_n 3, 1), (20, .if_icmp .ge 22, 3), (23, .aload_n 0, 1), (24, .getfield 18, 3), (27, .iload_n 1, 1), (28, .bipush 40, 2), (30, .imul, 1), (31, .iload 4, 2), (33, .iadd, 1), (34, .lconst 0, 1), (35, .lastore, 1), (36, .iinc 4 1, 3), (39, .goto (-22), 3), (42, .return_, 1)] = true := by decide +kernel
theorem dX3_holdRow_0 : decode cX3_holdRow 0 = .ok (.aload_n 0, 1) := decs_at tdX3_holdRow_0 0 rfl
theorem dX3_holdRow_1 : decode cX3_holdRow 1 = .ok (.getfield 9, 3) := decs_at tdX3_holdRow_0 1 rfl
theorem dX3_holdRow_4 : decode cX3_holdRow 4 = .ok (.iload_n 1, 1) := decs_at tdX3_holdRow_0 2 rfl
theorem dX3_holdRow_5 : decode cX3_holdRow 5 = .ok (.iload_n 2, 1) := decs_at tdX3_holdRow_0 3 rfl
theorem dX3_holdRow_6 : decode cX3_holdRow 6 = .ok (.iastore, 1) := decs_at tdX3_holdRow_0 4 rfl
theorem dX3_holdRow_7 : decode cX3_holdRow 7 = .ok (.aload_n 0, 1) := decs_at tdX3_holdRow_0 5 rfl
theorem dX3_holdRow_8 : decode cX3_holdRow 8 = .ok (.getfield 15, 3) := decs_at tdX3_holdRow_0 6 rfl
theorem dX3_holdRow_11 : decode cX3_holdRow 11 = .ok (.iload_n 1, 1) := decs_at tdX3_holdRow_0 7 rfl
theorem dX3_holdRow_12 : decode cX3_holdRow 12 = .ok (.iload_n 3, 1) := decs_at tdX3_holdRow_0 8 rfl
theorem dX3_holdRow_13 : decode cX3_holdRow 13 = .ok (.iastore, 1) := decs_at tdX3_holdRow_0 9 rfl
theorem dX3_holdRow_14 : decode cX3_holdRow 14 = .ok (.iconst 0, 1) := decs_at tdX3_holdRow_0 10 rfl
theorem dX3_holdRow_15 : decode cX3_holdRow 15 = .ok (.istore 4, 2) := decs_at tdX3_holdRow_0 11 rfl
theorem dX3_holdRow_17 : decode cX3_holdRow 17 = .ok (.iload 4, 2) := decs_at tdX3_holdRow_0 12 rfl
theorem dX3_holdRow_19 : decode cX3_holdRow 19 = .ok (.iload_n 3, 1) := decs_at tdX3_holdRow_0 13 rfl
theorem dX3_holdRow_20 : decode cX3_holdRow 20 = .ok (.if_icmp .ge 22, 3) := decs_at tdX3_holdRow_0 14 rfl
theorem dX3_holdRow_23 : decode cX3_holdRow 23 = .ok (.aload_n 0, 1) := decs_at tdX3_holdRow_0 15 rfl
theorem dX3_holdRow_24 : decode cX3_holdRow 24 = .ok (.getfield 18, 3) := decs_at tdX3_holdRow_0 16 rfl
theorem dX3_holdRow_27 : decode cX3_holdRow 27 = .ok (.iload_n 1, 1) := decs_at tdX3_holdRow_0 17 rfl
theorem dX3_holdRow_28 : decode cX3_holdRow 28 = .ok (.bipush 40, 2) := decs_at tdX3_holdRow_0 18 rfl
theorem dX3_holdRow_30 : decode cX3_holdRow 30 = .ok (.imul, 1) := decs_at tdX3_holdRow_0 19 rfl
theorem dX3_holdRow_31 : decode cX3_holdRow 31 = .ok (.iload 4, 2) := decs_at tdX3_holdRow_0 20 rfl
theorem dX3_holdRow_33 : decode cX3_holdRow 33 = .ok (.iadd, 1) := decs_at tdX3_holdRow_0 21 rfl
theorem dX3_holdRow_34 : decode cX3_holdRow 34 = .ok (.lconst 0, 1) := decs_at tdX3_holdRow_0 22 rfl
theorem dX3_holdRow_35 : decode cX3_holdRow 35 = .ok (.lastore, 1) := decs_at tdX3_holdRow_0 23 rfl
theorem dX3_holdRow_36 : decode cX3_holdRow 36 = .ok (.iinc 4 1, 3) := decs_at tdX3_holdRow_0 24 rfl
theorem dX3_holdRow_39 : decode cX3_holdRow 39 = .ok (.goto (-22), 3) := decs_at tdX3_holdRow_0 25 rfl
theorem dX3_holdRow_42 : decode cX3_holdRow 42 = .ok (.return_, 1) := decs_at tdX3_holdRow_0 26 rfl
set_option maxRecDepth 20000 in
theorem ggX3_store_X3_asSort : GoodIn wsX3_store wsX3_asSort := goodIn_sub (List.forall_mem_cons.mpr ⟨(List.mem_cons_of_mem _ (List.mem_append_left _ (List.mem_of_getElem? (i := 5) rfl))), (fun _ h => absurd h List.not_mem_nil)⟩) (by decide +kernel)
set_option maxRecDepth 20000 in
theorem gX3_store_X3_asSort : GoodIn wsX3_store (va_wsS RX3 30 yX3_asSort wsX3_asSort) := goodIn_app (goodIn_sub (List.forall_mem_cons.mpr ⟨(List.mem_cons_of_mem _ (List.mem_append_left _ (List.mem_of_getElem? (i := 2) rfl))), List.forall_mem_cons.mpr ⟨(List.mem_cons_of_mem _ (List.mem_append_left _ (List.mem_of_getElem? (i := 3) rfl))), List.forall_mem_cons.mpr ⟨(List.mem_cons_of_mem _ (List.mem_append_left _ (List.mem_of_getElem? (i := 4) rfl))), fun _ h => absurd h List.not_mem_nil⟩⟩⟩) (by decide +kernel)) ggX3_store_X3_asSort
theorem tdX3_store_0 : decs cX3_store [(0, .aload_n 0, 1), (1, .getfield 18, 3), (4, .iload_n 1, 1), (5, .bipush 40, 2), (7, .imul, 1), (8, .iload_n 2, 1), (9, .iadd, 1), (10, .aload_n 0, 1), (11, .getfield 9, 3), (14, .iload_n 1, 1), (15, .iaload, 1), (16, .lload_n 3, 1), (17, .invokestatic 30, 3), (20, .lastore, 1), (21, .return_, 1)] = true := by decide +kernel
theorem dX3_store_0 : decode cX3_store 0 = .ok (.aload_n 0, 1) := decs_at tdX3_store_0 0 rfl
theorem dX3_store_1 : decode cX3_store 1 = .ok (.getfield 18, 3) := decs_at tdX3_store_0 1 rfl
theorem dX3_store_4 : decode cX3_store 4 = .ok (.iload_n 1, 1) := decs_at tdX3_store_0 2 rfl
theorem dX3_store_5 : decode cX3_store 5 = .ok (.bipush 40, 2) := decs_at tdX3_store_0 3 rfl
theorem dX3_store_7 : decode cX3_store 7 = .ok (.imul, 1) := decs_at tdX3_store_0 4 rfl
theorem dX3_store_8 : decode cX3_store 8 = .ok (.iload_n 2, 1) := decs_at tdX3_store_0 5 rfl
theorem dX3_store_9 : decode cX3_store 9 = .ok (.iadd, 1) := decs_at tdX3_store_0 6 rfl
theorem dX3_store_10 : decode cX3_store 10 = .ok (.aload_n 0, 1) := decs_at tdX3_store_0 7 rfl
theorem dX3_store_11 : decode cX3_store 11 = .ok (.getfield 9, 3) := decs_at tdX3_store_0 8 rfl
theorem dX3_store_14 : decode cX3_store 14 = .ok (.iload_n 1, 1) := decs_at tdX3_store_0 9 rfl
theorem dX3_store_15 : decode cX3_store 15 = .ok (.iaload, 1) := decs_at tdX3_store_0 10 rfl
theorem dX3_store_16 : decode cX3_store 16 = .ok (.lload_n 3, 1) := decs_at tdX3_store_0 11 rfl
theorem dX3_store_17 : decode cX3_store 17 = .ok (.invokestatic 30, 3) := decs_at tdX3_store_0 12 rfl
theorem dX3_store_20 : decode cX3_store 20 = .ok (.lastore, 1) := decs_at tdX3_store_0 13 rfl
theorem dX3_store_21 : decode cX3_store 21 = .ok (.return_, 1) := decs_at tdX3_store_0 14 rfl
theorem tdX3_asSort_0 : decs cX3_asSort [(0, .iload_n 0, 1), (1, .tableswitch 61 0 4 #[35, 40, 45, 61, 49], 35), (36, .lload_n 1, 1), (37, .l2i, 1), (38, .i2b, 1), (39, .i2l, 1), (40, .lreturn, 1), (41, .lload_n 1, 1), (42, .l2i, 1), (43, .i2s, 1), (44, .i2l, 1), (45, .lreturn, 1), (46, .lload_n 1, 1), (47, .l2i, 1), (48, .i2l, 1), (49, .lreturn, 1), (50, .lload_n 1, 1), (51, .lconst 0, 1), (52, .lcmp, 1), (53, .ifCond .eq 7, 3), (56, .lconst 1, 1), (57, .goto 4, 3), (60, .lconst 0, 1), (61, .lreturn, 1), (62, .lload_n 1, 1), (63, .lreturn, 1)] = true := by decide +kernel
theorem dX3_asSort_0 : decode cX3_asSort 0 = .ok (.iload_n 0, 1) := decs_at tdX3_asSort_0 0 rfl
theorem dX3_asSort_1 : decode cX3_asSort 1 = .ok (.tableswitch 61 0 4 #[35, 40, 45, 61, 49], 35) := decs_at tdX3_asSort_0 1 rfl
theorem dX3_asSort_36 : decode cX3_asSort 36 = .ok (.lload_n 1, 1) := decs_at tdX3_asSort_0 2 rfl
theorem dX3_asSort_37 : decode cX3_asSort 37 = .ok (.l2i, 1) := decs_at tdX3_asSort_0 3 rfl
theorem dX3_asSort_38 : decode cX3_asSort 38 = .ok (.i2b, 1) := decs_at tdX3_asSort_0 4 rfl
theorem dX3_asSort_39 : decode cX3_asSort 39 = .ok (.i2l, 1) := decs_at tdX3_asSort_0 5 rfl
theorem dX3_asSort_40 : decode cX3_asSort 40 = .ok (.lreturn, 1) := decs_at tdX3_asSort_0 6 rfl
theorem dX3_asSort_41 : decode cX3_asSort 41 = .ok (.lload_n 1, 1) := decs_at tdX3_asSort_0 7 rfl
theorem dX3_asSort_42 : decode cX3_asSort 42 = .ok (.l2i, 1) := decs_at tdX3_asSort_0 8 rfl
theorem dX3_asSort_43 : decode cX3_asSort 43 = .ok (.i2s, 1) := decs_at tdX3_asSort_0 9 rfl
theorem dX3_asSort_44 : decode cX3_asSort 44 = .ok (.i2l, 1) := decs_at tdX3_asSort_0 10 rfl
theorem dX3_asSort_45 : decode cX3_asSort 45 = .ok (.lreturn, 1) := decs_at tdX3_asSort_0 11 rfl
theorem dX3_asSort_46 : decode cX3_asSort 46 = .ok (.lload_n 1, 1) := decs_at tdX3_asSort_0 12 rfl
theorem dX3_asSort_47 : decode cX3_asSort 47 = .ok (.l2i, 1) := decs_at tdX3_asSort_0 13 rfl
theorem dX3_asSort_48 : decode cX3_asSort 48 = .ok (.i2l, 1) := decs_at tdX3_asSort_0 14 rfl
theorem dX3_asSort_49 : decode cX3_asSort 49 = .ok (.lreturn, 1) := decs_at tdX3_asSort_0 15 rfl
theorem dX3_asSort_50 : decode cX3_asSort 50 = .ok (.lload_n 1, 1) := decs_at tdX3_asSort_0 16 rfl
theorem dX3_asSort_51 : decode cX3_asSort 51 = .ok (.lconst 0, 1) := decs_at tdX3_asSort_0 17 rfl
theorem dX3_asSort_52 : decode cX3_asSort 52 = .ok (.lcmp, 1) := decs_at tdX3_asSort_0 18 rfl
theorem dX3_asSort_53 : decode cX3_asSort 53 = .ok (.ifCond .eq 7, 3) := decs_at tdX3_asSort_0 19 rfl
theorem dX3_asSort_56 : decode cX3_asSort 56 = .ok (.lconst 1, 1) := decs_at tdX3_asSort_0 20 rfl
theorem dX3_asSort_57 : decode cX3_asSort 57 = .ok (.goto 4, 3) := decs_at tdX3_asSort_0 21 rfl
theorem dX3_asSort_60 : decode cX3_asSort 60 = .ok (.lconst 0, 1) := decs_at tdX3_asSort_0 22 rfl
theorem dX3_asSort_61 : decode cX3_asSort 61 = .ok (.lreturn, 1) := decs_at tdX3_asSort_0 23 rfl
theorem dX3_asSort_62 : decode cX3_asSort 62 = .ok (.lload_n 1, 1) := decs_at tdX3_asSort_0 24 rfl
theorem dX3_asSort_63 : decode cX3_asSort 63 = .ok (.lreturn, 1) := decs_at tdX3_asSort_0 25 rfl
theorem tdX3_elementAt_0 : decs cX3_elementAt [(0, .aload_n 0, 1), (1, .getfield 18, 3), (4, .iload_n 1, 1), (5, .bipush 40, 2), (7, .imul, 1), (8, .iload_n 2, 1), (9, .iadd, 1), (10, .laload, 1), (11, .lreturn, 1)] = true := by decide +kernel
theorem dX3_elementAt_0 : decode cX3_elementAt 0 = .ok (.aload_n 0, 1) := decs_at tdX3_elementAt_0 0 rfl
theorem dX3_elementAt_1 : decode cX3_elementAt 1 = .ok (.getfield 18, 3) := decs_at tdX3_elementAt_0 1 rfl
theorem dX3_elementAt_4 : decode cX3_elementAt 4 = .ok (.iload_n 1, 1) := decs_at tdX3_elementAt_0 2 rfl
theorem dX3_elementAt_5 : decode cX3_elementAt 5 = .ok (.bipush 40, 2) := decs_at tdX3_elementAt_0 3 rfl
theorem dX3_elementAt_7 : decode cX3_elementAt 7 = .ok (.imul, 1) := decs_at tdX3_elementAt_0 4 rfl
theorem dX3_elementAt_8 : decode cX3_elementAt 8 = .ok (.iload_n 2, 1) := decs_at tdX3_elementAt_0 5 rfl
theorem dX3_elementAt_9 : decode cX3_elementAt 9 = .ok (.iadd, 1) := decs_at tdX3_elementAt_0 6 rfl
theorem dX3_elementAt_10 : decode cX3_elementAt 10 = .ok (.laload, 1) := decs_at tdX3_elementAt_0 7 rfl
theorem dX3_elementAt_11 : decode cX3_elementAt 11 = .ok (.lreturn, 1) := decs_at tdX3_elementAt_0 8 rfl
theorem tdX3_signAt_0 : decs cX3_signAt [(0, .aload_n 0, 1), (1, .getfield 18, 3), (4, .iload_n 1, 1), (5, .bipush 40, 2), (7, .imul, 1), (8, .iload_n 2, 1), (9, .iadd, 1), (10, .laload, 1), (11, .l2i, 1), (12, .ireturn, 1)] = true := by decide +kernel
theorem dX3_signAt_0 : decode cX3_signAt 0 = .ok (.aload_n 0, 1) := decs_at tdX3_signAt_0 0 rfl
theorem dX3_signAt_1 : decode cX3_signAt 1 = .ok (.getfield 18, 3) := decs_at tdX3_signAt_0 1 rfl
theorem dX3_signAt_4 : decode cX3_signAt 4 = .ok (.iload_n 1, 1) := decs_at tdX3_signAt_0 2 rfl
theorem dX3_signAt_5 : decode cX3_signAt 5 = .ok (.bipush 40, 2) := decs_at tdX3_signAt_0 3 rfl
theorem dX3_signAt_7 : decode cX3_signAt 7 = .ok (.imul, 1) := decs_at tdX3_signAt_0 4 rfl
theorem dX3_signAt_8 : decode cX3_signAt 8 = .ok (.iload_n 2, 1) := decs_at tdX3_signAt_0 5 rfl
theorem dX3_signAt_9 : decode cX3_signAt 9 = .ok (.iadd, 1) := decs_at tdX3_signAt_0 6 rfl
theorem dX3_signAt_10 : decode cX3_signAt 10 = .ok (.laload, 1) := decs_at tdX3_signAt_0 7 rfl
theorem dX3_signAt_11 : decode cX3_signAt 11 = .ok (.l2i, 1) := decs_at tdX3_signAt_0 8 rfl
theorem dX3_signAt_12 : decode cX3_signAt 12 = .ok (.ireturn, 1) := decs_at tdX3_signAt_0 9 rfl
theorem tdX3_move_0 : decs cX3_move [(0, .aload_n 0, 1), (1, .getfield 18, 3), (4, .iload_n 1, 1), (5, .bipush 40, 2), (7, .imul, 1), (8, .iload_n 3, 1), (9, .iadd, 1), (10, .aload_n 0, 1), (11, .getfield 18, 3), (14, .iload_n 2, 1), (15, .bipush 40, 2), (17, .imul, 1), (18, .iload 4, 2), (20, .iadd, 1), (21, .iload 5, 2), (23, .invokestatic 34, 3), (26, .return_, 1)] = true := by decide +kernel
theorem dX3_move_0 : decode cX3_move 0 = .ok (.aload_n 0, 1) := decs_at tdX3_move_0 0 rfl
theorem dX3_move_1 : decode cX3_move 1 = .ok (.getfield 18, 3) := decs_at tdX3_move_0 1 rfl
theorem dX3_move_4 : decode cX3_move 4 = .ok (.iload_n 1, 1) := decs_at tdX3_move_0 2 rfl
theorem dX3_move_5 : decode cX3_move 5 = .ok (.bipush 40, 2) := decs_at tdX3_move_0 3 rfl
theorem dX3_move_7 : decode cX3_move 7 = .ok (.imul, 1) := decs_at tdX3_move_0 4 rfl
theorem dX3_move_8 : decode cX3_move 8 = .ok (.iload_n 3, 1) := decs_at tdX3_move_0 5 rfl
theorem dX3_move_9 : decode cX3_move 9 = .ok (.iadd, 1) := decs_at tdX3_move_0 6 rfl
theorem dX3_move_10 : decode cX3_move 10 = .ok (.aload_n 0, 1) := decs_at tdX3_move_0 7 rfl
theorem dX3_move_11 : decode cX3_move 11 = .ok (.getfield 18, 3) := decs_at tdX3_move_0 8 rfl
theorem dX3_move_14 : decode cX3_move 14 = .ok (.iload_n 2, 1) := decs_at tdX3_move_0 9 rfl
theorem dX3_move_15 : decode cX3_move 15 = .ok (.bipush 40, 2) := decs_at tdX3_move_0 10 rfl
theorem dX3_move_17 : decode cX3_move 17 = .ok (.imul, 1) := decs_at tdX3_move_0 11 rfl
theorem dX3_move_18 : decode cX3_move 18 = .ok (.iload 4, 2) := decs_at tdX3_move_0 12 rfl
theorem dX3_move_20 : decode cX3_move 20 = .ok (.iadd, 1) := decs_at tdX3_move_0 13 rfl
theorem dX3_move_21 : decode cX3_move 21 = .ok (.iload 5, 2) := decs_at tdX3_move_0 14 rfl
theorem dX3_move_23 : decode cX3_move 23 = .ok (.invokestatic 34, 3) := decs_at tdX3_move_0 15 rfl
theorem dX3_move_26 : decode cX3_move 26 = .ok (.return_, 1) := decs_at tdX3_move_0 16 rfl
set_option maxRecDepth 20000 in
theorem pl_wsX3_firstWrong_wsX30 : ∀ w ∈ wsX30, w ∈ wsX3_firstWrong := fun _ h => List.mem_cons_of_mem _ (List.mem_append_right _ (h))
theorem ggX3_firstWrong_X3_elementAt : GoodIn wsX3_firstWrong wsX3_elementAt := goodIn_sub (List.forall_mem_cons.mpr ⟨(List.mem_cons_of_mem _ (List.mem_append_left _ (List.mem_of_getElem? (i := 5) rfl))), (fun w h => (List.mem_append.mp h).elim ((List.forall_mem_cons.mpr ⟨(List.mem_cons_of_mem _ (List.mem_append_left _ (List.mem_of_getElem? (i := 6) rfl))), fun _ h => absurd h List.not_mem_nil⟩) w) (pl_wsX3_firstWrong_wsX30 w))⟩) (by decide +kernel)
set_option maxRecDepth 20000 in
theorem gX3_firstWrong_X3_elementAt : GoodIn wsX3_firstWrong (wsV RX3 40 RX3 yX3_elementAt wsX3_elementAt) := goodIn_app (goodIn_sub (List.forall_mem_cons.mpr ⟨(List.mem_cons_of_mem _ (List.mem_append_left _ (List.mem_of_getElem? (i := 1) rfl))), List.forall_mem_cons.mpr ⟨(List.mem_cons_of_mem _ (List.mem_append_left _ (List.mem_of_getElem? (i := 2) rfl))), List.forall_mem_cons.mpr ⟨(List.mem_cons_of_mem _ (List.mem_append_left _ (List.mem_of_getElem? (i := 3) rfl))), List.forall_mem_cons.mpr ⟨(List.mem_cons_of_mem _ (List.mem_append_left _ (List.mem_of_getElem? (i := 4) rfl))), fun _ h => absurd h List.not_mem_nil⟩⟩⟩⟩) (by decide +kernel)) ggX3_firstWrong_X3_elementAt
theorem tdX3_firstWrong_0 : decs cX3_firstWrong [(0, .iconst 0, 1), (1, .istore_n 3, 1), (2, .iload_n 3, 1), (3, .iload_n 2, 1), (4, .if_icmp .ge 35, 3), (7, .aload_n 0, 1), (8, .iload_n 1, 1), (9, .iload_n 3, 1), (10, .invokevirtual 40, 3), (13, .lstore 4, 2), (15, .lload 4, 2), (17, .lconst 0, 1), (18, .lcmp, 1), (19, .ifCond .lt 12, 3), (22, .lload 4, 2), (24, .ldc2_w 44, 3), (27, .lcmp, 1), (28, .ifCond .le 5, 3), (31, .iload_n 3, 1), (32, .ireturn, 1), (33, .iinc 3 1, 3), (36, .goto (-34), 3), (39, .iconst (-1), 1), (40, .ireturn, 1)] = true := by decide +kernel
theorem dX3_firstWrong_0 : decode cX3_firstWrong 0 = .ok (.iconst 0, 1) := decs_at tdX3_firstWrong_0 0 rfl
theorem dX3_firstWrong_1 : decode cX3_firstWrong 1 = .ok (.istore_n 3, 1) := decs_at tdX3_firstWrong_0 1 rfl
theorem dX3_firstWrong_2 : decode cX3_firstWrong 2 = .ok (.iload_n 3, 1) := decs_at tdX3_firstWrong_0 2 rfl
theorem dX3_firstWrong_3 : decode cX3_firstWrong 3 = .ok (.iload_n 2, 1) := decs_at tdX3_firstWrong_0 3 rfl
theorem dX3_firstWrong_4 : decode cX3_firstWrong 4 = .ok (.if_icmp .ge 35, 3) := decs_at tdX3_firstWrong_0 4 rfl
theorem dX3_firstWrong_7 : decode cX3_firstWrong 7 = .ok (.aload_n 0, 1) := decs_at tdX3_firstWrong_0 5 rfl
theorem dX3_firstWrong_8 : decode cX3_firstWrong 8 = .ok (.iload_n 1, 1) := decs_at tdX3_firstWrong_0 6 rfl
theorem dX3_firstWrong_9 : decode cX3_firstWrong 9 = .ok (.iload_n 3, 1) := decs_at tdX3_firstWrong_0 7 rfl
theorem dX3_firstWrong_10 : decode cX3_firstWrong 10 = .ok (.invokevirtual 40, 3) := decs_at tdX3_firstWrong_0 8 rfl
theorem dX3_firstWrong_13 : decode cX3_firstWrong 13 = .ok (.lstore 4, 2) := decs_at tdX3_firstWrong_0 9 rfl
theorem dX3_firstWrong_15 : decode cX3_firstWrong 15 = .ok (.lload 4, 2) := decs_at tdX3_firstWrong_0 10 rfl
theorem dX3_firstWrong_17 : decode cX3_firstWrong 17 = .ok (.lconst 0, 1) := decs_at tdX3_firstWrong_0 11 rfl
theorem dX3_firstWrong_18 : decode cX3_firstWrong 18 = .ok (.lcmp, 1) := decs_at tdX3_firstWrong_0 12 rfl
theorem dX3_firstWrong_19 : decode cX3_firstWrong 19 = .ok (.ifCond .lt 12, 3) := decs_at tdX3_firstWrong_0 13 rfl
theorem dX3_firstWrong_22 : decode cX3_firstWrong 22 = .ok (.lload 4, 2) := decs_at tdX3_firstWrong_0 14 rfl
theorem dX3_firstWrong_24 : decode cX3_firstWrong 24 = .ok (.ldc2_w 44, 3) := decs_at tdX3_firstWrong_0 15 rfl
theorem dX3_firstWrong_27 : decode cX3_firstWrong 27 = .ok (.lcmp, 1) := decs_at tdX3_firstWrong_0 16 rfl
theorem dX3_firstWrong_28 : decode cX3_firstWrong 28 = .ok (.ifCond .le 5, 3) := decs_at tdX3_firstWrong_0 17 rfl
theorem dX3_firstWrong_31 : decode cX3_firstWrong 31 = .ok (.iload_n 3, 1) := decs_at tdX3_firstWrong_0 18 rfl
theorem dX3_firstWrong_32 : decode cX3_firstWrong 32 = .ok (.ireturn, 1) := decs_at tdX3_firstWrong_0 19 rfl
theorem dX3_firstWrong_33 : decode cX3_firstWrong 33 = .ok (.iinc 3 1, 3) := decs_at tdX3_firstWrong_0 20 rfl
theorem dX3_firstWrong_36 : decode cX3_firstWrong 36 = .ok (.goto (-34), 3) := decs_at tdX3_firstWrong_0 21 rfl
theorem dX3_firstWrong_39 : decode cX3_firstWrong 39 = .ok (.iconst (-1), 1) := decs_at tdX3_firstWrong_0 22 rfl
theorem dX3_firstWrong_40 : decode cX3_firstWrong 40 = .ok (.ireturn, 1) := decs_at tdX3_firstWrong_0 23 rfl
set_option maxRecDepth 20000 in
theorem pl_wsX3_dropOnesFrom_wsX30 : ∀ w ∈ wsX30, w ∈ wsX3_dropOnesFrom := fun _ h => List.mem_cons_of_mem _ (List.mem_append_right _ (h))
theorem ggX3_dropOnesFrom_X3_oneIn : GoodIn wsX3_dropOnesFrom wsX3_oneIn := goodIn_sub (List.forall_mem_cons.mpr ⟨(List.mem_cons_of_mem _ (List.mem_append_left _ (List.mem_of_getElem? (i := 4) rfl))), (fun w h => (List.mem_append.mp h).elim ((List.forall_mem_cons.mpr ⟨(List.mem_cons_of_mem _ (List.mem_append_left _ (List.mem_of_getElem? (i := 5) rfl))), List.forall_mem_cons.mpr ⟨(List.mem_cons_of_mem _ (List.mem_append_left _ (List.mem_of_getElem? (i := 6) rfl))), List.forall_mem_cons.mpr ⟨(List.mem_cons_of_mem _ (List.mem_append_left _ (List.mem_of_getElem? (i := 7) rfl))), List.forall_mem_cons.mpr ⟨(List.mem_cons_of_mem _ (List.mem_append_left _ (List.mem_of_getElem? (i := 8) rfl))), List.forall_mem_cons.mpr ⟨(List.mem_cons_of_mem _ (List.mem_append_left _ (List.mem_of_getElem? (i := 3) rfl))), List.forall_mem_cons.mpr ⟨(List.mem_cons_of_mem _ (List.mem_append_left _ (List.mem_of_getElem? (i := 9) rfl))), fun _ h => absurd h List.not_mem_nil⟩⟩⟩⟩⟩⟩) w) (pl_wsX3_dropOnesFrom_wsX30 w))⟩) (by decide +kernel)
set_option maxRecDepth 20000 in
theorem gX3_dropOnesFrom_X3_oneIn : GoodIn wsX3_dropOnesFrom (wsV RX3 46 RX3 yX3_oneIn wsX3_oneIn) := goodIn_app (goodIn_sub (List.forall_mem_cons.mpr ⟨(List.mem_cons_of_mem _ (List.mem_append_left _ (List.mem_of_getElem? (i := 0) rfl))), List.forall_mem_cons.mpr ⟨(List.mem_cons_of_mem _ (List.mem_append_left _ (List.mem_of_getElem? (i := 1) rfl))), List.forall_mem_cons.mpr ⟨(List.mem_cons_of_mem _ (List.mem_append_left _ (List.mem_of_getElem? (i := 2) rfl))), List.forall_mem_cons.mpr ⟨(List.mem_cons_of_mem _ (List.mem_append_left _ (List.mem_of_getElem? (i := 3) rfl))), fun _ h => absurd h List.not_mem_nil⟩⟩⟩⟩) (by decide +kernel)) ggX3_dropOnesFrom_X3_oneIn
set_option maxRecDepth 20000 in
theorem ggX3_dropOnesFrom_X3_holdNothing : GoodIn wsX3_dropOnesFrom wsX3_holdNothing := goodIn_sub (List.forall_mem_cons.mpr ⟨(List.mem_cons_of_mem _ (List.mem_append_left _ (List.mem_of_getElem? (i := 13) rfl))), (fun w h => (List.mem_append.mp h).elim ((List.forall_mem_cons.mpr ⟨(List.mem_cons_of_mem _ (List.mem_append_left _ (List.mem_of_getElem? (i := 5) rfl))), List.forall_mem_cons.mpr ⟨(List.mem_cons_of_mem _ (List.mem_append_left _ (List.mem_of_getElem? (i := 14) rfl))), fun _ h => absurd h List.not_mem_nil⟩⟩) w) (pl_wsX3_dropOnesFrom_wsX30 w))⟩) (by decide +kernel)
set_option maxRecDepth 20000 in
theorem gX3_dropOnesFrom_X3_holdNothing : GoodIn wsX3_dropOnesFrom (wsV RX3 50 RX3 yX3_holdNothing wsX3_holdNothing) := goodIn_app (goodIn_sub (List.forall_mem_cons.mpr ⟨(List.mem_cons_of_mem _ (List.mem_append_left _ (List.mem_of_getElem? (i := 10) rfl))), List.forall_mem_cons.mpr ⟨(List.mem_cons_of_mem _ (List.mem_append_left _ (List.mem_of_getElem? (i := 11) rfl))), List.forall_mem_cons.mpr ⟨(List.mem_cons_of_mem _ (List.mem_append_left _ (List.mem_of_getElem? (i := 12) rfl))), List.forall_mem_cons.mpr ⟨(List.mem_cons_of_mem _ (List.mem_append_left _ (List.mem_of_getElem? (i := 3) rfl))), fun _ h => absurd h List.not_mem_nil⟩⟩⟩⟩) (by decide +kernel)) ggX3_dropOnesFrom_X3_holdNothing
theorem tdX3_dropOnesFrom_0 : decs cX3_dropOnesFrom [(0, .iconst 0, 1), (1, .istore_n 2, 1), (2, .iload_n 2, 1), (3, .bipush 8, 2), (5, .if_icmp .ge 23, 3), (8, .aload_n 0, 1), (9, .iload_n 2, 1), (10, .invokevirtual 46, 3), (13, .iload_n 1, 1), (14, .if_icmp .lt 8, 3), (17, .aload_n 0, 1), (18, .iload_n 2, 1), (19, .invokevirtual 50, 3), (22, .iinc 2 1, 3), (25, .goto (-23), 3), (28, .return_, 1)] = true := by decide +kernel
theorem dX3_dropOnesFrom_0 : decode cX3_dropOnesFrom 0 = .ok (.iconst 0, 1) := decs_at tdX3_dropOnesFrom_0 0 rfl
theorem dX3_dropOnesFrom_1 : decode cX3_dropOnesFrom 1 = .ok (.istore_n 2, 1) := decs_at tdX3_dropOnesFrom_0 1 rfl
theorem dX3_dropOnesFrom_2 : decode cX3_dropOnesFrom 2 = .ok (.iload_n 2, 1) := decs_at tdX3_dropOnesFrom_0 2 rfl
theorem dX3_dropOnesFrom_3 : decode cX3_dropOnesFrom 3 = .ok (.bipush 8, 2) := decs_at tdX3_dropOnesFrom_0 3 rfl
theorem dX3_dropOnesFrom_5 : decode cX3_dropOnesFrom 5 = .ok (.if_icmp .ge 23, 3) := decs_at tdX3_dropOnesFrom_0 4 rfl
theorem dX3_dropOnesFrom_8 : decode cX3_dropOnesFrom 8 = .ok (.aload_n 0, 1) := decs_at tdX3_dropOnesFrom_0 5 rfl
theorem dX3_dropOnesFrom_9 : decode cX3_dropOnesFrom 9 = .ok (.iload_n 2, 1) := decs_at tdX3_dropOnesFrom_0 6 rfl
theorem dX3_dropOnesFrom_10 : decode cX3_dropOnesFrom 10 = .ok (.invokevirtual 46, 3) := decs_at tdX3_dropOnesFrom_0 7 rfl
theorem dX3_dropOnesFrom_13 : decode cX3_dropOnesFrom 13 = .ok (.iload_n 1, 1) := decs_at tdX3_dropOnesFrom_0 8 rfl
theorem dX3_dropOnesFrom_14 : decode cX3_dropOnesFrom 14 = .ok (.if_icmp .lt 8, 3) := decs_at tdX3_dropOnesFrom_0 9 rfl
theorem dX3_dropOnesFrom_17 : decode cX3_dropOnesFrom 17 = .ok (.aload_n 0, 1) := decs_at tdX3_dropOnesFrom_0 10 rfl
theorem dX3_dropOnesFrom_18 : decode cX3_dropOnesFrom 18 = .ok (.iload_n 2, 1) := decs_at tdX3_dropOnesFrom_0 11 rfl
theorem dX3_dropOnesFrom_19 : decode cX3_dropOnesFrom 19 = .ok (.invokevirtual 50, 3) := decs_at tdX3_dropOnesFrom_0 12 rfl
theorem dX3_dropOnesFrom_22 : decode cX3_dropOnesFrom 22 = .ok (.iinc 2 1, 3) := decs_at tdX3_dropOnesFrom_0 13 rfl
theorem dX3_dropOnesFrom_25 : decode cX3_dropOnesFrom 25 = .ok (.goto (-23), 3) := decs_at tdX3_dropOnesFrom_0 14 rfl
theorem dX3_dropOnesFrom_28 : decode cX3_dropOnesFrom 28 = .ok (.return_, 1) := decs_at tdX3_dropOnesFrom_0 15 rfl
set_option maxRecDepth 20000 in
theorem ggX3_howManyHold_X5_asNumber : GoodIn wsX3_howManyHold wsX5_asNumber := goodIn_sub (List.forall_mem_cons.mpr ⟨(List.mem_cons_of_mem _ (List.mem_append_left _ (List.mem_of_getElem? (i := 3) rfl))), (fun _ h => absurd h List.not_mem_nil)⟩) (by decide +kernel)
set_option maxRecDepth 20000 in
theorem gX3_howManyHold_X5_asNumber_n54 : GoodIn wsX3_howManyHold (wsX5_asNumber) := ggX3_howManyHold_X5_asNumber
theorem tdX3_howManyHold_0 : decs cX3_howManyHold [(0, .iconst 0, 1), (1, .istore_n 1, 1), (2, .iconst 0, 1), (3, .istore_n 2, 1), (4, .iload_n 2, 1), (5, .bipush 8, 2), (7, .if_icmp .ge 30, 3), (10, .iload_n 1, 1), (11, .aload_n 0, 1), (12, .getfield 9, 3), (15, .iload_n 2, 1), (16, .iaload, 1), (17, .iconst (-1), 1), (18, .if_icmp .eq 7, 3), (21, .iconst 1, 1), (22, .goto 4, 3), (25, .iconst 0, 1), (26, .invokestatic 54, 3), (29, .iadd, 1), (30, .istore_n 1, 1), (31, .iinc 2 1, 3), (34, .goto (-30), 3), (37, .iload_n 1, 1), (38, .ireturn, 1)] = true := by decide +kernel
theorem dX3_howManyHold_0 : decode cX3_howManyHold 0 = .ok (.iconst 0, 1) := decs_at tdX3_howManyHold_0 0 rfl
theorem dX3_howManyHold_1 : decode cX3_howManyHold 1 = .ok (.istore_n 1, 1) := decs_at tdX3_howManyHold_0 1 rfl
theorem dX3_howManyHold_2 : decode cX3_howManyHold 2 = .ok (.iconst 0, 1) := decs_at tdX3_howManyHold_0 2 rfl
theorem dX3_howManyHold_3 : decode cX3_howManyHold 3 = .ok (.istore_n 2, 1) := decs_at tdX3_howManyHold_0 3 rfl
theorem dX3_howManyHold_4 : decode cX3_howManyHold 4 = .ok (.iload_n 2, 1) := decs_at tdX3_howManyHold_0 4 rfl
theorem dX3_howManyHold_5 : decode cX3_howManyHold 5 = .ok (.bipush 8, 2) := decs_at tdX3_howManyHold_0 5 rfl
theorem dX3_howManyHold_7 : decode cX3_howManyHold 7 = .ok (.if_icmp .ge 30, 3) := decs_at tdX3_howManyHold_0 6 rfl
theorem dX3_howManyHold_10 : decode cX3_howManyHold 10 = .ok (.iload_n 1, 1) := decs_at tdX3_howManyHold_0 7 rfl
theorem dX3_howManyHold_11 : decode cX3_howManyHold 11 = .ok (.aload_n 0, 1) := decs_at tdX3_howManyHold_0 8 rfl
theorem dX3_howManyHold_12 : decode cX3_howManyHold 12 = .ok (.getfield 9, 3) := decs_at tdX3_howManyHold_0 9 rfl
theorem dX3_howManyHold_15 : decode cX3_howManyHold 15 = .ok (.iload_n 2, 1) := decs_at tdX3_howManyHold_0 10 rfl
theorem dX3_howManyHold_16 : decode cX3_howManyHold 16 = .ok (.iaload, 1) := decs_at tdX3_howManyHold_0 11 rfl
theorem dX3_howManyHold_17 : decode cX3_howManyHold 17 = .ok (.iconst (-1), 1) := decs_at tdX3_howManyHold_0 12 rfl
theorem dX3_howManyHold_18 : decode cX3_howManyHold 18 = .ok (.if_icmp .eq 7, 3) := decs_at tdX3_howManyHold_0 13 rfl
theorem dX3_howManyHold_21 : decode cX3_howManyHold 21 = .ok (.iconst 1, 1) := decs_at tdX3_howManyHold_0 14 rfl
theorem dX3_howManyHold_22 : decode cX3_howManyHold 22 = .ok (.goto 4, 3) := decs_at tdX3_howManyHold_0 15 rfl
theorem dX3_howManyHold_25 : decode cX3_howManyHold 25 = .ok (.iconst 0, 1) := decs_at tdX3_howManyHold_0 16 rfl
theorem dX3_howManyHold_26 : decode cX3_howManyHold 26 = .ok (.invokestatic 54, 3) := decs_at tdX3_howManyHold_0 17 rfl
theorem dX3_howManyHold_29 : decode cX3_howManyHold 29 = .ok (.iadd, 1) := decs_at tdX3_howManyHold_0 18 rfl
theorem dX3_howManyHold_30 : decode cX3_howManyHold 30 = .ok (.istore_n 1, 1) := decs_at tdX3_howManyHold_0 19 rfl
theorem dX3_howManyHold_31 : decode cX3_howManyHold 31 = .ok (.iinc 2 1, 3) := decs_at tdX3_howManyHold_0 20 rfl
theorem dX3_howManyHold_34 : decode cX3_howManyHold 34 = .ok (.goto (-30), 3) := decs_at tdX3_howManyHold_0 21 rfl
theorem dX3_howManyHold_37 : decode cX3_howManyHold 37 = .ok (.iload_n 1, 1) := decs_at tdX3_howManyHold_0 22 rfl
theorem dX3_howManyHold_38 : decode cX3_howManyHold 38 = .ok (.ireturn, 1) := decs_at tdX3_howManyHold_0 23 rfl
theorem tdX4_init_0 : decs cX4_init [(0, .aload_n 0, 1), (1, .invokespecial 3, 3), (4, .aload_n 0, 1), (5, .iconst 0, 1), (6, .putfield 9, 3), (9, .aload_n 0, 1), (10, .iconst 0, 1), (11, .putfield 15, 3), (14, .aload_n 0, 1), (15, .iconst 0, 1), (16, .putfield 18, 3), (19, .aload_n 0, 1), (20, .iconst 0, 1), (21, .putfield 21, 3), (24, .aload_n 0, 1), (25, .iconst 0, 1), (26, .putfield 24, 3), (29, .aload_n 0, 1), (30, .iconst 0, 1), (31, .putfield 27, 3), (34, .aload_n 0, 1), (35, .iconst (-1), 1), (36, .putfield 30, 3), (39, .aload_n 0, 1), (40, .iconst 0, 1), (41, .putfield 33, 3), (44, .aload_n 0, 1), (45, .iconst 0, 1), (46, .putfield 37, 3), (49, .aload_n 0, 1), (50, .iconst 0, 1), (51, .putfield 40, 3), (54, .aload_n 0, 1), (55, .aload_n 1, 1), (56, .putfield 43, 3), (59, .return_, 1)] = true := by decide +kernel
theorem dX4_init_0 : decode cX4_init 0 = .ok (.aload_n 0, 1) := decs_at tdX4_init_0 0 rfl
theorem dX4_init_1 : decode cX4_init 1 = .ok (.invokespecial 3, 3) := decs_at tdX4_init_0 1 rfl
theorem dX4_init_4 : decode cX4_init 4 = .ok (.aload_n 0, 1) := decs_at tdX4_init_0 2 rfl
theorem dX4_init_5 : decode cX4_init 5 = .ok (.iconst 0, 1) := decs_at tdX4_init_0 3 rfl
theorem dX4_init_6 : decode cX4_init 6 = .ok (.putfield 9, 3) := decs_at tdX4_init_0 4 rfl
theorem dX4_init_9 : decode cX4_init 9 = .ok (.aload_n 0, 1) := decs_at tdX4_init_0 5 rfl
theorem dX4_init_10 : decode cX4_init 10 = .ok (.iconst 0, 1) := decs_at tdX4_init_0 6 rfl
theorem dX4_init_11 : decode cX4_init 11 = .ok (.putfield 15, 3) := decs_at tdX4_init_0 7 rfl
theorem dX4_init_14 : decode cX4_init 14 = .ok (.aload_n 0, 1) := decs_at tdX4_init_0 8 rfl
theorem dX4_init_15 : decode cX4_init 15 = .ok (.iconst 0, 1) := decs_at tdX4_init_0 9 rfl
theorem dX4_init_16 : decode cX4_init 16 = .ok (.putfield 18, 3) := decs_at tdX4_init_0 10 rfl
theorem dX4_init_19 : decode cX4_init 19 = .ok (.aload_n 0, 1) := decs_at tdX4_init_0 11 rfl
theorem dX4_init_20 : decode cX4_init 20 = .ok (.iconst 0, 1) := decs_at tdX4_init_0 12 rfl
theorem dX4_init_21 : decode cX4_init 21 = .ok (.putfield 21, 3) := decs_at tdX4_init_0 13 rfl
theorem dX4_init_24 : decode cX4_init 24 = .ok (.aload_n 0, 1) := decs_at tdX4_init_0 14 rfl
theorem dX4_init_25 : decode cX4_init 25 = .ok (.iconst 0, 1) := decs_at tdX4_init_0 15 rfl
theorem dX4_init_26 : decode cX4_init 26 = .ok (.putfield 24, 3) := decs_at tdX4_init_0 16 rfl
theorem dX4_init_29 : decode cX4_init 29 = .ok (.aload_n 0, 1) := decs_at tdX4_init_0 17 rfl
theorem dX4_init_30 : decode cX4_init 30 = .ok (.iconst 0, 1) := decs_at tdX4_init_0 18 rfl
theorem dX4_init_31 : decode cX4_init 31 = .ok (.putfield 27, 3) := decs_at tdX4_init_0 19 rfl
theorem dX4_init_34 : decode cX4_init 34 = .ok (.aload_n 0, 1) := decs_at tdX4_init_0 20 rfl
theorem dX4_init_35 : decode cX4_init 35 = .ok (.iconst (-1), 1) := decs_at tdX4_init_0 21 rfl
theorem dX4_init_36 : decode cX4_init 36 = .ok (.putfield 30, 3) := decs_at tdX4_init_0 22 rfl
theorem dX4_init_39 : decode cX4_init 39 = .ok (.aload_n 0, 1) := decs_at tdX4_init_0 23 rfl
theorem dX4_init_40 : decode cX4_init 40 = .ok (.iconst 0, 1) := decs_at tdX4_init_0 24 rfl
theorem dX4_init_41 : decode cX4_init 41 = .ok (.putfield 33, 3) := decs_at tdX4_init_0 25 rfl
theorem dX4_init_44 : decode cX4_init 44 = .ok (.aload_n 0, 1) := decs_at tdX4_init_0 26 rfl
theorem dX4_init_45 : decode cX4_init 45 = .ok (.iconst 0, 1) := decs_at tdX4_init_0 27 rfl
theorem dX4_init_46 : decode cX4_init 46 = .ok (.putfield 37, 3) := decs_at tdX4_init_0 28 rfl
theorem dX4_init_49 : decode cX4_init 49 = .ok (.aload_n 0, 1) := decs_at tdX4_init_0 29 rfl
theorem dX4_init_50 : decode cX4_init 50 = .ok (.iconst 0, 1) := decs_at tdX4_init_0 30 rfl
theorem dX4_init_51 : decode cX4_init 51 = .ok (.putfield 40, 3) := decs_at tdX4_init_0 31 rfl
theorem dX4_init_54 : decode cX4_init 54 = .ok (.aload_n 0, 1) := decs_at tdX4_init_0 32 rfl
theorem dX4_init_55 : decode cX4_init 55 = .ok (.aload_n 1, 1) := decs_at tdX4_init_0 33 rfl
theorem dX4_init_56 : decode cX4_init 56 = .ok (.putfield 43, 3) := decs_at tdX4_init_0 34 rfl
theorem dX4_init_59 : decode cX4_init 59 = .ok (.return_, 1) := decs_at tdX4_init_0 35 rfl
set_option maxRecDepth 20000 in
theorem pl_wsX4_begin_wsX00 : ∀ w ∈ wsX00, w ∈ wsX4_begin := fun _ h => List.mem_cons_of_mem _ (List.mem_append_right _ (h))
theorem ggX4_begin_X0_isOne : GoodIn wsX4_begin wsX0_isOne := goodIn_sub (List.forall_mem_cons.mpr ⟨(List.mem_cons_of_mem _ (List.mem_append_left _ (List.mem_append_left _ (List.mem_of_getElem? (i := 15) rfl)))), (fun w h => (List.mem_append.mp h).elim ((List.forall_mem_cons.mpr ⟨(List.mem_cons_of_mem _ (List.mem_append_left _ (List.mem_append_left _ (List.mem_of_getElem? (i := 16) rfl)))), List.forall_mem_cons.mpr ⟨(List.mem_cons_of_mem _ (List.mem_append_left _ (List.mem_append_left _ (List.mem_of_getElem? (i := 17) rfl)))), List.forall_mem_cons.mpr ⟨(List.mem_cons_of_mem _ (List.mem_append_left _ (List.mem_append_left _ (List.mem_of_getElem? (i := 18) rfl)))), List.forall_mem_cons.mpr ⟨(List.mem_cons_of_mem _ (List.mem_append_left _ (List.mem_append_left _ (List.mem_of_getElem? (i := 19) rfl)))), fun _ h => absurd h List.not_mem_nil⟩⟩⟩⟩) w) (pl_wsX4_begin_wsX00 w))⟩) (by decide +kernel)
set_option maxRecDepth 20000 in
theorem gX4_begin_X0_isOne : GoodIn wsX4_begin (wsV RX4 47 RX0 yX0_isOne wsX0_isOne) := goodIn_app (goodIn_sub (List.forall_mem_cons.mpr ⟨(List.mem_cons_of_mem _ (List.mem_append_left _ (List.mem_append_left _ (List.mem_of_getElem? (i := 11) rfl)))), List.forall_mem_cons.mpr ⟨(List.mem_cons_of_mem _ (List.mem_append_left _ (List.mem_append_left _ (List.mem_of_getElem? (i := 12) rfl)))), List.forall_mem_cons.mpr ⟨(List.mem_cons_of_mem _ (List.mem_append_left _ (List.mem_append_left _ (List.mem_of_getElem? (i := 13) rfl)))), List.forall_mem_cons.mpr ⟨(List.mem_cons_of_mem _ (List.mem_append_left _ (List.mem_append_left _ (List.mem_of_getElem? (i := 14) rfl)))), fun _ h => absurd h List.not_mem_nil⟩⟩⟩⟩) (by decide +kernel)) ggX4_begin_X0_isOne
theorem tdX4_begin_0 : decs cX4_begin [(0, .aload_n 0, 1), (1, .getfield 43, 3), (4, .iload_n 1, 1), (5, .invokevirtual 47, 3), (8, .ifCond .ne 4, 3), (11, .return_, 1), (12, .aload_n 0, 1), (13, .aload_n 0, 1), (14, .getfield 43, 3), (17, .getfield 53, 3), (20, .iload_n 1, 1), (21, .iaload, 1), (22, .putfield 9, 3), (25, .aload_n 0, 1), (26, .aload_n 0, 1), (27, .getfield 43, 3), (30, .getfield 57, 3), (33, .putfield 15, 3), (36, .aload_n 0, 1), (37, .aload_n 0, 1), (38, .getfield 43, 3), (41, .getfield 58, 3), (44, .iload_n 1, 1), (45, .iaload, 1), (46, .putfield 18, 3), (49, .aload_n 0, 1), (50, .aload_n 0, 1), (51, .getfield 43, 3), (54, .getfield 61, 3), (57, .iload_n 1, 1), (58, .iaload, 1), (59, .putfield 21, 3), (62, .aload_n 0, 1), (63, .aload_n 0, 1), (64, .getfield 43, 3), (67, .getfield 64, 3), (70, .iload_n 1, 1), (71, .iaload, 1), (72, .putfield 24, 3), (75, .aload_n 0, 1)] = true := by decide +kernel
theorem dX4_begin_0 : decode cX4_begin 0 = .ok (.aload_n 0, 1) := decs_at tdX4_begin_0 0 rfl
theorem dX4_begin_1 : decode cX4_begin 1 = .ok (.getfield 43, 3) := decs_at tdX4_begin_0 1 rfl
theorem dX4_begin_4 : decode cX4_begin 4 = .ok (.iload_n 1, 1) := decs_at tdX4_begin_0 2 rfl
theorem dX4_begin_5 : decode cX4_begin 5 = .ok (.invokevirtual 47, 3) := decs_at tdX4_begin_0 3 rfl
theorem dX4_begin_8 : decode cX4_begin 8 = .ok (.ifCond .ne 4, 3) := decs_at tdX4_begin_0 4 rfl
theorem dX4_begin_11 : decode cX4_begin 11 = .ok (.return_, 1) := decs_at tdX4_begin_0 5 rfl
theorem dX4_begin_12 : decode cX4_begin 12 = .ok (.aload_n 0, 1) := decs_at tdX4_begin_0 6 rfl
theorem dX4_begin_13 : decode cX4_begin 13 = .ok (.aload_n 0, 1) := decs_at tdX4_begin_0 7 rfl
theorem dX4_begin_14 : decode cX4_begin 14 = .ok (.getfield 43, 3) := decs_at tdX4_begin_0 8 rfl
theorem dX4_begin_17 : decode cX4_begin 17 = .ok (.getfield 53, 3) := decs_at tdX4_begin_0 9 rfl
theorem dX4_begin_20 : decode cX4_begin 20 = .ok (.iload_n 1, 1) := decs_at tdX4_begin_0 10 rfl
theorem dX4_begin_21 : decode cX4_begin 21 = .ok (.iaload, 1) := decs_at tdX4_begin_0 11 rfl
theorem dX4_begin_22 : decode cX4_begin 22 = .ok (.putfield 9, 3) := decs_at tdX4_begin_0 12 rfl
theorem dX4_begin_25 : decode cX4_begin 25 = .ok (.aload_n 0, 1) := decs_at tdX4_begin_0 13 rfl
theorem dX4_begin_26 : decode cX4_begin 26 = .ok (.aload_n 0, 1) := decs_at tdX4_begin_0 14 rfl
theorem dX4_begin_27 : decode cX4_begin 27 = .ok (.getfield 43, 3) := decs_at tdX4_begin_0 15 rfl
theorem dX4_begin_30 : decode cX4_begin 30 = .ok (.getfield 57, 3) := decs_at tdX4_begin_0 16 rfl
theorem dX4_begin_33 : decode cX4_begin 33 = .ok (.putfield 15, 3) := decs_at tdX4_begin_0 17 rfl
theorem dX4_begin_36 : decode cX4_begin 36 = .ok (.aload_n 0, 1) := decs_at tdX4_begin_0 18 rfl
theorem dX4_begin_37 : decode cX4_begin 37 = .ok (.aload_n 0, 1) := decs_at tdX4_begin_0 19 rfl
theorem dX4_begin_38 : decode cX4_begin 38 = .ok (.getfield 43, 3) := decs_at tdX4_begin_0 20 rfl
theorem dX4_begin_41 : decode cX4_begin 41 = .ok (.getfield 58, 3) := decs_at tdX4_begin_0 21 rfl
theorem dX4_begin_44 : decode cX4_begin 44 = .ok (.iload_n 1, 1) := decs_at tdX4_begin_0 22 rfl
theorem dX4_begin_45 : decode cX4_begin 45 = .ok (.iaload, 1) := decs_at tdX4_begin_0 23 rfl
theorem dX4_begin_46 : decode cX4_begin 46 = .ok (.putfield 18, 3) := decs_at tdX4_begin_0 24 rfl
theorem dX4_begin_49 : decode cX4_begin 49 = .ok (.aload_n 0, 1) := decs_at tdX4_begin_0 25 rfl
theorem dX4_begin_50 : decode cX4_begin 50 = .ok (.aload_n 0, 1) := decs_at tdX4_begin_0 26 rfl
theorem dX4_begin_51 : decode cX4_begin 51 = .ok (.getfield 43, 3) := decs_at tdX4_begin_0 27 rfl
theorem dX4_begin_54 : decode cX4_begin 54 = .ok (.getfield 61, 3) := decs_at tdX4_begin_0 28 rfl
theorem dX4_begin_57 : decode cX4_begin 57 = .ok (.iload_n 1, 1) := decs_at tdX4_begin_0 29 rfl
theorem dX4_begin_58 : decode cX4_begin 58 = .ok (.iaload, 1) := decs_at tdX4_begin_0 30 rfl
theorem dX4_begin_59 : decode cX4_begin 59 = .ok (.putfield 21, 3) := decs_at tdX4_begin_0 31 rfl
theorem dX4_begin_62 : decode cX4_begin 62 = .ok (.aload_n 0, 1) := decs_at tdX4_begin_0 32 rfl
theorem dX4_begin_63 : decode cX4_begin 63 = .ok (.aload_n 0, 1) := decs_at tdX4_begin_0 33 rfl
theorem dX4_begin_64 : decode cX4_begin 64 = .ok (.getfield 43, 3) := decs_at tdX4_begin_0 34 rfl
theorem dX4_begin_67 : decode cX4_begin 67 = .ok (.getfield 64, 3) := decs_at tdX4_begin_0 35 rfl
theorem dX4_begin_70 : decode cX4_begin 70 = .ok (.iload_n 1, 1) := decs_at tdX4_begin_0 36 rfl
theorem dX4_begin_71 : decode cX4_begin 71 = .ok (.iaload, 1) := decs_at tdX4_begin_0 37 rfl
theorem dX4_begin_72 : decode cX4_begin 72 = .ok (.putfield 24, 3) := decs_at tdX4_begin_0 38 rfl
theorem dX4_begin_75 : decode cX4_begin 75 = .ok (.aload_n 0, 1) := decs_at tdX4_begin_0 39 rfl
theorem tdX4_begin_76 : decs cX4_begin [(76, .iconst 0, 1), (77, .putfield 27, 3), (80, .aload_n 0, 1), (81, .iconst (-1), 1), (82, .putfield 30, 3), (85, .aload_n 0, 1), (86, .iconst 0, 1), (87, .putfield 33, 3), (90, .aload_n 0, 1), (91, .iconst 0, 1), (92, .putfield 37, 3), (95, .aload_n 0, 1), (96, .iconst 0, 1), (97, .putfield 40, 3), (100, .return_, 1)] = true := by decide +kernel
theorem dX4_begin_76 : decode cX4_begin 76 = .ok (.iconst 0, 1) := decs_at tdX4_begin_76 0 rfl
theorem dX4_begin_77 : decode cX4_begin 77 = .ok (.putfield 27, 3) := decs_at tdX4_begin_76 1 rfl
theorem dX4_begin_80 : decode cX4_begin 80 = .ok (.aload_n 0, 1) := decs_at tdX4_begin_76 2 rfl
theorem dX4_begin_81 : decode cX4_begin 81 = .ok (.iconst (-1), 1) := decs_at tdX4_begin_76 3 rfl
theorem dX4_begin_82 : decode cX4_begin 82 = .ok (.putfield 30, 3) := decs_at tdX4_begin_76 4 rfl
theorem dX4_begin_85 : decode cX4_begin 85 = .ok (.aload_n 0, 1) := decs_at tdX4_begin_76 5 rfl
theorem dX4_begin_86 : decode cX4_begin 86 = .ok (.iconst 0, 1) := decs_at tdX4_begin_76 6 rfl
theorem dX4_begin_87 : decode cX4_begin 87 = .ok (.putfield 33, 3) := decs_at tdX4_begin_76 7 rfl
theorem dX4_begin_90 : decode cX4_begin 90 = .ok (.aload_n 0, 1) := decs_at tdX4_begin_76 8 rfl
theorem dX4_begin_91 : decode cX4_begin 91 = .ok (.iconst 0, 1) := decs_at tdX4_begin_76 9 rfl
theorem dX4_begin_92 : decode cX4_begin 92 = .ok (.putfield 37, 3) := decs_at tdX4_begin_76 10 rfl
theorem dX4_begin_95 : decode cX4_begin 95 = .ok (.aload_n 0, 1) := decs_at tdX4_begin_76 11 rfl
theorem dX4_begin_96 : decode cX4_begin 96 = .ok (.iconst 0, 1) := decs_at tdX4_begin_76 12 rfl
theorem dX4_begin_97 : decode cX4_begin 97 = .ok (.putfield 40, 3) := decs_at tdX4_begin_76 13 rfl
theorem dX4_begin_100 : decode cX4_begin 100 = .ok (.return_, 1) := decs_at tdX4_begin_76 14 rfl
theorem tdX4_isFallen_0 : decs cX4_isFallen [(0, .aload_n 0, 1), (1, .getfield 30, 3), (4, .iconst (-1), 1), (5, .if_icmp .eq 7, 3), (8, .iconst 1, 1), (9, .goto 4, 3), (12, .iconst 0, 1), (13, .ireturn, 1)] = true := by decide +kernel
theorem dX4_isFallen_0 : decode cX4_isFallen 0 = .ok (.aload_n 0, 1) := decs_at tdX4_isFallen_0 0 rfl
theorem dX4_isFallen_1 : decode cX4_isFallen 1 = .ok (.getfield 30, 3) := decs_at tdX4_isFallen_0 1 rfl
theorem dX4_isFallen_4 : decode cX4_isFallen 4 = .ok (.iconst (-1), 1) := decs_at tdX4_isFallen_0 2 rfl
theorem dX4_isFallen_5 : decode cX4_isFallen 5 = .ok (.if_icmp .eq 7, 3) := decs_at tdX4_isFallen_0 3 rfl
theorem dX4_isFallen_8 : decode cX4_isFallen 8 = .ok (.iconst 1, 1) := decs_at tdX4_isFallen_0 4 rfl
theorem dX4_isFallen_9 : decode cX4_isFallen 9 = .ok (.goto 4, 3) := decs_at tdX4_isFallen_0 5 rfl
theorem dX4_isFallen_12 : decode cX4_isFallen 12 = .ok (.iconst 0, 1) := decs_at tdX4_isFallen_0 6 rfl
theorem dX4_isFallen_13 : decode cX4_isFallen 13 = .ok (.ireturn, 1) := decs_at tdX4_isFallen_0 7 rfl
theorem tdX4_standsAs_0 : decs cX4_standsAs [(0, .aload_n 0, 1), (1, .getfield 21, 3), (4, .iload_n 1, 1), (5, .if_icmp .ne 15, 3), (8, .aload_n 0, 1), (9, .getfield 24, 3), (12, .iload_n 2, 1), (13, .if_icmp .ne 7, 3), (16, .iconst 1, 1), (17, .goto 4, 3), (20, .iconst 0, 1), (21, .ireturn, 1)] = true := by decide +kernel
theorem dX4_standsAs_0 : decode cX4_standsAs 0 = .ok (.aload_n 0, 1) := decs_at tdX4_standsAs_0 0 rfl
theorem dX4_standsAs_1 : decode cX4_standsAs 1 = .ok (.getfield 21, 3) := decs_at tdX4_standsAs_0 1 rfl
theorem dX4_standsAs_4 : decode cX4_standsAs 4 = .ok (.iload_n 1, 1) := decs_at tdX4_standsAs_0 2 rfl
theorem dX4_standsAs_5 : decode cX4_standsAs 5 = .ok (.if_icmp .ne 15, 3) := decs_at tdX4_standsAs_0 3 rfl
theorem dX4_standsAs_8 : decode cX4_standsAs 8 = .ok (.aload_n 0, 1) := decs_at tdX4_standsAs_0 4 rfl
theorem dX4_standsAs_9 : decode cX4_standsAs 9 = .ok (.getfield 24, 3) := decs_at tdX4_standsAs_0 5 rfl
theorem dX4_standsAs_12 : decode cX4_standsAs 12 = .ok (.iload_n 2, 1) := decs_at tdX4_standsAs_0 6 rfl
theorem dX4_standsAs_13 : decode cX4_standsAs 13 = .ok (.if_icmp .ne 7, 3) := decs_at tdX4_standsAs_0 7 rfl
theorem dX4_standsAs_16 : decode cX4_standsAs 16 = .ok (.iconst 1, 1) := decs_at tdX4_standsAs_0 8 rfl
theorem dX4_standsAs_17 : decode cX4_standsAs 17 = .ok (.goto 4, 3) := decs_at tdX4_standsAs_0 9 rfl
theorem dX4_standsAs_20 : decode cX4_standsAs 20 = .ok (.iconst 0, 1) := decs_at tdX4_standsAs_0 10 rfl
theorem dX4_standsAs_21 : decode cX4_standsAs 21 = .ok (.ireturn, 1) := decs_at tdX4_standsAs_0 11 rfl
set_option maxRecDepth 20000 in
theorem pl_wsX4_step_wsX4_step_r1 : ∀ w ∈ wsX4_step_r1, w ∈ wsX4_step := fun _ h => List.mem_cons_of_mem _ (List.mem_append_left _ (List.mem_append_left _ (List.mem_append_left _ (h))))
theorem pl_wsX4_step_wsX40 : ∀ w ∈ wsX40, w ∈ wsX4_step := fun _ h => List.mem_cons_of_mem _ (List.mem_append_left _ (List.mem_append_right _ (h)))
theorem ggX4_step_X4_isFallen : GoodIn wsX4_step wsX4_isFallen := goodIn_sub (List.forall_mem_cons.mpr ⟨(pl_wsX4_step_wsX4_step_r1 _ (List.mem_of_getElem? (i := 5) rfl)), (fun w h => (List.mem_append.mp h).elim ((List.forall_mem_cons.mpr ⟨(pl_wsX4_step_wsX4_step_r1 _ (List.mem_of_getElem? (i := 6) rfl)), fun _ h => absurd h List.not_mem_nil⟩) w) (pl_wsX4_step_wsX40 w))⟩) (by decide +kernel)
set_option maxRecDepth 20000 in
theorem gX4_step_X4_isFallen : GoodIn wsX4_step (wsV RX4 66 RX4 yX4_isFallen wsX4_isFallen) := goodIn_app (goodIn_sub (List.forall_mem_cons.mpr ⟨(pl_wsX4_step_wsX4_step_r1 _ (List.mem_of_getElem? (i := 1) rfl)), List.forall_mem_cons.mpr ⟨(pl_wsX4_step_wsX4_step_r1 _ (List.mem_of_getElem? (i := 2) rfl)), List.forall_mem_cons.mpr ⟨(pl_wsX4_step_wsX4_step_r1 _ (List.mem_of_getElem? (i := 3) rfl)), List.forall_mem_cons.mpr ⟨(pl_wsX4_step_wsX4_step_r1 _ (List.mem_of_getElem? (i := 4) rfl)), fun _ h => absurd h List.not_mem_nil⟩⟩⟩⟩) (by decide +kernel)) ggX4_step_X4_isFallen
set_option maxRecDepth 20000 in
theorem pl_wsX4_step_wsX4_step_r2 : ∀ w ∈ wsX4_step_r2, w ∈ wsX4_step := fun _ h => List.mem_cons_of_mem _ (List.mem_append_left _ (List.mem_append_left _ (List.mem_append_right _ (List.mem_append_left _ (h)))))
theorem pl_wsX4_step_wsX00 : ∀ w ∈ wsX00, w ∈ wsX4_step := fun _ h => List.mem_cons_of_mem _ (List.mem_append_right _ (h))
theorem ggX4_step_X4_goOn : GoodIn wsX4_step wsX4_goOn := goodIn_sub (List.forall_mem_cons.mpr ⟨(pl_wsX4_step_wsX4_step_r1 _ (List.mem_of_getElem? (i := 10) rfl)), (fun w h => (List.mem_append.mp h).elim ((fun w h => (List.mem_append.mp h).elim ((List.forall_mem_cons.mpr ⟨(pl_wsX4_step_wsX4_step_r1 _ (List.mem_of_getElem? (i := 11) rfl)), List.forall_mem_cons.mpr ⟨(pl_wsX4_step_wsX4_step_r1 _ (List.mem_of_getElem? (i := 12) rfl)), List.forall_mem_cons.mpr ⟨(pl_wsX4_step_wsX4_step_r1 _ (List.mem_of_getElem? (i := 13) rfl)), List.forall_mem_cons.mpr ⟨(pl_wsX4_step_wsX4_step_r1 _ (List.mem_of_getElem? (i := 0) rfl)), List.forall_mem_cons.mpr ⟨(pl_wsX4_step_wsX4_step_r1 _ (List.mem_of_getElem? (i := 6) rfl)), List.forall_mem_cons.mpr ⟨(pl_wsX4_step_wsX4_step_r1 _ (List.mem_of_getElem? (i := 14) rfl)), List.forall_mem_cons.mpr ⟨(pl_wsX4_step_wsX4_step_r1 _ (List.mem_of_getElem? (i := 15) rfl)), List.forall_mem_cons.mpr ⟨(pl_wsX4_step_wsX4_step_r1 _ (List.mem_of_getElem? (i := 16) rfl)), List.forall_mem_cons.mpr ⟨(pl_wsX4_step_wsX4_step_r1 _ (List.mem_of_getElem? (i := 17) rfl)), List.forall_mem_cons.mpr ⟨(pl_wsX4_step_wsX4_step_r1 _ (List.mem_of_getElem? (i := 18) rfl)), List.forall_mem_cons.mpr ⟨(pl_wsX4_step_wsX4_step_r1 _ (List.mem_of_getElem? (i := 19) rfl)), List.forall_mem_cons.mpr ⟨(pl_wsX4_step_wsX4_step_r1 _ (List.mem_of_getElem? (i := 20) rfl)), List.forall_mem_cons.mpr ⟨(pl_wsX4_step_wsX4_step_r1 _ (List.mem_of_getElem? (i := 21) rfl)), List.forall_mem_cons.mpr ⟨(pl_wsX4_step_wsX4_step_r1 _ (List.mem_of_getElem? (i := 22) rfl)), List.forall_mem_cons.mpr ⟨(pl_wsX4_step_wsX4_step_r1 _ (List.mem_of_getElem? (i := 23) rfl)), List.forall_mem_cons.mpr ⟨(pl_wsX4_step_wsX4_step_r2 _ (List.mem_of_getElem? (i := 0) rfl)), List.forall_mem_cons.mpr ⟨(pl_wsX4_step_wsX4_step_r2 _ (List.mem_of_getElem? (i := 1) rfl)), List.forall_mem_cons.mpr ⟨(pl_wsX4_step_wsX4_step_r2 _ (List.mem_of_getElem? (i := 2) rfl)), List.forall_mem_cons.mpr ⟨(pl_wsX4_step_wsX4_step_r2 _ (List.mem_of_getElem? (i := 3) rfl)), List.forall_mem_cons.mpr ⟨(pl_wsX4_step_wsX4_step_r2 _ (List.mem_of_getElem? (i := 4) rfl)), List.forall_mem_cons.mpr ⟨(pl_wsX4_step_wsX4_step_r2 _ (List.mem_of_getElem? (i := 5) rfl)), List.forall_mem_cons.mpr ⟨(pl_wsX4_step_wsX4_step_r2 _ (List.mem_of_getElem? (i := 6) rfl)), fun _ h => absurd h List.not_mem_nil⟩⟩⟩⟩⟩⟩⟩⟩⟩⟩⟩⟩⟩⟩⟩⟩⟩⟩⟩⟩⟩⟩) w) (pl_wsX4_step_wsX40 w)) w) (pl_wsX4_step_wsX00 w))⟩) (by decide +kernel)
set_option maxRecDepth 20000 in
theorem gX4_step_X4_goOn : GoodIn wsX4_step (wsV RX4 70 RX4 yX4_goOn wsX4_goOn) := goodIn_app (goodIn_sub (List.forall_mem_cons.mpr ⟨(pl_wsX4_step_wsX4_step_r1 _ (List.mem_of_getElem? (i := 7) rfl)), List.forall_mem_cons.mpr ⟨(pl_wsX4_step_wsX4_step_r1 _ (List.mem_of_getElem? (i := 8) rfl)), List.forall_mem_cons.mpr ⟨(pl_wsX4_step_wsX4_step_r1 _ (List.mem_of_getElem? (i := 9) rfl)), List.forall_mem_cons.mpr ⟨(pl_wsX4_step_wsX4_step_r1 _ (List.mem_of_getElem? (i := 4) rfl)), fun _ h => absurd h List.not_mem_nil⟩⟩⟩⟩) (by decide +kernel)) ggX4_step_X4_goOn
set_option maxRecDepth 20000 in
theorem pl_wsX4_step_wsX4_step_r3 : ∀ w ∈ wsX4_step_r3, w ∈ wsX4_step := fun _ h => List.mem_cons_of_mem _ (List.mem_append_left _ (List.mem_append_left _ (List.mem_append_right _ (List.mem_append_right _ (h)))))
theorem ggX4_step_X4_goesBy : GoodIn wsX4_step wsX4_goesBy := goodIn_sub (List.forall_mem_cons.mpr ⟨(pl_wsX4_step_wsX4_step_r2 _ (List.mem_of_getElem? (i := 10) rfl)), (fun w h => (List.mem_append.mp h).elim ((fun w h => (List.mem_append.mp h).elim ((fun w h => (List.mem_append.mp h).elim ((List.forall_mem_cons.mpr ⟨(pl_wsX4_step_wsX4_step_r2 _ (List.mem_of_getElem? (i := 11) rfl)), List.forall_mem_cons.mpr ⟨(pl_wsX4_step_wsX4_step_r1 _ (List.mem_of_getElem? (i := 11) rfl)), List.forall_mem_cons.mpr ⟨(pl_wsX4_step_wsX4_step_r2 _ (List.mem_of_getElem? (i := 12) rfl)), List.forall_mem_cons.mpr ⟨(pl_wsX4_step_wsX4_step_r2 _ (List.mem_of_getElem? (i := 13) rfl)), List.forall_mem_cons.mpr ⟨(pl_wsX4_step_wsX4_step_r2 _ (List.mem_of_getElem? (i := 14) rfl)), List.forall_mem_cons.mpr ⟨(pl_wsX4_step_wsX4_step_r1 _ (List.mem_of_getElem? (i := 12) rfl)), List.forall_mem_cons.mpr ⟨(pl_wsX4_step_wsX4_step_r2 _ (List.mem_of_getElem? (i := 15) rfl)), List.forall_mem_cons.mpr ⟨(pl_wsX4_step_wsX4_step_r2 _ (List.mem_of_getElem? (i := 16) rfl)), List.forall_mem_cons.mpr ⟨(pl_wsX4_step_wsX4_step_r2 _ (List.mem_of_getElem? (i := 17) rfl)), List.forall_mem_cons.mpr ⟨(pl_wsX4_step_wsX4_step_r1 _ (List.mem_of_getElem? (i := 17) rfl)), List.forall_mem_cons.mpr ⟨(pl_wsX4_step_wsX4_step_r2 _ (List.mem_of_getElem? (i := 18) rfl)), List.forall_mem_cons.mpr ⟨(pl_wsX4_step_wsX4_step_r2 _ (List.mem_of_getElem? (i := 2) rfl)), List.forall_mem_cons.mpr ⟨(pl_wsX4_step_wsX4_step_r2 _ (List.mem_of_getElem? (i := 19) rfl)), List.forall_mem_cons.mpr ⟨(pl_wsX4_step_wsX4_step_r1 _ (List.mem_of_getElem? (i := 15) rfl)), List.forall_mem_cons.mpr ⟨(pl_wsX4_step_wsX4_step_r1 _ (List.mem_of_getElem? (i := 16) rfl)), List.forall_mem_cons.mpr ⟨(pl_wsX4_step_wsX4_step_r1 _ (List.mem_of_getElem? (i := 18) rfl)), List.forall_mem_cons.mpr ⟨(pl_wsX4_step_wsX4_step_r1 _ (List.mem_of_getElem? (i := 19) rfl)), List.forall_mem_cons.mpr ⟨(pl_wsX4_step_wsX4_step_r1 _ (List.mem_of_getElem? (i := 20) rfl)), List.forall_mem_cons.mpr ⟨(pl_wsX4_step_wsX4_step_r1 _ (List.mem_of_getElem? (i := 21) rfl)), List.forall_mem_cons.mpr ⟨(pl_wsX4_step_wsX4_step_r2 _ (List.mem_of_getElem? (i := 20) rfl)), List.forall_mem_cons.mpr ⟨(pl_wsX4_step_wsX4_step_r2 _ (List.mem_of_getElem? (i := 21) rfl)), List.forall_mem_cons.mpr ⟨(pl_wsX4_step_wsX4_step_r2 _ (List.mem_of_getElem? (i := 22) rfl)), List.forall_mem_cons.mpr ⟨(pl_wsX4_step_wsX4_step_r1 _ (List.mem_of_getElem? (i := 4) rfl)), List.forall_mem_cons.mpr ⟨(pl_wsX4_step_wsX4_step_r2 _ (List.mem_of_getElem? (i := 23) rfl)), fun _ h => absurd h List.not_mem_nil⟩⟩⟩⟩⟩⟩⟩⟩⟩⟩⟩⟩⟩⟩⟩⟩⟩⟩⟩⟩⟩⟩⟩⟩) w) ((List.forall_mem_cons.mpr ⟨(pl_wsX4_step_wsX4_step_r3 _ (List.mem_of_getElem? (i := 0) rfl)), List.forall_mem_cons.mpr ⟨(pl_wsX4_step_wsX4_step_r3 _ (List.mem_of_getElem? (i := 1) rfl)), fun _ h => absurd h List.not_mem_nil⟩⟩) w)) w) (pl_wsX4_step_wsX40 w)) w) (pl_wsX4_step_wsX00 w))⟩) (by decide +kernel)
set_option maxRecDepth 20000 in
theorem gX4_step_X4_goesBy : GoodIn wsX4_step (wsV RX4 73 RX4 yX4_goesBy wsX4_goesBy) := goodIn_app (goodIn_sub (List.forall_mem_cons.mpr ⟨(pl_wsX4_step_wsX4_step_r2 _ (List.mem_of_getElem? (i := 7) rfl)), List.forall_mem_cons.mpr ⟨(pl_wsX4_step_wsX4_step_r2 _ (List.mem_of_getElem? (i := 8) rfl)), List.forall_mem_cons.mpr ⟨(pl_wsX4_step_wsX4_step_r2 _ (List.mem_of_getElem? (i := 9) rfl)), List.forall_mem_cons.mpr ⟨(pl_wsX4_step_wsX4_step_r1 _ (List.mem_of_getElem? (i := 4) rfl)), fun _ h => absurd h List.not_mem_nil⟩⟩⟩⟩) (by decide +kernel)) ggX4_step_X4_goesBy
set_option maxRecDepth 20000 in
theorem ggX4_step_X4_goRound : GoodIn wsX4_step wsX4_goRound := goodIn_sub (List.forall_mem_cons.mpr ⟨(pl_wsX4_step_wsX4_step_r3 _ (List.mem_of_getElem? (i := 5) rfl)), (fun w h => (List.mem_append.mp h).elim ((List.forall_mem_cons.mpr ⟨(pl_wsX4_step_wsX4_step_r1 _ (List.mem_of_getElem? (i := 13) rfl)), List.forall_mem_cons.mpr ⟨(pl_wsX4_step_wsX4_step_r2 _ (List.mem_of_getElem? (i := 13) rfl)), List.forall_mem_cons.mpr ⟨(pl_wsX4_step_wsX4_step_r3 _ (List.mem_of_getElem? (i := 0) rfl)), List.forall_mem_cons.mpr ⟨(pl_wsX4_step_wsX4_step_r3 _ (List.mem_of_getElem? (i := 1) rfl)), fun _ h => absurd h List.not_mem_nil⟩⟩⟩⟩) w) (pl_wsX4_step_wsX40 w))⟩) (by decide +kernel)
set_option maxRecDepth 20000 in
theorem gX4_step_X4_goRound : GoodIn wsX4_step (wsV RX4 77 RX4 yX4_goRound wsX4_goRound) := goodIn_app (goodIn_sub (List.forall_mem_cons.mpr ⟨(pl_wsX4_step_wsX4_step_r3 _ (List.mem_of_getElem? (i := 2) rfl)), List.forall_mem_cons.mpr ⟨(pl_wsX4_step_wsX4_step_r3 _ (List.mem_of_getElem? (i := 3) rfl)), List.forall_mem_cons.mpr ⟨(pl_wsX4_step_wsX4_step_r3 _ (List.mem_of_getElem? (i := 4) rfl)), List.forall_mem_cons.mpr ⟨(pl_wsX4_step_wsX4_step_r1 _ (List.mem_of_getElem? (i := 4) rfl)), fun _ h => absurd h List.not_mem_nil⟩⟩⟩⟩) (by decide +kernel)) ggX4_step_X4_goRound
theorem tdX4_step_0 : decs cX4_step [(0, .aload_n 0, 1), (1, .invokevirtual 66, 3), (4, .ifCond .ne 34, 3), (7, .iload_n 1, 1), (8, .ifCond .ne 10, 3), (11, .aload_n 0, 1), (12, .invokevirtual 70, 3), (15, .goto 23, 3), (18, .iload_n 1, 1), (19, .iconst 1, 1), (20, .if_icmp .eq 8, 3), (23, .iload_n 1, 1), (24, .iconst 2, 1), (25, .if_icmp .ne 13, 3), (28, .aload_n 0, 1), (29, .iload_n 1, 1), (30, .aload_n 0, 1), (31, .iload_n 1, 1), (32, .invokevirtual 73, 3), (35, .invokevirtual 77, 3), (38, .aload_n 0, 1), (39, .dup, 1), (40, .getfield 27, 3), (43, .iconst 1, 1), (44, .iadd, 1), (45, .putfield 27, 3), (48, .return_, 1)] = true := by decide +kernel
theorem dX4_step_0 : decode cX4_step 0 = .ok (.aload_n 0, 1) := decs_at tdX4_step_0 0 rfl
theorem dX4_step_1 : decode cX4_step 1 = .ok (.invokevirtual 66, 3) := decs_at tdX4_step_0 1 rfl
theorem dX4_step_4 : decode cX4_step 4 = .ok (.ifCond .ne 34, 3) := decs_at tdX4_step_0 2 rfl
theorem dX4_step_7 : decode cX4_step 7 = .ok (.iload_n 1, 1) := decs_at tdX4_step_0 3 rfl
theorem dX4_step_8 : decode cX4_step 8 = .ok (.ifCond .ne 10, 3) := decs_at tdX4_step_0 4 rfl
theorem dX4_step_11 : decode cX4_step 11 = .ok (.aload_n 0, 1) := decs_at tdX4_step_0 5 rfl
theorem dX4_step_12 : decode cX4_step 12 = .ok (.invokevirtual 70, 3) := decs_at tdX4_step_0 6 rfl
theorem dX4_step_15 : decode cX4_step 15 = .ok (.goto 23, 3) := decs_at tdX4_step_0 7 rfl
theorem dX4_step_18 : decode cX4_step 18 = .ok (.iload_n 1, 1) := decs_at tdX4_step_0 8 rfl
theorem dX4_step_19 : decode cX4_step 19 = .ok (.iconst 1, 1) := decs_at tdX4_step_0 9 rfl
theorem dX4_step_20 : decode cX4_step 20 = .ok (.if_icmp .eq 8, 3) := decs_at tdX4_step_0 10 rfl
theorem dX4_step_23 : decode cX4_step 23 = .ok (.iload_n 1, 1) := decs_at tdX4_step_0 11 rfl
theorem dX4_step_24 : decode cX4_step 24 = .ok (.iconst 2, 1) := decs_at tdX4_step_0 12 rfl
theorem dX4_step_25 : decode cX4_step 25 = .ok (.if_icmp .ne 13, 3) := decs_at tdX4_step_0 13 rfl
theorem dX4_step_28 : decode cX4_step 28 = .ok (.aload_n 0, 1) := decs_at tdX4_step_0 14 rfl
theorem dX4_step_29 : decode cX4_step 29 = .ok (.iload_n 1, 1) := decs_at tdX4_step_0 15 rfl
theorem dX4_step_30 : decode cX4_step 30 = .ok (.aload_n 0, 1) := decs_at tdX4_step_0 16 rfl
theorem dX4_step_31 : decode cX4_step 31 = .ok (.iload_n 1, 1) := decs_at tdX4_step_0 17 rfl
theorem dX4_step_32 : decode cX4_step 32 = .ok (.invokevirtual 73, 3) := decs_at tdX4_step_0 18 rfl
theorem dX4_step_35 : decode cX4_step 35 = .ok (.invokevirtual 77, 3) := decs_at tdX4_step_0 19 rfl
theorem dX4_step_38 : decode cX4_step 38 = .ok (.aload_n 0, 1) := decs_at tdX4_step_0 20 rfl
theorem dX4_step_39 : decode cX4_step 39 = .ok (.dup, 1) := decs_at tdX4_step_0 21 rfl
theorem dX4_step_40 : decode cX4_step 40 = .ok (.getfield 27, 3) := decs_at tdX4_step_0 22 rfl
theorem dX4_step_43 : decode cX4_step 43 = .ok (.iconst 1, 1) := decs_at tdX4_step_0 23 rfl
theorem dX4_step_44 : decode cX4_step 44 = .ok (.iadd, 1) := decs_at tdX4_step_0 24 rfl
theorem dX4_step_45 : decode cX4_step 45 = .ok (.putfield 27, 3) := decs_at tdX4_step_0 25 rfl
theorem dX4_step_48 : decode cX4_step 48 = .ok (.return_, 1) := decs_at tdX4_step_0 26 rfl
set_option maxRecDepth 20000 in
theorem pl_wsX4_goOn_wsX00 : ∀ w ∈ wsX00, w ∈ wsX4_goOn := fun _ h => List.mem_cons_of_mem _ (List.mem_append_right _ (h))
theorem ggX4_goOn_X0_cellAhead : GoodIn wsX4_goOn wsX0_cellAhead := goodIn_sub (List.forall_mem_cons.mpr ⟨(List.mem_cons_of_mem _ (List.mem_append_left _ (List.mem_append_left _ (List.mem_of_getElem? (i := 9) rfl)))), (fun w h => (List.mem_append.mp h).elim ((List.forall_mem_cons.mpr ⟨(List.mem_cons_of_mem _ (List.mem_append_left _ (List.mem_append_left _ (List.mem_of_getElem? (i := 10) rfl)))), List.forall_mem_cons.mpr ⟨(List.mem_cons_of_mem _ (List.mem_append_left _ (List.mem_append_left _ (List.mem_of_getElem? (i := 11) rfl)))), List.forall_mem_cons.mpr ⟨(List.mem_cons_of_mem _ (List.mem_append_left _ (List.mem_append_left _ (List.mem_of_getElem? (i := 12) rfl)))), fun _ h => absurd h List.not_mem_nil⟩⟩⟩) w) (pl_wsX4_goOn_wsX00 w))⟩) (by decide +kernel)
set_option maxRecDepth 20000 in
theorem gX4_goOn_X0_cellAhead : GoodIn wsX4_goOn (wsV RX4 81 RX0 yX0_cellAhead wsX0_cellAhead) := goodIn_app (goodIn_sub (List.forall_mem_cons.mpr ⟨(List.mem_cons_of_mem _ (List.mem_append_left _ (List.mem_append_left _ (List.mem_of_getElem? (i := 5) rfl)))), List.forall_mem_cons.mpr ⟨(List.mem_cons_of_mem _ (List.mem_append_left _ (List.mem_append_left _ (List.mem_of_getElem? (i := 6) rfl)))), List.forall_mem_cons.mpr ⟨(List.mem_cons_of_mem _ (List.mem_append_left _ (List.mem_append_left _ (List.mem_of_getElem? (i := 7) rfl)))), List.forall_mem_cons.mpr ⟨(List.mem_cons_of_mem _ (List.mem_append_left _ (List.mem_append_left _ (List.mem_of_getElem? (i := 8) rfl)))), fun _ h => absurd h List.not_mem_nil⟩⟩⟩⟩) (by decide +kernel)) ggX4_goOn_X0_cellAhead
set_option maxRecDepth 20000 in
theorem ggX4_goOn_X0_hasPond : GoodIn wsX4_goOn wsX0_hasPond := goodIn_sub (List.forall_mem_cons.mpr ⟨(List.mem_cons_of_mem _ (List.mem_append_left _ (List.mem_append_left _ (List.mem_of_getElem? (i := 16) rfl)))), (fun w h => (List.mem_append.mp h).elim ((List.forall_mem_cons.mpr ⟨(List.mem_cons_of_mem _ (List.mem_append_left _ (List.mem_append_left _ (List.mem_of_getElem? (i := 17) rfl)))), List.forall_mem_cons.mpr ⟨(List.mem_cons_of_mem _ (List.mem_append_left _ (List.mem_append_left _ (List.mem_of_getElem? (i := 18) rfl)))), List.forall_mem_cons.mpr ⟨(List.mem_cons_of_mem _ (List.mem_append_left _ (List.mem_append_left _ (List.mem_of_getElem? (i := 19) rfl)))), List.forall_mem_cons.mpr ⟨(List.mem_cons_of_mem _ (List.mem_append_left _ (List.mem_append_left _ (List.mem_of_getElem? (i := 20) rfl)))), List.forall_mem_cons.mpr ⟨(List.mem_cons_of_mem _ (List.mem_append_left _ (List.mem_append_left _ (List.mem_of_getElem? (i := 8) rfl)))), List.forall_mem_cons.mpr ⟨(List.mem_cons_of_mem _ (List.mem_append_left _ (List.mem_append_left _ (List.mem_of_getElem? (i := 21) rfl)))), List.forall_mem_cons.mpr ⟨(List.mem_cons_of_mem _ (List.mem_append_left _ (List.mem_append_left _ (List.mem_of_getElem? (i := 12) rfl)))), fun _ h => absurd h List.not_mem_nil⟩⟩⟩⟩⟩⟩⟩) w) (pl_wsX4_goOn_wsX00 w))⟩) (by decide +kernel)
set_option maxRecDepth 20000 in
theorem gX4_goOn_X0_hasPond : GoodIn wsX4_goOn (wsV RX4 85 RX0 yX0_hasPond wsX0_hasPond) := goodIn_app (goodIn_sub (List.forall_mem_cons.mpr ⟨(List.mem_cons_of_mem _ (List.mem_append_left _ (List.mem_append_left _ (List.mem_of_getElem? (i := 13) rfl)))), List.forall_mem_cons.mpr ⟨(List.mem_cons_of_mem _ (List.mem_append_left _ (List.mem_append_left _ (List.mem_of_getElem? (i := 14) rfl)))), List.forall_mem_cons.mpr ⟨(List.mem_cons_of_mem _ (List.mem_append_left _ (List.mem_append_left _ (List.mem_of_getElem? (i := 15) rfl)))), List.forall_mem_cons.mpr ⟨(List.mem_cons_of_mem _ (List.mem_append_left _ (List.mem_append_left _ (List.mem_of_getElem? (i := 8) rfl)))), fun _ h => absurd h List.not_mem_nil⟩⟩⟩⟩) (by decide +kernel)) ggX4_goOn_X0_hasPond
theorem tdX4_goOn_0 : decs cX4_goOn [(0, .aload_n 0, 1), (1, .getfield 43, 3), (4, .aload_n 0, 1), (5, .getfield 21, 3), (8, .aload_n 0, 1), (9, .getfield 24, 3), (12, .invokevirtual 81, 3), (15, .istore_n 1, 1), (16, .iload_n 1, 1), (17, .iconst (-1), 1), (18, .if_icmp .eq 27, 3), (21, .aload_n 0, 1), (22, .iload_n 1, 1), (23, .putfield 21, 3), (26, .aload_n 0, 1), (27, .getfield 43, 3), (30, .iload_n 1, 1), (31, .invokevirtual 85, 3), (34, .ifCond .eq 11, 3), (37, .aload_n 0, 1), (38, .aload_n 0, 1), (39, .getfield 27, 3), (42, .putfield 30, 3), (45, .return_, 1)] = true := by decide +kernel
theorem dX4_goOn_0 : decode cX4_goOn 0 = .ok (.aload_n 0, 1) := decs_at tdX4_goOn_0 0 rfl
theorem dX4_goOn_1 : decode cX4_goOn 1 = .ok (.getfield 43, 3) := decs_at tdX4_goOn_0 1 rfl
theorem dX4_goOn_4 : decode cX4_goOn 4 = .ok (.aload_n 0, 1) := decs_at tdX4_goOn_0 2 rfl
theorem dX4_goOn_5 : decode cX4_goOn 5 = .ok (.getfield 21, 3) := decs_at tdX4_goOn_0 3 rfl
theorem dX4_goOn_8 : decode cX4_goOn 8 = .ok (.aload_n 0, 1) := decs_at tdX4_goOn_0 4 rfl
theorem dX4_goOn_9 : decode cX4_goOn 9 = .ok (.getfield 24, 3) := decs_at tdX4_goOn_0 5 rfl
theorem dX4_goOn_12 : decode cX4_goOn 12 = .ok (.invokevirtual 81, 3) := decs_at tdX4_goOn_0 6 rfl
theorem dX4_goOn_15 : decode cX4_goOn 15 = .ok (.istore_n 1, 1) := decs_at tdX4_goOn_0 7 rfl
theorem dX4_goOn_16 : decode cX4_goOn 16 = .ok (.iload_n 1, 1) := decs_at tdX4_goOn_0 8 rfl
theorem dX4_goOn_17 : decode cX4_goOn 17 = .ok (.iconst (-1), 1) := decs_at tdX4_goOn_0 9 rfl
theorem dX4_goOn_18 : decode cX4_goOn 18 = .ok (.if_icmp .eq 27, 3) := decs_at tdX4_goOn_0 10 rfl
theorem dX4_goOn_21 : decode cX4_goOn 21 = .ok (.aload_n 0, 1) := decs_at tdX4_goOn_0 11 rfl
theorem dX4_goOn_22 : decode cX4_goOn 22 = .ok (.iload_n 1, 1) := decs_at tdX4_goOn_0 12 rfl
theorem dX4_goOn_23 : decode cX4_goOn 23 = .ok (.putfield 21, 3) := decs_at tdX4_goOn_0 13 rfl
theorem dX4_goOn_26 : decode cX4_goOn 26 = .ok (.aload_n 0, 1) := decs_at tdX4_goOn_0 14 rfl
theorem dX4_goOn_27 : decode cX4_goOn 27 = .ok (.getfield 43, 3) := decs_at tdX4_goOn_0 15 rfl
theorem dX4_goOn_30 : decode cX4_goOn 30 = .ok (.iload_n 1, 1) := decs_at tdX4_goOn_0 16 rfl
theorem dX4_goOn_31 : decode cX4_goOn 31 = .ok (.invokevirtual 85, 3) := decs_at tdX4_goOn_0 17 rfl
theorem dX4_goOn_34 : decode cX4_goOn 34 = .ok (.ifCond .eq 11, 3) := decs_at tdX4_goOn_0 18 rfl
theorem dX4_goOn_37 : decode cX4_goOn 37 = .ok (.aload_n 0, 1) := decs_at tdX4_goOn_0 19 rfl
theorem dX4_goOn_38 : decode cX4_goOn 38 = .ok (.aload_n 0, 1) := decs_at tdX4_goOn_0 20 rfl
theorem dX4_goOn_39 : decode cX4_goOn 39 = .ok (.getfield 27, 3) := decs_at tdX4_goOn_0 21 rfl
theorem dX4_goOn_42 : decode cX4_goOn 42 = .ok (.putfield 30, 3) := decs_at tdX4_goOn_0 22 rfl
theorem dX4_goOn_45 : decode cX4_goOn 45 = .ok (.return_, 1) := decs_at tdX4_goOn_0 23 rfl
theorem tdX4_goRound_0 : decs cX4_goRound [(0, .iload_n 1, 1), (1, .iconst 1, 1), (2, .if_icmp .ne 7, 3), (5, .iconst 1, 1), (6, .goto 4, 3), (9, .iconst 0, 1), (10, .iload_n 2, 1), (11, .iconst 1, 1), (12, .if_icmp .ne 7, 3), (15, .iconst 1, 1), (16, .goto 4, 3), (19, .iconst 0, 1), (20, .if_icmp .ne 7, 3), (23, .iconst 1, 1), (24, .goto 4, 3), (27, .iconst 0, 1), (28, .istore_n 3, 1), (29, .aload_n 0, 1), (30, .aload_n 0, 1), (31, .getfield 24, 3), (34, .iload_n 3, 1), (35, .ifCond .eq 7, 3), (38, .iconst 1, 1), (39, .goto 4, 3), (42, .iconst 3, 1), (43, .iadd, 1), (44, .iconst 3, 1), (45, .iand, 1), (46, .putfield 24, 3), (49, .aload_n 0, 1), (50, .aload_n 0, 1), (51, .getfield 33, 3), (54, .ifCond .ne 7, 3), (57, .iconst 1, 1), (58, .goto 4, 3), (61, .iconst 0, 1), (62, .putfield 33, 3), (65, .aload_n 0, 1), (66, .iload_n 1, 1), (67, .putfield 37, 3)] = true := by decide +kernel
theorem dX4_goRound_0 : decode cX4_goRound 0 = .ok (.iload_n 1, 1) := decs_at tdX4_goRound_0 0 rfl
theorem dX4_goRound_1 : decode cX4_goRound 1 = .ok (.iconst 1, 1) := decs_at tdX4_goRound_0 1 rfl
theorem dX4_goRound_2 : decode cX4_goRound 2 = .ok (.if_icmp .ne 7, 3) := decs_at tdX4_goRound_0 2 rfl
theorem dX4_goRound_5 : decode cX4_goRound 5 = .ok (.iconst 1, 1) := decs_at tdX4_goRound_0 3 rfl
theorem dX4_goRound_6 : decode cX4_goRound 6 = .ok (.goto 4, 3) := decs_at tdX4_goRound_0 4 rfl
theorem dX4_goRound_9 : decode cX4_goRound 9 = .ok (.iconst 0, 1) := decs_at tdX4_goRound_0 5 rfl
theorem dX4_goRound_10 : decode cX4_goRound 10 = .ok (.iload_n 2, 1) := decs_at tdX4_goRound_0 6 rfl
theorem dX4_goRound_11 : decode cX4_goRound 11 = .ok (.iconst 1, 1) := decs_at tdX4_goRound_0 7 rfl
theorem dX4_goRound_12 : decode cX4_goRound 12 = .ok (.if_icmp .ne 7, 3) := decs_at tdX4_goRound_0 8 rfl
theorem dX4_goRound_15 : decode cX4_goRound 15 = .ok (.iconst 1, 1) := decs_at tdX4_goRound_0 9 rfl
theorem dX4_goRound_16 : decode cX4_goRound 16 = .ok (.goto 4, 3) := decs_at tdX4_goRound_0 10 rfl
theorem dX4_goRound_19 : decode cX4_goRound 19 = .ok (.iconst 0, 1) := decs_at tdX4_goRound_0 11 rfl
theorem dX4_goRound_20 : decode cX4_goRound 20 = .ok (.if_icmp .ne 7, 3) := decs_at tdX4_goRound_0 12 rfl
theorem dX4_goRound_23 : decode cX4_goRound 23 = .ok (.iconst 1, 1) := decs_at tdX4_goRound_0 13 rfl
theorem dX4_goRound_24 : decode cX4_goRound 24 = .ok (.goto 4, 3) := decs_at tdX4_goRound_0 14 rfl
theorem dX4_goRound_27 : decode cX4_goRound 27 = .ok (.iconst 0, 1) := decs_at tdX4_goRound_0 15 rfl
theorem dX4_goRound_28 : decode cX4_goRound 28 = .ok (.istore_n 3, 1) := decs_at tdX4_goRound_0 16 rfl
theorem dX4_goRound_29 : decode cX4_goRound 29 = .ok (.aload_n 0, 1) := decs_at tdX4_goRound_0 17 rfl
theorem dX4_goRound_30 : decode cX4_goRound 30 = .ok (.aload_n 0, 1) := decs_at tdX4_goRound_0 18 rfl
theorem dX4_goRound_31 : decode cX4_goRound 31 = .ok (.getfield 24, 3) := decs_at tdX4_goRound_0 19 rfl
theorem dX4_goRound_34 : decode cX4_goRound 34 = .ok (.iload_n 3, 1) := decs_at tdX4_goRound_0 20 rfl
theorem dX4_goRound_35 : decode cX4_goRound 35 = .ok (.ifCond .eq 7, 3) := decs_at tdX4_goRound_0 21 rfl
theorem dX4_goRound_38 : decode cX4_goRound 38 = .ok (.iconst 1, 1) := decs_at tdX4_goRound_0 22 rfl
theorem dX4_goRound_39 : decode cX4_goRound 39 = .ok (.goto 4, 3) := decs_at tdX4_goRound_0 23 rfl
theorem dX4_goRound_42 : decode cX4_goRound 42 = .ok (.iconst 3, 1) := decs_at tdX4_goRound_0 24 rfl
theorem dX4_goRound_43 : decode cX4_goRound 43 = .ok (.iadd, 1) := decs_at tdX4_goRound_0 25 rfl
theorem dX4_goRound_44 : decode cX4_goRound 44 = .ok (.iconst 3, 1) := decs_at tdX4_goRound_0 26 rfl
theorem dX4_goRound_45 : decode cX4_goRound 45 = .ok (.iand, 1) := decs_at tdX4_goRound_0 27 rfl
theorem dX4_goRound_46 : decode cX4_goRound 46 = .ok (.putfield 24, 3) := decs_at tdX4_goRound_0 28 rfl
theorem dX4_goRound_49 : decode cX4_goRound 49 = .ok (.aload_n 0, 1) := decs_at tdX4_goRound_0 29 rfl
theorem dX4_goRound_50 : decode cX4_goRound 50 = .ok (.aload_n 0, 1) := decs_at tdX4_goRound_0 30 rfl
theorem dX4_goRound_51 : decode cX4_goRound 51 = .ok (.getfield 33, 3) := decs_at tdX4_goRound_0 31 rfl
theorem dX4_goRound_54 : decode cX4_goRound 54 = .ok (.ifCond .ne 7, 3) := decs_at tdX4_goRound_0 32 rfl
theorem dX4_goRound_57 : decode cX4_goRound 57 = .ok (.iconst 1, 1) := decs_at tdX4_goRound_0 33 rfl
theorem dX4_goRound_58 : decode cX4_goRound 58 = .ok (.goto 4, 3) := decs_at tdX4_goRound_0 34 rfl
theorem dX4_goRound_61 : decode cX4_goRound 61 = .ok (.iconst 0, 1) := decs_at tdX4_goRound_0 35 rfl
theorem dX4_goRound_62 : decode cX4_goRound 62 = .ok (.putfield 33, 3) := decs_at tdX4_goRound_0 36 rfl
theorem dX4_goRound_65 : decode cX4_goRound 65 = .ok (.aload_n 0, 1) := decs_at tdX4_goRound_0 37 rfl
theorem dX4_goRound_66 : decode cX4_goRound 66 = .ok (.iload_n 1, 1) := decs_at tdX4_goRound_0 38 rfl
theorem dX4_goRound_67 : decode cX4_goRound 67 = .ok (.putfield 37, 3) := decs_at tdX4_goRound_0 39 rfl
theorem tdX4_goRound_70 : decs cX4_goRound [(70, .aload_n 0, 1), (71, .iload_n 2, 1), (72, .putfield 40, 3), (75, .return_, 1)] = true := by decide +kernel
theorem dX4_goRound_70 : decode cX4_goRound 70 = .ok (.aload_n 0, 1) := decs_at tdX4_goRound_70 0 rfl
theorem dX4_goRound_71 : decode cX4_goRound 71 = .ok (.iload_n 2, 1) := decs_at tdX4_goRound_70 1 rfl
theorem dX4_goRound_72 : decode cX4_goRound 72 = .ok (.putfield 40, 3) := decs_at tdX4_goRound_70 2 rfl
theorem dX4_goRound_75 : decode cX4_goRound 75 = .ok (.return_, 1) := decs_at tdX4_goRound_70 3 rfl
set_option maxRecDepth 20000 in
theorem pl_wsX4_goesBy_wsX4_goesBy_r1 : ∀ w ∈ wsX4_goesBy_r1, w ∈ wsX4_goesBy := fun _ h => List.mem_cons_of_mem _ (List.mem_append_left _ (List.mem_append_left _ (List.mem_append_left _ (h))))
theorem pl_wsX4_goesBy_wsX00 : ∀ w ∈ wsX00, w ∈ wsX4_goesBy := fun _ h => List.mem_cons_of_mem _ (List.mem_append_right _ (h))
theorem ggX4_goesBy_X0_hasPondBeside : GoodIn wsX4_goesBy wsX0_hasPondBeside := goodIn_sub (List.forall_mem_cons.mpr ⟨(pl_wsX4_goesBy_wsX4_goesBy_r1 _ (List.mem_of_getElem? (i := 10) rfl)), (fun w h => (List.mem_append.mp h).elim ((List.forall_mem_cons.mpr ⟨(pl_wsX4_goesBy_wsX4_goesBy_r1 _ (List.mem_of_getElem? (i := 11) rfl)), List.forall_mem_cons.mpr ⟨(pl_wsX4_goesBy_wsX4_goesBy_r1 _ (List.mem_of_getElem? (i := 12) rfl)), List.forall_mem_cons.mpr ⟨(pl_wsX4_goesBy_wsX4_goesBy_r1 _ (List.mem_of_getElem? (i := 13) rfl)), List.forall_mem_cons.mpr ⟨(pl_wsX4_goesBy_wsX4_goesBy_r1 _ (List.mem_of_getElem? (i := 14) rfl)), List.forall_mem_cons.mpr ⟨(pl_wsX4_goesBy_wsX4_goesBy_r1 _ (List.mem_of_getElem? (i := 9) rfl)), List.forall_mem_cons.mpr ⟨(pl_wsX4_goesBy_wsX4_goesBy_r1 _ (List.mem_of_getElem? (i := 15) rfl)), List.forall_mem_cons.mpr ⟨(pl_wsX4_goesBy_wsX4_goesBy_r1 _ (List.mem_of_getElem? (i := 16) rfl)), List.forall_mem_cons.mpr ⟨(pl_wsX4_goesBy_wsX4_goesBy_r1 _ (List.mem_of_getElem? (i := 17) rfl)), List.forall_mem_cons.mpr ⟨(pl_wsX4_goesBy_wsX4_goesBy_r1 _ (List.mem_of_getElem? (i := 18) rfl)), fun _ h => absurd h List.not_mem_nil⟩⟩⟩⟩⟩⟩⟩⟩⟩) w) (pl_wsX4_goesBy_wsX00 w))⟩) (by decide +kernel)
set_option maxRecDepth 20000 in
theorem gX4_goesBy_X0_hasPondBeside : GoodIn wsX4_goesBy (wsV RX4 91 RX0 yX0_hasPondBeside wsX0_hasPondBeside) := goodIn_app (goodIn_sub (List.forall_mem_cons.mpr ⟨(pl_wsX4_goesBy_wsX4_goesBy_r1 _ (List.mem_of_getElem? (i := 6) rfl)), List.forall_mem_cons.mpr ⟨(pl_wsX4_goesBy_wsX4_goesBy_r1 _ (List.mem_of_getElem? (i := 7) rfl)), List.forall_mem_cons.mpr ⟨(pl_wsX4_goesBy_wsX4_goesBy_r1 _ (List.mem_of_getElem? (i := 8) rfl)), List.forall_mem_cons.mpr ⟨(pl_wsX4_goesBy_wsX4_goesBy_r1 _ (List.mem_of_getElem? (i := 9) rfl)), fun _ h => absurd h List.not_mem_nil⟩⟩⟩⟩) (by decide +kernel)) ggX4_goesBy_X0_hasPondBeside
set_option maxRecDepth 20000 in
theorem pl_wsX4_goesBy_wsX4_goesBy_r2 : ∀ w ∈ wsX4_goesBy_r2, w ∈ wsX4_goesBy := fun _ h => List.mem_cons_of_mem _ (List.mem_append_left _ (List.mem_append_left _ (List.mem_append_right _ (h))))
theorem pl_wsX4_goesBy_wsX40 : ∀ w ∈ wsX40, w ∈ wsX4_goesBy := fun _ h => List.mem_cons_of_mem _ (List.mem_append_left _ (List.mem_append_right _ (h)))
theorem ggX4_goesBy_X4_dances : GoodIn wsX4_goesBy wsX4_dances := goodIn_sub (List.forall_mem_cons.mpr ⟨(pl_wsX4_goesBy_wsX4_goesBy_r1 _ (List.mem_of_getElem? (i := 23) rfl)), (fun w h => (List.mem_append.mp h).elim ((List.forall_mem_cons.mpr ⟨(pl_wsX4_goesBy_wsX4_goesBy_r2 _ (List.mem_of_getElem? (i := 0) rfl)), List.forall_mem_cons.mpr ⟨(pl_wsX4_goesBy_wsX4_goesBy_r1 _ (List.mem_of_getElem? (i := 4) rfl)), List.forall_mem_cons.mpr ⟨(pl_wsX4_goesBy_wsX4_goesBy_r2 _ (List.mem_of_getElem? (i := 1) rfl)), fun _ h => absurd h List.not_mem_nil⟩⟩⟩) w) (pl_wsX4_goesBy_wsX40 w))⟩) (by decide +kernel)
set_option maxRecDepth 20000 in
theorem gX4_goesBy_X4_dances : GoodIn wsX4_goesBy (wsV RX4 94 RX4 yX4_dances wsX4_dances) := goodIn_app (goodIn_sub (List.forall_mem_cons.mpr ⟨(pl_wsX4_goesBy_wsX4_goesBy_r1 _ (List.mem_of_getElem? (i := 19) rfl)), List.forall_mem_cons.mpr ⟨(pl_wsX4_goesBy_wsX4_goesBy_r1 _ (List.mem_of_getElem? (i := 20) rfl)), List.forall_mem_cons.mpr ⟨(pl_wsX4_goesBy_wsX4_goesBy_r1 _ (List.mem_of_getElem? (i := 21) rfl)), List.forall_mem_cons.mpr ⟨(pl_wsX4_goesBy_wsX4_goesBy_r1 _ (List.mem_of_getElem? (i := 22) rfl)), fun _ h => absurd h List.not_mem_nil⟩⟩⟩⟩) (by decide +kernel)) ggX4_goesBy_X4_dances
theorem tdX4_goesBy_0 : decs cX4_goesBy [(0, .aload_n 0, 1), (1, .getfield 9, 3), (4, .tableswitch 104 1 5 #[36, 49, 44, 70, 98], 36), (40, .aload_n 0, 1), (41, .getfield 43, 3), (44, .getfield 88, 3), (47, .ireturn, 1), (48, .aload_n 0, 1), (49, .getfield 18, 3), (52, .ireturn, 1), (53, .aload_n 0, 1), (54, .getfield 33, 3), (57, .ifCond .eq 12, 3), (60, .iconst 1, 1), (61, .aload_n 0, 1), (62, .getfield 15, 3), (65, .isub, 1), (66, .goto 7, 3), (69, .aload_n 0, 1), (70, .getfield 15, 3), (73, .ireturn, 1), (74, .aload_n 0, 1), (75, .getfield 43, 3), (78, .aload_n 0, 1), (79, .getfield 21, 3), (82, .invokevirtual 91, 3), (85, .ifCond .eq 12, 3), (88, .iconst 1, 1), (89, .aload_n 0, 1), (90, .getfield 15, 3), (93, .isub, 1), (94, .goto 7, 3), (97, .aload_n 0, 1), (98, .getfield 15, 3), (101, .ireturn, 1), (102, .aload_n 0, 1), (103, .iload_n 1, 1), (104, .invokevirtual 94, 3), (107, .ireturn, 1), (108, .aload_n 0, 1)] = true := by decide +kernel
theorem dX4_goesBy_0 : decode cX4_goesBy 0 = .ok (.aload_n 0, 1) := decs_at tdX4_goesBy_0 0 rfl
theorem dX4_goesBy_1 : decode cX4_goesBy 1 = .ok (.getfield 9, 3) := decs_at tdX4_goesBy_0 1 rfl
theorem dX4_goesBy_4 : decode cX4_goesBy 4 = .ok (.tableswitch 104 1 5 #[36, 49, 44, 70, 98], 36) := decs_at tdX4_goesBy_0 2 rfl
theorem dX4_goesBy_40 : decode cX4_goesBy 40 = .ok (.aload_n 0, 1) := decs_at tdX4_goesBy_0 3 rfl
theorem dX4_goesBy_41 : decode cX4_goesBy 41 = .ok (.getfield 43, 3) := decs_at tdX4_goesBy_0 4 rfl
theorem dX4_goesBy_44 : decode cX4_goesBy 44 = .ok (.getfield 88, 3) := decs_at tdX4_goesBy_0 5 rfl
theorem dX4_goesBy_47 : decode cX4_goesBy 47 = .ok (.ireturn, 1) := decs_at tdX4_goesBy_0 6 rfl
theorem dX4_goesBy_48 : decode cX4_goesBy 48 = .ok (.aload_n 0, 1) := decs_at tdX4_goesBy_0 7 rfl
theorem dX4_goesBy_49 : decode cX4_goesBy 49 = .ok (.getfield 18, 3) := decs_at tdX4_goesBy_0 8 rfl
theorem dX4_goesBy_52 : decode cX4_goesBy 52 = .ok (.ireturn, 1) := decs_at tdX4_goesBy_0 9 rfl
theorem dX4_goesBy_53 : decode cX4_goesBy 53 = .ok (.aload_n 0, 1) := decs_at tdX4_goesBy_0 10 rfl
theorem dX4_goesBy_54 : decode cX4_goesBy 54 = .ok (.getfield 33, 3) := decs_at tdX4_goesBy_0 11 rfl
theorem dX4_goesBy_57 : decode cX4_goesBy 57 = .ok (.ifCond .eq 12, 3) := decs_at tdX4_goesBy_0 12 rfl
theorem dX4_goesBy_60 : decode cX4_goesBy 60 = .ok (.iconst 1, 1) := decs_at tdX4_goesBy_0 13 rfl
theorem dX4_goesBy_61 : decode cX4_goesBy 61 = .ok (.aload_n 0, 1) := decs_at tdX4_goesBy_0 14 rfl
theorem dX4_goesBy_62 : decode cX4_goesBy 62 = .ok (.getfield 15, 3) := decs_at tdX4_goesBy_0 15 rfl
theorem dX4_goesBy_65 : decode cX4_goesBy 65 = .ok (.isub, 1) := decs_at tdX4_goesBy_0 16 rfl
theorem dX4_goesBy_66 : decode cX4_goesBy 66 = .ok (.goto 7, 3) := decs_at tdX4_goesBy_0 17 rfl
theorem dX4_goesBy_69 : decode cX4_goesBy 69 = .ok (.aload_n 0, 1) := decs_at tdX4_goesBy_0 18 rfl
theorem dX4_goesBy_70 : decode cX4_goesBy 70 = .ok (.getfield 15, 3) := decs_at tdX4_goesBy_0 19 rfl
theorem dX4_goesBy_73 : decode cX4_goesBy 73 = .ok (.ireturn, 1) := decs_at tdX4_goesBy_0 20 rfl
theorem dX4_goesBy_74 : decode cX4_goesBy 74 = .ok (.aload_n 0, 1) := decs_at tdX4_goesBy_0 21 rfl
theorem dX4_goesBy_75 : decode cX4_goesBy 75 = .ok (.getfield 43, 3) := decs_at tdX4_goesBy_0 22 rfl
theorem dX4_goesBy_78 : decode cX4_goesBy 78 = .ok (.aload_n 0, 1) := decs_at tdX4_goesBy_0 23 rfl
theorem dX4_goesBy_79 : decode cX4_goesBy 79 = .ok (.getfield 21, 3) := decs_at tdX4_goesBy_0 24 rfl
theorem dX4_goesBy_82 : decode cX4_goesBy 82 = .ok (.invokevirtual 91, 3) := decs_at tdX4_goesBy_0 25 rfl
theorem dX4_goesBy_85 : decode cX4_goesBy 85 = .ok (.ifCond .eq 12, 3) := decs_at tdX4_goesBy_0 26 rfl
theorem dX4_goesBy_88 : decode cX4_goesBy 88 = .ok (.iconst 1, 1) := decs_at tdX4_goesBy_0 27 rfl
theorem dX4_goesBy_89 : decode cX4_goesBy 89 = .ok (.aload_n 0, 1) := decs_at tdX4_goesBy_0 28 rfl
theorem dX4_goesBy_90 : decode cX4_goesBy 90 = .ok (.getfield 15, 3) := decs_at tdX4_goesBy_0 29 rfl
theorem dX4_goesBy_93 : decode cX4_goesBy 93 = .ok (.isub, 1) := decs_at tdX4_goesBy_0 30 rfl
theorem dX4_goesBy_94 : decode cX4_goesBy 94 = .ok (.goto 7, 3) := decs_at tdX4_goesBy_0 31 rfl
theorem dX4_goesBy_97 : decode cX4_goesBy 97 = .ok (.aload_n 0, 1) := decs_at tdX4_goesBy_0 32 rfl
theorem dX4_goesBy_98 : decode cX4_goesBy 98 = .ok (.getfield 15, 3) := decs_at tdX4_goesBy_0 33 rfl
theorem dX4_goesBy_101 : decode cX4_goesBy 101 = .ok (.ireturn, 1) := decs_at tdX4_goesBy_0 34 rfl
theorem dX4_goesBy_102 : decode cX4_goesBy 102 = .ok (.aload_n 0, 1) := decs_at tdX4_goesBy_0 35 rfl
theorem dX4_goesBy_103 : decode cX4_goesBy 103 = .ok (.iload_n 1, 1) := decs_at tdX4_goesBy_0 36 rfl
theorem dX4_goesBy_104 : decode cX4_goesBy 104 = .ok (.invokevirtual 94, 3) := decs_at tdX4_goesBy_0 37 rfl
theorem dX4_goesBy_107 : decode cX4_goesBy 107 = .ok (.ireturn, 1) := decs_at tdX4_goesBy_0 38 rfl
theorem dX4_goesBy_108 : decode cX4_goesBy 108 = .ok (.aload_n 0, 1) := decs_at tdX4_goesBy_0 39 rfl
theorem tdX4_goesBy_109 : decs cX4_goesBy [(109, .getfield 15, 3), (112, .ireturn, 1)] = true := by decide +kernel
theorem dX4_goesBy_109 : decode cX4_goesBy 109 = .ok (.getfield 15, 3) := decs_at tdX4_goesBy_109 0 rfl
theorem dX4_goesBy_112 : decode cX4_goesBy 112 = .ok (.ireturn, 1) := decs_at tdX4_goesBy_109 1 rfl
theorem tdX4_dances_0 : decs cX4_dances [(0, .aload_n 0, 1), (1, .getfield 37, 3), (4, .ifCond .ne 8, 3), (7, .aload_n 0, 1), (8, .getfield 15, 3), (11, .ireturn, 1), (12, .aload_n 0, 1), (13, .getfield 37, 3), (16, .iload_n 1, 1), (17, .if_icmp .ne 12, 3), (20, .iconst 1, 1), (21, .aload_n 0, 1), (22, .getfield 40, 3), (25, .isub, 1), (26, .goto 7, 3), (29, .aload_n 0, 1), (30, .getfield 40, 3), (33, .ireturn, 1)] = true := by decide +kernel
theorem dX4_dances_0 : decode cX4_dances 0 = .ok (.aload_n 0, 1) := decs_at tdX4_dances_0 0 rfl
theorem dX4_dances_1 : decode cX4_dances 1 = .ok (.getfield 37, 3) := decs_at tdX4_dances_0 1 rfl
theorem dX4_dances_4 : decode cX4_dances 4 = .ok (.ifCond .ne 8, 3) := decs_at tdX4_dances_0 2 rfl
theorem dX4_dances_7 : decode cX4_dances 7 = .ok (.aload_n 0, 1) := decs_at tdX4_dances_0 3 rfl
theorem dX4_dances_8 : decode cX4_dances 8 = .ok (.getfield 15, 3) := decs_at tdX4_dances_0 4 rfl
theorem dX4_dances_11 : decode cX4_dances 11 = .ok (.ireturn, 1) := decs_at tdX4_dances_0 5 rfl
theorem dX4_dances_12 : decode cX4_dances 12 = .ok (.aload_n 0, 1) := decs_at tdX4_dances_0 6 rfl
theorem dX4_dances_13 : decode cX4_dances 13 = .ok (.getfield 37, 3) := decs_at tdX4_dances_0 7 rfl
theorem dX4_dances_16 : decode cX4_dances 16 = .ok (.iload_n 1, 1) := decs_at tdX4_dances_0 8 rfl
theorem dX4_dances_17 : decode cX4_dances 17 = .ok (.if_icmp .ne 12, 3) := decs_at tdX4_dances_0 9 rfl
theorem dX4_dances_20 : decode cX4_dances 20 = .ok (.iconst 1, 1) := decs_at tdX4_dances_0 10 rfl
theorem dX4_dances_21 : decode cX4_dances 21 = .ok (.aload_n 0, 1) := decs_at tdX4_dances_0 11 rfl
theorem dX4_dances_22 : decode cX4_dances 22 = .ok (.getfield 40, 3) := decs_at tdX4_dances_0 12 rfl
theorem dX4_dances_25 : decode cX4_dances 25 = .ok (.isub, 1) := decs_at tdX4_dances_0 13 rfl
theorem dX4_dances_26 : decode cX4_dances 26 = .ok (.goto 7, 3) := decs_at tdX4_dances_0 14 rfl
theorem dX4_dances_29 : decode cX4_dances 29 = .ok (.aload_n 0, 1) := decs_at tdX4_dances_0 15 rfl
theorem dX4_dances_30 : decode cX4_dances 30 = .ok (.getfield 40, 3) := decs_at tdX4_dances_0 16 rfl
theorem dX4_dances_33 : decode cX4_dances 33 = .ok (.ireturn, 1) := decs_at tdX4_dances_0 17 rfl
set_option maxRecDepth 20000 in
theorem pl_wsX4_state_wsX40 : ∀ w ∈ wsX40, w ∈ wsX4_state := fun _ h => List.mem_cons_of_mem _ (List.mem_append_right _ (h))
theorem ggX4_state_X4_isFallen : GoodIn wsX4_state wsX4_isFallen := goodIn_sub (List.forall_mem_cons.mpr ⟨(List.mem_cons_of_mem _ (List.mem_append_left _ (List.mem_of_getElem? (i := 9) rfl))), (fun w h => (List.mem_append.mp h).elim ((List.forall_mem_cons.mpr ⟨(List.mem_cons_of_mem _ (List.mem_append_left _ (List.mem_of_getElem? (i := 10) rfl))), fun _ h => absurd h List.not_mem_nil⟩) w) (pl_wsX4_state_wsX40 w))⟩) (by decide +kernel)
set_option maxRecDepth 20000 in
theorem gX4_state_X4_isFallen : GoodIn wsX4_state (wsV RX4 66 RX4 yX4_isFallen wsX4_isFallen) := goodIn_app (goodIn_sub (List.forall_mem_cons.mpr ⟨(List.mem_cons_of_mem _ (List.mem_append_left _ (List.mem_of_getElem? (i := 5) rfl))), List.forall_mem_cons.mpr ⟨(List.mem_cons_of_mem _ (List.mem_append_left _ (List.mem_of_getElem? (i := 6) rfl))), List.forall_mem_cons.mpr ⟨(List.mem_cons_of_mem _ (List.mem_append_left _ (List.mem_of_getElem? (i := 7) rfl))), List.forall_mem_cons.mpr ⟨(List.mem_cons_of_mem _ (List.mem_append_left _ (List.mem_of_getElem? (i := 8) rfl))), fun _ h => absurd h List.not_mem_nil⟩⟩⟩⟩) (by decide +kernel)) ggX4_state_X4_isFallen
set_option maxRecDepth 20000 in
theorem ggX4_state_X5_asNumber : GoodIn wsX4_state wsX5_asNumber := goodIn_sub (List.forall_mem_cons.mpr ⟨(List.mem_cons_of_mem _ (List.mem_append_left _ (List.mem_of_getElem? (i := 13) rfl))), (fun _ h => absurd h List.not_mem_nil)⟩) (by decide +kernel)
set_option maxRecDepth 20000 in
theorem gX4_state_X5_asNumber_n97 : GoodIn wsX4_state (wsX5_asNumber) := ggX4_state_X5_asNumber
theorem tdX4_state_0 : decs cX4_state [(0, .aload_n 0, 1), (1, .invokevirtual 66, 3), (4, .ifCond .eq 5, 3), (7, .iconst (-1), 1), (8, .ireturn, 1), (9, .aload_n 0, 1), (10, .getfield 33, 3), (13, .invokestatic 97, 3), (16, .aload_n 0, 1), (17, .getfield 40, 3), (20, .iconst 1, 1), (21, .ishl, 1), (22, .ior, 1), (23, .aload_n 0, 1), (24, .getfield 37, 3), (27, .iconst 2, 1), (28, .ishl, 1), (29, .ior, 1), (30, .istore_n 1, 1), (31, .aload_n 0, 1), (32, .getfield 21, 3), (35, .aload_n 0, 1), (36, .getfield 24, 3), (39, .bipush 7, 2), (41, .ishl, 1), (42, .ior, 1), (43, .iload_n 1, 1), (44, .bipush 9, 2), (46, .ishl, 1), (47, .ior, 1), (48, .ireturn, 1)] = true := by decide +kernel
theorem dX4_state_0 : decode cX4_state 0 = .ok (.aload_n 0, 1) := decs_at tdX4_state_0 0 rfl
theorem dX4_state_1 : decode cX4_state 1 = .ok (.invokevirtual 66, 3) := decs_at tdX4_state_0 1 rfl
theorem dX4_state_4 : decode cX4_state 4 = .ok (.ifCond .eq 5, 3) := decs_at tdX4_state_0 2 rfl
theorem dX4_state_7 : decode cX4_state 7 = .ok (.iconst (-1), 1) := decs_at tdX4_state_0 3 rfl
theorem dX4_state_8 : decode cX4_state 8 = .ok (.ireturn, 1) := decs_at tdX4_state_0 4 rfl
theorem dX4_state_9 : decode cX4_state 9 = .ok (.aload_n 0, 1) := decs_at tdX4_state_0 5 rfl
theorem dX4_state_10 : decode cX4_state 10 = .ok (.getfield 33, 3) := decs_at tdX4_state_0 6 rfl
theorem dX4_state_13 : decode cX4_state 13 = .ok (.invokestatic 97, 3) := decs_at tdX4_state_0 7 rfl
theorem dX4_state_16 : decode cX4_state 16 = .ok (.aload_n 0, 1) := decs_at tdX4_state_0 8 rfl
theorem dX4_state_17 : decode cX4_state 17 = .ok (.getfield 40, 3) := decs_at tdX4_state_0 9 rfl
theorem dX4_state_20 : decode cX4_state 20 = .ok (.iconst 1, 1) := decs_at tdX4_state_0 10 rfl
theorem dX4_state_21 : decode cX4_state 21 = .ok (.ishl, 1) := decs_at tdX4_state_0 11 rfl
theorem dX4_state_22 : decode cX4_state 22 = .ok (.ior, 1) := decs_at tdX4_state_0 12 rfl
theorem dX4_state_23 : decode cX4_state 23 = .ok (.aload_n 0, 1) := decs_at tdX4_state_0 13 rfl
theorem dX4_state_24 : decode cX4_state 24 = .ok (.getfield 37, 3) := decs_at tdX4_state_0 14 rfl
theorem dX4_state_27 : decode cX4_state 27 = .ok (.iconst 2, 1) := decs_at tdX4_state_0 15 rfl
theorem dX4_state_28 : decode cX4_state 28 = .ok (.ishl, 1) := decs_at tdX4_state_0 16 rfl
theorem dX4_state_29 : decode cX4_state 29 = .ok (.ior, 1) := decs_at tdX4_state_0 17 rfl
theorem dX4_state_30 : decode cX4_state 30 = .ok (.istore_n 1, 1) := decs_at tdX4_state_0 18 rfl
theorem dX4_state_31 : decode cX4_state 31 = .ok (.aload_n 0, 1) := decs_at tdX4_state_0 19 rfl
theorem dX4_state_32 : decode cX4_state 32 = .ok (.getfield 21, 3) := decs_at tdX4_state_0 20 rfl
theorem dX4_state_35 : decode cX4_state 35 = .ok (.aload_n 0, 1) := decs_at tdX4_state_0 21 rfl
theorem dX4_state_36 : decode cX4_state 36 = .ok (.getfield 24, 3) := decs_at tdX4_state_0 22 rfl
theorem dX4_state_39 : decode cX4_state 39 = .ok (.bipush 7, 2) := decs_at tdX4_state_0 23 rfl
theorem dX4_state_41 : decode cX4_state 41 = .ok (.ishl, 1) := decs_at tdX4_state_0 24 rfl
theorem dX4_state_42 : decode cX4_state 42 = .ok (.ior, 1) := decs_at tdX4_state_0 25 rfl
theorem dX4_state_43 : decode cX4_state 43 = .ok (.iload_n 1, 1) := decs_at tdX4_state_0 26 rfl
theorem dX4_state_44 : decode cX4_state 44 = .ok (.bipush 9, 2) := decs_at tdX4_state_0 27 rfl
theorem dX4_state_46 : decode cX4_state 46 = .ok (.ishl, 1) := decs_at tdX4_state_0 28 rfl
theorem dX4_state_47 : decode cX4_state 47 = .ok (.ior, 1) := decs_at tdX4_state_0 29 rfl
theorem dX4_state_48 : decode cX4_state 48 = .ok (.ireturn, 1) := decs_at tdX4_state_0 30 rfl
theorem tdX4_resume_0 : decs cX4_resume [(0, .aload_n 0, 1), (1, .iload_n 1, 1), (2, .bipush 127, 2), (4, .iand, 1), (5, .putfield 21, 3), (8, .aload_n 0, 1), (9, .iload_n 1, 1), (10, .bipush 7, 2), (12, .ishr, 1), (13, .iconst 3, 1), (14, .iand, 1), (15, .putfield 24, 3), (18, .aload_n 0, 1), (19, .iload_n 1, 1), (20, .bipush 9, 2), (22, .ishr, 1), (23, .iconst 1, 1), (24, .iand, 1), (25, .iconst 1, 1), (26, .if_icmp .ne 7, 3), (29, .iconst 1, 1), (30, .goto 4, 3), (33, .iconst 0, 1), (34, .putfield 33, 3), (37, .aload_n 0, 1), (38, .iload_n 1, 1), (39, .bipush 10, 2), (41, .ishr, 1), (42, .iconst 1, 1), (43, .iand, 1), (44, .putfield 40, 3), (47, .aload_n 0, 1), (48, .iload_n 1, 1), (49, .bipush 11, 2), (51, .ishr, 1), (52, .iconst 3, 1), (53, .iand, 1), (54, .putfield 37, 3), (57, .aload_n 0, 1), (58, .iconst (-1), 1)] = true := by decide +kernel
theorem dX4_resume_0 : decode cX4_resume 0 = .ok (.aload_n 0, 1) := decs_at tdX4_resume_0 0 rfl
theorem dX4_resume_1 : decode cX4_resume 1 = .ok (.iload_n 1, 1) := decs_at tdX4_resume_0 1 rfl
theorem dX4_resume_2 : decode cX4_resume 2 = .ok (.bipush 127, 2) := decs_at tdX4_resume_0 2 rfl
theorem dX4_resume_4 : decode cX4_resume 4 = .ok (.iand, 1) := decs_at tdX4_resume_0 3 rfl
theorem dX4_resume_5 : decode cX4_resume 5 = .ok (.putfield 21, 3) := decs_at tdX4_resume_0 4 rfl
theorem dX4_resume_8 : decode cX4_resume 8 = .ok (.aload_n 0, 1) := decs_at tdX4_resume_0 5 rfl
theorem dX4_resume_9 : decode cX4_resume 9 = .ok (.iload_n 1, 1) := decs_at tdX4_resume_0 6 rfl
theorem dX4_resume_10 : decode cX4_resume 10 = .ok (.bipush 7, 2) := decs_at tdX4_resume_0 7 rfl
theorem dX4_resume_12 : decode cX4_resume 12 = .ok (.ishr, 1) := decs_at tdX4_resume_0 8 rfl
theorem dX4_resume_13 : decode cX4_resume 13 = .ok (.iconst 3, 1) := decs_at tdX4_resume_0 9 rfl
theorem dX4_resume_14 : decode cX4_resume 14 = .ok (.iand, 1) := decs_at tdX4_resume_0 10 rfl
theorem dX4_resume_15 : decode cX4_resume 15 = .ok (.putfield 24, 3) := decs_at tdX4_resume_0 11 rfl
theorem dX4_resume_18 : decode cX4_resume 18 = .ok (.aload_n 0, 1) := decs_at tdX4_resume_0 12 rfl
theorem dX4_resume_19 : decode cX4_resume 19 = .ok (.iload_n 1, 1) := decs_at tdX4_resume_0 13 rfl
theorem dX4_resume_20 : decode cX4_resume 20 = .ok (.bipush 9, 2) := decs_at tdX4_resume_0 14 rfl
theorem dX4_resume_22 : decode cX4_resume 22 = .ok (.ishr, 1) := decs_at tdX4_resume_0 15 rfl
theorem dX4_resume_23 : decode cX4_resume 23 = .ok (.iconst 1, 1) := decs_at tdX4_resume_0 16 rfl
theorem dX4_resume_24 : decode cX4_resume 24 = .ok (.iand, 1) := decs_at tdX4_resume_0 17 rfl
theorem dX4_resume_25 : decode cX4_resume 25 = .ok (.iconst 1, 1) := decs_at tdX4_resume_0 18 rfl
theorem dX4_resume_26 : decode cX4_resume 26 = .ok (.if_icmp .ne 7, 3) := decs_at tdX4_resume_0 19 rfl
theorem dX4_resume_29 : decode cX4_resume 29 = .ok (.iconst 1, 1) := decs_at tdX4_resume_0 20 rfl
theorem dX4_resume_30 : decode cX4_resume 30 = .ok (.goto 4, 3) := decs_at tdX4_resume_0 21 rfl
theorem dX4_resume_33 : decode cX4_resume 33 = .ok (.iconst 0, 1) := decs_at tdX4_resume_0 22 rfl
theorem dX4_resume_34 : decode cX4_resume 34 = .ok (.putfield 33, 3) := decs_at tdX4_resume_0 23 rfl
theorem dX4_resume_37 : decode cX4_resume 37 = .ok (.aload_n 0, 1) := decs_at tdX4_resume_0 24 rfl
theorem dX4_resume_38 : decode cX4_resume 38 = .ok (.iload_n 1, 1) := decs_at tdX4_resume_0 25 rfl
theorem dX4_resume_39 : decode cX4_resume 39 = .ok (.bipush 10, 2) := decs_at tdX4_resume_0 26 rfl
theorem dX4_resume_41 : decode cX4_resume 41 = .ok (.ishr, 1) := decs_at tdX4_resume_0 27 rfl
theorem dX4_resume_42 : decode cX4_resume 42 = .ok (.iconst 1, 1) := decs_at tdX4_resume_0 28 rfl
theorem dX4_resume_43 : decode cX4_resume 43 = .ok (.iand, 1) := decs_at tdX4_resume_0 29 rfl
theorem dX4_resume_44 : decode cX4_resume 44 = .ok (.putfield 40, 3) := decs_at tdX4_resume_0 30 rfl
theorem dX4_resume_47 : decode cX4_resume 47 = .ok (.aload_n 0, 1) := decs_at tdX4_resume_0 31 rfl
theorem dX4_resume_48 : decode cX4_resume 48 = .ok (.iload_n 1, 1) := decs_at tdX4_resume_0 32 rfl
theorem dX4_resume_49 : decode cX4_resume 49 = .ok (.bipush 11, 2) := decs_at tdX4_resume_0 33 rfl
theorem dX4_resume_51 : decode cX4_resume 51 = .ok (.ishr, 1) := decs_at tdX4_resume_0 34 rfl
theorem dX4_resume_52 : decode cX4_resume 52 = .ok (.iconst 3, 1) := decs_at tdX4_resume_0 35 rfl
theorem dX4_resume_53 : decode cX4_resume 53 = .ok (.iand, 1) := decs_at tdX4_resume_0 36 rfl
theorem dX4_resume_54 : decode cX4_resume 54 = .ok (.putfield 37, 3) := decs_at tdX4_resume_0 37 rfl
theorem dX4_resume_57 : decode cX4_resume 57 = .ok (.aload_n 0, 1) := decs_at tdX4_resume_0 38 rfl
theorem dX4_resume_58 : decode cX4_resume 58 = .ok (.iconst (-1), 1) := decs_at tdX4_resume_0 39 rfl
theorem tdX4_resume_59 : decs cX4_resume [(59, .putfield 30, 3), (62, .return_, 1)] = true := by decide +kernel
theorem dX4_resume_59 : decode cX4_resume 59 = .ok (.putfield 30, 3) := decs_at tdX4_resume_59 0 rfl
theorem dX4_resume_62 : decode cX4_resume 62 = .ok (.return_, 1) := decs_at tdX4_resume_59 1 rfl
theorem tdX4_cellOf_0 : decs cX4_cellOf [(0, .iload_n 0, 1), (1, .iconst (-1), 1), (2, .if_icmp .ne 7, 3), (5, .iconst (-1), 1), (6, .goto 7, 3), (9, .iload_n 0, 1), (10, .bipush 127, 2), (12, .iand, 1), (13, .ireturn, 1)] = true := by decide +kernel
theorem dX4_cellOf_0 : decode cX4_cellOf 0 = .ok (.iload_n 0, 1) := decs_at tdX4_cellOf_0 0 rfl
theorem dX4_cellOf_1 : decode cX4_cellOf 1 = .ok (.iconst (-1), 1) := decs_at tdX4_cellOf_0 1 rfl
theorem dX4_cellOf_2 : decode cX4_cellOf 2 = .ok (.if_icmp .ne 7, 3) := decs_at tdX4_cellOf_0 2 rfl
theorem dX4_cellOf_5 : decode cX4_cellOf 5 = .ok (.iconst (-1), 1) := decs_at tdX4_cellOf_0 3 rfl
theorem dX4_cellOf_6 : decode cX4_cellOf 6 = .ok (.goto 7, 3) := decs_at tdX4_cellOf_0 4 rfl
theorem dX4_cellOf_9 : decode cX4_cellOf 9 = .ok (.iload_n 0, 1) := decs_at tdX4_cellOf_0 5 rfl
theorem dX4_cellOf_10 : decode cX4_cellOf 10 = .ok (.bipush 127, 2) := decs_at tdX4_cellOf_0 6 rfl
theorem dX4_cellOf_12 : decode cX4_cellOf 12 = .ok (.iand, 1) := decs_at tdX4_cellOf_0 7 rfl
theorem dX4_cellOf_13 : decode cX4_cellOf 13 = .ok (.ireturn, 1) := decs_at tdX4_cellOf_0 8 rfl
set_option maxRecDepth 20000 in
theorem pl_wsX5_init_wsX5_init_r2 : ∀ w ∈ wsX5_init_r2, w ∈ wsX5_init := fun _ h => List.mem_cons_of_mem _ (List.mem_append_left _ (List.mem_append_left _ (List.mem_append_left _ (List.mem_append_left _ (List.mem_append_left _ (List.mem_append_left _ (List.mem_append_right _ (List.mem_append_left _ (h)))))))))
theorem pl_wsX5_init_wsX5_init_r1 : ∀ w ∈ wsX5_init_r1, w ∈ wsX5_init := fun _ h => List.mem_cons_of_mem _ (List.mem_append_left _ (List.mem_append_left _ (List.mem_append_left _ (List.mem_append_left _ (List.mem_append_left _ (List.mem_append_left _ (List.mem_append_left _ (h))))))))
theorem pl_wsX5_init_wsX00 : ∀ w ∈ wsX00, w ∈ wsX5_init := fun _ h => List.mem_cons_of_mem _ (List.mem_append_left _ (List.mem_append_left _ (List.mem_append_left _ (List.mem_append_left _ (List.mem_append_left _ (List.mem_append_right _ (h)))))))
theorem ggX5_init_X0_init : GoodIn wsX5_init wsX0_init := goodIn_sub (List.forall_mem_cons.mpr ⟨(pl_wsX5_init_wsX5_init_r2 _ (List.mem_of_getElem? (i := 7) rfl)), (fun w h => (List.mem_append.mp h).elim ((List.forall_mem_cons.mpr ⟨(pl_wsX5_init_wsX5_init_r2 _ (List.mem_of_getElem? (i := 8) rfl)), List.forall_mem_cons.mpr ⟨(pl_wsX5_init_wsX5_init_r1 _ (List.mem_of_getElem? (i := 1) rfl)), List.forall_mem_cons.mpr ⟨(pl_wsX5_init_wsX5_init_r1 _ (List.mem_of_getElem? (i := 2) rfl)), List.forall_mem_cons.mpr ⟨(pl_wsX5_init_wsX5_init_r2 _ (List.mem_of_getElem? (i := 9) rfl)), List.forall_mem_cons.mpr ⟨(pl_wsX5_init_wsX5_init_r2 _ (List.mem_of_getElem? (i := 10) rfl)), List.forall_mem_cons.mpr ⟨(pl_wsX5_init_wsX5_init_r2 _ (List.mem_of_getElem? (i := 11) rfl)), List.forall_mem_cons.mpr ⟨(pl_wsX5_init_wsX5_init_r2 _ (List.mem_of_getElem? (i := 12) rfl)), List.forall_mem_cons.mpr ⟨(pl_wsX5_init_wsX5_init_r2 _ (List.mem_of_getElem? (i := 13) rfl)), List.forall_mem_cons.mpr ⟨(pl_wsX5_init_wsX5_init_r2 _ (List.mem_of_getElem? (i := 14) rfl)), List.forall_mem_cons.mpr ⟨(pl_wsX5_init_wsX5_init_r2 _ (List.mem_of_getElem? (i := 15) rfl)), List.forall_mem_cons.mpr ⟨(pl_wsX5_init_wsX5_init_r2 _ (List.mem_of_getElem? (i := 16) rfl)), List.forall_mem_cons.mpr ⟨(pl_wsX5_init_wsX5_init_r2 _ (List.mem_of_getElem? (i := 17) rfl)), List.forall_mem_cons.mpr ⟨(pl_wsX5_init_wsX5_init_r2 _ (List.mem_of_getElem? (i := 18) rfl)), List.forall_mem_cons.mpr ⟨(pl_wsX5_init_wsX5_init_r2 _ (List.mem_of_getElem? (i := 2) rfl)), List.forall_mem_cons.mpr ⟨(pl_wsX5_init_wsX5_init_r2 _ (List.mem_of_getElem? (i := 19) rfl)), List.forall_mem_cons.mpr ⟨(pl_wsX5_init_wsX5_init_r2 _ (List.mem_of_getElem? (i := 20) rfl)), List.forall_mem_cons.mpr ⟨(pl_wsX5_init_wsX5_init_r2 _ (List.mem_of_getElem? (i := 21) rfl)), List.forall_mem_cons.mpr ⟨(pl_wsX5_init_wsX5_init_r2 _ (List.mem_of_getElem? (i := 22) rfl)), List.forall_mem_cons.mpr ⟨(pl_wsX5_init_wsX5_init_r2 _ (List.mem_of_getElem? (i := 23) rfl)), fun _ h => absurd h List.not_mem_nil⟩⟩⟩⟩⟩⟩⟩⟩⟩⟩⟩⟩⟩⟩⟩⟩⟩⟩⟩) w) (pl_wsX5_init_wsX00 w))⟩) (by decide +kernel)
set_option maxRecDepth 20000 in
theorem gX5_init_X0_init_n9 : GoodIn wsX5_init (wsX0_init) := ggX5_init_X0_init
set_option maxRecDepth 20000 in
theorem pl_wsX5_init_wsX5_init_r3 : ∀ w ∈ wsX5_init_r3, w ∈ wsX5_init := fun _ h => List.mem_cons_of_mem _ (List.mem_append_left _ (List.mem_append_left _ (List.mem_append_left _ (List.mem_append_left _ (List.mem_append_left _ (List.mem_append_left _ (List.mem_append_right _ (List.mem_append_right _ (List.mem_append_left _ (h))))))))))
theorem pl_wsX5_init_wsX10 : ∀ w ∈ wsX10, w ∈ wsX5_init := fun _ h => List.mem_cons_of_mem _ (List.mem_append_left _ (List.mem_append_left _ (List.mem_append_left _ (List.mem_append_right _ (h)))))
theorem ggX5_init_X1_init : GoodIn wsX5_init wsX1_init := goodIn_sub (List.forall_mem_cons.mpr ⟨(pl_wsX5_init_wsX5_init_r3 _ (List.mem_of_getElem? (i := 2) rfl)), (fun w h => (List.mem_append.mp h).elim ((List.forall_mem_cons.mpr ⟨(pl_wsX5_init_wsX5_init_r3 _ (List.mem_of_getElem? (i := 3) rfl)), List.forall_mem_cons.mpr ⟨(pl_wsX5_init_wsX5_init_r1 _ (List.mem_of_getElem? (i := 1) rfl)), List.forall_mem_cons.mpr ⟨(pl_wsX5_init_wsX5_init_r1 _ (List.mem_of_getElem? (i := 2) rfl)), List.forall_mem_cons.mpr ⟨(pl_wsX5_init_wsX5_init_r2 _ (List.mem_of_getElem? (i := 2) rfl)), List.forall_mem_cons.mpr ⟨(pl_wsX5_init_wsX5_init_r3 _ (List.mem_of_getElem? (i := 4) rfl)), List.forall_mem_cons.mpr ⟨(pl_wsX5_init_wsX5_init_r3 _ (List.mem_of_getElem? (i := 5) rfl)), List.forall_mem_cons.mpr ⟨(pl_wsX5_init_wsX5_init_r3 _ (List.mem_of_getElem? (i := 6) rfl)), List.forall_mem_cons.mpr ⟨(pl_wsX5_init_wsX5_init_r3 _ (List.mem_of_getElem? (i := 7) rfl)), List.forall_mem_cons.mpr ⟨(pl_wsX5_init_wsX5_init_r3 _ (List.mem_of_getElem? (i := 8) rfl)), List.forall_mem_cons.mpr ⟨(pl_wsX5_init_wsX5_init_r3 _ (List.mem_of_getElem? (i := 9) rfl)), List.forall_mem_cons.mpr ⟨(pl_wsX5_init_wsX5_init_r3 _ (List.mem_of_getElem? (i := 10) rfl)), fun _ h => absurd h List.not_mem_nil⟩⟩⟩⟩⟩⟩⟩⟩⟩⟩⟩) w) (pl_wsX5_init_wsX10 w))⟩) (by decide +kernel)
set_option maxRecDepth 20000 in
theorem gX5_init_X1_init : GoodIn wsX5_init (wsX1_init) := ggX5_init_X1_init
set_option maxRecDepth 20000 in
theorem pl_wsX5_init_wsX30 : ∀ w ∈ wsX30, w ∈ wsX5_init := fun _ h => List.mem_cons_of_mem _ (List.mem_append_left _ (List.mem_append_left _ (List.mem_append_right _ (h))))
theorem ggX5_init_X3_init : GoodIn wsX5_init wsX3_init := goodIn_sub (List.forall_mem_cons.mpr ⟨(pl_wsX5_init_wsX5_init_r3 _ (List.mem_of_getElem? (i := 12) rfl)), (fun w h => (List.mem_append.mp h).elim ((List.forall_mem_cons.mpr ⟨(pl_wsX5_init_wsX5_init_r3 _ (List.mem_of_getElem? (i := 13) rfl)), List.forall_mem_cons.mpr ⟨(pl_wsX5_init_wsX5_init_r1 _ (List.mem_of_getElem? (i := 1) rfl)), List.forall_mem_cons.mpr ⟨(pl_wsX5_init_wsX5_init_r1 _ (List.mem_of_getElem? (i := 2) rfl)), List.forall_mem_cons.mpr ⟨(pl_wsX5_init_wsX5_init_r2 _ (List.mem_of_getElem? (i := 2) rfl)), List.forall_mem_cons.mpr ⟨(pl_wsX5_init_wsX5_init_r3 _ (List.mem_of_getElem? (i := 14) rfl)), List.forall_mem_cons.mpr ⟨(pl_wsX5_init_wsX5_init_r3 _ (List.mem_of_getElem? (i := 15) rfl)), List.forall_mem_cons.mpr ⟨(pl_wsX5_init_wsX5_init_r3 _ (List.mem_of_getElem? (i := 16) rfl)), List.forall_mem_cons.mpr ⟨(pl_wsX5_init_wsX5_init_r3 _ (List.mem_of_getElem? (i := 17) rfl)), fun _ h => absurd h List.not_mem_nil⟩⟩⟩⟩⟩⟩⟩⟩) w) (pl_wsX5_init_wsX30 w))⟩) (by decide +kernel)
set_option maxRecDepth 20000 in
theorem gX5_init_X3_init_n33 : GoodIn wsX5_init (wsX3_init) := ggX5_init_X3_init
set_option maxRecDepth 20000 in
theorem pl_wsX5_init_wsX5_init_r4 : ∀ w ∈ wsX5_init_r4, w ∈ wsX5_init := fun _ h => List.mem_cons_of_mem _ (List.mem_append_left _ (List.mem_append_left _ (List.mem_append_left _ (List.mem_append_left _ (List.mem_append_left _ (List.mem_append_left _ (List.mem_append_right _ (List.mem_append_right _ (List.mem_append_right _ (h))))))))))
theorem pl_wsX5_init_wsX40 : ∀ w ∈ wsX40, w ∈ wsX5_init := fun _ h => List.mem_cons_of_mem _ (List.mem_append_left _ (List.mem_append_right _ (h)))
theorem ggX5_init_X4_init : GoodIn wsX5_init wsX4_init := goodIn_sub (List.forall_mem_cons.mpr ⟨(pl_wsX5_init_wsX5_init_r3 _ (List.mem_of_getElem? (i := 20) rfl)), (fun w h => (List.mem_append.mp h).elim ((List.forall_mem_cons.mpr ⟨(pl_wsX5_init_wsX5_init_r3 _ (List.mem_of_getElem? (i := 21) rfl)), List.forall_mem_cons.mpr ⟨(pl_wsX5_init_wsX5_init_r1 _ (List.mem_of_getElem? (i := 1) rfl)), List.forall_mem_cons.mpr ⟨(pl_wsX5_init_wsX5_init_r1 _ (List.mem_of_getElem? (i := 2) rfl)), List.forall_mem_cons.mpr ⟨(pl_wsX5_init_wsX5_init_r3 _ (List.mem_of_getElem? (i := 22) rfl)), List.forall_mem_cons.mpr ⟨(pl_wsX5_init_wsX5_init_r3 _ (List.mem_of_getElem? (i := 23) rfl)), List.forall_mem_cons.mpr ⟨(pl_wsX5_init_wsX5_init_r4 _ (List.mem_of_getElem? (i := 0) rfl)), List.forall_mem_cons.mpr ⟨(pl_wsX5_init_wsX5_init_r4 _ (List.mem_of_getElem? (i := 1) rfl)), List.forall_mem_cons.mpr ⟨(pl_wsX5_init_wsX5_init_r4 _ (List.mem_of_getElem? (i := 2) rfl)), List.forall_mem_cons.mpr ⟨(pl_wsX5_init_wsX5_init_r4 _ (List.mem_of_getElem? (i := 3) rfl)), List.forall_mem_cons.mpr ⟨(pl_wsX5_init_wsX5_init_r4 _ (List.mem_of_getElem? (i := 4) rfl)), List.forall_mem_cons.mpr ⟨(pl_wsX5_init_wsX5_init_r4 _ (List.mem_of_getElem? (i := 5) rfl)), List.forall_mem_cons.mpr ⟨(pl_wsX5_init_wsX5_init_r4 _ (List.mem_of_getElem? (i := 6) rfl)), List.forall_mem_cons.mpr ⟨(pl_wsX5_init_wsX5_init_r4 _ (List.mem_of_getElem? (i := 7) rfl)), List.forall_mem_cons.mpr ⟨(pl_wsX5_init_wsX5_init_r4 _ (List.mem_of_getElem? (i := 8) rfl)), fun _ h => absurd h List.not_mem_nil⟩⟩⟩⟩⟩⟩⟩⟩⟩⟩⟩⟩⟩⟩) w) (pl_wsX5_init_wsX40 w))⟩) (by decide +kernel)
set_option maxRecDepth 20000 in
theorem gX5_init_X4_init : GoodIn wsX5_init (wsX4_init) := ggX5_init_X4_init
set_option maxRecDepth 20000 in
theorem pl_wsX5_init_wsX20 : ∀ w ∈ wsX20, w ∈ wsX5_init := fun _ h => List.mem_cons_of_mem _ (List.mem_append_right _ (h))
theorem ggX5_init_X2_init : GoodIn wsX5_init wsX2_init := goodIn_sub (List.forall_mem_cons.mpr ⟨(pl_wsX5_init_wsX5_init_r4 _ (List.mem_of_getElem? (i := 11) rfl)), (fun w h => (List.mem_append.mp h).elim ((List.forall_mem_cons.mpr ⟨(pl_wsX5_init_wsX5_init_r4 _ (List.mem_of_getElem? (i := 12) rfl)), List.forall_mem_cons.mpr ⟨(pl_wsX5_init_wsX5_init_r1 _ (List.mem_of_getElem? (i := 1) rfl)), List.forall_mem_cons.mpr ⟨(pl_wsX5_init_wsX5_init_r1 _ (List.mem_of_getElem? (i := 2) rfl)), List.forall_mem_cons.mpr ⟨(pl_wsX5_init_wsX5_init_r2 _ (List.mem_of_getElem? (i := 2) rfl)), List.forall_mem_cons.mpr ⟨(pl_wsX5_init_wsX5_init_r4 _ (List.mem_of_getElem? (i := 13) rfl)), List.forall_mem_cons.mpr ⟨(pl_wsX5_init_wsX5_init_r4 _ (List.mem_of_getElem? (i := 14) rfl)), List.forall_mem_cons.mpr ⟨(pl_wsX5_init_wsX5_init_r2 _ (List.mem_of_getElem? (i := 17) rfl)), List.forall_mem_cons.mpr ⟨(pl_wsX5_init_wsX5_init_r4 _ (List.mem_of_getElem? (i := 15) rfl)), List.forall_mem_cons.mpr ⟨(pl_wsX5_init_wsX5_init_r4 _ (List.mem_of_getElem? (i := 16) rfl)), List.forall_mem_cons.mpr ⟨(pl_wsX5_init_wsX5_init_r4 _ (List.mem_of_getElem? (i := 17) rfl)), fun _ h => absurd h List.not_mem_nil⟩⟩⟩⟩⟩⟩⟩⟩⟩⟩) w) (pl_wsX5_init_wsX20 w))⟩) (by decide +kernel)
set_option maxRecDepth 20000 in
theorem gX5_init_X2_init : GoodIn wsX5_init (wsX2_init) := ggX5_init_X2_init

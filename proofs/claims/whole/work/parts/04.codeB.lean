theorem dX5_init_0 : decode cX5_init 0 = .ok (.aload_n 0, 1) := by decide +kernel
theorem dX5_init_1 : decode cX5_init 1 = .ok (.invokespecial 1, 3) := by decide +kernel
theorem dX5_init_4 : decode cX5_init 4 = .ok (.aload_n 0, 1) := by decide +kernel
theorem dX5_init_5 : decode cX5_init 5 = .ok (.new 7, 3) := by decide +kernel
theorem dX5_init_8 : decode cX5_init 8 = .ok (.dup, 1) := by decide +kernel
theorem dX5_init_9 : decode cX5_init 9 = .ok (.invokespecial 9, 3) := by decide +kernel
theorem dX5_init_12 : decode cX5_init 12 = .ok (.putfield 10, 3) := by decide +kernel
theorem dX5_init_15 : decode cX5_init 15 = .ok (.aload_n 0, 1) := by decide +kernel
theorem dX5_init_16 : decode cX5_init 16 = .ok (.new 7, 3) := by decide +kernel
theorem dX5_init_19 : decode cX5_init 19 = .ok (.dup, 1) := by decide +kernel
theorem dX5_init_20 : decode cX5_init 20 = .ok (.invokespecial 9, 3) := by decide +kernel
theorem dX5_init_23 : decode cX5_init 23 = .ok (.putfield 16, 3) := by decide +kernel
theorem dX5_init_26 : decode cX5_init 26 = .ok (.aload_n 0, 1) := by decide +kernel
theorem dX5_init_27 : decode cX5_init 27 = .ok (.new 7, 3) := by decide +kernel
theorem dX5_init_30 : decode cX5_init 30 = .ok (.dup, 1) := by decide +kernel
theorem dX5_init_31 : decode cX5_init 31 = .ok (.invokespecial 9, 3) := by decide +kernel
theorem dX5_init_34 : decode cX5_init 34 = .ok (.putfield 19, 3) := by decide +kernel
theorem dX5_init_37 : decode cX5_init 37 = .ok (.aload_n 0, 1) := by decide +kernel
theorem dX5_init_38 : decode cX5_init 38 = .ok (.new 22, 3) := by decide +kernel
theorem dX5_init_41 : decode cX5_init 41 = .ok (.dup, 1) := by decide +kernel
theorem dX5_init_42 : decode cX5_init 42 = .ok (.aload_n 0, 1) := by decide +kernel
theorem dX5_init_43 : decode cX5_init 43 = .ok (.getfield 19, 3) := by decide +kernel
theorem dX5_init_46 : decode cX5_init 46 = .ok (.invokespecial 24, 3) := by decide +kernel
theorem dX5_init_49 : decode cX5_init 49 = .ok (.putfield 27, 3) := by decide +kernel
theorem dX5_init_52 : decode cX5_init 52 = .ok (.aload_n 0, 1) := by decide +kernel
theorem dX5_init_53 : decode cX5_init 53 = .ok (.new 31, 3) := by decide +kernel
theorem dX5_init_56 : decode cX5_init 56 = .ok (.dup, 1) := by decide +kernel
theorem dX5_init_57 : decode cX5_init 57 = .ok (.invokespecial 33, 3) := by decide +kernel
theorem dX5_init_60 : decode cX5_init 60 = .ok (.putfield 34, 3) := by decide +kernel
theorem dX5_init_63 : decode cX5_init 63 = .ok (.aload_n 0, 1) := by decide +kernel
theorem dX5_init_64 : decode cX5_init 64 = .ok (.new 38, 3) := by decide +kernel
theorem dX5_init_67 : decode cX5_init 67 = .ok (.dup, 1) := by decide +kernel
theorem dX5_init_68 : decode cX5_init 68 = .ok (.aload_n 0, 1) := by decide +kernel
theorem dX5_init_69 : decode cX5_init 69 = .ok (.getfield 10, 3) := by decide +kernel
theorem dX5_init_72 : decode cX5_init 72 = .ok (.invokespecial 40, 3) := by decide +kernel
theorem dX5_init_75 : decode cX5_init 75 = .ok (.putfield 41, 3) := by decide +kernel
theorem dX5_init_78 : decode cX5_init 78 = .ok (.aload_n 0, 1) := by decide +kernel
theorem dX5_init_79 : decode cX5_init 79 = .ok (.new 38, 3) := by decide +kernel
theorem dX5_init_82 : decode cX5_init 82 = .ok (.dup, 1) := by decide +kernel
theorem dX5_init_83 : decode cX5_init 83 = .ok (.aload_n 0, 1) := by decide +kernel
theorem dX5_init_84 : decode cX5_init 84 = .ok (.getfield 10, 3) := by decide +kernel
theorem dX5_init_87 : decode cX5_init 87 = .ok (.invokespecial 40, 3) := by decide +kernel
theorem dX5_init_90 : decode cX5_init 90 = .ok (.putfield 45, 3) := by decide +kernel
theorem dX5_init_93 : decode cX5_init 93 = .ok (.aload_n 0, 1) := by decide +kernel
theorem dX5_init_94 : decode cX5_init 94 = .ok (.new 48, 3) := by decide +kernel
theorem dX5_init_97 : decode cX5_init 97 = .ok (.dup, 1) := by decide +kernel
theorem dX5_init_98 : decode cX5_init 98 = .ok (.aload_n 0, 1) := by decide +kernel
theorem dX5_init_99 : decode cX5_init 99 = .ok (.getfield 41, 3) := by decide +kernel
theorem dX5_init_102 : decode cX5_init 102 = .ok (.aload_n 0, 1) := by decide +kernel
theorem dX5_init_103 : decode cX5_init 103 = .ok (.getfield 45, 3) := by decide +kernel
theorem dX5_init_106 : decode cX5_init 106 = .ok (.invokespecial 50, 3) := by decide +kernel
theorem dX5_init_109 : decode cX5_init 109 = .ok (.putfield 53, 3) := by decide +kernel
theorem dX5_init_112 : decode cX5_init 112 = .ok (.aload_n 0, 1) := by decide +kernel
theorem dX5_init_113 : decode cX5_init 113 = .ok (.bipush 8, 2) := by decide +kernel
theorem dX5_init_115 : decode cX5_init 115 = .ok (.newarray .int, 2) := by decide +kernel
theorem dX5_init_117 : decode cX5_init 117 = .ok (.putfield 57, 3) := by decide +kernel
theorem dX5_init_120 : decode cX5_init 120 = .ok (.aload_n 0, 1) := by decide +kernel
theorem dX5_init_121 : decode cX5_init 121 = .ok (.iconst 5, 1) := by decide +kernel
theorem dX5_init_122 : decode cX5_init 122 = .ok (.newarray .int, 2) := by decide +kernel
theorem dX5_init_124 : decode cX5_init 124 = .ok (.putfield 61, 3) := by decide +kernel
theorem dX5_init_127 : decode cX5_init 127 = .ok (.aload_n 0, 1) := by decide +kernel
theorem dX5_init_128 : decode cX5_init 128 = .ok (.iconst 0, 1) := by decide +kernel
theorem dX5_init_129 : decode cX5_init 129 = .ok (.putfield 64, 3) := by decide +kernel
theorem dX5_init_132 : decode cX5_init 132 = .ok (.return_, 1) := by decide +kernel
set_option maxRecDepth 20000 in
theorem ggX5_row_X3_isShelf : GoodIn wsX5_row wsX3_isShelf := goodIn_r _ [6, 7, 8, 9] (by decide +kernel) (by decide +kernel)
set_option maxRecDepth 20000 in
theorem gX5_row_X3_isShelf : GoodIn wsX5_row (wsV RX5 68 RX3 yX3_isShelf wsX3_isShelf) := goodIn_app (goodIn_of _ (by decide +kernel)) ggX5_row_X3_isShelf
set_option maxRecDepth 20000 in
theorem ggX5_row_X5_isWithin : GoodIn wsX5_row wsX5_isWithin := goodIn_r _ [9] (by decide +kernel) (by decide +kernel)
set_option maxRecDepth 20000 in
theorem gX5_row_X5_isWithin : GoodIn wsX5_row (va_wsS RX5 72 yX5_isWithin wsX5_isWithin) := goodIn_app (goodIn_of _ (by decide +kernel)) ggX5_row_X5_isWithin
set_option maxRecDepth 20000 in
theorem ggX5_row_X5_refuse : GoodIn wsX5_row wsX5_refuse := goodIn_r _ [14, 15, 10, 7, 8, 9, 23, 24, 25, 26, 27, 28, 29, 30, 31, 32, 33] (by decide +kernel) (by decide +kernel)
set_option maxRecDepth 20000 in
theorem gX5_row_X5_refuse : GoodIn wsX5_row (wsV RX5 76 RX5 yX5_refuse wsX5_refuse) := goodIn_app (goodIn_of _ (by decide +kernel)) ggX5_row_X5_refuse
set_option maxRecDepth 20000 in
theorem ggX5_row_X3_holdRow : GoodIn wsX5_row wsX3_holdRow := goodIn_r _ [19, 20, 21, 22, 34, 35, 36] (by decide +kernel) (by decide +kernel)
set_option maxRecDepth 20000 in
theorem gX5_row_X3_holdRow : GoodIn wsX5_row (wsV RX5 80 RX3 yX3_holdRow wsX3_holdRow) := goodIn_app (goodIn_of _ (by decide +kernel)) ggX5_row_X3_holdRow
theorem dX5_row_0 : decode cX5_row 0 = .ok (.aload_n 0, 1) := by decide +kernel
theorem dX5_row_1 : decode cX5_row 1 = .ok (.getfield 34, 3) := by decide +kernel
theorem dX5_row_4 : decode cX5_row 4 = .ok (.iload_n 1, 1) := by decide +kernel
theorem dX5_row_5 : decode cX5_row 5 = .ok (.invokevirtual 68, 3) := by decide +kernel
theorem dX5_row_8 : decode cX5_row 8 = .ok (.ifCond .eq 22, 3) := by decide +kernel
theorem dX5_row_11 : decode cX5_row 11 = .ok (.iload_n 2, 1) := by decide +kernel
theorem dX5_row_12 : decode cX5_row 12 = .ok (.iconst 0, 1) := by decide +kernel
theorem dX5_row_13 : decode cX5_row 13 = .ok (.iconst 4, 1) := by decide +kernel
theorem dX5_row_14 : decode cX5_row 14 = .ok (.invokestatic 72, 3) := by decide +kernel
theorem dX5_row_17 : decode cX5_row 17 = .ok (.ifCond .eq 13, 3) := by decide +kernel
theorem dX5_row_20 : decode cX5_row 20 = .ok (.iload_n 3, 1) := by decide +kernel
theorem dX5_row_21 : decode cX5_row 21 = .ok (.iconst 0, 1) := by decide +kernel
theorem dX5_row_22 : decode cX5_row 22 = .ok (.bipush 40, 2) := by decide +kernel
theorem dX5_row_24 : decode cX5_row 24 = .ok (.invokestatic 72, 3) := by decide +kernel
theorem dX5_row_27 : decode cX5_row 27 = .ok (.ifCond .ne 10, 3) := by decide +kernel
theorem dX5_row_30 : decode cX5_row 30 = .ok (.aload_n 0, 1) := by decide +kernel
theorem dX5_row_31 : decode cX5_row 31 = .ok (.bipush (-2), 2) := by decide +kernel
theorem dX5_row_33 : decode cX5_row 33 = .ok (.invokevirtual 76, 3) := by decide +kernel
theorem dX5_row_36 : decode cX5_row 36 = .ok (.ireturn, 1) := by decide +kernel
theorem dX5_row_37 : decode cX5_row 37 = .ok (.aload_n 0, 1) := by decide +kernel
theorem dX5_row_38 : decode cX5_row 38 = .ok (.getfield 34, 3) := by decide +kernel
theorem dX5_row_41 : decode cX5_row 41 = .ok (.iload_n 1, 1) := by decide +kernel
theorem dX5_row_42 : decode cX5_row 42 = .ok (.iload_n 2, 1) := by decide +kernel
theorem dX5_row_43 : decode cX5_row 43 = .ok (.iload_n 3, 1) := by decide +kernel
theorem dX5_row_44 : decode cX5_row 44 = .ok (.invokevirtual 80, 3) := by decide +kernel
theorem dX5_row_47 : decode cX5_row 47 = .ok (.iconst 1, 1) := by decide +kernel
theorem dX5_row_48 : decode cX5_row 48 = .ok (.ireturn, 1) := by decide +kernel
set_option maxRecDepth 20000 in
theorem ggX5_set_X3_isShelf : GoodIn wsX5_set wsX3_isShelf := goodIn_r _ [6, 7, 8, 9] (by decide +kernel) (by decide +kernel)
set_option maxRecDepth 20000 in
theorem gX5_set_X3_isShelf : GoodIn wsX5_set (wsV RX5 68 RX3 yX3_isShelf wsX3_isShelf) := goodIn_app (goodIn_of _ (by decide +kernel)) ggX5_set_X3_isShelf
set_option maxRecDepth 20000 in
theorem ggX5_set_X5_refuse : GoodIn wsX5_set wsX5_refuse := goodIn_r _ [13, 14, 15, 7, 8, 9, 42, 43, 44, 45, 46, 47, 48, 49, 50, 51, 52] (by decide +kernel) (by decide +kernel)
set_option maxRecDepth 20000 in
theorem gX5_set_X5_refuse : GoodIn wsX5_set (wsV RX5 76 RX5 yX5_refuse wsX5_refuse) := goodIn_app (goodIn_of _ (by decide +kernel)) ggX5_set_X5_refuse
set_option maxRecDepth 20000 in
theorem ggX5_set_X5_rowFault : GoodIn wsX5_set wsX5_rowFault := goodIn_r _ [19, 1, 20, 21, 22, 5, 23, 24, 25, 26, 27, 28, 42, 43, 44, 45, 46, 47, 48, 49, 50, 51, 52, 53, 54, 55] (by decide +kernel) (by decide +kernel)
set_option maxRecDepth 20000 in
theorem gX5_set_X5_rowFault : GoodIn wsX5_set (wsV RX5 84 RX5 yX5_rowFault wsX5_rowFault) := goodIn_app (goodIn_of _ (by decide +kernel)) ggX5_set_X5_rowFault
set_option maxRecDepth 20000 in
theorem ggX5_set_X3_sizeOf : GoodIn wsX5_set wsX3_sizeOf := goodIn_r _ [32, 33, 53, 54, 55] (by decide +kernel) (by decide +kernel)
set_option maxRecDepth 20000 in
theorem gX5_set_X3_sizeOf : GoodIn wsX5_set (wsV RX5 88 RX3 yX3_sizeOf wsX3_sizeOf) := goodIn_app (goodIn_of _ (by decide +kernel)) ggX5_set_X3_sizeOf
set_option maxRecDepth 20000 in
theorem ggX5_set_X5_isWithin : GoodIn wsX5_set wsX5_isWithin := goodIn_r _ [9] (by decide +kernel) (by decide +kernel)
set_option maxRecDepth 20000 in
theorem gX5_set_X5_isWithin : GoodIn wsX5_set (va_wsS RX5 72 yX5_isWithin wsX5_isWithin) := goodIn_app (goodIn_of _ (by decide +kernel)) ggX5_set_X5_isWithin
set_option maxRecDepth 20000 in
theorem ggX5_set_X3_store : GoodIn wsX5_set wsX3_store := goodIn_r _ [37, 38, 24, 39, 40, 5, 41, 53, 54, 55] (by decide +kernel) (by decide +kernel)
set_option maxRecDepth 20000 in
theorem gX5_set_X3_store : GoodIn wsX5_set (wsV RX5 91 RX3 yX3_store wsX3_store) := goodIn_app (goodIn_of _ (by decide +kernel)) ggX5_set_X3_store
theorem dX5_set_0 : decode cX5_set 0 = .ok (.aload_n 0, 1) := by decide +kernel
theorem dX5_set_1 : decode cX5_set 1 = .ok (.getfield 34, 3) := by decide +kernel
theorem dX5_set_4 : decode cX5_set 4 = .ok (.iload_n 1, 1) := by decide +kernel
theorem dX5_set_5 : decode cX5_set 5 = .ok (.invokevirtual 68, 3) := by decide +kernel
theorem dX5_set_8 : decode cX5_set 8 = .ok (.ifCond .ne 10, 3) := by decide +kernel
theorem dX5_set_11 : decode cX5_set 11 = .ok (.aload_n 0, 1) := by decide +kernel
theorem dX5_set_12 : decode cX5_set 12 = .ok (.bipush (-2), 2) := by decide +kernel
theorem dX5_set_14 : decode cX5_set 14 = .ok (.invokevirtual 76, 3) := by decide +kernel
theorem dX5_set_17 : decode cX5_set 17 = .ok (.ireturn, 1) := by decide +kernel
theorem dX5_set_18 : decode cX5_set 18 = .ok (.aload_n 0, 1) := by decide +kernel
theorem dX5_set_19 : decode cX5_set 19 = .ok (.iload_n 1, 1) := by decide +kernel
theorem dX5_set_20 : decode cX5_set 20 = .ok (.iload_n 1, 1) := by decide +kernel
theorem dX5_set_21 : decode cX5_set 21 = .ok (.invokevirtual 84, 3) := by decide +kernel
theorem dX5_set_24 : decode cX5_set 24 = .ok (.istore 5, 2) := by decide +kernel
theorem dX5_set_26 : decode cX5_set 26 = .ok (.iload 5, 2) := by decide +kernel
theorem dX5_set_28 : decode cX5_set 28 = .ok (.ifCond .eq 10, 3) := by decide +kernel
theorem dX5_set_31 : decode cX5_set 31 = .ok (.aload_n 0, 1) := by decide +kernel
theorem dX5_set_32 : decode cX5_set 32 = .ok (.iload 5, 2) := by decide +kernel
theorem dX5_set_34 : decode cX5_set 34 = .ok (.invokevirtual 76, 3) := by decide +kernel
theorem dX5_set_37 : decode cX5_set 37 = .ok (.ireturn, 1) := by decide +kernel
theorem dX5_set_38 : decode cX5_set 38 = .ok (.iload_n 2, 1) := by decide +kernel
theorem dX5_set_39 : decode cX5_set 39 = .ok (.iconst 0, 1) := by decide +kernel
theorem dX5_set_40 : decode cX5_set 40 = .ok (.aload_n 0, 1) := by decide +kernel
theorem dX5_set_41 : decode cX5_set 41 = .ok (.getfield 34, 3) := by decide +kernel
theorem dX5_set_44 : decode cX5_set 44 = .ok (.iload_n 1, 1) := by decide +kernel
theorem dX5_set_45 : decode cX5_set 45 = .ok (.invokevirtual 88, 3) := by decide +kernel
theorem dX5_set_48 : decode cX5_set 48 = .ok (.iconst 1, 1) := by decide +kernel
theorem dX5_set_49 : decode cX5_set 49 = .ok (.isub, 1) := by decide +kernel
theorem dX5_set_50 : decode cX5_set 50 = .ok (.invokestatic 72, 3) := by decide +kernel
theorem dX5_set_53 : decode cX5_set 53 = .ok (.ifCond .ne 10, 3) := by decide +kernel
theorem dX5_set_56 : decode cX5_set 56 = .ok (.aload_n 0, 1) := by decide +kernel
theorem dX5_set_57 : decode cX5_set 57 = .ok (.bipush (-2), 2) := by decide +kernel
theorem dX5_set_59 : decode cX5_set 59 = .ok (.invokevirtual 76, 3) := by decide +kernel
theorem dX5_set_62 : decode cX5_set 62 = .ok (.ireturn, 1) := by decide +kernel
theorem dX5_set_63 : decode cX5_set 63 = .ok (.aload_n 0, 1) := by decide +kernel
theorem dX5_set_64 : decode cX5_set 64 = .ok (.getfield 34, 3) := by decide +kernel
theorem dX5_set_67 : decode cX5_set 67 = .ok (.iload_n 1, 1) := by decide +kernel
theorem dX5_set_68 : decode cX5_set 68 = .ok (.iload_n 2, 1) := by decide +kernel
theorem dX5_set_69 : decode cX5_set 69 = .ok (.lload_n 3, 1) := by decide +kernel
theorem dX5_set_70 : decode cX5_set 70 = .ok (.invokevirtual 91, 3) := by decide +kernel
theorem dX5_set_73 : decode cX5_set 73 = .ok (.iconst 1, 1) := by decide +kernel
theorem dX5_set_74 : decode cX5_set 74 = .ok (.ireturn, 1) := by decide +kernel
set_option maxRecDepth 20000 in
theorem ggX5_copy_X3_isShelf : GoodIn wsX5_copy wsX3_isShelf := goodIn_r _ [6, 7, 8, 9] (by decide +kernel) (by decide +kernel)
set_option maxRecDepth 20000 in
theorem gX5_copy_X3_isShelf : GoodIn wsX5_copy (wsV RX5 68 RX3 yX3_isShelf wsX3_isShelf) := goodIn_app (goodIn_of _ (by decide +kernel)) ggX5_copy_X3_isShelf
set_option maxRecDepth 20000 in
theorem ggX5_copy_X5_refuse : GoodIn wsX5_copy wsX5_refuse := goodIn_r _ [13, 14, 15, 7, 8, 9, 43, 44, 45, 46, 47, 48, 49, 50, 51, 52, 53] (by decide +kernel) (by decide +kernel)
set_option maxRecDepth 20000 in
theorem gX5_copy_X5_refuse : GoodIn wsX5_copy (wsV RX5 76 RX5 yX5_refuse wsX5_refuse) := goodIn_app (goodIn_of _ (by decide +kernel)) ggX5_copy_X5_refuse
set_option maxRecDepth 20000 in
theorem ggX5_copy_X3_held : GoodIn wsX5_copy wsX3_held := goodIn_r _ [19, 20, 54, 55, 56] (by decide +kernel) (by decide +kernel)
set_option maxRecDepth 20000 in
theorem gX5_copy_X3_held : GoodIn wsX5_copy (wsV RX5 95 RX3 yX3_held wsX3_held) := goodIn_app (goodIn_of _ (by decide +kernel)) ggX5_copy_X3_held
set_option maxRecDepth 20000 in
theorem ggX5_copy_X5_rowFault : GoodIn wsX5_copy wsX5_rowFault := goodIn_r _ [24, 1, 25, 26, 27, 5, 28, 20, 16, 17, 18, 19, 43, 44, 45, 46, 47, 48, 49, 50, 51, 52, 53, 54, 55, 56] (by decide +kernel) (by decide +kernel)
set_option maxRecDepth 20000 in
theorem gX5_copy_X5_rowFault : GoodIn wsX5_copy (wsV RX5 84 RX5 yX5_rowFault wsX5_rowFault) := goodIn_app (goodIn_of _ (by decide +kernel)) ggX5_copy_X5_rowFault
set_option maxRecDepth 20000 in
theorem ggX5_copy_X3_sizeOf : GoodIn wsX5_copy wsX3_sizeOf := goodIn_r _ [32, 33, 54, 55, 56] (by decide +kernel) (by decide +kernel)
set_option maxRecDepth 20000 in
theorem gX5_copy_X3_sizeOf : GoodIn wsX5_copy (wsV RX5 88 RX3 yX3_sizeOf wsX3_sizeOf) := goodIn_app (goodIn_of _ (by decide +kernel)) ggX5_copy_X3_sizeOf
set_option maxRecDepth 20000 in
theorem ggX5_copy_X5_isWithin : GoodIn wsX5_copy wsX5_isWithin := goodIn_r _ [9] (by decide +kernel) (by decide +kernel)
set_option maxRecDepth 20000 in
theorem gX5_copy_X5_isWithin : GoodIn wsX5_copy (va_wsS RX5 72 yX5_isWithin wsX5_isWithin) := goodIn_app (goodIn_of _ (by decide +kernel)) ggX5_copy_X5_isWithin
set_option maxRecDepth 20000 in
theorem ggX5_copy_X3_move : GoodIn wsX5_copy wsX3_move := goodIn_r _ [37, 38, 39, 40, 41, 42, 54, 55, 56] (by decide +kernel) (by decide +kernel)
set_option maxRecDepth 20000 in
theorem gX5_copy_X3_move : GoodIn wsX5_copy (wsV RX5 98 RX3 yX3_move wsX3_move) := goodIn_app (goodIn_of _ (by decide +kernel)) ggX5_copy_X3_move
theorem dX5_copy_0 : decode cX5_copy 0 = .ok (.aload_n 0, 1) := by decide +kernel
theorem dX5_copy_1 : decode cX5_copy 1 = .ok (.getfield 34, 3) := by decide +kernel
theorem dX5_copy_4 : decode cX5_copy 4 = .ok (.iload_n 1, 1) := by decide +kernel
theorem dX5_copy_5 : decode cX5_copy 5 = .ok (.invokevirtual 68, 3) := by decide +kernel
theorem dX5_copy_8 : decode cX5_copy 8 = .ok (.ifCond .eq 14, 3) := by decide +kernel
theorem dX5_copy_11 : decode cX5_copy 11 = .ok (.aload_n 0, 1) := by decide +kernel
theorem dX5_copy_12 : decode cX5_copy 12 = .ok (.getfield 34, 3) := by decide +kernel
theorem dX5_copy_15 : decode cX5_copy 15 = .ok (.iload_n 2, 1) := by decide +kernel
theorem dX5_copy_16 : decode cX5_copy 16 = .ok (.invokevirtual 68, 3) := by decide +kernel
theorem dX5_copy_19 : decode cX5_copy 19 = .ok (.ifCond .ne 10, 3) := by decide +kernel
theorem dX5_copy_22 : decode cX5_copy 22 = .ok (.aload_n 0, 1) := by decide +kernel
theorem dX5_copy_23 : decode cX5_copy 23 = .ok (.bipush (-2), 2) := by decide +kernel
theorem dX5_copy_25 : decode cX5_copy 25 = .ok (.invokevirtual 76, 3) := by decide +kernel
theorem dX5_copy_28 : decode cX5_copy 28 = .ok (.ireturn, 1) := by decide +kernel
theorem dX5_copy_29 : decode cX5_copy 29 = .ok (.aload_n 0, 1) := by decide +kernel
theorem dX5_copy_30 : decode cX5_copy 30 = .ok (.getfield 34, 3) := by decide +kernel
theorem dX5_copy_33 : decode cX5_copy 33 = .ok (.iload_n 1, 1) := by decide +kernel
theorem dX5_copy_34 : decode cX5_copy 34 = .ok (.invokevirtual 95, 3) := by decide +kernel
theorem dX5_copy_37 : decode cX5_copy 37 = .ok (.iconst (-1), 1) := by decide +kernel
theorem dX5_copy_38 : decode cX5_copy 38 = .ok (.if_icmp .eq 19, 3) := by decide +kernel
theorem dX5_copy_41 : decode cX5_copy 41 = .ok (.aload_n 0, 1) := by decide +kernel
theorem dX5_copy_42 : decode cX5_copy 42 = .ok (.getfield 34, 3) := by decide +kernel
theorem dX5_copy_45 : decode cX5_copy 45 = .ok (.iload_n 2, 1) := by decide +kernel
theorem dX5_copy_46 : decode cX5_copy 46 = .ok (.invokevirtual 95, 3) := by decide +kernel
theorem dX5_copy_49 : decode cX5_copy 49 = .ok (.iconst (-1), 1) := by decide +kernel
theorem dX5_copy_50 : decode cX5_copy 50 = .ok (.if_icmp .eq 7, 3) := by decide +kernel
theorem dX5_copy_53 : decode cX5_copy 53 = .ok (.iconst 1, 1) := by decide +kernel
theorem dX5_copy_54 : decode cX5_copy 54 = .ok (.goto 4, 3) := by decide +kernel
theorem dX5_copy_57 : decode cX5_copy 57 = .ok (.iconst 0, 1) := by decide +kernel
theorem dX5_copy_58 : decode cX5_copy 58 = .ok (.istore 6, 2) := by decide +kernel
theorem dX5_copy_60 : decode cX5_copy 60 = .ok (.iload 6, 2) := by decide +kernel
theorem dX5_copy_62 : decode cX5_copy 62 = .ok (.ifCond .eq 29, 3) := by decide +kernel
theorem dX5_copy_65 : decode cX5_copy 65 = .ok (.aload_n 0, 1) := by decide +kernel
theorem dX5_copy_66 : decode cX5_copy 66 = .ok (.getfield 34, 3) := by decide +kernel
theorem dX5_copy_69 : decode cX5_copy 69 = .ok (.iload_n 1, 1) := by decide +kernel
theorem dX5_copy_70 : decode cX5_copy 70 = .ok (.invokevirtual 95, 3) := by decide +kernel
theorem dX5_copy_73 : decode cX5_copy 73 = .ok (.aload_n 0, 1) := by decide +kernel
theorem dX5_copy_74 : decode cX5_copy 74 = .ok (.getfield 34, 3) := by decide +kernel
theorem dX5_copy_77 : decode cX5_copy 77 = .ok (.iload_n 2, 1) := by decide +kernel
theorem dX5_copy_78 : decode cX5_copy 78 = .ok (.invokevirtual 95, 3) := by decide +kernel
theorem dX5_copy_81 : decode cX5_copy 81 = .ok (.if_icmp .eq 10, 3) := by decide +kernel
theorem dX5_copy_84 : decode cX5_copy 84 = .ok (.aload_n 0, 1) := by decide +kernel
theorem dX5_copy_85 : decode cX5_copy 85 = .ok (.bipush (-3), 2) := by decide +kernel
theorem dX5_copy_87 : decode cX5_copy 87 = .ok (.invokevirtual 76, 3) := by decide +kernel
theorem dX5_copy_90 : decode cX5_copy 90 = .ok (.ireturn, 1) := by decide +kernel
theorem dX5_copy_91 : decode cX5_copy 91 = .ok (.aload_n 0, 1) := by decide +kernel
theorem dX5_copy_92 : decode cX5_copy 92 = .ok (.iload_n 1, 1) := by decide +kernel
theorem dX5_copy_93 : decode cX5_copy 93 = .ok (.iload_n 2, 1) := by decide +kernel
theorem dX5_copy_94 : decode cX5_copy 94 = .ok (.invokevirtual 84, 3) := by decide +kernel
theorem dX5_copy_97 : decode cX5_copy 97 = .ok (.istore 7, 2) := by decide +kernel
theorem dX5_copy_99 : decode cX5_copy 99 = .ok (.iload 7, 2) := by decide +kernel
theorem dX5_copy_101 : decode cX5_copy 101 = .ok (.ifCond .eq 10, 3) := by decide +kernel
theorem dX5_copy_104 : decode cX5_copy 104 = .ok (.aload_n 0, 1) := by decide +kernel
theorem dX5_copy_105 : decode cX5_copy 105 = .ok (.iload 7, 2) := by decide +kernel
theorem dX5_copy_107 : decode cX5_copy 107 = .ok (.invokevirtual 76, 3) := by decide +kernel
theorem dX5_copy_110 : decode cX5_copy 110 = .ok (.ireturn, 1) := by decide +kernel
theorem dX5_copy_111 : decode cX5_copy 111 = .ok (.iload 5, 2) := by decide +kernel
theorem dX5_copy_113 : decode cX5_copy 113 = .ok (.ifCond .lt 42, 3) := by decide +kernel
theorem dX5_copy_116 : decode cX5_copy 116 = .ok (.iload_n 3, 1) := by decide +kernel
theorem dX5_copy_117 : decode cX5_copy 117 = .ok (.iconst 0, 1) := by decide +kernel
theorem dX5_copy_118 : decode cX5_copy 118 = .ok (.aload_n 0, 1) := by decide +kernel
theorem dX5_copy_119 : decode cX5_copy 119 = .ok (.getfield 34, 3) := by decide +kernel
theorem dX5_copy_122 : decode cX5_copy 122 = .ok (.iload_n 1, 1) := by decide +kernel
theorem dX5_copy_123 : decode cX5_copy 123 = .ok (.invokevirtual 88, 3) := by decide +kernel
theorem dX5_copy_126 : decode cX5_copy 126 = .ok (.iload 5, 2) := by decide +kernel
theorem dX5_copy_128 : decode cX5_copy 128 = .ok (.isub, 1) := by decide +kernel
theorem dX5_copy_129 : decode cX5_copy 129 = .ok (.invokestatic 72, 3) := by decide +kernel
theorem dX5_copy_132 : decode cX5_copy 132 = .ok (.ifCond .eq 23, 3) := by decide +kernel
theorem dX5_copy_135 : decode cX5_copy 135 = .ok (.iload 4, 2) := by decide +kernel
theorem dX5_copy_137 : decode cX5_copy 137 = .ok (.iconst 0, 1) := by decide +kernel
theorem dX5_copy_138 : decode cX5_copy 138 = .ok (.aload_n 0, 1) := by decide +kernel
theorem dX5_copy_139 : decode cX5_copy 139 = .ok (.getfield 34, 3) := by decide +kernel
theorem dX5_copy_142 : decode cX5_copy 142 = .ok (.iload_n 2, 1) := by decide +kernel
theorem dX5_copy_143 : decode cX5_copy 143 = .ok (.invokevirtual 88, 3) := by decide +kernel
theorem dX5_copy_146 : decode cX5_copy 146 = .ok (.iload 5, 2) := by decide +kernel
theorem dX5_copy_148 : decode cX5_copy 148 = .ok (.isub, 1) := by decide +kernel
theorem dX5_copy_149 : decode cX5_copy 149 = .ok (.invokestatic 72, 3) := by decide +kernel
theorem dX5_copy_152 : decode cX5_copy 152 = .ok (.ifCond .ne 10, 3) := by decide +kernel
theorem dX5_copy_155 : decode cX5_copy 155 = .ok (.aload_n 0, 1) := by decide +kernel
theorem dX5_copy_156 : decode cX5_copy 156 = .ok (.bipush (-2), 2) := by decide +kernel
theorem dX5_copy_158 : decode cX5_copy 158 = .ok (.invokevirtual 76, 3) := by decide +kernel
theorem dX5_copy_161 : decode cX5_copy 161 = .ok (.ireturn, 1) := by decide +kernel
theorem dX5_copy_162 : decode cX5_copy 162 = .ok (.aload_n 0, 1) := by decide +kernel
theorem dX5_copy_163 : decode cX5_copy 163 = .ok (.getfield 34, 3) := by decide +kernel
theorem dX5_copy_166 : decode cX5_copy 166 = .ok (.iload_n 1, 1) := by decide +kernel
theorem dX5_copy_167 : decode cX5_copy 167 = .ok (.iload_n 2, 1) := by decide +kernel
theorem dX5_copy_168 : decode cX5_copy 168 = .ok (.iload_n 3, 1) := by decide +kernel
theorem dX5_copy_169 : decode cX5_copy 169 = .ok (.iload 4, 2) := by decide +kernel
theorem dX5_copy_171 : decode cX5_copy 171 = .ok (.iload 5, 2) := by decide +kernel
theorem dX5_copy_173 : decode cX5_copy 173 = .ok (.invokevirtual 98, 3) := by decide +kernel
theorem dX5_copy_176 : decode cX5_copy 176 = .ok (.iload 5, 2) := by decide +kernel
theorem dX5_copy_178 : decode cX5_copy 178 = .ok (.ireturn, 1) := by decide +kernel
set_option maxRecDepth 20000 in
theorem ggX5_element_X3_isShelf : GoodIn wsX5_element wsX3_isShelf := goodIn_r _ [6, 7, 8, 9] (by decide +kernel) (by decide +kernel)
set_option maxRecDepth 20000 in
theorem gX5_element_X3_isShelf : GoodIn wsX5_element (wsV RX5 68 RX3 yX3_isShelf wsX3_isShelf) := goodIn_app (goodIn_of _ (by decide +kernel)) ggX5_element_X3_isShelf
set_option maxRecDepth 20000 in
theorem ggX5_element_X3_holdsRow : GoodIn wsX5_element wsX3_holdsRow := goodIn_r _ [13, 14, 7, 8, 9, 37, 38, 39] (by decide +kernel) (by decide +kernel)
set_option maxRecDepth 20000 in
theorem gX5_element_X3_holdsRow : GoodIn wsX5_element (wsV RX5 102 RX3 yX3_holdsRow wsX3_holdsRow) := goodIn_app (goodIn_of _ (by decide +kernel)) ggX5_element_X3_holdsRow
set_option maxRecDepth 20000 in
theorem ggX5_element_X3_sizeOf : GoodIn wsX5_element wsX3_sizeOf := goodIn_r _ [18, 19, 37, 38, 39] (by decide +kernel) (by decide +kernel)
set_option maxRecDepth 20000 in
theorem gX5_element_X3_sizeOf : GoodIn wsX5_element (wsV RX5 88 RX3 yX3_sizeOf wsX3_sizeOf) := goodIn_app (goodIn_of _ (by decide +kernel)) ggX5_element_X3_sizeOf
set_option maxRecDepth 20000 in
theorem ggX5_element_X5_isWithin : GoodIn wsX5_element wsX5_isWithin := goodIn_r _ [9] (by decide +kernel) (by decide +kernel)
set_option maxRecDepth 20000 in
theorem gX5_element_X5_isWithin : GoodIn wsX5_element (va_wsS RX5 72 yX5_isWithin wsX5_isWithin) := goodIn_app (goodIn_of _ (by decide +kernel)) ggX5_element_X5_isWithin
set_option maxRecDepth 20000 in
theorem ggX5_element_X3_elementAt : GoodIn wsX5_element wsX3_elementAt := goodIn_r _ [24, 25, 37, 38, 39] (by decide +kernel) (by decide +kernel)
set_option maxRecDepth 20000 in
theorem gX5_element_X3_elementAt : GoodIn wsX5_element (wsV RX5 105 RX3 yX3_elementAt wsX3_elementAt) := goodIn_app (goodIn_of _ (by decide +kernel)) ggX5_element_X3_elementAt
theorem dX5_element_0 : decode cX5_element 0 = .ok (.aload_n 0, 1) := by decide +kernel
theorem dX5_element_1 : decode cX5_element 1 = .ok (.getfield 34, 3) := by decide +kernel
theorem dX5_element_4 : decode cX5_element 4 = .ok (.iload_n 1, 1) := by decide +kernel
theorem dX5_element_5 : decode cX5_element 5 = .ok (.invokevirtual 68, 3) := by decide +kernel
theorem dX5_element_8 : decode cX5_element 8 = .ok (.ifCond .eq 32, 3) := by decide +kernel
theorem dX5_element_11 : decode cX5_element 11 = .ok (.aload_n 0, 1) := by decide +kernel
theorem dX5_element_12 : decode cX5_element 12 = .ok (.getfield 34, 3) := by decide +kernel
theorem dX5_element_15 : decode cX5_element 15 = .ok (.iload_n 1, 1) := by decide +kernel
theorem dX5_element_16 : decode cX5_element 16 = .ok (.invokevirtual 102, 3) := by decide +kernel
theorem dX5_element_19 : decode cX5_element 19 = .ok (.ifCond .eq 21, 3) := by decide +kernel
theorem dX5_element_22 : decode cX5_element 22 = .ok (.iload_n 2, 1) := by decide +kernel
theorem dX5_element_23 : decode cX5_element 23 = .ok (.iconst 0, 1) := by decide +kernel
theorem dX5_element_24 : decode cX5_element 24 = .ok (.aload_n 0, 1) := by decide +kernel
theorem dX5_element_25 : decode cX5_element 25 = .ok (.getfield 34, 3) := by decide +kernel
theorem dX5_element_28 : decode cX5_element 28 = .ok (.iload_n 1, 1) := by decide +kernel
theorem dX5_element_29 : decode cX5_element 29 = .ok (.invokevirtual 88, 3) := by decide +kernel
theorem dX5_element_32 : decode cX5_element 32 = .ok (.iconst 1, 1) := by decide +kernel
theorem dX5_element_33 : decode cX5_element 33 = .ok (.isub, 1) := by decide +kernel
theorem dX5_element_34 : decode cX5_element 34 = .ok (.invokestatic 72, 3) := by decide +kernel
theorem dX5_element_37 : decode cX5_element 37 = .ok (.ifCond .ne 5, 3) := by decide +kernel
theorem dX5_element_40 : decode cX5_element 40 = .ok (.lconst 0, 1) := by decide +kernel
theorem dX5_element_41 : decode cX5_element 41 = .ok (.lreturn, 1) := by decide +kernel
theorem dX5_element_42 : decode cX5_element 42 = .ok (.aload_n 0, 1) := by decide +kernel
theorem dX5_element_43 : decode cX5_element 43 = .ok (.getfield 34, 3) := by decide +kernel
theorem dX5_element_46 : decode cX5_element 46 = .ok (.iload_n 1, 1) := by decide +kernel
theorem dX5_element_47 : decode cX5_element 47 = .ok (.iload_n 2, 1) := by decide +kernel
theorem dX5_element_48 : decode cX5_element 48 = .ok (.invokevirtual 105, 3) := by decide +kernel
theorem dX5_element_51 : decode cX5_element 51 = .ok (.lreturn, 1) := by decide +kernel
set_option maxRecDepth 20000 in
theorem ggX5_holds_X3_isShelf : GoodIn wsX5_holds wsX3_isShelf := goodIn_r _ [6, 7, 8, 9] (by decide +kernel) (by decide +kernel)
set_option maxRecDepth 20000 in
theorem gX5_holds_X3_isShelf : GoodIn wsX5_holds (wsV RX5 68 RX3 yX3_isShelf wsX3_isShelf) := goodIn_app (goodIn_of _ (by decide +kernel)) ggX5_holds_X3_isShelf
set_option maxRecDepth 20000 in
theorem ggX5_holds_X3_held : GoodIn wsX5_holds wsX3_held := goodIn_r _ [13, 14, 26, 27, 28] (by decide +kernel) (by decide +kernel)
set_option maxRecDepth 20000 in
theorem gX5_holds_X3_held : GoodIn wsX5_holds (wsV RX5 95 RX3 yX3_held wsX3_held) := goodIn_app (goodIn_of _ (by decide +kernel)) ggX5_holds_X3_held
theorem dX5_holds_0 : decode cX5_holds 0 = .ok (.aload_n 0, 1) := by decide +kernel
theorem dX5_holds_1 : decode cX5_holds 1 = .ok (.getfield 34, 3) := by decide +kernel
theorem dX5_holds_4 : decode cX5_holds 4 = .ok (.iload_n 1, 1) := by decide +kernel
theorem dX5_holds_5 : decode cX5_holds 5 = .ok (.invokevirtual 68, 3) := by decide +kernel
theorem dX5_holds_8 : decode cX5_holds 8 = .ok (.ifCond .eq 14, 3) := by decide +kernel
theorem dX5_holds_11 : decode cX5_holds 11 = .ok (.aload_n 0, 1) := by decide +kernel
theorem dX5_holds_12 : decode cX5_holds 12 = .ok (.getfield 34, 3) := by decide +kernel
theorem dX5_holds_15 : decode cX5_holds 15 = .ok (.iload_n 1, 1) := by decide +kernel
theorem dX5_holds_16 : decode cX5_holds 16 = .ok (.invokevirtual 95, 3) := by decide +kernel
theorem dX5_holds_19 : decode cX5_holds 19 = .ok (.goto 4, 3) := by decide +kernel
theorem dX5_holds_22 : decode cX5_holds 22 = .ok (.iconst (-1), 1) := by decide +kernel
theorem dX5_holds_23 : decode cX5_holds 23 = .ok (.ireturn, 1) := by decide +kernel
set_option maxRecDepth 20000 in
theorem ggX5_show_X3_isShelf : GoodIn wsX5_show wsX3_isShelf := goodIn_r _ [7, 8, 9, 10] (by decide +kernel) (by decide +kernel)
set_option maxRecDepth 20000 in
theorem gX5_show_X3_isShelf : GoodIn wsX5_show (wsV RX5 68 RX3 yX3_isShelf wsX3_isShelf) := goodIn_app (goodIn_of _ (by decide +kernel)) ggX5_show_X3_isShelf
set_option maxRecDepth 20000 in
theorem ggX5_show_X0_isOne : GoodIn wsX5_show wsX0_isOne := goodIn_r _ [15, 16, 8, 9, 10, 44, 45, 46, 47, 48, 49, 50, 51, 52, 53, 54, 55, 56, 57] (by decide +kernel) (by decide +kernel)
set_option maxRecDepth 20000 in
theorem gX5_show_X0_isOne : GoodIn wsX5_show (wsV RX5 109 RX0 yX0_isOne wsX0_isOne) := goodIn_app (goodIn_of _ (by decide +kernel)) ggX5_show_X0_isOne
set_option maxRecDepth 20000 in
theorem ggX5_show_X5_refuse : GoodIn wsX5_show wsX5_refuse := goodIn_r _ [20, 21, 22, 8, 9, 10, 33, 34, 35, 36, 37, 38, 39, 40, 41, 42, 43] (by decide +kernel) (by decide +kernel)
set_option maxRecDepth 20000 in
theorem gX5_show_X5_refuse : GoodIn wsX5_show (wsV RX5 76 RX5 yX5_refuse wsX5_refuse) := goodIn_app (goodIn_of _ (by decide +kernel)) ggX5_show_X5_refuse
set_option maxRecDepth 20000 in
theorem ggX5_show_X3_holdNothing : GoodIn wsX5_show wsX3_holdNothing := goodIn_r _ [26, 27, 28, 58, 59, 60] (by decide +kernel) (by decide +kernel)
set_option maxRecDepth 20000 in
theorem gX5_show_X3_holdNothing : GoodIn wsX5_show (wsV RX5 112 RX3 yX3_holdNothing wsX3_holdNothing) := goodIn_app (goodIn_of _ (by decide +kernel)) ggX5_show_X3_holdNothing
set_option maxRecDepth 20000 in
theorem ggX5_show_X3_holdOne : GoodIn wsX5_show wsX3_holdOne := goodIn_r _ [32, 27, 28, 58, 59, 60] (by decide +kernel) (by decide +kernel)
set_option maxRecDepth 20000 in
theorem gX5_show_X3_holdOne : GoodIn wsX5_show (wsV RX5 116 RX3 yX3_holdOne wsX3_holdOne) := goodIn_app (goodIn_of _ (by decide +kernel)) ggX5_show_X3_holdOne
theorem dX5_show_0 : decode cX5_show 0 = .ok (.aload_n 0, 1) := by decide +kernel
theorem dX5_show_1 : decode cX5_show 1 = .ok (.getfield 34, 3) := by decide +kernel
theorem dX5_show_4 : decode cX5_show 4 = .ok (.iload_n 1, 1) := by decide +kernel
theorem dX5_show_5 : decode cX5_show 5 = .ok (.invokevirtual 68, 3) := by decide +kernel
theorem dX5_show_8 : decode cX5_show 8 = .ok (.ifCond .eq 19, 3) := by decide +kernel
theorem dX5_show_11 : decode cX5_show 11 = .ok (.iload_n 2, 1) := by decide +kernel
theorem dX5_show_12 : decode cX5_show 12 = .ok (.iconst (-1), 1) := by decide +kernel
theorem dX5_show_13 : decode cX5_show 13 = .ok (.if_icmp .eq 21, 3) := by decide +kernel
theorem dX5_show_16 : decode cX5_show 16 = .ok (.aload_n 0, 1) := by decide +kernel
theorem dX5_show_17 : decode cX5_show 17 = .ok (.getfield 10, 3) := by decide +kernel
theorem dX5_show_20 : decode cX5_show 20 = .ok (.iload_n 2, 1) := by decide +kernel
theorem dX5_show_21 : decode cX5_show 21 = .ok (.invokevirtual 109, 3) := by decide +kernel
theorem dX5_show_24 : decode cX5_show 24 = .ok (.ifCond .ne 10, 3) := by decide +kernel
theorem dX5_show_27 : decode cX5_show 27 = .ok (.aload_n 0, 1) := by decide +kernel
theorem dX5_show_28 : decode cX5_show 28 = .ok (.bipush (-2), 2) := by decide +kernel
theorem dX5_show_30 : decode cX5_show 30 = .ok (.invokevirtual 76, 3) := by decide +kernel
theorem dX5_show_33 : decode cX5_show 33 = .ok (.ireturn, 1) := by decide +kernel
theorem dX5_show_34 : decode cX5_show 34 = .ok (.iload_n 2, 1) := by decide +kernel
theorem dX5_show_35 : decode cX5_show 35 = .ok (.iconst (-1), 1) := by decide +kernel
theorem dX5_show_36 : decode cX5_show 36 = .ok (.if_icmp .ne 14, 3) := by decide +kernel
theorem dX5_show_39 : decode cX5_show 39 = .ok (.aload_n 0, 1) := by decide +kernel
theorem dX5_show_40 : decode cX5_show 40 = .ok (.getfield 34, 3) := by decide +kernel
theorem dX5_show_43 : decode cX5_show 43 = .ok (.iload_n 1, 1) := by decide +kernel
theorem dX5_show_44 : decode cX5_show 44 = .ok (.invokevirtual 112, 3) := by decide +kernel
theorem dX5_show_47 : decode cX5_show 47 = .ok (.goto 12, 3) := by decide +kernel
theorem dX5_show_50 : decode cX5_show 50 = .ok (.aload_n 0, 1) := by decide +kernel
theorem dX5_show_51 : decode cX5_show 51 = .ok (.getfield 34, 3) := by decide +kernel
theorem dX5_show_54 : decode cX5_show 54 = .ok (.iload_n 1, 1) := by decide +kernel
theorem dX5_show_55 : decode cX5_show 55 = .ok (.iload_n 2, 1) := by decide +kernel
theorem dX5_show_56 : decode cX5_show 56 = .ok (.invokevirtual 116, 3) := by decide +kernel
theorem dX5_show_59 : decode cX5_show 59 = .ok (.iconst 1, 1) := by decide +kernel
theorem dX5_show_60 : decode cX5_show 60 = .ok (.ireturn, 1) := by decide +kernel
set_option maxRecDepth 20000 in
theorem ggX5_says_X3_isShelf : GoodIn wsX5_says wsX3_isShelf := goodIn_r _ [8, 9, 10, 11] (by decide +kernel) (by decide +kernel)
set_option maxRecDepth 20000 in
theorem gX5_says_X3_isShelf : GoodIn wsX5_says (wsV RX5 68 RX3 yX3_isShelf wsX3_isShelf) := goodIn_app (goodIn_of _ (by decide +kernel)) ggX5_says_X3_isShelf
set_option maxRecDepth 20000 in
theorem ggX5_says_X5_isKind : GoodIn wsX5_says wsX5_isKind := goodIn_r _ [14, 15, 9, 10, 11] (by decide +kernel) (by decide +kernel)
set_option maxRecDepth 20000 in
theorem gX5_says_X5_isKind : GoodIn wsX5_says (va_wsS RX5 120 yX5_isKind wsX5_isKind) := goodIn_app (goodIn_of _ (by decide +kernel)) ggX5_says_X5_isKind
set_option maxRecDepth 20000 in
theorem ggX5_says_X5_refuse : GoodIn wsX5_says wsX5_refuse := goodIn_r _ [19, 20, 15, 9, 10, 11, 106, 107, 108, 109, 110, 111, 112, 113, 114, 115, 116] (by decide +kernel) (by decide +kernel)
set_option maxRecDepth 20000 in
theorem gX5_says_X5_refuse : GoodIn wsX5_says (wsV RX5 76 RX5 yX5_refuse wsX5_refuse) := goodIn_app (goodIn_of _ (by decide +kernel)) ggX5_says_X5_refuse
set_option maxRecDepth 20000 in
theorem ggX5_says_X3_held : GoodIn wsX5_says wsX3_held := goodIn_r _ [24, 25, 142, 143, 144] (by decide +kernel) (by decide +kernel)
set_option maxRecDepth 20000 in
theorem gX5_says_X3_held : GoodIn wsX5_says (wsV RX5 95 RX3 yX3_held wsX3_held) := goodIn_app (goodIn_of _ (by decide +kernel)) ggX5_says_X3_held
set_option maxRecDepth 20000 in
theorem ggX5_says_X3_oneIn : GoodIn wsX5_says wsX3_oneIn := goodIn_r _ [29, 25, 30, 31, 32, 7, 33, 142, 143, 144] (by decide +kernel) (by decide +kernel)
set_option maxRecDepth 20000 in
theorem gX5_says_X3_oneIn : GoodIn wsX5_says (wsV RX5 123 RX3 yX3_oneIn wsX3_oneIn) := goodIn_app (goodIn_of _ (by decide +kernel)) ggX5_says_X3_oneIn
set_option maxRecDepth 20000 in
theorem ggX5_says_X0_isOne : GoodIn wsX5_says wsX0_isOne := goodIn_r _ [38, 39, 9, 10, 11, 117, 118, 119, 120, 121, 122, 123, 124, 125, 126, 127, 128, 129, 130] (by decide +kernel) (by decide +kernel)
set_option maxRecDepth 20000 in
theorem gX5_says_X0_isOne : GoodIn wsX5_says (wsV RX5 109 RX0 yX0_isOne wsX0_isOne) := goodIn_app (goodIn_of _ (by decide +kernel)) ggX5_says_X0_isOne
set_option maxRecDepth 20000 in
theorem ggX5_says_X5_isUnder : GoodIn wsX5_says wsX5_isUnder := goodIn_r _ [42, 43, 12, 13, 10, 14, 15, 9, 11] (by decide +kernel) (by decide +kernel)
set_option maxRecDepth 20000 in
theorem gX5_says_X5_isUnder : GoodIn wsX5_says (va_wsS RX5 129 yX5_isUnder wsX5_isUnder) := goodIn_app (goodIn_of _ (by decide +kernel)) ggX5_says_X5_isUnder
set_option maxRecDepth 20000 in
theorem ggX5_says_X4_begin : GoodIn wsX5_says wsX4_begin := goodIn_r _ [48, 49, 50, 51, 52, 53, 54, 55, 56, 57, 58, 59, 60, 35, 36, 37, 38, 39, 9, 10, 11, 131, 132, 133, 134, 135, 136, 137, 138, 139, 140, 141, 117, 118, 119, 120, 121, 122, 123, 124, 125, 126, 127, 128, 129, 130] (by decide +kernel) (by decide +kernel)
set_option maxRecDepth 20000 in
theorem gX5_says_X4_begin : GoodIn wsX5_says (wsV RX5 136 RX4 yX4_begin wsX4_begin) := goodIn_app (goodIn_of _ (by decide +kernel)) ggX5_says_X4_begin
set_option maxRecDepth 20000 in
theorem ggX5_says_X4_step : GoodIn wsX5_says wsX4_step := goodIn_r _ [64, 55, 65, 66, 67, 47, 68, 56, 69, 70, 71, 72, 49, 53, 54, 73, 74, 75, 37, 76, 77, 78, 79, 80, 81, 82, 83, 84, 85, 86, 87, 88, 89, 90, 91, 92, 50, 52, 57, 51, 93, 94, 95, 96, 97, 98, 99, 100, 101, 58, 59, 102, 103, 104, 105, 131, 132, 133, 134, 135, 136, 137, 138, 139, 140, 141, 117, 118, 119, 120, 121, 122, 123, 124, 125, 126, 127, 128, 129, 130] (by decide +kernel) (by decide +kernel)
set_option maxRecDepth 20000 in
theorem gX5_says_X4_step : GoodIn wsX5_says (wsV RX5 139 RX4 yX4_step wsX4_step) := goodIn_app (goodIn_of _ (by decide +kernel)) ggX5_says_X4_step
theorem dX5_says_0 : decode cX5_says 0 = .ok (.aload_n 0, 1) := by decide +kernel
theorem dX5_says_1 : decode cX5_says 1 = .ok (.getfield 34, 3) := by decide +kernel
theorem dX5_says_4 : decode cX5_says 4 = .ok (.iload_n 1, 1) := by decide +kernel
theorem dX5_says_5 : decode cX5_says 5 = .ok (.invokevirtual 68, 3) := by decide +kernel
theorem dX5_says_8 : decode cX5_says 8 = .ok (.ifCond .eq 10, 3) := by decide +kernel
theorem dX5_says_11 : decode cX5_says 11 = .ok (.iload_n 2, 1) := by decide +kernel
theorem dX5_says_12 : decode cX5_says 12 = .ok (.invokestatic 120, 3) := by decide +kernel
theorem dX5_says_15 : decode cX5_says 15 = .ok (.ifCond .ne 10, 3) := by decide +kernel
theorem dX5_says_18 : decode cX5_says 18 = .ok (.aload_n 0, 1) := by decide +kernel
theorem dX5_says_19 : decode cX5_says 19 = .ok (.bipush (-2), 2) := by decide +kernel
theorem dX5_says_21 : decode cX5_says 21 = .ok (.invokevirtual 76, 3) := by decide +kernel
theorem dX5_says_24 : decode cX5_says 24 = .ok (.ireturn, 1) := by decide +kernel
theorem dX5_says_25 : decode cX5_says 25 = .ok (.aload_n 0, 1) := by decide +kernel
theorem dX5_says_26 : decode cX5_says 26 = .ok (.getfield 34, 3) := by decide +kernel
theorem dX5_says_29 : decode cX5_says 29 = .ok (.iload_n 1, 1) := by decide +kernel
theorem dX5_says_30 : decode cX5_says 30 = .ok (.invokevirtual 95, 3) := by decide +kernel
theorem dX5_says_33 : decode cX5_says 33 = .ok (.iconst (-1), 1) := by decide +kernel
theorem dX5_says_34 : decode cX5_says 34 = .ok (.if_icmp .ne 10, 3) := by decide +kernel
theorem dX5_says_37 : decode cX5_says 37 = .ok (.aload_n 0, 1) := by decide +kernel
theorem dX5_says_38 : decode cX5_says 38 = .ok (.bipush (-4), 2) := by decide +kernel
theorem dX5_says_40 : decode cX5_says 40 = .ok (.invokevirtual 76, 3) := by decide +kernel
theorem dX5_says_43 : decode cX5_says 43 = .ok (.ireturn, 1) := by decide +kernel
theorem dX5_says_44 : decode cX5_says 44 = .ok (.aload_n 0, 1) := by decide +kernel
theorem dX5_says_45 : decode cX5_says 45 = .ok (.getfield 34, 3) := by decide +kernel
theorem dX5_says_48 : decode cX5_says 48 = .ok (.iload_n 1, 1) := by decide +kernel
theorem dX5_says_49 : decode cX5_says 49 = .ok (.invokevirtual 123, 3) := by decide +kernel
theorem dX5_says_52 : decode cX5_says 52 = .ok (.istore_n 3, 1) := by decide +kernel
theorem dX5_says_53 : decode cX5_says 53 = .ok (.aload_n 0, 1) := by decide +kernel
theorem dX5_says_54 : decode cX5_says 54 = .ok (.getfield 10, 3) := by decide +kernel
theorem dX5_says_57 : decode cX5_says 57 = .ok (.iload_n 3, 1) := by decide +kernel
theorem dX5_says_58 : decode cX5_says 58 = .ok (.invokevirtual 109, 3) := by decide +kernel
theorem dX5_says_61 : decode cX5_says 61 = .ok (.ifCond .eq 19, 3) := by decide +kernel
theorem dX5_says_64 : decode cX5_says 64 = .ok (.aload_n 0, 1) := by decide +kernel
theorem dX5_says_65 : decode cX5_says 65 = .ok (.getfield 10, 3) := by decide +kernel
theorem dX5_says_68 : decode cX5_says 68 = .ok (.getfield 126, 3) := by decide +kernel
theorem dX5_says_71 : decode cX5_says 71 = .ok (.iload_n 3, 1) := by decide +kernel
theorem dX5_says_72 : decode cX5_says 72 = .ok (.iaload, 1) := by decide +kernel
theorem dX5_says_73 : decode cX5_says 73 = .ok (.iload_n 2, 1) := by decide +kernel
theorem dX5_says_74 : decode cX5_says 74 = .ok (.invokestatic 129, 3) := by decide +kernel
theorem dX5_says_77 : decode cX5_says 77 = .ok (.ifCond .ne 10, 3) := by decide +kernel
theorem dX5_says_80 : decode cX5_says 80 = .ok (.aload_n 0, 1) := by decide +kernel
theorem dX5_says_81 : decode cX5_says 81 = .ok (.bipush (-3), 2) := by decide +kernel
theorem dX5_says_83 : decode cX5_says 83 = .ok (.invokevirtual 76, 3) := by decide +kernel
theorem dX5_says_86 : decode cX5_says 86 = .ok (.ireturn, 1) := by decide +kernel
theorem dX5_says_87 : decode cX5_says 87 = .ok (.iload_n 2, 1) := by decide +kernel
theorem dX5_says_88 : decode cX5_says 88 = .ok (.ifCond .ne 13, 3) := by decide +kernel
theorem dX5_says_91 : decode cX5_says 91 = .ok (.aload_n 0, 1) := by decide +kernel
theorem dX5_says_92 : decode cX5_says 92 = .ok (.getfield 10, 3) := by decide +kernel
theorem dX5_says_95 : decode cX5_says 95 = .ok (.getfield 133, 3) := by decide +kernel
theorem dX5_says_98 : decode cX5_says 98 = .ok (.iload_n 3, 1) := by decide +kernel
theorem dX5_says_99 : decode cX5_says 99 = .ok (.iaload, 1) := by decide +kernel
theorem dX5_says_100 : decode cX5_says 100 = .ok (.ireturn, 1) := by decide +kernel
theorem dX5_says_101 : decode cX5_says 101 = .ok (.aload_n 0, 1) := by decide +kernel
theorem dX5_says_102 : decode cX5_says 102 = .ok (.getfield 41, 3) := by decide +kernel
theorem dX5_says_105 : decode cX5_says 105 = .ok (.iload_n 3, 1) := by decide +kernel
theorem dX5_says_106 : decode cX5_says 106 = .ok (.invokevirtual 136, 3) := by decide +kernel
theorem dX5_says_109 : decode cX5_says 109 = .ok (.aload_n 0, 1) := by decide +kernel
theorem dX5_says_110 : decode cX5_says 110 = .ok (.getfield 41, 3) := by decide +kernel
theorem dX5_says_113 : decode cX5_says 113 = .ok (.iconst 1, 1) := by decide +kernel
theorem dX5_says_114 : decode cX5_says 114 = .ok (.invokevirtual 139, 3) := by decide +kernel
theorem dX5_says_117 : decode cX5_says 117 = .ok (.aload_n 0, 1) := by decide +kernel
theorem dX5_says_118 : decode cX5_says 118 = .ok (.getfield 41, 3) := by decide +kernel
theorem dX5_says_121 : decode cX5_says 121 = .ok (.getfield 142, 3) := by decide +kernel
theorem dX5_says_124 : decode cX5_says 124 = .ok (.ireturn, 1) := by decide +kernel
set_option maxRecDepth 20000 in
theorem ggX5_side_X0_maySide : GoodIn wsX5_side wsX0_maySide := goodIn_r _ [6, 7, 8, 9, 10, 11, 12, 13, 14, 32, 33, 34, 35, 36, 37, 38, 39, 40, 41, 42, 43, 44, 45] (by decide +kernel) (by decide +kernel)
set_option maxRecDepth 20000 in
theorem gX5_side_X0_maySide : GoodIn wsX5_side (wsV RX5 146 RX0 yX0_maySide wsX0_maySide) := goodIn_app (goodIn_of _ (by decide +kernel)) ggX5_side_X0_maySide
set_option maxRecDepth 20000 in
theorem ggX5_side_X5_refuse : GoodIn wsX5_side wsX5_refuse := goodIn_r _ [18, 19, 20, 12, 13, 14, 21, 22, 23, 24, 25, 26, 27, 28, 29, 30, 31] (by decide +kernel) (by decide +kernel)
set_option maxRecDepth 20000 in
theorem gX5_side_X5_refuse : GoodIn wsX5_side (wsV RX5 76 RX5 yX5_refuse wsX5_refuse) := goodIn_app (goodIn_of _ (by decide +kernel)) ggX5_side_X5_refuse
theorem dX5_side_0 : decode cX5_side 0 = .ok (.aload_n 0, 1) := by decide +kernel
theorem dX5_side_1 : decode cX5_side 1 = .ok (.getfield 10, 3) := by decide +kernel
theorem dX5_side_4 : decode cX5_side 4 = .ok (.iload_n 1, 1) := by decide +kernel
theorem dX5_side_5 : decode cX5_side 5 = .ok (.invokevirtual 146, 3) := by decide +kernel
theorem dX5_side_8 : decode cX5_side 8 = .ok (.ifCond .ne 10, 3) := by decide +kernel
theorem dX5_side_11 : decode cX5_side 11 = .ok (.aload_n 0, 1) := by decide +kernel
theorem dX5_side_12 : decode cX5_side 12 = .ok (.bipush (-2), 2) := by decide +kernel
theorem dX5_side_14 : decode cX5_side 14 = .ok (.invokevirtual 76, 3) := by decide +kernel
theorem dX5_side_17 : decode cX5_side 17 = .ok (.ireturn, 1) := by decide +kernel
theorem dX5_side_18 : decode cX5_side 18 = .ok (.aload_n 0, 1) := by decide +kernel
theorem dX5_side_19 : decode cX5_side 19 = .ok (.getfield 10, 3) := by decide +kernel
theorem dX5_side_22 : decode cX5_side 22 = .ok (.getfield 149, 3) := by decide +kernel
theorem dX5_side_25 : decode cX5_side 25 = .ok (.istore_n 2, 1) := by decide +kernel
theorem dX5_side_26 : decode cX5_side 26 = .ok (.aload_n 0, 1) := by decide +kernel
theorem dX5_side_27 : decode cX5_side 27 = .ok (.getfield 10, 3) := by decide +kernel
theorem dX5_side_30 : decode cX5_side 30 = .ok (.iload_n 1, 1) := by decide +kernel
theorem dX5_side_31 : decode cX5_side 31 = .ok (.putfield 149, 3) := by decide +kernel
theorem dX5_side_34 : decode cX5_side 34 = .ok (.iload_n 2, 1) := by decide +kernel
theorem dX5_side_35 : decode cX5_side 35 = .ok (.ireturn, 1) := by decide +kernel
set_option maxRecDepth 20000 in
theorem ggX5_pond_X0_isCell : GoodIn wsX5_pond wsX0_isCell := goodIn_r _ [6, 7, 43, 44, 45, 46, 47, 48, 49, 50, 51, 52, 53, 54, 55, 56] (by decide +kernel) (by decide +kernel)
set_option maxRecDepth 20000 in
theorem gX5_pond_X0_isCell : GoodIn wsX5_pond (wsV RX5 152 RX0 yX0_isCell wsX0_isCell) := goodIn_app (goodIn_of _ (by decide +kernel)) ggX5_pond_X0_isCell
set_option maxRecDepth 20000 in
theorem ggX5_pond_X5_refuse : GoodIn wsX5_pond wsX5_refuse := goodIn_r _ [12, 13, 14, 15, 11, 16, 32, 33, 34, 35, 36, 37, 38, 39, 40, 41, 42] (by decide +kernel) (by decide +kernel)
set_option maxRecDepth 20000 in
theorem gX5_pond_X5_refuse : GoodIn wsX5_pond (wsV RX5 76 RX5 yX5_refuse wsX5_refuse) := goodIn_app (goodIn_of _ (by decide +kernel)) ggX5_pond_X5_refuse
set_option maxRecDepth 20000 in
theorem ggX5_pond_X0_hasSomebody : GoodIn wsX5_pond wsX0_hasSomebody := goodIn_r _ [20, 21, 22, 43, 44, 45, 46, 47, 48, 49, 50, 51, 52, 53, 54, 55, 56] (by decide +kernel) (by decide +kernel)
set_option maxRecDepth 20000 in
theorem gX5_pond_X0_hasSomebody : GoodIn wsX5_pond (wsV RX5 155 RX0 yX0_hasSomebody wsX0_hasSomebody) := goodIn_app (goodIn_of _ (by decide +kernel)) ggX5_pond_X0_hasSomebody
set_option maxRecDepth 20000 in
theorem ggX5_pond_X0_hasPond : GoodIn wsX5_pond wsX0_hasPond := goodIn_r _ [26, 27, 28, 3, 4, 5, 6, 7, 43, 44, 45, 46, 47, 48, 49, 50, 51, 52, 53, 54, 55, 56] (by decide +kernel) (by decide +kernel)
set_option maxRecDepth 20000 in
theorem gX5_pond_X0_hasPond : GoodIn wsX5_pond (wsV RX5 158 RX0 yX0_hasPond wsX0_hasPond) := goodIn_app (goodIn_of _ (by decide +kernel)) ggX5_pond_X0_hasPond
set_option maxRecDepth 20000 in
theorem ggX5_pond_X5_asNumber : GoodIn wsX5_pond wsX5_asNumber := goodIn_r _ [31] (by decide +kernel) (by decide +kernel)
set_option maxRecDepth 20000 in
theorem gX5_pond_X5_asNumber : GoodIn wsX5_pond (va_wsS RX5 161 yX5_asNumber wsX5_asNumber) := goodIn_app (goodIn_of _ (by decide +kernel)) ggX5_pond_X5_asNumber
theorem dX5_pond_0 : decode cX5_pond 0 = .ok (.aload_n 0, 1) := by decide +kernel
theorem dX5_pond_1 : decode cX5_pond 1 = .ok (.getfield 10, 3) := by decide +kernel
theorem dX5_pond_4 : decode cX5_pond 4 = .ok (.iload_n 1, 1) := by decide +kernel
theorem dX5_pond_5 : decode cX5_pond 5 = .ok (.invokevirtual 152, 3) := by decide +kernel
theorem dX5_pond_8 : decode cX5_pond 8 = .ok (.ifCond .ne 10, 3) := by decide +kernel
theorem dX5_pond_11 : decode cX5_pond 11 = .ok (.aload_n 0, 1) := by decide +kernel
theorem dX5_pond_12 : decode cX5_pond 12 = .ok (.bipush (-2), 2) := by decide +kernel
theorem dX5_pond_14 : decode cX5_pond 14 = .ok (.invokevirtual 76, 3) := by decide +kernel
theorem dX5_pond_17 : decode cX5_pond 17 = .ok (.ireturn, 1) := by decide +kernel
theorem dX5_pond_18 : decode cX5_pond 18 = .ok (.iload_n 2, 1) := by decide +kernel
theorem dX5_pond_19 : decode cX5_pond 19 = .ok (.ifCond .eq 21, 3) := by decide +kernel
theorem dX5_pond_22 : decode cX5_pond 22 = .ok (.aload_n 0, 1) := by decide +kernel
theorem dX5_pond_23 : decode cX5_pond 23 = .ok (.getfield 10, 3) := by decide +kernel
theorem dX5_pond_26 : decode cX5_pond 26 = .ok (.iload_n 1, 1) := by decide +kernel
theorem dX5_pond_27 : decode cX5_pond 27 = .ok (.invokevirtual 155, 3) := by decide +kernel
theorem dX5_pond_30 : decode cX5_pond 30 = .ok (.ifCond .eq 10, 3) := by decide +kernel
theorem dX5_pond_33 : decode cX5_pond 33 = .ok (.aload_n 0, 1) := by decide +kernel
theorem dX5_pond_34 : decode cX5_pond 34 = .ok (.bipush (-5), 2) := by decide +kernel
theorem dX5_pond_36 : decode cX5_pond 36 = .ok (.invokevirtual 76, 3) := by decide +kernel
theorem dX5_pond_39 : decode cX5_pond 39 = .ok (.ireturn, 1) := by decide +kernel
theorem dX5_pond_40 : decode cX5_pond 40 = .ok (.aload_n 0, 1) := by decide +kernel
theorem dX5_pond_41 : decode cX5_pond 41 = .ok (.getfield 10, 3) := by decide +kernel
theorem dX5_pond_44 : decode cX5_pond 44 = .ok (.iload_n 1, 1) := by decide +kernel
theorem dX5_pond_45 : decode cX5_pond 45 = .ok (.invokevirtual 158, 3) := by decide +kernel
theorem dX5_pond_48 : decode cX5_pond 48 = .ok (.invokestatic 161, 3) := by decide +kernel
theorem dX5_pond_51 : decode cX5_pond 51 = .ok (.istore_n 3, 1) := by decide +kernel
theorem dX5_pond_52 : decode cX5_pond 52 = .ok (.aload_n 0, 1) := by decide +kernel
theorem dX5_pond_53 : decode cX5_pond 53 = .ok (.getfield 10, 3) := by decide +kernel
theorem dX5_pond_56 : decode cX5_pond 56 = .ok (.getfield 165, 3) := by decide +kernel
theorem dX5_pond_59 : decode cX5_pond 59 = .ok (.iload_n 1, 1) := by decide +kernel
theorem dX5_pond_60 : decode cX5_pond 60 = .ok (.iload_n 2, 1) := by decide +kernel
theorem dX5_pond_61 : decode cX5_pond 61 = .ok (.bastore, 1) := by decide +kernel
theorem dX5_pond_62 : decode cX5_pond 62 = .ok (.iload_n 3, 1) := by decide +kernel
theorem dX5_pond_63 : decode cX5_pond 63 = .ok (.ireturn, 1) := by decide +kernel
set_option maxRecDepth 20000 in
theorem ggX5_person_X5_isKind : GoodIn wsX5_person wsX5_isKind := goodIn_r _ [5, 6, 7, 4, 8] (by decide +kernel) (by decide +kernel)
set_option maxRecDepth 20000 in
theorem gX5_person_X5_isKind : GoodIn wsX5_person (va_wsS RX5 120 yX5_isKind wsX5_isKind) := goodIn_app (goodIn_of _ (by decide +kernel)) ggX5_person_X5_isKind
set_option maxRecDepth 20000 in
theorem ggX5_person_X5_isWithin : GoodIn wsX5_person wsX5_isWithin := goodIn_r _ [8] (by decide +kernel) (by decide +kernel)
set_option maxRecDepth 20000 in
theorem gX5_person_X5_isWithin : GoodIn wsX5_person (va_wsS RX5 72 yX5_isWithin wsX5_isWithin) := goodIn_app (goodIn_of _ (by decide +kernel)) ggX5_person_X5_isWithin
set_option maxRecDepth 20000 in
theorem ggX5_person_X0_isCell : GoodIn wsX5_person wsX0_isCell := goodIn_r _ [13, 14, 55, 56, 57, 58, 59, 60, 61, 62, 63, 64, 65, 66, 67, 68] (by decide +kernel) (by decide +kernel)
set_option maxRecDepth 20000 in
theorem gX5_person_X0_isCell : GoodIn wsX5_person (wsV RX5 152 RX0 yX0_isCell wsX0_isCell) := goodIn_app (goodIn_of _ (by decide +kernel)) ggX5_person_X0_isCell
set_option maxRecDepth 20000 in
theorem ggX5_person_X5_isFaces : GoodIn wsX5_person wsX5_isFaces := goodIn_r _ [17, 6, 7, 4, 8] (by decide +kernel) (by decide +kernel)
set_option maxRecDepth 20000 in
theorem gX5_person_X5_isFaces : GoodIn wsX5_person (va_wsS RX5 169 yX5_isFaces wsX5_isFaces) := goodIn_app (goodIn_of _ (by decide +kernel)) ggX5_person_X5_isFaces
set_option maxRecDepth 20000 in
theorem ggX5_person_X5_refuse : GoodIn wsX5_person wsX5_refuse := goodIn_r _ [21, 22, 6, 7, 4, 8, 44, 45, 46, 47, 48, 49, 50, 51, 52, 53, 54] (by decide +kernel) (by decide +kernel)
set_option maxRecDepth 20000 in
theorem gX5_person_X5_refuse : GoodIn wsX5_person (wsV RX5 76 RX5 yX5_refuse wsX5_refuse) := goodIn_app (goodIn_of _ (by decide +kernel)) ggX5_person_X5_refuse
set_option maxRecDepth 20000 in
theorem ggX5_person_X0_hasPond : GoodIn wsX5_person wsX0_hasPond := goodIn_r _ [26, 27, 28, 10, 11, 12, 13, 14, 55, 56, 57, 58, 59, 60, 61, 62, 63, 64, 65, 66, 67, 68] (by decide +kernel) (by decide +kernel)
set_option maxRecDepth 20000 in
theorem gX5_person_X0_hasPond : GoodIn wsX5_person (wsV RX5 158 RX0 yX0_hasPond wsX0_hasPond) := goodIn_app (goodIn_of _ (by decide +kernel)) ggX5_person_X0_hasPond
set_option maxRecDepth 20000 in
theorem ggX5_person_X0_isFull : GoodIn wsX5_person wsX0_isFull := goodIn_r _ [32, 33, 55, 56, 57, 58, 59, 60, 61, 62, 63, 64, 65, 66, 67, 68] (by decide +kernel) (by decide +kernel)
set_option maxRecDepth 20000 in
theorem gX5_person_X0_isFull : GoodIn wsX5_person (wsV RX5 172 RX0 yX0_isFull wsX0_isFull) := goodIn_app (goodIn_of _ (by decide +kernel)) ggX5_person_X0_isFull
set_option maxRecDepth 20000 in
theorem ggX5_person_X0_add : GoodIn wsX5_person wsX0_add := goodIn_r _ [37, 33, 38, 39, 40, 41, 42, 43, 30, 31, 12, 32, 55, 56, 57, 58, 59, 60, 61, 62, 63, 64, 65, 66, 67, 68] (by decide +kernel) (by decide +kernel)
set_option maxRecDepth 20000 in
theorem gX5_person_X0_add : GoodIn wsX5_person (wsV RX5 176 RX0 yX0_add wsX0_add) := goodIn_app (goodIn_of _ (by decide +kernel)) ggX5_person_X0_add
theorem dX5_person_0 : decode cX5_person 0 = .ok (.iload_n 1, 1) := by decide +kernel
theorem dX5_person_1 : decode cX5_person 1 = .ok (.invokestatic 120, 3) := by decide +kernel
theorem dX5_person_4 : decode cX5_person 4 = .ok (.ifCond .eq 32, 3) := by decide +kernel
theorem dX5_person_7 : decode cX5_person 7 = .ok (.iload_n 2, 1) := by decide +kernel
theorem dX5_person_8 : decode cX5_person 8 = .ok (.iconst 0, 1) := by decide +kernel
theorem dX5_person_9 : decode cX5_person 9 = .ok (.bipush 9, 2) := by decide +kernel
theorem dX5_person_11 : decode cX5_person 11 = .ok (.invokestatic 72, 3) := by decide +kernel
theorem dX5_person_14 : decode cX5_person 14 = .ok (.ifCond .eq 22, 3) := by decide +kernel
theorem dX5_person_17 : decode cX5_person 17 = .ok (.aload_n 0, 1) := by decide +kernel
theorem dX5_person_18 : decode cX5_person 18 = .ok (.getfield 10, 3) := by decide +kernel
theorem dX5_person_21 : decode cX5_person 21 = .ok (.iload_n 3, 1) := by decide +kernel
theorem dX5_person_22 : decode cX5_person 22 = .ok (.invokevirtual 152, 3) := by decide +kernel
theorem dX5_person_25 : decode cX5_person 25 = .ok (.ifCond .eq 11, 3) := by decide +kernel
theorem dX5_person_28 : decode cX5_person 28 = .ok (.iload 4, 2) := by decide +kernel
theorem dX5_person_30 : decode cX5_person 30 = .ok (.invokestatic 169, 3) := by decide +kernel
theorem dX5_person_33 : decode cX5_person 33 = .ok (.ifCond .ne 10, 3) := by decide +kernel
theorem dX5_person_36 : decode cX5_person 36 = .ok (.aload_n 0, 1) := by decide +kernel
theorem dX5_person_37 : decode cX5_person 37 = .ok (.bipush (-2), 2) := by decide +kernel
theorem dX5_person_39 : decode cX5_person 39 = .ok (.invokevirtual 76, 3) := by decide +kernel
theorem dX5_person_42 : decode cX5_person 42 = .ok (.ireturn, 1) := by decide +kernel
theorem dX5_person_43 : decode cX5_person 43 = .ok (.aload_n 0, 1) := by decide +kernel
theorem dX5_person_44 : decode cX5_person 44 = .ok (.getfield 10, 3) := by decide +kernel
theorem dX5_person_47 : decode cX5_person 47 = .ok (.iload_n 3, 1) := by decide +kernel
theorem dX5_person_48 : decode cX5_person 48 = .ok (.invokevirtual 158, 3) := by decide +kernel
theorem dX5_person_51 : decode cX5_person 51 = .ok (.ifCond .eq 10, 3) := by decide +kernel
theorem dX5_person_54 : decode cX5_person 54 = .ok (.aload_n 0, 1) := by decide +kernel
theorem dX5_person_55 : decode cX5_person 55 = .ok (.bipush (-5), 2) := by decide +kernel
theorem dX5_person_57 : decode cX5_person 57 = .ok (.invokevirtual 76, 3) := by decide +kernel
theorem dX5_person_60 : decode cX5_person 60 = .ok (.ireturn, 1) := by decide +kernel
theorem dX5_person_61 : decode cX5_person 61 = .ok (.aload_n 0, 1) := by decide +kernel
theorem dX5_person_62 : decode cX5_person 62 = .ok (.getfield 10, 3) := by decide +kernel
theorem dX5_person_65 : decode cX5_person 65 = .ok (.invokevirtual 172, 3) := by decide +kernel
theorem dX5_person_68 : decode cX5_person 68 = .ok (.ifCond .eq 10, 3) := by decide +kernel
theorem dX5_person_71 : decode cX5_person 71 = .ok (.aload_n 0, 1) := by decide +kernel
theorem dX5_person_72 : decode cX5_person 72 = .ok (.bipush (-6), 2) := by decide +kernel
theorem dX5_person_74 : decode cX5_person 74 = .ok (.invokevirtual 76, 3) := by decide +kernel
theorem dX5_person_77 : decode cX5_person 77 = .ok (.ireturn, 1) := by decide +kernel
theorem dX5_person_78 : decode cX5_person 78 = .ok (.aload_n 0, 1) := by decide +kernel
theorem dX5_person_79 : decode cX5_person 79 = .ok (.getfield 10, 3) := by decide +kernel
theorem dX5_person_82 : decode cX5_person 82 = .ok (.iload_n 1, 1) := by decide +kernel
theorem dX5_person_83 : decode cX5_person 83 = .ok (.iload_n 2, 1) := by decide +kernel
theorem dX5_person_84 : decode cX5_person 84 = .ok (.iload_n 3, 1) := by decide +kernel
theorem dX5_person_85 : decode cX5_person 85 = .ok (.iload 4, 2) := by decide +kernel
theorem dX5_person_87 : decode cX5_person 87 = .ok (.invokevirtual 176, 3) := by decide +kernel
theorem dX5_person_90 : decode cX5_person 90 = .ok (.ireturn, 1) := by decide +kernel
set_option maxRecDepth 20000 in
theorem ggX5_tell_X5_isWithin : GoodIn wsX5_tell wsX5_isWithin := goodIn_r _ [5] (by decide +kernel) (by decide +kernel)
set_option maxRecDepth 20000 in
theorem gX5_tell_X5_isWithin : GoodIn wsX5_tell (va_wsS RX5 72 yX5_isWithin wsX5_isWithin) := goodIn_app (goodIn_of _ (by decide +kernel)) ggX5_tell_X5_isWithin
set_option maxRecDepth 20000 in
theorem ggX5_tell_X5_refuse : GoodIn wsX5_tell wsX5_refuse := goodIn_r _ [9, 10, 2, 3, 4, 5, 11, 12, 13, 14, 15, 16, 17, 18, 19, 20, 21] (by decide +kernel) (by decide +kernel)
set_option maxRecDepth 20000 in
theorem gX5_tell_X5_refuse : GoodIn wsX5_tell (wsV RX5 76 RX5 yX5_refuse wsX5_refuse) := goodIn_app (goodIn_of _ (by decide +kernel)) ggX5_tell_X5_refuse
theorem dX5_tell_0 : decode cX5_tell 0 = .ok (.iload_n 1, 1) := by decide +kernel
theorem dX5_tell_1 : decode cX5_tell 1 = .ok (.iconst 0, 1) := by decide +kernel
theorem dX5_tell_2 : decode cX5_tell 2 = .ok (.iconst 2, 1) := by decide +kernel
theorem dX5_tell_3 : decode cX5_tell 3 = .ok (.invokestatic 72, 3) := by decide +kernel
theorem dX5_tell_6 : decode cX5_tell 6 = .ok (.ifCond .eq 22, 3) := by decide +kernel
theorem dX5_tell_9 : decode cX5_tell 9 = .ok (.iload_n 2, 1) := by decide +kernel
theorem dX5_tell_10 : decode cX5_tell 10 = .ok (.iconst 0, 1) := by decide +kernel
theorem dX5_tell_11 : decode cX5_tell 11 = .ok (.iload_n 1, 1) := by decide +kernel
theorem dX5_tell_12 : decode cX5_tell 12 = .ok (.iconst 2, 1) := by decide +kernel
theorem dX5_tell_13 : decode cX5_tell 13 = .ok (.if_icmp .ne 8, 3) := by decide +kernel
theorem dX5_tell_16 : decode cX5_tell 16 = .ok (.bipush 12, 2) := by decide +kernel
theorem dX5_tell_18 : decode cX5_tell 18 = .ok (.goto 4, 3) := by decide +kernel
theorem dX5_tell_21 : decode cX5_tell 21 = .ok (.iconst 1, 1) := by decide +kernel
theorem dX5_tell_22 : decode cX5_tell 22 = .ok (.invokestatic 72, 3) := by decide +kernel
theorem dX5_tell_25 : decode cX5_tell 25 = .ok (.ifCond .ne 10, 3) := by decide +kernel
theorem dX5_tell_28 : decode cX5_tell 28 = .ok (.aload_n 0, 1) := by decide +kernel
theorem dX5_tell_29 : decode cX5_tell 29 = .ok (.bipush (-2), 2) := by decide +kernel
theorem dX5_tell_31 : decode cX5_tell 31 = .ok (.invokevirtual 76, 3) := by decide +kernel
theorem dX5_tell_34 : decode cX5_tell 34 = .ok (.ireturn, 1) := by decide +kernel
theorem dX5_tell_35 : decode cX5_tell 35 = .ok (.iload_n 1, 1) := by decide +kernel
theorem dX5_tell_36 : decode cX5_tell 36 = .ok (.ifCond .ne 22, 3) := by decide +kernel
theorem dX5_tell_39 : decode cX5_tell 39 = .ok (.aload_n 0, 1) := by decide +kernel
theorem dX5_tell_40 : decode cX5_tell 40 = .ok (.getfield 10, 3) := by decide +kernel
theorem dX5_tell_43 : decode cX5_tell 43 = .ok (.getfield 180, 3) := by decide +kernel
theorem dX5_tell_46 : decode cX5_tell 46 = .ok (.istore_n 3, 1) := by decide +kernel
theorem dX5_tell_47 : decode cX5_tell 47 = .ok (.aload_n 0, 1) := by decide +kernel
theorem dX5_tell_48 : decode cX5_tell 48 = .ok (.getfield 10, 3) := by decide +kernel
theorem dX5_tell_51 : decode cX5_tell 51 = .ok (.iload_n 2, 1) := by decide +kernel
theorem dX5_tell_52 : decode cX5_tell 52 = .ok (.putfield 180, 3) := by decide +kernel
theorem dX5_tell_55 : decode cX5_tell 55 = .ok (.goto 43, 3) := by decide +kernel
theorem dX5_tell_58 : decode cX5_tell 58 = .ok (.iload_n 1, 1) := by decide +kernel
theorem dX5_tell_59 : decode cX5_tell 59 = .ok (.iconst 1, 1) := by decide +kernel
theorem dX5_tell_60 : decode cX5_tell 60 = .ok (.if_icmp .ne 22, 3) := by decide +kernel
theorem dX5_tell_63 : decode cX5_tell 63 = .ok (.aload_n 0, 1) := by decide +kernel
theorem dX5_tell_64 : decode cX5_tell 64 = .ok (.getfield 10, 3) := by decide +kernel
theorem dX5_tell_67 : decode cX5_tell 67 = .ok (.getfield 183, 3) := by decide +kernel
theorem dX5_tell_70 : decode cX5_tell 70 = .ok (.istore_n 3, 1) := by decide +kernel
theorem dX5_tell_71 : decode cX5_tell 71 = .ok (.aload_n 0, 1) := by decide +kernel
theorem dX5_tell_72 : decode cX5_tell 72 = .ok (.getfield 10, 3) := by decide +kernel
theorem dX5_tell_75 : decode cX5_tell 75 = .ok (.iload_n 2, 1) := by decide +kernel
theorem dX5_tell_76 : decode cX5_tell 76 = .ok (.putfield 183, 3) := by decide +kernel
theorem dX5_tell_79 : decode cX5_tell 79 = .ok (.goto 19, 3) := by decide +kernel
theorem dX5_tell_82 : decode cX5_tell 82 = .ok (.aload_n 0, 1) := by decide +kernel
theorem dX5_tell_83 : decode cX5_tell 83 = .ok (.getfield 10, 3) := by decide +kernel
theorem dX5_tell_86 : decode cX5_tell 86 = .ok (.getfield 186, 3) := by decide +kernel
theorem dX5_tell_89 : decode cX5_tell 89 = .ok (.istore_n 3, 1) := by decide +kernel
theorem dX5_tell_90 : decode cX5_tell 90 = .ok (.aload_n 0, 1) := by decide +kernel
theorem dX5_tell_91 : decode cX5_tell 91 = .ok (.getfield 10, 3) := by decide +kernel
theorem dX5_tell_94 : decode cX5_tell 94 = .ok (.iload_n 2, 1) := by decide +kernel
theorem dX5_tell_95 : decode cX5_tell 95 = .ok (.putfield 186, 3) := by decide +kernel
theorem dX5_tell_98 : decode cX5_tell 98 = .ok (.iload_n 3, 1) := by decide +kernel
theorem dX5_tell_99 : decode cX5_tell 99 = .ok (.ireturn, 1) := by decide +kernel
set_option maxRecDepth 20000 in
theorem ggX5_isFor_X0_isOne : GoodIn wsX5_isFor wsX0_isOne := goodIn_r _ [6, 7, 8, 9, 10, 28, 29, 30, 31, 32, 33, 34, 35, 36, 37, 38, 39, 40, 41] (by decide +kernel) (by decide +kernel)
set_option maxRecDepth 20000 in
theorem gX5_isFor_X0_isOne : GoodIn wsX5_isFor (wsV RX5 109 RX0 yX0_isOne wsX0_isOne) := goodIn_app (goodIn_of _ (by decide +kernel)) ggX5_isFor_X0_isOne
set_option maxRecDepth 20000 in
theorem ggX5_isFor_X5_isWithin : GoodIn wsX5_isFor wsX5_isWithin := goodIn_r _ [10] (by decide +kernel) (by decide +kernel)
set_option maxRecDepth 20000 in
theorem gX5_isFor_X5_isWithin : GoodIn wsX5_isFor (va_wsS RX5 72 yX5_isWithin wsX5_isWithin) := goodIn_app (goodIn_of _ (by decide +kernel)) ggX5_isFor_X5_isWithin
set_option maxRecDepth 20000 in
theorem ggX5_isFor_X5_refuse : GoodIn wsX5_isFor wsX5_refuse := goodIn_r _ [15, 16, 11, 8, 9, 10, 17, 18, 19, 20, 21, 22, 23, 24, 25, 26, 27] (by decide +kernel) (by decide +kernel)
set_option maxRecDepth 20000 in
theorem gX5_isFor_X5_refuse : GoodIn wsX5_isFor (wsV RX5 76 RX5 yX5_refuse wsX5_refuse) := goodIn_app (goodIn_of _ (by decide +kernel)) ggX5_isFor_X5_refuse
theorem dX5_isFor_0 : decode cX5_isFor 0 = .ok (.aload_n 0, 1) := by decide +kernel
theorem dX5_isFor_1 : decode cX5_isFor 1 = .ok (.getfield 10, 3) := by decide +kernel
theorem dX5_isFor_4 : decode cX5_isFor 4 = .ok (.iload_n 1, 1) := by decide +kernel
theorem dX5_isFor_5 : decode cX5_isFor 5 = .ok (.invokevirtual 109, 3) := by decide +kernel
theorem dX5_isFor_8 : decode cX5_isFor 8 = .ok (.ifCond .eq 12, 3) := by decide +kernel
theorem dX5_isFor_11 : decode cX5_isFor 11 = .ok (.iload_n 2, 1) := by decide +kernel
theorem dX5_isFor_12 : decode cX5_isFor 12 = .ok (.iconst 0, 1) := by decide +kernel
theorem dX5_isFor_13 : decode cX5_isFor 13 = .ok (.iconst 1, 1) := by decide +kernel
theorem dX5_isFor_14 : decode cX5_isFor 14 = .ok (.invokestatic 72, 3) := by decide +kernel
theorem dX5_isFor_17 : decode cX5_isFor 17 = .ok (.ifCond .ne 10, 3) := by decide +kernel
theorem dX5_isFor_20 : decode cX5_isFor 20 = .ok (.aload_n 0, 1) := by decide +kernel
theorem dX5_isFor_21 : decode cX5_isFor 21 = .ok (.bipush (-2), 2) := by decide +kernel
theorem dX5_isFor_23 : decode cX5_isFor 23 = .ok (.invokevirtual 76, 3) := by decide +kernel
theorem dX5_isFor_26 : decode cX5_isFor 26 = .ok (.ireturn, 1) := by decide +kernel
theorem dX5_isFor_27 : decode cX5_isFor 27 = .ok (.aload_n 0, 1) := by decide +kernel
theorem dX5_isFor_28 : decode cX5_isFor 28 = .ok (.getfield 10, 3) := by decide +kernel
theorem dX5_isFor_31 : decode cX5_isFor 31 = .ok (.getfield 189, 3) := by decide +kernel
theorem dX5_isFor_34 : decode cX5_isFor 34 = .ok (.iload_n 1, 1) := by decide +kernel
theorem dX5_isFor_35 : decode cX5_isFor 35 = .ok (.iaload, 1) := by decide +kernel
theorem dX5_isFor_36 : decode cX5_isFor 36 = .ok (.istore_n 3, 1) := by decide +kernel
theorem dX5_isFor_37 : decode cX5_isFor 37 = .ok (.aload_n 0, 1) := by decide +kernel
theorem dX5_isFor_38 : decode cX5_isFor 38 = .ok (.getfield 10, 3) := by decide +kernel
theorem dX5_isFor_41 : decode cX5_isFor 41 = .ok (.getfield 189, 3) := by decide +kernel
theorem dX5_isFor_44 : decode cX5_isFor 44 = .ok (.iload_n 1, 1) := by decide +kernel
theorem dX5_isFor_45 : decode cX5_isFor 45 = .ok (.iload_n 2, 1) := by decide +kernel
theorem dX5_isFor_46 : decode cX5_isFor 46 = .ok (.iastore, 1) := by decide +kernel
theorem dX5_isFor_47 : decode cX5_isFor 47 = .ok (.iload_n 3, 1) := by decide +kernel
theorem dX5_isFor_48 : decode cX5_isFor 48 = .ok (.ireturn, 1) := by decide +kernel
set_option maxRecDepth 20000 in
theorem ggX5_put_X0_isOne : GoodIn wsX5_put wsX0_isOne := goodIn_r _ [6, 7, 8, 9, 10, 42, 43, 44, 45, 46, 47, 48, 49, 50, 51, 52, 53, 54, 55] (by decide +kernel) (by decide +kernel)
set_option maxRecDepth 20000 in
theorem gX5_put_X0_isOne : GoodIn wsX5_put (wsV RX5 109 RX0 yX0_isOne wsX0_isOne) := goodIn_app (goodIn_of _ (by decide +kernel)) ggX5_put_X0_isOne
set_option maxRecDepth 20000 in
theorem ggX5_put_X0_isCell : GoodIn wsX5_put wsX0_isCell := goodIn_r _ [14, 15, 42, 43, 44, 45, 46, 47, 48, 49, 50, 51, 52, 53, 54, 55] (by decide +kernel) (by decide +kernel)
set_option maxRecDepth 20000 in
theorem gX5_put_X0_isCell : GoodIn wsX5_put (wsV RX5 152 RX0 yX0_isCell wsX0_isCell) := goodIn_app (goodIn_of _ (by decide +kernel)) ggX5_put_X0_isCell
set_option maxRecDepth 20000 in
theorem ggX5_put_X5_isFaces : GoodIn wsX5_put wsX5_isFaces := goodIn_r _ [18, 19, 8, 9, 10] (by decide +kernel) (by decide +kernel)
set_option maxRecDepth 20000 in
theorem gX5_put_X5_isFaces : GoodIn wsX5_put (va_wsS RX5 169 yX5_isFaces wsX5_isFaces) := goodIn_app (goodIn_of _ (by decide +kernel)) ggX5_put_X5_isFaces
set_option maxRecDepth 20000 in
theorem ggX5_put_X5_refuse : GoodIn wsX5_put wsX5_refuse := goodIn_r _ [23, 24, 19, 8, 9, 10, 31, 32, 33, 34, 35, 36, 37, 38, 39, 40, 41] (by decide +kernel) (by decide +kernel)
set_option maxRecDepth 20000 in
theorem gX5_put_X5_refuse : GoodIn wsX5_put (wsV RX5 76 RX5 yX5_refuse wsX5_refuse) := goodIn_app (goodIn_of _ (by decide +kernel)) ggX5_put_X5_refuse
set_option maxRecDepth 20000 in
theorem ggX5_put_X0_hasPond : GoodIn wsX5_put wsX0_hasPond := goodIn_r _ [28, 29, 30, 12, 13, 5, 14, 15, 42, 43, 44, 45, 46, 47, 48, 49, 50, 51, 52, 53, 54, 55] (by decide +kernel) (by decide +kernel)
set_option maxRecDepth 20000 in
theorem gX5_put_X0_hasPond : GoodIn wsX5_put (wsV RX5 158 RX0 yX0_hasPond wsX0_hasPond) := goodIn_app (goodIn_of _ (by decide +kernel)) ggX5_put_X0_hasPond
theorem dX5_put_0 : decode cX5_put 0 = .ok (.aload_n 0, 1) := by decide +kernel
theorem dX5_put_1 : decode cX5_put 1 = .ok (.getfield 10, 3) := by decide +kernel
theorem dX5_put_4 : decode cX5_put 4 = .ok (.iload_n 1, 1) := by decide +kernel
theorem dX5_put_5 : decode cX5_put 5 = .ok (.invokevirtual 109, 3) := by decide +kernel
theorem dX5_put_8 : decode cX5_put 8 = .ok (.ifCond .eq 21, 3) := by decide +kernel
theorem dX5_put_11 : decode cX5_put 11 = .ok (.aload_n 0, 1) := by decide +kernel
theorem dX5_put_12 : decode cX5_put 12 = .ok (.getfield 10, 3) := by decide +kernel
theorem dX5_put_15 : decode cX5_put 15 = .ok (.iload_n 2, 1) := by decide +kernel
theorem dX5_put_16 : decode cX5_put 16 = .ok (.invokevirtual 152, 3) := by decide +kernel
theorem dX5_put_19 : decode cX5_put 19 = .ok (.ifCond .eq 10, 3) := by decide +kernel
theorem dX5_put_22 : decode cX5_put 22 = .ok (.iload_n 3, 1) := by decide +kernel
theorem dX5_put_23 : decode cX5_put 23 = .ok (.invokestatic 169, 3) := by decide +kernel
theorem dX5_put_26 : decode cX5_put 26 = .ok (.ifCond .ne 10, 3) := by decide +kernel
theorem dX5_put_29 : decode cX5_put 29 = .ok (.aload_n 0, 1) := by decide +kernel
theorem dX5_put_30 : decode cX5_put 30 = .ok (.bipush (-2), 2) := by decide +kernel
theorem dX5_put_32 : decode cX5_put 32 = .ok (.invokevirtual 76, 3) := by decide +kernel
theorem dX5_put_35 : decode cX5_put 35 = .ok (.ireturn, 1) := by decide +kernel
theorem dX5_put_36 : decode cX5_put 36 = .ok (.aload_n 0, 1) := by decide +kernel
theorem dX5_put_37 : decode cX5_put 37 = .ok (.getfield 10, 3) := by decide +kernel
theorem dX5_put_40 : decode cX5_put 40 = .ok (.iload_n 2, 1) := by decide +kernel
theorem dX5_put_41 : decode cX5_put 41 = .ok (.invokevirtual 158, 3) := by decide +kernel
theorem dX5_put_44 : decode cX5_put 44 = .ok (.ifCond .eq 10, 3) := by decide +kernel
theorem dX5_put_47 : decode cX5_put 47 = .ok (.aload_n 0, 1) := by decide +kernel
theorem dX5_put_48 : decode cX5_put 48 = .ok (.bipush (-5), 2) := by decide +kernel
theorem dX5_put_50 : decode cX5_put 50 = .ok (.invokevirtual 76, 3) := by decide +kernel
theorem dX5_put_53 : decode cX5_put 53 = .ok (.ireturn, 1) := by decide +kernel
theorem dX5_put_54 : decode cX5_put 54 = .ok (.aload_n 0, 1) := by decide +kernel
theorem dX5_put_55 : decode cX5_put 55 = .ok (.getfield 10, 3) := by decide +kernel
theorem dX5_put_58 : decode cX5_put 58 = .ok (.getfield 192, 3) := by decide +kernel
theorem dX5_put_61 : decode cX5_put 61 = .ok (.iload_n 1, 1) := by decide +kernel
theorem dX5_put_62 : decode cX5_put 62 = .ok (.iaload, 1) := by decide +kernel
theorem dX5_put_63 : decode cX5_put 63 = .ok (.istore 4, 2) := by decide +kernel
theorem dX5_put_65 : decode cX5_put 65 = .ok (.aload_n 0, 1) := by decide +kernel
theorem dX5_put_66 : decode cX5_put 66 = .ok (.getfield 10, 3) := by decide +kernel
theorem dX5_put_69 : decode cX5_put 69 = .ok (.getfield 192, 3) := by decide +kernel
theorem dX5_put_72 : decode cX5_put 72 = .ok (.iload_n 1, 1) := by decide +kernel
theorem dX5_put_73 : decode cX5_put 73 = .ok (.iload_n 2, 1) := by decide +kernel
theorem dX5_put_74 : decode cX5_put 74 = .ok (.iastore, 1) := by decide +kernel
theorem dX5_put_75 : decode cX5_put 75 = .ok (.aload_n 0, 1) := by decide +kernel
theorem dX5_put_76 : decode cX5_put 76 = .ok (.getfield 10, 3) := by decide +kernel
theorem dX5_put_79 : decode cX5_put 79 = .ok (.getfield 195, 3) := by decide +kernel
theorem dX5_put_82 : decode cX5_put 82 = .ok (.iload_n 1, 1) := by decide +kernel
theorem dX5_put_83 : decode cX5_put 83 = .ok (.iload_n 3, 1) := by decide +kernel
theorem dX5_put_84 : decode cX5_put 84 = .ok (.iastore, 1) := by decide +kernel
theorem dX5_put_85 : decode cX5_put 85 = .ok (.iload 4, 2) := by decide +kernel
theorem dX5_put_87 : decode cX5_put 87 = .ok (.ireturn, 1) := by decide +kernel
set_option maxRecDepth 20000 in
theorem ggX5_personOf_X0_isOne : GoodIn wsX5_personOf wsX0_isOne := goodIn_r _ [6, 7, 8, 9, 10, 39, 40, 41, 42, 43, 44, 45, 46, 47, 48, 49, 50, 51, 52] (by decide +kernel) (by decide +kernel)
set_option maxRecDepth 20000 in
theorem gX5_personOf_X0_isOne : GoodIn wsX5_personOf (wsV RX5 109 RX0 yX0_isOne wsX0_isOne) := goodIn_app (goodIn_of _ (by decide +kernel)) ggX5_personOf_X0_isOne
set_option maxRecDepth 20000 in
theorem ggX5_personOf_X5_refuse : GoodIn wsX5_personOf wsX5_refuse := goodIn_r _ [14, 15, 16, 8, 9, 10, 28, 29, 30, 31, 32, 33, 34, 35, 36, 37, 38] (by decide +kernel) (by decide +kernel)
set_option maxRecDepth 20000 in
theorem gX5_personOf_X5_refuse : GoodIn wsX5_personOf (wsV RX5 76 RX5 yX5_refuse wsX5_refuse) := goodIn_app (goodIn_of _ (by decide +kernel)) ggX5_personOf_X5_refuse
set_option maxRecDepth 20000 in
theorem ggX5_personOf_X0_powerOf : GoodIn wsX5_personOf wsX0_powerOf := goodIn_r _ [20, 7, 21, 22, 23, 24, 5, 25, 26, 9, 27, 39, 40, 41, 42, 43, 44, 45, 46, 47, 48, 49, 50, 51, 52] (by decide +kernel) (by decide +kernel)
set_option maxRecDepth 20000 in
theorem gX5_personOf_X0_powerOf : GoodIn wsX5_personOf (wsV RX5 197 RX0 yX0_powerOf wsX0_powerOf) := goodIn_app (goodIn_of _ (by decide +kernel)) ggX5_personOf_X0_powerOf
theorem dX5_personOf_0 : decode cX5_personOf 0 = .ok (.aload_n 0, 1) := by decide +kernel
theorem dX5_personOf_1 : decode cX5_personOf 1 = .ok (.getfield 10, 3) := by decide +kernel
theorem dX5_personOf_4 : decode cX5_personOf 4 = .ok (.iload_n 1, 1) := by decide +kernel
theorem dX5_personOf_5 : decode cX5_personOf 5 = .ok (.invokevirtual 109, 3) := by decide +kernel
theorem dX5_personOf_8 : decode cX5_personOf 8 = .ok (.ifCond .ne 10, 3) := by decide +kernel
theorem dX5_personOf_11 : decode cX5_personOf 11 = .ok (.aload_n 0, 1) := by decide +kernel
theorem dX5_personOf_12 : decode cX5_personOf 12 = .ok (.bipush (-2), 2) := by decide +kernel
theorem dX5_personOf_14 : decode cX5_personOf 14 = .ok (.invokevirtual 76, 3) := by decide +kernel
theorem dX5_personOf_17 : decode cX5_personOf 17 = .ok (.ireturn, 1) := by decide +kernel
theorem dX5_personOf_18 : decode cX5_personOf 18 = .ok (.iload_n 2, 1) := by decide +kernel
theorem dX5_personOf_19 : decode cX5_personOf 19 = .ok (.tableswitch 96 0 5 #[37, 47, 57, 67, 77, 87], 37) := by decide +kernel
theorem dX5_personOf_56 : decode cX5_personOf 56 = .ok (.aload_n 0, 1) := by decide +kernel
theorem dX5_personOf_57 : decode cX5_personOf 57 = .ok (.getfield 10, 3) := by decide +kernel
theorem dX5_personOf_60 : decode cX5_personOf 60 = .ok (.getfield 126, 3) := by decide +kernel
theorem dX5_personOf_63 : decode cX5_personOf 63 = .ok (.iload_n 1, 1) := by decide +kernel
theorem dX5_personOf_64 : decode cX5_personOf 64 = .ok (.iaload, 1) := by decide +kernel
theorem dX5_personOf_65 : decode cX5_personOf 65 = .ok (.ireturn, 1) := by decide +kernel
theorem dX5_personOf_66 : decode cX5_personOf 66 = .ok (.aload_n 0, 1) := by decide +kernel
theorem dX5_personOf_67 : decode cX5_personOf 67 = .ok (.getfield 10, 3) := by decide +kernel
theorem dX5_personOf_70 : decode cX5_personOf 70 = .ok (.getfield 133, 3) := by decide +kernel
theorem dX5_personOf_73 : decode cX5_personOf 73 = .ok (.iload_n 1, 1) := by decide +kernel
theorem dX5_personOf_74 : decode cX5_personOf 74 = .ok (.iaload, 1) := by decide +kernel
theorem dX5_personOf_75 : decode cX5_personOf 75 = .ok (.ireturn, 1) := by decide +kernel
theorem dX5_personOf_76 : decode cX5_personOf 76 = .ok (.aload_n 0, 1) := by decide +kernel
theorem dX5_personOf_77 : decode cX5_personOf 77 = .ok (.getfield 10, 3) := by decide +kernel
theorem dX5_personOf_80 : decode cX5_personOf 80 = .ok (.getfield 192, 3) := by decide +kernel
theorem dX5_personOf_83 : decode cX5_personOf 83 = .ok (.iload_n 1, 1) := by decide +kernel
theorem dX5_personOf_84 : decode cX5_personOf 84 = .ok (.iaload, 1) := by decide +kernel
theorem dX5_personOf_85 : decode cX5_personOf 85 = .ok (.ireturn, 1) := by decide +kernel
theorem dX5_personOf_86 : decode cX5_personOf 86 = .ok (.aload_n 0, 1) := by decide +kernel
theorem dX5_personOf_87 : decode cX5_personOf 87 = .ok (.getfield 10, 3) := by decide +kernel
theorem dX5_personOf_90 : decode cX5_personOf 90 = .ok (.getfield 195, 3) := by decide +kernel
theorem dX5_personOf_93 : decode cX5_personOf 93 = .ok (.iload_n 1, 1) := by decide +kernel
theorem dX5_personOf_94 : decode cX5_personOf 94 = .ok (.iaload, 1) := by decide +kernel
theorem dX5_personOf_95 : decode cX5_personOf 95 = .ok (.ireturn, 1) := by decide +kernel
theorem dX5_personOf_96 : decode cX5_personOf 96 = .ok (.aload_n 0, 1) := by decide +kernel
theorem dX5_personOf_97 : decode cX5_personOf 97 = .ok (.getfield 10, 3) := by decide +kernel
theorem dX5_personOf_100 : decode cX5_personOf 100 = .ok (.getfield 189, 3) := by decide +kernel
theorem dX5_personOf_103 : decode cX5_personOf 103 = .ok (.iload_n 1, 1) := by decide +kernel
theorem dX5_personOf_104 : decode cX5_personOf 104 = .ok (.iaload, 1) := by decide +kernel
theorem dX5_personOf_105 : decode cX5_personOf 105 = .ok (.ireturn, 1) := by decide +kernel
theorem dX5_personOf_106 : decode cX5_personOf 106 = .ok (.aload_n 0, 1) := by decide +kernel
theorem dX5_personOf_107 : decode cX5_personOf 107 = .ok (.getfield 10, 3) := by decide +kernel
theorem dX5_personOf_110 : decode cX5_personOf 110 = .ok (.iload_n 1, 1) := by decide +kernel
theorem dX5_personOf_111 : decode cX5_personOf 111 = .ok (.invokevirtual 197, 3) := by decide +kernel
theorem dX5_personOf_114 : decode cX5_personOf 114 = .ok (.ireturn, 1) := by decide +kernel
theorem dX5_personOf_115 : decode cX5_personOf 115 = .ok (.aload_n 0, 1) := by decide +kernel
theorem dX5_personOf_116 : decode cX5_personOf 116 = .ok (.bipush (-2), 2) := by decide +kernel
theorem dX5_personOf_118 : decode cX5_personOf 118 = .ok (.invokevirtual 76, 3) := by decide +kernel
theorem dX5_personOf_121 : decode cX5_personOf 121 = .ok (.ireturn, 1) := by decide +kernel
set_option maxRecDepth 20000 in
theorem ggX5_isPond_X0_isCell : GoodIn wsX5_isPond wsX0_isCell := goodIn_r _ [6, 7, 37, 38, 39, 40, 41, 42, 43, 44, 45, 46, 47, 48, 49, 50] (by decide +kernel) (by decide +kernel)
set_option maxRecDepth 20000 in
theorem gX5_isPond_X0_isCell : GoodIn wsX5_isPond (wsV RX5 152 RX0 yX0_isCell wsX0_isCell) := goodIn_app (goodIn_of _ (by decide +kernel)) ggX5_isPond_X0_isCell
set_option maxRecDepth 20000 in
theorem ggX5_isPond_X5_refuse : GoodIn wsX5_isPond wsX5_refuse := goodIn_r _ [12, 13, 14, 15, 11, 16, 26, 27, 28, 29, 30, 31, 32, 33, 34, 35, 36] (by decide +kernel) (by decide +kernel)
set_option maxRecDepth 20000 in
theorem gX5_isPond_X5_refuse : GoodIn wsX5_isPond (wsV RX5 76 RX5 yX5_refuse wsX5_refuse) := goodIn_app (goodIn_of _ (by decide +kernel)) ggX5_isPond_X5_refuse
set_option maxRecDepth 20000 in
theorem ggX5_isPond_X0_hasPond : GoodIn wsX5_isPond wsX0_hasPond := goodIn_r _ [20, 21, 22, 3, 4, 5, 6, 7, 37, 38, 39, 40, 41, 42, 43, 44, 45, 46, 47, 48, 49, 50] (by decide +kernel) (by decide +kernel)
set_option maxRecDepth 20000 in
theorem gX5_isPond_X0_hasPond : GoodIn wsX5_isPond (wsV RX5 158 RX0 yX0_hasPond wsX0_hasPond) := goodIn_app (goodIn_of _ (by decide +kernel)) ggX5_isPond_X0_hasPond
set_option maxRecDepth 20000 in
theorem ggX5_isPond_X5_asNumber : GoodIn wsX5_isPond wsX5_asNumber := goodIn_r _ [25] (by decide +kernel) (by decide +kernel)
set_option maxRecDepth 20000 in
theorem gX5_isPond_X5_asNumber : GoodIn wsX5_isPond (va_wsS RX5 161 yX5_asNumber wsX5_asNumber) := goodIn_app (goodIn_of _ (by decide +kernel)) ggX5_isPond_X5_asNumber
theorem dX5_isPond_0 : decode cX5_isPond 0 = .ok (.aload_n 0, 1) := by decide +kernel
theorem dX5_isPond_1 : decode cX5_isPond 1 = .ok (.getfield 10, 3) := by decide +kernel
theorem dX5_isPond_4 : decode cX5_isPond 4 = .ok (.iload_n 1, 1) := by decide +kernel
theorem dX5_isPond_5 : decode cX5_isPond 5 = .ok (.invokevirtual 152, 3) := by decide +kernel
theorem dX5_isPond_8 : decode cX5_isPond 8 = .ok (.ifCond .ne 10, 3) := by decide +kernel
theorem dX5_isPond_11 : decode cX5_isPond 11 = .ok (.aload_n 0, 1) := by decide +kernel
theorem dX5_isPond_12 : decode cX5_isPond 12 = .ok (.bipush (-2), 2) := by decide +kernel
theorem dX5_isPond_14 : decode cX5_isPond 14 = .ok (.invokevirtual 76, 3) := by decide +kernel
theorem dX5_isPond_17 : decode cX5_isPond 17 = .ok (.ireturn, 1) := by decide +kernel
theorem dX5_isPond_18 : decode cX5_isPond 18 = .ok (.aload_n 0, 1) := by decide +kernel
theorem dX5_isPond_19 : decode cX5_isPond 19 = .ok (.getfield 10, 3) := by decide +kernel
theorem dX5_isPond_22 : decode cX5_isPond 22 = .ok (.iload_n 1, 1) := by decide +kernel
theorem dX5_isPond_23 : decode cX5_isPond 23 = .ok (.invokevirtual 158, 3) := by decide +kernel
theorem dX5_isPond_26 : decode cX5_isPond 26 = .ok (.invokestatic 161, 3) := by decide +kernel
theorem dX5_isPond_29 : decode cX5_isPond 29 = .ok (.ireturn, 1) := by decide +kernel
set_option maxRecDepth 20000 in
theorem ggX5_open_X0_isCell : GoodIn wsX5_open wsX0_isCell := goodIn_r _ [6, 7, 43, 44, 45, 46, 47, 48, 49, 50, 51, 52, 53, 54, 55, 56] (by decide +kernel) (by decide +kernel)
set_option maxRecDepth 20000 in
theorem gX5_open_X0_isCell : GoodIn wsX5_open (wsV RX5 152 RX0 yX0_isCell wsX0_isCell) := goodIn_app (goodIn_of _ (by decide +kernel)) ggX5_open_X0_isCell
set_option maxRecDepth 20000 in
theorem ggX5_open_X5_isFaces : GoodIn wsX5_open wsX5_isFaces := goodIn_r _ [11, 12, 13, 10, 14] (by decide +kernel) (by decide +kernel)
set_option maxRecDepth 20000 in
theorem gX5_open_X5_isFaces : GoodIn wsX5_open (va_wsS RX5 169 yX5_isFaces wsX5_isFaces) := goodIn_app (goodIn_of _ (by decide +kernel)) ggX5_open_X5_isFaces
set_option maxRecDepth 20000 in
theorem ggX5_open_X5_refuse : GoodIn wsX5_open wsX5_refuse := goodIn_r _ [18, 19, 12, 13, 10, 14, 32, 33, 34, 35, 36, 37, 38, 39, 40, 41, 42] (by decide +kernel) (by decide +kernel)
set_option maxRecDepth 20000 in
theorem gX5_open_X5_refuse : GoodIn wsX5_open (wsV RX5 76 RX5 yX5_refuse wsX5_refuse) := goodIn_app (goodIn_of _ (by decide +kernel)) ggX5_open_X5_refuse
set_option maxRecDepth 20000 in
theorem ggX5_open_X0_cellAhead : GoodIn wsX5_open wsX0_cellAhead := goodIn_r _ [23, 24, 25, 7, 43, 44, 45, 46, 47, 48, 49, 50, 51, 52, 53, 54, 55, 56] (by decide +kernel) (by decide +kernel)
set_option maxRecDepth 20000 in
theorem gX5_open_X0_cellAhead : GoodIn wsX5_open (wsV RX5 200 RX0 yX0_cellAhead wsX0_cellAhead) := goodIn_app (goodIn_of _ (by decide +kernel)) ggX5_open_X0_cellAhead
set_option maxRecDepth 20000 in
theorem ggX5_open_X0_hasPond : GoodIn wsX5_open wsX0_hasPond := goodIn_r _ [29, 30, 31, 3, 4, 5, 6, 7, 43, 44, 45, 46, 47, 48, 49, 50, 51, 52, 53, 54, 55, 56] (by decide +kernel) (by decide +kernel)
set_option maxRecDepth 20000 in
theorem gX5_open_X0_hasPond : GoodIn wsX5_open (wsV RX5 158 RX0 yX0_hasPond wsX0_hasPond) := goodIn_app (goodIn_of _ (by decide +kernel)) ggX5_open_X0_hasPond
theorem dX5_open_0 : decode cX5_open 0 = .ok (.aload_n 0, 1) := by decide +kernel
theorem dX5_open_1 : decode cX5_open 1 = .ok (.getfield 10, 3) := by decide +kernel
theorem dX5_open_4 : decode cX5_open 4 = .ok (.iload_n 1, 1) := by decide +kernel
theorem dX5_open_5 : decode cX5_open 5 = .ok (.invokevirtual 152, 3) := by decide +kernel
theorem dX5_open_8 : decode cX5_open 8 = .ok (.ifCond .eq 10, 3) := by decide +kernel
theorem dX5_open_11 : decode cX5_open 11 = .ok (.iload_n 2, 1) := by decide +kernel
theorem dX5_open_12 : decode cX5_open 12 = .ok (.invokestatic 169, 3) := by decide +kernel
theorem dX5_open_15 : decode cX5_open 15 = .ok (.ifCond .ne 10, 3) := by decide +kernel
theorem dX5_open_18 : decode cX5_open 18 = .ok (.aload_n 0, 1) := by decide +kernel
theorem dX5_open_19 : decode cX5_open 19 = .ok (.bipush (-2), 2) := by decide +kernel
theorem dX5_open_21 : decode cX5_open 21 = .ok (.invokevirtual 76, 3) := by decide +kernel
theorem dX5_open_24 : decode cX5_open 24 = .ok (.ireturn, 1) := by decide +kernel
theorem dX5_open_25 : decode cX5_open 25 = .ok (.aload_n 0, 1) := by decide +kernel
theorem dX5_open_26 : decode cX5_open 26 = .ok (.getfield 10, 3) := by decide +kernel
theorem dX5_open_29 : decode cX5_open 29 = .ok (.iload_n 1, 1) := by decide +kernel
theorem dX5_open_30 : decode cX5_open 30 = .ok (.iload_n 2, 1) := by decide +kernel
theorem dX5_open_31 : decode cX5_open 31 = .ok (.invokevirtual 200, 3) := by decide +kernel
theorem dX5_open_34 : decode cX5_open 34 = .ok (.istore_n 3, 1) := by decide +kernel
theorem dX5_open_35 : decode cX5_open 35 = .ok (.iconst 0, 1) := by decide +kernel
theorem dX5_open_36 : decode cX5_open 36 = .ok (.istore 4, 2) := by decide +kernel
theorem dX5_open_38 : decode cX5_open 38 = .ok (.iload 4, 2) := by decide +kernel
theorem dX5_open_40 : decode cX5_open 40 = .ok (.bipush 7, 2) := by decide +kernel
theorem dX5_open_42 : decode cX5_open 42 = .ok (.if_icmp .ge 35, 3) := by decide +kernel
theorem dX5_open_45 : decode cX5_open 45 = .ok (.iload_n 3, 1) := by decide +kernel
theorem dX5_open_46 : decode cX5_open 46 = .ok (.iconst (-1), 1) := by decide +kernel
theorem dX5_open_47 : decode cX5_open 47 = .ok (.if_icmp .eq 30, 3) := by decide +kernel
theorem dX5_open_50 : decode cX5_open 50 = .ok (.aload_n 0, 1) := by decide +kernel
theorem dX5_open_51 : decode cX5_open 51 = .ok (.getfield 10, 3) := by decide +kernel
theorem dX5_open_54 : decode cX5_open 54 = .ok (.iload_n 3, 1) := by decide +kernel
theorem dX5_open_55 : decode cX5_open 55 = .ok (.invokevirtual 158, 3) := by decide +kernel
theorem dX5_open_58 : decode cX5_open 58 = .ok (.ifCond .ne 19, 3) := by decide +kernel
theorem dX5_open_61 : decode cX5_open 61 = .ok (.iinc 4 1, 3) := by decide +kernel
theorem dX5_open_64 : decode cX5_open 64 = .ok (.aload_n 0, 1) := by decide +kernel
theorem dX5_open_65 : decode cX5_open 65 = .ok (.getfield 10, 3) := by decide +kernel
theorem dX5_open_68 : decode cX5_open 68 = .ok (.iload_n 3, 1) := by decide +kernel
theorem dX5_open_69 : decode cX5_open 69 = .ok (.iload_n 2, 1) := by decide +kernel
theorem dX5_open_70 : decode cX5_open 70 = .ok (.invokevirtual 200, 3) := by decide +kernel
theorem dX5_open_73 : decode cX5_open 73 = .ok (.istore_n 3, 1) := by decide +kernel
theorem dX5_open_74 : decode cX5_open 74 = .ok (.goto (-36), 3) := by decide +kernel
theorem dX5_open_77 : decode cX5_open 77 = .ok (.iload 4, 2) := by decide +kernel
theorem dX5_open_79 : decode cX5_open 79 = .ok (.ireturn, 1) := by decide +kernel
set_option maxRecDepth 20000 in
theorem ggX5_shore_X0_isDry : GoodIn wsX5_shore wsX0_isDry := goodIn_r _ [6, 7, 8, 9, 10, 5, 11, 12, 34, 35, 36, 37, 38, 39, 40, 41, 42, 43, 44, 45, 46, 47] (by decide +kernel) (by decide +kernel)
set_option maxRecDepth 20000 in
theorem gX5_shore_X0_isDry : GoodIn wsX5_shore (wsV RX5 203 RX0 yX0_isDry wsX0_isDry) := goodIn_app (goodIn_of _ (by decide +kernel)) ggX5_shore_X0_isDry
set_option maxRecDepth 20000 in
theorem ggX5_shore_X0_hasPondBeside : GoodIn wsX5_shore wsX0_hasPondBeside := goodIn_r _ [16, 7, 17, 18, 19, 5, 20, 21, 22, 12, 34, 35, 36, 37, 38, 39, 40, 41, 42, 43, 44, 45, 46, 47] (by decide +kernel) (by decide +kernel)
set_option maxRecDepth 20000 in
theorem gX5_shore_X0_hasPondBeside : GoodIn wsX5_shore (wsV RX5 206 RX0 yX0_hasPondBeside wsX0_hasPondBeside) := goodIn_app (goodIn_of _ (by decide +kernel)) ggX5_shore_X0_hasPondBeside
theorem dX5_shore_0 : decode cX5_shore 0 = .ok (.iconst 0, 1) := by decide +kernel
theorem dX5_shore_1 : decode cX5_shore 1 = .ok (.istore_n 1, 1) := by decide +kernel
theorem dX5_shore_2 : decode cX5_shore 2 = .ok (.iconst 0, 1) := by decide +kernel
theorem dX5_shore_3 : decode cX5_shore 3 = .ok (.istore_n 2, 1) := by decide +kernel
theorem dX5_shore_4 : decode cX5_shore 4 = .ok (.iload_n 2, 1) := by decide +kernel
theorem dX5_shore_5 : decode cX5_shore 5 = .ok (.bipush 70, 2) := by decide +kernel
theorem dX5_shore_7 : decode cX5_shore 7 = .ok (.if_icmp .ge 34, 3) := by decide +kernel
theorem dX5_shore_10 : decode cX5_shore 10 = .ok (.aload_n 0, 1) := by decide +kernel
theorem dX5_shore_11 : decode cX5_shore 11 = .ok (.getfield 10, 3) := by decide +kernel
theorem dX5_shore_14 : decode cX5_shore 14 = .ok (.iload_n 2, 1) := by decide +kernel
theorem dX5_shore_15 : decode cX5_shore 15 = .ok (.invokevirtual 203, 3) := by decide +kernel
theorem dX5_shore_18 : decode cX5_shore 18 = .ok (.ifCond .eq 17, 3) := by decide +kernel
theorem dX5_shore_21 : decode cX5_shore 21 = .ok (.aload_n 0, 1) := by decide +kernel
theorem dX5_shore_22 : decode cX5_shore 22 = .ok (.getfield 10, 3) := by decide +kernel
theorem dX5_shore_25 : decode cX5_shore 25 = .ok (.iload_n 2, 1) := by decide +kernel
theorem dX5_shore_26 : decode cX5_shore 26 = .ok (.invokevirtual 206, 3) := by decide +kernel
theorem dX5_shore_29 : decode cX5_shore 29 = .ok (.ifCond .eq 6, 3) := by decide +kernel
theorem dX5_shore_32 : decode cX5_shore 32 = .ok (.iinc 1 1, 3) := by decide +kernel
theorem dX5_shore_35 : decode cX5_shore 35 = .ok (.iinc 2 1, 3) := by decide +kernel
theorem dX5_shore_38 : decode cX5_shore 38 = .ok (.goto (-34), 3) := by decide +kernel
theorem dX5_shore_41 : decode cX5_shore 41 = .ok (.iload_n 1, 1) := by decide +kernel
theorem dX5_shore_42 : decode cX5_shore 42 = .ok (.ireturn, 1) := by decide +kernel
set_option maxRecDepth 20000 in
theorem ggX5_feed_X5_isWithin : GoodIn wsX5_feed wsX5_isWithin := goodIn_r _ [5] (by decide +kernel) (by decide +kernel)
set_option maxRecDepth 20000 in
theorem gX5_feed_X5_isWithin : GoodIn wsX5_feed (va_wsS RX5 72 yX5_isWithin wsX5_isWithin) := goodIn_app (goodIn_of _ (by decide +kernel)) ggX5_feed_X5_isWithin
set_option maxRecDepth 20000 in
theorem ggX5_feed_X5_refuse : GoodIn wsX5_feed wsX5_refuse := goodIn_r _ [9, 10, 2, 3, 4, 5, 23, 24, 25, 26, 27, 28, 29, 30, 31, 32, 33] (by decide +kernel) (by decide +kernel)
set_option maxRecDepth 20000 in
theorem gX5_feed_X5_refuse : GoodIn wsX5_feed (wsV RX5 76 RX5 yX5_refuse wsX5_refuse) := goodIn_app (goodIn_of _ (by decide +kernel)) ggX5_feed_X5_refuse
set_option maxRecDepth 20000 in
theorem ggX5_feed_X1_isFull : GoodIn wsX5_feed wsX1_isFull := goodIn_r _ [15, 16, 34, 35, 36, 37, 38, 39, 40] (by decide +kernel) (by decide +kernel)
set_option maxRecDepth 20000 in
theorem gX5_feed_X1_isFull : GoodIn wsX5_feed (wsV RX5 209 RX1 yX1_isFull wsX1_isFull) := goodIn_app (goodIn_of _ (by decide +kernel)) ggX5_feed_X1_isFull
set_option maxRecDepth 20000 in
theorem ggX5_feed_X1_append : GoodIn wsX5_feed wsX1_append := goodIn_r _ [20, 21, 16, 22, 12, 13, 14, 15, 34, 35, 36, 37, 38, 39, 40] (by decide +kernel) (by decide +kernel)
set_option maxRecDepth 20000 in
theorem gX5_feed_X1_append : GoodIn wsX5_feed (wsV RX5 210 RX1 yX1_append wsX1_append) := goodIn_app (goodIn_of _ (by decide +kernel)) ggX5_feed_X1_append
theorem dX5_feed_0 : decode cX5_feed 0 = .ok (.iload_n 1, 1) := by decide +kernel
theorem dX5_feed_1 : decode cX5_feed 1 = .ok (.iconst 0, 1) := by decide +kernel
theorem dX5_feed_2 : decode cX5_feed 2 = .ok (.sipush 255, 3) := by decide +kernel
theorem dX5_feed_5 : decode cX5_feed 5 = .ok (.invokestatic 72, 3) := by decide +kernel
theorem dX5_feed_8 : decode cX5_feed 8 = .ok (.ifCond .ne 10, 3) := by decide +kernel
theorem dX5_feed_11 : decode cX5_feed 11 = .ok (.aload_n 0, 1) := by decide +kernel
theorem dX5_feed_12 : decode cX5_feed 12 = .ok (.bipush (-2), 2) := by decide +kernel
theorem dX5_feed_14 : decode cX5_feed 14 = .ok (.invokevirtual 76, 3) := by decide +kernel
theorem dX5_feed_17 : decode cX5_feed 17 = .ok (.ireturn, 1) := by decide +kernel
theorem dX5_feed_18 : decode cX5_feed 18 = .ok (.aload_n 0, 1) := by decide +kernel
theorem dX5_feed_19 : decode cX5_feed 19 = .ok (.getfield 27, 3) := by decide +kernel
theorem dX5_feed_22 : decode cX5_feed 22 = .ok (.invokevirtual 209, 3) := by decide +kernel
theorem dX5_feed_25 : decode cX5_feed 25 = .ok (.ifCond .eq 10, 3) := by decide +kernel
theorem dX5_feed_28 : decode cX5_feed 28 = .ok (.aload_n 0, 1) := by decide +kernel
theorem dX5_feed_29 : decode cX5_feed 29 = .ok (.bipush (-6), 2) := by decide +kernel
theorem dX5_feed_31 : decode cX5_feed 31 = .ok (.invokevirtual 76, 3) := by decide +kernel
theorem dX5_feed_34 : decode cX5_feed 34 = .ok (.ireturn, 1) := by decide +kernel
theorem dX5_feed_35 : decode cX5_feed 35 = .ok (.aload_n 0, 1) := by decide +kernel
theorem dX5_feed_36 : decode cX5_feed 36 = .ok (.getfield 27, 3) := by decide +kernel
theorem dX5_feed_39 : decode cX5_feed 39 = .ok (.iload_n 1, 1) := by decide +kernel
theorem dX5_feed_40 : decode cX5_feed 40 = .ok (.invokevirtual 210, 3) := by decide +kernel
theorem dX5_feed_43 : decode cX5_feed 43 = .ok (.ireturn, 1) := by decide +kernel
set_option maxRecDepth 20000 in
theorem ggX5_wipe_X1_clear : GoodIn wsX5_wipe wsX1_clear := goodIn_r _ [6, 7, 19, 20, 21, 22, 23, 24, 25] (by decide +kernel) (by decide +kernel)
set_option maxRecDepth 20000 in
theorem gX5_wipe_X1_clear : GoodIn wsX5_wipe (wsV RX5 213 RX1 yX1_clear wsX1_clear) := goodIn_app (goodIn_of _ (by decide +kernel)) ggX5_wipe_X1_clear
theorem dX5_wipe_0 : decode cX5_wipe 0 = .ok (.aload_n 0, 1) := by decide +kernel
theorem dX5_wipe_1 : decode cX5_wipe 1 = .ok (.getfield 27, 3) := by decide +kernel
theorem dX5_wipe_4 : decode cX5_wipe 4 = .ok (.invokevirtual 213, 3) := by decide +kernel
theorem dX5_wipe_7 : decode cX5_wipe 7 = .ok (.ireturn, 1) := by decide +kernel
set_option maxRecDepth 20000 in
theorem ggX5_island_X0_become : GoodIn wsX5_island wsX0_become := goodIn_r _ [8, 9, 10, 11, 12, 13, 14, 15, 16, 17, 18, 19, 20, 21, 22, 194, 195, 196, 197, 198, 199, 200, 201, 202, 203, 204, 205, 206, 207] (by decide +kernel) (by decide +kernel)
set_option maxRecDepth 20000 in
theorem gX5_island_X0_become : GoodIn wsX5_island (wsV RX5 217 RX0 yX0_become wsX0_become) := goodIn_app (goodIn_of _ (by decide +kernel)) ggX5_island_X0_become
set_option maxRecDepth 20000 in
theorem ggX5_island_X1_readAll : GoodIn wsX5_island wsX1_readAll := goodIn_r _ [27, 28, 29, 30, 31, 32, 33, 26, 34, 35, 36, 37, 38, 39, 40, 41, 42, 43, 44, 45, 46, 47, 48, 49, 50, 51, 52, 53, 54, 55, 56, 57, 58, 59, 60, 61, 62, 63, 64, 65, 66, 67, 68, 69, 70, 71, 72, 73, 74, 75, 76, 77, 78, 79, 80, 81, 82, 83, 84, 85, 86, 87, 88, 89, 90, 91, 92, 93, 94, 95, 96, 97, 98, 99, 100, 101, 102, 103, 104, 105, 106, 107, 108, 109, 110, 111, 112, 113, 114, 115, 116, 117, 7, 118, 9, 119, 120, 121, 122, 123, 124, 125, 126, 127, 128, 129, 130, 131, 132, 133, 134, 135, 136, 137, 138, 16, 20, 139, 140, 141, 142, 143, 144, 145, 146, 147, 148, 149, 150, 151, 152, 153, 154, 17, 155, 156, 157, 158, 159, 18, 19, 21, 22, 160, 161, 162, 163, 164, 165, 166, 167, 168, 169, 170, 171, 172, 208, 209, 210, 211, 212, 213, 214, 194, 195, 196, 197, 198, 199, 200, 201, 202, 203, 204, 205, 206, 207] (by decide +kernel) (by decide +kernel)
set_option maxRecDepth 20000 in
theorem gX5_island_X1_readAll : GoodIn wsX5_island (wsV RX5 220 RX1 yX1_readAll wsX1_readAll) := goodIn_app (goodIn_of _ (by decide +kernel)) ggX5_island_X1_readAll
set_option maxRecDepth 20000 in
theorem ggX5_island_X1_clear : GoodIn wsX5_island wsX1_clear := goodIn_r _ [176, 39, 208, 209, 210, 211, 212, 213, 214] (by decide +kernel) (by decide +kernel)
set_option maxRecDepth 20000 in
theorem gX5_island_X1_clear : GoodIn wsX5_island (wsV RX5 213 RX1 yX1_clear wsX1_clear) := goodIn_app (goodIn_of _ (by decide +kernel)) ggX5_island_X1_clear
set_option maxRecDepth 20000 in
theorem ggX5_island_X5_refuse : GoodIn wsX5_island wsX5_refuse := goodIn_r _ [180, 181, 182, 42, 43, 44, 183, 184, 185, 186, 187, 188, 189, 190, 191, 192, 193] (by decide +kernel) (by decide +kernel)
set_option maxRecDepth 20000 in
theorem gX5_island_X5_refuse : GoodIn wsX5_island (wsV RX5 76 RX5 yX5_refuse wsX5_refuse) := goodIn_app (goodIn_of _ (by decide +kernel)) ggX5_island_X5_refuse
theorem dX5_island_0 : decode cX5_island 0 = .ok (.aload_n 0, 1) := by decide +kernel
theorem dX5_island_1 : decode cX5_island 1 = .ok (.getfield 19, 3) := by decide +kernel
theorem dX5_island_4 : decode cX5_island 4 = .ok (.aload_n 0, 1) := by decide +kernel
theorem dX5_island_5 : decode cX5_island 5 = .ok (.getfield 10, 3) := by decide +kernel
theorem dX5_island_8 : decode cX5_island 8 = .ok (.invokevirtual 217, 3) := by decide +kernel
theorem dX5_island_11 : decode cX5_island 11 = .ok (.aload_n 0, 1) := by decide +kernel
theorem dX5_island_12 : decode cX5_island 12 = .ok (.getfield 27, 3) := by decide +kernel
theorem dX5_island_15 : decode cX5_island 15 = .ok (.invokevirtual 220, 3) := by decide +kernel
theorem dX5_island_18 : decode cX5_island 18 = .ok (.istore_n 1, 1) := by decide +kernel
theorem dX5_island_19 : decode cX5_island 19 = .ok (.aload_n 0, 1) := by decide +kernel
theorem dX5_island_20 : decode cX5_island 20 = .ok (.getfield 27, 3) := by decide +kernel
theorem dX5_island_23 : decode cX5_island 23 = .ok (.invokevirtual 213, 3) := by decide +kernel
theorem dX5_island_26 : decode cX5_island 26 = .ok (.pop, 1) := by decide +kernel
theorem dX5_island_27 : decode cX5_island 27 = .ok (.iload_n 1, 1) := by decide +kernel
theorem dX5_island_28 : decode cX5_island 28 = .ok (.ifCond .ge 13, 3) := by decide +kernel
theorem dX5_island_31 : decode cX5_island 31 = .ok (.aload_n 0, 1) := by decide +kernel
theorem dX5_island_32 : decode cX5_island 32 = .ok (.bipush (-2), 2) := by decide +kernel
theorem dX5_island_34 : decode cX5_island 34 = .ok (.invokevirtual 76, 3) := by decide +kernel
theorem dX5_island_37 : decode cX5_island 37 = .ok (.pop, 1) := by decide +kernel
theorem dX5_island_38 : decode cX5_island 38 = .ok (.goto 14, 3) := by decide +kernel
theorem dX5_island_41 : decode cX5_island 41 = .ok (.aload_n 0, 1) := by decide +kernel
theorem dX5_island_42 : decode cX5_island 42 = .ok (.getfield 10, 3) := by decide +kernel
theorem dX5_island_45 : decode cX5_island 45 = .ok (.aload_n 0, 1) := by decide +kernel
theorem dX5_island_46 : decode cX5_island 46 = .ok (.getfield 19, 3) := by decide +kernel
theorem dX5_island_49 : decode cX5_island 49 = .ok (.invokevirtual 217, 3) := by decide +kernel
theorem dX5_island_52 : decode cX5_island 52 = .ok (.iload_n 1, 1) := by decide +kernel
theorem dX5_island_53 : decode cX5_island 53 = .ok (.ireturn, 1) := by decide +kernel
set_option maxRecDepth 20000 in
theorem ggX5_comes_X0_isOne : GoodIn wsX5_comes wsX0_isOne := goodIn_r _ [7, 8, 9, 10, 11, 156, 157, 158, 159, 160, 161, 162, 163, 164, 165, 166, 167, 168, 169] (by decide +kernel) (by decide +kernel)
set_option maxRecDepth 20000 in
theorem gX5_comes_X0_isOne : GoodIn wsX5_comes (wsV RX5 109 RX0 yX0_isOne wsX0_isOne) := goodIn_app (goodIn_of _ (by decide +kernel)) ggX5_comes_X0_isOne
set_option maxRecDepth 20000 in
theorem ggX5_comes_X5_isWithin : GoodIn wsX5_comes wsX5_isWithin := goodIn_r _ [11] (by decide +kernel) (by decide +kernel)
set_option maxRecDepth 20000 in
theorem gX5_comes_X5_isWithin : GoodIn wsX5_comes (va_wsS RX5 72 yX5_isWithin wsX5_isWithin) := goodIn_app (goodIn_of _ (by decide +kernel)) ggX5_comes_X5_isWithin
set_option maxRecDepth 20000 in
theorem ggX5_comes_X5_tellingFault : GoodIn wsX5_comes wsX5_tellingFault := goodIn_r _ [16, 17, 18, 19, 10, 20, 21, 22, 23, 24, 25, 26, 9, 11, 12, 27, 28, 29, 30, 31, 32, 33, 34, 35, 36, 37, 38, 39, 40, 41, 42, 43, 44, 45, 46, 47, 48, 49, 50, 51, 52, 53, 54, 55, 56, 57, 58, 134, 135, 136, 137, 138, 139, 140, 141, 142, 143, 144, 170, 171, 172] (by decide +kernel) (by decide +kernel)
set_option maxRecDepth 20000 in
theorem gX5_comes_X5_tellingFault : GoodIn wsX5_comes (wsV RX5 223 RX5 yX5_tellingFault wsX5_tellingFault) := goodIn_app (goodIn_of _ (by decide +kernel)) ggX5_comes_X5_tellingFault
set_option maxRecDepth 20000 in
theorem ggX5_comes_X5_refuse : GoodIn wsX5_comes wsX5_refuse := goodIn_r _ [62, 63, 12, 9, 10, 11, 134, 135, 136, 137, 138, 139, 140, 141, 142, 143, 144] (by decide +kernel) (by decide +kernel)
set_option maxRecDepth 20000 in
theorem gX5_comes_X5_refuse : GoodIn wsX5_comes (wsV RX5 76 RX5 yX5_refuse wsX5_refuse) := goodIn_app (goodIn_of _ (by decide +kernel)) ggX5_comes_X5_refuse
set_option maxRecDepth 20000 in
theorem ggX5_comes_X4_begin : GoodIn wsX5_comes wsX4_begin := goodIn_r _ [68, 69, 70, 71, 72, 73, 74, 75, 76, 77, 78, 79, 80, 4, 5, 6, 7, 8, 9, 10, 11, 145, 146, 147, 148, 149, 150, 151, 152, 153, 154, 155, 156, 157, 158, 159, 160, 161, 162, 163, 164, 165, 166, 167, 168, 169] (by decide +kernel) (by decide +kernel)
set_option maxRecDepth 20000 in
theorem gX5_comes_X4_begin : GoodIn wsX5_comes (wsV RX5 136 RX4 yX4_begin wsX4_begin) := goodIn_app (goodIn_of _ (by decide +kernel)) ggX5_comes_X4_begin
set_option maxRecDepth 20000 in
theorem ggX5_comes_X5_follow : GoodIn wsX5_comes wsX5_follow := goodIn_r _ [84, 21, 85, 86, 87, 25, 88, 58, 89, 90, 91, 67, 92, 75, 93, 94, 95, 96, 76, 97, 98, 99, 100, 69, 73, 74, 101, 102, 103, 6, 104, 105, 106, 107, 108, 109, 110, 111, 112, 113, 114, 115, 116, 117, 118, 119, 120, 70, 72, 77, 71, 121, 122, 123, 124, 125, 126, 127, 128, 129, 78, 79, 130, 131, 132, 133, 134, 135, 136, 137, 138, 139, 140, 141, 142, 143, 144, 170, 171, 172, 145, 146, 147, 148, 149, 150, 151, 152, 153, 154, 155, 156, 157, 158, 159, 160, 161, 162, 163, 164, 165, 166, 167, 168, 169] (by decide +kernel) (by decide +kernel)
set_option maxRecDepth 20000 in
theorem gX5_comes_X5_follow : GoodIn wsX5_comes (wsV RX5 227 RX5 yX5_follow wsX5_follow) := goodIn_app (goodIn_of _ (by decide +kernel)) ggX5_comes_X5_follow
theorem dX5_comes_0 : decode cX5_comes 0 = .ok (.aload_n 0, 1) := by decide +kernel
theorem dX5_comes_1 : decode cX5_comes 1 = .ok (.iload_n 1, 1) := by decide +kernel
theorem dX5_comes_2 : decode cX5_comes 2 = .ok (.iload_n 2, 1) := by decide +kernel
theorem dX5_comes_3 : decode cX5_comes 3 = .ok (.aload_n 0, 1) := by decide +kernel
theorem dX5_comes_4 : decode cX5_comes 4 = .ok (.getfield 10, 3) := by decide +kernel
theorem dX5_comes_7 : decode cX5_comes 7 = .ok (.iload_n 3, 1) := by decide +kernel
theorem dX5_comes_8 : decode cX5_comes 8 = .ok (.invokevirtual 109, 3) := by decide +kernel
theorem dX5_comes_11 : decode cX5_comes 11 = .ok (.ifCond .eq 17, 3) := by decide +kernel
theorem dX5_comes_14 : decode cX5_comes 14 = .ok (.iload 4, 2) := by decide +kernel
theorem dX5_comes_16 : decode cX5_comes 16 = .ok (.iconst 0, 1) := by decide +kernel
theorem dX5_comes_17 : decode cX5_comes 17 = .ok (.iconst 2, 1) := by decide +kernel
theorem dX5_comes_18 : decode cX5_comes 18 = .ok (.invokestatic 72, 3) := by decide +kernel
theorem dX5_comes_21 : decode cX5_comes 21 = .ok (.ifCond .eq 7, 3) := by decide +kernel
theorem dX5_comes_24 : decode cX5_comes 24 = .ok (.iconst 1, 1) := by decide +kernel
theorem dX5_comes_25 : decode cX5_comes 25 = .ok (.goto 4, 3) := by decide +kernel
theorem dX5_comes_28 : decode cX5_comes 28 = .ok (.iconst 0, 1) := by decide +kernel
theorem dX5_comes_29 : decode cX5_comes 29 = .ok (.invokevirtual 223, 3) := by decide +kernel
theorem dX5_comes_32 : decode cX5_comes 32 = .ok (.istore 5, 2) := by decide +kernel
theorem dX5_comes_34 : decode cX5_comes 34 = .ok (.iload 5, 2) := by decide +kernel
theorem dX5_comes_36 : decode cX5_comes 36 = .ok (.ifCond .eq 10, 3) := by decide +kernel
theorem dX5_comes_39 : decode cX5_comes 39 = .ok (.aload_n 0, 1) := by decide +kernel
theorem dX5_comes_40 : decode cX5_comes 40 = .ok (.iload 5, 2) := by decide +kernel
theorem dX5_comes_42 : decode cX5_comes 42 = .ok (.invokevirtual 76, 3) := by decide +kernel
theorem dX5_comes_45 : decode cX5_comes 45 = .ok (.ireturn, 1) := by decide +kernel
theorem dX5_comes_46 : decode cX5_comes 46 = .ok (.aload_n 0, 1) := by decide +kernel
theorem dX5_comes_47 : decode cX5_comes 47 = .ok (.getfield 41, 3) := by decide +kernel
theorem dX5_comes_50 : decode cX5_comes 50 = .ok (.iload_n 3, 1) := by decide +kernel
theorem dX5_comes_51 : decode cX5_comes 51 = .ok (.invokevirtual 136, 3) := by decide +kernel
theorem dX5_comes_54 : decode cX5_comes 54 = .ok (.aload_n 0, 1) := by decide +kernel
theorem dX5_comes_55 : decode cX5_comes 55 = .ok (.aload_n 0, 1) := by decide +kernel
theorem dX5_comes_56 : decode cX5_comes 56 = .ok (.getfield 41, 3) := by decide +kernel
theorem dX5_comes_59 : decode cX5_comes 59 = .ok (.iload_n 1, 1) := by decide +kernel
theorem dX5_comes_60 : decode cX5_comes 60 = .ok (.iload_n 2, 1) := by decide +kernel
theorem dX5_comes_61 : decode cX5_comes 61 = .ok (.invokevirtual 227, 3) := by decide +kernel
theorem dX5_comes_64 : decode cX5_comes 64 = .ok (.iload 4, 2) := by decide +kernel
theorem dX5_comes_66 : decode cX5_comes 66 = .ok (.ifCond .ne 11, 3) := by decide +kernel
theorem dX5_comes_69 : decode cX5_comes 69 = .ok (.aload_n 0, 1) := by decide +kernel
theorem dX5_comes_70 : decode cX5_comes 70 = .ok (.getfield 41, 3) := by decide +kernel
theorem dX5_comes_73 : decode cX5_comes 73 = .ok (.getfield 231, 3) := by decide +kernel
theorem dX5_comes_76 : decode cX5_comes 76 = .ok (.ireturn, 1) := by decide +kernel
theorem dX5_comes_77 : decode cX5_comes 77 = .ok (.iload 4, 2) := by decide +kernel
theorem dX5_comes_79 : decode cX5_comes 79 = .ok (.iconst 1, 1) := by decide +kernel
theorem dX5_comes_80 : decode cX5_comes 80 = .ok (.if_icmp .ne 13, 3) := by decide +kernel
theorem dX5_comes_83 : decode cX5_comes 83 = .ok (.aload_n 0, 1) := by decide +kernel
theorem dX5_comes_84 : decode cX5_comes 84 = .ok (.getfield 41, 3) := by decide +kernel
theorem dX5_comes_87 : decode cX5_comes 87 = .ok (.getfield 142, 3) := by decide +kernel
theorem dX5_comes_90 : decode cX5_comes 90 = .ok (.goto 10, 3) := by decide +kernel
theorem dX5_comes_93 : decode cX5_comes 93 = .ok (.aload_n 0, 1) := by decide +kernel
theorem dX5_comes_94 : decode cX5_comes 94 = .ok (.getfield 41, 3) := by decide +kernel
theorem dX5_comes_97 : decode cX5_comes 97 = .ok (.getfield 234, 3) := by decide +kernel
theorem dX5_comes_100 : decode cX5_comes 100 = .ok (.ireturn, 1) := by decide +kernel
set_option maxRecDepth 20000 in
theorem ggX5_fell_X5_tellingFault : GoodIn wsX5_fell wsX5_tellingFault := goodIn_r _ [7, 8, 9, 10, 6, 11, 12, 13, 14, 15, 16, 17, 18, 19, 20, 21, 22, 23, 24, 25, 26, 27, 28, 29, 30, 31, 32, 33, 34, 35, 36, 37, 38, 39, 40, 41, 42, 43, 44, 45, 46, 47, 48, 49, 50, 51, 52, 137, 138, 139, 140, 141, 142, 143, 144, 145, 146, 147, 162, 163, 164] (by decide +kernel) (by decide +kernel)
set_option maxRecDepth 20000 in
theorem gX5_fell_X5_tellingFault : GoodIn wsX5_fell (wsV RX5 223 RX5 yX5_tellingFault wsX5_tellingFault) := goodIn_app (goodIn_of _ (by decide +kernel)) ggX5_fell_X5_tellingFault
set_option maxRecDepth 20000 in
theorem ggX5_fell_X5_refuse : GoodIn wsX5_fell wsX5_refuse := goodIn_r _ [56, 57, 20, 18, 6, 19, 137, 138, 139, 140, 141, 142, 143, 144, 145, 146, 147] (by decide +kernel) (by decide +kernel)
set_option maxRecDepth 20000 in
theorem gX5_fell_X5_refuse : GoodIn wsX5_fell (wsV RX5 76 RX5 yX5_refuse wsX5_refuse) := goodIn_app (goodIn_of _ (by decide +kernel)) ggX5_fell_X5_refuse
set_option maxRecDepth 20000 in
theorem ggX5_fell_X4_begin : GoodIn wsX5_fell wsX4_begin := goodIn_r _ [62, 63, 64, 65, 66, 67, 68, 69, 70, 71, 72, 73, 74, 75, 76, 77, 78, 79, 18, 6, 19, 165, 166, 167, 168, 169, 170, 171, 172, 173, 174, 175, 148, 149, 150, 151, 152, 153, 154, 155, 156, 157, 158, 159, 160, 161] (by decide +kernel) (by decide +kernel)
set_option maxRecDepth 20000 in
theorem gX5_fell_X4_begin : GoodIn wsX5_fell (wsV RX5 136 RX4 yX4_begin wsX4_begin) := goodIn_app (goodIn_of _ (by decide +kernel)) ggX5_fell_X4_begin
set_option maxRecDepth 20000 in
theorem ggX5_fell_X5_follow : GoodIn wsX5_fell wsX5_follow := goodIn_r _ [83, 12, 84, 85, 86, 16, 87, 52, 88, 89, 90, 61, 91, 69, 92, 93, 94, 95, 70, 96, 97, 98, 99, 63, 67, 68, 100, 101, 102, 77, 103, 104, 105, 106, 107, 108, 109, 110, 111, 112, 113, 114, 115, 116, 117, 118, 119, 64, 66, 71, 65, 120, 121, 122, 123, 124, 125, 126, 127, 128, 72, 73, 129, 130, 131, 132, 137, 138, 139, 140, 141, 142, 143, 144, 145, 146, 147, 162, 163, 164, 165, 166, 167, 168, 169, 170, 171, 172, 173, 174, 175, 148, 149, 150, 151, 152, 153, 154, 155, 156, 157, 158, 159, 160, 161] (by decide +kernel) (by decide +kernel)
set_option maxRecDepth 20000 in
theorem gX5_fell_X5_follow : GoodIn wsX5_fell (wsV RX5 227 RX5 yX5_follow wsX5_follow) := goodIn_app (goodIn_of _ (by decide +kernel)) ggX5_fell_X5_follow
set_option maxRecDepth 20000 in
theorem ggX5_fell_X4_isFallen : GoodIn wsX5_fell wsX4_isFallen := goodIn_r _ [95, 70, 165, 166, 167, 168, 169, 170, 171, 172, 173, 174, 175] (by decide +kernel) (by decide +kernel)
set_option maxRecDepth 20000 in
theorem gX5_fell_X4_isFallen : GoodIn wsX5_fell (wsV RX5 240 RX4 yX4_isFallen wsX4_isFallen) := goodIn_app (goodIn_of _ (by decide +kernel)) ggX5_fell_X4_isFallen
set_option maxRecDepth 20000 in
theorem ggX5_fell_X5_asNumber : GoodIn wsX5_fell wsX5_asNumber := goodIn_r _ [136] (by decide +kernel) (by decide +kernel)
set_option maxRecDepth 20000 in
theorem gX5_fell_X5_asNumber : GoodIn wsX5_fell (va_wsS RX5 161 yX5_asNumber wsX5_asNumber) := goodIn_app (goodIn_of _ (by decide +kernel)) ggX5_fell_X5_asNumber
theorem dX5_fell_0 : decode cX5_fell 0 = .ok (.aload_n 0, 1) := by decide +kernel
theorem dX5_fell_1 : decode cX5_fell 1 = .ok (.iload_n 1, 1) := by decide +kernel
theorem dX5_fell_2 : decode cX5_fell 2 = .ok (.iload_n 2, 1) := by decide +kernel
theorem dX5_fell_3 : decode cX5_fell 3 = .ok (.iconst 1, 1) := by decide +kernel
theorem dX5_fell_4 : decode cX5_fell 4 = .ok (.invokevirtual 223, 3) := by decide +kernel
theorem dX5_fell_7 : decode cX5_fell 7 = .ok (.istore_n 3, 1) := by decide +kernel
theorem dX5_fell_8 : decode cX5_fell 8 = .ok (.iload_n 3, 1) := by decide +kernel
theorem dX5_fell_9 : decode cX5_fell 9 = .ok (.ifCond .eq 9, 3) := by decide +kernel
theorem dX5_fell_12 : decode cX5_fell 12 = .ok (.aload_n 0, 1) := by decide +kernel
theorem dX5_fell_13 : decode cX5_fell 13 = .ok (.iload_n 3, 1) := by decide +kernel
theorem dX5_fell_14 : decode cX5_fell 14 = .ok (.invokevirtual 76, 3) := by decide +kernel
theorem dX5_fell_17 : decode cX5_fell 17 = .ok (.ireturn, 1) := by decide +kernel
theorem dX5_fell_18 : decode cX5_fell 18 = .ok (.iconst 0, 1) := by decide +kernel
theorem dX5_fell_19 : decode cX5_fell 19 = .ok (.istore 4, 2) := by decide +kernel
theorem dX5_fell_21 : decode cX5_fell 21 = .ok (.iconst 0, 1) := by decide +kernel
theorem dX5_fell_22 : decode cX5_fell 22 = .ok (.istore 5, 2) := by decide +kernel
theorem dX5_fell_24 : decode cX5_fell 24 = .ok (.iload 5, 2) := by decide +kernel
theorem dX5_fell_26 : decode cX5_fell 26 = .ok (.aload_n 0, 1) := by decide +kernel
theorem dX5_fell_27 : decode cX5_fell 27 = .ok (.getfield 10, 3) := by decide +kernel
theorem dX5_fell_30 : decode cX5_fell 30 = .ok (.getfield 237, 3) := by decide +kernel
theorem dX5_fell_33 : decode cX5_fell 33 = .ok (.if_icmp .ge 43, 3) := by decide +kernel
theorem dX5_fell_36 : decode cX5_fell 36 = .ok (.aload_n 0, 1) := by decide +kernel
theorem dX5_fell_37 : decode cX5_fell 37 = .ok (.getfield 41, 3) := by decide +kernel
theorem dX5_fell_40 : decode cX5_fell 40 = .ok (.iload 5, 2) := by decide +kernel
theorem dX5_fell_42 : decode cX5_fell 42 = .ok (.invokevirtual 136, 3) := by decide +kernel
theorem dX5_fell_45 : decode cX5_fell 45 = .ok (.aload_n 0, 1) := by decide +kernel
theorem dX5_fell_46 : decode cX5_fell 46 = .ok (.aload_n 0, 1) := by decide +kernel
theorem dX5_fell_47 : decode cX5_fell 47 = .ok (.getfield 41, 3) := by decide +kernel
theorem dX5_fell_50 : decode cX5_fell 50 = .ok (.iload_n 1, 1) := by decide +kernel
theorem dX5_fell_51 : decode cX5_fell 51 = .ok (.iload_n 2, 1) := by decide +kernel
theorem dX5_fell_52 : decode cX5_fell 52 = .ok (.invokevirtual 227, 3) := by decide +kernel
theorem dX5_fell_55 : decode cX5_fell 55 = .ok (.iload 4, 2) := by decide +kernel
theorem dX5_fell_57 : decode cX5_fell 57 = .ok (.aload_n 0, 1) := by decide +kernel
theorem dX5_fell_58 : decode cX5_fell 58 = .ok (.getfield 41, 3) := by decide +kernel
theorem dX5_fell_61 : decode cX5_fell 61 = .ok (.invokevirtual 240, 3) := by decide +kernel
theorem dX5_fell_64 : decode cX5_fell 64 = .ok (.invokestatic 161, 3) := by decide +kernel
theorem dX5_fell_67 : decode cX5_fell 67 = .ok (.iadd, 1) := by decide +kernel
theorem dX5_fell_68 : decode cX5_fell 68 = .ok (.istore 4, 2) := by decide +kernel
theorem dX5_fell_70 : decode cX5_fell 70 = .ok (.iinc 5 1, 3) := by decide +kernel
theorem dX5_fell_73 : decode cX5_fell 73 = .ok (.goto (-49), 3) := by decide +kernel
theorem dX5_fell_76 : decode cX5_fell 76 = .ok (.iload 4, 2) := by decide +kernel
theorem dX5_fell_78 : decode cX5_fell 78 = .ok (.ireturn, 1) := by decide +kernel
set_option maxRecDepth 20000 in
theorem ggX5_ponds_X0_isOne : GoodIn wsX5_ponds wsX0_isOne := goodIn_r _ [7, 8, 9, 10, 11, 164, 165, 166, 167, 168, 169, 170, 171, 172, 173, 174, 175, 176, 177] (by decide +kernel) (by decide +kernel)
set_option maxRecDepth 20000 in
theorem gX5_ponds_X0_isOne : GoodIn wsX5_ponds (wsV RX5 109 RX0 yX0_isOne wsX0_isOne) := goodIn_app (goodIn_of _ (by decide +kernel)) ggX5_ponds_X0_isOne
set_option maxRecDepth 20000 in
theorem ggX5_ponds_X5_tellingFault : GoodIn wsX5_ponds wsX5_tellingFault := goodIn_r _ [15, 16, 17, 18, 10, 19, 20, 21, 22, 23, 24, 25, 9, 11, 26, 27, 28, 29, 30, 31, 32, 33, 34, 35, 36, 37, 38, 39, 40, 41, 42, 43, 44, 45, 46, 47, 48, 49, 50, 51, 52, 53, 54, 55, 56, 57, 58, 142, 143, 144, 145, 146, 147, 148, 149, 150, 151, 152, 178, 179, 180] (by decide +kernel) (by decide +kernel)
set_option maxRecDepth 20000 in
theorem gX5_ponds_X5_tellingFault : GoodIn wsX5_ponds (wsV RX5 223 RX5 yX5_tellingFault wsX5_tellingFault) := goodIn_app (goodIn_of _ (by decide +kernel)) ggX5_ponds_X5_tellingFault
set_option maxRecDepth 20000 in
theorem ggX5_ponds_X5_refuse : GoodIn wsX5_ponds wsX5_refuse := goodIn_r _ [62, 63, 26, 9, 10, 11, 142, 143, 144, 145, 146, 147, 148, 149, 150, 151, 152] (by decide +kernel) (by decide +kernel)
set_option maxRecDepth 20000 in
theorem gX5_ponds_X5_refuse : GoodIn wsX5_ponds (wsV RX5 76 RX5 yX5_refuse wsX5_refuse) := goodIn_app (goodIn_of _ (by decide +kernel)) ggX5_ponds_X5_refuse
set_option maxRecDepth 20000 in
theorem ggX5_ponds_X0_isDry : GoodIn wsX5_ponds wsX0_isDry := goodIn_r _ [67, 68, 69, 70, 71, 6, 72, 73, 164, 165, 166, 167, 168, 169, 170, 171, 172, 173, 174, 175, 176, 177] (by decide +kernel) (by decide +kernel)
set_option maxRecDepth 20000 in
theorem gX5_ponds_X0_isDry : GoodIn wsX5_ponds (wsV RX5 203 RX0 yX0_isDry wsX0_isDry) := goodIn_app (goodIn_of _ (by decide +kernel)) ggX5_ponds_X0_isDry
set_option maxRecDepth 20000 in
theorem ggX5_ponds_X4_begin : GoodIn wsX5_ponds wsX4_begin := goodIn_r _ [78, 79, 80, 81, 82, 83, 84, 85, 86, 87, 88, 89, 90, 4, 5, 6, 7, 8, 9, 10, 11, 153, 154, 155, 156, 157, 158, 159, 160, 161, 162, 163, 164, 165, 166, 167, 168, 169, 170, 171, 172, 173, 174, 175, 176, 177] (by decide +kernel) (by decide +kernel)
set_option maxRecDepth 20000 in
theorem gX5_ponds_X4_begin : GoodIn wsX5_ponds (wsV RX5 136 RX4 yX4_begin wsX4_begin) := goodIn_app (goodIn_of _ (by decide +kernel)) ggX5_ponds_X4_begin
set_option maxRecDepth 20000 in
theorem ggX5_ponds_X5_follow : GoodIn wsX5_ponds wsX5_follow := goodIn_r _ [94, 20, 95, 96, 97, 24, 98, 58, 99, 100, 101, 77, 102, 85, 103, 104, 105, 106, 86, 107, 108, 109, 110, 79, 83, 84, 111, 112, 113, 6, 114, 115, 116, 73, 117, 118, 119, 120, 68, 69, 70, 71, 72, 121, 122, 123, 124, 80, 82, 87, 81, 125, 126, 127, 128, 129, 130, 131, 132, 133, 88, 89, 134, 135, 136, 137, 142, 143, 144, 145, 146, 147, 148, 149, 150, 151, 152, 178, 179, 180, 153, 154, 155, 156, 157, 158, 159, 160, 161, 162, 163, 164, 165, 166, 167, 168, 169, 170, 171, 172, 173, 174, 175, 176, 177] (by decide +kernel) (by decide +kernel)
set_option maxRecDepth 20000 in
theorem gX5_ponds_X5_follow : GoodIn wsX5_ponds (wsV RX5 227 RX5 yX5_follow wsX5_follow) := goodIn_app (goodIn_of _ (by decide +kernel)) ggX5_ponds_X5_follow
set_option maxRecDepth 20000 in
theorem ggX5_ponds_X4_isFallen : GoodIn wsX5_ponds wsX4_isFallen := goodIn_r _ [106, 86, 153, 154, 155, 156, 157, 158, 159, 160, 161, 162, 163] (by decide +kernel) (by decide +kernel)
set_option maxRecDepth 20000 in
theorem gX5_ponds_X4_isFallen : GoodIn wsX5_ponds (wsV RX5 240 RX4 yX4_isFallen wsX4_isFallen) := goodIn_app (goodIn_of _ (by decide +kernel)) ggX5_ponds_X4_isFallen
set_option maxRecDepth 20000 in
theorem ggX5_ponds_X5_asNumber : GoodIn wsX5_ponds wsX5_asNumber := goodIn_r _ [141] (by decide +kernel) (by decide +kernel)
set_option maxRecDepth 20000 in
theorem gX5_ponds_X5_asNumber : GoodIn wsX5_ponds (va_wsS RX5 161 yX5_asNumber wsX5_asNumber) := goodIn_app (goodIn_of _ (by decide +kernel)) ggX5_ponds_X5_asNumber
theorem dX5_ponds_0 : decode cX5_ponds 0 = .ok (.aload_n 0, 1) := by decide +kernel
theorem dX5_ponds_1 : decode cX5_ponds 1 = .ok (.iload_n 1, 1) := by decide +kernel
theorem dX5_ponds_2 : decode cX5_ponds 2 = .ok (.iload_n 2, 1) := by decide +kernel
theorem dX5_ponds_3 : decode cX5_ponds 3 = .ok (.aload_n 0, 1) := by decide +kernel
theorem dX5_ponds_4 : decode cX5_ponds 4 = .ok (.getfield 10, 3) := by decide +kernel
theorem dX5_ponds_7 : decode cX5_ponds 7 = .ok (.iload_n 3, 1) := by decide +kernel
theorem dX5_ponds_8 : decode cX5_ponds 8 = .ok (.invokevirtual 109, 3) := by decide +kernel
theorem dX5_ponds_11 : decode cX5_ponds 11 = .ok (.invokevirtual 223, 3) := by decide +kernel
theorem dX5_ponds_14 : decode cX5_ponds 14 = .ok (.istore 4, 2) := by decide +kernel
theorem dX5_ponds_16 : decode cX5_ponds 16 = .ok (.iload 4, 2) := by decide +kernel
theorem dX5_ponds_18 : decode cX5_ponds 18 = .ok (.ifCond .eq 10, 3) := by decide +kernel
theorem dX5_ponds_21 : decode cX5_ponds 21 = .ok (.aload_n 0, 1) := by decide +kernel
theorem dX5_ponds_22 : decode cX5_ponds 22 = .ok (.iload 4, 2) := by decide +kernel
theorem dX5_ponds_24 : decode cX5_ponds 24 = .ok (.invokevirtual 76, 3) := by decide +kernel
theorem dX5_ponds_27 : decode cX5_ponds 27 = .ok (.ireturn, 1) := by decide +kernel
theorem dX5_ponds_28 : decode cX5_ponds 28 = .ok (.iconst 0, 1) := by decide +kernel
theorem dX5_ponds_29 : decode cX5_ponds 29 = .ok (.istore 5, 2) := by decide +kernel
theorem dX5_ponds_31 : decode cX5_ponds 31 = .ok (.iconst 0, 1) := by decide +kernel
theorem dX5_ponds_32 : decode cX5_ponds 32 = .ok (.istore 6, 2) := by decide +kernel
theorem dX5_ponds_34 : decode cX5_ponds 34 = .ok (.iload 6, 2) := by decide +kernel
theorem dX5_ponds_36 : decode cX5_ponds 36 = .ok (.bipush 70, 2) := by decide +kernel
theorem dX5_ponds_38 : decode cX5_ponds 38 = .ok (.if_icmp .ge 63, 3) := by decide +kernel
theorem dX5_ponds_41 : decode cX5_ponds 41 = .ok (.aload_n 0, 1) := by decide +kernel
theorem dX5_ponds_42 : decode cX5_ponds 42 = .ok (.getfield 10, 3) := by decide +kernel
theorem dX5_ponds_45 : decode cX5_ponds 45 = .ok (.iload 6, 2) := by decide +kernel
theorem dX5_ponds_47 : decode cX5_ponds 47 = .ok (.invokevirtual 203, 3) := by decide +kernel
theorem dX5_ponds_50 : decode cX5_ponds 50 = .ok (.ifCond .eq 45, 3) := by decide +kernel
theorem dX5_ponds_53 : decode cX5_ponds 53 = .ok (.aload_n 0, 1) := by decide +kernel
theorem dX5_ponds_54 : decode cX5_ponds 54 = .ok (.getfield 41, 3) := by decide +kernel
theorem dX5_ponds_57 : decode cX5_ponds 57 = .ok (.iload_n 3, 1) := by decide +kernel
theorem dX5_ponds_58 : decode cX5_ponds 58 = .ok (.invokevirtual 136, 3) := by decide +kernel
theorem dX5_ponds_61 : decode cX5_ponds 61 = .ok (.aload_n 0, 1) := by decide +kernel
theorem dX5_ponds_62 : decode cX5_ponds 62 = .ok (.getfield 41, 3) := by decide +kernel
theorem dX5_ponds_65 : decode cX5_ponds 65 = .ok (.iload 6, 2) := by decide +kernel
theorem dX5_ponds_67 : decode cX5_ponds 67 = .ok (.putfield 231, 3) := by decide +kernel
theorem dX5_ponds_70 : decode cX5_ponds 70 = .ok (.aload_n 0, 1) := by decide +kernel
theorem dX5_ponds_71 : decode cX5_ponds 71 = .ok (.aload_n 0, 1) := by decide +kernel
theorem dX5_ponds_72 : decode cX5_ponds 72 = .ok (.getfield 41, 3) := by decide +kernel
theorem dX5_ponds_75 : decode cX5_ponds 75 = .ok (.iload_n 1, 1) := by decide +kernel
theorem dX5_ponds_76 : decode cX5_ponds 76 = .ok (.iload_n 2, 1) := by decide +kernel
theorem dX5_ponds_77 : decode cX5_ponds 77 = .ok (.invokevirtual 227, 3) := by decide +kernel
theorem dX5_ponds_80 : decode cX5_ponds 80 = .ok (.iload 5, 2) := by decide +kernel
theorem dX5_ponds_82 : decode cX5_ponds 82 = .ok (.aload_n 0, 1) := by decide +kernel
theorem dX5_ponds_83 : decode cX5_ponds 83 = .ok (.getfield 41, 3) := by decide +kernel
theorem dX5_ponds_86 : decode cX5_ponds 86 = .ok (.invokevirtual 240, 3) := by decide +kernel
theorem dX5_ponds_89 : decode cX5_ponds 89 = .ok (.invokestatic 161, 3) := by decide +kernel
theorem dX5_ponds_92 : decode cX5_ponds 92 = .ok (.iadd, 1) := by decide +kernel
theorem dX5_ponds_93 : decode cX5_ponds 93 = .ok (.istore 5, 2) := by decide +kernel
theorem dX5_ponds_95 : decode cX5_ponds 95 = .ok (.iinc 6 1, 3) := by decide +kernel
theorem dX5_ponds_98 : decode cX5_ponds 98 = .ok (.goto (-64), 3) := by decide +kernel
theorem dX5_ponds_101 : decode cX5_ponds 101 = .ok (.iload 5, 2) := by decide +kernel
theorem dX5_ponds_103 : decode cX5_ponds 103 = .ok (.ireturn, 1) := by decide +kernel
set_option maxRecDepth 20000 in
theorem ggX5_safe_X0_isOne : GoodIn wsX5_safe wsX0_isOne := goodIn_r _ [7, 8, 9, 10, 11, 126, 127, 128, 129, 130, 131, 132, 133, 134, 135, 136, 137, 138, 139] (by decide +kernel) (by decide +kernel)
set_option maxRecDepth 20000 in
theorem gX5_safe_X0_isOne : GoodIn wsX5_safe (wsV RX5 109 RX0 yX0_isOne wsX0_isOne) := goodIn_app (goodIn_of _ (by decide +kernel)) ggX5_safe_X0_isOne
set_option maxRecDepth 20000 in
theorem ggX5_safe_X0_isCell : GoodIn wsX5_safe wsX0_isCell := goodIn_r _ [15, 16, 126, 127, 128, 129, 130, 131, 132, 133, 134, 135, 136, 137, 138, 139] (by decide +kernel) (by decide +kernel)
set_option maxRecDepth 20000 in
theorem gX5_safe_X0_isCell : GoodIn wsX5_safe (wsV RX5 152 RX0 yX0_isCell wsX0_isCell) := goodIn_app (goodIn_of _ (by decide +kernel)) ggX5_safe_X0_isCell
set_option maxRecDepth 20000 in
theorem ggX5_safe_X5_isWithin : GoodIn wsX5_safe wsX5_isWithin := goodIn_r _ [11] (by decide +kernel) (by decide +kernel)
set_option maxRecDepth 20000 in
theorem gX5_safe_X5_isWithin : GoodIn wsX5_safe (va_wsS RX5 72 yX5_isWithin wsX5_isWithin) := goodIn_app (goodIn_of _ (by decide +kernel)) ggX5_safe_X5_isWithin
set_option maxRecDepth 20000 in
theorem ggX5_safe_X5_refuse : GoodIn wsX5_safe wsX5_refuse := goodIn_r _ [21, 22, 17, 9, 10, 11, 115, 116, 117, 118, 119, 120, 121, 122, 123, 124, 125] (by decide +kernel) (by decide +kernel)
set_option maxRecDepth 20000 in
theorem gX5_safe_X5_refuse : GoodIn wsX5_safe (wsV RX5 76 RX5 yX5_refuse wsX5_refuse) := goodIn_app (goodIn_of _ (by decide +kernel)) ggX5_safe_X5_refuse
set_option maxRecDepth 20000 in
theorem ggX5_safe_X2_find : GoodIn wsX5_safe wsX2_find := goodIn_r _ [27, 28, 29, 30, 31, 32, 33, 34, 35, 36, 37, 38, 39, 40, 41, 42, 43, 44, 45, 46, 47, 48, 4, 5, 6, 7, 8, 9, 10, 11, 49, 50, 26, 51, 52, 53, 54, 55, 56, 57, 58, 59, 60, 61, 62, 63, 64, 65, 66, 67, 68, 69, 70, 71, 72, 73, 74, 75, 76, 77, 78, 79, 16, 80, 81, 82, 83, 84, 85, 13, 14, 15, 86, 87, 88, 89, 90, 91, 92, 93, 94, 95, 96, 97, 98, 99, 100, 101, 102, 103, 104, 105, 140, 141, 142, 143, 144, 145, 146, 147, 148, 149, 150, 151, 152, 153, 154, 155, 126, 127, 128, 129, 130, 131, 132, 133, 134, 135, 136, 137, 138, 139] (by decide +kernel) (by decide +kernel)
set_option maxRecDepth 20000 in
theorem gX5_safe_X2_find : GoodIn wsX5_safe (wsV RX5 243 RX2 yX2_find wsX2_find) := goodIn_app (goodIn_of _ (by decide +kernel)) ggX5_safe_X2_find
set_option maxRecDepth 20000 in
theorem ggX5_safe_X2_signsTo : GoodIn wsX5_safe wsX2_signsTo := goodIn_r _ [109, 110] (by decide +kernel) (by decide +kernel)
set_option maxRecDepth 20000 in
theorem gX5_safe_X2_signsTo : GoodIn wsX5_safe (wsV RX5 246 RX2 yX2_signsTo wsX2_signsTo) := goodIn_app (goodIn_of _ (by decide +kernel)) ggX5_safe_X2_signsTo
set_option maxRecDepth 20000 in
theorem ggX5_safe_X2_signOf : GoodIn wsX5_safe wsX2_signOf := goodIn_r _ [114] (by decide +kernel) (by decide +kernel)
set_option maxRecDepth 20000 in
theorem gX5_safe_X2_signOf : GoodIn wsX5_safe (wsV RX5 249 RX2 yX2_signOf wsX2_signOf) := goodIn_app (goodIn_of _ (by decide +kernel)) ggX5_safe_X2_signOf
theorem dX5_safe_0 : decode cX5_safe 0 = .ok (.aload_n 0, 1) := by decide +kernel
theorem dX5_safe_1 : decode cX5_safe 1 = .ok (.getfield 10, 3) := by decide +kernel
theorem dX5_safe_4 : decode cX5_safe 4 = .ok (.iload_n 1, 1) := by decide +kernel
theorem dX5_safe_5 : decode cX5_safe 5 = .ok (.invokevirtual 109, 3) := by decide +kernel
theorem dX5_safe_8 : decode cX5_safe 8 = .ok (.ifCond .eq 29, 3) := by decide +kernel
theorem dX5_safe_11 : decode cX5_safe 11 = .ok (.aload_n 0, 1) := by decide +kernel
theorem dX5_safe_12 : decode cX5_safe 12 = .ok (.getfield 10, 3) := by decide +kernel
theorem dX5_safe_15 : decode cX5_safe 15 = .ok (.iload_n 2, 1) := by decide +kernel
theorem dX5_safe_16 : decode cX5_safe 16 = .ok (.invokevirtual 152, 3) := by decide +kernel
theorem dX5_safe_19 : decode cX5_safe 19 = .ok (.ifCond .eq 18, 3) := by decide +kernel
theorem dX5_safe_22 : decode cX5_safe 22 = .ok (.iload_n 3, 1) := by decide +kernel
theorem dX5_safe_23 : decode cX5_safe 23 = .ok (.iconst 0, 1) := by decide +kernel
theorem dX5_safe_24 : decode cX5_safe 24 = .ok (.iconst 1, 1) := by decide +kernel
theorem dX5_safe_25 : decode cX5_safe 25 = .ok (.invokestatic 72, 3) := by decide +kernel
theorem dX5_safe_28 : decode cX5_safe 28 = .ok (.ifCond .eq 9, 3) := by decide +kernel
theorem dX5_safe_31 : decode cX5_safe 31 = .ok (.iload 4, 2) := by decide +kernel
theorem dX5_safe_33 : decode cX5_safe 33 = .ok (.iconst (-1), 1) := by decide +kernel
theorem dX5_safe_34 : decode cX5_safe 34 = .ok (.if_icmp .ge 10, 3) := by decide +kernel
theorem dX5_safe_37 : decode cX5_safe 37 = .ok (.aload_n 0, 1) := by decide +kernel
theorem dX5_safe_38 : decode cX5_safe 38 = .ok (.bipush (-2), 2) := by decide +kernel
theorem dX5_safe_40 : decode cX5_safe 40 = .ok (.invokevirtual 76, 3) := by decide +kernel
theorem dX5_safe_43 : decode cX5_safe 43 = .ok (.ireturn, 1) := by decide +kernel
theorem dX5_safe_44 : decode cX5_safe 44 = .ok (.iload_n 3, 1) := by decide +kernel
theorem dX5_safe_45 : decode cX5_safe 45 = .ok (.ifCond .ne 7, 3) := by decide +kernel
theorem dX5_safe_48 : decode cX5_safe 48 = .ok (.iconst 0, 1) := by decide +kernel
theorem dX5_safe_49 : decode cX5_safe 49 = .ok (.goto 10, 3) := by decide +kernel
theorem dX5_safe_52 : decode cX5_safe 52 = .ok (.aload_n 0, 1) := by decide +kernel
theorem dX5_safe_53 : decode cX5_safe 53 = .ok (.getfield 10, 3) := by decide +kernel
theorem dX5_safe_56 : decode cX5_safe 56 = .ok (.getfield 180, 3) := by decide +kernel
theorem dX5_safe_59 : decode cX5_safe 59 = .ok (.istore 5, 2) := by decide +kernel
theorem dX5_safe_61 : decode cX5_safe 61 = .ok (.iload_n 3, 1) := by decide +kernel
theorem dX5_safe_62 : decode cX5_safe 62 = .ok (.ifCond .ne 7, 3) := by decide +kernel
theorem dX5_safe_65 : decode cX5_safe 65 = .ok (.iconst 1, 1) := by decide +kernel
theorem dX5_safe_66 : decode cX5_safe 66 = .ok (.goto 10, 3) := by decide +kernel
theorem dX5_safe_69 : decode cX5_safe 69 = .ok (.aload_n 0, 1) := by decide +kernel
theorem dX5_safe_70 : decode cX5_safe 70 = .ok (.getfield 10, 3) := by decide +kernel
theorem dX5_safe_73 : decode cX5_safe 73 = .ok (.getfield 180, 3) := by decide +kernel
theorem dX5_safe_76 : decode cX5_safe 76 = .ok (.istore 6, 2) := by decide +kernel
theorem dX5_safe_78 : decode cX5_safe 78 = .ok (.aload_n 0, 1) := by decide +kernel
theorem dX5_safe_79 : decode cX5_safe 79 = .ok (.getfield 53, 3) := by decide +kernel
theorem dX5_safe_82 : decode cX5_safe 82 = .ok (.iload_n 1, 1) := by decide +kernel
theorem dX5_safe_83 : decode cX5_safe 83 = .ok (.iload_n 2, 1) := by decide +kernel
theorem dX5_safe_84 : decode cX5_safe 84 = .ok (.iload 5, 2) := by decide +kernel
theorem dX5_safe_86 : decode cX5_safe 86 = .ok (.iload 6, 2) := by decide +kernel
theorem dX5_safe_88 : decode cX5_safe 88 = .ok (.invokevirtual 243, 3) := by decide +kernel
theorem dX5_safe_91 : decode cX5_safe 91 = .ok (.istore 7, 2) := by decide +kernel
theorem dX5_safe_93 : decode cX5_safe 93 = .ok (.iload 7, 2) := by decide +kernel
theorem dX5_safe_95 : decode cX5_safe 95 = .ok (.iconst (-1), 1) := by decide +kernel
theorem dX5_safe_96 : decode cX5_safe 96 = .ok (.if_icmp .ne 7, 3) := by decide +kernel
theorem dX5_safe_99 : decode cX5_safe 99 = .ok (.iconst (-1), 1) := by decide +kernel
theorem dX5_safe_100 : decode cX5_safe 100 = .ok (.goto 12, 3) := by decide +kernel
theorem dX5_safe_103 : decode cX5_safe 103 = .ok (.aload_n 0, 1) := by decide +kernel
theorem dX5_safe_104 : decode cX5_safe 104 = .ok (.getfield 53, 3) := by decide +kernel
theorem dX5_safe_107 : decode cX5_safe 107 = .ok (.iload 7, 2) := by decide +kernel
theorem dX5_safe_109 : decode cX5_safe 109 = .ok (.invokevirtual 246, 3) := by decide +kernel
theorem dX5_safe_112 : decode cX5_safe 112 = .ok (.istore 8, 2) := by decide +kernel
theorem dX5_safe_114 : decode cX5_safe 114 = .ok (.iload 4, 2) := by decide +kernel
theorem dX5_safe_116 : decode cX5_safe 116 = .ok (.iconst (-1), 1) := by decide +kernel
theorem dX5_safe_117 : decode cX5_safe 117 = .ok (.if_icmp .ne 6, 3) := by decide +kernel
theorem dX5_safe_120 : decode cX5_safe 120 = .ok (.iload 8, 2) := by decide +kernel
theorem dX5_safe_122 : decode cX5_safe 122 = .ok (.ireturn, 1) := by decide +kernel
theorem dX5_safe_123 : decode cX5_safe 123 = .ok (.iload 4, 2) := by decide +kernel
theorem dX5_safe_125 : decode cX5_safe 125 = .ok (.iload 8, 2) := by decide +kernel
theorem dX5_safe_127 : decode cX5_safe 127 = .ok (.if_icmp .ge 22, 3) := by decide +kernel
theorem dX5_safe_130 : decode cX5_safe 130 = .ok (.aload_n 0, 1) := by decide +kernel
theorem dX5_safe_131 : decode cX5_safe 131 = .ok (.getfield 53, 3) := by decide +kernel
theorem dX5_safe_134 : decode cX5_safe 134 = .ok (.iload 7, 2) := by decide +kernel
theorem dX5_safe_136 : decode cX5_safe 136 = .ok (.iload 8, 2) := by decide +kernel
theorem dX5_safe_138 : decode cX5_safe 138 = .ok (.iconst 1, 1) := by decide +kernel
theorem dX5_safe_139 : decode cX5_safe 139 = .ok (.isub, 1) := by decide +kernel
theorem dX5_safe_140 : decode cX5_safe 140 = .ok (.iload 4, 2) := by decide +kernel
theorem dX5_safe_142 : decode cX5_safe 142 = .ok (.isub, 1) := by decide +kernel
theorem dX5_safe_143 : decode cX5_safe 143 = .ok (.invokevirtual 249, 3) := by decide +kernel
theorem dX5_safe_146 : decode cX5_safe 146 = .ok (.goto 9, 3) := by decide +kernel
theorem dX5_safe_149 : decode cX5_safe 149 = .ok (.aload_n 0, 1) := by decide +kernel
theorem dX5_safe_150 : decode cX5_safe 150 = .ok (.bipush (-5), 2) := by decide +kernel
theorem dX5_safe_152 : decode cX5_safe 152 = .ok (.invokevirtual 76, 3) := by decide +kernel
theorem dX5_safe_155 : decode cX5_safe 155 = .ok (.ireturn, 1) := by decide +kernel
set_option maxRecDepth 20000 in
theorem ggX5_kinds_X0_isOne : GoodIn wsX5_kinds wsX0_isOne := goodIn_r _ [7, 8, 9, 10, 11, 157, 158, 159, 160, 161, 162, 163, 164, 165, 166, 167, 168, 169, 170] (by decide +kernel) (by decide +kernel)
set_option maxRecDepth 20000 in
theorem gX5_kinds_X0_isOne : GoodIn wsX5_kinds (wsV RX5 109 RX0 yX0_isOne wsX0_isOne) := goodIn_app (goodIn_of _ (by decide +kernel)) ggX5_kinds_X0_isOne
set_option maxRecDepth 20000 in
theorem ggX5_kinds_X0_isCell : GoodIn wsX5_kinds wsX0_isCell := goodIn_r _ [15, 16, 157, 158, 159, 160, 161, 162, 163, 164, 165, 166, 167, 168, 169, 170] (by decide +kernel) (by decide +kernel)
set_option maxRecDepth 20000 in
theorem gX5_kinds_X0_isCell : GoodIn wsX5_kinds (wsV RX5 152 RX0 yX0_isCell wsX0_isCell) := goodIn_app (goodIn_of _ (by decide +kernel)) ggX5_kinds_X0_isCell
set_option maxRecDepth 20000 in
theorem ggX5_kinds_X5_isWithin : GoodIn wsX5_kinds wsX5_isWithin := goodIn_r _ [11] (by decide +kernel) (by decide +kernel)
set_option maxRecDepth 20000 in
theorem gX5_kinds_X5_isWithin : GoodIn wsX5_kinds (va_wsS RX5 72 yX5_isWithin wsX5_isWithin) := goodIn_app (goodIn_of _ (by decide +kernel)) ggX5_kinds_X5_isWithin
set_option maxRecDepth 20000 in
theorem ggX5_kinds_X5_tellingFault : GoodIn wsX5_kinds wsX5_tellingFault := goodIn_r _ [21, 22, 23, 24, 10, 25, 26, 27, 28, 29, 30, 31, 9, 11, 17, 32, 33, 34, 35, 36, 37, 38, 39, 40, 41, 42, 43, 44, 45, 46, 47, 48, 49, 50, 51, 52, 53, 54, 55, 56, 57, 58, 59, 60, 61, 62, 63, 135, 136, 137, 138, 139, 140, 141, 142, 143, 144, 145, 171, 172, 173] (by decide +kernel) (by decide +kernel)
set_option maxRecDepth 20000 in
theorem gX5_kinds_X5_tellingFault : GoodIn wsX5_kinds (wsV RX5 223 RX5 yX5_tellingFault wsX5_tellingFault) := goodIn_app (goodIn_of _ (by decide +kernel)) ggX5_kinds_X5_tellingFault
set_option maxRecDepth 20000 in
theorem ggX5_kinds_X5_refuse : GoodIn wsX5_kinds wsX5_refuse := goodIn_r _ [67, 68, 17, 9, 10, 11, 135, 136, 137, 138, 139, 140, 141, 142, 143, 144, 145] (by decide +kernel) (by decide +kernel)
set_option maxRecDepth 20000 in
theorem gX5_kinds_X5_refuse : GoodIn wsX5_kinds (wsV RX5 76 RX5 yX5_refuse wsX5_refuse) := goodIn_app (goodIn_of _ (by decide +kernel)) ggX5_kinds_X5_refuse
set_option maxRecDepth 20000 in
theorem ggX5_kinds_X4_begin : GoodIn wsX5_kinds wsX4_begin := goodIn_r _ [73, 74, 75, 76, 77, 78, 79, 80, 81, 82, 83, 84, 85, 4, 5, 6, 7, 8, 9, 10, 11, 146, 147, 148, 149, 150, 151, 152, 153, 154, 155, 156, 157, 158, 159, 160, 161, 162, 163, 164, 165, 166, 167, 168, 169, 170] (by decide +kernel) (by decide +kernel)
set_option maxRecDepth 20000 in
theorem gX5_kinds_X4_begin : GoodIn wsX5_kinds (wsV RX5 136 RX4 yX4_begin wsX4_begin) := goodIn_app (goodIn_of _ (by decide +kernel)) ggX5_kinds_X4_begin
set_option maxRecDepth 20000 in
theorem ggX5_kinds_X5_follow : GoodIn wsX5_kinds wsX5_follow := goodIn_r _ [89, 26, 90, 91, 92, 30, 93, 63, 94, 95, 96, 72, 97, 80, 98, 99, 100, 101, 81, 102, 103, 104, 105, 74, 78, 79, 106, 107, 108, 6, 109, 110, 111, 16, 112, 113, 114, 115, 116, 117, 13, 14, 15, 118, 119, 120, 121, 75, 77, 82, 76, 122, 123, 124, 125, 126, 127, 128, 129, 130, 83, 84, 131, 132, 133, 134, 135, 136, 137, 138, 139, 140, 141, 142, 143, 144, 145, 171, 172, 173, 146, 147, 148, 149, 150, 151, 152, 153, 154, 155, 156, 157, 158, 159, 160, 161, 162, 163, 164, 165, 166, 167, 168, 169, 170] (by decide +kernel) (by decide +kernel)
set_option maxRecDepth 20000 in
theorem gX5_kinds_X5_follow : GoodIn wsX5_kinds (wsV RX5 227 RX5 yX5_follow wsX5_follow) := goodIn_app (goodIn_of _ (by decide +kernel)) ggX5_kinds_X5_follow
theorem dX5_kinds_0 : decode cX5_kinds 0 = .ok (.aload_n 0, 1) := by decide +kernel
theorem dX5_kinds_1 : decode cX5_kinds 1 = .ok (.iload_n 1, 1) := by decide +kernel
theorem dX5_kinds_2 : decode cX5_kinds 2 = .ok (.iload_n 2, 1) := by decide +kernel
theorem dX5_kinds_3 : decode cX5_kinds 3 = .ok (.aload_n 0, 1) := by decide +kernel
theorem dX5_kinds_4 : decode cX5_kinds 4 = .ok (.getfield 10, 3) := by decide +kernel
theorem dX5_kinds_7 : decode cX5_kinds 7 = .ok (.iload_n 3, 1) := by decide +kernel
theorem dX5_kinds_8 : decode cX5_kinds 8 = .ok (.invokevirtual 109, 3) := by decide +kernel
theorem dX5_kinds_11 : decode cX5_kinds 11 = .ok (.ifCond .eq 29, 3) := by decide +kernel
theorem dX5_kinds_14 : decode cX5_kinds 14 = .ok (.aload_n 0, 1) := by decide +kernel
theorem dX5_kinds_15 : decode cX5_kinds 15 = .ok (.getfield 10, 3) := by decide +kernel
theorem dX5_kinds_18 : decode cX5_kinds 18 = .ok (.iload 4, 2) := by decide +kernel
theorem dX5_kinds_20 : decode cX5_kinds 20 = .ok (.invokevirtual 152, 3) := by decide +kernel
theorem dX5_kinds_23 : decode cX5_kinds 23 = .ok (.ifCond .eq 17, 3) := by decide +kernel
theorem dX5_kinds_26 : decode cX5_kinds 26 = .ok (.iload 5, 2) := by decide +kernel
theorem dX5_kinds_28 : decode cX5_kinds 28 = .ok (.iconst 0, 1) := by decide +kernel
theorem dX5_kinds_29 : decode cX5_kinds 29 = .ok (.iconst 1, 1) := by decide +kernel
theorem dX5_kinds_30 : decode cX5_kinds 30 = .ok (.invokestatic 72, 3) := by decide +kernel
theorem dX5_kinds_33 : decode cX5_kinds 33 = .ok (.ifCond .eq 7, 3) := by decide +kernel
theorem dX5_kinds_36 : decode cX5_kinds 36 = .ok (.iconst 1, 1) := by decide +kernel
theorem dX5_kinds_37 : decode cX5_kinds 37 = .ok (.goto 4, 3) := by decide +kernel
theorem dX5_kinds_40 : decode cX5_kinds 40 = .ok (.iconst 0, 1) := by decide +kernel
theorem dX5_kinds_41 : decode cX5_kinds 41 = .ok (.invokevirtual 223, 3) := by decide +kernel
theorem dX5_kinds_44 : decode cX5_kinds 44 = .ok (.istore 6, 2) := by decide +kernel
theorem dX5_kinds_46 : decode cX5_kinds 46 = .ok (.iload 6, 2) := by decide +kernel
theorem dX5_kinds_48 : decode cX5_kinds 48 = .ok (.ifCond .eq 10, 3) := by decide +kernel
theorem dX5_kinds_51 : decode cX5_kinds 51 = .ok (.aload_n 0, 1) := by decide +kernel
theorem dX5_kinds_52 : decode cX5_kinds 52 = .ok (.iload 6, 2) := by decide +kernel
theorem dX5_kinds_54 : decode cX5_kinds 54 = .ok (.invokevirtual 76, 3) := by decide +kernel
theorem dX5_kinds_57 : decode cX5_kinds 57 = .ok (.ireturn, 1) := by decide +kernel
theorem dX5_kinds_58 : decode cX5_kinds 58 = .ok (.iconst 0, 1) := by decide +kernel
theorem dX5_kinds_59 : decode cX5_kinds 59 = .ok (.istore 7, 2) := by decide +kernel
theorem dX5_kinds_61 : decode cX5_kinds 61 = .ok (.iconst 0, 1) := by decide +kernel
theorem dX5_kinds_62 : decode cX5_kinds 62 = .ok (.istore 8, 2) := by decide +kernel
theorem dX5_kinds_64 : decode cX5_kinds 64 = .ok (.iload 8, 2) := by decide +kernel
theorem dX5_kinds_66 : decode cX5_kinds 66 = .ok (.iload 5, 2) := by decide +kernel
theorem dX5_kinds_68 : decode cX5_kinds 68 = .ok (.ifCond .ne 8, 3) := by decide +kernel
theorem dX5_kinds_71 : decode cX5_kinds 71 = .ok (.bipush 6, 2) := by decide +kernel
theorem dX5_kinds_73 : decode cX5_kinds 73 = .ok (.goto 4, 3) := by decide +kernel
theorem dX5_kinds_76 : decode cX5_kinds 76 = .ok (.iconst 2, 1) := by decide +kernel
theorem dX5_kinds_77 : decode cX5_kinds 77 = .ok (.if_icmp .ge 74, 3) := by decide +kernel
theorem dX5_kinds_80 : decode cX5_kinds 80 = .ok (.aload_n 0, 1) := by decide +kernel
theorem dX5_kinds_81 : decode cX5_kinds 81 = .ok (.getfield 41, 3) := by decide +kernel
theorem dX5_kinds_84 : decode cX5_kinds 84 = .ok (.iload_n 3, 1) := by decide +kernel
theorem dX5_kinds_85 : decode cX5_kinds 85 = .ok (.invokevirtual 136, 3) := by decide +kernel
theorem dX5_kinds_88 : decode cX5_kinds 88 = .ok (.iload 5, 2) := by decide +kernel
theorem dX5_kinds_90 : decode cX5_kinds 90 = .ok (.ifCond .ne 15, 3) := by decide +kernel
theorem dX5_kinds_93 : decode cX5_kinds 93 = .ok (.aload_n 0, 1) := by decide +kernel
theorem dX5_kinds_94 : decode cX5_kinds 94 = .ok (.getfield 41, 3) := by decide +kernel
theorem dX5_kinds_97 : decode cX5_kinds 97 = .ok (.iload 8, 2) := by decide +kernel
theorem dX5_kinds_99 : decode cX5_kinds 99 = .ok (.putfield 252, 3) := by decide +kernel
theorem dX5_kinds_102 : decode cX5_kinds 102 = .ok (.goto 12, 3) := by decide +kernel
theorem dX5_kinds_105 : decode cX5_kinds 105 = .ok (.aload_n 0, 1) := by decide +kernel
theorem dX5_kinds_106 : decode cX5_kinds 106 = .ok (.getfield 41, 3) := by decide +kernel
theorem dX5_kinds_109 : decode cX5_kinds 109 = .ok (.iload 8, 2) := by decide +kernel
theorem dX5_kinds_111 : decode cX5_kinds 111 = .ok (.putfield 255, 3) := by decide +kernel
theorem dX5_kinds_114 : decode cX5_kinds 114 = .ok (.aload_n 0, 1) := by decide +kernel
theorem dX5_kinds_115 : decode cX5_kinds 115 = .ok (.aload_n 0, 1) := by decide +kernel
theorem dX5_kinds_116 : decode cX5_kinds 116 = .ok (.getfield 41, 3) := by decide +kernel
theorem dX5_kinds_119 : decode cX5_kinds 119 = .ok (.iload_n 1, 1) := by decide +kernel
theorem dX5_kinds_120 : decode cX5_kinds 120 = .ok (.iload_n 2, 1) := by decide +kernel
theorem dX5_kinds_121 : decode cX5_kinds 121 = .ok (.invokevirtual 227, 3) := by decide +kernel
theorem dX5_kinds_124 : decode cX5_kinds 124 = .ok (.aload_n 0, 1) := by decide +kernel
theorem dX5_kinds_125 : decode cX5_kinds 125 = .ok (.getfield 41, 3) := by decide +kernel
theorem dX5_kinds_128 : decode cX5_kinds 128 = .ok (.getfield 231, 3) := by decide +kernel
theorem dX5_kinds_131 : decode cX5_kinds 131 = .ok (.iload 4, 2) := by decide +kernel
theorem dX5_kinds_133 : decode cX5_kinds 133 = .ok (.if_icmp .ne 12, 3) := by decide +kernel
theorem dX5_kinds_136 : decode cX5_kinds 136 = .ok (.iload 7, 2) := by decide +kernel
theorem dX5_kinds_138 : decode cX5_kinds 138 = .ok (.iconst 1, 1) := by decide +kernel
theorem dX5_kinds_139 : decode cX5_kinds 139 = .ok (.iload 8, 2) := by decide +kernel
theorem dX5_kinds_141 : decode cX5_kinds 141 = .ok (.ishl, 1) := by decide +kernel
theorem dX5_kinds_142 : decode cX5_kinds 142 = .ok (.ior, 1) := by decide +kernel
theorem dX5_kinds_143 : decode cX5_kinds 143 = .ok (.istore 7, 2) := by decide +kernel
theorem dX5_kinds_145 : decode cX5_kinds 145 = .ok (.iinc 8 1, 3) := by decide +kernel
theorem dX5_kinds_148 : decode cX5_kinds 148 = .ok (.goto (-84), 3) := by decide +kernel
theorem dX5_kinds_151 : decode cX5_kinds 151 = .ok (.iload 7, 2) := by decide +kernel
theorem dX5_kinds_153 : decode cX5_kinds 153 = .ok (.ireturn, 1) := by decide +kernel
set_option maxRecDepth 20000 in
theorem ggX5_who_X0_isCell : GoodIn wsX5_who wsX0_isCell := goodIn_r _ [7, 8, 150, 151, 152, 153, 154, 155, 156, 157, 158, 159, 160, 161, 162, 163] (by decide +kernel) (by decide +kernel)
set_option maxRecDepth 20000 in
theorem gX5_who_X0_isCell : GoodIn wsX5_who (wsV RX5 152 RX0 yX0_isCell wsX0_isCell) := goodIn_app (goodIn_of _ (by decide +kernel)) ggX5_who_X0_isCell
set_option maxRecDepth 20000 in
theorem ggX5_who_X5_tellingFault : GoodIn wsX5_who wsX5_tellingFault := goodIn_r _ [13, 14, 15, 16, 12, 17, 18, 19, 20, 21, 22, 23, 24, 25, 26, 27, 28, 29, 30, 31, 32, 33, 34, 35, 36, 37, 38, 39, 40, 41, 42, 43, 44, 45, 46, 47, 48, 49, 50, 51, 52, 53, 54, 55, 56, 57, 58, 139, 140, 141, 142, 143, 144, 145, 146, 147, 148, 149, 164, 165, 166] (by decide +kernel) (by decide +kernel)
set_option maxRecDepth 20000 in
theorem gX5_who_X5_tellingFault : GoodIn wsX5_who (wsV RX5 223 RX5 yX5_tellingFault wsX5_tellingFault) := goodIn_app (goodIn_of _ (by decide +kernel)) ggX5_who_X5_tellingFault
set_option maxRecDepth 20000 in
theorem ggX5_who_X5_refuse : GoodIn wsX5_who wsX5_refuse := goodIn_r _ [62, 63, 26, 24, 12, 25, 139, 140, 141, 142, 143, 144, 145, 146, 147, 148, 149] (by decide +kernel) (by decide +kernel)
set_option maxRecDepth 20000 in
theorem gX5_who_X5_refuse : GoodIn wsX5_who (wsV RX5 76 RX5 yX5_refuse wsX5_refuse) := goodIn_app (goodIn_of _ (by decide +kernel)) ggX5_who_X5_refuse
set_option maxRecDepth 20000 in
theorem ggX5_who_X5_allComeOut : GoodIn wsX5_who wsX5_allComeOut := goodIn_r _ [67, 1, 68, 2, 69, 70, 71, 72, 73, 74, 75, 76, 77, 78, 79, 80, 81, 82, 83, 84, 85, 86, 87, 6, 88, 89, 24, 12, 25, 90, 91, 92, 93, 18, 94, 95, 96, 22, 97, 58, 98, 99, 100, 101, 102, 103, 104, 105, 106, 107, 108, 109, 110, 111, 112, 113, 114, 115, 8, 116, 117, 118, 119, 120, 121, 4, 5, 7, 122, 123, 124, 125, 126, 127, 128, 129, 130, 131, 132, 133, 134, 135, 136, 137, 138, 139, 140, 141, 142, 143, 144, 145, 146, 147, 148, 149, 150, 151, 152, 153, 154, 155, 156, 157, 158, 159, 160, 161, 162, 163, 167, 168, 169, 170, 171, 172, 173, 174, 175, 176, 177, 164, 165, 166] (by decide +kernel) (by decide +kernel)
set_option maxRecDepth 20000 in
theorem gX5_who_X5_allComeOut : GoodIn wsX5_who (wsV RX5 256 RX5 yX5_allComeOut wsX5_allComeOut) := goodIn_app (goodIn_of _ (by decide +kernel)) ggX5_who_X5_allComeOut
theorem dX5_who_0 : decode cX5_who 0 = .ok (.aload_n 0, 1) := by decide +kernel
theorem dX5_who_1 : decode cX5_who 1 = .ok (.iload_n 1, 1) := by decide +kernel
theorem dX5_who_2 : decode cX5_who 2 = .ok (.iload_n 2, 1) := by decide +kernel
theorem dX5_who_3 : decode cX5_who 3 = .ok (.aload_n 0, 1) := by decide +kernel
theorem dX5_who_4 : decode cX5_who 4 = .ok (.getfield 10, 3) := by decide +kernel
theorem dX5_who_7 : decode cX5_who 7 = .ok (.iload_n 3, 1) := by decide +kernel
theorem dX5_who_8 : decode cX5_who 8 = .ok (.invokevirtual 152, 3) := by decide +kernel
theorem dX5_who_11 : decode cX5_who 11 = .ok (.invokevirtual 223, 3) := by decide +kernel
theorem dX5_who_14 : decode cX5_who 14 = .ok (.istore 4, 2) := by decide +kernel
theorem dX5_who_16 : decode cX5_who 16 = .ok (.iload 4, 2) := by decide +kernel
theorem dX5_who_18 : decode cX5_who 18 = .ok (.ifCond .eq 10, 3) := by decide +kernel
theorem dX5_who_21 : decode cX5_who 21 = .ok (.aload_n 0, 1) := by decide +kernel
theorem dX5_who_22 : decode cX5_who 22 = .ok (.iload 4, 2) := by decide +kernel
theorem dX5_who_24 : decode cX5_who 24 = .ok (.invokevirtual 76, 3) := by decide +kernel
theorem dX5_who_27 : decode cX5_who 27 = .ok (.ireturn, 1) := by decide +kernel
theorem dX5_who_28 : decode cX5_who 28 = .ok (.aload_n 0, 1) := by decide +kernel
theorem dX5_who_29 : decode cX5_who 29 = .ok (.iload_n 1, 1) := by decide +kernel
theorem dX5_who_30 : decode cX5_who 30 = .ok (.iload_n 2, 1) := by decide +kernel
theorem dX5_who_31 : decode cX5_who 31 = .ok (.invokevirtual 256, 3) := by decide +kernel
theorem dX5_who_34 : decode cX5_who 34 = .ok (.iconst 0, 1) := by decide +kernel
theorem dX5_who_35 : decode cX5_who 35 = .ok (.istore 5, 2) := by decide +kernel
theorem dX5_who_37 : decode cX5_who 37 = .ok (.iconst 0, 1) := by decide +kernel
theorem dX5_who_38 : decode cX5_who 38 = .ok (.istore 6, 2) := by decide +kernel
theorem dX5_who_40 : decode cX5_who 40 = .ok (.iload 6, 2) := by decide +kernel
theorem dX5_who_42 : decode cX5_who 42 = .ok (.aload_n 0, 1) := by decide +kernel
theorem dX5_who_43 : decode cX5_who 43 = .ok (.getfield 10, 3) := by decide +kernel
theorem dX5_who_46 : decode cX5_who 46 = .ok (.getfield 237, 3) := by decide +kernel
theorem dX5_who_49 : decode cX5_who 49 = .ok (.if_icmp .ge 29, 3) := by decide +kernel
theorem dX5_who_52 : decode cX5_who 52 = .ok (.aload_n 0, 1) := by decide +kernel
theorem dX5_who_53 : decode cX5_who 53 = .ok (.getfield 57, 3) := by decide +kernel
theorem dX5_who_56 : decode cX5_who 56 = .ok (.iload 6, 2) := by decide +kernel
theorem dX5_who_58 : decode cX5_who 58 = .ok (.iaload, 1) := by decide +kernel
theorem dX5_who_59 : decode cX5_who 59 = .ok (.iload_n 3, 1) := by decide +kernel
theorem dX5_who_60 : decode cX5_who 60 = .ok (.if_icmp .ne 12, 3) := by decide +kernel
theorem dX5_who_63 : decode cX5_who 63 = .ok (.iload 5, 2) := by decide +kernel
theorem dX5_who_65 : decode cX5_who 65 = .ok (.iconst 1, 1) := by decide +kernel
theorem dX5_who_66 : decode cX5_who 66 = .ok (.iload 6, 2) := by decide +kernel
theorem dX5_who_68 : decode cX5_who 68 = .ok (.ishl, 1) := by decide +kernel
theorem dX5_who_69 : decode cX5_who 69 = .ok (.ior, 1) := by decide +kernel
theorem dX5_who_70 : decode cX5_who 70 = .ok (.istore 5, 2) := by decide +kernel
theorem dX5_who_72 : decode cX5_who 72 = .ok (.iinc 6 1, 3) := by decide +kernel
theorem dX5_who_75 : decode cX5_who 75 = .ok (.goto (-35), 3) := by decide +kernel
theorem dX5_who_78 : decode cX5_who 78 = .ok (.iload 5, 2) := by decide +kernel
theorem dX5_who_80 : decode cX5_who 80 = .ok (.ireturn, 1) := by decide +kernel
set_option maxRecDepth 20000 in
theorem ggX5_crowd_X5_isWithin : GoodIn wsX5_crowd wsX5_isWithin := goodIn_r _ [6] (by decide +kernel) (by decide +kernel)
set_option maxRecDepth 20000 in
theorem gX5_crowd_X5_isWithin : GoodIn wsX5_crowd (va_wsS RX5 72 yX5_isWithin wsX5_isWithin) := goodIn_app (goodIn_of _ (by decide +kernel)) ggX5_crowd_X5_isWithin
set_option maxRecDepth 20000 in
theorem ggX5_crowd_X5_tellingFault : GoodIn wsX5_crowd wsX5_tellingFault := goodIn_r _ [10, 11, 12, 13, 5, 14, 15, 16, 17, 18, 19, 20, 4, 6, 3, 21, 22, 23, 24, 25, 26, 27, 28, 29, 30, 31, 32, 33, 34, 35, 36, 37, 38, 39, 40, 41, 42, 43, 44, 45, 46, 47, 48, 49, 50, 51, 52, 145, 146, 147, 148, 149, 150, 151, 152, 153, 154, 155, 170, 171, 172] (by decide +kernel) (by decide +kernel)
set_option maxRecDepth 20000 in
theorem gX5_crowd_X5_tellingFault : GoodIn wsX5_crowd (wsV RX5 223 RX5 yX5_tellingFault wsX5_tellingFault) := goodIn_app (goodIn_of _ (by decide +kernel)) ggX5_crowd_X5_tellingFault
set_option maxRecDepth 20000 in
theorem ggX5_crowd_X5_refuse : GoodIn wsX5_crowd wsX5_refuse := goodIn_r _ [56, 57, 3, 4, 5, 6, 145, 146, 147, 148, 149, 150, 151, 152, 153, 154, 155] (by decide +kernel) (by decide +kernel)
set_option maxRecDepth 20000 in
theorem gX5_crowd_X5_refuse : GoodIn wsX5_crowd (wsV RX5 76 RX5 yX5_refuse wsX5_refuse) := goodIn_app (goodIn_of _ (by decide +kernel)) ggX5_crowd_X5_refuse
set_option maxRecDepth 20000 in
theorem ggX5_crowd_X5_allComeOut : GoodIn wsX5_crowd wsX5_allComeOut := goodIn_r _ [61, 1, 62, 2, 63, 64, 65, 66, 67, 68, 69, 70, 71, 72, 73, 74, 75, 76, 77, 78, 79, 80, 81, 82, 83, 84, 4, 5, 6, 85, 86, 87, 88, 15, 89, 90, 91, 19, 92, 52, 93, 94, 95, 96, 97, 98, 99, 100, 101, 102, 103, 104, 105, 106, 107, 108, 109, 110, 111, 112, 113, 114, 115, 116, 117, 118, 119, 120, 121, 122, 123, 124, 125, 126, 127, 128, 129, 130, 131, 132, 133, 134, 135, 136, 137, 145, 146, 147, 148, 149, 150, 151, 152, 153, 154, 155, 156, 157, 158, 159, 160, 161, 162, 163, 164, 165, 166, 167, 168, 169, 173, 174, 175, 176, 177, 178, 179, 180, 181, 182, 183, 170, 171, 172] (by decide +kernel) (by decide +kernel)
set_option maxRecDepth 20000 in
theorem gX5_crowd_X5_allComeOut : GoodIn wsX5_crowd (wsV RX5 256 RX5 yX5_allComeOut wsX5_allComeOut) := goodIn_app (goodIn_of _ (by decide +kernel)) ggX5_crowd_X5_allComeOut
set_option maxRecDepth 20000 in
theorem ggX5_crowd_X5_howManyOutIn : GoodIn wsX5_crowd wsX5_howManyOutIn := goodIn_r _ [141, 1, 2, 142, 143, 5, 144, 145, 146, 147, 148, 149, 150, 151, 152, 153, 154, 155, 156, 157, 158, 159, 160, 161, 162, 163, 164, 165, 166, 167, 168, 169] (by decide +kernel) (by decide +kernel)
set_option maxRecDepth 20000 in
theorem gX5_crowd_X5_howManyOutIn : GoodIn wsX5_crowd (wsV RX5 259 RX5 yX5_howManyOutIn wsX5_howManyOutIn) := goodIn_app (goodIn_of _ (by decide +kernel)) ggX5_crowd_X5_howManyOutIn
theorem dX5_crowd_0 : decode cX5_crowd 0 = .ok (.aload_n 0, 1) := by decide +kernel
theorem dX5_crowd_1 : decode cX5_crowd 1 = .ok (.iload_n 1, 1) := by decide +kernel
theorem dX5_crowd_2 : decode cX5_crowd 2 = .ok (.iload_n 2, 1) := by decide +kernel
theorem dX5_crowd_3 : decode cX5_crowd 3 = .ok (.iload_n 3, 1) := by decide +kernel
theorem dX5_crowd_4 : decode cX5_crowd 4 = .ok (.iconst 0, 1) := by decide +kernel
theorem dX5_crowd_5 : decode cX5_crowd 5 = .ok (.iconst 1, 1) := by decide +kernel
theorem dX5_crowd_6 : decode cX5_crowd 6 = .ok (.invokestatic 72, 3) := by decide +kernel
theorem dX5_crowd_9 : decode cX5_crowd 9 = .ok (.invokevirtual 223, 3) := by decide +kernel
theorem dX5_crowd_12 : decode cX5_crowd 12 = .ok (.istore 4, 2) := by decide +kernel
theorem dX5_crowd_14 : decode cX5_crowd 14 = .ok (.iload 4, 2) := by decide +kernel
theorem dX5_crowd_16 : decode cX5_crowd 16 = .ok (.ifCond .eq 10, 3) := by decide +kernel
theorem dX5_crowd_19 : decode cX5_crowd 19 = .ok (.aload_n 0, 1) := by decide +kernel
theorem dX5_crowd_20 : decode cX5_crowd 20 = .ok (.iload 4, 2) := by decide +kernel
theorem dX5_crowd_22 : decode cX5_crowd 22 = .ok (.invokevirtual 76, 3) := by decide +kernel
theorem dX5_crowd_25 : decode cX5_crowd 25 = .ok (.ireturn, 1) := by decide +kernel
theorem dX5_crowd_26 : decode cX5_crowd 26 = .ok (.aload_n 0, 1) := by decide +kernel
theorem dX5_crowd_27 : decode cX5_crowd 27 = .ok (.getfield 10, 3) := by decide +kernel
theorem dX5_crowd_30 : decode cX5_crowd 30 = .ok (.getfield 237, 3) := by decide +kernel
theorem dX5_crowd_33 : decode cX5_crowd 33 = .ok (.ifCond .ne 10, 3) := by decide +kernel
theorem dX5_crowd_36 : decode cX5_crowd 36 = .ok (.aload_n 0, 1) := by decide +kernel
theorem dX5_crowd_37 : decode cX5_crowd 37 = .ok (.bipush (-5), 2) := by decide +kernel
theorem dX5_crowd_39 : decode cX5_crowd 39 = .ok (.invokevirtual 76, 3) := by decide +kernel
theorem dX5_crowd_42 : decode cX5_crowd 42 = .ok (.ireturn, 1) := by decide +kernel
theorem dX5_crowd_43 : decode cX5_crowd 43 = .ok (.aload_n 0, 1) := by decide +kernel
theorem dX5_crowd_44 : decode cX5_crowd 44 = .ok (.iload_n 1, 1) := by decide +kernel
theorem dX5_crowd_45 : decode cX5_crowd 45 = .ok (.iload_n 2, 1) := by decide +kernel
theorem dX5_crowd_46 : decode cX5_crowd 46 = .ok (.invokevirtual 256, 3) := by decide +kernel
theorem dX5_crowd_49 : decode cX5_crowd 49 = .ok (.bipush 70, 2) := by decide +kernel
theorem dX5_crowd_51 : decode cX5_crowd 51 = .ok (.istore 5, 2) := by decide +kernel
theorem dX5_crowd_53 : decode cX5_crowd 53 = .ok (.iconst 0, 1) := by decide +kernel
theorem dX5_crowd_54 : decode cX5_crowd 54 = .ok (.istore 6, 2) := by decide +kernel
theorem dX5_crowd_56 : decode cX5_crowd 56 = .ok (.iconst 0, 1) := by decide +kernel
theorem dX5_crowd_57 : decode cX5_crowd 57 = .ok (.istore 7, 2) := by decide +kernel
theorem dX5_crowd_59 : decode cX5_crowd 59 = .ok (.iload 7, 2) := by decide +kernel
theorem dX5_crowd_61 : decode cX5_crowd 61 = .ok (.aload_n 0, 1) := by decide +kernel
theorem dX5_crowd_62 : decode cX5_crowd 62 = .ok (.getfield 10, 3) := by decide +kernel
theorem dX5_crowd_65 : decode cX5_crowd 65 = .ok (.getfield 237, 3) := by decide +kernel
theorem dX5_crowd_68 : decode cX5_crowd 68 = .ok (.if_icmp .ge 61, 3) := by decide +kernel
theorem dX5_crowd_71 : decode cX5_crowd 71 = .ok (.aload_n 0, 1) := by decide +kernel
theorem dX5_crowd_72 : decode cX5_crowd 72 = .ok (.aload_n 0, 1) := by decide +kernel
theorem dX5_crowd_73 : decode cX5_crowd 73 = .ok (.getfield 57, 3) := by decide +kernel
theorem dX5_crowd_76 : decode cX5_crowd 76 = .ok (.iload 7, 2) := by decide +kernel
theorem dX5_crowd_78 : decode cX5_crowd 78 = .ok (.iaload, 1) := by decide +kernel
theorem dX5_crowd_79 : decode cX5_crowd 79 = .ok (.invokevirtual 259, 3) := by decide +kernel
theorem dX5_crowd_82 : decode cX5_crowd 82 = .ok (.istore 8, 2) := by decide +kernel
theorem dX5_crowd_84 : decode cX5_crowd 84 = .ok (.iload 8, 2) := by decide +kernel
theorem dX5_crowd_86 : decode cX5_crowd 86 = .ok (.iload 6, 2) := by decide +kernel
theorem dX5_crowd_88 : decode cX5_crowd 88 = .ok (.if_icmp .gt 22, 3) := by decide +kernel
theorem dX5_crowd_91 : decode cX5_crowd 91 = .ok (.iload 8, 2) := by decide +kernel
theorem dX5_crowd_93 : decode cX5_crowd 93 = .ok (.iload 6, 2) := by decide +kernel
theorem dX5_crowd_95 : decode cX5_crowd 95 = .ok (.if_icmp .ne 28, 3) := by decide +kernel
theorem dX5_crowd_98 : decode cX5_crowd 98 = .ok (.aload_n 0, 1) := by decide +kernel
theorem dX5_crowd_99 : decode cX5_crowd 99 = .ok (.getfield 57, 3) := by decide +kernel
theorem dX5_crowd_102 : decode cX5_crowd 102 = .ok (.iload 7, 2) := by decide +kernel
theorem dX5_crowd_104 : decode cX5_crowd 104 = .ok (.iaload, 1) := by decide +kernel
theorem dX5_crowd_105 : decode cX5_crowd 105 = .ok (.iload 5, 2) := by decide +kernel
theorem dX5_crowd_107 : decode cX5_crowd 107 = .ok (.if_icmp .ge 16, 3) := by decide +kernel
theorem dX5_crowd_110 : decode cX5_crowd 110 = .ok (.iload 8, 2) := by decide +kernel
theorem dX5_crowd_112 : decode cX5_crowd 112 = .ok (.istore 6, 2) := by decide +kernel
theorem dX5_crowd_114 : decode cX5_crowd 114 = .ok (.aload_n 0, 1) := by decide +kernel
theorem dX5_crowd_115 : decode cX5_crowd 115 = .ok (.getfield 57, 3) := by decide +kernel
theorem dX5_crowd_118 : decode cX5_crowd 118 = .ok (.iload 7, 2) := by decide +kernel
theorem dX5_crowd_120 : decode cX5_crowd 120 = .ok (.iaload, 1) := by decide +kernel
theorem dX5_crowd_121 : decode cX5_crowd 121 = .ok (.istore 5, 2) := by decide +kernel
theorem dX5_crowd_123 : decode cX5_crowd 123 = .ok (.iinc 7 1, 3) := by decide +kernel
theorem dX5_crowd_126 : decode cX5_crowd 126 = .ok (.goto (-67), 3) := by decide +kernel
theorem dX5_crowd_129 : decode cX5_crowd 129 = .ok (.iload_n 3, 1) := by decide +kernel
theorem dX5_crowd_130 : decode cX5_crowd 130 = .ok (.ifCond .ne 8, 3) := by decide +kernel
theorem dX5_crowd_133 : decode cX5_crowd 133 = .ok (.iload 5, 2) := by decide +kernel
theorem dX5_crowd_135 : decode cX5_crowd 135 = .ok (.goto 5, 3) := by decide +kernel
theorem dX5_crowd_138 : decode cX5_crowd 138 = .ok (.iload 6, 2) := by decide +kernel
theorem dX5_crowd_140 : decode cX5_crowd 140 = .ok (.ireturn, 1) := by decide +kernel
set_option maxRecDepth 20000 in
theorem ggX5_firstFall_X5_tellingFault : GoodIn wsX5_firstFall wsX5_tellingFault := goodIn_r _ [7, 8, 9, 10, 6, 11, 12, 13, 14, 15, 16, 17, 18, 19, 20, 21, 22, 23, 24, 25, 26, 27, 28, 29, 30, 31, 32, 33, 34, 35, 36, 37, 38, 39, 40, 41, 42, 43, 44, 45, 46, 47, 48, 49, 50, 51, 52, 134, 135, 136, 137, 138, 139, 140, 141, 142, 143, 144, 170, 171, 172] (by decide +kernel) (by decide +kernel)
set_option maxRecDepth 20000 in
theorem gX5_firstFall_X5_tellingFault : GoodIn wsX5_firstFall (wsV RX5 223 RX5 yX5_tellingFault wsX5_tellingFault) := goodIn_app (goodIn_of _ (by decide +kernel)) ggX5_firstFall_X5_tellingFault
set_option maxRecDepth 20000 in
theorem ggX5_firstFall_X5_refuse : GoodIn wsX5_firstFall wsX5_refuse := goodIn_r _ [56, 57, 20, 18, 6, 19, 134, 135, 136, 137, 138, 139, 140, 141, 142, 143, 144] (by decide +kernel) (by decide +kernel)
set_option maxRecDepth 20000 in
theorem gX5_firstFall_X5_refuse : GoodIn wsX5_firstFall (wsV RX5 76 RX5 yX5_refuse wsX5_refuse) := goodIn_app (goodIn_of _ (by decide +kernel)) ggX5_firstFall_X5_refuse
set_option maxRecDepth 20000 in
theorem ggX5_firstFall_X4_begin : GoodIn wsX5_firstFall wsX4_begin := goodIn_r _ [62, 63, 64, 65, 66, 67, 68, 69, 70, 71, 72, 73, 74, 75, 76, 77, 78, 79, 18, 6, 19, 159, 160, 161, 162, 163, 164, 165, 166, 167, 168, 169, 145, 146, 147, 148, 149, 150, 151, 152, 153, 154, 155, 156, 157, 158] (by decide +kernel) (by decide +kernel)
set_option maxRecDepth 20000 in
theorem gX5_firstFall_X4_begin : GoodIn wsX5_firstFall (wsV RX5 136 RX4 yX4_begin wsX4_begin) := goodIn_app (goodIn_of _ (by decide +kernel)) ggX5_firstFall_X4_begin
set_option maxRecDepth 20000 in
theorem ggX5_firstFall_X5_follow : GoodIn wsX5_firstFall wsX5_follow := goodIn_r _ [83, 12, 84, 85, 86, 16, 87, 52, 88, 89, 90, 61, 91, 69, 92, 93, 94, 95, 70, 96, 97, 98, 99, 63, 67, 68, 100, 101, 102, 77, 103, 104, 105, 106, 107, 108, 109, 110, 111, 112, 113, 114, 115, 116, 117, 118, 119, 64, 66, 71, 65, 120, 121, 122, 123, 124, 125, 126, 127, 128, 72, 73, 129, 130, 131, 132, 134, 135, 136, 137, 138, 139, 140, 141, 142, 143, 144, 170, 171, 172, 159, 160, 161, 162, 163, 164, 165, 166, 167, 168, 169, 145, 146, 147, 148, 149, 150, 151, 152, 153, 154, 155, 156, 157, 158] (by decide +kernel) (by decide +kernel)
set_option maxRecDepth 20000 in
theorem gX5_firstFall_X5_follow : GoodIn wsX5_firstFall (wsV RX5 227 RX5 yX5_follow wsX5_follow) := goodIn_app (goodIn_of _ (by decide +kernel)) ggX5_firstFall_X5_follow
set_option maxRecDepth 20000 in
theorem ggX5_firstFall_X4_isFallen : GoodIn wsX5_firstFall wsX4_isFallen := goodIn_r _ [95, 70, 159, 160, 161, 162, 163, 164, 165, 166, 167, 168, 169] (by decide +kernel) (by decide +kernel)
set_option maxRecDepth 20000 in
theorem gX5_firstFall_X4_isFallen : GoodIn wsX5_firstFall (wsV RX5 240 RX4 yX4_isFallen wsX4_isFallen) := goodIn_app (goodIn_of _ (by decide +kernel)) ggX5_firstFall_X4_isFallen
theorem dX5_firstFall_0 : decode cX5_firstFall 0 = .ok (.aload_n 0, 1) := by decide +kernel
theorem dX5_firstFall_1 : decode cX5_firstFall 1 = .ok (.iload_n 1, 1) := by decide +kernel
theorem dX5_firstFall_2 : decode cX5_firstFall 2 = .ok (.iload_n 2, 1) := by decide +kernel
theorem dX5_firstFall_3 : decode cX5_firstFall 3 = .ok (.iconst 1, 1) := by decide +kernel
theorem dX5_firstFall_4 : decode cX5_firstFall 4 = .ok (.invokevirtual 223, 3) := by decide +kernel
theorem dX5_firstFall_7 : decode cX5_firstFall 7 = .ok (.istore_n 3, 1) := by decide +kernel
theorem dX5_firstFall_8 : decode cX5_firstFall 8 = .ok (.iload_n 3, 1) := by decide +kernel
theorem dX5_firstFall_9 : decode cX5_firstFall 9 = .ok (.ifCond .eq 9, 3) := by decide +kernel
theorem dX5_firstFall_12 : decode cX5_firstFall 12 = .ok (.aload_n 0, 1) := by decide +kernel
theorem dX5_firstFall_13 : decode cX5_firstFall 13 = .ok (.iload_n 3, 1) := by decide +kernel
theorem dX5_firstFall_14 : decode cX5_firstFall 14 = .ok (.invokevirtual 76, 3) := by decide +kernel
theorem dX5_firstFall_17 : decode cX5_firstFall 17 = .ok (.ireturn, 1) := by decide +kernel
theorem dX5_firstFall_18 : decode cX5_firstFall 18 = .ok (.iconst (-1), 1) := by decide +kernel
theorem dX5_firstFall_19 : decode cX5_firstFall 19 = .ok (.istore 4, 2) := by decide +kernel
theorem dX5_firstFall_21 : decode cX5_firstFall 21 = .ok (.iconst 0, 1) := by decide +kernel
theorem dX5_firstFall_22 : decode cX5_firstFall 22 = .ok (.istore 5, 2) := by decide +kernel
theorem dX5_firstFall_24 : decode cX5_firstFall 24 = .ok (.iload 5, 2) := by decide +kernel
theorem dX5_firstFall_26 : decode cX5_firstFall 26 = .ok (.aload_n 0, 1) := by decide +kernel
theorem dX5_firstFall_27 : decode cX5_firstFall 27 = .ok (.getfield 10, 3) := by decide +kernel
theorem dX5_firstFall_30 : decode cX5_firstFall 30 = .ok (.getfield 237, 3) := by decide +kernel
theorem dX5_firstFall_33 : decode cX5_firstFall 33 = .ok (.if_icmp .ge 65, 3) := by decide +kernel
theorem dX5_firstFall_36 : decode cX5_firstFall 36 = .ok (.aload_n 0, 1) := by decide +kernel
theorem dX5_firstFall_37 : decode cX5_firstFall 37 = .ok (.getfield 41, 3) := by decide +kernel
theorem dX5_firstFall_40 : decode cX5_firstFall 40 = .ok (.iload 5, 2) := by decide +kernel
theorem dX5_firstFall_42 : decode cX5_firstFall 42 = .ok (.invokevirtual 136, 3) := by decide +kernel
theorem dX5_firstFall_45 : decode cX5_firstFall 45 = .ok (.aload_n 0, 1) := by decide +kernel
theorem dX5_firstFall_46 : decode cX5_firstFall 46 = .ok (.aload_n 0, 1) := by decide +kernel
theorem dX5_firstFall_47 : decode cX5_firstFall 47 = .ok (.getfield 41, 3) := by decide +kernel
theorem dX5_firstFall_50 : decode cX5_firstFall 50 = .ok (.iload_n 1, 1) := by decide +kernel
theorem dX5_firstFall_51 : decode cX5_firstFall 51 = .ok (.iload_n 2, 1) := by decide +kernel
theorem dX5_firstFall_52 : decode cX5_firstFall 52 = .ok (.invokevirtual 227, 3) := by decide +kernel
theorem dX5_firstFall_55 : decode cX5_firstFall 55 = .ok (.aload_n 0, 1) := by decide +kernel
theorem dX5_firstFall_56 : decode cX5_firstFall 56 = .ok (.getfield 41, 3) := by decide +kernel
theorem dX5_firstFall_59 : decode cX5_firstFall 59 = .ok (.invokevirtual 240, 3) := by decide +kernel
theorem dX5_firstFall_62 : decode cX5_firstFall 62 = .ok (.ifCond .eq 30, 3) := by decide +kernel
theorem dX5_firstFall_65 : decode cX5_firstFall 65 = .ok (.iload 4, 2) := by decide +kernel
theorem dX5_firstFall_67 : decode cX5_firstFall 67 = .ok (.iconst (-1), 1) := by decide +kernel
theorem dX5_firstFall_68 : decode cX5_firstFall 68 = .ok (.if_icmp .eq 15, 3) := by decide +kernel
theorem dX5_firstFall_71 : decode cX5_firstFall 71 = .ok (.aload_n 0, 1) := by decide +kernel
theorem dX5_firstFall_72 : decode cX5_firstFall 72 = .ok (.getfield 41, 3) := by decide +kernel
theorem dX5_firstFall_75 : decode cX5_firstFall 75 = .ok (.getfield 234, 3) := by decide +kernel
theorem dX5_firstFall_78 : decode cX5_firstFall 78 = .ok (.iload 4, 2) := by decide +kernel
theorem dX5_firstFall_80 : decode cX5_firstFall 80 = .ok (.if_icmp .ge 12, 3) := by decide +kernel
theorem dX5_firstFall_83 : decode cX5_firstFall 83 = .ok (.aload_n 0, 1) := by decide +kernel
theorem dX5_firstFall_84 : decode cX5_firstFall 84 = .ok (.getfield 41, 3) := by decide +kernel
theorem dX5_firstFall_87 : decode cX5_firstFall 87 = .ok (.getfield 234, 3) := by decide +kernel
theorem dX5_firstFall_90 : decode cX5_firstFall 90 = .ok (.istore 4, 2) := by decide +kernel
theorem dX5_firstFall_92 : decode cX5_firstFall 92 = .ok (.iinc 5 1, 3) := by decide +kernel
theorem dX5_firstFall_95 : decode cX5_firstFall 95 = .ok (.goto (-71), 3) := by decide +kernel
theorem dX5_firstFall_98 : decode cX5_firstFall 98 = .ok (.iload 4, 2) := by decide +kernel
theorem dX5_firstFall_100 : decode cX5_firstFall 100 = .ok (.ireturn, 1) := by decide +kernel
set_option maxRecDepth 20000 in
theorem ggX5_alike_X0_isOne : GoodIn wsX5_alike wsX0_isOne := goodIn_r _ [8, 9, 10, 11, 12, 164, 165, 166, 167, 168, 169, 170, 171, 172, 173, 174, 175, 176, 177] (by decide +kernel) (by decide +kernel)
set_option maxRecDepth 20000 in
theorem gX5_alike_X0_isOne : GoodIn wsX5_alike (wsV RX5 109 RX0 yX0_isOne wsX0_isOne) := goodIn_app (goodIn_of _ (by decide +kernel)) ggX5_alike_X0_isOne
set_option maxRecDepth 20000 in
theorem ggX5_alike_X5_tellingFault : GoodIn wsX5_alike wsX5_tellingFault := goodIn_r _ [16, 17, 18, 19, 11, 20, 21, 22, 23, 24, 25, 26, 10, 12, 27, 28, 29, 30, 31, 32, 33, 34, 35, 36, 37, 38, 39, 40, 41, 42, 43, 44, 45, 46, 47, 48, 49, 50, 51, 52, 53, 54, 55, 56, 57, 58, 59, 142, 143, 144, 145, 146, 147, 148, 149, 150, 151, 152, 178, 179, 180] (by decide +kernel) (by decide +kernel)
set_option maxRecDepth 20000 in
theorem gX5_alike_X5_tellingFault : GoodIn wsX5_alike (wsV RX5 223 RX5 yX5_tellingFault wsX5_tellingFault) := goodIn_app (goodIn_of _ (by decide +kernel)) ggX5_alike_X5_tellingFault
set_option maxRecDepth 20000 in
theorem ggX5_alike_X5_refuse : GoodIn wsX5_alike wsX5_refuse := goodIn_r _ [63, 64, 27, 10, 11, 12, 142, 143, 144, 145, 146, 147, 148, 149, 150, 151, 152] (by decide +kernel) (by decide +kernel)
set_option maxRecDepth 20000 in
theorem gX5_alike_X5_refuse : GoodIn wsX5_alike (wsV RX5 76 RX5 yX5_refuse wsX5_refuse) := goodIn_app (goodIn_of _ (by decide +kernel)) ggX5_alike_X5_refuse
set_option maxRecDepth 20000 in
theorem ggX5_alike_X4_begin : GoodIn wsX5_alike wsX4_begin := goodIn_r _ [69, 70, 71, 72, 73, 74, 75, 76, 77, 78, 79, 80, 81, 5, 6, 7, 8, 9, 10, 11, 12, 153, 154, 155, 156, 157, 158, 159, 160, 161, 162, 163, 164, 165, 166, 167, 168, 169, 170, 171, 172, 173, 174, 175, 176, 177] (by decide +kernel) (by decide +kernel)
set_option maxRecDepth 20000 in
theorem gX5_alike_X4_begin : GoodIn wsX5_alike (wsV RX5 136 RX4 yX4_begin wsX4_begin) := goodIn_app (goodIn_of _ (by decide +kernel)) ggX5_alike_X4_begin
set_option maxRecDepth 20000 in
theorem ggX5_alike_X5_follow : GoodIn wsX5_alike wsX5_follow := goodIn_r _ [85, 21, 86, 87, 88, 25, 89, 59, 90, 91, 92, 68, 93, 76, 94, 95, 96, 97, 77, 98, 99, 100, 101, 70, 74, 75, 102, 103, 104, 7, 105, 106, 107, 108, 109, 110, 111, 112, 113, 114, 115, 116, 117, 118, 119, 120, 121, 71, 73, 78, 72, 122, 123, 124, 125, 126, 127, 128, 129, 130, 79, 80, 131, 132, 133, 134, 142, 143, 144, 145, 146, 147, 148, 149, 150, 151, 152, 178, 179, 180, 153, 154, 155, 156, 157, 158, 159, 160, 161, 162, 163, 164, 165, 166, 167, 168, 169, 170, 171, 172, 173, 174, 175, 176, 177] (by decide +kernel) (by decide +kernel)
set_option maxRecDepth 20000 in
theorem gX5_alike_X5_follow : GoodIn wsX5_alike (wsV RX5 227 RX5 yX5_follow wsX5_follow) := goodIn_app (goodIn_of _ (by decide +kernel)) ggX5_alike_X5_follow
set_option maxRecDepth 20000 in
theorem ggX5_alike_X4_standsAs : GoodIn wsX5_alike wsX4_standsAs := goodIn_r _ [138, 74, 75, 153, 154, 155, 156, 157, 158, 159, 160, 161, 162, 163] (by decide +kernel) (by decide +kernel)
set_option maxRecDepth 20000 in
theorem gX5_alike_X4_standsAs : GoodIn wsX5_alike (wsV RX5 262 RX4 yX4_standsAs wsX4_standsAs) := goodIn_app (goodIn_of _ (by decide +kernel)) ggX5_alike_X4_standsAs
set_option maxRecDepth 20000 in
theorem ggX5_alike_X5_asNumber : GoodIn wsX5_alike wsX5_asNumber := goodIn_r _ [141] (by decide +kernel) (by decide +kernel)
set_option maxRecDepth 20000 in
theorem gX5_alike_X5_asNumber : GoodIn wsX5_alike (va_wsS RX5 161 yX5_asNumber wsX5_asNumber) := goodIn_app (goodIn_of _ (by decide +kernel)) ggX5_alike_X5_asNumber
theorem dX5_alike_0 : decode cX5_alike 0 = .ok (.aload_n 0, 1) := by decide +kernel
theorem dX5_alike_1 : decode cX5_alike 1 = .ok (.iload_n 1, 1) := by decide +kernel
theorem dX5_alike_2 : decode cX5_alike 2 = .ok (.iload_n 2, 1) := by decide +kernel
theorem dX5_alike_3 : decode cX5_alike 3 = .ok (.aload_n 0, 1) := by decide +kernel
theorem dX5_alike_4 : decode cX5_alike 4 = .ok (.getfield 10, 3) := by decide +kernel
theorem dX5_alike_7 : decode cX5_alike 7 = .ok (.iload_n 3, 1) := by decide +kernel
theorem dX5_alike_8 : decode cX5_alike 8 = .ok (.invokevirtual 109, 3) := by decide +kernel
theorem dX5_alike_11 : decode cX5_alike 11 = .ok (.invokevirtual 223, 3) := by decide +kernel
theorem dX5_alike_14 : decode cX5_alike 14 = .ok (.istore 4, 2) := by decide +kernel
theorem dX5_alike_16 : decode cX5_alike 16 = .ok (.iload 4, 2) := by decide +kernel
theorem dX5_alike_18 : decode cX5_alike 18 = .ok (.ifCond .eq 10, 3) := by decide +kernel
theorem dX5_alike_21 : decode cX5_alike 21 = .ok (.aload_n 0, 1) := by decide +kernel
theorem dX5_alike_22 : decode cX5_alike 22 = .ok (.iload 4, 2) := by decide +kernel
theorem dX5_alike_24 : decode cX5_alike 24 = .ok (.invokevirtual 76, 3) := by decide +kernel
theorem dX5_alike_27 : decode cX5_alike 27 = .ok (.ireturn, 1) := by decide +kernel
theorem dX5_alike_28 : decode cX5_alike 28 = .ok (.aload_n 0, 1) := by decide +kernel
theorem dX5_alike_29 : decode cX5_alike 29 = .ok (.getfield 41, 3) := by decide +kernel
theorem dX5_alike_32 : decode cX5_alike 32 = .ok (.iload_n 3, 1) := by decide +kernel
theorem dX5_alike_33 : decode cX5_alike 33 = .ok (.invokevirtual 136, 3) := by decide +kernel
theorem dX5_alike_36 : decode cX5_alike 36 = .ok (.aload_n 0, 1) := by decide +kernel
theorem dX5_alike_37 : decode cX5_alike 37 = .ok (.getfield 41, 3) := by decide +kernel
theorem dX5_alike_40 : decode cX5_alike 40 = .ok (.iconst 0, 1) := by decide +kernel
theorem dX5_alike_41 : decode cX5_alike 41 = .ok (.putfield 255, 3) := by decide +kernel
theorem dX5_alike_44 : decode cX5_alike 44 = .ok (.aload_n 0, 1) := by decide +kernel
theorem dX5_alike_45 : decode cX5_alike 45 = .ok (.aload_n 0, 1) := by decide +kernel
theorem dX5_alike_46 : decode cX5_alike 46 = .ok (.getfield 41, 3) := by decide +kernel
theorem dX5_alike_49 : decode cX5_alike 49 = .ok (.iload_n 1, 1) := by decide +kernel
theorem dX5_alike_50 : decode cX5_alike 50 = .ok (.iload_n 2, 1) := by decide +kernel
theorem dX5_alike_51 : decode cX5_alike 51 = .ok (.invokevirtual 227, 3) := by decide +kernel
theorem dX5_alike_54 : decode cX5_alike 54 = .ok (.aload_n 0, 1) := by decide +kernel
theorem dX5_alike_55 : decode cX5_alike 55 = .ok (.getfield 45, 3) := by decide +kernel
theorem dX5_alike_58 : decode cX5_alike 58 = .ok (.iload_n 3, 1) := by decide +kernel
theorem dX5_alike_59 : decode cX5_alike 59 = .ok (.invokevirtual 136, 3) := by decide +kernel
theorem dX5_alike_62 : decode cX5_alike 62 = .ok (.aload_n 0, 1) := by decide +kernel
theorem dX5_alike_63 : decode cX5_alike 63 = .ok (.getfield 45, 3) := by decide +kernel
theorem dX5_alike_66 : decode cX5_alike 66 = .ok (.iconst 1, 1) := by decide +kernel
theorem dX5_alike_67 : decode cX5_alike 67 = .ok (.putfield 255, 3) := by decide +kernel
theorem dX5_alike_70 : decode cX5_alike 70 = .ok (.aload_n 0, 1) := by decide +kernel
theorem dX5_alike_71 : decode cX5_alike 71 = .ok (.aload_n 0, 1) := by decide +kernel
theorem dX5_alike_72 : decode cX5_alike 72 = .ok (.getfield 45, 3) := by decide +kernel
theorem dX5_alike_75 : decode cX5_alike 75 = .ok (.iload_n 1, 1) := by decide +kernel
theorem dX5_alike_76 : decode cX5_alike 76 = .ok (.iload_n 2, 1) := by decide +kernel
theorem dX5_alike_77 : decode cX5_alike 77 = .ok (.invokevirtual 227, 3) := by decide +kernel
theorem dX5_alike_80 : decode cX5_alike 80 = .ok (.aload_n 0, 1) := by decide +kernel
theorem dX5_alike_81 : decode cX5_alike 81 = .ok (.getfield 41, 3) := by decide +kernel
theorem dX5_alike_84 : decode cX5_alike 84 = .ok (.aload_n 0, 1) := by decide +kernel
theorem dX5_alike_85 : decode cX5_alike 85 = .ok (.getfield 45, 3) := by decide +kernel
theorem dX5_alike_88 : decode cX5_alike 88 = .ok (.getfield 231, 3) := by decide +kernel
theorem dX5_alike_91 : decode cX5_alike 91 = .ok (.aload_n 0, 1) := by decide +kernel
theorem dX5_alike_92 : decode cX5_alike 92 = .ok (.getfield 45, 3) := by decide +kernel
theorem dX5_alike_95 : decode cX5_alike 95 = .ok (.getfield 142, 3) := by decide +kernel
theorem dX5_alike_98 : decode cX5_alike 98 = .ok (.invokevirtual 262, 3) := by decide +kernel
theorem dX5_alike_101 : decode cX5_alike 101 = .ok (.invokestatic 161, 3) := by decide +kernel
theorem dX5_alike_104 : decode cX5_alike 104 = .ok (.ireturn, 1) := by decide +kernel
set_option maxRecDepth 20000 in
theorem ggX5_differ_X5_arePair : GoodIn wsX5_differ wsX5_arePair := goodIn_r _ [8, 9, 10, 11, 12, 13, 14, 15, 16, 7, 17, 139, 140, 141, 142, 143, 144, 145, 146, 147, 148, 149, 161, 162, 163, 164, 165, 166, 167, 168, 169, 170, 171, 172, 173, 174] (by decide +kernel) (by decide +kernel)
set_option maxRecDepth 20000 in
theorem gX5_differ_X5_arePair : GoodIn wsX5_differ (wsV RX5 265 RX5 yX5_arePair wsX5_arePair) := goodIn_app (goodIn_of _ (by decide +kernel)) ggX5_differ_X5_arePair
set_option maxRecDepth 20000 in
theorem ggX5_differ_X5_tellingFault : GoodIn wsX5_differ wsX5_tellingFault := goodIn_r _ [21, 22, 23, 24, 7, 25, 3, 26, 27, 28, 29, 30, 16, 17, 31, 32, 33, 34, 35, 36, 37, 38, 39, 40, 41, 42, 43, 44, 45, 46, 47, 48, 49, 50, 51, 52, 53, 54, 55, 56, 57, 58, 59, 60, 61, 62, 63, 139, 140, 141, 142, 143, 144, 145, 146, 147, 148, 149, 175, 176, 177] (by decide +kernel) (by decide +kernel)
set_option maxRecDepth 20000 in
theorem gX5_differ_X5_tellingFault : GoodIn wsX5_differ (wsV RX5 223 RX5 yX5_tellingFault wsX5_tellingFault) := goodIn_app (goodIn_of _ (by decide +kernel)) ggX5_differ_X5_tellingFault
set_option maxRecDepth 20000 in
theorem ggX5_differ_X5_refuse : GoodIn wsX5_differ wsX5_refuse := goodIn_r _ [67, 68, 31, 16, 7, 17, 139, 140, 141, 142, 143, 144, 145, 146, 147, 148, 149] (by decide +kernel) (by decide +kernel)
set_option maxRecDepth 20000 in
theorem gX5_differ_X5_refuse : GoodIn wsX5_differ (wsV RX5 76 RX5 yX5_refuse wsX5_refuse) := goodIn_app (goodIn_of _ (by decide +kernel)) ggX5_differ_X5_refuse
set_option maxRecDepth 20000 in
theorem ggX5_differ_X4_begin : GoodIn wsX5_differ wsX4_begin := goodIn_r _ [73, 74, 75, 76, 77, 78, 79, 80, 81, 82, 83, 84, 85, 11, 12, 13, 14, 15, 16, 7, 17, 150, 151, 152, 153, 154, 155, 156, 157, 158, 159, 160, 161, 162, 163, 164, 165, 166, 167, 168, 169, 170, 171, 172, 173, 174] (by decide +kernel) (by decide +kernel)
set_option maxRecDepth 20000 in
theorem gX5_differ_X4_begin : GoodIn wsX5_differ (wsV RX5 136 RX4 yX4_begin wsX4_begin) := goodIn_app (goodIn_of _ (by decide +kernel)) ggX5_differ_X4_begin
set_option maxRecDepth 20000 in
theorem ggX5_differ_X3_signAt : GoodIn wsX5_differ wsX3_signAt := goodIn_r _ [89, 63, 175, 176, 177] (by decide +kernel) (by decide +kernel)
set_option maxRecDepth 20000 in
theorem gX5_differ_X3_signAt : GoodIn wsX5_differ (wsV RX5 268 RX3 yX3_signAt wsX3_signAt) := goodIn_app (goodIn_of _ (by decide +kernel)) ggX5_differ_X3_signAt
set_option maxRecDepth 20000 in
theorem ggX5_differ_X4_step : GoodIn wsX5_differ wsX4_step := goodIn_r _ [93, 80, 94, 95, 96, 72, 97, 81, 98, 99, 100, 101, 74, 78, 79, 102, 103, 104, 13, 105, 106, 107, 108, 109, 110, 111, 112, 113, 114, 115, 116, 117, 118, 119, 120, 121, 75, 77, 82, 76, 122, 123, 124, 125, 126, 127, 128, 129, 130, 83, 84, 131, 132, 133, 134, 150, 151, 152, 153, 154, 155, 156, 157, 158, 159, 160, 161, 162, 163, 164, 165, 166, 167, 168, 169, 170, 171, 172, 173, 174] (by decide +kernel) (by decide +kernel)
set_option maxRecDepth 20000 in
theorem gX5_differ_X4_step : GoodIn wsX5_differ (wsV RX5 139 RX4 yX4_step wsX4_step) := goodIn_app (goodIn_of _ (by decide +kernel)) ggX5_differ_X4_step
set_option maxRecDepth 20000 in
theorem ggX5_differ_X4_standsAs : GoodIn wsX5_differ wsX4_standsAs := goodIn_r _ [138, 78, 79, 150, 151, 152, 153, 154, 155, 156, 157, 158, 159, 160] (by decide +kernel) (by decide +kernel)
set_option maxRecDepth 20000 in
theorem gX5_differ_X4_standsAs : GoodIn wsX5_differ (wsV RX5 262 RX4 yX4_standsAs wsX4_standsAs) := goodIn_app (goodIn_of _ (by decide +kernel)) ggX5_differ_X4_standsAs
theorem dX5_differ_0 : decode cX5_differ 0 = .ok (.aload_n 0, 1) := by decide +kernel
theorem dX5_differ_1 : decode cX5_differ 1 = .ok (.iload_n 1, 1) := by decide +kernel
theorem dX5_differ_2 : decode cX5_differ 2 = .ok (.iload_n 2, 1) := by decide +kernel
theorem dX5_differ_3 : decode cX5_differ 3 = .ok (.aload_n 0, 1) := by decide +kernel
theorem dX5_differ_4 : decode cX5_differ 4 = .ok (.iload_n 3, 1) := by decide +kernel
theorem dX5_differ_5 : decode cX5_differ 5 = .ok (.iload 4, 2) := by decide +kernel
theorem dX5_differ_7 : decode cX5_differ 7 = .ok (.invokevirtual 265, 3) := by decide +kernel
theorem dX5_differ_10 : decode cX5_differ 10 = .ok (.invokevirtual 223, 3) := by decide +kernel
theorem dX5_differ_13 : decode cX5_differ 13 = .ok (.istore 5, 2) := by decide +kernel
theorem dX5_differ_15 : decode cX5_differ 15 = .ok (.iload 5, 2) := by decide +kernel
theorem dX5_differ_17 : decode cX5_differ 17 = .ok (.ifCond .eq 10, 3) := by decide +kernel
theorem dX5_differ_20 : decode cX5_differ 20 = .ok (.aload_n 0, 1) := by decide +kernel
theorem dX5_differ_21 : decode cX5_differ 21 = .ok (.iload 5, 2) := by decide +kernel
theorem dX5_differ_23 : decode cX5_differ 23 = .ok (.invokevirtual 76, 3) := by decide +kernel
theorem dX5_differ_26 : decode cX5_differ 26 = .ok (.ireturn, 1) := by decide +kernel
theorem dX5_differ_27 : decode cX5_differ 27 = .ok (.aload_n 0, 1) := by decide +kernel
theorem dX5_differ_28 : decode cX5_differ 28 = .ok (.getfield 41, 3) := by decide +kernel
theorem dX5_differ_31 : decode cX5_differ 31 = .ok (.iload_n 3, 1) := by decide +kernel
theorem dX5_differ_32 : decode cX5_differ 32 = .ok (.invokevirtual 136, 3) := by decide +kernel
theorem dX5_differ_35 : decode cX5_differ 35 = .ok (.aload_n 0, 1) := by decide +kernel
theorem dX5_differ_36 : decode cX5_differ 36 = .ok (.getfield 45, 3) := by decide +kernel
theorem dX5_differ_39 : decode cX5_differ 39 = .ok (.iload 4, 2) := by decide +kernel
theorem dX5_differ_41 : decode cX5_differ 41 = .ok (.invokevirtual 136, 3) := by decide +kernel
theorem dX5_differ_44 : decode cX5_differ 44 = .ok (.aload_n 0, 1) := by decide +kernel
theorem dX5_differ_45 : decode cX5_differ 45 = .ok (.getfield 45, 3) := by decide +kernel
theorem dX5_differ_48 : decode cX5_differ 48 = .ok (.aload_n 0, 1) := by decide +kernel
theorem dX5_differ_49 : decode cX5_differ 49 = .ok (.getfield 41, 3) := by decide +kernel
theorem dX5_differ_52 : decode cX5_differ 52 = .ok (.getfield 231, 3) := by decide +kernel
theorem dX5_differ_55 : decode cX5_differ 55 = .ok (.putfield 231, 3) := by decide +kernel
theorem dX5_differ_58 : decode cX5_differ 58 = .ok (.aload_n 0, 1) := by decide +kernel
theorem dX5_differ_59 : decode cX5_differ 59 = .ok (.getfield 45, 3) := by decide +kernel
theorem dX5_differ_62 : decode cX5_differ 62 = .ok (.aload_n 0, 1) := by decide +kernel
theorem dX5_differ_63 : decode cX5_differ 63 = .ok (.getfield 41, 3) := by decide +kernel
theorem dX5_differ_66 : decode cX5_differ 66 = .ok (.getfield 142, 3) := by decide +kernel
theorem dX5_differ_69 : decode cX5_differ 69 = .ok (.putfield 142, 3) := by decide +kernel
theorem dX5_differ_72 : decode cX5_differ 72 = .ok (.iconst 0, 1) := by decide +kernel
theorem dX5_differ_73 : decode cX5_differ 73 = .ok (.istore 6, 2) := by decide +kernel
theorem dX5_differ_75 : decode cX5_differ 75 = .ok (.iload 6, 2) := by decide +kernel
theorem dX5_differ_77 : decode cX5_differ 77 = .ok (.iload_n 2, 1) := by decide +kernel
theorem dX5_differ_78 : decode cX5_differ 78 = .ok (.if_icmp .ge 72, 3) := by decide +kernel
theorem dX5_differ_81 : decode cX5_differ 81 = .ok (.aload_n 0, 1) := by decide +kernel
theorem dX5_differ_82 : decode cX5_differ 82 = .ok (.getfield 41, 3) := by decide +kernel
theorem dX5_differ_85 : decode cX5_differ 85 = .ok (.aload_n 0, 1) := by decide +kernel
theorem dX5_differ_86 : decode cX5_differ 86 = .ok (.getfield 34, 3) := by decide +kernel
theorem dX5_differ_89 : decode cX5_differ 89 = .ok (.iload_n 1, 1) := by decide +kernel
theorem dX5_differ_90 : decode cX5_differ 90 = .ok (.iload 6, 2) := by decide +kernel
theorem dX5_differ_92 : decode cX5_differ 92 = .ok (.invokevirtual 268, 3) := by decide +kernel
theorem dX5_differ_95 : decode cX5_differ 95 = .ok (.invokevirtual 139, 3) := by decide +kernel
theorem dX5_differ_98 : decode cX5_differ 98 = .ok (.aload_n 0, 1) := by decide +kernel
theorem dX5_differ_99 : decode cX5_differ 99 = .ok (.getfield 45, 3) := by decide +kernel
theorem dX5_differ_102 : decode cX5_differ 102 = .ok (.aload_n 0, 1) := by decide +kernel
theorem dX5_differ_103 : decode cX5_differ 103 = .ok (.getfield 34, 3) := by decide +kernel
theorem dX5_differ_106 : decode cX5_differ 106 = .ok (.iload_n 1, 1) := by decide +kernel
theorem dX5_differ_107 : decode cX5_differ 107 = .ok (.iload 6, 2) := by decide +kernel
theorem dX5_differ_109 : decode cX5_differ 109 = .ok (.invokevirtual 268, 3) := by decide +kernel
theorem dX5_differ_112 : decode cX5_differ 112 = .ok (.invokevirtual 139, 3) := by decide +kernel
theorem dX5_differ_115 : decode cX5_differ 115 = .ok (.aload_n 0, 1) := by decide +kernel
theorem dX5_differ_116 : decode cX5_differ 116 = .ok (.getfield 41, 3) := by decide +kernel
theorem dX5_differ_119 : decode cX5_differ 119 = .ok (.aload_n 0, 1) := by decide +kernel
theorem dX5_differ_120 : decode cX5_differ 120 = .ok (.getfield 45, 3) := by decide +kernel
theorem dX5_differ_123 : decode cX5_differ 123 = .ok (.getfield 231, 3) := by decide +kernel
theorem dX5_differ_126 : decode cX5_differ 126 = .ok (.aload_n 0, 1) := by decide +kernel
theorem dX5_differ_127 : decode cX5_differ 127 = .ok (.getfield 45, 3) := by decide +kernel
theorem dX5_differ_130 : decode cX5_differ 130 = .ok (.getfield 142, 3) := by decide +kernel
theorem dX5_differ_133 : decode cX5_differ 133 = .ok (.invokevirtual 262, 3) := by decide +kernel
theorem dX5_differ_136 : decode cX5_differ 136 = .ok (.ifCond .ne 8, 3) := by decide +kernel
theorem dX5_differ_139 : decode cX5_differ 139 = .ok (.iload 6, 2) := by decide +kernel
theorem dX5_differ_141 : decode cX5_differ 141 = .ok (.iconst 1, 1) := by decide +kernel
theorem dX5_differ_142 : decode cX5_differ 142 = .ok (.iadd, 1) := by decide +kernel
theorem dX5_differ_143 : decode cX5_differ 143 = .ok (.ireturn, 1) := by decide +kernel
theorem dX5_differ_144 : decode cX5_differ 144 = .ok (.iinc 6 1, 3) := by decide +kernel
theorem dX5_differ_147 : decode cX5_differ 147 = .ok (.goto (-72), 3) := by decide +kernel
theorem dX5_differ_150 : decode cX5_differ 150 = .ok (.iconst (-1), 1) := by decide +kernel
theorem dX5_differ_151 : decode cX5_differ 151 = .ok (.ireturn, 1) := by decide +kernel
set_option maxRecDepth 20000 in
theorem ggX5_again_X0_isOne : GoodIn wsX5_again wsX0_isOne := goodIn_r _ [7, 8, 9, 10, 11, 156, 157, 158, 159, 160, 161, 162, 163, 164, 165, 166, 167, 168, 169] (by decide +kernel) (by decide +kernel)
set_option maxRecDepth 20000 in
theorem gX5_again_X0_isOne : GoodIn wsX5_again (wsV RX5 109 RX0 yX0_isOne wsX0_isOne) := goodIn_app (goodIn_of _ (by decide +kernel)) ggX5_again_X0_isOne
set_option maxRecDepth 20000 in
theorem ggX5_again_X5_isWithin : GoodIn wsX5_again wsX5_isWithin := goodIn_r _ [11] (by decide +kernel) (by decide +kernel)
set_option maxRecDepth 20000 in
theorem gX5_again_X5_isWithin : GoodIn wsX5_again (va_wsS RX5 72 yX5_isWithin wsX5_isWithin) := goodIn_app (goodIn_of _ (by decide +kernel)) ggX5_again_X5_isWithin
set_option maxRecDepth 20000 in
theorem ggX5_again_X5_tellingFault : GoodIn wsX5_again wsX5_tellingFault := goodIn_r _ [16, 17, 18, 19, 10, 20, 21, 22, 23, 24, 25, 26, 9, 11, 12, 27, 28, 29, 30, 31, 32, 33, 34, 35, 36, 37, 38, 39, 40, 41, 42, 43, 44, 45, 46, 47, 48, 49, 50, 51, 52, 53, 54, 55, 56, 57, 58, 134, 135, 136, 137, 138, 139, 140, 141, 142, 143, 144, 170, 171, 172] (by decide +kernel) (by decide +kernel)
set_option maxRecDepth 20000 in
theorem gX5_again_X5_tellingFault : GoodIn wsX5_again (wsV RX5 223 RX5 yX5_tellingFault wsX5_tellingFault) := goodIn_app (goodIn_of _ (by decide +kernel)) ggX5_again_X5_tellingFault
set_option maxRecDepth 20000 in
theorem ggX5_again_X5_refuse : GoodIn wsX5_again wsX5_refuse := goodIn_r _ [62, 63, 12, 9, 10, 11, 134, 135, 136, 137, 138, 139, 140, 141, 142, 143, 144] (by decide +kernel) (by decide +kernel)
set_option maxRecDepth 20000 in
theorem gX5_again_X5_refuse : GoodIn wsX5_again (wsV RX5 76 RX5 yX5_refuse wsX5_refuse) := goodIn_app (goodIn_of _ (by decide +kernel)) ggX5_again_X5_refuse
set_option maxRecDepth 20000 in
theorem ggX5_again_X4_begin : GoodIn wsX5_again wsX4_begin := goodIn_r _ [68, 69, 70, 71, 72, 73, 74, 75, 76, 77, 78, 79, 80, 4, 5, 6, 7, 8, 9, 10, 11, 145, 146, 147, 148, 149, 150, 151, 152, 153, 154, 155, 156, 157, 158, 159, 160, 161, 162, 163, 164, 165, 166, 167, 168, 169] (by decide +kernel) (by decide +kernel)
set_option maxRecDepth 20000 in
theorem gX5_again_X4_begin : GoodIn wsX5_again (wsV RX5 136 RX4 yX4_begin wsX4_begin) := goodIn_app (goodIn_of _ (by decide +kernel)) ggX5_again_X4_begin
set_option maxRecDepth 20000 in
theorem ggX5_again_X5_follow : GoodIn wsX5_again wsX5_follow := goodIn_r _ [84, 21, 85, 86, 87, 25, 88, 58, 89, 90, 91, 67, 92, 75, 93, 94, 95, 96, 76, 97, 98, 99, 100, 69, 73, 74, 101, 102, 103, 6, 104, 105, 106, 107, 108, 109, 110, 111, 112, 113, 114, 115, 116, 117, 118, 119, 120, 70, 72, 77, 71, 121, 122, 123, 124, 125, 126, 127, 128, 129, 78, 79, 130, 131, 132, 133, 134, 135, 136, 137, 138, 139, 140, 141, 142, 143, 144, 170, 171, 172, 145, 146, 147, 148, 149, 150, 151, 152, 153, 154, 155, 156, 157, 158, 159, 160, 161, 162, 163, 164, 165, 166, 167, 168, 169] (by decide +kernel) (by decide +kernel)
set_option maxRecDepth 20000 in
theorem gX5_again_X5_follow : GoodIn wsX5_again (wsV RX5 227 RX5 yX5_follow wsX5_follow) := goodIn_app (goodIn_of _ (by decide +kernel)) ggX5_again_X5_follow
theorem dX5_again_0 : decode cX5_again 0 = .ok (.aload_n 0, 1) := by decide +kernel
theorem dX5_again_1 : decode cX5_again 1 = .ok (.iload_n 1, 1) := by decide +kernel
theorem dX5_again_2 : decode cX5_again 2 = .ok (.iload_n 2, 1) := by decide +kernel
theorem dX5_again_3 : decode cX5_again 3 = .ok (.aload_n 0, 1) := by decide +kernel
theorem dX5_again_4 : decode cX5_again 4 = .ok (.getfield 10, 3) := by decide +kernel
theorem dX5_again_7 : decode cX5_again 7 = .ok (.iload_n 3, 1) := by decide +kernel
theorem dX5_again_8 : decode cX5_again 8 = .ok (.invokevirtual 109, 3) := by decide +kernel
theorem dX5_again_11 : decode cX5_again 11 = .ok (.ifCond .eq 18, 3) := by decide +kernel
theorem dX5_again_14 : decode cX5_again 14 = .ok (.iload 4, 2) := by decide +kernel
theorem dX5_again_16 : decode cX5_again 16 = .ok (.iconst 0, 1) := by decide +kernel
theorem dX5_again_17 : decode cX5_again 17 = .ok (.bipush 20, 2) := by decide +kernel
theorem dX5_again_19 : decode cX5_again 19 = .ok (.invokestatic 72, 3) := by decide +kernel
theorem dX5_again_22 : decode cX5_again 22 = .ok (.ifCond .eq 7, 3) := by decide +kernel
theorem dX5_again_25 : decode cX5_again 25 = .ok (.iconst 1, 1) := by decide +kernel
theorem dX5_again_26 : decode cX5_again 26 = .ok (.goto 4, 3) := by decide +kernel
theorem dX5_again_29 : decode cX5_again 29 = .ok (.iconst 0, 1) := by decide +kernel
theorem dX5_again_30 : decode cX5_again 30 = .ok (.invokevirtual 223, 3) := by decide +kernel
theorem dX5_again_33 : decode cX5_again 33 = .ok (.istore 5, 2) := by decide +kernel
theorem dX5_again_35 : decode cX5_again 35 = .ok (.iload 5, 2) := by decide +kernel
theorem dX5_again_37 : decode cX5_again 37 = .ok (.ifCond .eq 10, 3) := by decide +kernel
theorem dX5_again_40 : decode cX5_again 40 = .ok (.aload_n 0, 1) := by decide +kernel
theorem dX5_again_41 : decode cX5_again 41 = .ok (.iload 5, 2) := by decide +kernel
theorem dX5_again_43 : decode cX5_again 43 = .ok (.invokevirtual 76, 3) := by decide +kernel
theorem dX5_again_46 : decode cX5_again 46 = .ok (.ireturn, 1) := by decide +kernel
theorem dX5_again_47 : decode cX5_again 47 = .ok (.aload_n 0, 1) := by decide +kernel
theorem dX5_again_48 : decode cX5_again 48 = .ok (.getfield 41, 3) := by decide +kernel
theorem dX5_again_51 : decode cX5_again 51 = .ok (.iload_n 3, 1) := by decide +kernel
theorem dX5_again_52 : decode cX5_again 52 = .ok (.invokevirtual 136, 3) := by decide +kernel
theorem dX5_again_55 : decode cX5_again 55 = .ok (.iconst 0, 1) := by decide +kernel
theorem dX5_again_56 : decode cX5_again 56 = .ok (.istore 6, 2) := by decide +kernel
theorem dX5_again_58 : decode cX5_again 58 = .ok (.iload 6, 2) := by decide +kernel
theorem dX5_again_60 : decode cX5_again 60 = .ok (.iload 4, 2) := by decide +kernel
theorem dX5_again_62 : decode cX5_again 62 = .ok (.if_icmp .ge 19, 3) := by decide +kernel
theorem dX5_again_65 : decode cX5_again 65 = .ok (.aload_n 0, 1) := by decide +kernel
theorem dX5_again_66 : decode cX5_again 66 = .ok (.aload_n 0, 1) := by decide +kernel
theorem dX5_again_67 : decode cX5_again 67 = .ok (.getfield 41, 3) := by decide +kernel
theorem dX5_again_70 : decode cX5_again 70 = .ok (.iload_n 1, 1) := by decide +kernel
theorem dX5_again_71 : decode cX5_again 71 = .ok (.iload_n 2, 1) := by decide +kernel
theorem dX5_again_72 : decode cX5_again 72 = .ok (.invokevirtual 227, 3) := by decide +kernel
theorem dX5_again_75 : decode cX5_again 75 = .ok (.iinc 6 1, 3) := by decide +kernel
theorem dX5_again_78 : decode cX5_again 78 = .ok (.goto (-20), 3) := by decide +kernel
theorem dX5_again_81 : decode cX5_again 81 = .ok (.aload_n 0, 1) := by decide +kernel
theorem dX5_again_82 : decode cX5_again 82 = .ok (.getfield 41, 3) := by decide +kernel
theorem dX5_again_85 : decode cX5_again 85 = .ok (.getfield 231, 3) := by decide +kernel
theorem dX5_again_88 : decode cX5_again 88 = .ok (.ireturn, 1) := by decide +kernel
set_option maxRecDepth 20000 in
theorem ggX5_ring_X0_isOne : GoodIn wsX5_ring wsX0_isOne := goodIn_r _ [7, 8, 9, 10, 11, 149, 150, 151, 152, 153, 154, 155, 156, 157, 158, 159, 160, 161, 162] (by decide +kernel) (by decide +kernel)
set_option maxRecDepth 20000 in
theorem gX5_ring_X0_isOne : GoodIn wsX5_ring (wsV RX5 109 RX0 yX0_isOne wsX0_isOne) := goodIn_app (goodIn_of _ (by decide +kernel)) ggX5_ring_X0_isOne
set_option maxRecDepth 20000 in
theorem ggX5_ring_X5_tellingFault : GoodIn wsX5_ring wsX5_tellingFault := goodIn_r _ [15, 16, 17, 18, 10, 19, 20, 21, 22, 23, 24, 25, 9, 11, 26, 27, 28, 29, 30, 31, 32, 33, 34, 35, 36, 37, 38, 39, 40, 41, 42, 43, 44, 45, 46, 47, 48, 49, 50, 51, 52, 53, 54, 55, 56, 57, 58, 138, 139, 140, 141, 142, 143, 144, 145, 146, 147, 148, 163, 164, 165] (by decide +kernel) (by decide +kernel)
set_option maxRecDepth 20000 in
theorem gX5_ring_X5_tellingFault : GoodIn wsX5_ring (wsV RX5 223 RX5 yX5_tellingFault wsX5_tellingFault) := goodIn_app (goodIn_of _ (by decide +kernel)) ggX5_ring_X5_tellingFault
set_option maxRecDepth 20000 in
theorem ggX5_ring_X5_refuse : GoodIn wsX5_ring wsX5_refuse := goodIn_r _ [62, 63, 26, 9, 10, 11, 138, 139, 140, 141, 142, 143, 144, 145, 146, 147, 148] (by decide +kernel) (by decide +kernel)
set_option maxRecDepth 20000 in
theorem gX5_ring_X5_refuse : GoodIn wsX5_ring (wsV RX5 76 RX5 yX5_refuse wsX5_refuse) := goodIn_app (goodIn_of _ (by decide +kernel)) ggX5_ring_X5_refuse
set_option maxRecDepth 20000 in
theorem ggX5_ring_X4_begin : GoodIn wsX5_ring wsX4_begin := goodIn_r _ [68, 69, 70, 71, 72, 73, 74, 75, 76, 77, 78, 79, 80, 4, 5, 6, 7, 8, 9, 10, 11, 166, 167, 168, 169, 170, 171, 172, 173, 174, 175, 176, 149, 150, 151, 152, 153, 154, 155, 156, 157, 158, 159, 160, 161, 162] (by decide +kernel) (by decide +kernel)
set_option maxRecDepth 20000 in
theorem gX5_ring_X4_begin : GoodIn wsX5_ring (wsV RX5 136 RX4 yX4_begin wsX4_begin) := goodIn_app (goodIn_of _ (by decide +kernel)) ggX5_ring_X4_begin
set_option maxRecDepth 20000 in
theorem ggX5_ring_X5_follow : GoodIn wsX5_ring wsX5_follow := goodIn_r _ [84, 20, 85, 86, 87, 24, 88, 58, 89, 90, 91, 67, 92, 75, 93, 94, 95, 96, 76, 97, 98, 99, 100, 69, 73, 74, 101, 102, 103, 6, 104, 105, 106, 107, 108, 109, 110, 111, 112, 113, 114, 115, 116, 117, 118, 119, 120, 70, 72, 77, 71, 121, 122, 123, 124, 125, 126, 127, 128, 129, 78, 79, 130, 131, 132, 133, 138, 139, 140, 141, 142, 143, 144, 145, 146, 147, 148, 163, 164, 165, 166, 167, 168, 169, 170, 171, 172, 173, 174, 175, 176, 149, 150, 151, 152, 153, 154, 155, 156, 157, 158, 159, 160, 161, 162] (by decide +kernel) (by decide +kernel)
set_option maxRecDepth 20000 in
theorem gX5_ring_X5_follow : GoodIn wsX5_ring (wsV RX5 227 RX5 yX5_follow wsX5_follow) := goodIn_app (goodIn_of _ (by decide +kernel)) ggX5_ring_X5_follow
set_option maxRecDepth 20000 in
theorem ggX5_ring_X4_standsAs : GoodIn wsX5_ring wsX4_standsAs := goodIn_r _ [137, 73, 74, 166, 167, 168, 169, 170, 171, 172, 173, 174, 175, 176] (by decide +kernel) (by decide +kernel)
set_option maxRecDepth 20000 in
theorem gX5_ring_X4_standsAs : GoodIn wsX5_ring (wsV RX5 262 RX4 yX4_standsAs wsX4_standsAs) := goodIn_app (goodIn_of _ (by decide +kernel)) ggX5_ring_X4_standsAs
theorem dX5_ring_0 : decode cX5_ring 0 = .ok (.aload_n 0, 1) := by decide +kernel
theorem dX5_ring_1 : decode cX5_ring 1 = .ok (.iload_n 1, 1) := by decide +kernel
theorem dX5_ring_2 : decode cX5_ring 2 = .ok (.iload_n 2, 1) := by decide +kernel
theorem dX5_ring_3 : decode cX5_ring 3 = .ok (.aload_n 0, 1) := by decide +kernel
theorem dX5_ring_4 : decode cX5_ring 4 = .ok (.getfield 10, 3) := by decide +kernel
theorem dX5_ring_7 : decode cX5_ring 7 = .ok (.iload_n 3, 1) := by decide +kernel
theorem dX5_ring_8 : decode cX5_ring 8 = .ok (.invokevirtual 109, 3) := by decide +kernel
theorem dX5_ring_11 : decode cX5_ring 11 = .ok (.invokevirtual 223, 3) := by decide +kernel
theorem dX5_ring_14 : decode cX5_ring 14 = .ok (.istore 4, 2) := by decide +kernel
theorem dX5_ring_16 : decode cX5_ring 16 = .ok (.iload 4, 2) := by decide +kernel
theorem dX5_ring_18 : decode cX5_ring 18 = .ok (.ifCond .eq 10, 3) := by decide +kernel
theorem dX5_ring_21 : decode cX5_ring 21 = .ok (.aload_n 0, 1) := by decide +kernel
theorem dX5_ring_22 : decode cX5_ring 22 = .ok (.iload 4, 2) := by decide +kernel
theorem dX5_ring_24 : decode cX5_ring 24 = .ok (.invokevirtual 76, 3) := by decide +kernel
theorem dX5_ring_27 : decode cX5_ring 27 = .ok (.ireturn, 1) := by decide +kernel
theorem dX5_ring_28 : decode cX5_ring 28 = .ok (.aload_n 0, 1) := by decide +kernel
theorem dX5_ring_29 : decode cX5_ring 29 = .ok (.getfield 41, 3) := by decide +kernel
theorem dX5_ring_32 : decode cX5_ring 32 = .ok (.iload_n 3, 1) := by decide +kernel
theorem dX5_ring_33 : decode cX5_ring 33 = .ok (.invokevirtual 136, 3) := by decide +kernel
theorem dX5_ring_36 : decode cX5_ring 36 = .ok (.iconst 1, 1) := by decide +kernel
theorem dX5_ring_37 : decode cX5_ring 37 = .ok (.istore 5, 2) := by decide +kernel
theorem dX5_ring_39 : decode cX5_ring 39 = .ok (.iload 5, 2) := by decide +kernel
theorem dX5_ring_41 : decode cX5_ring 41 = .ok (.bipush 20, 2) := by decide +kernel
theorem dX5_ring_43 : decode cX5_ring 43 = .ok (.if_icmp .gt 50, 3) := by decide +kernel
theorem dX5_ring_46 : decode cX5_ring 46 = .ok (.aload_n 0, 1) := by decide +kernel
theorem dX5_ring_47 : decode cX5_ring 47 = .ok (.aload_n 0, 1) := by decide +kernel
theorem dX5_ring_48 : decode cX5_ring 48 = .ok (.getfield 41, 3) := by decide +kernel
theorem dX5_ring_51 : decode cX5_ring 51 = .ok (.iload_n 1, 1) := by decide +kernel
theorem dX5_ring_52 : decode cX5_ring 52 = .ok (.iload_n 2, 1) := by decide +kernel
theorem dX5_ring_53 : decode cX5_ring 53 = .ok (.invokevirtual 227, 3) := by decide +kernel
theorem dX5_ring_56 : decode cX5_ring 56 = .ok (.aload_n 0, 1) := by decide +kernel
theorem dX5_ring_57 : decode cX5_ring 57 = .ok (.getfield 41, 3) := by decide +kernel
theorem dX5_ring_60 : decode cX5_ring 60 = .ok (.aload_n 0, 1) := by decide +kernel
theorem dX5_ring_61 : decode cX5_ring 61 = .ok (.getfield 10, 3) := by decide +kernel
theorem dX5_ring_64 : decode cX5_ring 64 = .ok (.getfield 192, 3) := by decide +kernel
theorem dX5_ring_67 : decode cX5_ring 67 = .ok (.iload_n 3, 1) := by decide +kernel
theorem dX5_ring_68 : decode cX5_ring 68 = .ok (.iaload, 1) := by decide +kernel
theorem dX5_ring_69 : decode cX5_ring 69 = .ok (.aload_n 0, 1) := by decide +kernel
theorem dX5_ring_70 : decode cX5_ring 70 = .ok (.getfield 10, 3) := by decide +kernel
theorem dX5_ring_73 : decode cX5_ring 73 = .ok (.getfield 195, 3) := by decide +kernel
theorem dX5_ring_76 : decode cX5_ring 76 = .ok (.iload_n 3, 1) := by decide +kernel
theorem dX5_ring_77 : decode cX5_ring 77 = .ok (.iaload, 1) := by decide +kernel
theorem dX5_ring_78 : decode cX5_ring 78 = .ok (.invokevirtual 262, 3) := by decide +kernel
theorem dX5_ring_81 : decode cX5_ring 81 = .ok (.ifCond .eq 6, 3) := by decide +kernel
theorem dX5_ring_84 : decode cX5_ring 84 = .ok (.iload 5, 2) := by decide +kernel
theorem dX5_ring_86 : decode cX5_ring 86 = .ok (.ireturn, 1) := by decide +kernel
theorem dX5_ring_87 : decode cX5_ring 87 = .ok (.iinc 5 1, 3) := by decide +kernel
theorem dX5_ring_90 : decode cX5_ring 90 = .ok (.goto (-51), 3) := by decide +kernel
theorem dX5_ring_93 : decode cX5_ring 93 = .ok (.iconst (-1), 1) := by decide +kernel
theorem dX5_ring_94 : decode cX5_ring 94 = .ok (.ireturn, 1) := by decide +kernel
set_option maxRecDepth 20000 in
theorem ggX5_lonely_X5_tellingFault : GoodIn wsX5_lonely wsX5_tellingFault := goodIn_r _ [7, 8, 9, 10, 6, 11, 12, 13, 14, 15, 16, 17, 18, 19, 20, 21, 22, 23, 24, 25, 26, 27, 28, 29, 30, 31, 32, 33, 34, 35, 36, 37, 38, 39, 40, 41, 42, 43, 44, 45, 46, 47, 48, 49, 50, 51, 52, 145, 146, 147, 148, 149, 150, 151, 152, 153, 154, 155, 170, 171, 172] (by decide +kernel) (by decide +kernel)
set_option maxRecDepth 20000 in
theorem gX5_lonely_X5_tellingFault : GoodIn wsX5_lonely (wsV RX5 223 RX5 yX5_tellingFault wsX5_tellingFault) := goodIn_app (goodIn_of _ (by decide +kernel)) ggX5_lonely_X5_tellingFault
set_option maxRecDepth 20000 in
theorem ggX5_lonely_X5_refuse : GoodIn wsX5_lonely wsX5_refuse := goodIn_r _ [56, 57, 20, 18, 6, 19, 145, 146, 147, 148, 149, 150, 151, 152, 153, 154, 155] (by decide +kernel) (by decide +kernel)
set_option maxRecDepth 20000 in
theorem gX5_lonely_X5_refuse : GoodIn wsX5_lonely (wsV RX5 76 RX5 yX5_refuse wsX5_refuse) := goodIn_app (goodIn_of _ (by decide +kernel)) ggX5_lonely_X5_refuse
set_option maxRecDepth 20000 in
theorem ggX5_lonely_X5_allComeOut : GoodIn wsX5_lonely wsX5_allComeOut := goodIn_r _ [61, 1, 62, 2, 63, 64, 65, 66, 67, 68, 69, 70, 71, 72, 73, 74, 75, 76, 77, 78, 79, 80, 81, 82, 83, 84, 18, 6, 19, 85, 86, 87, 88, 12, 89, 90, 91, 16, 92, 52, 93, 94, 95, 96, 97, 98, 99, 100, 101, 102, 103, 104, 105, 106, 107, 108, 109, 110, 111, 112, 113, 114, 115, 116, 117, 118, 119, 120, 121, 122, 123, 124, 125, 126, 127, 128, 129, 130, 131, 132, 133, 134, 135, 136, 137, 145, 146, 147, 148, 149, 150, 151, 152, 153, 154, 155, 156, 157, 158, 159, 160, 161, 162, 163, 164, 165, 166, 167, 168, 169, 173, 174, 175, 176, 177, 178, 179, 180, 181, 182, 183, 170, 171, 172] (by decide +kernel) (by decide +kernel)
set_option maxRecDepth 20000 in
theorem gX5_lonely_X5_allComeOut : GoodIn wsX5_lonely (wsV RX5 256 RX5 yX5_allComeOut wsX5_allComeOut) := goodIn_app (goodIn_of _ (by decide +kernel)) ggX5_lonely_X5_allComeOut
set_option maxRecDepth 20000 in
theorem ggX5_lonely_X5_howManyOutIn : GoodIn wsX5_lonely wsX5_howManyOutIn := goodIn_r _ [141, 1, 2, 142, 143, 6, 144, 145, 146, 147, 148, 149, 150, 151, 152, 153, 154, 155, 156, 157, 158, 159, 160, 161, 162, 163, 164, 165, 166, 167, 168, 169] (by decide +kernel) (by decide +kernel)
set_option maxRecDepth 20000 in
theorem gX5_lonely_X5_howManyOutIn : GoodIn wsX5_lonely (wsV RX5 259 RX5 yX5_howManyOutIn wsX5_howManyOutIn) := goodIn_app (goodIn_of _ (by decide +kernel)) ggX5_lonely_X5_howManyOutIn
theorem dX5_lonely_0 : decode cX5_lonely 0 = .ok (.aload_n 0, 1) := by decide +kernel
theorem dX5_lonely_1 : decode cX5_lonely 1 = .ok (.iload_n 1, 1) := by decide +kernel
theorem dX5_lonely_2 : decode cX5_lonely 2 = .ok (.iload_n 2, 1) := by decide +kernel
theorem dX5_lonely_3 : decode cX5_lonely 3 = .ok (.iconst 1, 1) := by decide +kernel
theorem dX5_lonely_4 : decode cX5_lonely 4 = .ok (.invokevirtual 223, 3) := by decide +kernel
theorem dX5_lonely_7 : decode cX5_lonely 7 = .ok (.istore_n 3, 1) := by decide +kernel
theorem dX5_lonely_8 : decode cX5_lonely 8 = .ok (.iload_n 3, 1) := by decide +kernel
theorem dX5_lonely_9 : decode cX5_lonely 9 = .ok (.ifCond .eq 9, 3) := by decide +kernel
theorem dX5_lonely_12 : decode cX5_lonely 12 = .ok (.aload_n 0, 1) := by decide +kernel
theorem dX5_lonely_13 : decode cX5_lonely 13 = .ok (.iload_n 3, 1) := by decide +kernel
theorem dX5_lonely_14 : decode cX5_lonely 14 = .ok (.invokevirtual 76, 3) := by decide +kernel
theorem dX5_lonely_17 : decode cX5_lonely 17 = .ok (.ireturn, 1) := by decide +kernel
theorem dX5_lonely_18 : decode cX5_lonely 18 = .ok (.aload_n 0, 1) := by decide +kernel
theorem dX5_lonely_19 : decode cX5_lonely 19 = .ok (.iload_n 1, 1) := by decide +kernel
theorem dX5_lonely_20 : decode cX5_lonely 20 = .ok (.iload_n 2, 1) := by decide +kernel
theorem dX5_lonely_21 : decode cX5_lonely 21 = .ok (.invokevirtual 256, 3) := by decide +kernel
theorem dX5_lonely_24 : decode cX5_lonely 24 = .ok (.iconst 0, 1) := by decide +kernel
theorem dX5_lonely_25 : decode cX5_lonely 25 = .ok (.istore 4, 2) := by decide +kernel
theorem dX5_lonely_27 : decode cX5_lonely 27 = .ok (.iconst 0, 1) := by decide +kernel
theorem dX5_lonely_28 : decode cX5_lonely 28 = .ok (.istore 5, 2) := by decide +kernel
theorem dX5_lonely_30 : decode cX5_lonely 30 = .ok (.iload 5, 2) := by decide +kernel
theorem dX5_lonely_32 : decode cX5_lonely 32 = .ok (.aload_n 0, 1) := by decide +kernel
theorem dX5_lonely_33 : decode cX5_lonely 33 = .ok (.getfield 10, 3) := by decide +kernel
theorem dX5_lonely_36 : decode cX5_lonely 36 = .ok (.getfield 237, 3) := by decide +kernel
theorem dX5_lonely_39 : decode cX5_lonely 39 = .ok (.if_icmp .ge 33, 3) := by decide +kernel
theorem dX5_lonely_42 : decode cX5_lonely 42 = .ok (.aload_n 0, 1) := by decide +kernel
theorem dX5_lonely_43 : decode cX5_lonely 43 = .ok (.aload_n 0, 1) := by decide +kernel
theorem dX5_lonely_44 : decode cX5_lonely 44 = .ok (.getfield 57, 3) := by decide +kernel
theorem dX5_lonely_47 : decode cX5_lonely 47 = .ok (.iload 5, 2) := by decide +kernel
theorem dX5_lonely_49 : decode cX5_lonely 49 = .ok (.iaload, 1) := by decide +kernel
theorem dX5_lonely_50 : decode cX5_lonely 50 = .ok (.invokevirtual 259, 3) := by decide +kernel
theorem dX5_lonely_53 : decode cX5_lonely 53 = .ok (.iconst 1, 1) := by decide +kernel
theorem dX5_lonely_54 : decode cX5_lonely 54 = .ok (.if_icmp .ne 12, 3) := by decide +kernel
theorem dX5_lonely_57 : decode cX5_lonely 57 = .ok (.iload 4, 2) := by decide +kernel
theorem dX5_lonely_59 : decode cX5_lonely 59 = .ok (.iconst 1, 1) := by decide +kernel
theorem dX5_lonely_60 : decode cX5_lonely 60 = .ok (.iload 5, 2) := by decide +kernel
theorem dX5_lonely_62 : decode cX5_lonely 62 = .ok (.ishl, 1) := by decide +kernel
theorem dX5_lonely_63 : decode cX5_lonely 63 = .ok (.ior, 1) := by decide +kernel
theorem dX5_lonely_64 : decode cX5_lonely 64 = .ok (.istore 4, 2) := by decide +kernel
theorem dX5_lonely_66 : decode cX5_lonely 66 = .ok (.iinc 5 1, 3) := by decide +kernel
theorem dX5_lonely_69 : decode cX5_lonely 69 = .ok (.goto (-39), 3) := by decide +kernel
theorem dX5_lonely_72 : decode cX5_lonely 72 = .ok (.iload 4, 2) := by decide +kernel
theorem dX5_lonely_74 : decode cX5_lonely 74 = .ok (.ireturn, 1) := by decide +kernel
set_option maxRecDepth 20000 in
theorem ggX5_idle_X0_isOne : GoodIn wsX5_idle wsX0_isOne := goodIn_r _ [8, 9, 10, 11, 12, 155, 156, 157, 158, 159, 160, 161, 162, 163, 164, 165, 166, 167, 168] (by decide +kernel) (by decide +kernel)
set_option maxRecDepth 20000 in
theorem gX5_idle_X0_isOne : GoodIn wsX5_idle (wsV RX5 109 RX0 yX0_isOne wsX0_isOne) := goodIn_app (goodIn_of _ (by decide +kernel)) ggX5_idle_X0_isOne
set_option maxRecDepth 20000 in
theorem ggX5_idle_X5_tellingFault : GoodIn wsX5_idle wsX5_tellingFault := goodIn_r _ [16, 17, 18, 19, 11, 20, 3, 21, 22, 23, 24, 25, 10, 12, 26, 27, 28, 29, 30, 31, 32, 33, 34, 35, 36, 37, 38, 39, 40, 41, 42, 43, 44, 45, 46, 47, 48, 49, 50, 51, 52, 53, 54, 55, 56, 57, 58, 133, 134, 135, 136, 137, 138, 139, 140, 141, 142, 143, 169, 170, 171] (by decide +kernel) (by decide +kernel)
set_option maxRecDepth 20000 in
theorem gX5_idle_X5_tellingFault : GoodIn wsX5_idle (wsV RX5 223 RX5 yX5_tellingFault wsX5_tellingFault) := goodIn_app (goodIn_of _ (by decide +kernel)) ggX5_idle_X5_tellingFault
set_option maxRecDepth 20000 in
theorem ggX5_idle_X5_refuse : GoodIn wsX5_idle wsX5_refuse := goodIn_r _ [62, 63, 26, 10, 11, 12, 133, 134, 135, 136, 137, 138, 139, 140, 141, 142, 143] (by decide +kernel) (by decide +kernel)
set_option maxRecDepth 20000 in
theorem gX5_idle_X5_refuse : GoodIn wsX5_idle (wsV RX5 76 RX5 yX5_refuse wsX5_refuse) := goodIn_app (goodIn_of _ (by decide +kernel)) ggX5_idle_X5_refuse
set_option maxRecDepth 20000 in
theorem ggX5_idle_X4_begin : GoodIn wsX5_idle wsX4_begin := goodIn_r _ [68, 69, 70, 71, 72, 73, 74, 75, 76, 77, 78, 79, 80, 5, 6, 7, 8, 9, 10, 11, 12, 144, 145, 146, 147, 148, 149, 150, 151, 152, 153, 154, 155, 156, 157, 158, 159, 160, 161, 162, 163, 164, 165, 166, 167, 168] (by decide +kernel) (by decide +kernel)
set_option maxRecDepth 20000 in
theorem gX5_idle_X4_begin : GoodIn wsX5_idle (wsV RX5 136 RX4 yX4_begin wsX4_begin) := goodIn_app (goodIn_of _ (by decide +kernel)) ggX5_idle_X4_begin
set_option maxRecDepth 20000 in
theorem ggX5_idle_X3_signAt : GoodIn wsX5_idle wsX3_signAt := goodIn_r _ [84, 58, 169, 170, 171] (by decide +kernel) (by decide +kernel)
set_option maxRecDepth 20000 in
theorem gX5_idle_X3_signAt : GoodIn wsX5_idle (wsV RX5 268 RX3 yX3_signAt wsX3_signAt) := goodIn_app (goodIn_of _ (by decide +kernel)) ggX5_idle_X3_signAt
set_option maxRecDepth 20000 in
theorem ggX5_idle_X4_step : GoodIn wsX5_idle wsX4_step := goodIn_r _ [88, 75, 89, 90, 91, 67, 92, 76, 93, 94, 95, 96, 69, 73, 74, 97, 98, 99, 7, 100, 101, 102, 103, 104, 105, 106, 107, 108, 109, 110, 111, 112, 113, 114, 115, 116, 70, 72, 77, 71, 117, 118, 119, 120, 121, 122, 123, 124, 125, 78, 79, 126, 127, 128, 129, 144, 145, 146, 147, 148, 149, 150, 151, 152, 153, 154, 155, 156, 157, 158, 159, 160, 161, 162, 163, 164, 165, 166, 167, 168] (by decide +kernel) (by decide +kernel)
set_option maxRecDepth 20000 in
theorem gX5_idle_X4_step : GoodIn wsX5_idle (wsV RX5 139 RX4 yX4_step wsX4_step) := goodIn_app (goodIn_of _ (by decide +kernel)) ggX5_idle_X4_step
set_option maxRecDepth 20000 in
theorem ggX5_idle_X5_asNumber : GoodIn wsX5_idle wsX5_asNumber := goodIn_r _ [132] (by decide +kernel) (by decide +kernel)
set_option maxRecDepth 20000 in
theorem gX5_idle_X5_asNumber : GoodIn wsX5_idle (va_wsS RX5 161 yX5_asNumber wsX5_asNumber) := goodIn_app (goodIn_of _ (by decide +kernel)) ggX5_idle_X5_asNumber
theorem dX5_idle_0 : decode cX5_idle 0 = .ok (.aload_n 0, 1) := by decide +kernel
theorem dX5_idle_1 : decode cX5_idle 1 = .ok (.iload_n 1, 1) := by decide +kernel
theorem dX5_idle_2 : decode cX5_idle 2 = .ok (.iload_n 2, 1) := by decide +kernel
theorem dX5_idle_3 : decode cX5_idle 3 = .ok (.aload_n 0, 1) := by decide +kernel
theorem dX5_idle_4 : decode cX5_idle 4 = .ok (.getfield 10, 3) := by decide +kernel
theorem dX5_idle_7 : decode cX5_idle 7 = .ok (.iload_n 3, 1) := by decide +kernel
theorem dX5_idle_8 : decode cX5_idle 8 = .ok (.invokevirtual 109, 3) := by decide +kernel
theorem dX5_idle_11 : decode cX5_idle 11 = .ok (.invokevirtual 223, 3) := by decide +kernel
theorem dX5_idle_14 : decode cX5_idle 14 = .ok (.istore 4, 2) := by decide +kernel
theorem dX5_idle_16 : decode cX5_idle 16 = .ok (.iload 4, 2) := by decide +kernel
theorem dX5_idle_18 : decode cX5_idle 18 = .ok (.ifCond .eq 10, 3) := by decide +kernel
theorem dX5_idle_21 : decode cX5_idle 21 = .ok (.aload_n 0, 1) := by decide +kernel
theorem dX5_idle_22 : decode cX5_idle 22 = .ok (.iload 4, 2) := by decide +kernel
theorem dX5_idle_24 : decode cX5_idle 24 = .ok (.invokevirtual 76, 3) := by decide +kernel
theorem dX5_idle_27 : decode cX5_idle 27 = .ok (.ireturn, 1) := by decide +kernel
theorem dX5_idle_28 : decode cX5_idle 28 = .ok (.aload_n 0, 1) := by decide +kernel
theorem dX5_idle_29 : decode cX5_idle 29 = .ok (.getfield 41, 3) := by decide +kernel
theorem dX5_idle_32 : decode cX5_idle 32 = .ok (.iload_n 3, 1) := by decide +kernel
theorem dX5_idle_33 : decode cX5_idle 33 = .ok (.invokevirtual 136, 3) := by decide +kernel
theorem dX5_idle_36 : decode cX5_idle 36 = .ok (.iconst 0, 1) := by decide +kernel
theorem dX5_idle_37 : decode cX5_idle 37 = .ok (.istore 5, 2) := by decide +kernel
theorem dX5_idle_39 : decode cX5_idle 39 = .ok (.iconst 0, 1) := by decide +kernel
theorem dX5_idle_40 : decode cX5_idle 40 = .ok (.istore 6, 2) := by decide +kernel
theorem dX5_idle_42 : decode cX5_idle 42 = .ok (.iload 6, 2) := by decide +kernel
theorem dX5_idle_44 : decode cX5_idle 44 = .ok (.iload_n 2, 1) := by decide +kernel
theorem dX5_idle_45 : decode cX5_idle 45 = .ok (.if_icmp .ge 60, 3) := by decide +kernel
theorem dX5_idle_48 : decode cX5_idle 48 = .ok (.aload_n 0, 1) := by decide +kernel
theorem dX5_idle_49 : decode cX5_idle 49 = .ok (.getfield 41, 3) := by decide +kernel
theorem dX5_idle_52 : decode cX5_idle 52 = .ok (.getfield 231, 3) := by decide +kernel
theorem dX5_idle_55 : decode cX5_idle 55 = .ok (.istore 7, 2) := by decide +kernel
theorem dX5_idle_57 : decode cX5_idle 57 = .ok (.aload_n 0, 1) := by decide +kernel
theorem dX5_idle_58 : decode cX5_idle 58 = .ok (.getfield 41, 3) := by decide +kernel
theorem dX5_idle_61 : decode cX5_idle 61 = .ok (.aload_n 0, 1) := by decide +kernel
theorem dX5_idle_62 : decode cX5_idle 62 = .ok (.getfield 34, 3) := by decide +kernel
theorem dX5_idle_65 : decode cX5_idle 65 = .ok (.iload_n 1, 1) := by decide +kernel
theorem dX5_idle_66 : decode cX5_idle 66 = .ok (.iload 6, 2) := by decide +kernel
theorem dX5_idle_68 : decode cX5_idle 68 = .ok (.invokevirtual 268, 3) := by decide +kernel
theorem dX5_idle_71 : decode cX5_idle 71 = .ok (.invokevirtual 139, 3) := by decide +kernel
theorem dX5_idle_74 : decode cX5_idle 74 = .ok (.iload 5, 2) := by decide +kernel
theorem dX5_idle_76 : decode cX5_idle 76 = .ok (.aload_n 0, 1) := by decide +kernel
theorem dX5_idle_77 : decode cX5_idle 77 = .ok (.getfield 41, 3) := by decide +kernel
theorem dX5_idle_80 : decode cX5_idle 80 = .ok (.getfield 231, 3) := by decide +kernel
theorem dX5_idle_83 : decode cX5_idle 83 = .ok (.iload 7, 2) := by decide +kernel
theorem dX5_idle_85 : decode cX5_idle 85 = .ok (.if_icmp .ne 7, 3) := by decide +kernel
theorem dX5_idle_88 : decode cX5_idle 88 = .ok (.iconst 1, 1) := by decide +kernel
theorem dX5_idle_89 : decode cX5_idle 89 = .ok (.goto 4, 3) := by decide +kernel
theorem dX5_idle_92 : decode cX5_idle 92 = .ok (.iconst 0, 1) := by decide +kernel
theorem dX5_idle_93 : decode cX5_idle 93 = .ok (.invokestatic 161, 3) := by decide +kernel
theorem dX5_idle_96 : decode cX5_idle 96 = .ok (.iadd, 1) := by decide +kernel
theorem dX5_idle_97 : decode cX5_idle 97 = .ok (.istore 5, 2) := by decide +kernel
theorem dX5_idle_99 : decode cX5_idle 99 = .ok (.iinc 6 1, 3) := by decide +kernel
theorem dX5_idle_102 : decode cX5_idle 102 = .ok (.goto (-60), 3) := by decide +kernel
theorem dX5_idle_105 : decode cX5_idle 105 = .ok (.iload 5, 2) := by decide +kernel
theorem dX5_idle_107 : decode cX5_idle 107 = .ok (.ireturn, 1) := by decide +kernel
set_option maxRecDepth 20000 in
theorem ggX5_lefts_X0_isOne : GoodIn wsX5_lefts wsX0_isOne := goodIn_r _ [7, 8, 9, 10, 11, 105, 106, 107, 108, 109, 110, 111, 112, 113, 114, 115, 116, 117, 118] (by decide +kernel) (by decide +kernel)
set_option maxRecDepth 20000 in
theorem gX5_lefts_X0_isOne : GoodIn wsX5_lefts (wsV RX5 109 RX0 yX0_isOne wsX0_isOne) := goodIn_app (goodIn_of _ (by decide +kernel)) ggX5_lefts_X0_isOne
set_option maxRecDepth 20000 in
theorem ggX5_lefts_X5_isFaces : GoodIn wsX5_lefts wsX5_isFaces := goodIn_r _ [14, 15, 9, 10, 11] (by decide +kernel) (by decide +kernel)
set_option maxRecDepth 20000 in
theorem gX5_lefts_X5_isFaces : GoodIn wsX5_lefts (va_wsS RX5 169 yX5_isFaces wsX5_isFaces) := goodIn_app (goodIn_of _ (by decide +kernel)) ggX5_lefts_X5_isFaces
set_option maxRecDepth 20000 in
theorem ggX5_lefts_X5_refuse : GoodIn wsX5_lefts wsX5_refuse := goodIn_r _ [19, 20, 15, 9, 10, 11, 83, 84, 85, 86, 87, 88, 89, 90, 91, 92, 93] (by decide +kernel) (by decide +kernel)
set_option maxRecDepth 20000 in
theorem gX5_lefts_X5_refuse : GoodIn wsX5_lefts (wsV RX5 76 RX5 yX5_refuse wsX5_refuse) := goodIn_app (goodIn_of _ (by decide +kernel)) ggX5_lefts_X5_refuse
set_option maxRecDepth 20000 in
theorem ggX5_lefts_X4_begin : GoodIn wsX5_lefts wsX4_begin := goodIn_r _ [25, 26, 27, 28, 29, 30, 31, 32, 33, 34, 35, 36, 37, 4, 5, 6, 7, 8, 9, 10, 11, 94, 95, 96, 97, 98, 99, 100, 101, 102, 103, 104, 105, 106, 107, 108, 109, 110, 111, 112, 113, 114, 115, 116, 117, 118] (by decide +kernel) (by decide +kernel)
set_option maxRecDepth 20000 in
theorem gX5_lefts_X4_begin : GoodIn wsX5_lefts (wsV RX5 136 RX4 yX4_begin wsX4_begin) := goodIn_app (goodIn_of _ (by decide +kernel)) ggX5_lefts_X4_begin
set_option maxRecDepth 20000 in
theorem ggX5_lefts_X4_step : GoodIn wsX5_lefts wsX4_step := goodIn_r _ [41, 32, 42, 43, 44, 24, 45, 33, 46, 47, 48, 49, 26, 30, 31, 50, 51, 52, 6, 53, 54, 55, 56, 57, 58, 59, 60, 61, 62, 63, 64, 65, 66, 67, 68, 69, 27, 29, 34, 28, 70, 71, 72, 73, 74, 75, 76, 77, 78, 35, 36, 79, 80, 81, 82, 94, 95, 96, 97, 98, 99, 100, 101, 102, 103, 104, 105, 106, 107, 108, 109, 110, 111, 112, 113, 114, 115, 116, 117, 118] (by decide +kernel) (by decide +kernel)
set_option maxRecDepth 20000 in
theorem gX5_lefts_X4_step : GoodIn wsX5_lefts (wsV RX5 139 RX4 yX4_step wsX4_step) := goodIn_app (goodIn_of _ (by decide +kernel)) ggX5_lefts_X4_step
theorem dX5_lefts_0 : decode cX5_lefts 0 = .ok (.aload_n 0, 1) := by decide +kernel
theorem dX5_lefts_1 : decode cX5_lefts 1 = .ok (.getfield 10, 3) := by decide +kernel
theorem dX5_lefts_4 : decode cX5_lefts 4 = .ok (.iload_n 1, 1) := by decide +kernel
theorem dX5_lefts_5 : decode cX5_lefts 5 = .ok (.invokevirtual 109, 3) := by decide +kernel
theorem dX5_lefts_8 : decode cX5_lefts 8 = .ok (.ifCond .eq 10, 3) := by decide +kernel
theorem dX5_lefts_11 : decode cX5_lefts 11 = .ok (.iload_n 2, 1) := by decide +kernel
theorem dX5_lefts_12 : decode cX5_lefts 12 = .ok (.invokestatic 169, 3) := by decide +kernel
theorem dX5_lefts_15 : decode cX5_lefts 15 = .ok (.ifCond .ne 10, 3) := by decide +kernel
theorem dX5_lefts_18 : decode cX5_lefts 18 = .ok (.aload_n 0, 1) := by decide +kernel
theorem dX5_lefts_19 : decode cX5_lefts 19 = .ok (.bipush (-2), 2) := by decide +kernel
theorem dX5_lefts_21 : decode cX5_lefts 21 = .ok (.invokevirtual 76, 3) := by decide +kernel
theorem dX5_lefts_24 : decode cX5_lefts 24 = .ok (.ireturn, 1) := by decide +kernel
theorem dX5_lefts_25 : decode cX5_lefts 25 = .ok (.aload_n 0, 1) := by decide +kernel
theorem dX5_lefts_26 : decode cX5_lefts 26 = .ok (.getfield 41, 3) := by decide +kernel
theorem dX5_lefts_29 : decode cX5_lefts 29 = .ok (.iload_n 1, 1) := by decide +kernel
theorem dX5_lefts_30 : decode cX5_lefts 30 = .ok (.invokevirtual 136, 3) := by decide +kernel
theorem dX5_lefts_33 : decode cX5_lefts 33 = .ok (.iconst 0, 1) := by decide +kernel
theorem dX5_lefts_34 : decode cX5_lefts 34 = .ok (.istore_n 3, 1) := by decide +kernel
theorem dX5_lefts_35 : decode cX5_lefts 35 = .ok (.iload_n 3, 1) := by decide +kernel
theorem dX5_lefts_36 : decode cX5_lefts 36 = .ok (.bipush 20, 2) := by decide +kernel
theorem dX5_lefts_38 : decode cX5_lefts 38 = .ok (.if_icmp .gt 30, 3) := by decide +kernel
theorem dX5_lefts_41 : decode cX5_lefts 41 = .ok (.aload_n 0, 1) := by decide +kernel
theorem dX5_lefts_42 : decode cX5_lefts 42 = .ok (.getfield 41, 3) := by decide +kernel
theorem dX5_lefts_45 : decode cX5_lefts 45 = .ok (.getfield 142, 3) := by decide +kernel
theorem dX5_lefts_48 : decode cX5_lefts 48 = .ok (.iload_n 2, 1) := by decide +kernel
theorem dX5_lefts_49 : decode cX5_lefts 49 = .ok (.if_icmp .ne 5, 3) := by decide +kernel
theorem dX5_lefts_52 : decode cX5_lefts 52 = .ok (.iload_n 3, 1) := by decide +kernel
theorem dX5_lefts_53 : decode cX5_lefts 53 = .ok (.ireturn, 1) := by decide +kernel
theorem dX5_lefts_54 : decode cX5_lefts 54 = .ok (.aload_n 0, 1) := by decide +kernel
theorem dX5_lefts_55 : decode cX5_lefts 55 = .ok (.getfield 41, 3) := by decide +kernel
theorem dX5_lefts_58 : decode cX5_lefts 58 = .ok (.iconst 1, 1) := by decide +kernel
theorem dX5_lefts_59 : decode cX5_lefts 59 = .ok (.invokevirtual 139, 3) := by decide +kernel
theorem dX5_lefts_62 : decode cX5_lefts 62 = .ok (.iinc 3 1, 3) := by decide +kernel
theorem dX5_lefts_65 : decode cX5_lefts 65 = .ok (.goto (-30), 3) := by decide +kernel
theorem dX5_lefts_68 : decode cX5_lefts 68 = .ok (.iconst (-1), 1) := by decide +kernel
theorem dX5_lefts_69 : decode cX5_lefts 69 = .ok (.ireturn, 1) := by decide +kernel
set_option maxRecDepth 20000 in
theorem ggX5_reach_X0_isOne : GoodIn wsX5_reach wsX0_isOne := goodIn_r _ [7, 8, 9, 10, 11, 116, 117, 118, 119, 120, 121, 122, 123, 124, 125, 126, 127, 128, 129] (by decide +kernel) (by decide +kernel)
set_option maxRecDepth 20000 in
theorem gX5_reach_X0_isOne : GoodIn wsX5_reach (wsV RX5 109 RX0 yX0_isOne wsX0_isOne) := goodIn_app (goodIn_of _ (by decide +kernel)) ggX5_reach_X0_isOne
set_option maxRecDepth 20000 in
theorem ggX5_reach_X5_isWithin : GoodIn wsX5_reach wsX5_isWithin := goodIn_r _ [11] (by decide +kernel) (by decide +kernel)
set_option maxRecDepth 20000 in
theorem gX5_reach_X5_isWithin : GoodIn wsX5_reach (va_wsS RX5 72 yX5_isWithin wsX5_isWithin) := goodIn_app (goodIn_of _ (by decide +kernel)) ggX5_reach_X5_isWithin
set_option maxRecDepth 20000 in
theorem ggX5_reach_X5_refuse : GoodIn wsX5_reach wsX5_refuse := goodIn_r _ [16, 17, 12, 9, 10, 11, 105, 106, 107, 108, 109, 110, 111, 112, 113, 114, 115] (by decide +kernel) (by decide +kernel)
set_option maxRecDepth 20000 in
theorem gX5_reach_X5_refuse : GoodIn wsX5_reach (wsV RX5 76 RX5 yX5_refuse wsX5_refuse) := goodIn_app (goodIn_of _ (by decide +kernel)) ggX5_reach_X5_refuse
set_option maxRecDepth 20000 in
theorem ggX5_reach_X2_countReached : GoodIn wsX5_reach wsX2_countReached := goodIn_r _ [22, 23, 24, 25, 26, 27, 28, 29, 30, 31, 32, 33, 34, 35, 36, 37, 38, 39, 40, 41, 42, 43, 4, 5, 6, 7, 8, 9, 10, 11, 44, 45, 21, 46, 47, 48, 49, 50, 51, 52, 53, 54, 55, 56, 57, 58, 59, 60, 61, 62, 63, 64, 65, 66, 67, 68, 69, 70, 71, 72, 73, 74, 75, 76, 77, 78, 79, 80, 81, 82, 83, 84, 85, 86, 87, 88, 89, 90, 91, 92, 93, 94, 95, 96, 97, 98, 99, 100, 101, 102, 103, 104, 130, 131, 132, 133, 134, 135, 136, 137, 138, 139, 140, 141, 142, 143, 144, 145, 116, 117, 118, 119, 120, 121, 122, 123, 124, 125, 126, 127, 128, 129] (by decide +kernel) (by decide +kernel)
set_option maxRecDepth 20000 in
theorem gX5_reach_X2_countReached : GoodIn wsX5_reach (wsV RX5 271 RX2 yX2_countReached wsX2_countReached) := goodIn_app (goodIn_of _ (by decide +kernel)) ggX5_reach_X2_countReached
theorem dX5_reach_0 : decode cX5_reach 0 = .ok (.aload_n 0, 1) := by decide +kernel
theorem dX5_reach_1 : decode cX5_reach 1 = .ok (.getfield 10, 3) := by decide +kernel
theorem dX5_reach_4 : decode cX5_reach 4 = .ok (.iload_n 1, 1) := by decide +kernel
theorem dX5_reach_5 : decode cX5_reach 5 = .ok (.invokevirtual 109, 3) := by decide +kernel
theorem dX5_reach_8 : decode cX5_reach 8 = .ok (.ifCond .eq 13, 3) := by decide +kernel
theorem dX5_reach_11 : decode cX5_reach 11 = .ok (.iload_n 2, 1) := by decide +kernel
theorem dX5_reach_12 : decode cX5_reach 12 = .ok (.iconst 0, 1) := by decide +kernel
theorem dX5_reach_13 : decode cX5_reach 13 = .ok (.bipush 6, 2) := by decide +kernel
theorem dX5_reach_15 : decode cX5_reach 15 = .ok (.invokestatic 72, 3) := by decide +kernel
theorem dX5_reach_18 : decode cX5_reach 18 = .ok (.ifCond .ne 10, 3) := by decide +kernel
theorem dX5_reach_21 : decode cX5_reach 21 = .ok (.aload_n 0, 1) := by decide +kernel
theorem dX5_reach_22 : decode cX5_reach 22 = .ok (.bipush (-2), 2) := by decide +kernel
theorem dX5_reach_24 : decode cX5_reach 24 = .ok (.invokevirtual 76, 3) := by decide +kernel
theorem dX5_reach_27 : decode cX5_reach 27 = .ok (.ireturn, 1) := by decide +kernel
theorem dX5_reach_28 : decode cX5_reach 28 = .ok (.aload_n 0, 1) := by decide +kernel
theorem dX5_reach_29 : decode cX5_reach 29 = .ok (.getfield 53, 3) := by decide +kernel
theorem dX5_reach_32 : decode cX5_reach 32 = .ok (.iload_n 1, 1) := by decide +kernel
theorem dX5_reach_33 : decode cX5_reach 33 = .ok (.iload_n 2, 1) := by decide +kernel
theorem dX5_reach_34 : decode cX5_reach 34 = .ok (.invokevirtual 271, 3) := by decide +kernel
theorem dX5_reach_37 : decode cX5_reach 37 = .ok (.ireturn, 1) := by decide +kernel
set_option maxRecDepth 20000 in
theorem ggX5_bloc_X5_isWithin : GoodIn wsX5_bloc wsX5_isWithin := goodIn_r _ [5] (by decide +kernel) (by decide +kernel)
set_option maxRecDepth 20000 in
theorem gX5_bloc_X5_isWithin : GoodIn wsX5_bloc (va_wsS RX5 72 yX5_isWithin wsX5_isWithin) := goodIn_app (goodIn_of _ (by decide +kernel)) ggX5_bloc_X5_isWithin
set_option maxRecDepth 20000 in
theorem ggX5_bloc_X5_refuse : GoodIn wsX5_bloc wsX5_refuse := goodIn_r _ [9, 10, 2, 3, 4, 5, 11, 12, 13, 14, 15, 16, 17, 18, 19, 20, 21] (by decide +kernel) (by decide +kernel)
set_option maxRecDepth 20000 in
theorem gX5_bloc_X5_refuse : GoodIn wsX5_bloc (wsV RX5 76 RX5 yX5_refuse wsX5_refuse) := goodIn_app (goodIn_of _ (by decide +kernel)) ggX5_bloc_X5_refuse
theorem dX5_bloc_0 : decode cX5_bloc 0 = .ok (.iload_n 1, 1) := by decide +kernel
theorem dX5_bloc_1 : decode cX5_bloc 1 = .ok (.iconst 0, 1) := by decide +kernel
theorem dX5_bloc_2 : decode cX5_bloc 2 = .ok (.iconst 1, 1) := by decide +kernel
theorem dX5_bloc_3 : decode cX5_bloc 3 = .ok (.invokestatic 72, 3) := by decide +kernel
theorem dX5_bloc_6 : decode cX5_bloc 6 = .ok (.ifCond .ne 10, 3) := by decide +kernel
theorem dX5_bloc_9 : decode cX5_bloc 9 = .ok (.aload_n 0, 1) := by decide +kernel
theorem dX5_bloc_10 : decode cX5_bloc 10 = .ok (.bipush (-2), 2) := by decide +kernel
theorem dX5_bloc_12 : decode cX5_bloc 12 = .ok (.invokevirtual 76, 3) := by decide +kernel
theorem dX5_bloc_15 : decode cX5_bloc 15 = .ok (.ireturn, 1) := by decide +kernel
theorem dX5_bloc_16 : decode cX5_bloc 16 = .ok (.iconst 0, 1) := by decide +kernel
theorem dX5_bloc_17 : decode cX5_bloc 17 = .ok (.istore_n 2, 1) := by decide +kernel
theorem dX5_bloc_18 : decode cX5_bloc 18 = .ok (.iconst 0, 1) := by decide +kernel
theorem dX5_bloc_19 : decode cX5_bloc 19 = .ok (.istore_n 3, 1) := by decide +kernel
theorem dX5_bloc_20 : decode cX5_bloc 20 = .ok (.iload_n 3, 1) := by decide +kernel
theorem dX5_bloc_21 : decode cX5_bloc 21 = .ok (.aload_n 0, 1) := by decide +kernel
theorem dX5_bloc_22 : decode cX5_bloc 22 = .ok (.getfield 10, 3) := by decide +kernel
theorem dX5_bloc_25 : decode cX5_bloc 25 = .ok (.getfield 237, 3) := by decide +kernel
theorem dX5_bloc_28 : decode cX5_bloc 28 = .ok (.if_icmp .ge 34, 3) := by decide +kernel
theorem dX5_bloc_31 : decode cX5_bloc 31 = .ok (.aload_n 0, 1) := by decide +kernel
theorem dX5_bloc_32 : decode cX5_bloc 32 = .ok (.getfield 10, 3) := by decide +kernel
theorem dX5_bloc_35 : decode cX5_bloc 35 = .ok (.getfield 189, 3) := by decide +kernel
theorem dX5_bloc_38 : decode cX5_bloc 38 = .ok (.iload_n 3, 1) := by decide +kernel
theorem dX5_bloc_39 : decode cX5_bloc 39 = .ok (.iaload, 1) := by decide +kernel
theorem dX5_bloc_40 : decode cX5_bloc 40 = .ok (.iload_n 1, 1) := by decide +kernel
theorem dX5_bloc_41 : decode cX5_bloc 41 = .ok (.if_icmp .ne 15, 3) := by decide +kernel
theorem dX5_bloc_44 : decode cX5_bloc 44 = .ok (.iload_n 2, 1) := by decide +kernel
theorem dX5_bloc_45 : decode cX5_bloc 45 = .ok (.aload_n 0, 1) := by decide +kernel
theorem dX5_bloc_46 : decode cX5_bloc 46 = .ok (.getfield 10, 3) := by decide +kernel
theorem dX5_bloc_49 : decode cX5_bloc 49 = .ok (.getfield 133, 3) := by decide +kernel
theorem dX5_bloc_52 : decode cX5_bloc 52 = .ok (.iload_n 3, 1) := by decide +kernel
theorem dX5_bloc_53 : decode cX5_bloc 53 = .ok (.iaload, 1) := by decide +kernel
theorem dX5_bloc_54 : decode cX5_bloc 54 = .ok (.iadd, 1) := by decide +kernel
theorem dX5_bloc_55 : decode cX5_bloc 55 = .ok (.istore_n 2, 1) := by decide +kernel
theorem dX5_bloc_56 : decode cX5_bloc 56 = .ok (.iinc 3 1, 3) := by decide +kernel
theorem dX5_bloc_59 : decode cX5_bloc 59 = .ok (.goto (-39), 3) := by decide +kernel
theorem dX5_bloc_62 : decode cX5_bloc 62 = .ok (.iload_n 2, 1) := by decide +kernel
theorem dX5_bloc_63 : decode cX5_bloc 63 = .ok (.ireturn, 1) := by decide +kernel
set_option maxRecDepth 20000 in
theorem ggX5_swing_X0_isOne : GoodIn wsX5_swing wsX0_isOne := goodIn_r _ [6, 7, 8, 9, 10, 38, 39, 40, 41, 42, 43, 44, 45, 46, 47, 48, 49, 50, 51] (by decide +kernel) (by decide +kernel)
set_option maxRecDepth 20000 in
theorem gX5_swing_X0_isOne : GoodIn wsX5_swing (wsV RX5 109 RX0 yX0_isOne wsX0_isOne) := goodIn_app (goodIn_of _ (by decide +kernel)) ggX5_swing_X0_isOne
set_option maxRecDepth 20000 in
theorem ggX5_swing_X5_refuse : GoodIn wsX5_swing wsX5_refuse := goodIn_r _ [14, 15, 16, 8, 9, 10, 27, 28, 29, 30, 31, 32, 33, 34, 35, 36, 37] (by decide +kernel) (by decide +kernel)
set_option maxRecDepth 20000 in
theorem gX5_swing_X5_refuse : GoodIn wsX5_swing (wsV RX5 76 RX5 yX5_refuse wsX5_refuse) := goodIn_app (goodIn_of _ (by decide +kernel)) ggX5_swing_X5_refuse
set_option maxRecDepth 20000 in
theorem ggX5_swing_X0_carriedIf : GoodIn wsX5_swing wsX0_carriedIf := goodIn_r _ [20, 7, 21, 22, 23, 38, 39, 40, 41, 42, 43, 44, 45, 46, 47, 48, 49, 50, 51] (by decide +kernel) (by decide +kernel)
set_option maxRecDepth 20000 in
theorem gX5_swing_X0_carriedIf : GoodIn wsX5_swing (wsV RX5 274 RX0 yX0_carriedIf wsX0_carriedIf) := goodIn_app (goodIn_of _ (by decide +kernel)) ggX5_swing_X0_carriedIf
set_option maxRecDepth 20000 in
theorem ggX5_swing_X5_asNumber : GoodIn wsX5_swing wsX5_asNumber := goodIn_r _ [26] (by decide +kernel) (by decide +kernel)
set_option maxRecDepth 20000 in
theorem gX5_swing_X5_asNumber : GoodIn wsX5_swing (va_wsS RX5 161 yX5_asNumber wsX5_asNumber) := goodIn_app (goodIn_of _ (by decide +kernel)) ggX5_swing_X5_asNumber
theorem dX5_swing_0 : decode cX5_swing 0 = .ok (.aload_n 0, 1) := by decide +kernel
theorem dX5_swing_1 : decode cX5_swing 1 = .ok (.getfield 10, 3) := by decide +kernel
theorem dX5_swing_4 : decode cX5_swing 4 = .ok (.iload_n 1, 1) := by decide +kernel
theorem dX5_swing_5 : decode cX5_swing 5 = .ok (.invokevirtual 109, 3) := by decide +kernel
theorem dX5_swing_8 : decode cX5_swing 8 = .ok (.ifCond .ne 10, 3) := by decide +kernel
theorem dX5_swing_11 : decode cX5_swing 11 = .ok (.aload_n 0, 1) := by decide +kernel
theorem dX5_swing_12 : decode cX5_swing 12 = .ok (.bipush (-2), 2) := by decide +kernel
theorem dX5_swing_14 : decode cX5_swing 14 = .ok (.invokevirtual 76, 3) := by decide +kernel
theorem dX5_swing_17 : decode cX5_swing 17 = .ok (.ireturn, 1) := by decide +kernel
theorem dX5_swing_18 : decode cX5_swing 18 = .ok (.aload_n 0, 1) := by decide +kernel
theorem dX5_swing_19 : decode cX5_swing 19 = .ok (.getfield 10, 3) := by decide +kernel
theorem dX5_swing_22 : decode cX5_swing 22 = .ok (.iconst 1, 1) := by decide +kernel
theorem dX5_swing_23 : decode cX5_swing 23 = .ok (.iload_n 1, 1) := by decide +kernel
theorem dX5_swing_24 : decode cX5_swing 24 = .ok (.ishl, 1) := by decide +kernel
theorem dX5_swing_25 : decode cX5_swing 25 = .ok (.invokevirtual 274, 3) := by decide +kernel
theorem dX5_swing_28 : decode cX5_swing 28 = .ok (.aload_n 0, 1) := by decide +kernel
theorem dX5_swing_29 : decode cX5_swing 29 = .ok (.getfield 10, 3) := by decide +kernel
theorem dX5_swing_32 : decode cX5_swing 32 = .ok (.iconst 0, 1) := by decide +kernel
theorem dX5_swing_33 : decode cX5_swing 33 = .ok (.invokevirtual 274, 3) := by decide +kernel
theorem dX5_swing_36 : decode cX5_swing 36 = .ok (.if_icmp .eq 7, 3) := by decide +kernel
theorem dX5_swing_39 : decode cX5_swing 39 = .ok (.iconst 1, 1) := by decide +kernel
theorem dX5_swing_40 : decode cX5_swing 40 = .ok (.goto 4, 3) := by decide +kernel
theorem dX5_swing_43 : decode cX5_swing 43 = .ok (.iconst 0, 1) := by decide +kernel
theorem dX5_swing_44 : decode cX5_swing 44 = .ok (.invokestatic 161, 3) := by decide +kernel
theorem dX5_swing_47 : decode cX5_swing 47 = .ok (.ireturn, 1) := by decide +kernel
set_option maxRecDepth 20000 in
theorem ggX5_mightiest_X5_refuse : GoodIn wsX5_mightiest wsX5_refuse := goodIn_r _ [6, 7, 8, 9, 5, 10, 24, 25, 26, 27, 28, 29, 30, 31, 32, 33, 34] (by decide +kernel) (by decide +kernel)
set_option maxRecDepth 20000 in
theorem gX5_mightiest_X5_refuse : GoodIn wsX5_mightiest (wsV RX5 76 RX5 yX5_refuse wsX5_refuse) := goodIn_app (goodIn_of _ (by decide +kernel)) ggX5_mightiest_X5_refuse
set_option maxRecDepth 20000 in
theorem ggX5_mightiest_X0_powerOf : GoodIn wsX5_mightiest wsX0_powerOf := goodIn_r _ [15, 16, 17, 18, 19, 20, 14, 21, 22, 5, 23, 35, 36, 37, 38, 39, 40, 41, 42, 43, 44, 45, 46, 47, 48] (by decide +kernel) (by decide +kernel)
set_option maxRecDepth 20000 in
theorem gX5_mightiest_X0_powerOf : GoodIn wsX5_mightiest (wsV RX5 197 RX0 yX0_powerOf wsX0_powerOf) := goodIn_app (goodIn_of _ (by decide +kernel)) ggX5_mightiest_X0_powerOf
theorem dX5_mightiest_0 : decode cX5_mightiest 0 = .ok (.aload_n 0, 1) := by decide +kernel
theorem dX5_mightiest_1 : decode cX5_mightiest 1 = .ok (.getfield 10, 3) := by decide +kernel
theorem dX5_mightiest_4 : decode cX5_mightiest 4 = .ok (.getfield 237, 3) := by decide +kernel
theorem dX5_mightiest_7 : decode cX5_mightiest 7 = .ok (.ifCond .ne 10, 3) := by decide +kernel
theorem dX5_mightiest_10 : decode cX5_mightiest 10 = .ok (.aload_n 0, 1) := by decide +kernel
theorem dX5_mightiest_11 : decode cX5_mightiest 11 = .ok (.bipush (-5), 2) := by decide +kernel
theorem dX5_mightiest_13 : decode cX5_mightiest 13 = .ok (.invokevirtual 76, 3) := by decide +kernel
theorem dX5_mightiest_16 : decode cX5_mightiest 16 = .ok (.ireturn, 1) := by decide +kernel
theorem dX5_mightiest_17 : decode cX5_mightiest 17 = .ok (.iconst 0, 1) := by decide +kernel
theorem dX5_mightiest_18 : decode cX5_mightiest 18 = .ok (.istore_n 1, 1) := by decide +kernel
theorem dX5_mightiest_19 : decode cX5_mightiest 19 = .ok (.iconst (-1), 1) := by decide +kernel
theorem dX5_mightiest_20 : decode cX5_mightiest 20 = .ok (.istore_n 2, 1) := by decide +kernel
theorem dX5_mightiest_21 : decode cX5_mightiest 21 = .ok (.iconst 0, 1) := by decide +kernel
theorem dX5_mightiest_22 : decode cX5_mightiest 22 = .ok (.istore_n 3, 1) := by decide +kernel
theorem dX5_mightiest_23 : decode cX5_mightiest 23 = .ok (.iload_n 3, 1) := by decide +kernel
theorem dX5_mightiest_24 : decode cX5_mightiest 24 = .ok (.aload_n 0, 1) := by decide +kernel
theorem dX5_mightiest_25 : decode cX5_mightiest 25 = .ok (.getfield 10, 3) := by decide +kernel
theorem dX5_mightiest_28 : decode cX5_mightiest 28 = .ok (.getfield 237, 3) := by decide +kernel
theorem dX5_mightiest_31 : decode cX5_mightiest 31 = .ok (.if_icmp .ge 30, 3) := by decide +kernel
theorem dX5_mightiest_34 : decode cX5_mightiest 34 = .ok (.aload_n 0, 1) := by decide +kernel
theorem dX5_mightiest_35 : decode cX5_mightiest 35 = .ok (.getfield 10, 3) := by decide +kernel
theorem dX5_mightiest_38 : decode cX5_mightiest 38 = .ok (.iload_n 3, 1) := by decide +kernel
theorem dX5_mightiest_39 : decode cX5_mightiest 39 = .ok (.invokevirtual 197, 3) := by decide +kernel
theorem dX5_mightiest_42 : decode cX5_mightiest 42 = .ok (.istore 4, 2) := by decide +kernel
theorem dX5_mightiest_44 : decode cX5_mightiest 44 = .ok (.iload 4, 2) := by decide +kernel
theorem dX5_mightiest_46 : decode cX5_mightiest 46 = .ok (.iload_n 2, 1) := by decide +kernel
theorem dX5_mightiest_47 : decode cX5_mightiest 47 = .ok (.if_icmp .le 8, 3) := by decide +kernel
theorem dX5_mightiest_50 : decode cX5_mightiest 50 = .ok (.iload 4, 2) := by decide +kernel
theorem dX5_mightiest_52 : decode cX5_mightiest 52 = .ok (.istore_n 2, 1) := by decide +kernel
theorem dX5_mightiest_53 : decode cX5_mightiest 53 = .ok (.iload_n 3, 1) := by decide +kernel
theorem dX5_mightiest_54 : decode cX5_mightiest 54 = .ok (.istore_n 1, 1) := by decide +kernel
theorem dX5_mightiest_55 : decode cX5_mightiest 55 = .ok (.iinc 3 1, 3) := by decide +kernel
theorem dX5_mightiest_58 : decode cX5_mightiest 58 = .ok (.goto (-35), 3) := by decide +kernel
theorem dX5_mightiest_61 : decode cX5_mightiest 61 = .ok (.iload_n 1, 1) := by decide +kernel
theorem dX5_mightiest_62 : decode cX5_mightiest 62 = .ok (.ireturn, 1) := by decide +kernel
set_option maxRecDepth 20000 in
theorem ggX5_agreed_X4_begin : GoodIn wsX5_agreed wsX4_begin := goodIn_r _ [7, 8, 9, 10, 11, 12, 13, 14, 15, 16, 17, 18, 19, 20, 21, 22, 23, 24, 25, 26, 27, 73, 74, 75, 76, 77, 78, 79, 80, 81, 82, 83, 59, 60, 61, 62, 63, 64, 65, 66, 67, 68, 69, 70, 71, 72] (by decide +kernel) (by decide +kernel)
set_option maxRecDepth 20000 in
theorem gX5_agreed_X4_begin : GoodIn wsX5_agreed (wsV RX5 136 RX4 yX4_begin wsX4_begin) := goodIn_app (goodIn_of _ (by decide +kernel)) ggX5_agreed_X4_begin
set_option maxRecDepth 20000 in
theorem ggX5_agreed_X4_goesBy : GoodIn wsX5_agreed wsX4_goesBy := goodIn_r _ [31, 9, 8, 11, 16, 10, 12, 32, 33, 34, 22, 35, 36, 37, 38, 39, 40, 41, 42, 43, 44, 45, 46, 6, 47, 17, 18, 73, 74, 75, 76, 77, 78, 79, 80, 81, 82, 83, 59, 60, 61, 62, 63, 64, 65, 66, 67, 68, 69, 70, 71, 72] (by decide +kernel) (by decide +kernel)
set_option maxRecDepth 20000 in
theorem gX5_agreed_X4_goesBy : GoodIn wsX5_agreed (wsV RX5 277 RX4 yX4_goesBy wsX4_goesBy) := goodIn_app (goodIn_of _ (by decide +kernel)) ggX5_agreed_X4_goesBy
theorem dX5_agreed_0 : decode cX5_agreed 0 = .ok (.iconst 0, 1) := by decide +kernel
theorem dX5_agreed_1 : decode cX5_agreed 1 = .ok (.istore_n 1, 1) := by decide +kernel
theorem dX5_agreed_2 : decode cX5_agreed 2 = .ok (.iconst 0, 1) := by decide +kernel
theorem dX5_agreed_3 : decode cX5_agreed 3 = .ok (.istore_n 2, 1) := by decide +kernel
theorem dX5_agreed_4 : decode cX5_agreed 4 = .ok (.iload_n 2, 1) := by decide +kernel
theorem dX5_agreed_5 : decode cX5_agreed 5 = .ok (.aload_n 0, 1) := by decide +kernel
theorem dX5_agreed_6 : decode cX5_agreed 6 = .ok (.getfield 10, 3) := by decide +kernel
theorem dX5_agreed_9 : decode cX5_agreed 9 = .ok (.getfield 237, 3) := by decide +kernel
theorem dX5_agreed_12 : decode cX5_agreed 12 = .ok (.if_icmp .ge 41, 3) := by decide +kernel
theorem dX5_agreed_15 : decode cX5_agreed 15 = .ok (.aload_n 0, 1) := by decide +kernel
theorem dX5_agreed_16 : decode cX5_agreed 16 = .ok (.getfield 41, 3) := by decide +kernel
theorem dX5_agreed_19 : decode cX5_agreed 19 = .ok (.iload_n 2, 1) := by decide +kernel
theorem dX5_agreed_20 : decode cX5_agreed 20 = .ok (.invokevirtual 136, 3) := by decide +kernel
theorem dX5_agreed_23 : decode cX5_agreed 23 = .ok (.aload_n 0, 1) := by decide +kernel
theorem dX5_agreed_24 : decode cX5_agreed 24 = .ok (.getfield 41, 3) := by decide +kernel
theorem dX5_agreed_27 : decode cX5_agreed 27 = .ok (.iconst 1, 1) := by decide +kernel
theorem dX5_agreed_28 : decode cX5_agreed 28 = .ok (.invokevirtual 277, 3) := by decide +kernel
theorem dX5_agreed_31 : decode cX5_agreed 31 = .ok (.aload_n 0, 1) := by decide +kernel
theorem dX5_agreed_32 : decode cX5_agreed 32 = .ok (.getfield 10, 3) := by decide +kernel
theorem dX5_agreed_35 : decode cX5_agreed 35 = .ok (.getfield 180, 3) := by decide +kernel
theorem dX5_agreed_38 : decode cX5_agreed 38 = .ok (.if_icmp .ne 9, 3) := by decide +kernel
theorem dX5_agreed_41 : decode cX5_agreed 41 = .ok (.iload_n 1, 1) := by decide +kernel
theorem dX5_agreed_42 : decode cX5_agreed 42 = .ok (.iconst 1, 1) := by decide +kernel
theorem dX5_agreed_43 : decode cX5_agreed 43 = .ok (.iload_n 2, 1) := by decide +kernel
theorem dX5_agreed_44 : decode cX5_agreed 44 = .ok (.ishl, 1) := by decide +kernel
theorem dX5_agreed_45 : decode cX5_agreed 45 = .ok (.ior, 1) := by decide +kernel
theorem dX5_agreed_46 : decode cX5_agreed 46 = .ok (.istore_n 1, 1) := by decide +kernel
theorem dX5_agreed_47 : decode cX5_agreed 47 = .ok (.iinc 2 1, 3) := by decide +kernel
theorem dX5_agreed_50 : decode cX5_agreed 50 = .ok (.goto (-46), 3) := by decide +kernel
theorem dX5_agreed_53 : decode cX5_agreed 53 = .ok (.iload_n 1, 1) := by decide +kernel
theorem dX5_agreed_54 : decode cX5_agreed 54 = .ok (.ireturn, 1) := by decide +kernel
set_option maxRecDepth 20000 in
theorem ggX5_carries_X0_carriedIf : GoodIn wsX5_carries wsX0_carriedIf := goodIn_r _ [6, 7, 8, 9, 10, 22, 23, 24, 25, 26, 27, 28, 29, 30, 31, 32, 33, 34, 35] (by decide +kernel) (by decide +kernel)
set_option maxRecDepth 20000 in
theorem gX5_carries_X0_carriedIf : GoodIn wsX5_carries (wsV RX5 274 RX0 yX0_carriedIf wsX0_carriedIf) := goodIn_app (goodIn_of _ (by decide +kernel)) ggX5_carries_X0_carriedIf
theorem dX5_carries_0 : decode cX5_carries 0 = .ok (.aload_n 0, 1) := by decide +kernel
theorem dX5_carries_1 : decode cX5_carries 1 = .ok (.getfield 10, 3) := by decide +kernel
theorem dX5_carries_4 : decode cX5_carries 4 = .ok (.iconst 0, 1) := by decide +kernel
theorem dX5_carries_5 : decode cX5_carries 5 = .ok (.invokevirtual 274, 3) := by decide +kernel
theorem dX5_carries_8 : decode cX5_carries 8 = .ok (.ireturn, 1) := by decide +kernel
set_option maxRecDepth 20000 in
theorem ggX5_turn_X5_isWithin : GoodIn wsX5_turn wsX5_isWithin := goodIn_r _ [5] (by decide +kernel) (by decide +kernel)
set_option maxRecDepth 20000 in
theorem gX5_turn_X5_isWithin : GoodIn wsX5_turn (va_wsS RX5 72 yX5_isWithin wsX5_isWithin) := goodIn_app (goodIn_of _ (by decide +kernel)) ggX5_turn_X5_isWithin
set_option maxRecDepth 20000 in
theorem ggX5_turn_X5_refuse : GoodIn wsX5_turn wsX5_refuse := goodIn_r _ [9, 10, 2, 3, 4, 5, 32, 33, 34, 35, 36, 37, 38, 39, 40, 41, 42] (by decide +kernel) (by decide +kernel)
set_option maxRecDepth 20000 in
theorem gX5_turn_X5_refuse : GoodIn wsX5_turn (wsV RX5 76 RX5 yX5_refuse wsX5_refuse) := goodIn_app (goodIn_of _ (by decide +kernel)) ggX5_turn_X5_refuse
set_option maxRecDepth 20000 in
theorem ggX5_turn_X0_fewestToTurn : GoodIn wsX5_turn wsX0_fewestToTurn := goodIn_r _ [15, 16, 17, 18, 19, 14, 20, 21, 22, 23, 24, 25, 26, 27, 28, 29, 30, 43, 44, 45, 46, 47, 48, 49, 50, 51, 52, 53, 54, 55, 56] (by decide +kernel) (by decide +kernel)
set_option maxRecDepth 20000 in
theorem gX5_turn_X0_fewestToTurn : GoodIn wsX5_turn (wsV RX5 280 RX0 yX0_fewestToTurn wsX0_fewestToTurn) := goodIn_app (goodIn_of _ (by decide +kernel)) ggX5_turn_X0_fewestToTurn
set_option maxRecDepth 20000 in
theorem ggX5_turn_J6_bitCount_0f7a4 : GoodIn wsX5_turn wsJ6_bitCount_0f7a4 := goodIn_r _ [27, 28, 29, 30] (by decide +kernel) (by decide +kernel)
set_option maxRecDepth 20000 in
theorem gX5_turn_J6_bitCount_0f7a4 : GoodIn wsX5_turn (va_wsS RX5 283 yJ6_bitCount_0f7a4 wsJ6_bitCount_0f7a4) := goodIn_app (goodIn_of _ (by decide +kernel)) ggX5_turn_J6_bitCount_0f7a4
theorem dX5_turn_0 : decode cX5_turn 0 = .ok (.iload_n 1, 1) := by decide +kernel
theorem dX5_turn_1 : decode cX5_turn 1 = .ok (.iconst 0, 1) := by decide +kernel
theorem dX5_turn_2 : decode cX5_turn 2 = .ok (.iconst 1, 1) := by decide +kernel
theorem dX5_turn_3 : decode cX5_turn 3 = .ok (.invokestatic 72, 3) := by decide +kernel
theorem dX5_turn_6 : decode cX5_turn 6 = .ok (.ifCond .ne 10, 3) := by decide +kernel
theorem dX5_turn_9 : decode cX5_turn 9 = .ok (.aload_n 0, 1) := by decide +kernel
theorem dX5_turn_10 : decode cX5_turn 10 = .ok (.bipush (-2), 2) := by decide +kernel
theorem dX5_turn_12 : decode cX5_turn 12 = .ok (.invokevirtual 76, 3) := by decide +kernel
theorem dX5_turn_15 : decode cX5_turn 15 = .ok (.ireturn, 1) := by decide +kernel
theorem dX5_turn_16 : decode cX5_turn 16 = .ok (.aload_n 0, 1) := by decide +kernel
theorem dX5_turn_17 : decode cX5_turn 17 = .ok (.getfield 10, 3) := by decide +kernel
theorem dX5_turn_20 : decode cX5_turn 20 = .ok (.invokevirtual 280, 3) := by decide +kernel
theorem dX5_turn_23 : decode cX5_turn 23 = .ok (.istore_n 2, 1) := by decide +kernel
theorem dX5_turn_24 : decode cX5_turn 24 = .ok (.iload_n 1, 1) := by decide +kernel
theorem dX5_turn_25 : decode cX5_turn 25 = .ok (.iconst 1, 1) := by decide +kernel
theorem dX5_turn_26 : decode cX5_turn 26 = .ok (.if_icmp .eq 8, 3) := by decide +kernel
theorem dX5_turn_29 : decode cX5_turn 29 = .ok (.iload_n 2, 1) := by decide +kernel
theorem dX5_turn_30 : decode cX5_turn 30 = .ok (.iconst (-1), 1) := by decide +kernel
theorem dX5_turn_31 : decode cX5_turn 31 = .ok (.if_icmp .ne 7, 3) := by decide +kernel
theorem dX5_turn_34 : decode cX5_turn 34 = .ok (.iload_n 2, 1) := by decide +kernel
theorem dX5_turn_35 : decode cX5_turn 35 = .ok (.goto 7, 3) := by decide +kernel
theorem dX5_turn_38 : decode cX5_turn 38 = .ok (.iload_n 2, 1) := by decide +kernel
theorem dX5_turn_39 : decode cX5_turn 39 = .ok (.invokestatic 283, 3) := by decide +kernel
theorem dX5_turn_42 : decode cX5_turn 42 = .ok (.ireturn, 1) := by decide +kernel
set_option maxRecDepth 20000 in
theorem ggX5_meet_X5_meetingFault : GoodIn wsX5_meet wsX5_meetingFault := goodIn_r _ [7, 8, 9, 10, 6, 11, 12, 13, 14, 15, 16, 17, 18, 19, 20, 21, 22, 23, 24, 25, 26, 27, 28, 29, 30, 31, 32, 33, 34, 35, 36, 37, 38, 39, 40, 41, 42, 43, 44, 45, 46, 47, 48, 49, 50, 51, 52, 53, 54, 55, 56, 57, 58, 59, 60, 61, 62, 63, 147, 148, 149, 150, 151, 152, 153, 154, 155, 156, 157, 158, 159, 160, 161, 162, 163, 164, 165, 166, 167, 168, 169, 170, 171, 172, 173, 174] (by decide +kernel) (by decide +kernel)
set_option maxRecDepth 20000 in
theorem gX5_meet_X5_meetingFault : GoodIn wsX5_meet (wsV RX5 288 RX5 yX5_meetingFault wsX5_meetingFault) := goodIn_app (goodIn_of _ (by decide +kernel)) ggX5_meet_X5_meetingFault
set_option maxRecDepth 20000 in
theorem ggX5_meet_X5_refuse : GoodIn wsX5_meet wsX5_refuse := goodIn_r _ [67, 68, 20, 18, 6, 19, 147, 148, 149, 150, 151, 152, 153, 154, 155, 156, 157] (by decide +kernel) (by decide +kernel)
set_option maxRecDepth 20000 in
theorem gX5_meet_X5_refuse : GoodIn wsX5_meet (wsV RX5 76 RX5 yX5_refuse wsX5_refuse) := goodIn_app (goodIn_of _ (by decide +kernel)) ggX5_meet_X5_refuse
set_option maxRecDepth 20000 in
theorem ggX5_meet_X4_begin : GoodIn wsX5_meet wsX4_begin := goodIn_r _ [73, 74, 75, 76, 77, 78, 79, 80, 81, 82, 83, 84, 85, 27, 28, 29, 30, 31, 18, 6, 19, 175, 176, 177, 178, 179, 180, 181, 182, 183, 184, 185, 158, 159, 160, 161, 162, 163, 164, 165, 166, 167, 168, 169, 170, 171] (by decide +kernel) (by decide +kernel)
set_option maxRecDepth 20000 in
theorem gX5_meet_X4_begin : GoodIn wsX5_meet (wsV RX5 136 RX4 yX4_begin wsX4_begin) := goodIn_app (goodIn_of _ (by decide +kernel)) ggX5_meet_X4_begin
set_option maxRecDepth 20000 in
theorem ggX5_meet_X5_meeting : GoodIn wsX5_meet wsX5_meeting := goodIn_r _ [89, 1, 2, 90, 91, 92, 93, 94, 95, 96, 6, 97, 12, 20, 18, 19, 98, 99, 100, 16, 101, 63, 102, 103, 104, 72, 105, 80, 106, 107, 108, 109, 81, 110, 111, 112, 113, 74, 78, 79, 114, 115, 116, 29, 117, 118, 119, 120, 121, 122, 123, 124, 125, 126, 127, 128, 129, 130, 131, 132, 133, 75, 77, 82, 76, 134, 135, 136, 137, 138, 139, 140, 141, 142, 83, 84, 143, 144, 145, 146, 147, 148, 149, 150, 151, 152, 153, 154, 155, 156, 157, 175, 176, 177, 178, 179, 180, 181, 182, 183, 184, 185, 172, 173, 174, 158, 159, 160, 161, 162, 163, 164, 165, 166, 167, 168, 169, 170, 171] (by decide +kernel) (by decide +kernel)
set_option maxRecDepth 20000 in
theorem gX5_meet_X5_meeting : GoodIn wsX5_meet (wsV RX5 292 RX5 yX5_meeting wsX5_meeting) := goodIn_app (goodIn_of _ (by decide +kernel)) ggX5_meet_X5_meeting
theorem dX5_meet_0 : decode cX5_meet 0 = .ok (.aload_n 0, 1) := by decide +kernel
theorem dX5_meet_1 : decode cX5_meet 1 = .ok (.iload_n 1, 1) := by decide +kernel
theorem dX5_meet_2 : decode cX5_meet 2 = .ok (.iload_n 2, 1) := by decide +kernel
theorem dX5_meet_3 : decode cX5_meet 3 = .ok (.iload_n 3, 1) := by decide +kernel
theorem dX5_meet_4 : decode cX5_meet 4 = .ok (.iload 4, 2) := by decide +kernel
theorem dX5_meet_6 : decode cX5_meet 6 = .ok (.iload 5, 2) := by decide +kernel
theorem dX5_meet_8 : decode cX5_meet 8 = .ok (.iload 6, 2) := by decide +kernel
theorem dX5_meet_10 : decode cX5_meet 10 = .ok (.invokevirtual 288, 3) := by decide +kernel
theorem dX5_meet_13 : decode cX5_meet 13 = .ok (.istore 7, 2) := by decide +kernel
theorem dX5_meet_15 : decode cX5_meet 15 = .ok (.iload 7, 2) := by decide +kernel
theorem dX5_meet_17 : decode cX5_meet 17 = .ok (.ifCond .eq 10, 3) := by decide +kernel
theorem dX5_meet_20 : decode cX5_meet 20 = .ok (.aload_n 0, 1) := by decide +kernel
theorem dX5_meet_21 : decode cX5_meet 21 = .ok (.iload 7, 2) := by decide +kernel
theorem dX5_meet_23 : decode cX5_meet 23 = .ok (.invokevirtual 76, 3) := by decide +kernel
theorem dX5_meet_26 : decode cX5_meet 26 = .ok (.ireturn, 1) := by decide +kernel
theorem dX5_meet_27 : decode cX5_meet 27 = .ok (.aload_n 0, 1) := by decide +kernel
theorem dX5_meet_28 : decode cX5_meet 28 = .ok (.getfield 41, 3) := by decide +kernel
theorem dX5_meet_31 : decode cX5_meet 31 = .ok (.iload_n 3, 1) := by decide +kernel
theorem dX5_meet_32 : decode cX5_meet 32 = .ok (.invokevirtual 136, 3) := by decide +kernel
theorem dX5_meet_35 : decode cX5_meet 35 = .ok (.aload_n 0, 1) := by decide +kernel
theorem dX5_meet_36 : decode cX5_meet 36 = .ok (.getfield 45, 3) := by decide +kernel
theorem dX5_meet_39 : decode cX5_meet 39 = .ok (.iload 6, 2) := by decide +kernel
theorem dX5_meet_41 : decode cX5_meet 41 = .ok (.invokevirtual 136, 3) := by decide +kernel
theorem dX5_meet_44 : decode cX5_meet 44 = .ok (.aload_n 0, 1) := by decide +kernel
theorem dX5_meet_45 : decode cX5_meet 45 = .ok (.iload_n 1, 1) := by decide +kernel
theorem dX5_meet_46 : decode cX5_meet 46 = .ok (.iload_n 2, 1) := by decide +kernel
theorem dX5_meet_47 : decode cX5_meet 47 = .ok (.iload 4, 2) := by decide +kernel
theorem dX5_meet_49 : decode cX5_meet 49 = .ok (.iload 5, 2) := by decide +kernel
theorem dX5_meet_51 : decode cX5_meet 51 = .ok (.iconst 0, 1) := by decide +kernel
theorem dX5_meet_52 : decode cX5_meet 52 = .ok (.invokevirtual 292, 3) := by decide +kernel
theorem dX5_meet_55 : decode cX5_meet 55 = .ok (.ireturn, 1) := by decide +kernel
set_option maxRecDepth 20000 in
theorem ggX5_waits_X5_meetingFault : GoodIn wsX5_waits wsX5_meetingFault := goodIn_r _ [7, 8, 9, 10, 6, 11, 12, 13, 14, 15, 16, 17, 18, 19, 20, 21, 22, 23, 24, 25, 26, 27, 28, 29, 30, 31, 32, 33, 34, 35, 36, 37, 38, 39, 40, 41, 42, 43, 44, 45, 46, 47, 48, 49, 50, 51, 52, 53, 54, 55, 56, 57, 58, 59, 60, 61, 62, 63, 147, 148, 149, 150, 151, 152, 153, 154, 155, 156, 157, 158, 159, 160, 161, 162, 163, 164, 165, 166, 167, 168, 169, 170, 171, 172, 173, 174] (by decide +kernel) (by decide +kernel)
set_option maxRecDepth 20000 in
theorem gX5_waits_X5_meetingFault : GoodIn wsX5_waits (wsV RX5 288 RX5 yX5_meetingFault wsX5_meetingFault) := goodIn_app (goodIn_of _ (by decide +kernel)) ggX5_waits_X5_meetingFault
set_option maxRecDepth 20000 in
theorem ggX5_waits_X5_refuse : GoodIn wsX5_waits wsX5_refuse := goodIn_r _ [67, 68, 20, 18, 6, 19, 147, 148, 149, 150, 151, 152, 153, 154, 155, 156, 157] (by decide +kernel) (by decide +kernel)
set_option maxRecDepth 20000 in
theorem gX5_waits_X5_refuse : GoodIn wsX5_waits (wsV RX5 76 RX5 yX5_refuse wsX5_refuse) := goodIn_app (goodIn_of _ (by decide +kernel)) ggX5_waits_X5_refuse
set_option maxRecDepth 20000 in
theorem ggX5_waits_X4_begin : GoodIn wsX5_waits wsX4_begin := goodIn_r _ [73, 74, 75, 76, 77, 78, 79, 80, 81, 82, 83, 84, 85, 27, 28, 29, 30, 31, 18, 6, 19, 175, 176, 177, 178, 179, 180, 181, 182, 183, 184, 185, 158, 159, 160, 161, 162, 163, 164, 165, 166, 167, 168, 169, 170, 171] (by decide +kernel) (by decide +kernel)
set_option maxRecDepth 20000 in
theorem gX5_waits_X4_begin : GoodIn wsX5_waits (wsV RX5 136 RX4 yX4_begin wsX4_begin) := goodIn_app (goodIn_of _ (by decide +kernel)) ggX5_waits_X4_begin
set_option maxRecDepth 20000 in
theorem ggX5_waits_X5_meeting : GoodIn wsX5_waits wsX5_meeting := goodIn_r _ [89, 1, 2, 90, 91, 92, 93, 94, 95, 96, 6, 97, 12, 20, 18, 19, 98, 99, 100, 16, 101, 63, 102, 103, 104, 72, 105, 80, 106, 107, 108, 109, 81, 110, 111, 112, 113, 74, 78, 79, 114, 115, 116, 29, 117, 118, 119, 120, 121, 122, 123, 124, 125, 126, 127, 128, 129, 130, 131, 132, 133, 75, 77, 82, 76, 134, 135, 136, 137, 138, 139, 140, 141, 142, 83, 84, 143, 144, 145, 146, 147, 148, 149, 150, 151, 152, 153, 154, 155, 156, 157, 175, 176, 177, 178, 179, 180, 181, 182, 183, 184, 185, 172, 173, 174, 158, 159, 160, 161, 162, 163, 164, 165, 166, 167, 168, 169, 170, 171] (by decide +kernel) (by decide +kernel)
set_option maxRecDepth 20000 in
theorem gX5_waits_X5_meeting : GoodIn wsX5_waits (wsV RX5 292 RX5 yX5_meeting wsX5_meeting) := goodIn_app (goodIn_of _ (by decide +kernel)) ggX5_waits_X5_meeting
theorem dX5_waits_0 : decode cX5_waits 0 = .ok (.aload_n 0, 1) := by decide +kernel
theorem dX5_waits_1 : decode cX5_waits 1 = .ok (.iload_n 1, 1) := by decide +kernel
theorem dX5_waits_2 : decode cX5_waits 2 = .ok (.iload_n 2, 1) := by decide +kernel
theorem dX5_waits_3 : decode cX5_waits 3 = .ok (.iload_n 3, 1) := by decide +kernel
theorem dX5_waits_4 : decode cX5_waits 4 = .ok (.iload 4, 2) := by decide +kernel
theorem dX5_waits_6 : decode cX5_waits 6 = .ok (.iload 5, 2) := by decide +kernel
theorem dX5_waits_8 : decode cX5_waits 8 = .ok (.iload 6, 2) := by decide +kernel
theorem dX5_waits_10 : decode cX5_waits 10 = .ok (.invokevirtual 288, 3) := by decide +kernel
theorem dX5_waits_13 : decode cX5_waits 13 = .ok (.istore 7, 2) := by decide +kernel
theorem dX5_waits_15 : decode cX5_waits 15 = .ok (.iload 7, 2) := by decide +kernel
theorem dX5_waits_17 : decode cX5_waits 17 = .ok (.ifCond .eq 10, 3) := by decide +kernel
theorem dX5_waits_20 : decode cX5_waits 20 = .ok (.aload_n 0, 1) := by decide +kernel
theorem dX5_waits_21 : decode cX5_waits 21 = .ok (.iload 7, 2) := by decide +kernel
theorem dX5_waits_23 : decode cX5_waits 23 = .ok (.invokevirtual 76, 3) := by decide +kernel
theorem dX5_waits_26 : decode cX5_waits 26 = .ok (.ireturn, 1) := by decide +kernel
theorem dX5_waits_27 : decode cX5_waits 27 = .ok (.iconst 0, 1) := by decide +kernel
theorem dX5_waits_28 : decode cX5_waits 28 = .ok (.istore 8, 2) := by decide +kernel
theorem dX5_waits_30 : decode cX5_waits 30 = .ok (.iload 8, 2) := by decide +kernel
theorem dX5_waits_32 : decode cX5_waits 32 = .ok (.bipush 9, 2) := by decide +kernel
theorem dX5_waits_34 : decode cX5_waits 34 = .ok (.if_icmp .gt 45, 3) := by decide +kernel
theorem dX5_waits_37 : decode cX5_waits 37 = .ok (.aload_n 0, 1) := by decide +kernel
theorem dX5_waits_38 : decode cX5_waits 38 = .ok (.getfield 41, 3) := by decide +kernel
theorem dX5_waits_41 : decode cX5_waits 41 = .ok (.iload_n 3, 1) := by decide +kernel
theorem dX5_waits_42 : decode cX5_waits 42 = .ok (.invokevirtual 136, 3) := by decide +kernel
theorem dX5_waits_45 : decode cX5_waits 45 = .ok (.aload_n 0, 1) := by decide +kernel
theorem dX5_waits_46 : decode cX5_waits 46 = .ok (.getfield 45, 3) := by decide +kernel
theorem dX5_waits_49 : decode cX5_waits 49 = .ok (.iload 6, 2) := by decide +kernel
theorem dX5_waits_51 : decode cX5_waits 51 = .ok (.invokevirtual 136, 3) := by decide +kernel
theorem dX5_waits_54 : decode cX5_waits 54 = .ok (.aload_n 0, 1) := by decide +kernel
theorem dX5_waits_55 : decode cX5_waits 55 = .ok (.iload_n 1, 1) := by decide +kernel
theorem dX5_waits_56 : decode cX5_waits 56 = .ok (.iload_n 2, 1) := by decide +kernel
theorem dX5_waits_57 : decode cX5_waits 57 = .ok (.iload 4, 2) := by decide +kernel
theorem dX5_waits_59 : decode cX5_waits 59 = .ok (.iload 5, 2) := by decide +kernel
theorem dX5_waits_61 : decode cX5_waits 61 = .ok (.iload 8, 2) := by decide +kernel
theorem dX5_waits_63 : decode cX5_waits 63 = .ok (.invokevirtual 292, 3) := by decide +kernel
theorem dX5_waits_66 : decode cX5_waits 66 = .ok (.iconst (-1), 1) := by decide +kernel
theorem dX5_waits_67 : decode cX5_waits 67 = .ok (.if_icmp .ne 6, 3) := by decide +kernel
theorem dX5_waits_70 : decode cX5_waits 70 = .ok (.iload 8, 2) := by decide +kernel
theorem dX5_waits_72 : decode cX5_waits 72 = .ok (.ireturn, 1) := by decide +kernel
theorem dX5_waits_73 : decode cX5_waits 73 = .ok (.iinc 8 1, 3) := by decide +kernel
theorem dX5_waits_76 : decode cX5_waits 76 = .ok (.goto (-46), 3) := by decide +kernel
theorem dX5_waits_79 : decode cX5_waits 79 = .ok (.iconst (-1), 1) := by decide +kernel
theorem dX5_waits_80 : decode cX5_waits 80 = .ok (.ireturn, 1) := by decide +kernel
set_option maxRecDepth 20000 in
theorem ggX5_judge_X5_isTold : GoodIn wsX5_judge wsX5_isTold := goodIn_r _ [6, 1, 7, 8, 9, 10, 11, 12, 5, 13, 14, 48, 49, 50, 51, 52, 53, 54, 55, 56, 57, 58] (by decide +kernel) (by decide +kernel)
set_option maxRecDepth 20000 in
theorem gX5_judge_X5_isTold : GoodIn wsX5_judge (wsV RX5 296 RX5 yX5_isTold wsX5_isTold) := goodIn_app (goodIn_of _ (by decide +kernel)) ggX5_judge_X5_isTold
set_option maxRecDepth 20000 in
theorem ggX5_judge_X5_refuse : GoodIn wsX5_judge wsX5_refuse := goodIn_r _ [18, 19, 14, 12, 5, 13, 48, 49, 50, 51, 52, 53, 54, 55, 56, 57, 58] (by decide +kernel) (by decide +kernel)
set_option maxRecDepth 20000 in
theorem gX5_judge_X5_refuse : GoodIn wsX5_judge (wsV RX5 76 RX5 yX5_refuse wsX5_refuse) := goodIn_app (goodIn_of _ (by decide +kernel)) ggX5_judge_X5_refuse
set_option maxRecDepth 20000 in
theorem ggX5_judge_X5_rowFault : GoodIn wsX5_judge wsX5_rowFault := goodIn_r _ [23, 1, 24, 25, 26, 10, 27, 28, 29, 30, 31, 32, 48, 49, 50, 51, 52, 53, 54, 55, 56, 57, 58, 59, 60, 61] (by decide +kernel) (by decide +kernel)
set_option maxRecDepth 20000 in
theorem gX5_judge_X5_rowFault : GoodIn wsX5_judge (wsV RX5 84 RX5 yX5_rowFault wsX5_rowFault) := goodIn_app (goodIn_of _ (by decide +kernel)) ggX5_judge_X5_rowFault
set_option maxRecDepth 20000 in
theorem ggX5_judge_X3_sizeOf : GoodIn wsX5_judge wsX3_sizeOf := goodIn_r _ [36, 37, 59, 60, 61] (by decide +kernel) (by decide +kernel)
set_option maxRecDepth 20000 in
theorem gX5_judge_X3_sizeOf : GoodIn wsX5_judge (wsV RX5 88 RX3 yX3_sizeOf wsX3_sizeOf) := goodIn_app (goodIn_of _ (by decide +kernel)) ggX5_judge_X3_sizeOf
set_option maxRecDepth 20000 in
theorem ggX5_judge_X3_firstWrong : GoodIn wsX5_judge wsX3_firstWrong := goodIn_r _ [41, 42, 43, 44, 45, 10, 46, 47, 59, 60, 61] (by decide +kernel) (by decide +kernel)
set_option maxRecDepth 20000 in
theorem gX5_judge_X3_firstWrong : GoodIn wsX5_judge (wsV RX5 299 RX3 yX3_firstWrong wsX3_firstWrong) := goodIn_app (goodIn_of _ (by decide +kernel)) ggX5_judge_X3_firstWrong
theorem dX5_judge_0 : decode cX5_judge 0 = .ok (.aload_n 0, 1) := by decide +kernel
theorem dX5_judge_1 : decode cX5_judge 1 = .ok (.iload_n 1, 1) := by decide +kernel
theorem dX5_judge_2 : decode cX5_judge 2 = .ok (.iload_n 2, 1) := by decide +kernel
theorem dX5_judge_3 : decode cX5_judge 3 = .ok (.invokevirtual 296, 3) := by decide +kernel
theorem dX5_judge_6 : decode cX5_judge 6 = .ok (.ifCond .ne 10, 3) := by decide +kernel
theorem dX5_judge_9 : decode cX5_judge 9 = .ok (.aload_n 0, 1) := by decide +kernel
theorem dX5_judge_10 : decode cX5_judge 10 = .ok (.bipush (-2), 2) := by decide +kernel
theorem dX5_judge_12 : decode cX5_judge 12 = .ok (.invokevirtual 76, 3) := by decide +kernel
theorem dX5_judge_15 : decode cX5_judge 15 = .ok (.ireturn, 1) := by decide +kernel
theorem dX5_judge_16 : decode cX5_judge 16 = .ok (.aload_n 0, 1) := by decide +kernel
theorem dX5_judge_17 : decode cX5_judge 17 = .ok (.iload_n 1, 1) := by decide +kernel
theorem dX5_judge_18 : decode cX5_judge 18 = .ok (.iload_n 1, 1) := by decide +kernel
theorem dX5_judge_19 : decode cX5_judge 19 = .ok (.invokevirtual 84, 3) := by decide +kernel
theorem dX5_judge_22 : decode cX5_judge 22 = .ok (.istore_n 3, 1) := by decide +kernel
theorem dX5_judge_23 : decode cX5_judge 23 = .ok (.iload_n 3, 1) := by decide +kernel
theorem dX5_judge_24 : decode cX5_judge 24 = .ok (.ifCond .ne 18, 3) := by decide +kernel
theorem dX5_judge_27 : decode cX5_judge 27 = .ok (.iload_n 2, 1) := by decide +kernel
theorem dX5_judge_28 : decode cX5_judge 28 = .ok (.aload_n 0, 1) := by decide +kernel
theorem dX5_judge_29 : decode cX5_judge 29 = .ok (.getfield 34, 3) := by decide +kernel
theorem dX5_judge_32 : decode cX5_judge 32 = .ok (.iload_n 1, 1) := by decide +kernel
theorem dX5_judge_33 : decode cX5_judge 33 = .ok (.invokevirtual 88, 3) := by decide +kernel
theorem dX5_judge_36 : decode cX5_judge 36 = .ok (.if_icmp .le 6, 3) := by decide +kernel
theorem dX5_judge_39 : decode cX5_judge 39 = .ok (.bipush (-2), 2) := by decide +kernel
theorem dX5_judge_41 : decode cX5_judge 41 = .ok (.istore_n 3, 1) := by decide +kernel
theorem dX5_judge_42 : decode cX5_judge 42 = .ok (.iload_n 3, 1) := by decide +kernel
theorem dX5_judge_43 : decode cX5_judge 43 = .ok (.ifCond .ne 15, 3) := by decide +kernel
theorem dX5_judge_46 : decode cX5_judge 46 = .ok (.aload_n 0, 1) := by decide +kernel
theorem dX5_judge_47 : decode cX5_judge 47 = .ok (.getfield 34, 3) := by decide +kernel
theorem dX5_judge_50 : decode cX5_judge 50 = .ok (.iload_n 1, 1) := by decide +kernel
theorem dX5_judge_51 : decode cX5_judge 51 = .ok (.iload_n 2, 1) := by decide +kernel
theorem dX5_judge_52 : decode cX5_judge 52 = .ok (.invokevirtual 299, 3) := by decide +kernel
theorem dX5_judge_55 : decode cX5_judge 55 = .ok (.goto 8, 3) := by decide +kernel
theorem dX5_judge_58 : decode cX5_judge 58 = .ok (.aload_n 0, 1) := by decide +kernel
theorem dX5_judge_59 : decode cX5_judge 59 = .ok (.iload_n 3, 1) := by decide +kernel
theorem dX5_judge_60 : decode cX5_judge 60 = .ok (.invokevirtual 76, 3) := by decide +kernel
theorem dX5_judge_63 : decode cX5_judge 63 = .ok (.ireturn, 1) := by decide +kernel
set_option maxRecDepth 20000 in
theorem ggX5_walk_X0_isOne : GoodIn wsX5_walk wsX0_isOne := goodIn_r _ [8, 9, 10, 11, 12, 153, 154, 155, 156, 157, 158, 159, 160, 161, 162, 163, 164, 165, 166] (by decide +kernel) (by decide +kernel)
set_option maxRecDepth 20000 in
theorem gX5_walk_X0_isOne : GoodIn wsX5_walk (wsV RX5 109 RX0 yX0_isOne wsX0_isOne) := goodIn_app (goodIn_of _ (by decide +kernel)) ggX5_walk_X0_isOne
set_option maxRecDepth 20000 in
theorem ggX5_walk_X5_tellingFault : GoodIn wsX5_walk wsX5_tellingFault := goodIn_r _ [16, 17, 18, 19, 11, 20, 3, 21, 22, 23, 24, 25, 10, 12, 26, 27, 28, 29, 30, 31, 32, 33, 34, 35, 36, 37, 38, 39, 40, 41, 42, 43, 44, 45, 46, 47, 48, 49, 50, 51, 52, 53, 54, 55, 56, 57, 58, 131, 132, 133, 134, 135, 136, 137, 138, 139, 140, 141, 167, 168, 169] (by decide +kernel) (by decide +kernel)
set_option maxRecDepth 20000 in
theorem gX5_walk_X5_tellingFault : GoodIn wsX5_walk (wsV RX5 223 RX5 yX5_tellingFault wsX5_tellingFault) := goodIn_app (goodIn_of _ (by decide +kernel)) ggX5_walk_X5_tellingFault
set_option maxRecDepth 20000 in
theorem ggX5_walk_X5_refuse : GoodIn wsX5_walk wsX5_refuse := goodIn_r _ [62, 63, 26, 10, 11, 12, 131, 132, 133, 134, 135, 136, 137, 138, 139, 140, 141] (by decide +kernel) (by decide +kernel)
set_option maxRecDepth 20000 in
theorem gX5_walk_X5_refuse : GoodIn wsX5_walk (wsV RX5 76 RX5 yX5_refuse wsX5_refuse) := goodIn_app (goodIn_of _ (by decide +kernel)) ggX5_walk_X5_refuse
set_option maxRecDepth 20000 in
theorem ggX5_walk_X4_begin : GoodIn wsX5_walk wsX4_begin := goodIn_r _ [68, 69, 70, 71, 72, 73, 74, 75, 76, 77, 78, 79, 80, 5, 6, 7, 8, 9, 10, 11, 12, 142, 143, 144, 145, 146, 147, 148, 149, 150, 151, 152, 153, 154, 155, 156, 157, 158, 159, 160, 161, 162, 163, 164, 165, 166] (by decide +kernel) (by decide +kernel)
set_option maxRecDepth 20000 in
theorem gX5_walk_X4_begin : GoodIn wsX5_walk (wsV RX5 136 RX4 yX4_begin wsX4_begin) := goodIn_app (goodIn_of _ (by decide +kernel)) ggX5_walk_X4_begin
set_option maxRecDepth 20000 in
theorem ggX5_walk_X4_isFallen : GoodIn wsX5_walk wsX4_isFallen := goodIn_r _ [84, 76, 142, 143, 144, 145, 146, 147, 148, 149, 150, 151, 152] (by decide +kernel) (by decide +kernel)
set_option maxRecDepth 20000 in
theorem gX5_walk_X4_isFallen : GoodIn wsX5_walk (wsV RX5 240 RX4 yX4_isFallen wsX4_isFallen) := goodIn_app (goodIn_of _ (by decide +kernel)) ggX5_walk_X4_isFallen
set_option maxRecDepth 20000 in
theorem ggX5_walk_X3_signAt : GoodIn wsX5_walk wsX3_signAt := goodIn_r _ [88, 58, 167, 168, 169] (by decide +kernel) (by decide +kernel)
set_option maxRecDepth 20000 in
theorem gX5_walk_X3_signAt : GoodIn wsX5_walk (wsV RX5 268 RX3 yX3_signAt wsX3_signAt) := goodIn_app (goodIn_of _ (by decide +kernel)) ggX5_walk_X3_signAt
set_option maxRecDepth 20000 in
theorem ggX5_walk_X4_step : GoodIn wsX5_walk wsX4_step := goodIn_r _ [92, 75, 93, 82, 83, 67, 84, 76, 94, 95, 96, 97, 69, 73, 74, 98, 99, 100, 7, 101, 102, 103, 104, 105, 106, 107, 108, 109, 110, 111, 112, 113, 114, 115, 116, 117, 70, 72, 77, 71, 118, 119, 120, 121, 122, 123, 124, 125, 126, 78, 79, 127, 128, 129, 130, 142, 143, 144, 145, 146, 147, 148, 149, 150, 151, 152, 153, 154, 155, 156, 157, 158, 159, 160, 161, 162, 163, 164, 165, 166] (by decide +kernel) (by decide +kernel)
set_option maxRecDepth 20000 in
theorem gX5_walk_X4_step : GoodIn wsX5_walk (wsV RX5 139 RX4 yX4_step wsX4_step) := goodIn_app (goodIn_of _ (by decide +kernel)) ggX5_walk_X4_step
theorem dX5_walk_0 : decode cX5_walk 0 = .ok (.aload_n 0, 1) := by decide +kernel
theorem dX5_walk_1 : decode cX5_walk 1 = .ok (.iload_n 1, 1) := by decide +kernel
theorem dX5_walk_2 : decode cX5_walk 2 = .ok (.iload_n 2, 1) := by decide +kernel
theorem dX5_walk_3 : decode cX5_walk 3 = .ok (.aload_n 0, 1) := by decide +kernel
theorem dX5_walk_4 : decode cX5_walk 4 = .ok (.getfield 10, 3) := by decide +kernel
theorem dX5_walk_7 : decode cX5_walk 7 = .ok (.iload_n 3, 1) := by decide +kernel
theorem dX5_walk_8 : decode cX5_walk 8 = .ok (.invokevirtual 109, 3) := by decide +kernel
theorem dX5_walk_11 : decode cX5_walk 11 = .ok (.invokevirtual 223, 3) := by decide +kernel
theorem dX5_walk_14 : decode cX5_walk 14 = .ok (.istore 4, 2) := by decide +kernel
theorem dX5_walk_16 : decode cX5_walk 16 = .ok (.iload 4, 2) := by decide +kernel
theorem dX5_walk_18 : decode cX5_walk 18 = .ok (.ifCond .eq 10, 3) := by decide +kernel
theorem dX5_walk_21 : decode cX5_walk 21 = .ok (.aload_n 0, 1) := by decide +kernel
theorem dX5_walk_22 : decode cX5_walk 22 = .ok (.iload 4, 2) := by decide +kernel
theorem dX5_walk_24 : decode cX5_walk 24 = .ok (.invokevirtual 76, 3) := by decide +kernel
theorem dX5_walk_27 : decode cX5_walk 27 = .ok (.ireturn, 1) := by decide +kernel
theorem dX5_walk_28 : decode cX5_walk 28 = .ok (.aload_n 0, 1) := by decide +kernel
theorem dX5_walk_29 : decode cX5_walk 29 = .ok (.getfield 41, 3) := by decide +kernel
theorem dX5_walk_32 : decode cX5_walk 32 = .ok (.iload_n 3, 1) := by decide +kernel
theorem dX5_walk_33 : decode cX5_walk 33 = .ok (.invokevirtual 136, 3) := by decide +kernel
theorem dX5_walk_36 : decode cX5_walk 36 = .ok (.iconst 0, 1) := by decide +kernel
theorem dX5_walk_37 : decode cX5_walk 37 = .ok (.istore 5, 2) := by decide +kernel
theorem dX5_walk_39 : decode cX5_walk 39 = .ok (.iload 5, 2) := by decide +kernel
theorem dX5_walk_41 : decode cX5_walk 41 = .ok (.iload_n 2, 1) := by decide +kernel
theorem dX5_walk_42 : decode cX5_walk 42 = .ok (.if_icmp .ge 77, 3) := by decide +kernel
theorem dX5_walk_45 : decode cX5_walk 45 = .ok (.aload_n 0, 1) := by decide +kernel
theorem dX5_walk_46 : decode cX5_walk 46 = .ok (.getfield 41, 3) := by decide +kernel
theorem dX5_walk_49 : decode cX5_walk 49 = .ok (.invokevirtual 240, 3) := by decide +kernel
theorem dX5_walk_52 : decode cX5_walk 52 = .ok (.ifCond .ne 67, 3) := by decide +kernel
theorem dX5_walk_55 : decode cX5_walk 55 = .ok (.aload_n 0, 1) := by decide +kernel
theorem dX5_walk_56 : decode cX5_walk 56 = .ok (.getfield 41, 3) := by decide +kernel
theorem dX5_walk_59 : decode cX5_walk 59 = .ok (.getfield 231, 3) := by decide +kernel
theorem dX5_walk_62 : decode cX5_walk 62 = .ok (.istore 6, 2) := by decide +kernel
theorem dX5_walk_64 : decode cX5_walk 64 = .ok (.aload_n 0, 1) := by decide +kernel
theorem dX5_walk_65 : decode cX5_walk 65 = .ok (.getfield 41, 3) := by decide +kernel
theorem dX5_walk_68 : decode cX5_walk 68 = .ok (.aload_n 0, 1) := by decide +kernel
theorem dX5_walk_69 : decode cX5_walk 69 = .ok (.getfield 34, 3) := by decide +kernel
theorem dX5_walk_72 : decode cX5_walk 72 = .ok (.iload_n 1, 1) := by decide +kernel
theorem dX5_walk_73 : decode cX5_walk 73 = .ok (.iload 5, 2) := by decide +kernel
theorem dX5_walk_75 : decode cX5_walk 75 = .ok (.invokevirtual 268, 3) := by decide +kernel
theorem dX5_walk_78 : decode cX5_walk 78 = .ok (.invokevirtual 139, 3) := by decide +kernel
theorem dX5_walk_81 : decode cX5_walk 81 = .ok (.aload_n 0, 1) := by decide +kernel
theorem dX5_walk_82 : decode cX5_walk 82 = .ok (.getfield 41, 3) := by decide +kernel
theorem dX5_walk_85 : decode cX5_walk 85 = .ok (.invokevirtual 240, 3) := by decide +kernel
theorem dX5_walk_88 : decode cX5_walk 88 = .ok (.ifCond .eq 25, 3) := by decide +kernel
theorem dX5_walk_91 : decode cX5_walk 91 = .ok (.aload_n 0, 1) := by decide +kernel
theorem dX5_walk_92 : decode cX5_walk 92 = .ok (.getfield 41, 3) := by decide +kernel
theorem dX5_walk_95 : decode cX5_walk 95 = .ok (.iload 6, 2) := by decide +kernel
theorem dX5_walk_97 : decode cX5_walk 97 = .ok (.putfield 231, 3) := by decide +kernel
theorem dX5_walk_100 : decode cX5_walk 100 = .ok (.aload_n 0, 1) := by decide +kernel
theorem dX5_walk_101 : decode cX5_walk 101 = .ok (.getfield 10, 3) := by decide +kernel
theorem dX5_walk_104 : decode cX5_walk 104 = .ok (.dup, 1) := by decide +kernel
theorem dX5_walk_105 : decode cX5_walk 105 = .ok (.getfield 302, 3) := by decide +kernel
theorem dX5_walk_108 : decode cX5_walk 108 = .ok (.iconst 1, 1) := by decide +kernel
theorem dX5_walk_109 : decode cX5_walk 109 = .ok (.iadd, 1) := by decide +kernel
theorem dX5_walk_110 : decode cX5_walk 110 = .ok (.putfield 302, 3) := by decide +kernel
theorem dX5_walk_113 : decode cX5_walk 113 = .ok (.iinc 5 1, 3) := by decide +kernel
theorem dX5_walk_116 : decode cX5_walk 116 = .ok (.goto (-77), 3) := by decide +kernel
theorem dX5_walk_119 : decode cX5_walk 119 = .ok (.aload_n 0, 1) := by decide +kernel
theorem dX5_walk_120 : decode cX5_walk 120 = .ok (.getfield 10, 3) := by decide +kernel
theorem dX5_walk_123 : decode cX5_walk 123 = .ok (.getfield 192, 3) := by decide +kernel
theorem dX5_walk_126 : decode cX5_walk 126 = .ok (.iload_n 3, 1) := by decide +kernel
theorem dX5_walk_127 : decode cX5_walk 127 = .ok (.aload_n 0, 1) := by decide +kernel
theorem dX5_walk_128 : decode cX5_walk 128 = .ok (.getfield 41, 3) := by decide +kernel
theorem dX5_walk_131 : decode cX5_walk 131 = .ok (.getfield 231, 3) := by decide +kernel
theorem dX5_walk_134 : decode cX5_walk 134 = .ok (.iastore, 1) := by decide +kernel
theorem dX5_walk_135 : decode cX5_walk 135 = .ok (.aload_n 0, 1) := by decide +kernel
theorem dX5_walk_136 : decode cX5_walk 136 = .ok (.getfield 10, 3) := by decide +kernel
theorem dX5_walk_139 : decode cX5_walk 139 = .ok (.getfield 195, 3) := by decide +kernel
theorem dX5_walk_142 : decode cX5_walk 142 = .ok (.iload_n 3, 1) := by decide +kernel
theorem dX5_walk_143 : decode cX5_walk 143 = .ok (.aload_n 0, 1) := by decide +kernel
theorem dX5_walk_144 : decode cX5_walk 144 = .ok (.getfield 41, 3) := by decide +kernel
theorem dX5_walk_147 : decode cX5_walk 147 = .ok (.getfield 142, 3) := by decide +kernel
theorem dX5_walk_150 : decode cX5_walk 150 = .ok (.iastore, 1) := by decide +kernel
theorem dX5_walk_151 : decode cX5_walk 151 = .ok (.aload_n 0, 1) := by decide +kernel
theorem dX5_walk_152 : decode cX5_walk 152 = .ok (.getfield 41, 3) := by decide +kernel
theorem dX5_walk_155 : decode cX5_walk 155 = .ok (.getfield 231, 3) := by decide +kernel
theorem dX5_walk_158 : decode cX5_walk 158 = .ok (.ireturn, 1) := by decide +kernel
set_option maxRecDepth 20000 in
theorem ggX5_years_X5_isWithin : GoodIn wsX5_years wsX5_isWithin := goodIn_r _ [5] (by decide +kernel) (by decide +kernel)
set_option maxRecDepth 20000 in
theorem gX5_years_X5_isWithin : GoodIn wsX5_years (va_wsS RX5 72 yX5_isWithin wsX5_isWithin) := goodIn_app (goodIn_of _ (by decide +kernel)) ggX5_years_X5_isWithin
set_option maxRecDepth 20000 in
theorem ggX5_years_X5_refuse : GoodIn wsX5_years wsX5_refuse := goodIn_r _ [9, 10, 2, 3, 4, 5, 33, 34, 35, 36, 37, 38, 39, 40, 41, 42, 43] (by decide +kernel) (by decide +kernel)
set_option maxRecDepth 20000 in
theorem gX5_years_X5_refuse : GoodIn wsX5_years (wsV RX5 76 RX5 yX5_refuse wsX5_refuse) := goodIn_app (goodIn_of _ (by decide +kernel)) ggX5_years_X5_refuse
set_option maxRecDepth 20000 in
theorem ggX5_years_X0_passYear : GoodIn wsX5_years wsX0_passYear := goodIn_r _ [15, 16, 17, 18, 19, 20, 21, 22, 23, 24, 14, 25, 26, 27, 28, 29, 30, 31, 32, 44, 45, 46, 47, 48, 49, 50, 51, 52, 53, 54, 55, 56, 57] (by decide +kernel) (by decide +kernel)
set_option maxRecDepth 20000 in
theorem gX5_years_X0_passYear : GoodIn wsX5_years (wsV RX5 305 RX0 yX0_passYear wsX0_passYear) := goodIn_app (goodIn_of _ (by decide +kernel)) ggX5_years_X0_passYear
theorem dX5_years_0 : decode cX5_years 0 = .ok (.iload_n 1, 1) := by decide +kernel
theorem dX5_years_1 : decode cX5_years 1 = .ok (.iconst 1, 1) := by decide +kernel
theorem dX5_years_2 : decode cX5_years 2 = .ok (.bipush 60, 2) := by decide +kernel
theorem dX5_years_4 : decode cX5_years 4 = .ok (.invokestatic 72, 3) := by decide +kernel
theorem dX5_years_7 : decode cX5_years 7 = .ok (.ifCond .ne 10, 3) := by decide +kernel
theorem dX5_years_10 : decode cX5_years 10 = .ok (.aload_n 0, 1) := by decide +kernel
theorem dX5_years_11 : decode cX5_years 11 = .ok (.bipush (-2), 2) := by decide +kernel
theorem dX5_years_13 : decode cX5_years 13 = .ok (.invokevirtual 76, 3) := by decide +kernel
theorem dX5_years_16 : decode cX5_years 16 = .ok (.ireturn, 1) := by decide +kernel
theorem dX5_years_17 : decode cX5_years 17 = .ok (.iconst 0, 1) := by decide +kernel
theorem dX5_years_18 : decode cX5_years 18 = .ok (.istore_n 2, 1) := by decide +kernel
theorem dX5_years_19 : decode cX5_years 19 = .ok (.iload_n 2, 1) := by decide +kernel
theorem dX5_years_20 : decode cX5_years 20 = .ok (.iload_n 1, 1) := by decide +kernel
theorem dX5_years_21 : decode cX5_years 21 = .ok (.if_icmp .ge 16, 3) := by decide +kernel
theorem dX5_years_24 : decode cX5_years 24 = .ok (.aload_n 0, 1) := by decide +kernel
theorem dX5_years_25 : decode cX5_years 25 = .ok (.getfield 10, 3) := by decide +kernel
theorem dX5_years_28 : decode cX5_years 28 = .ok (.invokevirtual 305, 3) := by decide +kernel
theorem dX5_years_31 : decode cX5_years 31 = .ok (.iinc 2 1, 3) := by decide +kernel
theorem dX5_years_34 : decode cX5_years 34 = .ok (.goto (-15), 3) := by decide +kernel
theorem dX5_years_37 : decode cX5_years 37 = .ok (.aload_n 0, 1) := by decide +kernel
theorem dX5_years_38 : decode cX5_years 38 = .ok (.getfield 10, 3) := by decide +kernel
theorem dX5_years_41 : decode cX5_years 41 = .ok (.getfield 180, 3) := by decide +kernel
theorem dX5_years_44 : decode cX5_years 44 = .ok (.ireturn, 1) := by decide +kernel
theorem dX5_seed_0 : decode cX5_seed 0 = .ok (.aload_n 0, 1) := by decide +kernel
theorem dX5_seed_1 : decode cX5_seed 1 = .ok (.getfield 10, 3) := by decide +kernel
theorem dX5_seed_4 : decode cX5_seed 4 = .ok (.getfield 308, 3) := by decide +kernel
theorem dX5_seed_7 : decode cX5_seed 7 = .ok (.istore_n 2, 1) := by decide +kernel
theorem dX5_seed_8 : decode cX5_seed 8 = .ok (.aload_n 0, 1) := by decide +kernel
theorem dX5_seed_9 : decode cX5_seed 9 = .ok (.getfield 10, 3) := by decide +kernel
theorem dX5_seed_12 : decode cX5_seed 12 = .ok (.iload_n 1, 1) := by decide +kernel
theorem dX5_seed_13 : decode cX5_seed 13 = .ok (.putfield 308, 3) := by decide +kernel
theorem dX5_seed_16 : decode cX5_seed 16 = .ok (.iload_n 2, 1) := by decide +kernel
theorem dX5_seed_17 : decode cX5_seed 17 = .ok (.ireturn, 1) := by decide +kernel
set_option maxRecDepth 20000 in
theorem ggX5_image_X0_become : GoodIn wsX5_image wsX0_become := goodIn_r _ [8, 9, 10, 11, 12, 13, 14, 15, 16, 17, 18, 19, 20, 21, 22, 34, 35, 36, 37, 38, 39, 40, 41, 42, 43, 44, 45, 46, 47] (by decide +kernel) (by decide +kernel)
set_option maxRecDepth 20000 in
theorem gX5_image_X0_become : GoodIn wsX5_image (wsV RX5 217 RX0 yX0_become wsX0_become) := goodIn_app (goodIn_of _ (by decide +kernel)) ggX5_image_X0_become
theorem dX5_image_0 : decode cX5_image 0 = .ok (.aload_n 0, 1) := by decide +kernel
theorem dX5_image_1 : decode cX5_image 1 = .ok (.getfield 16, 3) := by decide +kernel
theorem dX5_image_4 : decode cX5_image 4 = .ok (.aload_n 0, 1) := by decide +kernel
theorem dX5_image_5 : decode cX5_image 5 = .ok (.getfield 10, 3) := by decide +kernel
theorem dX5_image_8 : decode cX5_image 8 = .ok (.invokevirtual 217, 3) := by decide +kernel
theorem dX5_image_11 : decode cX5_image 11 = .ok (.aload_n 0, 1) := by decide +kernel
theorem dX5_image_12 : decode cX5_image 12 = .ok (.iconst 1, 1) := by decide +kernel
theorem dX5_image_13 : decode cX5_image 13 = .ok (.putfield 64, 3) := by decide +kernel
theorem dX5_image_16 : decode cX5_image 16 = .ok (.iconst 1, 1) := by decide +kernel
theorem dX5_image_17 : decode cX5_image 17 = .ok (.ireturn, 1) := by decide +kernel
set_option maxRecDepth 20000 in
theorem ggX5_back_X5_refuse : GoodIn wsX5_back wsX5_refuse := goodIn_r _ [9, 10, 11, 12, 8, 13, 52, 53, 54, 55, 56, 57, 58, 59, 60, 61, 62] (by decide +kernel) (by decide +kernel)
set_option maxRecDepth 20000 in
theorem gX5_back_X5_refuse : GoodIn wsX5_back (wsV RX5 76 RX5 yX5_refuse wsX5_refuse) := goodIn_app (goodIn_of _ (by decide +kernel)) ggX5_back_X5_refuse
set_option maxRecDepth 20000 in
theorem ggX5_back_X0_become : GoodIn wsX5_back wsX0_become := goodIn_r _ [18, 19, 20, 21, 22, 23, 24, 25, 26, 27, 28, 29, 30, 31, 32, 63, 64, 65, 66, 67, 68, 69, 70, 71, 72, 73, 74, 75, 76] (by decide +kernel) (by decide +kernel)
set_option maxRecDepth 20000 in
theorem gX5_back_X0_become : GoodIn wsX5_back (wsV RX5 217 RX0 yX0_become wsX0_become) := goodIn_app (goodIn_of _ (by decide +kernel)) ggX5_back_X0_become
set_option maxRecDepth 20000 in
theorem ggX5_back_X3_dropOnesFrom : GoodIn wsX5_back wsX3_dropOnesFrom := goodIn_r _ [37, 38, 39, 40, 36, 41, 42, 43, 44, 45, 46, 47, 48, 49, 50, 51, 77, 78, 79] (by decide +kernel) (by decide +kernel)
set_option maxRecDepth 20000 in
theorem gX5_back_X3_dropOnesFrom : GoodIn wsX5_back (wsV RX5 311 RX3 yX3_dropOnesFrom wsX3_dropOnesFrom) := goodIn_app (goodIn_of _ (by decide +kernel)) ggX5_back_X3_dropOnesFrom
theorem dX5_back_0 : decode cX5_back 0 = .ok (.aload_n 0, 1) := by decide +kernel
theorem dX5_back_1 : decode cX5_back 1 = .ok (.getfield 64, 3) := by decide +kernel
theorem dX5_back_4 : decode cX5_back 4 = .ok (.ifCond .ne 10, 3) := by decide +kernel
theorem dX5_back_7 : decode cX5_back 7 = .ok (.aload_n 0, 1) := by decide +kernel
theorem dX5_back_8 : decode cX5_back 8 = .ok (.bipush (-5), 2) := by decide +kernel
theorem dX5_back_10 : decode cX5_back 10 = .ok (.invokevirtual 76, 3) := by decide +kernel
theorem dX5_back_13 : decode cX5_back 13 = .ok (.ireturn, 1) := by decide +kernel
theorem dX5_back_14 : decode cX5_back 14 = .ok (.aload_n 0, 1) := by decide +kernel
theorem dX5_back_15 : decode cX5_back 15 = .ok (.getfield 10, 3) := by decide +kernel
theorem dX5_back_18 : decode cX5_back 18 = .ok (.aload_n 0, 1) := by decide +kernel
theorem dX5_back_19 : decode cX5_back 19 = .ok (.getfield 16, 3) := by decide +kernel
theorem dX5_back_22 : decode cX5_back 22 = .ok (.invokevirtual 217, 3) := by decide +kernel
theorem dX5_back_25 : decode cX5_back 25 = .ok (.aload_n 0, 1) := by decide +kernel
theorem dX5_back_26 : decode cX5_back 26 = .ok (.getfield 34, 3) := by decide +kernel
theorem dX5_back_29 : decode cX5_back 29 = .ok (.aload_n 0, 1) := by decide +kernel
theorem dX5_back_30 : decode cX5_back 30 = .ok (.getfield 10, 3) := by decide +kernel
theorem dX5_back_33 : decode cX5_back 33 = .ok (.getfield 237, 3) := by decide +kernel
theorem dX5_back_36 : decode cX5_back 36 = .ok (.invokevirtual 311, 3) := by decide +kernel
theorem dX5_back_39 : decode cX5_back 39 = .ok (.iconst 1, 1) := by decide +kernel
theorem dX5_back_40 : decode cX5_back 40 = .ok (.ireturn, 1) := by decide +kernel
set_option maxRecDepth 20000 in
theorem ggX5_status_X0_howManyPonds : GoodIn wsX5_status wsX0_howManyPonds := goodIn_r _ [9, 10, 11, 12, 8, 13, 14, 15, 16, 17, 18, 19, 20, 21, 22, 43, 44, 45, 46, 47, 48, 49, 50, 51, 52, 53, 54, 55, 56] (by decide +kernel) (by decide +kernel)
set_option maxRecDepth 20000 in
theorem gX5_status_X0_howManyPonds : GoodIn wsX5_status (wsV RX5 314 RX0 yX0_howManyPonds wsX0_howManyPonds) := goodIn_app (goodIn_of _ (by decide +kernel)) ggX5_status_X0_howManyPonds
set_option maxRecDepth 20000 in
theorem ggX5_status_X3_howManyHold : GoodIn wsX5_status wsX3_howManyHold := goodIn_r _ [27, 28, 20, 21, 22, 64, 65, 66] (by decide +kernel) (by decide +kernel)
set_option maxRecDepth 20000 in
theorem gX5_status_X3_howManyHold : GoodIn wsX5_status (wsV RX5 323 RX3 yX3_howManyHold wsX3_howManyHold) := goodIn_app (goodIn_of _ (by decide +kernel)) ggX5_status_X3_howManyHold
set_option maxRecDepth 20000 in
theorem ggX5_status_X5_isWithin : GoodIn wsX5_status wsX5_isWithin := goodIn_r _ [31] (by decide +kernel) (by decide +kernel)
set_option maxRecDepth 20000 in
theorem gX5_status_X5_isWithin : GoodIn wsX5_status (va_wsS RX5 72 yX5_isWithin wsX5_isWithin) := goodIn_app (goodIn_of _ (by decide +kernel)) ggX5_status_X5_isWithin
theorem dX5_status_0 : decode cX5_status 0 = .ok (.iload_n 1, 1) := by decide +kernel
theorem dX5_status_1 : decode cX5_status 1 = .ok (.tableswitch 147 0 10 #[59, 67, 75, 83, 91, 99, 107, 115, 123, 131, 139], 59) := by decide +kernel
theorem dX5_status_60 : decode cX5_status 60 = .ok (.aload_n 0, 1) := by decide +kernel
theorem dX5_status_61 : decode cX5_status 61 = .ok (.getfield 10, 3) := by decide +kernel
theorem dX5_status_64 : decode cX5_status 64 = .ok (.getfield 237, 3) := by decide +kernel
theorem dX5_status_67 : decode cX5_status 67 = .ok (.ireturn, 1) := by decide +kernel
theorem dX5_status_68 : decode cX5_status 68 = .ok (.aload_n 0, 1) := by decide +kernel
theorem dX5_status_69 : decode cX5_status 69 = .ok (.getfield 10, 3) := by decide +kernel
theorem dX5_status_72 : decode cX5_status 72 = .ok (.getfield 149, 3) := by decide +kernel
theorem dX5_status_75 : decode cX5_status 75 = .ok (.ireturn, 1) := by decide +kernel
theorem dX5_status_76 : decode cX5_status 76 = .ok (.aload_n 0, 1) := by decide +kernel
theorem dX5_status_77 : decode cX5_status 77 = .ok (.getfield 10, 3) := by decide +kernel
theorem dX5_status_80 : decode cX5_status 80 = .ok (.getfield 180, 3) := by decide +kernel
theorem dX5_status_83 : decode cX5_status 83 = .ok (.ireturn, 1) := by decide +kernel
theorem dX5_status_84 : decode cX5_status 84 = .ok (.aload_n 0, 1) := by decide +kernel
theorem dX5_status_85 : decode cX5_status 85 = .ok (.getfield 10, 3) := by decide +kernel
theorem dX5_status_88 : decode cX5_status 88 = .ok (.getfield 183, 3) := by decide +kernel
theorem dX5_status_91 : decode cX5_status 91 = .ok (.ireturn, 1) := by decide +kernel
theorem dX5_status_92 : decode cX5_status 92 = .ok (.aload_n 0, 1) := by decide +kernel
theorem dX5_status_93 : decode cX5_status 93 = .ok (.getfield 10, 3) := by decide +kernel
theorem dX5_status_96 : decode cX5_status 96 = .ok (.getfield 186, 3) := by decide +kernel
theorem dX5_status_99 : decode cX5_status 99 = .ok (.ireturn, 1) := by decide +kernel
theorem dX5_status_100 : decode cX5_status 100 = .ok (.aload_n 0, 1) := by decide +kernel
theorem dX5_status_101 : decode cX5_status 101 = .ok (.getfield 10, 3) := by decide +kernel
theorem dX5_status_104 : decode cX5_status 104 = .ok (.invokevirtual 314, 3) := by decide +kernel
theorem dX5_status_107 : decode cX5_status 107 = .ok (.ireturn, 1) := by decide +kernel
theorem dX5_status_108 : decode cX5_status 108 = .ok (.aload_n 0, 1) := by decide +kernel
theorem dX5_status_109 : decode cX5_status 109 = .ok (.getfield 10, 3) := by decide +kernel
theorem dX5_status_112 : decode cX5_status 112 = .ok (.getfield 317, 3) := by decide +kernel
theorem dX5_status_115 : decode cX5_status 115 = .ok (.ireturn, 1) := by decide +kernel
theorem dX5_status_116 : decode cX5_status 116 = .ok (.aload_n 0, 1) := by decide +kernel
theorem dX5_status_117 : decode cX5_status 117 = .ok (.getfield 10, 3) := by decide +kernel
theorem dX5_status_120 : decode cX5_status 120 = .ok (.getfield 302, 3) := by decide +kernel
theorem dX5_status_123 : decode cX5_status 123 = .ok (.ireturn, 1) := by decide +kernel
theorem dX5_status_124 : decode cX5_status 124 = .ok (.aload_n 0, 1) := by decide +kernel
theorem dX5_status_125 : decode cX5_status 125 = .ok (.getfield 27, 3) := by decide +kernel
theorem dX5_status_128 : decode cX5_status 128 = .ok (.getfield 320, 3) := by decide +kernel
theorem dX5_status_131 : decode cX5_status 131 = .ok (.ireturn, 1) := by decide +kernel
theorem dX5_status_132 : decode cX5_status 132 = .ok (.aload_n 0, 1) := by decide +kernel
theorem dX5_status_133 : decode cX5_status 133 = .ok (.getfield 10, 3) := by decide +kernel
theorem dX5_status_136 : decode cX5_status 136 = .ok (.getfield 308, 3) := by decide +kernel
theorem dX5_status_139 : decode cX5_status 139 = .ok (.ireturn, 1) := by decide +kernel
theorem dX5_status_140 : decode cX5_status 140 = .ok (.aload_n 0, 1) := by decide +kernel
theorem dX5_status_141 : decode cX5_status 141 = .ok (.getfield 34, 3) := by decide +kernel
theorem dX5_status_144 : decode cX5_status 144 = .ok (.invokevirtual 323, 3) := by decide +kernel
theorem dX5_status_147 : decode cX5_status 147 = .ok (.ireturn, 1) := by decide +kernel
theorem dX5_status_148 : decode cX5_status 148 = .ok (.iload_n 1, 1) := by decide +kernel
theorem dX5_status_149 : decode cX5_status 149 = .ok (.bipush 12, 2) := by decide +kernel
theorem dX5_status_151 : decode cX5_status 151 = .ok (.bipush 16, 2) := by decide +kernel
theorem dX5_status_153 : decode cX5_status 153 = .ok (.invokestatic 72, 3) := by decide +kernel
theorem dX5_status_156 : decode cX5_status 156 = .ok (.ifCond .eq 15, 3) := by decide +kernel
theorem dX5_status_159 : decode cX5_status 159 = .ok (.aload_n 0, 1) := by decide +kernel
theorem dX5_status_160 : decode cX5_status 160 = .ok (.getfield 61, 3) := by decide +kernel
theorem dX5_status_163 : decode cX5_status 163 = .ok (.iload_n 1, 1) := by decide +kernel
theorem dX5_status_164 : decode cX5_status 164 = .ok (.bipush 12, 2) := by decide +kernel
theorem dX5_status_166 : decode cX5_status 166 = .ok (.isub, 1) := by decide +kernel
theorem dX5_status_167 : decode cX5_status 167 = .ok (.iaload, 1) := by decide +kernel
theorem dX5_status_168 : decode cX5_status 168 = .ok (.goto 4, 3) := by decide +kernel
theorem dX5_status_171 : decode cX5_status 171 = .ok (.iconst (-1), 1) := by decide +kernel
theorem dX5_status_172 : decode cX5_status 172 = .ok (.ireturn, 1) := by decide +kernel
set_option maxRecDepth 20000 in
theorem ggX5_refuse_X5_isWithin : GoodIn wsX5_refuse wsX5_isWithin := goodIn_r _ [5] (by decide +kernel) (by decide +kernel)
set_option maxRecDepth 20000 in
theorem gX5_refuse_X5_isWithin : GoodIn wsX5_refuse (va_wsS RX5 72 yX5_isWithin wsX5_isWithin) := goodIn_app (goodIn_of _ (by decide +kernel)) ggX5_refuse_X5_isWithin
theorem dX5_refuse_0 : decode cX5_refuse 0 = .ok (.iload_n 1, 1) := by decide +kernel
theorem dX5_refuse_1 : decode cX5_refuse 1 = .ok (.bipush (-6), 2) := by decide +kernel
theorem dX5_refuse_3 : decode cX5_refuse 3 = .ok (.bipush (-2), 2) := by decide +kernel
theorem dX5_refuse_5 : decode cX5_refuse 5 = .ok (.invokestatic 72, 3) := by decide +kernel
theorem dX5_refuse_8 : decode cX5_refuse 8 = .ok (.ifCond .eq 16, 3) := by decide +kernel
theorem dX5_refuse_11 : decode cX5_refuse 11 = .ok (.aload_n 0, 1) := by decide +kernel
theorem dX5_refuse_12 : decode cX5_refuse 12 = .ok (.getfield 61, 3) := by decide +kernel
theorem dX5_refuse_15 : decode cX5_refuse 15 = .ok (.bipush (-2), 2) := by decide +kernel
theorem dX5_refuse_17 : decode cX5_refuse 17 = .ok (.iload_n 1, 1) := by decide +kernel
theorem dX5_refuse_18 : decode cX5_refuse 18 = .ok (.isub, 1) := by decide +kernel
theorem dX5_refuse_19 : decode cX5_refuse 19 = .ok (.dup2, 1) := by decide +kernel
theorem dX5_refuse_20 : decode cX5_refuse 20 = .ok (.iaload, 1) := by decide +kernel
theorem dX5_refuse_21 : decode cX5_refuse 21 = .ok (.iconst 1, 1) := by decide +kernel
theorem dX5_refuse_22 : decode cX5_refuse 22 = .ok (.iadd, 1) := by decide +kernel
theorem dX5_refuse_23 : decode cX5_refuse 23 = .ok (.iastore, 1) := by decide +kernel
theorem dX5_refuse_24 : decode cX5_refuse 24 = .ok (.iload_n 1, 1) := by decide +kernel
theorem dX5_refuse_25 : decode cX5_refuse 25 = .ok (.ireturn, 1) := by decide +kernel
theorem dX5_isWithin_0 : decode cX5_isWithin 0 = .ok (.iload_n 0, 1) := by decide +kernel
theorem dX5_isWithin_1 : decode cX5_isWithin 1 = .ok (.iload_n 1, 1) := by decide +kernel
theorem dX5_isWithin_2 : decode cX5_isWithin 2 = .ok (.if_icmp .lt 12, 3) := by decide +kernel
theorem dX5_isWithin_5 : decode cX5_isWithin 5 = .ok (.iload_n 0, 1) := by decide +kernel
theorem dX5_isWithin_6 : decode cX5_isWithin 6 = .ok (.iload_n 2, 1) := by decide +kernel
theorem dX5_isWithin_7 : decode cX5_isWithin 7 = .ok (.if_icmp .gt 7, 3) := by decide +kernel
theorem dX5_isWithin_10 : decode cX5_isWithin 10 = .ok (.iconst 1, 1) := by decide +kernel
theorem dX5_isWithin_11 : decode cX5_isWithin 11 = .ok (.goto 4, 3) := by decide +kernel
theorem dX5_isWithin_14 : decode cX5_isWithin 14 = .ok (.iconst 0, 1) := by decide +kernel
theorem dX5_isWithin_15 : decode cX5_isWithin 15 = .ok (.ireturn, 1) := by decide +kernel
theorem dX5_asNumber_0 : decode cX5_asNumber 0 = .ok (.iload_n 0, 1) := by decide +kernel
theorem dX5_asNumber_1 : decode cX5_asNumber 1 = .ok (.ifCond .eq 7, 3) := by decide +kernel
theorem dX5_asNumber_4 : decode cX5_asNumber 4 = .ok (.iconst 1, 1) := by decide +kernel
theorem dX5_asNumber_5 : decode cX5_asNumber 5 = .ok (.goto 4, 3) := by decide +kernel
theorem dX5_asNumber_8 : decode cX5_asNumber 8 = .ok (.iconst 0, 1) := by decide +kernel
theorem dX5_asNumber_9 : decode cX5_asNumber 9 = .ok (.ireturn, 1) := by decide +kernel
set_option maxRecDepth 20000 in
theorem ggX5_isKind_X5_isWithin : GoodIn wsX5_isKind wsX5_isWithin := goodIn_r _ [4] (by decide +kernel) (by decide +kernel)
set_option maxRecDepth 20000 in
theorem gX5_isKind_X5_isWithin : GoodIn wsX5_isKind (va_wsS RX5 72 yX5_isWithin wsX5_isWithin) := goodIn_app (goodIn_of _ (by decide +kernel)) ggX5_isKind_X5_isWithin
theorem dX5_isKind_0 : decode cX5_isKind 0 = .ok (.iload_n 0, 1) := by decide +kernel
theorem dX5_isKind_1 : decode cX5_isKind 1 = .ok (.iconst 0, 1) := by decide +kernel
theorem dX5_isKind_2 : decode cX5_isKind 2 = .ok (.iconst 5, 1) := by decide +kernel
theorem dX5_isKind_3 : decode cX5_isKind 3 = .ok (.invokestatic 72, 3) := by decide +kernel
theorem dX5_isKind_6 : decode cX5_isKind 6 = .ok (.ireturn, 1) := by decide +kernel
set_option maxRecDepth 20000 in
theorem ggX5_isFaces_X5_isWithin : GoodIn wsX5_isFaces wsX5_isWithin := goodIn_r _ [4] (by decide +kernel) (by decide +kernel)
set_option maxRecDepth 20000 in
theorem gX5_isFaces_X5_isWithin : GoodIn wsX5_isFaces (va_wsS RX5 72 yX5_isWithin wsX5_isWithin) := goodIn_app (goodIn_of _ (by decide +kernel)) ggX5_isFaces_X5_isWithin
theorem dX5_isFaces_0 : decode cX5_isFaces 0 = .ok (.iload_n 0, 1) := by decide +kernel
theorem dX5_isFaces_1 : decode cX5_isFaces 1 = .ok (.iconst 0, 1) := by decide +kernel
theorem dX5_isFaces_2 : decode cX5_isFaces 2 = .ok (.iconst 3, 1) := by decide +kernel
theorem dX5_isFaces_3 : decode cX5_isFaces 3 = .ok (.invokestatic 72, 3) := by decide +kernel
theorem dX5_isFaces_6 : decode cX5_isFaces 6 = .ok (.ireturn, 1) := by decide +kernel
set_option maxRecDepth 20000 in
theorem ggX5_isUnder_X5_isKind : GoodIn wsX5_isUnder wsX5_isKind := goodIn_r _ [5, 6, 7, 4, 8] (by decide +kernel) (by decide +kernel)
set_option maxRecDepth 20000 in
theorem gX5_isUnder_X5_isKind : GoodIn wsX5_isUnder (va_wsS RX5 120 yX5_isKind wsX5_isKind) := goodIn_app (goodIn_of _ (by decide +kernel)) ggX5_isUnder_X5_isKind
theorem dX5_isUnder_0 : decode cX5_isUnder 0 = .ok (.iload_n 0, 1) := by decide +kernel
theorem dX5_isUnder_1 : decode cX5_isUnder 1 = .ok (.istore_n 2, 1) := by decide +kernel
theorem dX5_isUnder_2 : decode cX5_isUnder 2 = .ok (.iconst 0, 1) := by decide +kernel
theorem dX5_isUnder_3 : decode cX5_isUnder 3 = .ok (.istore_n 3, 1) := by decide +kernel
theorem dX5_isUnder_4 : decode cX5_isUnder 4 = .ok (.iload_n 3, 1) := by decide +kernel
theorem dX5_isUnder_5 : decode cX5_isUnder 5 = .ok (.bipush 6, 2) := by decide +kernel
theorem dX5_isUnder_7 : decode cX5_isUnder 7 = .ok (.if_icmp .ge 29, 3) := by decide +kernel
theorem dX5_isUnder_10 : decode cX5_isUnder 10 = .ok (.iload_n 2, 1) := by decide +kernel
theorem dX5_isUnder_11 : decode cX5_isUnder 11 = .ok (.invokestatic 120, 3) := by decide +kernel
theorem dX5_isUnder_14 : decode cX5_isUnder 14 = .ok (.ifCond .eq 22, 3) := by decide +kernel
theorem dX5_isUnder_17 : decode cX5_isUnder 17 = .ok (.iload_n 2, 1) := by decide +kernel
theorem dX5_isUnder_18 : decode cX5_isUnder 18 = .ok (.iload_n 1, 1) := by decide +kernel
theorem dX5_isUnder_19 : decode cX5_isUnder 19 = .ok (.if_icmp .ne 5, 3) := by decide +kernel
theorem dX5_isUnder_22 : decode cX5_isUnder 22 = .ok (.iconst 1, 1) := by decide +kernel
theorem dX5_isUnder_23 : decode cX5_isUnder 23 = .ok (.ireturn, 1) := by decide +kernel
theorem dX5_isUnder_24 : decode cX5_isUnder 24 = .ok (.getstatic 326, 3) := by decide +kernel
theorem dX5_isUnder_27 : decode cX5_isUnder 27 = .ok (.iload_n 2, 1) := by decide +kernel
theorem dX5_isUnder_28 : decode cX5_isUnder 28 = .ok (.iaload, 1) := by decide +kernel
theorem dX5_isUnder_29 : decode cX5_isUnder 29 = .ok (.istore_n 2, 1) := by decide +kernel
theorem dX5_isUnder_30 : decode cX5_isUnder 30 = .ok (.iinc 3 1, 3) := by decide +kernel
theorem dX5_isUnder_33 : decode cX5_isUnder 33 = .ok (.goto (-29), 3) := by decide +kernel
theorem dX5_isUnder_36 : decode cX5_isUnder 36 = .ok (.iconst 0, 1) := by decide +kernel
theorem dX5_isUnder_37 : decode cX5_isUnder 37 = .ok (.ireturn, 1) := by decide +kernel
set_option maxRecDepth 20000 in
theorem ggX5_isTold_X3_isShelf : GoodIn wsX5_isTold wsX3_isShelf := goodIn_r _ [6, 7, 8, 9] (by decide +kernel) (by decide +kernel)
set_option maxRecDepth 20000 in
theorem gX5_isTold_X3_isShelf : GoodIn wsX5_isTold (wsV RX5 68 RX3 yX3_isShelf wsX3_isShelf) := goodIn_app (goodIn_of _ (by decide +kernel)) ggX5_isTold_X3_isShelf
set_option maxRecDepth 20000 in
theorem ggX5_isTold_X5_isWithin : GoodIn wsX5_isTold wsX5_isWithin := goodIn_r _ [9] (by decide +kernel) (by decide +kernel)
set_option maxRecDepth 20000 in
theorem gX5_isTold_X5_isWithin : GoodIn wsX5_isTold (va_wsS RX5 72 yX5_isWithin wsX5_isWithin) := goodIn_app (goodIn_of _ (by decide +kernel)) ggX5_isTold_X5_isWithin
theorem dX5_isTold_0 : decode cX5_isTold 0 = .ok (.aload_n 0, 1) := by decide +kernel
theorem dX5_isTold_1 : decode cX5_isTold 1 = .ok (.getfield 34, 3) := by decide +kernel
theorem dX5_isTold_4 : decode cX5_isTold 4 = .ok (.iload_n 1, 1) := by decide +kernel
theorem dX5_isTold_5 : decode cX5_isTold 5 = .ok (.invokevirtual 68, 3) := by decide +kernel
theorem dX5_isTold_8 : decode cX5_isTold 8 = .ok (.ifCond .eq 17, 3) := by decide +kernel
theorem dX5_isTold_11 : decode cX5_isTold 11 = .ok (.iload_n 2, 1) := by decide +kernel
theorem dX5_isTold_12 : decode cX5_isTold 12 = .ok (.iconst 0, 1) := by decide +kernel
theorem dX5_isTold_13 : decode cX5_isTold 13 = .ok (.bipush 40, 2) := by decide +kernel
theorem dX5_isTold_15 : decode cX5_isTold 15 = .ok (.invokestatic 72, 3) := by decide +kernel
theorem dX5_isTold_18 : decode cX5_isTold 18 = .ok (.ifCond .eq 7, 3) := by decide +kernel
theorem dX5_isTold_21 : decode cX5_isTold 21 = .ok (.iconst 1, 1) := by decide +kernel
theorem dX5_isTold_22 : decode cX5_isTold 22 = .ok (.goto 4, 3) := by decide +kernel
theorem dX5_isTold_25 : decode cX5_isTold 25 = .ok (.iconst 0, 1) := by decide +kernel
theorem dX5_isTold_26 : decode cX5_isTold 26 = .ok (.ireturn, 1) := by decide +kernel
set_option maxRecDepth 20000 in
theorem ggX5_arePair_X0_isOne : GoodIn wsX5_arePair wsX0_isOne := goodIn_r _ [6, 7, 8, 9, 10, 22, 23, 24, 25, 26, 27, 28, 29, 30, 31, 32, 33, 34, 35] (by decide +kernel) (by decide +kernel)
set_option maxRecDepth 20000 in
theorem gX5_arePair_X0_isOne : GoodIn wsX5_arePair (wsV RX5 109 RX0 yX0_isOne wsX0_isOne) := goodIn_app (goodIn_of _ (by decide +kernel)) ggX5_arePair_X0_isOne
theorem dX5_arePair_0 : decode cX5_arePair 0 = .ok (.aload_n 0, 1) := by decide +kernel
theorem dX5_arePair_1 : decode cX5_arePair 1 = .ok (.getfield 10, 3) := by decide +kernel
theorem dX5_arePair_4 : decode cX5_arePair 4 = .ok (.iload_n 1, 1) := by decide +kernel
theorem dX5_arePair_5 : decode cX5_arePair 5 = .ok (.invokevirtual 109, 3) := by decide +kernel
theorem dX5_arePair_8 : decode cX5_arePair 8 = .ok (.ifCond .eq 23, 3) := by decide +kernel
theorem dX5_arePair_11 : decode cX5_arePair 11 = .ok (.aload_n 0, 1) := by decide +kernel
theorem dX5_arePair_12 : decode cX5_arePair 12 = .ok (.getfield 10, 3) := by decide +kernel
theorem dX5_arePair_15 : decode cX5_arePair 15 = .ok (.iload_n 2, 1) := by decide +kernel
theorem dX5_arePair_16 : decode cX5_arePair 16 = .ok (.invokevirtual 109, 3) := by decide +kernel
theorem dX5_arePair_19 : decode cX5_arePair 19 = .ok (.ifCond .eq 12, 3) := by decide +kernel
theorem dX5_arePair_22 : decode cX5_arePair 22 = .ok (.iload_n 1, 1) := by decide +kernel
theorem dX5_arePair_23 : decode cX5_arePair 23 = .ok (.iload_n 2, 1) := by decide +kernel
theorem dX5_arePair_24 : decode cX5_arePair 24 = .ok (.if_icmp .eq 7, 3) := by decide +kernel
theorem dX5_arePair_27 : decode cX5_arePair 27 = .ok (.iconst 1, 1) := by decide +kernel
theorem dX5_arePair_28 : decode cX5_arePair 28 = .ok (.goto 4, 3) := by decide +kernel
theorem dX5_arePair_31 : decode cX5_arePair 31 = .ok (.iconst 0, 1) := by decide +kernel
theorem dX5_arePair_32 : decode cX5_arePair 32 = .ok (.ireturn, 1) := by decide +kernel
set_option maxRecDepth 20000 in
theorem ggX5_rowFault_X3_holdsOne : GoodIn wsX5_rowFault wsX3_holdsOne := goodIn_r _ [6, 7, 23, 24, 25] (by decide +kernel) (by decide +kernel)
set_option maxRecDepth 20000 in
theorem gX5_rowFault_X3_holdsOne : GoodIn wsX5_rowFault (wsV RX5 329 RX3 yX3_holdsOne wsX3_holdsOne) := goodIn_app (goodIn_of _ (by decide +kernel)) ggX5_rowFault_X3_holdsOne
set_option maxRecDepth 20000 in
theorem ggX5_rowFault_X3_held : GoodIn wsX5_rowFault wsX3_held := goodIn_r _ [11, 7, 23, 24, 25] (by decide +kernel) (by decide +kernel)
set_option maxRecDepth 20000 in
theorem gX5_rowFault_X3_held : GoodIn wsX5_rowFault (wsV RX5 95 RX3 yX3_held wsX3_held) := goodIn_app (goodIn_of _ (by decide +kernel)) ggX5_rowFault_X3_held
theorem dX5_rowFault_0 : decode cX5_rowFault 0 = .ok (.aload_n 0, 1) := by decide +kernel
theorem dX5_rowFault_1 : decode cX5_rowFault 1 = .ok (.getfield 34, 3) := by decide +kernel
theorem dX5_rowFault_4 : decode cX5_rowFault 4 = .ok (.iload_n 1, 1) := by decide +kernel
theorem dX5_rowFault_5 : decode cX5_rowFault 5 = .ok (.invokevirtual 329, 3) := by decide +kernel
theorem dX5_rowFault_8 : decode cX5_rowFault 8 = .ok (.ifCond .ne 14, 3) := by decide +kernel
theorem dX5_rowFault_11 : decode cX5_rowFault 11 = .ok (.aload_n 0, 1) := by decide +kernel
theorem dX5_rowFault_12 : decode cX5_rowFault 12 = .ok (.getfield 34, 3) := by decide +kernel
theorem dX5_rowFault_15 : decode cX5_rowFault 15 = .ok (.iload_n 2, 1) := by decide +kernel
theorem dX5_rowFault_16 : decode cX5_rowFault 16 = .ok (.invokevirtual 329, 3) := by decide +kernel
theorem dX5_rowFault_19 : decode cX5_rowFault 19 = .ok (.ifCond .eq 6, 3) := by decide +kernel
theorem dX5_rowFault_22 : decode cX5_rowFault 22 = .ok (.bipush (-3), 2) := by decide +kernel
theorem dX5_rowFault_24 : decode cX5_rowFault 24 = .ok (.ireturn, 1) := by decide +kernel
theorem dX5_rowFault_25 : decode cX5_rowFault 25 = .ok (.aload_n 0, 1) := by decide +kernel
theorem dX5_rowFault_26 : decode cX5_rowFault 26 = .ok (.getfield 34, 3) := by decide +kernel
theorem dX5_rowFault_29 : decode cX5_rowFault 29 = .ok (.iload_n 1, 1) := by decide +kernel
theorem dX5_rowFault_30 : decode cX5_rowFault 30 = .ok (.invokevirtual 95, 3) := by decide +kernel
theorem dX5_rowFault_33 : decode cX5_rowFault 33 = .ok (.iconst (-1), 1) := by decide +kernel
theorem dX5_rowFault_34 : decode cX5_rowFault 34 = .ok (.if_icmp .eq 15, 3) := by decide +kernel
theorem dX5_rowFault_37 : decode cX5_rowFault 37 = .ok (.aload_n 0, 1) := by decide +kernel
theorem dX5_rowFault_38 : decode cX5_rowFault 38 = .ok (.getfield 34, 3) := by decide +kernel
theorem dX5_rowFault_41 : decode cX5_rowFault 41 = .ok (.iload_n 2, 1) := by decide +kernel
theorem dX5_rowFault_42 : decode cX5_rowFault 42 = .ok (.invokevirtual 95, 3) := by decide +kernel
theorem dX5_rowFault_45 : decode cX5_rowFault 45 = .ok (.iconst (-1), 1) := by decide +kernel
theorem dX5_rowFault_46 : decode cX5_rowFault 46 = .ok (.if_icmp .ne 8, 3) := by decide +kernel
theorem dX5_rowFault_49 : decode cX5_rowFault 49 = .ok (.bipush (-4), 2) := by decide +kernel
theorem dX5_rowFault_51 : decode cX5_rowFault 51 = .ok (.goto 4, 3) := by decide +kernel
theorem dX5_rowFault_54 : decode cX5_rowFault 54 = .ok (.iconst 0, 1) := by decide +kernel
theorem dX5_rowFault_55 : decode cX5_rowFault 55 = .ok (.ireturn, 1) := by decide +kernel
set_option maxRecDepth 20000 in
theorem ggX5_tellingFault_X5_isTold : GoodIn wsX5_tellingFault wsX5_isTold := goodIn_r _ [5, 6, 7, 8, 9, 10, 11, 12, 4, 13, 14, 47, 48, 49, 50, 51, 52, 53, 54, 55, 56, 57] (by decide +kernel) (by decide +kernel)
set_option maxRecDepth 20000 in
theorem gX5_tellingFault_X5_isTold : GoodIn wsX5_tellingFault (wsV RX5 296 RX5 yX5_isTold wsX5_isTold) := goodIn_app (goodIn_of _ (by decide +kernel)) ggX5_tellingFault_X5_isTold
set_option maxRecDepth 20000 in
theorem ggX5_tellingFault_X5_tellingsFault : GoodIn wsX5_tellingFault wsX5_tellingsFault := goodIn_r _ [18, 6, 19, 20, 21, 4, 22, 23, 24, 25, 10, 26, 27, 28, 29, 30, 31, 32, 33, 34, 35, 36, 37, 38, 39, 40, 41, 42, 43, 44, 45, 46, 47, 48, 49, 50, 51, 52, 53, 54, 55, 56, 57, 58, 59, 60] (by decide +kernel) (by decide +kernel)
set_option maxRecDepth 20000 in
theorem gX5_tellingFault_X5_tellingsFault : GoodIn wsX5_tellingFault (wsV RX5 332 RX5 yX5_tellingsFault wsX5_tellingsFault) := goodIn_app (goodIn_of _ (by decide +kernel)) ggX5_tellingFault_X5_tellingsFault
theorem dX5_tellingFault_0 : decode cX5_tellingFault 0 = .ok (.aload_n 0, 1) := by decide +kernel
theorem dX5_tellingFault_1 : decode cX5_tellingFault 1 = .ok (.iload_n 1, 1) := by decide +kernel
theorem dX5_tellingFault_2 : decode cX5_tellingFault 2 = .ok (.iload_n 2, 1) := by decide +kernel
theorem dX5_tellingFault_3 : decode cX5_tellingFault 3 = .ok (.invokevirtual 296, 3) := by decide +kernel
theorem dX5_tellingFault_6 : decode cX5_tellingFault 6 = .ok (.ifCond .eq 18, 3) := by decide +kernel
theorem dX5_tellingFault_9 : decode cX5_tellingFault 9 = .ok (.iload_n 3, 1) := by decide +kernel
theorem dX5_tellingFault_10 : decode cX5_tellingFault 10 = .ok (.ifCond .eq 14, 3) := by decide +kernel
theorem dX5_tellingFault_13 : decode cX5_tellingFault 13 = .ok (.aload_n 0, 1) := by decide +kernel
theorem dX5_tellingFault_14 : decode cX5_tellingFault 14 = .ok (.iload_n 1, 1) := by decide +kernel
theorem dX5_tellingFault_15 : decode cX5_tellingFault 15 = .ok (.iload_n 2, 1) := by decide +kernel
theorem dX5_tellingFault_16 : decode cX5_tellingFault 16 = .ok (.iload_n 1, 1) := by decide +kernel
theorem dX5_tellingFault_17 : decode cX5_tellingFault 17 = .ok (.iconst 0, 1) := by decide +kernel
theorem dX5_tellingFault_18 : decode cX5_tellingFault 18 = .ok (.invokevirtual 332, 3) := by decide +kernel
theorem dX5_tellingFault_21 : decode cX5_tellingFault 21 = .ok (.goto 5, 3) := by decide +kernel
theorem dX5_tellingFault_24 : decode cX5_tellingFault 24 = .ok (.bipush (-2), 2) := by decide +kernel
theorem dX5_tellingFault_26 : decode cX5_tellingFault 26 = .ok (.ireturn, 1) := by decide +kernel
set_option maxRecDepth 20000 in
theorem ggX5_tellingsFault_X5_rowFault : GoodIn wsX5_tellingsFault wsX5_rowFault := goodIn_r _ [6, 1, 7, 8, 9, 10, 11, 12, 13, 14, 15, 16, 32, 33, 34, 35, 36, 37, 38, 39, 40, 41, 42, 43, 44, 45] (by decide +kernel) (by decide +kernel)
set_option maxRecDepth 20000 in
theorem gX5_tellingsFault_X5_rowFault : GoodIn wsX5_tellingsFault (wsV RX5 84 RX5 yX5_rowFault wsX5_rowFault) := goodIn_app (goodIn_of _ (by decide +kernel)) ggX5_tellingsFault_X5_rowFault
set_option maxRecDepth 20000 in
theorem ggX5_tellingsFault_X3_sizeOf : GoodIn wsX5_tellingsFault wsX3_sizeOf := goodIn_r _ [20, 21, 43, 44, 45] (by decide +kernel) (by decide +kernel)
set_option maxRecDepth 20000 in
theorem gX5_tellingsFault_X3_sizeOf : GoodIn wsX5_tellingsFault (wsV RX5 88 RX3 yX3_sizeOf wsX3_sizeOf) := goodIn_app (goodIn_of _ (by decide +kernel)) ggX5_tellingsFault_X3_sizeOf
set_option maxRecDepth 20000 in
theorem ggX5_tellingsFault_X3_firstWrong : GoodIn wsX5_tellingsFault wsX3_firstWrong := goodIn_r _ [25, 26, 27, 28, 29, 10, 30, 31, 43, 44, 45] (by decide +kernel) (by decide +kernel)
set_option maxRecDepth 20000 in
theorem gX5_tellingsFault_X3_firstWrong : GoodIn wsX5_tellingsFault (wsV RX5 299 RX3 yX3_firstWrong wsX3_firstWrong) := goodIn_app (goodIn_of _ (by decide +kernel)) ggX5_tellingsFault_X3_firstWrong
theorem dX5_tellingsFault_0 : decode cX5_tellingsFault 0 = .ok (.aload_n 0, 1) := by decide +kernel
theorem dX5_tellingsFault_1 : decode cX5_tellingsFault 1 = .ok (.iload_n 1, 1) := by decide +kernel
theorem dX5_tellingsFault_2 : decode cX5_tellingsFault 2 = .ok (.iload_n 3, 1) := by decide +kernel
theorem dX5_tellingsFault_3 : decode cX5_tellingsFault 3 = .ok (.invokevirtual 84, 3) := by decide +kernel
theorem dX5_tellingsFault_6 : decode cX5_tellingsFault 6 = .ok (.istore 5, 2) := by decide +kernel
theorem dX5_tellingsFault_8 : decode cX5_tellingsFault 8 = .ok (.iload 5, 2) := by decide +kernel
theorem dX5_tellingsFault_10 : decode cX5_tellingsFault 10 = .ok (.ifCond .eq 6, 3) := by decide +kernel
theorem dX5_tellingsFault_13 : decode cX5_tellingsFault 13 = .ok (.iload 5, 2) := by decide +kernel
theorem dX5_tellingsFault_15 : decode cX5_tellingsFault 15 = .ok (.ireturn, 1) := by decide +kernel
theorem dX5_tellingsFault_16 : decode cX5_tellingsFault 16 = .ok (.iload_n 2, 1) := by decide +kernel
theorem dX5_tellingsFault_17 : decode cX5_tellingsFault 17 = .ok (.aload_n 0, 1) := by decide +kernel
theorem dX5_tellingsFault_18 : decode cX5_tellingsFault 18 = .ok (.getfield 34, 3) := by decide +kernel
theorem dX5_tellingsFault_21 : decode cX5_tellingsFault 21 = .ok (.iload_n 1, 1) := by decide +kernel
theorem dX5_tellingsFault_22 : decode cX5_tellingsFault 22 = .ok (.invokevirtual 88, 3) := by decide +kernel
theorem dX5_tellingsFault_25 : decode cX5_tellingsFault 25 = .ok (.if_icmp .gt 16, 3) := by decide +kernel
theorem dX5_tellingsFault_28 : decode cX5_tellingsFault 28 = .ok (.iload 4, 2) := by decide +kernel
theorem dX5_tellingsFault_30 : decode cX5_tellingsFault 30 = .ok (.aload_n 0, 1) := by decide +kernel
theorem dX5_tellingsFault_31 : decode cX5_tellingsFault 31 = .ok (.getfield 34, 3) := by decide +kernel
theorem dX5_tellingsFault_34 : decode cX5_tellingsFault 34 = .ok (.iload_n 3, 1) := by decide +kernel
theorem dX5_tellingsFault_35 : decode cX5_tellingsFault 35 = .ok (.invokevirtual 88, 3) := by decide +kernel
theorem dX5_tellingsFault_38 : decode cX5_tellingsFault 38 = .ok (.if_icmp .le 6, 3) := by decide +kernel
theorem dX5_tellingsFault_41 : decode cX5_tellingsFault 41 = .ok (.bipush (-2), 2) := by decide +kernel
theorem dX5_tellingsFault_43 : decode cX5_tellingsFault 43 = .ok (.ireturn, 1) := by decide +kernel
theorem dX5_tellingsFault_44 : decode cX5_tellingsFault 44 = .ok (.aload_n 0, 1) := by decide +kernel
theorem dX5_tellingsFault_45 : decode cX5_tellingsFault 45 = .ok (.getfield 34, 3) := by decide +kernel
theorem dX5_tellingsFault_48 : decode cX5_tellingsFault 48 = .ok (.iload_n 1, 1) := by decide +kernel
theorem dX5_tellingsFault_49 : decode cX5_tellingsFault 49 = .ok (.iload_n 2, 1) := by decide +kernel
theorem dX5_tellingsFault_50 : decode cX5_tellingsFault 50 = .ok (.invokevirtual 299, 3) := by decide +kernel
theorem dX5_tellingsFault_53 : decode cX5_tellingsFault 53 = .ok (.iconst (-1), 1) := by decide +kernel
theorem dX5_tellingsFault_54 : decode cX5_tellingsFault 54 = .ok (.if_icmp .ne 21, 3) := by decide +kernel
theorem dX5_tellingsFault_57 : decode cX5_tellingsFault 57 = .ok (.aload_n 0, 1) := by decide +kernel
theorem dX5_tellingsFault_58 : decode cX5_tellingsFault 58 = .ok (.getfield 34, 3) := by decide +kernel
theorem dX5_tellingsFault_61 : decode cX5_tellingsFault 61 = .ok (.iload_n 3, 1) := by decide +kernel
theorem dX5_tellingsFault_62 : decode cX5_tellingsFault 62 = .ok (.iload 4, 2) := by decide +kernel
theorem dX5_tellingsFault_64 : decode cX5_tellingsFault 64 = .ok (.invokevirtual 299, 3) := by decide +kernel
theorem dX5_tellingsFault_67 : decode cX5_tellingsFault 67 = .ok (.iconst (-1), 1) := by decide +kernel
theorem dX5_tellingsFault_68 : decode cX5_tellingsFault 68 = .ok (.if_icmp .ne 7, 3) := by decide +kernel
theorem dX5_tellingsFault_71 : decode cX5_tellingsFault 71 = .ok (.iconst 1, 1) := by decide +kernel
theorem dX5_tellingsFault_72 : decode cX5_tellingsFault 72 = .ok (.goto 4, 3) := by decide +kernel
theorem dX5_tellingsFault_75 : decode cX5_tellingsFault 75 = .ok (.iconst 0, 1) := by decide +kernel
theorem dX5_tellingsFault_76 : decode cX5_tellingsFault 76 = .ok (.istore 6, 2) := by decide +kernel
theorem dX5_tellingsFault_78 : decode cX5_tellingsFault 78 = .ok (.iload 6, 2) := by decide +kernel
theorem dX5_tellingsFault_80 : decode cX5_tellingsFault 80 = .ok (.ifCond .eq 7, 3) := by decide +kernel
theorem dX5_tellingsFault_83 : decode cX5_tellingsFault 83 = .ok (.iconst 0, 1) := by decide +kernel
theorem dX5_tellingsFault_84 : decode cX5_tellingsFault 84 = .ok (.goto 5, 3) := by decide +kernel
theorem dX5_tellingsFault_87 : decode cX5_tellingsFault 87 = .ok (.bipush (-5), 2) := by decide +kernel
theorem dX5_tellingsFault_89 : decode cX5_tellingsFault 89 = .ok (.ireturn, 1) := by decide +kernel
set_option maxRecDepth 20000 in
theorem ggX5_meetingFault_X5_isTold : GoodIn wsX5_meetingFault wsX5_isTold := goodIn_r _ [5, 6, 7, 8, 9, 10, 11, 12, 4, 13, 14, 58, 59, 60, 61, 62, 63, 64, 65, 66, 67, 68] (by decide +kernel) (by decide +kernel)
set_option maxRecDepth 20000 in
theorem gX5_meetingFault_X5_isTold : GoodIn wsX5_meetingFault (wsV RX5 296 RX5 yX5_isTold wsX5_isTold) := goodIn_app (goodIn_of _ (by decide +kernel)) ggX5_meetingFault_X5_isTold
set_option maxRecDepth 20000 in
theorem ggX5_meetingFault_X5_arePair : GoodIn wsX5_meetingFault wsX5_arePair := goodIn_r _ [18, 19, 20, 21, 22, 23, 24, 25, 12, 4, 13, 58, 59, 60, 61, 62, 63, 64, 65, 66, 67, 68, 69, 70, 71, 72, 73, 74, 75, 76, 77, 78, 79, 80, 81, 82] (by decide +kernel) (by decide +kernel)
set_option maxRecDepth 20000 in
theorem gX5_meetingFault_X5_arePair : GoodIn wsX5_meetingFault (wsV RX5 265 RX5 yX5_arePair wsX5_arePair) := goodIn_app (goodIn_of _ (by decide +kernel)) ggX5_meetingFault_X5_arePair
set_option maxRecDepth 20000 in
theorem ggX5_meetingFault_X5_tellingsFault : GoodIn wsX5_meetingFault wsX5_tellingsFault := goodIn_r _ [29, 6, 30, 31, 32, 4, 33, 34, 35, 36, 10, 37, 38, 39, 40, 41, 42, 43, 44, 45, 46, 47, 48, 49, 50, 51, 52, 53, 54, 55, 56, 57, 58, 59, 60, 61, 62, 63, 64, 65, 66, 67, 68, 83, 84, 85] (by decide +kernel) (by decide +kernel)
set_option maxRecDepth 20000 in
theorem gX5_meetingFault_X5_tellingsFault : GoodIn wsX5_meetingFault (wsV RX5 332 RX5 yX5_tellingsFault wsX5_tellingsFault) := goodIn_app (goodIn_of _ (by decide +kernel)) ggX5_meetingFault_X5_tellingsFault
theorem dX5_meetingFault_0 : decode cX5_meetingFault 0 = .ok (.aload_n 0, 1) := by decide +kernel
theorem dX5_meetingFault_1 : decode cX5_meetingFault 1 = .ok (.iload_n 1, 1) := by decide +kernel
theorem dX5_meetingFault_2 : decode cX5_meetingFault 2 = .ok (.iload_n 2, 1) := by decide +kernel
theorem dX5_meetingFault_3 : decode cX5_meetingFault 3 = .ok (.invokevirtual 296, 3) := by decide +kernel
theorem dX5_meetingFault_6 : decode cX5_meetingFault 6 = .ok (.ifCond .eq 24, 3) := by decide +kernel
theorem dX5_meetingFault_9 : decode cX5_meetingFault 9 = .ok (.aload_n 0, 1) := by decide +kernel
theorem dX5_meetingFault_10 : decode cX5_meetingFault 10 = .ok (.iload 4, 2) := by decide +kernel
theorem dX5_meetingFault_12 : decode cX5_meetingFault 12 = .ok (.iload 5, 2) := by decide +kernel
theorem dX5_meetingFault_14 : decode cX5_meetingFault 14 = .ok (.invokevirtual 296, 3) := by decide +kernel
theorem dX5_meetingFault_17 : decode cX5_meetingFault 17 = .ok (.ifCond .eq 13, 3) := by decide +kernel
theorem dX5_meetingFault_20 : decode cX5_meetingFault 20 = .ok (.aload_n 0, 1) := by decide +kernel
theorem dX5_meetingFault_21 : decode cX5_meetingFault 21 = .ok (.iload_n 3, 1) := by decide +kernel
theorem dX5_meetingFault_22 : decode cX5_meetingFault 22 = .ok (.iload 6, 2) := by decide +kernel
theorem dX5_meetingFault_24 : decode cX5_meetingFault 24 = .ok (.invokevirtual 265, 3) := by decide +kernel
theorem dX5_meetingFault_27 : decode cX5_meetingFault 27 = .ok (.ifCond .ne 6, 3) := by decide +kernel
theorem dX5_meetingFault_30 : decode cX5_meetingFault 30 = .ok (.bipush (-2), 2) := by decide +kernel
theorem dX5_meetingFault_32 : decode cX5_meetingFault 32 = .ok (.ireturn, 1) := by decide +kernel
theorem dX5_meetingFault_33 : decode cX5_meetingFault 33 = .ok (.aload_n 0, 1) := by decide +kernel
theorem dX5_meetingFault_34 : decode cX5_meetingFault 34 = .ok (.iload_n 1, 1) := by decide +kernel
theorem dX5_meetingFault_35 : decode cX5_meetingFault 35 = .ok (.iload_n 2, 1) := by decide +kernel
theorem dX5_meetingFault_36 : decode cX5_meetingFault 36 = .ok (.iload 4, 2) := by decide +kernel
theorem dX5_meetingFault_38 : decode cX5_meetingFault 38 = .ok (.iload 5, 2) := by decide +kernel
theorem dX5_meetingFault_40 : decode cX5_meetingFault 40 = .ok (.invokevirtual 332, 3) := by decide +kernel
theorem dX5_meetingFault_43 : decode cX5_meetingFault 43 = .ok (.ireturn, 1) := by decide +kernel
set_option maxRecDepth 20000 in
theorem ggX5_follow_X3_signAt : GoodIn wsX5_follow wsX3_signAt := goodIn_r _ [6, 7, 77, 78, 79] (by decide +kernel) (by decide +kernel)
set_option maxRecDepth 20000 in
theorem gX5_follow_X3_signAt : GoodIn wsX5_follow (wsV RX5 268 RX3 yX3_signAt wsX3_signAt) := goodIn_app (goodIn_of _ (by decide +kernel)) ggX5_follow_X3_signAt
set_option maxRecDepth 20000 in
theorem ggX5_follow_X4_step : GoodIn wsX5_follow wsX4_step := goodIn_r _ [12, 13, 14, 15, 16, 11, 17, 18, 19, 20, 21, 22, 23, 24, 25, 26, 27, 28, 29, 30, 31, 32, 33, 34, 35, 36, 37, 38, 39, 40, 41, 42, 43, 44, 45, 46, 47, 48, 49, 50, 51, 52, 53, 54, 55, 56, 57, 58, 59, 60, 61, 62, 63, 64, 65, 80, 81, 82, 83, 84, 85, 86, 87, 88, 89, 90, 91, 92, 93, 94, 95, 96, 97, 98, 99, 100, 101, 102, 103, 104] (by decide +kernel) (by decide +kernel)
set_option maxRecDepth 20000 in
theorem gX5_follow_X4_step : GoodIn wsX5_follow (wsV RX5 139 RX4 yX4_step wsX4_step) := goodIn_app (goodIn_of _ (by decide +kernel)) ggX5_follow_X4_step
theorem dX5_follow_0 : decode cX5_follow 0 = .ok (.iconst 0, 1) := by decide +kernel
theorem dX5_follow_1 : decode cX5_follow 1 = .ok (.istore 4, 2) := by decide +kernel
theorem dX5_follow_3 : decode cX5_follow 3 = .ok (.iload 4, 2) := by decide +kernel
theorem dX5_follow_5 : decode cX5_follow 5 = .ok (.iload_n 3, 1) := by decide +kernel
theorem dX5_follow_6 : decode cX5_follow 6 = .ok (.if_icmp .ge 23, 3) := by decide +kernel
theorem dX5_follow_9 : decode cX5_follow 9 = .ok (.aload_n 1, 1) := by decide +kernel
theorem dX5_follow_10 : decode cX5_follow 10 = .ok (.aload_n 0, 1) := by decide +kernel
theorem dX5_follow_11 : decode cX5_follow 11 = .ok (.getfield 34, 3) := by decide +kernel
theorem dX5_follow_14 : decode cX5_follow 14 = .ok (.iload_n 2, 1) := by decide +kernel
theorem dX5_follow_15 : decode cX5_follow 15 = .ok (.iload 4, 2) := by decide +kernel
theorem dX5_follow_17 : decode cX5_follow 17 = .ok (.invokevirtual 268, 3) := by decide +kernel
theorem dX5_follow_20 : decode cX5_follow 20 = .ok (.invokevirtual 139, 3) := by decide +kernel
theorem dX5_follow_23 : decode cX5_follow 23 = .ok (.iinc 4 1, 3) := by decide +kernel
theorem dX5_follow_26 : decode cX5_follow 26 = .ok (.goto (-23), 3) := by decide +kernel
theorem dX5_follow_29 : decode cX5_follow 29 = .ok (.return_, 1) := by decide +kernel
set_option maxRecDepth 20000 in
theorem ggX5_allComeOut_X4_begin : GoodIn wsX5_allComeOut wsX4_begin := goodIn_r _ [8, 9, 10, 11, 12, 13, 14, 15, 16, 17, 18, 19, 20, 21, 22, 23, 24, 25, 26, 27, 28, 110, 111, 112, 113, 114, 115, 116, 117, 118, 119, 120, 96, 97, 98, 99, 100, 101, 102, 103, 104, 105, 106, 107, 108, 109] (by decide +kernel) (by decide +kernel)
set_option maxRecDepth 20000 in
theorem gX5_allComeOut_X4_begin : GoodIn wsX5_allComeOut (wsV RX5 136 RX4 yX4_begin wsX4_begin) := goodIn_app (goodIn_of _ (by decide +kernel)) ggX5_allComeOut_X4_begin
set_option maxRecDepth 20000 in
theorem ggX5_allComeOut_X5_follow : GoodIn wsX5_allComeOut wsX5_follow := goodIn_r _ [32, 33, 34, 35, 36, 37, 38, 39, 40, 41, 42, 7, 43, 15, 44, 45, 46, 47, 16, 48, 49, 50, 51, 9, 13, 14, 52, 53, 54, 23, 55, 56, 57, 58, 59, 60, 61, 62, 63, 64, 65, 66, 67, 68, 69, 70, 71, 10, 12, 17, 11, 72, 73, 74, 75, 76, 77, 78, 79, 80, 18, 19, 81, 82, 83, 84, 85, 86, 87, 88, 89, 90, 91, 92, 93, 94, 95, 121, 122, 123, 110, 111, 112, 113, 114, 115, 116, 117, 118, 119, 120, 96, 97, 98, 99, 100, 101, 102, 103, 104, 105, 106, 107, 108, 109] (by decide +kernel) (by decide +kernel)
set_option maxRecDepth 20000 in
theorem gX5_allComeOut_X5_follow : GoodIn wsX5_allComeOut (wsV RX5 227 RX5 yX5_follow wsX5_follow) := goodIn_app (goodIn_of _ (by decide +kernel)) ggX5_allComeOut_X5_follow
theorem dX5_allComeOut_0 : decode cX5_allComeOut 0 = .ok (.iconst 0, 1) := by decide +kernel
theorem dX5_allComeOut_1 : decode cX5_allComeOut 1 = .ok (.istore_n 3, 1) := by decide +kernel
theorem dX5_allComeOut_2 : decode cX5_allComeOut 2 = .ok (.iload_n 3, 1) := by decide +kernel
theorem dX5_allComeOut_3 : decode cX5_allComeOut 3 = .ok (.aload_n 0, 1) := by decide +kernel
theorem dX5_allComeOut_4 : decode cX5_allComeOut 4 = .ok (.getfield 10, 3) := by decide +kernel
theorem dX5_allComeOut_7 : decode cX5_allComeOut 7 = .ok (.getfield 237, 3) := by decide +kernel
theorem dX5_allComeOut_10 : decode cX5_allComeOut 10 = .ok (.if_icmp .ge 40, 3) := by decide +kernel
theorem dX5_allComeOut_13 : decode cX5_allComeOut 13 = .ok (.aload_n 0, 1) := by decide +kernel
theorem dX5_allComeOut_14 : decode cX5_allComeOut 14 = .ok (.getfield 41, 3) := by decide +kernel
theorem dX5_allComeOut_17 : decode cX5_allComeOut 17 = .ok (.iload_n 3, 1) := by decide +kernel
theorem dX5_allComeOut_18 : decode cX5_allComeOut 18 = .ok (.invokevirtual 136, 3) := by decide +kernel
theorem dX5_allComeOut_21 : decode cX5_allComeOut 21 = .ok (.aload_n 0, 1) := by decide +kernel
theorem dX5_allComeOut_22 : decode cX5_allComeOut 22 = .ok (.aload_n 0, 1) := by decide +kernel
theorem dX5_allComeOut_23 : decode cX5_allComeOut 23 = .ok (.getfield 41, 3) := by decide +kernel
theorem dX5_allComeOut_26 : decode cX5_allComeOut 26 = .ok (.iload_n 1, 1) := by decide +kernel
theorem dX5_allComeOut_27 : decode cX5_allComeOut 27 = .ok (.iload_n 2, 1) := by decide +kernel
theorem dX5_allComeOut_28 : decode cX5_allComeOut 28 = .ok (.invokevirtual 227, 3) := by decide +kernel
theorem dX5_allComeOut_31 : decode cX5_allComeOut 31 = .ok (.aload_n 0, 1) := by decide +kernel
theorem dX5_allComeOut_32 : decode cX5_allComeOut 32 = .ok (.getfield 57, 3) := by decide +kernel
theorem dX5_allComeOut_35 : decode cX5_allComeOut 35 = .ok (.iload_n 3, 1) := by decide +kernel
theorem dX5_allComeOut_36 : decode cX5_allComeOut 36 = .ok (.aload_n 0, 1) := by decide +kernel
theorem dX5_allComeOut_37 : decode cX5_allComeOut 37 = .ok (.getfield 41, 3) := by decide +kernel
theorem dX5_allComeOut_40 : decode cX5_allComeOut 40 = .ok (.getfield 231, 3) := by decide +kernel
theorem dX5_allComeOut_43 : decode cX5_allComeOut 43 = .ok (.iastore, 1) := by decide +kernel
theorem dX5_allComeOut_44 : decode cX5_allComeOut 44 = .ok (.iinc 3 1, 3) := by decide +kernel
theorem dX5_allComeOut_47 : decode cX5_allComeOut 47 = .ok (.goto (-45), 3) := by decide +kernel
theorem dX5_allComeOut_50 : decode cX5_allComeOut 50 = .ok (.return_, 1) := by decide +kernel
set_option maxRecDepth 20000 in
theorem ggX5_howManyOutIn_X5_asNumber : GoodIn wsX5_howManyOutIn wsX5_asNumber := goodIn_r _ [6] (by decide +kernel) (by decide +kernel)
set_option maxRecDepth 20000 in
theorem gX5_howManyOutIn_X5_asNumber : GoodIn wsX5_howManyOutIn (va_wsS RX5 161 yX5_asNumber wsX5_asNumber) := goodIn_app (goodIn_of _ (by decide +kernel)) ggX5_howManyOutIn_X5_asNumber
theorem dX5_howManyOutIn_0 : decode cX5_howManyOutIn 0 = .ok (.iconst 0, 1) := by decide +kernel
theorem dX5_howManyOutIn_1 : decode cX5_howManyOutIn 1 = .ok (.istore_n 2, 1) := by decide +kernel
theorem dX5_howManyOutIn_2 : decode cX5_howManyOutIn 2 = .ok (.iconst 0, 1) := by decide +kernel
theorem dX5_howManyOutIn_3 : decode cX5_howManyOutIn 3 = .ok (.istore_n 3, 1) := by decide +kernel
theorem dX5_howManyOutIn_4 : decode cX5_howManyOutIn 4 = .ok (.iload_n 3, 1) := by decide +kernel
theorem dX5_howManyOutIn_5 : decode cX5_howManyOutIn 5 = .ok (.aload_n 0, 1) := by decide +kernel
theorem dX5_howManyOutIn_6 : decode cX5_howManyOutIn 6 = .ok (.getfield 10, 3) := by decide +kernel
theorem dX5_howManyOutIn_9 : decode cX5_howManyOutIn 9 = .ok (.getfield 237, 3) := by decide +kernel
theorem dX5_howManyOutIn_12 : decode cX5_howManyOutIn 12 = .ok (.if_icmp .ge 30, 3) := by decide +kernel
theorem dX5_howManyOutIn_15 : decode cX5_howManyOutIn 15 = .ok (.iload_n 2, 1) := by decide +kernel
theorem dX5_howManyOutIn_16 : decode cX5_howManyOutIn 16 = .ok (.aload_n 0, 1) := by decide +kernel
theorem dX5_howManyOutIn_17 : decode cX5_howManyOutIn 17 = .ok (.getfield 57, 3) := by decide +kernel
theorem dX5_howManyOutIn_20 : decode cX5_howManyOutIn 20 = .ok (.iload_n 3, 1) := by decide +kernel
theorem dX5_howManyOutIn_21 : decode cX5_howManyOutIn 21 = .ok (.iaload, 1) := by decide +kernel
theorem dX5_howManyOutIn_22 : decode cX5_howManyOutIn 22 = .ok (.iload_n 1, 1) := by decide +kernel
theorem dX5_howManyOutIn_23 : decode cX5_howManyOutIn 23 = .ok (.if_icmp .ne 7, 3) := by decide +kernel
theorem dX5_howManyOutIn_26 : decode cX5_howManyOutIn 26 = .ok (.iconst 1, 1) := by decide +kernel
theorem dX5_howManyOutIn_27 : decode cX5_howManyOutIn 27 = .ok (.goto 4, 3) := by decide +kernel
theorem dX5_howManyOutIn_30 : decode cX5_howManyOutIn 30 = .ok (.iconst 0, 1) := by decide +kernel
theorem dX5_howManyOutIn_31 : decode cX5_howManyOutIn 31 = .ok (.invokestatic 161, 3) := by decide +kernel
theorem dX5_howManyOutIn_34 : decode cX5_howManyOutIn 34 = .ok (.iadd, 1) := by decide +kernel
theorem dX5_howManyOutIn_35 : decode cX5_howManyOutIn 35 = .ok (.istore_n 2, 1) := by decide +kernel
theorem dX5_howManyOutIn_36 : decode cX5_howManyOutIn 36 = .ok (.iinc 3 1, 3) := by decide +kernel
theorem dX5_howManyOutIn_39 : decode cX5_howManyOutIn 39 = .ok (.goto (-35), 3) := by decide +kernel
theorem dX5_howManyOutIn_42 : decode cX5_howManyOutIn 42 = .ok (.iload_n 2, 1) := by decide +kernel
theorem dX5_howManyOutIn_43 : decode cX5_howManyOutIn 43 = .ok (.ireturn, 1) := by decide +kernel
set_option maxRecDepth 20000 in
theorem ggX5_meeting_X5_signOrWait : GoodIn wsX5_meeting wsX5_signOrWait := goodIn_r _ [11, 12, 13, 14, 10, 15, 16, 17, 18, 19, 20, 21, 80, 81, 82, 83, 84, 85, 86, 87, 88, 89, 90, 102, 103, 104] (by decide +kernel) (by decide +kernel)
set_option maxRecDepth 20000 in
theorem gX5_meeting_X5_signOrWait : GoodIn wsX5_meeting (wsV RX5 340 RX5 yX5_signOrWait wsX5_signOrWait) := goodIn_app (goodIn_of _ (by decide +kernel)) ggX5_meeting_X5_signOrWait
set_option maxRecDepth 20000 in
theorem ggX5_meeting_X4_step : GoodIn wsX5_meeting wsX4_step := goodIn_r _ [26, 27, 28, 29, 30, 25, 31, 32, 33, 34, 35, 36, 37, 38, 39, 40, 41, 42, 43, 44, 45, 46, 47, 48, 49, 50, 51, 52, 53, 54, 55, 56, 57, 58, 59, 60, 61, 62, 63, 64, 65, 66, 67, 68, 69, 70, 71, 72, 73, 74, 75, 76, 77, 78, 79, 91, 92, 93, 94, 95, 96, 97, 98, 99, 100, 101, 105, 106, 107, 108, 109, 110, 111, 112, 113, 114, 115, 116, 117, 118] (by decide +kernel) (by decide +kernel)
set_option maxRecDepth 20000 in
theorem gX5_meeting_X4_step : GoodIn wsX5_meeting (wsV RX5 139 RX4 yX4_step wsX4_step) := goodIn_app (goodIn_of _ (by decide +kernel)) ggX5_meeting_X4_step
theorem dX5_meeting_0 : decode cX5_meeting 0 = .ok (.aload_n 0, 1) := by decide +kernel
theorem dX5_meeting_1 : decode cX5_meeting 1 = .ok (.getfield 41, 3) := by decide +kernel
theorem dX5_meeting_4 : decode cX5_meeting 4 = .ok (.getfield 231, 3) := by decide +kernel
theorem dX5_meeting_7 : decode cX5_meeting 7 = .ok (.aload_n 0, 1) := by decide +kernel
theorem dX5_meeting_8 : decode cX5_meeting 8 = .ok (.getfield 45, 3) := by decide +kernel
theorem dX5_meeting_11 : decode cX5_meeting 11 = .ok (.getfield 231, 3) := by decide +kernel
theorem dX5_meeting_14 : decode cX5_meeting 14 = .ok (.if_icmp .ne 5, 3) := by decide +kernel
theorem dX5_meeting_17 : decode cX5_meeting 17 = .ok (.iconst 0, 1) := by decide +kernel
theorem dX5_meeting_18 : decode cX5_meeting 18 = .ok (.ireturn, 1) := by decide +kernel
theorem dX5_meeting_19 : decode cX5_meeting 19 = .ok (.iload_n 2, 1) := by decide +kernel
theorem dX5_meeting_20 : decode cX5_meeting 20 = .ok (.iload 5, 2) := by decide +kernel
theorem dX5_meeting_22 : decode cX5_meeting 22 = .ok (.iload 4, 2) := by decide +kernel
theorem dX5_meeting_24 : decode cX5_meeting 24 = .ok (.iadd, 1) := by decide +kernel
theorem dX5_meeting_25 : decode cX5_meeting 25 = .ok (.invokestatic 335, 3) := by decide +kernel
theorem dX5_meeting_28 : decode cX5_meeting 28 = .ok (.istore 6, 2) := by decide +kernel
theorem dX5_meeting_30 : decode cX5_meeting 30 = .ok (.iconst 0, 1) := by decide +kernel
theorem dX5_meeting_31 : decode cX5_meeting 31 = .ok (.istore 7, 2) := by decide +kernel
theorem dX5_meeting_33 : decode cX5_meeting 33 = .ok (.iload 7, 2) := by decide +kernel
theorem dX5_meeting_35 : decode cX5_meeting 35 = .ok (.iload 6, 2) := by decide +kernel
theorem dX5_meeting_37 : decode cX5_meeting 37 = .ok (.if_icmp .ge 119, 3) := by decide +kernel
theorem dX5_meeting_40 : decode cX5_meeting 40 = .ok (.aload_n 0, 1) := by decide +kernel
theorem dX5_meeting_41 : decode cX5_meeting 41 = .ok (.getfield 41, 3) := by decide +kernel
theorem dX5_meeting_44 : decode cX5_meeting 44 = .ok (.getfield 231, 3) := by decide +kernel
theorem dX5_meeting_47 : decode cX5_meeting 47 = .ok (.istore 8, 2) := by decide +kernel
theorem dX5_meeting_49 : decode cX5_meeting 49 = .ok (.aload_n 0, 1) := by decide +kernel
theorem dX5_meeting_50 : decode cX5_meeting 50 = .ok (.getfield 45, 3) := by decide +kernel
theorem dX5_meeting_53 : decode cX5_meeting 53 = .ok (.getfield 231, 3) := by decide +kernel
theorem dX5_meeting_56 : decode cX5_meeting 56 = .ok (.istore 9, 2) := by decide +kernel
theorem dX5_meeting_58 : decode cX5_meeting 58 = .ok (.aload_n 0, 1) := by decide +kernel
theorem dX5_meeting_59 : decode cX5_meeting 59 = .ok (.getfield 41, 3) := by decide +kernel
theorem dX5_meeting_62 : decode cX5_meeting 62 = .ok (.aload_n 0, 1) := by decide +kernel
theorem dX5_meeting_63 : decode cX5_meeting 63 = .ok (.iload_n 1, 1) := by decide +kernel
theorem dX5_meeting_64 : decode cX5_meeting 64 = .ok (.iload_n 2, 1) := by decide +kernel
theorem dX5_meeting_65 : decode cX5_meeting 65 = .ok (.iload 7, 2) := by decide +kernel
theorem dX5_meeting_67 : decode cX5_meeting 67 = .ok (.invokevirtual 340, 3) := by decide +kernel
theorem dX5_meeting_70 : decode cX5_meeting 70 = .ok (.invokevirtual 139, 3) := by decide +kernel
theorem dX5_meeting_73 : decode cX5_meeting 73 = .ok (.aload_n 0, 1) := by decide +kernel
theorem dX5_meeting_74 : decode cX5_meeting 74 = .ok (.getfield 45, 3) := by decide +kernel
theorem dX5_meeting_77 : decode cX5_meeting 77 = .ok (.aload_n 0, 1) := by decide +kernel
theorem dX5_meeting_78 : decode cX5_meeting 78 = .ok (.iload_n 3, 1) := by decide +kernel
theorem dX5_meeting_79 : decode cX5_meeting 79 = .ok (.iload 4, 2) := by decide +kernel
theorem dX5_meeting_81 : decode cX5_meeting 81 = .ok (.iload 7, 2) := by decide +kernel
theorem dX5_meeting_83 : decode cX5_meeting 83 = .ok (.iload 5, 2) := by decide +kernel
theorem dX5_meeting_85 : decode cX5_meeting 85 = .ok (.isub, 1) := by decide +kernel
theorem dX5_meeting_86 : decode cX5_meeting 86 = .ok (.invokevirtual 340, 3) := by decide +kernel
theorem dX5_meeting_89 : decode cX5_meeting 89 = .ok (.invokevirtual 139, 3) := by decide +kernel
theorem dX5_meeting_92 : decode cX5_meeting 92 = .ok (.aload_n 0, 1) := by decide +kernel
theorem dX5_meeting_93 : decode cX5_meeting 93 = .ok (.getfield 41, 3) := by decide +kernel
theorem dX5_meeting_96 : decode cX5_meeting 96 = .ok (.getfield 231, 3) := by decide +kernel
theorem dX5_meeting_99 : decode cX5_meeting 99 = .ok (.iload 9, 2) := by decide +kernel
theorem dX5_meeting_101 : decode cX5_meeting 101 = .ok (.if_icmp .ne 19, 3) := by decide +kernel
theorem dX5_meeting_104 : decode cX5_meeting 104 = .ok (.aload_n 0, 1) := by decide +kernel
theorem dX5_meeting_105 : decode cX5_meeting 105 = .ok (.getfield 45, 3) := by decide +kernel
theorem dX5_meeting_108 : decode cX5_meeting 108 = .ok (.getfield 231, 3) := by decide +kernel
theorem dX5_meeting_111 : decode cX5_meeting 111 = .ok (.iload 8, 2) := by decide +kernel
theorem dX5_meeting_113 : decode cX5_meeting 113 = .ok (.if_icmp .ne 7, 3) := by decide +kernel
theorem dX5_meeting_116 : decode cX5_meeting 116 = .ok (.iconst 1, 1) := by decide +kernel
theorem dX5_meeting_117 : decode cX5_meeting 117 = .ok (.goto 4, 3) := by decide +kernel
theorem dX5_meeting_120 : decode cX5_meeting 120 = .ok (.iconst 0, 1) := by decide +kernel
theorem dX5_meeting_121 : decode cX5_meeting 121 = .ok (.istore 10, 2) := by decide +kernel
theorem dX5_meeting_123 : decode cX5_meeting 123 = .ok (.aload_n 0, 1) := by decide +kernel
theorem dX5_meeting_124 : decode cX5_meeting 124 = .ok (.getfield 41, 3) := by decide +kernel
theorem dX5_meeting_127 : decode cX5_meeting 127 = .ok (.getfield 231, 3) := by decide +kernel
theorem dX5_meeting_130 : decode cX5_meeting 130 = .ok (.aload_n 0, 1) := by decide +kernel
theorem dX5_meeting_131 : decode cX5_meeting 131 = .ok (.getfield 45, 3) := by decide +kernel
theorem dX5_meeting_134 : decode cX5_meeting 134 = .ok (.getfield 231, 3) := by decide +kernel
theorem dX5_meeting_137 : decode cX5_meeting 137 = .ok (.if_icmp .eq 8, 3) := by decide +kernel
theorem dX5_meeting_140 : decode cX5_meeting 140 = .ok (.iload 10, 2) := by decide +kernel
theorem dX5_meeting_142 : decode cX5_meeting 142 = .ok (.ifCond .eq 8, 3) := by decide +kernel
theorem dX5_meeting_145 : decode cX5_meeting 145 = .ok (.iload 7, 2) := by decide +kernel
theorem dX5_meeting_147 : decode cX5_meeting 147 = .ok (.iconst 1, 1) := by decide +kernel
theorem dX5_meeting_148 : decode cX5_meeting 148 = .ok (.iadd, 1) := by decide +kernel
theorem dX5_meeting_149 : decode cX5_meeting 149 = .ok (.ireturn, 1) := by decide +kernel
theorem dX5_meeting_150 : decode cX5_meeting 150 = .ok (.iinc 7 1, 3) := by decide +kernel
theorem dX5_meeting_153 : decode cX5_meeting 153 = .ok (.goto (-120), 3) := by decide +kernel
theorem dX5_meeting_156 : decode cX5_meeting 156 = .ok (.iconst (-1), 1) := by decide +kernel
theorem dX5_meeting_157 : decode cX5_meeting 157 = .ok (.ireturn, 1) := by decide +kernel
set_option maxRecDepth 20000 in
theorem ggX5_signOrWait_X5_isWithin : GoodIn wsX5_signOrWait wsX5_isWithin := goodIn_r _ [5] (by decide +kernel) (by decide +kernel)
set_option maxRecDepth 20000 in
theorem gX5_signOrWait_X5_isWithin : GoodIn wsX5_signOrWait (va_wsS RX5 72 yX5_isWithin wsX5_isWithin) := goodIn_app (goodIn_of _ (by decide +kernel)) ggX5_signOrWait_X5_isWithin
set_option maxRecDepth 20000 in
theorem ggX5_signOrWait_X3_signAt : GoodIn wsX5_signOrWait wsX3_signAt := goodIn_r _ [10, 11, 23, 24, 25] (by decide +kernel) (by decide +kernel)
set_option maxRecDepth 20000 in
theorem gX5_signOrWait_X3_signAt : GoodIn wsX5_signOrWait (wsV RX5 268 RX3 yX3_signAt wsX3_signAt) := goodIn_app (goodIn_of _ (by decide +kernel)) ggX5_signOrWait_X3_signAt
theorem dX5_signOrWait_0 : decode cX5_signOrWait 0 = .ok (.iload_n 3, 1) := by decide +kernel
theorem dX5_signOrWait_1 : decode cX5_signOrWait 1 = .ok (.iconst 0, 1) := by decide +kernel
theorem dX5_signOrWait_2 : decode cX5_signOrWait 2 = .ok (.iload_n 2, 1) := by decide +kernel
theorem dX5_signOrWait_3 : decode cX5_signOrWait 3 = .ok (.iconst 1, 1) := by decide +kernel
theorem dX5_signOrWait_4 : decode cX5_signOrWait 4 = .ok (.isub, 1) := by decide +kernel
theorem dX5_signOrWait_5 : decode cX5_signOrWait 5 = .ok (.invokestatic 72, 3) := by decide +kernel
theorem dX5_signOrWait_8 : decode cX5_signOrWait 8 = .ok (.ifCond .eq 15, 3) := by decide +kernel
theorem dX5_signOrWait_11 : decode cX5_signOrWait 11 = .ok (.aload_n 0, 1) := by decide +kernel
theorem dX5_signOrWait_12 : decode cX5_signOrWait 12 = .ok (.getfield 34, 3) := by decide +kernel
theorem dX5_signOrWait_15 : decode cX5_signOrWait 15 = .ok (.iload_n 1, 1) := by decide +kernel
theorem dX5_signOrWait_16 : decode cX5_signOrWait 16 = .ok (.iload_n 3, 1) := by decide +kernel
theorem dX5_signOrWait_17 : decode cX5_signOrWait 17 = .ok (.invokevirtual 268, 3) := by decide +kernel
theorem dX5_signOrWait_20 : decode cX5_signOrWait 20 = .ok (.goto 4, 3) := by decide +kernel
theorem dX5_signOrWait_23 : decode cX5_signOrWait 23 = .ok (.iconst 3, 1) := by decide +kernel
theorem dX5_signOrWait_24 : decode cX5_signOrWait 24 = .ok (.ireturn, 1) := by decide +kernel
set_option maxRecDepth 20000 in
theorem ggX6_init_X6_fresh : GoodIn wsX6_init wsX6_fresh := goodIn_r _ [30, 4] (by decide +kernel) (by decide +kernel)
set_option maxRecDepth 20000 in
theorem gX6_init_X6_fresh : GoodIn wsX6_init (va_wsS RX6 13 yX6_fresh wsX6_fresh) := goodIn_app (goodIn_of _ (by decide +kernel)) ggX6_init_X6_fresh

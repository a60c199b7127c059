theorem dX9_set_56 : decode cX9_set 56 = .ok (.invokevirtual 104, 3) := by decide +kernel
theorem dX9_set_59 : decode cX9_set 59 = .ok (.ireturn, 1) := by decide +kernel
set_option maxRecDepth 20000 in
theorem ggX9_copy_X9_isRow : GoodIn wsX9_copy wsX9_isRow := goodIn_r _ [10] (by decide +kernel) (by decide +kernel)
set_option maxRecDepth 20000 in
theorem gX9_copy_X9_isRow : GoodIn wsX9_copy (va_wsS RX9 87 yX9_isRow wsX9_isRow) := goodIn_app (goodIn_of _ (by decide +kernel)) ggX9_copy_X9_isRow
set_option maxRecDepth 20000 in
theorem ggX9_copy_X9_found : GoodIn wsX9_copy wsX9_found := goodIn_r _ [14, 15, 16, 27, 28, 29, 30, 31, 32, 33, 34, 35, 36, 37, 38, 39, 40, 41, 42] (by decide +kernel) (by decide +kernel)
set_option maxRecDepth 20000 in
theorem gX9_copy_X9_found : GoodIn wsX9_copy (wsV RX9 96 RX9 yX9_found wsX9_found) := goodIn_app (goodIn_of _ (by decide +kernel)) ggX9_copy_X9_found
set_option maxRecDepth 20000 in
theorem ggX9_copy_X6_hasStretch : GoodIn wsX9_copy wsX6_hasStretch := goodIn_r _ [21, 22, 43, 44, 45, 46] (by decide +kernel) (by decide +kernel)
set_option maxRecDepth 20000 in
theorem gX9_copy_X6_hasStretch : GoodIn wsX9_copy (wsV RX9 111 RX6 yX6_hasStretch wsX6_hasStretch) := goodIn_app (goodIn_of _ (by decide +kernel)) ggX9_copy_X6_hasStretch
set_option maxRecDepth 20000 in
theorem ggX9_copy_X9_fine : GoodIn wsX9_copy wsX9_fine := goodIn_r _ [26, 15, 27, 28, 29, 30, 31, 32, 33, 34, 35, 36, 37, 38, 39, 40, 41, 42] (by decide +kernel) (by decide +kernel)
set_option maxRecDepth 20000 in
theorem gX9_copy_X9_fine : GoodIn wsX9_copy (wsV RX9 104 RX9 yX9_fine wsX9_fine) := goodIn_app (goodIn_of _ (by decide +kernel)) ggX9_copy_X9_fine
theorem dX9_copy_0 : decode cX9_copy 0 = .ok (.iload_n 1, 1) := by decide +kernel
theorem dX9_copy_1 : decode cX9_copy 1 = .ok (.invokestatic 87, 3) := by decide +kernel
theorem dX9_copy_4 : decode cX9_copy 4 = .ok (.ifCond .eq 10, 3) := by decide +kernel
theorem dX9_copy_7 : decode cX9_copy 7 = .ok (.iload_n 3, 1) := by decide +kernel
theorem dX9_copy_8 : decode cX9_copy 8 = .ok (.invokestatic 87, 3) := by decide +kernel
theorem dX9_copy_11 : decode cX9_copy 11 = .ok (.ifCond .ne 6, 3) := by decide +kernel
theorem dX9_copy_14 : decode cX9_copy 14 = .ok (.ldc 95, 2) := by decide +kernel
theorem dX9_copy_16 : decode cX9_copy 16 = .ok (.ireturn, 1) := by decide +kernel
theorem dX9_copy_17 : decode cX9_copy 17 = .ok (.aload_n 0, 1) := by decide +kernel
theorem dX9_copy_18 : decode cX9_copy 18 = .ok (.getfield 11, 3) := by decide +kernel
theorem dX9_copy_21 : decode cX9_copy 21 = .ok (.iload_n 1, 1) := by decide +kernel
theorem dX9_copy_22 : decode cX9_copy 22 = .ok (.aaload, 1) := by decide +kernel
theorem dX9_copy_23 : decode cX9_copy 23 = .ok (.astore 6, 2) := by decide +kernel
theorem dX9_copy_25 : decode cX9_copy 25 = .ok (.aload_n 0, 1) := by decide +kernel
theorem dX9_copy_26 : decode cX9_copy 26 = .ok (.getfield 11, 3) := by decide +kernel
theorem dX9_copy_29 : decode cX9_copy 29 = .ok (.iload_n 3, 1) := by decide +kernel
theorem dX9_copy_30 : decode cX9_copy 30 = .ok (.aaload, 1) := by decide +kernel
theorem dX9_copy_31 : decode cX9_copy 31 = .ok (.astore 7, 2) := by decide +kernel
theorem dX9_copy_33 : decode cX9_copy 33 = .ok (.aload 6, 2) := by decide +kernel
theorem dX9_copy_35 : decode cX9_copy 35 = .ok (.getfield 107, 3) := by decide +kernel
theorem dX9_copy_38 : decode cX9_copy 38 = .ok (.ifCond .eq 11, 3) := by decide +kernel
theorem dX9_copy_41 : decode cX9_copy 41 = .ok (.aload 7, 2) := by decide +kernel
theorem dX9_copy_43 : decode cX9_copy 43 = .ok (.getfield 107, 3) := by decide +kernel
theorem dX9_copy_46 : decode cX9_copy 46 = .ok (.ifCond .ne 9, 3) := by decide +kernel
theorem dX9_copy_49 : decode cX9_copy 49 = .ok (.aload_n 0, 1) := by decide +kernel
theorem dX9_copy_50 : decode cX9_copy 50 = .ok (.iconst 1, 1) := by decide +kernel
theorem dX9_copy_51 : decode cX9_copy 51 = .ok (.invokevirtual 96, 3) := by decide +kernel
theorem dX9_copy_54 : decode cX9_copy 54 = .ok (.ireturn, 1) := by decide +kernel
theorem dX9_copy_55 : decode cX9_copy 55 = .ok (.aload 6, 2) := by decide +kernel
theorem dX9_copy_57 : decode cX9_copy 57 = .ok (.getfield 118, 3) := by decide +kernel
theorem dX9_copy_60 : decode cX9_copy 60 = .ok (.aload 7, 2) := by decide +kernel
theorem dX9_copy_62 : decode cX9_copy 62 = .ok (.getfield 118, 3) := by decide +kernel
theorem dX9_copy_65 : decode cX9_copy 65 = .ok (.if_icmp .eq 9, 3) := by decide +kernel
theorem dX9_copy_68 : decode cX9_copy 68 = .ok (.aload_n 0, 1) := by decide +kernel
theorem dX9_copy_69 : decode cX9_copy 69 = .ok (.iconst 5, 1) := by decide +kernel
theorem dX9_copy_70 : decode cX9_copy 70 = .ok (.invokevirtual 96, 3) := by decide +kernel
theorem dX9_copy_73 : decode cX9_copy 73 = .ok (.ireturn, 1) := by decide +kernel
theorem dX9_copy_74 : decode cX9_copy 74 = .ok (.aload 6, 2) := by decide +kernel
theorem dX9_copy_76 : decode cX9_copy 76 = .ok (.iload_n 2, 1) := by decide +kernel
theorem dX9_copy_77 : decode cX9_copy 77 = .ok (.iload 5, 2) := by decide +kernel
theorem dX9_copy_79 : decode cX9_copy 79 = .ok (.invokevirtual 111, 3) := by decide +kernel
theorem dX9_copy_82 : decode cX9_copy 82 = .ok (.ifCond .eq 15, 3) := by decide +kernel
theorem dX9_copy_85 : decode cX9_copy 85 = .ok (.aload 7, 2) := by decide +kernel
theorem dX9_copy_87 : decode cX9_copy 87 = .ok (.iload 4, 2) := by decide +kernel
theorem dX9_copy_89 : decode cX9_copy 89 = .ok (.iload 5, 2) := by decide +kernel
theorem dX9_copy_91 : decode cX9_copy 91 = .ok (.invokevirtual 111, 3) := by decide +kernel
theorem dX9_copy_94 : decode cX9_copy 94 = .ok (.ifCond .ne 9, 3) := by decide +kernel
theorem dX9_copy_97 : decode cX9_copy 97 = .ok (.aload_n 0, 1) := by decide +kernel
theorem dX9_copy_98 : decode cX9_copy 98 = .ok (.iconst 2, 1) := by decide +kernel
theorem dX9_copy_99 : decode cX9_copy 99 = .ok (.invokevirtual 96, 3) := by decide +kernel
theorem dX9_copy_102 : decode cX9_copy 102 = .ok (.ireturn, 1) := by decide +kernel
theorem dX9_copy_103 : decode cX9_copy 103 = .ok (.aload 6, 2) := by decide +kernel
theorem dX9_copy_105 : decode cX9_copy 105 = .ok (.getfield 122, 3) := by decide +kernel
theorem dX9_copy_108 : decode cX9_copy 108 = .ok (.iload_n 2, 1) := by decide +kernel
theorem dX9_copy_109 : decode cX9_copy 109 = .ok (.aload 7, 2) := by decide +kernel
theorem dX9_copy_111 : decode cX9_copy 111 = .ok (.getfield 122, 3) := by decide +kernel
theorem dX9_copy_114 : decode cX9_copy 114 = .ok (.iload 4, 2) := by decide +kernel
theorem dX9_copy_116 : decode cX9_copy 116 = .ok (.iload 5, 2) := by decide +kernel
theorem dX9_copy_118 : decode cX9_copy 118 = .ok (.invokestatic 126, 3) := by decide +kernel
theorem dX9_copy_121 : decode cX9_copy 121 = .ok (.aload_n 0, 1) := by decide +kernel
theorem dX9_copy_122 : decode cX9_copy 122 = .ok (.iload 5, 2) := by decide +kernel
theorem dX9_copy_124 : decode cX9_copy 124 = .ok (.invokevirtual 104, 3) := by decide +kernel
theorem dX9_copy_127 : decode cX9_copy 127 = .ok (.ireturn, 1) := by decide +kernel
set_option maxRecDepth 20000 in
theorem ggX9_drop_X9_isRow : GoodIn wsX9_drop wsX9_isRow := goodIn_r _ [6] (by decide +kernel) (by decide +kernel)
set_option maxRecDepth 20000 in
theorem gX9_drop_X9_isRow : GoodIn wsX9_drop (va_wsS RX9 87 yX9_isRow wsX9_isRow) := goodIn_app (goodIn_of _ (by decide +kernel)) ggX9_drop_X9_isRow
set_option maxRecDepth 20000 in
theorem ggX9_drop_X9_found : GoodIn wsX9_drop wsX9_found := goodIn_r _ [10, 11, 12, 17, 18, 19, 20, 21, 22, 23, 24, 25, 26, 27, 28, 29, 30, 31, 32] (by decide +kernel) (by decide +kernel)
set_option maxRecDepth 20000 in
theorem gX9_drop_X9_found : GoodIn wsX9_drop (wsV RX9 96 RX9 yX9_found wsX9_found) := goodIn_app (goodIn_of _ (by decide +kernel)) ggX9_drop_X9_found
set_option maxRecDepth 20000 in
theorem ggX9_drop_X9_fine : GoodIn wsX9_drop wsX9_fine := goodIn_r _ [16, 11, 17, 18, 19, 20, 21, 22, 23, 24, 25, 26, 27, 28, 29, 30, 31, 32] (by decide +kernel) (by decide +kernel)
set_option maxRecDepth 20000 in
theorem gX9_drop_X9_fine : GoodIn wsX9_drop (wsV RX9 104 RX9 yX9_fine wsX9_fine) := goodIn_app (goodIn_of _ (by decide +kernel)) ggX9_drop_X9_fine
theorem dX9_drop_0 : decode cX9_drop 0 = .ok (.iload_n 1, 1) := by decide +kernel
theorem dX9_drop_1 : decode cX9_drop 1 = .ok (.invokestatic 87, 3) := by decide +kernel
theorem dX9_drop_4 : decode cX9_drop 4 = .ok (.ifCond .ne 6, 3) := by decide +kernel
theorem dX9_drop_7 : decode cX9_drop 7 = .ok (.ldc 95, 2) := by decide +kernel
theorem dX9_drop_9 : decode cX9_drop 9 = .ok (.ireturn, 1) := by decide +kernel
theorem dX9_drop_10 : decode cX9_drop 10 = .ok (.aload_n 0, 1) := by decide +kernel
theorem dX9_drop_11 : decode cX9_drop 11 = .ok (.getfield 11, 3) := by decide +kernel
theorem dX9_drop_14 : decode cX9_drop 14 = .ok (.iload_n 1, 1) := by decide +kernel
theorem dX9_drop_15 : decode cX9_drop 15 = .ok (.aaload, 1) := by decide +kernel
theorem dX9_drop_16 : decode cX9_drop 16 = .ok (.astore_n 2, 1) := by decide +kernel
theorem dX9_drop_17 : decode cX9_drop 17 = .ok (.aload_n 2, 1) := by decide +kernel
theorem dX9_drop_18 : decode cX9_drop 18 = .ok (.getfield 107, 3) := by decide +kernel
theorem dX9_drop_21 : decode cX9_drop 21 = .ok (.ifCond .ne 9, 3) := by decide +kernel
theorem dX9_drop_24 : decode cX9_drop 24 = .ok (.aload_n 0, 1) := by decide +kernel
theorem dX9_drop_25 : decode cX9_drop 25 = .ok (.iconst 1, 1) := by decide +kernel
theorem dX9_drop_26 : decode cX9_drop 26 = .ok (.invokevirtual 96, 3) := by decide +kernel
theorem dX9_drop_29 : decode cX9_drop 29 = .ok (.ireturn, 1) := by decide +kernel
theorem dX9_drop_30 : decode cX9_drop 30 = .ok (.aload_n 2, 1) := by decide +kernel
theorem dX9_drop_31 : decode cX9_drop 31 = .ok (.iconst 0, 1) := by decide +kernel
theorem dX9_drop_32 : decode cX9_drop 32 = .ok (.putfield 107, 3) := by decide +kernel
theorem dX9_drop_35 : decode cX9_drop 35 = .ok (.aload_n 0, 1) := by decide +kernel
theorem dX9_drop_36 : decode cX9_drop 36 = .ok (.aload_n 2, 1) := by decide +kernel
theorem dX9_drop_37 : decode cX9_drop 37 = .ok (.getfield 132, 3) := by decide +kernel
theorem dX9_drop_40 : decode cX9_drop 40 = .ok (.invokevirtual 104, 3) := by decide +kernel
theorem dX9_drop_43 : decode cX9_drop 43 = .ok (.ireturn, 1) := by decide +kernel
set_option maxRecDepth 20000 in
theorem ggX9_feed_X9_isWithin : GoodIn wsX9_feed wsX9_isWithin := goodIn_r _ [7] (by decide +kernel) (by decide +kernel)
set_option maxRecDepth 20000 in
theorem gX9_feed_X9_isWithin : GoodIn wsX9_feed (va_wsS RX9 91 yX9_isWithin wsX9_isWithin) := goodIn_app (goodIn_of _ (by decide +kernel)) ggX9_feed_X9_isWithin
set_option maxRecDepth 20000 in
theorem ggX9_feed_X5_append : GoodIn wsX9_feed wsX5_append := goodIn_r _ [12, 13, 14, 31, 32, 33, 34, 35, 36, 37] (by decide +kernel) (by decide +kernel)
set_option maxRecDepth 20000 in
theorem gX9_feed_X5_append : GoodIn wsX9_feed (wsV RX9 139 RX5 yX5_append wsX5_append) := goodIn_app (goodIn_of _ (by decide +kernel)) ggX9_feed_X5_append
theorem dX9_feed_0 : decode cX9_feed 0 = .ok (.iload_n 1, 1) := by decide +kernel
theorem dX9_feed_1 : decode cX9_feed 1 = .ok (.sipush 255, 3) := by decide +kernel
theorem dX9_feed_4 : decode cX9_feed 4 = .ok (.invokestatic 91, 3) := by decide +kernel
theorem dX9_feed_7 : decode cX9_feed 7 = .ok (.ifCond .ne 6, 3) := by decide +kernel
theorem dX9_feed_10 : decode cX9_feed 10 = .ok (.ldc 95, 2) := by decide +kernel
theorem dX9_feed_12 : decode cX9_feed 12 = .ok (.ireturn, 1) := by decide +kernel
theorem dX9_feed_13 : decode cX9_feed 13 = .ok (.aload_n 0, 1) := by decide +kernel
theorem dX9_feed_14 : decode cX9_feed 14 = .ok (.getfield 18, 3) := by decide +kernel
theorem dX9_feed_17 : decode cX9_feed 17 = .ok (.getfield 135, 3) := by decide +kernel
theorem dX9_feed_20 : decode cX9_feed 20 = .ok (.bipush 120, 2) := by decide +kernel
theorem dX9_feed_22 : decode cX9_feed 22 = .ok (.if_icmp .lt 6, 3) := by decide +kernel
theorem dX9_feed_25 : decode cX9_feed 25 = .ok (.ldc 138, 2) := by decide +kernel
theorem dX9_feed_27 : decode cX9_feed 27 = .ok (.ireturn, 1) := by decide +kernel
theorem dX9_feed_28 : decode cX9_feed 28 = .ok (.aload_n 0, 1) := by decide +kernel
theorem dX9_feed_29 : decode cX9_feed 29 = .ok (.getfield 18, 3) := by decide +kernel
theorem dX9_feed_32 : decode cX9_feed 32 = .ok (.iload_n 1, 1) := by decide +kernel
theorem dX9_feed_33 : decode cX9_feed 33 = .ok (.invokevirtual 139, 3) := by decide +kernel
theorem dX9_feed_36 : decode cX9_feed 36 = .ok (.ireturn, 1) := by decide +kernel
set_option maxRecDepth 20000 in
theorem ggX9_loom_X5_readInto : GoodIn wsX9_loom wsX5_readInto := goodIn_r _ [13, 14, 15, 16, 17, 18, 19, 12, 20, 21, 22, 23, 24, 25, 26, 27, 28, 29, 30, 31, 32, 33, 34, 35, 36, 37, 38, 39, 40, 41, 42, 43, 44, 45, 46, 47, 48, 49, 50, 51, 52, 53, 54, 55, 56, 57, 58, 59, 60, 61, 62, 63, 64, 65, 66, 67, 68, 69, 70, 71, 72, 73, 74, 75, 76, 77, 78, 79, 80, 81, 82, 83, 84, 85, 86, 87, 88, 89, 90, 91, 92, 93, 94, 95, 96, 97, 98, 99, 100, 101, 102, 103, 104, 105, 106, 107, 108, 109, 110, 111, 112, 113, 114, 115, 116, 117, 118, 119, 120, 121, 122, 123, 124, 125, 126, 127, 128, 129, 130, 131, 132, 133, 134, 135, 136, 137, 138, 139, 140, 141, 142, 143, 144, 145, 146, 147, 148, 149, 150, 151, 152, 153, 154, 155, 156, 157, 196, 197, 198, 199, 200, 201, 202, 203, 204, 205, 206, 207, 208, 209, 210, 211, 212, 213, 214] (by decide +kernel) (by decide +kernel)
set_option maxRecDepth 20000 in
theorem gX9_loom_X5_readInto : GoodIn wsX9_loom (wsV RX9 142 RX5 yX5_readInto wsX5_readInto) := goodIn_app (goodIn_of _ (by decide +kernel)) ggX9_loom_X5_readInto
set_option maxRecDepth 20000 in
theorem ggX9_loom_X1_begin : GoodIn wsX9_loom wsX1_begin := goodIn_r _ [162, 163, 164, 165, 166, 167, 168, 169, 170, 171, 172, 215, 216, 217, 218, 219, 220, 221, 222, 223, 224, 203, 204, 205, 206, 207, 208, 209, 210, 211, 212, 213, 214] (by decide +kernel) (by decide +kernel)
set_option maxRecDepth 20000 in
theorem gX9_loom_X1_begin : GoodIn wsX9_loom (wsV RX9 156 RX1 yX1_begin wsX1_begin) := goodIn_app (goodIn_of _ (by decide +kernel)) ggX9_loom_X1_begin
set_option maxRecDepth 20000 in
theorem ggX9_loom_X4_forget : GoodIn wsX9_loom wsX4_forget := goodIn_r _ [177, 178, 179, 225, 226, 227] (by decide +kernel) (by decide +kernel)
set_option maxRecDepth 20000 in
theorem gX9_loom_X4_forget : GoodIn wsX9_loom (wsV RX9 160 RX4 yX4_forget wsX4_forget) := goodIn_app (goodIn_of _ (by decide +kernel)) ggX9_loom_X4_forget
theorem dX9_loom_0 : decode cX9_loom 0 = .ok (.aload_n 0, 1) := by decide +kernel
theorem dX9_loom_1 : decode cX9_loom 1 = .ok (.getfield 18, 3) := by decide +kernel
theorem dX9_loom_4 : decode cX9_loom 4 = .ok (.aload_n 0, 1) := by decide +kernel
theorem dX9_loom_5 : decode cX9_loom 5 = .ok (.getfield 29, 3) := by decide +kernel
theorem dX9_loom_8 : decode cX9_loom 8 = .ok (.invokevirtual 142, 3) := by decide +kernel
theorem dX9_loom_11 : decode cX9_loom 11 = .ok (.istore_n 1, 1) := by decide +kernel
theorem dX9_loom_12 : decode cX9_loom 12 = .ok (.iload_n 1, 1) := by decide +kernel
theorem dX9_loom_13 : decode cX9_loom 13 = .ok (.ifCond .eq 19, 3) := by decide +kernel
theorem dX9_loom_16 : decode cX9_loom 16 = .ok (.aload_n 0, 1) := by decide +kernel
theorem dX9_loom_17 : decode cX9_loom 17 = .ok (.iload_n 1, 1) := by decide +kernel
theorem dX9_loom_18 : decode cX9_loom 18 = .ok (.putfield 146, 3) := by decide +kernel
theorem dX9_loom_21 : decode cX9_loom 21 = .ok (.ldc 149, 2) := by decide +kernel
theorem dX9_loom_23 : decode cX9_loom 23 = .ok (.aload_n 0, 1) := by decide +kernel
theorem dX9_loom_24 : decode cX9_loom 24 = .ok (.getfield 18, 3) := by decide +kernel
theorem dX9_loom_27 : decode cX9_loom 27 = .ok (.getfield 150, 3) := by decide +kernel
theorem dX9_loom_30 : decode cX9_loom 30 = .ok (.isub, 1) := by decide +kernel
theorem dX9_loom_31 : decode cX9_loom 31 = .ok (.ireturn, 1) := by decide +kernel
theorem dX9_loom_32 : decode cX9_loom 32 = .ok (.aload_n 0, 1) := by decide +kernel
theorem dX9_loom_33 : decode cX9_loom 33 = .ok (.getfield 25, 3) := by decide +kernel
theorem dX9_loom_36 : decode cX9_loom 36 = .ok (.astore_n 2, 1) := by decide +kernel
theorem dX9_loom_37 : decode cX9_loom 37 = .ok (.aload_n 0, 1) := by decide +kernel
theorem dX9_loom_38 : decode cX9_loom 38 = .ok (.aload_n 0, 1) := by decide +kernel
theorem dX9_loom_39 : decode cX9_loom 39 = .ok (.getfield 29, 3) := by decide +kernel
theorem dX9_loom_42 : decode cX9_loom 42 = .ok (.putfield 25, 3) := by decide +kernel
theorem dX9_loom_45 : decode cX9_loom 45 = .ok (.aload_n 0, 1) := by decide +kernel
theorem dX9_loom_46 : decode cX9_loom 46 = .ok (.aload_n 2, 1) := by decide +kernel
theorem dX9_loom_47 : decode cX9_loom 47 = .ok (.putfield 29, 3) := by decide +kernel
theorem dX9_loom_50 : decode cX9_loom 50 = .ok (.aload_n 0, 1) := by decide +kernel
theorem dX9_loom_51 : decode cX9_loom 51 = .ok (.iconst 1, 1) := by decide +kernel
theorem dX9_loom_52 : decode cX9_loom 52 = .ok (.putfield 153, 3) := by decide +kernel
theorem dX9_loom_55 : decode cX9_loom 55 = .ok (.aload_n 0, 1) := by decide +kernel
theorem dX9_loom_56 : decode cX9_loom 56 = .ok (.getfield 35, 3) := by decide +kernel
theorem dX9_loom_59 : decode cX9_loom 59 = .ok (.aload_n 0, 1) := by decide +kernel
theorem dX9_loom_60 : decode cX9_loom 60 = .ok (.getfield 25, 3) := by decide +kernel
theorem dX9_loom_63 : decode cX9_loom 63 = .ok (.invokevirtual 156, 3) := by decide +kernel
theorem dX9_loom_66 : decode cX9_loom 66 = .ok (.aload_n 0, 1) := by decide +kernel
theorem dX9_loom_67 : decode cX9_loom 67 = .ok (.getfield 42, 3) := by decide +kernel
theorem dX9_loom_70 : decode cX9_loom 70 = .ok (.invokevirtual 160, 3) := by decide +kernel
theorem dX9_loom_73 : decode cX9_loom 73 = .ok (.aload_n 0, 1) := by decide +kernel
theorem dX9_loom_74 : decode cX9_loom 74 = .ok (.getfield 25, 3) := by decide +kernel
theorem dX9_loom_77 : decode cX9_loom 77 = .ok (.getfield 163, 3) := by decide +kernel
theorem dX9_loom_80 : decode cX9_loom 80 = .ok (.ireturn, 1) := by decide +kernel
theorem dX9_fault_0 : decode cX9_fault 0 = .ok (.aload_n 0, 1) := by decide +kernel
theorem dX9_fault_1 : decode cX9_fault 1 = .ok (.getfield 146, 3) := by decide +kernel
theorem dX9_fault_4 : decode cX9_fault 4 = .ok (.ireturn, 1) := by decide +kernel
set_option maxRecDepth 20000 in
theorem ggX9_weave_X9_isWithin : GoodIn wsX9_weave wsX9_isWithin := goodIn_r _ [10] (by decide +kernel) (by decide +kernel)
set_option maxRecDepth 20000 in
theorem gX9_weave_X9_isWithin : GoodIn wsX9_weave (va_wsS RX9 91 yX9_isWithin wsX9_isWithin) := goodIn_app (goodIn_of _ (by decide +kernel)) ggX9_weave_X9_isWithin
set_option maxRecDepth 20000 in
theorem ggX9_weave_X1_yarnFor : GoodIn wsX9_weave wsX1_yarnFor := goodIn_r _ [15, 16, 17, 18, 19, 20, 21, 22, 94, 95, 96, 97, 98, 99, 100, 101, 102, 103] (by decide +kernel) (by decide +kernel)
set_option maxRecDepth 20000 in
theorem gX9_weave_X1_yarnFor : GoodIn wsX9_weave (wsV RX9 176 RX1 yX1_yarnFor wsX1_yarnFor) := goodIn_app (goodIn_of _ (by decide +kernel)) ggX9_weave_X1_yarnFor
set_option maxRecDepth 20000 in
theorem ggX9_weave_X4_keep : GoodIn wsX9_weave wsX4_keep := goodIn_r _ [27, 28, 29, 30, 31, 19, 20, 21, 32, 33, 34, 14, 35, 36, 37, 17, 16, 22, 38, 39, 40, 41, 42, 43, 44, 45, 46, 116, 117, 118, 94, 95, 96, 97, 98, 99, 100, 101, 102, 103] (by decide +kernel) (by decide +kernel)
set_option maxRecDepth 20000 in
theorem gX9_weave_X4_keep : GoodIn wsX9_weave (wsV RX9 182 RX4 yX4_keep wsX4_keep) := goodIn_app (goodIn_of _ (by decide +kernel)) ggX9_weave_X4_keep
set_option maxRecDepth 20000 in
theorem ggX9_weave_X1_hangMore : GoodIn wsX9_weave wsX1_hangMore := goodIn_r _ [50, 38, 22, 16, 17, 18, 19, 20, 21, 51, 52, 53, 54, 12, 13, 14, 15, 94, 95, 96, 97, 98, 99, 100, 101, 102, 103] (by decide +kernel) (by decide +kernel)
set_option maxRecDepth 20000 in
theorem gX9_weave_X1_hangMore : GoodIn wsX9_weave (wsV RX9 186 RX1 yX1_hangMore wsX1_hangMore) := goodIn_app (goodIn_of _ (by decide +kernel)) ggX9_weave_X1_hangMore
set_option maxRecDepth 20000 in
theorem ggX9_weave_X1_passEvening : GoodIn wsX9_weave wsX1_passEvening := goodIn_r _ [58, 36, 46, 41, 17, 40, 39, 37, 59, 60, 61, 62, 63, 64, 65, 14, 66, 67, 68, 69, 70, 71, 72, 73, 74, 75, 76, 77, 104, 105, 106, 107, 108, 109, 110, 111, 112, 113, 114, 115, 94, 95, 96, 97, 98, 99, 100, 101, 102, 103] (by decide +kernel) (by decide +kernel)
set_option maxRecDepth 20000 in
theorem gX9_weave_X1_passEvening : GoodIn wsX9_weave (wsV RX9 190 RX1 yX1_passEvening wsX1_passEvening) := goodIn_app (goodIn_of _ (by decide +kernel)) ggX9_weave_X1_passEvening
theorem dX9_weave_0 : decode cX9_weave 0 = .ok (.aload_n 0, 1) := by decide +kernel
theorem dX9_weave_1 : decode cX9_weave 1 = .ok (.getfield 153, 3) := by decide +kernel
theorem dX9_weave_4 : decode cX9_weave 4 = .ok (.ifCond .ne 6, 3) := by decide +kernel
theorem dX9_weave_7 : decode cX9_weave 7 = .ok (.ldc 166, 2) := by decide +kernel
theorem dX9_weave_9 : decode cX9_weave 9 = .ok (.ireturn, 1) := by decide +kernel
theorem dX9_weave_10 : decode cX9_weave 10 = .ok (.iload_n 1, 1) := by decide +kernel
theorem dX9_weave_11 : decode cX9_weave 11 = .ok (.bipush 6, 2) := by decide +kernel
theorem dX9_weave_13 : decode cX9_weave 13 = .ok (.invokestatic 91, 3) := by decide +kernel
theorem dX9_weave_16 : decode cX9_weave 16 = .ok (.ifCond .ne 6, 3) := by decide +kernel
theorem dX9_weave_19 : decode cX9_weave 19 = .ok (.ldc 95, 2) := by decide +kernel
theorem dX9_weave_21 : decode cX9_weave 21 = .ok (.ireturn, 1) := by decide +kernel
theorem dX9_weave_22 : decode cX9_weave 22 = .ok (.aload_n 0, 1) := by decide +kernel
theorem dX9_weave_23 : decode cX9_weave 23 = .ok (.getfield 35, 3) := by decide +kernel
theorem dX9_weave_26 : decode cX9_weave 26 = .ok (.getfield 167, 3) := by decide +kernel
theorem dX9_weave_29 : decode cX9_weave 29 = .ok (.ifCond .ne 40, 3) := by decide +kernel
theorem dX9_weave_32 : decode cX9_weave 32 = .ok (.iload_n 1, 1) := by decide +kernel
theorem dX9_weave_33 : decode cX9_weave 33 = .ok (.aload_n 0, 1) := by decide +kernel
theorem dX9_weave_34 : decode cX9_weave 34 = .ok (.getfield 25, 3) := by decide +kernel
theorem dX9_weave_37 : decode cX9_weave 37 = .ok (.getfield 170, 3) := by decide +kernel
theorem dX9_weave_40 : decode cX9_weave 40 = .ok (.aload_n 0, 1) := by decide +kernel
theorem dX9_weave_41 : decode cX9_weave 41 = .ok (.getfield 35, 3) := by decide +kernel
theorem dX9_weave_44 : decode cX9_weave 44 = .ok (.getfield 173, 3) := by decide +kernel
theorem dX9_weave_47 : decode cX9_weave 47 = .ok (.isub, 1) := by decide +kernel
theorem dX9_weave_48 : decode cX9_weave 48 = .ok (.if_icmp .gt 21, 3) := by decide +kernel
theorem dX9_weave_51 : decode cX9_weave 51 = .ok (.aload_n 0, 1) := by decide +kernel
theorem dX9_weave_52 : decode cX9_weave 52 = .ok (.getfield 35, 3) := by decide +kernel
theorem dX9_weave_55 : decode cX9_weave 55 = .ok (.iload_n 1, 1) := by decide +kernel
theorem dX9_weave_56 : decode cX9_weave 56 = .ok (.invokevirtual 176, 3) := by decide +kernel
theorem dX9_weave_59 : decode cX9_weave 59 = .ok (.aload_n 0, 1) := by decide +kernel
theorem dX9_weave_60 : decode cX9_weave 60 = .ok (.getfield 35, 3) := by decide +kernel
theorem dX9_weave_63 : decode cX9_weave 63 = .ok (.getfield 179, 3) := by decide +kernel
theorem dX9_weave_66 : decode cX9_weave 66 = .ok (.if_icmp .le 6, 3) := by decide +kernel
theorem dX9_weave_69 : decode cX9_weave 69 = .ok (.ldc 166, 2) := by decide +kernel
theorem dX9_weave_71 : decode cX9_weave 71 = .ok (.ireturn, 1) := by decide +kernel
theorem dX9_weave_72 : decode cX9_weave 72 = .ok (.aload_n 0, 1) := by decide +kernel
theorem dX9_weave_73 : decode cX9_weave 73 = .ok (.getfield 42, 3) := by decide +kernel
theorem dX9_weave_76 : decode cX9_weave 76 = .ok (.aload_n 0, 1) := by decide +kernel
theorem dX9_weave_77 : decode cX9_weave 77 = .ok (.getfield 35, 3) := by decide +kernel
theorem dX9_weave_80 : decode cX9_weave 80 = .ok (.invokevirtual 182, 3) := by decide +kernel
theorem dX9_weave_83 : decode cX9_weave 83 = .ok (.aload_n 0, 1) := by decide +kernel
theorem dX9_weave_84 : decode cX9_weave 84 = .ok (.getfield 35, 3) := by decide +kernel
theorem dX9_weave_87 : decode cX9_weave 87 = .ok (.iload_n 1, 1) := by decide +kernel
theorem dX9_weave_88 : decode cX9_weave 88 = .ok (.invokevirtual 186, 3) := by decide +kernel
theorem dX9_weave_91 : decode cX9_weave 91 = .ok (.aload_n 0, 1) := by decide +kernel
theorem dX9_weave_92 : decode cX9_weave 92 = .ok (.getfield 35, 3) := by decide +kernel
theorem dX9_weave_95 : decode cX9_weave 95 = .ok (.aload_n 0, 1) := by decide +kernel
theorem dX9_weave_96 : decode cX9_weave 96 = .ok (.getfield 25, 3) := by decide +kernel
theorem dX9_weave_99 : decode cX9_weave 99 = .ok (.invokevirtual 190, 3) := by decide +kernel
theorem dX9_weave_102 : decode cX9_weave 102 = .ok (.aload_n 0, 1) := by decide +kernel
theorem dX9_weave_103 : decode cX9_weave 103 = .ok (.getfield 35, 3) := by decide +kernel
theorem dX9_weave_106 : decode cX9_weave 106 = .ok (.getfield 173, 3) := by decide +kernel
theorem dX9_weave_109 : decode cX9_weave 109 = .ok (.ireturn, 1) := by decide +kernel
set_option maxRecDepth 20000 in
theorem ggX9_unpick_X9_isWithin : GoodIn wsX9_unpick wsX9_isWithin := goodIn_r _ [11] (by decide +kernel) (by decide +kernel)
set_option maxRecDepth 20000 in
theorem gX9_unpick_X9_isWithin : GoodIn wsX9_unpick (va_wsS RX9 91 yX9_isWithin wsX9_isWithin) := goodIn_app (goodIn_of _ (by decide +kernel)) ggX9_unpick_X9_isWithin
set_option maxRecDepth 20000 in
theorem ggX9_unpick_X3_mostUndone : GoodIn wsX9_unpick wsX3_mostUndone := goodIn_r _ [16, 17, 18, 19, 20, 21, 22, 23, 24, 15, 25, 88, 89, 90, 91, 92, 93, 94, 95, 96, 97, 98, 99] (by decide +kernel) (by decide +kernel)
set_option maxRecDepth 20000 in
theorem gX9_unpick_X3_mostUndone : GoodIn wsX9_unpick (wsV RX9 196 RX3 yX3_mostUndone wsX3_mostUndone) := goodIn_app (goodIn_of _ (by decide +kernel)) ggX9_unpick_X3_mostUndone
set_option maxRecDepth 20000 in
theorem ggX9_unpick_X4_keep : GoodIn wsX9_unpick wsX4_keep := goodIn_r _ [30, 31, 32, 33, 34, 20, 21, 22, 35, 36, 37, 38, 39, 40, 41, 42, 43, 44, 45, 46, 47, 48, 49, 50, 51, 52, 53, 100, 101, 102, 78, 79, 80, 81, 82, 83, 84, 85, 86, 87] (by decide +kernel) (by decide +kernel)
set_option maxRecDepth 20000 in
theorem gX9_unpick_X4_keep : GoodIn wsX9_unpick (wsV RX9 182 RX4 yX4_keep wsX4_keep) := goodIn_app (goodIn_of _ (by decide +kernel)) ggX9_unpick_X4_keep
set_option maxRecDepth 20000 in
theorem ggX9_unpick_X1_passNight : GoodIn wsX9_unpick wsX1_passNight := goodIn_r _ [57, 42, 40, 48, 41, 58, 59, 38, 60, 61, 24, 15, 25, 78, 79, 80, 81, 82, 83, 84, 85, 86, 87, 88, 89, 90, 91, 92, 93, 94, 95, 96, 97, 98, 99] (by decide +kernel) (by decide +kernel)
set_option maxRecDepth 20000 in
theorem gX9_unpick_X1_passNight : GoodIn wsX9_unpick (wsV RX9 199 RX1 yX1_passNight wsX1_passNight) := goodIn_app (goodIn_of _ (by decide +kernel)) ggX9_unpick_X1_passNight
theorem dX9_unpick_0 : decode cX9_unpick 0 = .ok (.aload_n 0, 1) := by decide +kernel
theorem dX9_unpick_1 : decode cX9_unpick 1 = .ok (.getfield 153, 3) := by decide +kernel
theorem dX9_unpick_4 : decode cX9_unpick 4 = .ok (.ifCond .ne 6, 3) := by decide +kernel
theorem dX9_unpick_7 : decode cX9_unpick 7 = .ok (.ldc 166, 2) := by decide +kernel
theorem dX9_unpick_9 : decode cX9_unpick 9 = .ok (.ireturn, 1) := by decide +kernel
theorem dX9_unpick_10 : decode cX9_unpick 10 = .ok (.iload_n 1, 1) := by decide +kernel
theorem dX9_unpick_11 : decode cX9_unpick 11 = .ok (.bipush 9, 2) := by decide +kernel
theorem dX9_unpick_13 : decode cX9_unpick 13 = .ok (.invokestatic 91, 3) := by decide +kernel
theorem dX9_unpick_16 : decode cX9_unpick 16 = .ok (.ifCond .ne 6, 3) := by decide +kernel
theorem dX9_unpick_19 : decode cX9_unpick 19 = .ok (.ldc 95, 2) := by decide +kernel
theorem dX9_unpick_21 : decode cX9_unpick 21 = .ok (.ireturn, 1) := by decide +kernel
theorem dX9_unpick_22 : decode cX9_unpick 22 = .ok (.aload_n 0, 1) := by decide +kernel
theorem dX9_unpick_23 : decode cX9_unpick 23 = .ok (.getfield 35, 3) := by decide +kernel
theorem dX9_unpick_26 : decode cX9_unpick 26 = .ok (.getfield 167, 3) := by decide +kernel
theorem dX9_unpick_29 : decode cX9_unpick 29 = .ok (.ifCond .eq 28, 3) := by decide +kernel
theorem dX9_unpick_32 : decode cX9_unpick 32 = .ok (.iload_n 1, 1) := by decide +kernel
theorem dX9_unpick_33 : decode cX9_unpick 33 = .ok (.aload_n 0, 1) := by decide +kernel
theorem dX9_unpick_34 : decode cX9_unpick 34 = .ok (.getfield 25, 3) := by decide +kernel
theorem dX9_unpick_37 : decode cX9_unpick 37 = .ok (.aload_n 0, 1) := by decide +kernel
theorem dX9_unpick_38 : decode cX9_unpick 38 = .ok (.getfield 35, 3) := by decide +kernel
theorem dX9_unpick_41 : decode cX9_unpick 41 = .ok (.getfield 193, 3) := by decide +kernel
theorem dX9_unpick_44 : decode cX9_unpick 44 = .ok (.aload_n 0, 1) := by decide +kernel
theorem dX9_unpick_45 : decode cX9_unpick 45 = .ok (.getfield 35, 3) := by decide +kernel
theorem dX9_unpick_48 : decode cX9_unpick 48 = .ok (.getfield 173, 3) := by decide +kernel
theorem dX9_unpick_51 : decode cX9_unpick 51 = .ok (.invokevirtual 196, 3) := by decide +kernel
theorem dX9_unpick_54 : decode cX9_unpick 54 = .ok (.if_icmp .le 6, 3) := by decide +kernel
theorem dX9_unpick_57 : decode cX9_unpick 57 = .ok (.ldc 166, 2) := by decide +kernel
theorem dX9_unpick_59 : decode cX9_unpick 59 = .ok (.ireturn, 1) := by decide +kernel
theorem dX9_unpick_60 : decode cX9_unpick 60 = .ok (.aload_n 0, 1) := by decide +kernel
theorem dX9_unpick_61 : decode cX9_unpick 61 = .ok (.getfield 35, 3) := by decide +kernel
theorem dX9_unpick_64 : decode cX9_unpick 64 = .ok (.getfield 193, 3) := by decide +kernel
theorem dX9_unpick_67 : decode cX9_unpick 67 = .ok (.sipush 999, 3) := by decide +kernel
theorem dX9_unpick_70 : decode cX9_unpick 70 = .ok (.if_icmp .lt 6, 3) := by decide +kernel
theorem dX9_unpick_73 : decode cX9_unpick 73 = .ok (.ldc 138, 2) := by decide +kernel
theorem dX9_unpick_75 : decode cX9_unpick 75 = .ok (.ireturn, 1) := by decide +kernel
theorem dX9_unpick_76 : decode cX9_unpick 76 = .ok (.aload_n 0, 1) := by decide +kernel
theorem dX9_unpick_77 : decode cX9_unpick 77 = .ok (.getfield 42, 3) := by decide +kernel
theorem dX9_unpick_80 : decode cX9_unpick 80 = .ok (.aload_n 0, 1) := by decide +kernel
theorem dX9_unpick_81 : decode cX9_unpick 81 = .ok (.getfield 35, 3) := by decide +kernel
theorem dX9_unpick_84 : decode cX9_unpick 84 = .ok (.invokevirtual 182, 3) := by decide +kernel
theorem dX9_unpick_87 : decode cX9_unpick 87 = .ok (.aload_n 0, 1) := by decide +kernel
theorem dX9_unpick_88 : decode cX9_unpick 88 = .ok (.getfield 35, 3) := by decide +kernel
theorem dX9_unpick_91 : decode cX9_unpick 91 = .ok (.aload_n 0, 1) := by decide +kernel
theorem dX9_unpick_92 : decode cX9_unpick 92 = .ok (.getfield 25, 3) := by decide +kernel
theorem dX9_unpick_95 : decode cX9_unpick 95 = .ok (.iload_n 1, 1) := by decide +kernel
theorem dX9_unpick_96 : decode cX9_unpick 96 = .ok (.invokevirtual 199, 3) := by decide +kernel
theorem dX9_unpick_99 : decode cX9_unpick 99 = .ok (.aload_n 0, 1) := by decide +kernel
theorem dX9_unpick_100 : decode cX9_unpick 100 = .ok (.getfield 35, 3) := by decide +kernel
theorem dX9_unpick_103 : decode cX9_unpick 103 = .ok (.getfield 173, 3) := by decide +kernel
theorem dX9_unpick_106 : decode cX9_unpick 106 = .ok (.ireturn, 1) := by decide +kernel
set_option maxRecDepth 20000 in
theorem ggX9_undo_X4_takeBack : GoodIn wsX9_undo wsX4_takeBack := goodIn_r _ [8, 9, 10, 11, 12, 13, 14, 15, 16, 17, 18, 19, 20, 21, 22, 23, 24, 25, 26, 27, 28, 29, 30, 47, 48, 49, 50, 51, 52, 53, 54, 55, 56, 57, 58, 59] (by decide +kernel) (by decide +kernel)
set_option maxRecDepth 20000 in
theorem gX9_undo_X4_takeBack : GoodIn wsX9_undo (wsV RX9 204 RX4 yX4_takeBack wsX4_takeBack) := goodIn_app (goodIn_of _ (by decide +kernel)) ggX9_undo_X4_takeBack
theorem dX9_undo_0 : decode cX9_undo 0 = .ok (.aload_n 0, 1) := by decide +kernel
theorem dX9_undo_1 : decode cX9_undo 1 = .ok (.getfield 42, 3) := by decide +kernel
theorem dX9_undo_4 : decode cX9_undo 4 = .ok (.getfield 203, 3) := by decide +kernel
theorem dX9_undo_7 : decode cX9_undo 7 = .ok (.ifCond .ne 6, 3) := by decide +kernel
theorem dX9_undo_10 : decode cX9_undo 10 = .ok (.ldc 166, 2) := by decide +kernel
theorem dX9_undo_12 : decode cX9_undo 12 = .ok (.ireturn, 1) := by decide +kernel
theorem dX9_undo_13 : decode cX9_undo 13 = .ok (.aload_n 0, 1) := by decide +kernel
theorem dX9_undo_14 : decode cX9_undo 14 = .ok (.getfield 42, 3) := by decide +kernel
theorem dX9_undo_17 : decode cX9_undo 17 = .ok (.aload_n 0, 1) := by decide +kernel
theorem dX9_undo_18 : decode cX9_undo 18 = .ok (.getfield 35, 3) := by decide +kernel
theorem dX9_undo_21 : decode cX9_undo 21 = .ok (.invokevirtual 204, 3) := by decide +kernel
theorem dX9_undo_24 : decode cX9_undo 24 = .ok (.aload_n 0, 1) := by decide +kernel
theorem dX9_undo_25 : decode cX9_undo 25 = .ok (.getfield 42, 3) := by decide +kernel
theorem dX9_undo_28 : decode cX9_undo 28 = .ok (.getfield 203, 3) := by decide +kernel
theorem dX9_undo_31 : decode cX9_undo 31 = .ok (.ireturn, 1) := by decide +kernel
theorem dX9_cloth_0 : decode cX9_cloth 0 = .ok (.aload_n 0, 1) := by decide +kernel
theorem dX9_cloth_1 : decode cX9_cloth 1 = .ok (.getfield 153, 3) := by decide +kernel
theorem dX9_cloth_4 : decode cX9_cloth 4 = .ok (.ifCond .ne 6, 3) := by decide +kernel
theorem dX9_cloth_7 : decode cX9_cloth 7 = .ok (.ldc 166, 2) := by decide +kernel
theorem dX9_cloth_9 : decode cX9_cloth 9 = .ok (.ireturn, 1) := by decide +kernel
theorem dX9_cloth_10 : decode cX9_cloth 10 = .ok (.iload_n 1, 1) := by decide +kernel
theorem dX9_cloth_11 : decode cX9_cloth 11 = .ok (.tableswitch 120 0 6 #[41, 49, 57, 65, 73, 81, 97], 41) := by decide +kernel
theorem dX9_cloth_52 : decode cX9_cloth 52 = .ok (.aload_n 0, 1) := by decide +kernel
theorem dX9_cloth_53 : decode cX9_cloth 53 = .ok (.getfield 35, 3) := by decide +kernel
theorem dX9_cloth_56 : decode cX9_cloth 56 = .ok (.getfield 173, 3) := by decide +kernel
theorem dX9_cloth_59 : decode cX9_cloth 59 = .ok (.ireturn, 1) := by decide +kernel
theorem dX9_cloth_60 : decode cX9_cloth 60 = .ok (.aload_n 0, 1) := by decide +kernel
theorem dX9_cloth_61 : decode cX9_cloth 61 = .ok (.getfield 35, 3) := by decide +kernel
theorem dX9_cloth_64 : decode cX9_cloth 64 = .ok (.getfield 207, 3) := by decide +kernel
theorem dX9_cloth_67 : decode cX9_cloth 67 = .ok (.ireturn, 1) := by decide +kernel
theorem dX9_cloth_68 : decode cX9_cloth 68 = .ok (.aload_n 0, 1) := by decide +kernel
theorem dX9_cloth_69 : decode cX9_cloth 69 = .ok (.getfield 35, 3) := by decide +kernel
theorem dX9_cloth_72 : decode cX9_cloth 72 = .ok (.getfield 210, 3) := by decide +kernel
theorem dX9_cloth_75 : decode cX9_cloth 75 = .ok (.ireturn, 1) := by decide +kernel
theorem dX9_cloth_76 : decode cX9_cloth 76 = .ok (.aload_n 0, 1) := by decide +kernel
theorem dX9_cloth_77 : decode cX9_cloth 77 = .ok (.getfield 35, 3) := by decide +kernel
theorem dX9_cloth_80 : decode cX9_cloth 80 = .ok (.getfield 179, 3) := by decide +kernel
theorem dX9_cloth_83 : decode cX9_cloth 83 = .ok (.ireturn, 1) := by decide +kernel
theorem dX9_cloth_84 : decode cX9_cloth 84 = .ok (.aload_n 0, 1) := by decide +kernel
theorem dX9_cloth_85 : decode cX9_cloth 85 = .ok (.getfield 35, 3) := by decide +kernel
theorem dX9_cloth_88 : decode cX9_cloth 88 = .ok (.getfield 213, 3) := by decide +kernel
theorem dX9_cloth_91 : decode cX9_cloth 91 = .ok (.ireturn, 1) := by decide +kernel
theorem dX9_cloth_92 : decode cX9_cloth 92 = .ok (.aload_n 0, 1) := by decide +kernel
theorem dX9_cloth_93 : decode cX9_cloth 93 = .ok (.getfield 35, 3) := by decide +kernel
theorem dX9_cloth_96 : decode cX9_cloth 96 = .ok (.getfield 167, 3) := by decide +kernel
theorem dX9_cloth_99 : decode cX9_cloth 99 = .ok (.ifCond .eq 7, 3) := by decide +kernel
theorem dX9_cloth_102 : decode cX9_cloth 102 = .ok (.iconst 1, 1) := by decide +kernel
theorem dX9_cloth_103 : decode cX9_cloth 103 = .ok (.goto 4, 3) := by decide +kernel
theorem dX9_cloth_106 : decode cX9_cloth 106 = .ok (.iconst 0, 1) := by decide +kernel
theorem dX9_cloth_107 : decode cX9_cloth 107 = .ok (.ireturn, 1) := by decide +kernel
theorem dX9_cloth_108 : decode cX9_cloth 108 = .ok (.aload_n 0, 1) := by decide +kernel
theorem dX9_cloth_109 : decode cX9_cloth 109 = .ok (.getfield 35, 3) := by decide +kernel
theorem dX9_cloth_112 : decode cX9_cloth 112 = .ok (.getfield 173, 3) := by decide +kernel
theorem dX9_cloth_115 : decode cX9_cloth 115 = .ok (.aload_n 0, 1) := by decide +kernel
theorem dX9_cloth_116 : decode cX9_cloth 116 = .ok (.getfield 25, 3) := by decide +kernel
theorem dX9_cloth_119 : decode cX9_cloth 119 = .ok (.getfield 170, 3) := by decide +kernel
theorem dX9_cloth_122 : decode cX9_cloth 122 = .ok (.if_icmp .ne 7, 3) := by decide +kernel
theorem dX9_cloth_125 : decode cX9_cloth 125 = .ok (.iconst 1, 1) := by decide +kernel
theorem dX9_cloth_126 : decode cX9_cloth 126 = .ok (.goto 4, 3) := by decide +kernel
theorem dX9_cloth_129 : decode cX9_cloth 129 = .ok (.iconst 0, 1) := by decide +kernel
theorem dX9_cloth_130 : decode cX9_cloth 130 = .ok (.ireturn, 1) := by decide +kernel
theorem dX9_cloth_131 : decode cX9_cloth 131 = .ok (.ldc 95, 2) := by decide +kernel
theorem dX9_cloth_133 : decode cX9_cloth 133 = .ok (.ireturn, 1) := by decide +kernel
set_option maxRecDepth 20000 in
theorem ggX9_colour_X9_isWithin : GoodIn wsX9_colour wsX9_isWithin := goodIn_r _ [7] (by decide +kernel) (by decide +kernel)
set_option maxRecDepth 20000 in
theorem gX9_colour_X9_isWithin : GoodIn wsX9_colour (va_wsS RX9 91 yX9_isWithin wsX9_isWithin) := goodIn_app (goodIn_of _ (by decide +kernel)) ggX9_colour_X9_isWithin
set_option maxRecDepth 20000 in
theorem ggX9_colour_X3_colourAt : GoodIn wsX9_colour wsX3_colourAt := goodIn_r _ [12, 13, 14, 15, 32, 33, 34, 35, 36, 37, 38, 39, 40, 41, 42, 43] (by decide +kernel) (by decide +kernel)
set_option maxRecDepth 20000 in
theorem gX9_colour_X3_colourAt : GoodIn wsX9_colour (wsV RX9 216 RX3 yX3_colourAt wsX3_colourAt) := goodIn_app (goodIn_of _ (by decide +kernel)) ggX9_colour_X3_colourAt
theorem dX9_colour_0 : decode cX9_colour 0 = .ok (.aload_n 0, 1) := by decide +kernel
theorem dX9_colour_1 : decode cX9_colour 1 = .ok (.getfield 153, 3) := by decide +kernel
theorem dX9_colour_4 : decode cX9_colour 4 = .ok (.ifCond .eq 19, 3) := by decide +kernel
theorem dX9_colour_7 : decode cX9_colour 7 = .ok (.iload_n 1, 1) := by decide +kernel
theorem dX9_colour_8 : decode cX9_colour 8 = .ok (.aload_n 0, 1) := by decide +kernel
theorem dX9_colour_9 : decode cX9_colour 9 = .ok (.getfield 25, 3) := by decide +kernel
theorem dX9_colour_12 : decode cX9_colour 12 = .ok (.getfield 170, 3) := by decide +kernel
theorem dX9_colour_15 : decode cX9_colour 15 = .ok (.iconst 1, 1) := by decide +kernel
theorem dX9_colour_16 : decode cX9_colour 16 = .ok (.isub, 1) := by decide +kernel
theorem dX9_colour_17 : decode cX9_colour 17 = .ok (.invokestatic 91, 3) := by decide +kernel
theorem dX9_colour_20 : decode cX9_colour 20 = .ok (.ifCond .ne 6, 3) := by decide +kernel
theorem dX9_colour_23 : decode cX9_colour 23 = .ok (.ldc 95, 2) := by decide +kernel
theorem dX9_colour_25 : decode cX9_colour 25 = .ok (.ireturn, 1) := by decide +kernel
theorem dX9_colour_26 : decode cX9_colour 26 = .ok (.aload_n 0, 1) := by decide +kernel
theorem dX9_colour_27 : decode cX9_colour 27 = .ok (.getfield 25, 3) := by decide +kernel
theorem dX9_colour_30 : decode cX9_colour 30 = .ok (.iload_n 1, 1) := by decide +kernel
theorem dX9_colour_31 : decode cX9_colour 31 = .ok (.invokevirtual 216, 3) := by decide +kernel
theorem dX9_colour_34 : decode cX9_colour 34 = .ok (.ireturn, 1) := by decide +kernel
set_option maxRecDepth 20000 in
theorem ggX9_suitor_X9_isSuitor : GoodIn wsX9_suitor wsX9_isSuitor := goodIn_r _ [9, 10, 2, 17, 18, 19, 20, 21, 22, 23, 24, 25, 26, 27, 28, 29, 30, 31, 32, 33, 34, 35, 36, 37, 38, 39, 40, 41, 42, 43, 44] (by decide +kernel) (by decide +kernel)
set_option maxRecDepth 20000 in
theorem gX9_suitor_X9_isSuitor : GoodIn wsX9_suitor (wsV RX9 219 RX9 yX9_isSuitor wsX9_isSuitor) := goodIn_app (goodIn_of _ (by decide +kernel)) ggX9_suitor_X9_isSuitor
set_option maxRecDepth 20000 in
theorem ggX9_suitor_X1_knows : GoodIn wsX9_suitor wsX1_knows := goodIn_r _ [15, 16, 45, 46, 47, 48, 49, 50, 51, 52, 53, 54, 33, 34, 35, 36, 37, 38, 39, 40, 41, 42, 43, 44] (by decide +kernel) (by decide +kernel)
set_option maxRecDepth 20000 in
theorem gX9_suitor_X1_knows : GoodIn wsX9_suitor (wsV RX9 231 RX1 yX1_knows wsX1_knows) := goodIn_app (goodIn_of _ (by decide +kernel)) ggX9_suitor_X1_knows
theorem dX9_suitor_0 : decode cX9_suitor 0 = .ok (.aload_n 0, 1) := by decide +kernel
theorem dX9_suitor_1 : decode cX9_suitor 1 = .ok (.iload_n 1, 1) := by decide +kernel
theorem dX9_suitor_2 : decode cX9_suitor 2 = .ok (.invokevirtual 219, 3) := by decide +kernel
theorem dX9_suitor_5 : decode cX9_suitor 5 = .ok (.ifCond .ne 6, 3) := by decide +kernel
theorem dX9_suitor_8 : decode cX9_suitor 8 = .ok (.ldc 95, 2) := by decide +kernel
theorem dX9_suitor_10 : decode cX9_suitor 10 = .ok (.ireturn, 1) := by decide +kernel
theorem dX9_suitor_11 : decode cX9_suitor 11 = .ok (.iload_n 2, 1) := by decide +kernel
theorem dX9_suitor_12 : decode cX9_suitor 12 = .ok (.tableswitch 115 0 4 #[36, 46, 56, 66, 87], 36) := by decide +kernel
theorem dX9_suitor_48 : decode cX9_suitor 48 = .ok (.aload_n 0, 1) := by decide +kernel
theorem dX9_suitor_49 : decode cX9_suitor 49 = .ok (.getfield 25, 3) := by decide +kernel
theorem dX9_suitor_52 : decode cX9_suitor 52 = .ok (.getfield 222, 3) := by decide +kernel
theorem dX9_suitor_55 : decode cX9_suitor 55 = .ok (.iload_n 1, 1) := by decide +kernel
theorem dX9_suitor_56 : decode cX9_suitor 56 = .ok (.iaload, 1) := by decide +kernel
theorem dX9_suitor_57 : decode cX9_suitor 57 = .ok (.ireturn, 1) := by decide +kernel
theorem dX9_suitor_58 : decode cX9_suitor 58 = .ok (.aload_n 0, 1) := by decide +kernel
theorem dX9_suitor_59 : decode cX9_suitor 59 = .ok (.getfield 25, 3) := by decide +kernel
theorem dX9_suitor_62 : decode cX9_suitor 62 = .ok (.getfield 225, 3) := by decide +kernel
theorem dX9_suitor_65 : decode cX9_suitor 65 = .ok (.iload_n 1, 1) := by decide +kernel
theorem dX9_suitor_66 : decode cX9_suitor 66 = .ok (.iaload, 1) := by decide +kernel
theorem dX9_suitor_67 : decode cX9_suitor 67 = .ok (.ireturn, 1) := by decide +kernel
theorem dX9_suitor_68 : decode cX9_suitor 68 = .ok (.aload_n 0, 1) := by decide +kernel
theorem dX9_suitor_69 : decode cX9_suitor 69 = .ok (.getfield 35, 3) := by decide +kernel
theorem dX9_suitor_72 : decode cX9_suitor 72 = .ok (.getfield 228, 3) := by decide +kernel
theorem dX9_suitor_75 : decode cX9_suitor 75 = .ok (.iload_n 1, 1) := by decide +kernel
theorem dX9_suitor_76 : decode cX9_suitor 76 = .ok (.iaload, 1) := by decide +kernel
theorem dX9_suitor_77 : decode cX9_suitor 77 = .ok (.ireturn, 1) := by decide +kernel
theorem dX9_suitor_78 : decode cX9_suitor 78 = .ok (.aload_n 0, 1) := by decide +kernel
theorem dX9_suitor_79 : decode cX9_suitor 79 = .ok (.getfield 35, 3) := by decide +kernel
theorem dX9_suitor_82 : decode cX9_suitor 82 = .ok (.aload_n 0, 1) := by decide +kernel
theorem dX9_suitor_83 : decode cX9_suitor 83 = .ok (.getfield 25, 3) := by decide +kernel
theorem dX9_suitor_86 : decode cX9_suitor 86 = .ok (.iload_n 1, 1) := by decide +kernel
theorem dX9_suitor_87 : decode cX9_suitor 87 = .ok (.invokevirtual 231, 3) := by decide +kernel
theorem dX9_suitor_90 : decode cX9_suitor 90 = .ok (.ifCond .eq 7, 3) := by decide +kernel
theorem dX9_suitor_93 : decode cX9_suitor 93 = .ok (.iconst 1, 1) := by decide +kernel
theorem dX9_suitor_94 : decode cX9_suitor 94 = .ok (.goto 4, 3) := by decide +kernel
theorem dX9_suitor_97 : decode cX9_suitor 97 = .ok (.iconst 0, 1) := by decide +kernel
theorem dX9_suitor_98 : decode cX9_suitor 98 = .ok (.ireturn, 1) := by decide +kernel
theorem dX9_suitor_99 : decode cX9_suitor 99 = .ok (.aload_n 0, 1) := by decide +kernel
theorem dX9_suitor_100 : decode cX9_suitor 100 = .ok (.getfield 35, 3) := by decide +kernel
theorem dX9_suitor_103 : decode cX9_suitor 103 = .ok (.getfield 235, 3) := by decide +kernel
theorem dX9_suitor_106 : decode cX9_suitor 106 = .ok (.iload_n 1, 1) := by decide +kernel
theorem dX9_suitor_107 : decode cX9_suitor 107 = .ok (.iaload, 1) := by decide +kernel
theorem dX9_suitor_108 : decode cX9_suitor 108 = .ok (.iconst (-1), 1) := by decide +kernel
theorem dX9_suitor_109 : decode cX9_suitor 109 = .ok (.if_icmp .ne 8, 3) := by decide +kernel
theorem dX9_suitor_112 : decode cX9_suitor 112 = .ok (.ldc 238, 2) := by decide +kernel
theorem dX9_suitor_114 : decode cX9_suitor 114 = .ok (.goto 12, 3) := by decide +kernel
theorem dX9_suitor_117 : decode cX9_suitor 117 = .ok (.aload_n 0, 1) := by decide +kernel
theorem dX9_suitor_118 : decode cX9_suitor 118 = .ok (.getfield 35, 3) := by decide +kernel
theorem dX9_suitor_121 : decode cX9_suitor 121 = .ok (.getfield 235, 3) := by decide +kernel
theorem dX9_suitor_124 : decode cX9_suitor 124 = .ok (.iload_n 1, 1) := by decide +kernel
theorem dX9_suitor_125 : decode cX9_suitor 125 = .ok (.iaload, 1) := by decide +kernel
theorem dX9_suitor_126 : decode cX9_suitor 126 = .ok (.ireturn, 1) := by decide +kernel
theorem dX9_suitor_127 : decode cX9_suitor 127 = .ok (.ldc 95, 2) := by decide +kernel
theorem dX9_suitor_129 : decode cX9_suitor 129 = .ok (.ireturn, 1) := by decide +kernel
set_option maxRecDepth 20000 in
theorem ggX9_holds_X9_isHabit : GoodIn wsX9_holds wsX9_isHabit := goodIn_r _ [10, 11, 12, 9, 13] (by decide +kernel) (by decide +kernel)
set_option maxRecDepth 20000 in
theorem gX9_holds_X9_isHabit : GoodIn wsX9_holds (va_wsS RX9 239 yX9_isHabit wsX9_isHabit) := goodIn_app (goodIn_of _ (by decide +kernel)) ggX9_holds_X9_isHabit
set_option maxRecDepth 20000 in
theorem ggX9_holds_X9_isWithin : GoodIn wsX9_holds wsX9_isWithin := goodIn_r _ [13] (by decide +kernel) (by decide +kernel)
set_option maxRecDepth 20000 in
theorem gX9_holds_X9_isWithin : GoodIn wsX9_holds (va_wsS RX9 91 yX9_isWithin wsX9_isWithin) := goodIn_app (goodIn_of _ (by decide +kernel)) ggX9_holds_X9_isWithin
set_option maxRecDepth 20000 in
theorem ggX9_holds_X7_foretell : GoodIn wsX9_holds wsX7_foretell := goodIn_r _ [18, 19, 20, 21, 22, 23, 24, 25, 26, 27, 28, 29, 30, 31, 32, 33, 34, 35, 36, 37, 38, 39, 40, 41, 42, 43, 17, 44, 45, 46, 47, 48, 49, 50, 51, 52, 53, 54, 55, 56, 57, 58, 59, 60, 61, 62, 63, 64, 65, 66, 67, 68, 69, 70, 71, 72, 73, 74, 75, 76, 77, 78, 79, 80, 81, 82, 83, 84, 85, 86, 87, 88, 89, 90, 91, 92, 93, 94, 95, 96, 97, 98, 99, 100, 101, 102, 103, 104, 105, 106, 107, 108, 109, 110, 111, 112, 113, 114, 115, 116, 117, 118, 119, 120, 121, 122, 123, 124, 125, 126, 127, 128, 129, 130, 131, 132, 133, 134, 135, 136, 137, 138, 139, 140, 157, 158, 159, 160, 161, 162, 163, 164, 165, 166, 167, 168, 169, 170, 171, 172, 173, 174, 175, 176, 177, 178, 179, 180, 181, 182, 183, 184, 185, 186, 187, 188] (by decide +kernel) (by decide +kernel)
set_option maxRecDepth 20000 in
theorem gX9_holds_X7_foretell : GoodIn wsX9_holds (wsV RX9 242 RX7 yX7_foretell wsX7_foretell) := goodIn_app (goodIn_of _ (by decide +kernel)) ggX9_holds_X7_foretell
theorem dX9_holds_0 : decode cX9_holds 0 = .ok (.aload_n 0, 1) := by decide +kernel
theorem dX9_holds_1 : decode cX9_holds 1 = .ok (.getfield 153, 3) := by decide +kernel
theorem dX9_holds_4 : decode cX9_holds 4 = .ok (.ifCond .ne 6, 3) := by decide +kernel
theorem dX9_holds_7 : decode cX9_holds 7 = .ok (.ldc 166, 2) := by decide +kernel
theorem dX9_holds_9 : decode cX9_holds 9 = .ok (.ireturn, 1) := by decide +kernel
theorem dX9_holds_10 : decode cX9_holds 10 = .ok (.iload_n 1, 1) := by decide +kernel
theorem dX9_holds_11 : decode cX9_holds 11 = .ok (.iload_n 2, 1) := by decide +kernel
theorem dX9_holds_12 : decode cX9_holds 12 = .ok (.invokestatic 239, 3) := by decide +kernel
theorem dX9_holds_15 : decode cX9_holds 15 = .ok (.ifCond .eq 11, 3) := by decide +kernel
theorem dX9_holds_18 : decode cX9_holds 18 = .ok (.iload_n 3, 1) := by decide +kernel
theorem dX9_holds_19 : decode cX9_holds 19 = .ok (.iconst 2, 1) := by decide +kernel
theorem dX9_holds_20 : decode cX9_holds 20 = .ok (.invokestatic 91, 3) := by decide +kernel
theorem dX9_holds_23 : decode cX9_holds 23 = .ok (.ifCond .ne 6, 3) := by decide +kernel
theorem dX9_holds_26 : decode cX9_holds 26 = .ok (.ldc 95, 2) := by decide +kernel
theorem dX9_holds_28 : decode cX9_holds 28 = .ok (.ireturn, 1) := by decide +kernel
theorem dX9_holds_29 : decode cX9_holds 29 = .ok (.aload_n 0, 1) := by decide +kernel
theorem dX9_holds_30 : decode cX9_holds 30 = .ok (.getfield 61, 3) := by decide +kernel
theorem dX9_holds_33 : decode cX9_holds 33 = .ok (.aload_n 0, 1) := by decide +kernel
theorem dX9_holds_34 : decode cX9_holds 34 = .ok (.getfield 25, 3) := by decide +kernel
theorem dX9_holds_37 : decode cX9_holds 37 = .ok (.aload_n 0, 1) := by decide +kernel
theorem dX9_holds_38 : decode cX9_holds 38 = .ok (.getfield 35, 3) := by decide +kernel
theorem dX9_holds_41 : decode cX9_holds 41 = .ok (.iload_n 1, 1) := by decide +kernel
theorem dX9_holds_42 : decode cX9_holds 42 = .ok (.iload_n 2, 1) := by decide +kernel
theorem dX9_holds_43 : decode cX9_holds 43 = .ok (.invokevirtual 242, 3) := by decide +kernel
theorem dX9_holds_46 : decode cX9_holds 46 = .ok (.iload_n 3, 1) := by decide +kernel
theorem dX9_holds_47 : decode cX9_holds 47 = .ok (.lookupswitch 41 #[(0, 25), (1, 33)], 25) := by decide +kernel
theorem dX9_holds_72 : decode cX9_holds 72 = .ok (.aload_n 0, 1) := by decide +kernel
theorem dX9_holds_73 : decode cX9_holds 73 = .ok (.getfield 61, 3) := by decide +kernel
theorem dX9_holds_76 : decode cX9_holds 76 = .ok (.getfield 246, 3) := by decide +kernel
theorem dX9_holds_79 : decode cX9_holds 79 = .ok (.ireturn, 1) := by decide +kernel
theorem dX9_holds_80 : decode cX9_holds 80 = .ok (.aload_n 0, 1) := by decide +kernel
theorem dX9_holds_81 : decode cX9_holds 81 = .ok (.getfield 61, 3) := by decide +kernel
theorem dX9_holds_84 : decode cX9_holds 84 = .ok (.getfield 249, 3) := by decide +kernel
theorem dX9_holds_87 : decode cX9_holds 87 = .ok (.ireturn, 1) := by decide +kernel
theorem dX9_holds_88 : decode cX9_holds 88 = .ok (.aload_n 0, 1) := by decide +kernel
theorem dX9_holds_89 : decode cX9_holds 89 = .ok (.getfield 61, 3) := by decide +kernel
theorem dX9_holds_92 : decode cX9_holds 92 = .ok (.getfield 252, 3) := by decide +kernel
theorem dX9_holds_95 : decode cX9_holds 95 = .ok (.ireturn, 1) := by decide +kernel
set_option maxRecDepth 20000 in
theorem ggX9_longest_X9_isWithin : GoodIn wsX9_longest wsX9_isWithin := goodIn_r _ [10] (by decide +kernel) (by decide +kernel)
set_option maxRecDepth 20000 in
theorem gX9_longest_X9_isWithin : GoodIn wsX9_longest (va_wsS RX9 91 yX9_isWithin wsX9_isWithin) := goodIn_app (goodIn_of _ (by decide +kernel)) ggX9_longest_X9_isWithin
set_option maxRecDepth 20000 in
theorem ggX9_longest_X7_findLongest : GoodIn wsX9_longest wsX7_findLongest := goodIn_r _ [15, 16, 17, 18, 19, 20, 21, 22, 23, 24, 25, 26, 27, 28, 29, 30, 31, 32, 33, 34, 35, 36, 37, 38, 39, 40, 41, 42, 43, 44, 14, 45, 46, 47, 48, 49, 50, 51, 52, 53, 54, 55, 56, 57, 58, 59, 60, 61, 62, 63, 64, 65, 66, 67, 68, 69, 70, 71, 72, 73, 74, 75, 76, 77, 78, 79, 80, 81, 82, 83, 84, 85, 86, 87, 88, 89, 90, 91, 92, 93, 94, 95, 96, 97, 98, 99, 100, 101, 102, 103, 104, 105, 106, 107, 108, 109, 110, 111, 112, 113, 114, 115, 116, 117, 118, 119, 120, 121, 122, 123, 124, 125, 126, 127, 128, 129, 130, 131, 132, 133, 134, 135, 136, 137, 138, 139, 140, 157, 158, 159, 160, 161, 162, 163, 164, 165, 166, 167, 168, 169, 170, 171, 172, 173, 174, 175, 176, 177, 178, 179, 180, 181, 182, 183, 184, 185, 186, 187, 188] (by decide +kernel) (by decide +kernel)
set_option maxRecDepth 20000 in
theorem gX9_longest_X7_findLongest : GoodIn wsX9_longest (wsV RX9 255 RX7 yX7_findLongest wsX7_findLongest) := goodIn_app (goodIn_of _ (by decide +kernel)) ggX9_longest_X7_findLongest
theorem dX9_longest_0 : decode cX9_longest 0 = .ok (.aload_n 0, 1) := by decide +kernel
theorem dX9_longest_1 : decode cX9_longest 1 = .ok (.getfield 153, 3) := by decide +kernel
theorem dX9_longest_4 : decode cX9_longest 4 = .ok (.ifCond .ne 6, 3) := by decide +kernel
theorem dX9_longest_7 : decode cX9_longest 7 = .ok (.ldc 166, 2) := by decide +kernel
theorem dX9_longest_9 : decode cX9_longest 9 = .ok (.ireturn, 1) := by decide +kernel
theorem dX9_longest_10 : decode cX9_longest 10 = .ok (.iload_n 1, 1) := by decide +kernel
theorem dX9_longest_11 : decode cX9_longest 11 = .ok (.iconst 2, 1) := by decide +kernel
theorem dX9_longest_12 : decode cX9_longest 12 = .ok (.invokestatic 91, 3) := by decide +kernel
theorem dX9_longest_15 : decode cX9_longest 15 = .ok (.ifCond .ne 6, 3) := by decide +kernel
theorem dX9_longest_18 : decode cX9_longest 18 = .ok (.ldc 95, 2) := by decide +kernel
theorem dX9_longest_20 : decode cX9_longest 20 = .ok (.ireturn, 1) := by decide +kernel
theorem dX9_longest_21 : decode cX9_longest 21 = .ok (.aload_n 0, 1) := by decide +kernel
theorem dX9_longest_22 : decode cX9_longest 22 = .ok (.getfield 61, 3) := by decide +kernel
theorem dX9_longest_25 : decode cX9_longest 25 = .ok (.aload_n 0, 1) := by decide +kernel
theorem dX9_longest_26 : decode cX9_longest 26 = .ok (.getfield 25, 3) := by decide +kernel
theorem dX9_longest_29 : decode cX9_longest 29 = .ok (.aload_n 0, 1) := by decide +kernel
theorem dX9_longest_30 : decode cX9_longest 30 = .ok (.getfield 35, 3) := by decide +kernel
theorem dX9_longest_33 : decode cX9_longest 33 = .ok (.invokevirtual 255, 3) := by decide +kernel
theorem dX9_longest_36 : decode cX9_longest 36 = .ok (.iload_n 1, 1) := by decide +kernel
theorem dX9_longest_37 : decode cX9_longest 37 = .ok (.lookupswitch 43 #[(0, 27), (1, 35)], 27) := by decide +kernel
theorem dX9_longest_64 : decode cX9_longest 64 = .ok (.aload_n 0, 1) := by decide +kernel
theorem dX9_longest_65 : decode cX9_longest 65 = .ok (.getfield 61, 3) := by decide +kernel
theorem dX9_longest_68 : decode cX9_longest 68 = .ok (.getfield 259, 3) := by decide +kernel
theorem dX9_longest_71 : decode cX9_longest 71 = .ok (.ireturn, 1) := by decide +kernel
theorem dX9_longest_72 : decode cX9_longest 72 = .ok (.aload_n 0, 1) := by decide +kernel
theorem dX9_longest_73 : decode cX9_longest 73 = .ok (.getfield 61, 3) := by decide +kernel
theorem dX9_longest_76 : decode cX9_longest 76 = .ok (.getfield 262, 3) := by decide +kernel
theorem dX9_longest_79 : decode cX9_longest 79 = .ok (.ireturn, 1) := by decide +kernel
theorem dX9_longest_80 : decode cX9_longest 80 = .ok (.aload_n 0, 1) := by decide +kernel
theorem dX9_longest_81 : decode cX9_longest 81 = .ok (.getfield 61, 3) := by decide +kernel
theorem dX9_longest_84 : decode cX9_longest 84 = .ok (.getfield 265, 3) := by decide +kernel
theorem dX9_longest_87 : decode cX9_longest 87 = .ok (.ireturn, 1) := by decide +kernel
set_option maxRecDepth 20000 in
theorem ggX9_soonest_X9_isSuitor : GoodIn wsX9_soonest wsX9_isSuitor := goodIn_r _ [9, 10, 3, 130, 131, 132, 133, 134, 135, 136, 137, 138, 139, 140, 141, 142, 143, 144, 145, 156, 157, 158, 159, 160, 161, 162, 163, 164, 165, 166, 167] (by decide +kernel) (by decide +kernel)
set_option maxRecDepth 20000 in
theorem gX9_soonest_X9_isSuitor : GoodIn wsX9_soonest (wsV RX9 219 RX9 yX9_isSuitor wsX9_isSuitor) := goodIn_app (goodIn_of _ (by decide +kernel)) ggX9_soonest_X9_isSuitor
set_option maxRecDepth 20000 in
theorem ggX9_soonest_X9_isHabit : GoodIn wsX9_soonest wsX9_isHabit := goodIn_r _ [13, 14, 15, 8, 16] (by decide +kernel) (by decide +kernel)
set_option maxRecDepth 20000 in
theorem gX9_soonest_X9_isHabit : GoodIn wsX9_soonest (va_wsS RX9 239 yX9_isHabit wsX9_isHabit) := goodIn_app (goodIn_of _ (by decide +kernel)) ggX9_soonest_X9_isHabit
set_option maxRecDepth 20000 in
theorem ggX9_soonest_X9_isWithin : GoodIn wsX9_soonest wsX9_isWithin := goodIn_r _ [16] (by decide +kernel) (by decide +kernel)
set_option maxRecDepth 20000 in
theorem gX9_soonest_X9_isWithin : GoodIn wsX9_soonest (va_wsS RX9 91 yX9_isWithin wsX9_isWithin) := goodIn_app (goodIn_of _ (by decide +kernel)) ggX9_soonest_X9_isWithin
set_option maxRecDepth 20000 in
theorem ggX9_soonest_X7_findSoonest : GoodIn wsX9_soonest wsX7_findSoonest := goodIn_r _ [21, 22, 23, 24, 25, 26, 27, 28, 29, 30, 31, 32, 33, 34, 35, 36, 37, 38, 39, 40, 41, 42, 43, 44, 45, 46, 47, 48, 49, 50, 51, 52, 53, 54, 55, 56, 57, 58, 59, 60, 61, 62, 63, 64, 65, 66, 20, 67, 68, 69, 70, 71, 72, 73, 74, 75, 76, 77, 78, 79, 80, 81, 82, 83, 84, 85, 86, 87, 88, 89, 90, 91, 92, 93, 94, 95, 96, 97, 98, 99, 100, 101, 102, 103, 104, 105, 106, 107, 108, 109, 110, 111, 112, 113, 114, 115, 116, 117, 118, 119, 120, 121, 122, 123, 124, 125, 126, 127, 128, 129, 146, 147, 148, 149, 150, 151, 152, 153, 154, 155, 156, 157, 158, 159, 160, 161, 162, 163, 164, 165, 166, 167, 168, 169, 170, 171, 172, 173, 174, 175, 176, 177] (by decide +kernel) (by decide +kernel)
set_option maxRecDepth 20000 in
theorem gX9_soonest_X7_findSoonest : GoodIn wsX9_soonest (wsV RX9 268 RX7 yX7_findSoonest wsX7_findSoonest) := goodIn_app (goodIn_of _ (by decide +kernel)) ggX9_soonest_X7_findSoonest
theorem dX9_soonest_0 : decode cX9_soonest 0 = .ok (.aload_n 0, 1) := by decide +kernel
theorem dX9_soonest_1 : decode cX9_soonest 1 = .ok (.iload_n 1, 1) := by decide +kernel
theorem dX9_soonest_2 : decode cX9_soonest 2 = .ok (.invokevirtual 219, 3) := by decide +kernel
theorem dX9_soonest_5 : decode cX9_soonest 5 = .ok (.ifCond .eq 20, 3) := by decide +kernel
theorem dX9_soonest_8 : decode cX9_soonest 8 = .ok (.iload_n 2, 1) := by decide +kernel
theorem dX9_soonest_9 : decode cX9_soonest 9 = .ok (.iload_n 3, 1) := by decide +kernel
theorem dX9_soonest_10 : decode cX9_soonest 10 = .ok (.invokestatic 239, 3) := by decide +kernel
theorem dX9_soonest_13 : decode cX9_soonest 13 = .ok (.ifCond .eq 12, 3) := by decide +kernel
theorem dX9_soonest_16 : decode cX9_soonest 16 = .ok (.iload 4, 2) := by decide +kernel
theorem dX9_soonest_18 : decode cX9_soonest 18 = .ok (.iconst 1, 1) := by decide +kernel
theorem dX9_soonest_19 : decode cX9_soonest 19 = .ok (.invokestatic 91, 3) := by decide +kernel
theorem dX9_soonest_22 : decode cX9_soonest 22 = .ok (.ifCond .ne 6, 3) := by decide +kernel
theorem dX9_soonest_25 : decode cX9_soonest 25 = .ok (.ldc 95, 2) := by decide +kernel
theorem dX9_soonest_27 : decode cX9_soonest 27 = .ok (.ireturn, 1) := by decide +kernel
theorem dX9_soonest_28 : decode cX9_soonest 28 = .ok (.aload_n 0, 1) := by decide +kernel
theorem dX9_soonest_29 : decode cX9_soonest 29 = .ok (.getfield 61, 3) := by decide +kernel
theorem dX9_soonest_32 : decode cX9_soonest 32 = .ok (.aload_n 0, 1) := by decide +kernel
theorem dX9_soonest_33 : decode cX9_soonest 33 = .ok (.getfield 25, 3) := by decide +kernel
theorem dX9_soonest_36 : decode cX9_soonest 36 = .ok (.aload_n 0, 1) := by decide +kernel
theorem dX9_soonest_37 : decode cX9_soonest 37 = .ok (.getfield 35, 3) := by decide +kernel
theorem dX9_soonest_40 : decode cX9_soonest 40 = .ok (.iload_n 1, 1) := by decide +kernel
theorem dX9_soonest_41 : decode cX9_soonest 41 = .ok (.iload_n 2, 1) := by decide +kernel
theorem dX9_soonest_42 : decode cX9_soonest 42 = .ok (.iload_n 3, 1) := by decide +kernel
theorem dX9_soonest_43 : decode cX9_soonest 43 = .ok (.invokevirtual 268, 3) := by decide +kernel
theorem dX9_soonest_46 : decode cX9_soonest 46 = .ok (.iload 4, 2) := by decide +kernel
theorem dX9_soonest_48 : decode cX9_soonest 48 = .ok (.ifCond .ne 13, 3) := by decide +kernel
theorem dX9_soonest_51 : decode cX9_soonest 51 = .ok (.aload_n 0, 1) := by decide +kernel
theorem dX9_soonest_52 : decode cX9_soonest 52 = .ok (.getfield 61, 3) := by decide +kernel
theorem dX9_soonest_55 : decode cX9_soonest 55 = .ok (.getfield 272, 3) := by decide +kernel
theorem dX9_soonest_58 : decode cX9_soonest 58 = .ok (.goto 10, 3) := by decide +kernel
theorem dX9_soonest_61 : decode cX9_soonest 61 = .ok (.aload_n 0, 1) := by decide +kernel
theorem dX9_soonest_62 : decode cX9_soonest 62 = .ok (.getfield 61, 3) := by decide +kernel
theorem dX9_soonest_65 : decode cX9_soonest 65 = .ok (.getfield 275, 3) := by decide +kernel
theorem dX9_soonest_68 : decode cX9_soonest 68 = .ok (.ireturn, 1) := by decide +kernel
set_option maxRecDepth 20000 in
theorem ggX9_twice_X9_isWithin : GoodIn wsX9_twice wsX9_isWithin := goodIn_r _ [9] (by decide +kernel) (by decide +kernel)
set_option maxRecDepth 20000 in
theorem gX9_twice_X9_isWithin : GoodIn wsX9_twice (va_wsS RX9 91 yX9_isWithin wsX9_isWithin) := goodIn_app (goodIn_of _ (by decide +kernel)) ggX9_twice_X9_isWithin
set_option maxRecDepth 20000 in
theorem ggX9_twice_X8_find : GoodIn wsX9_twice wsX8_find := goodIn_r _ [14, 15, 16, 17, 18, 19, 20, 13, 21, 22, 23, 24, 25, 26, 27, 28, 29, 46, 47, 48, 49, 50, 51, 52, 53, 54, 55, 56, 57, 58, 59, 60] (by decide +kernel) (by decide +kernel)
set_option maxRecDepth 20000 in
theorem gX9_twice_X8_find : GoodIn wsX9_twice (wsV RX9 278 RX8 yX8_find wsX8_find) := goodIn_app (goodIn_of _ (by decide +kernel)) ggX9_twice_X8_find
theorem dX9_twice_0 : decode cX9_twice 0 = .ok (.aload_n 0, 1) := by decide +kernel
theorem dX9_twice_1 : decode cX9_twice 1 = .ok (.getfield 153, 3) := by decide +kernel
theorem dX9_twice_4 : decode cX9_twice 4 = .ok (.ifCond .ne 6, 3) := by decide +kernel
theorem dX9_twice_7 : decode cX9_twice 7 = .ok (.ldc 166, 2) := by decide +kernel
theorem dX9_twice_9 : decode cX9_twice 9 = .ok (.ireturn, 1) := by decide +kernel
theorem dX9_twice_10 : decode cX9_twice 10 = .ok (.iload_n 1, 1) := by decide +kernel
theorem dX9_twice_11 : decode cX9_twice 11 = .ok (.iconst 2, 1) := by decide +kernel
theorem dX9_twice_12 : decode cX9_twice 12 = .ok (.invokestatic 91, 3) := by decide +kernel
theorem dX9_twice_15 : decode cX9_twice 15 = .ok (.ifCond .ne 6, 3) := by decide +kernel
theorem dX9_twice_18 : decode cX9_twice 18 = .ok (.ldc 95, 2) := by decide +kernel
theorem dX9_twice_20 : decode cX9_twice 20 = .ok (.ireturn, 1) := by decide +kernel
theorem dX9_twice_21 : decode cX9_twice 21 = .ok (.aload_n 0, 1) := by decide +kernel
theorem dX9_twice_22 : decode cX9_twice 22 = .ok (.getfield 68, 3) := by decide +kernel
theorem dX9_twice_25 : decode cX9_twice 25 = .ok (.aload_n 0, 1) := by decide +kernel
theorem dX9_twice_26 : decode cX9_twice 26 = .ok (.getfield 25, 3) := by decide +kernel
theorem dX9_twice_29 : decode cX9_twice 29 = .ok (.invokevirtual 278, 3) := by decide +kernel
theorem dX9_twice_32 : decode cX9_twice 32 = .ok (.iload_n 1, 1) := by decide +kernel
theorem dX9_twice_33 : decode cX9_twice 33 = .ok (.lookupswitch 43 #[(0, 27), (1, 35)], 27) := by decide +kernel
theorem dX9_twice_60 : decode cX9_twice 60 = .ok (.aload_n 0, 1) := by decide +kernel
theorem dX9_twice_61 : decode cX9_twice 61 = .ok (.getfield 68, 3) := by decide +kernel
theorem dX9_twice_64 : decode cX9_twice 64 = .ok (.getfield 281, 3) := by decide +kernel
theorem dX9_twice_67 : decode cX9_twice 67 = .ok (.ireturn, 1) := by decide +kernel
theorem dX9_twice_68 : decode cX9_twice 68 = .ok (.aload_n 0, 1) := by decide +kernel
theorem dX9_twice_69 : decode cX9_twice 69 = .ok (.getfield 68, 3) := by decide +kernel
theorem dX9_twice_72 : decode cX9_twice 72 = .ok (.getfield 282, 3) := by decide +kernel
theorem dX9_twice_75 : decode cX9_twice 75 = .ok (.ireturn, 1) := by decide +kernel
theorem dX9_twice_76 : decode cX9_twice 76 = .ok (.aload_n 0, 1) := by decide +kernel
theorem dX9_twice_77 : decode cX9_twice 77 = .ok (.getfield 68, 3) := by decide +kernel
theorem dX9_twice_80 : decode cX9_twice 80 = .ok (.getfield 285, 3) := by decide +kernel
theorem dX9_twice_83 : decode cX9_twice 83 = .ok (.ireturn, 1) := by decide +kernel
set_option maxRecDepth 20000 in
theorem ggX9_looks_X3_lengthsThatLookAs : GoodIn wsX9_looks wsX3_lengthsThatLookAs := goodIn_r _ [11, 12, 13, 14, 15, 10, 16, 17, 18, 19, 20, 21, 22, 23, 50, 51, 52, 53, 54, 55, 56, 57, 58, 59, 60, 61] (by decide +kernel) (by decide +kernel)
set_option maxRecDepth 20000 in
theorem gX9_looks_X3_lengthsThatLookAs : GoodIn wsX9_looks (wsV RX9 288 RX3 yX3_lengthsThatLookAs wsX3_lengthsThatLookAs) := goodIn_app (goodIn_of _ (by decide +kernel)) ggX9_looks_X3_lengthsThatLookAs
theorem dX9_looks_0 : decode cX9_looks 0 = .ok (.aload_n 0, 1) := by decide +kernel
theorem dX9_looks_1 : decode cX9_looks 1 = .ok (.getfield 153, 3) := by decide +kernel
theorem dX9_looks_4 : decode cX9_looks 4 = .ok (.ifCond .ne 6, 3) := by decide +kernel
theorem dX9_looks_7 : decode cX9_looks 7 = .ok (.ldc 166, 2) := by decide +kernel
theorem dX9_looks_9 : decode cX9_looks 9 = .ok (.ireturn, 1) := by decide +kernel
theorem dX9_looks_10 : decode cX9_looks 10 = .ok (.iload_n 1, 1) := by decide +kernel
theorem dX9_looks_11 : decode cX9_looks 11 = .ok (.ifCond .ge 6, 3) := by decide +kernel
theorem dX9_looks_14 : decode cX9_looks 14 = .ok (.ldc 95, 2) := by decide +kernel
theorem dX9_looks_16 : decode cX9_looks 16 = .ok (.ireturn, 1) := by decide +kernel
theorem dX9_looks_17 : decode cX9_looks 17 = .ok (.iload_n 1, 1) := by decide +kernel
theorem dX9_looks_18 : decode cX9_looks 18 = .ok (.aload_n 0, 1) := by decide +kernel
theorem dX9_looks_19 : decode cX9_looks 19 = .ok (.getfield 35, 3) := by decide +kernel
theorem dX9_looks_22 : decode cX9_looks 22 = .ok (.getfield 173, 3) := by decide +kernel
theorem dX9_looks_25 : decode cX9_looks 25 = .ok (.if_icmp .le 6, 3) := by decide +kernel
theorem dX9_looks_28 : decode cX9_looks 28 = .ok (.ldc 238, 2) := by decide +kernel
theorem dX9_looks_30 : decode cX9_looks 30 = .ok (.ireturn, 1) := by decide +kernel
theorem dX9_looks_31 : decode cX9_looks 31 = .ok (.aload_n 0, 1) := by decide +kernel
theorem dX9_looks_32 : decode cX9_looks 32 = .ok (.getfield 25, 3) := by decide +kernel
theorem dX9_looks_35 : decode cX9_looks 35 = .ok (.aload_n 0, 1) := by decide +kernel
theorem dX9_looks_36 : decode cX9_looks 36 = .ok (.getfield 35, 3) := by decide +kernel
theorem dX9_looks_39 : decode cX9_looks 39 = .ok (.getfield 173, 3) := by decide +kernel
theorem dX9_looks_42 : decode cX9_looks 42 = .ok (.iload_n 1, 1) := by decide +kernel
theorem dX9_looks_43 : decode cX9_looks 43 = .ok (.invokevirtual 288, 3) := by decide +kernel
theorem dX9_looks_46 : decode cX9_looks 46 = .ok (.ireturn, 1) := by decide +kernel
set_option maxRecDepth 20000 in
theorem ggX9_seen_X9_isRow : GoodIn wsX9_seen wsX9_isRow := goodIn_r _ [12] (by decide +kernel) (by decide +kernel)
set_option maxRecDepth 20000 in
theorem gX9_seen_X9_isRow : GoodIn wsX9_seen (va_wsS RX9 87 yX9_isRow wsX9_isRow) := goodIn_app (goodIn_of _ (by decide +kernel)) ggX9_seen_X9_isRow
set_option maxRecDepth 20000 in
theorem ggX9_seen_X9_isWithin : GoodIn wsX9_seen wsX9_isWithin := goodIn_r _ [15] (by decide +kernel) (by decide +kernel)
set_option maxRecDepth 20000 in
theorem gX9_seen_X9_isWithin : GoodIn wsX9_seen (va_wsS RX9 91 yX9_isWithin wsX9_isWithin) := goodIn_app (goodIn_of _ (by decide +kernel)) ggX9_seen_X9_isWithin
set_option maxRecDepth 20000 in
theorem ggX9_seen_X9_found : GoodIn wsX9_seen wsX9_found := goodIn_r _ [19, 20, 21, 63, 64, 65, 66, 67, 68, 69, 70, 71, 72, 73, 74, 75, 76, 77, 78] (by decide +kernel) (by decide +kernel)
set_option maxRecDepth 20000 in
theorem gX9_seen_X9_found : GoodIn wsX9_seen (wsV RX9 96 RX9 yX9_found wsX9_found) := goodIn_app (goodIn_of _ (by decide +kernel)) ggX9_seen_X9_found
set_option maxRecDepth 20000 in
theorem ggX9_seen_X6_hasStretch : GoodIn wsX9_seen wsX6_hasStretch := goodIn_r _ [26, 27, 79, 80, 81, 82] (by decide +kernel) (by decide +kernel)
set_option maxRecDepth 20000 in
theorem gX9_seen_X6_hasStretch : GoodIn wsX9_seen (wsV RX9 111 RX6 yX6_hasStretch wsX6_hasStretch) := goodIn_app (goodIn_of _ (by decide +kernel)) ggX9_seen_X6_hasStretch
set_option maxRecDepth 20000 in
theorem ggX9_seen_X6_areWithin : GoodIn wsX9_seen wsX6_areWithin := goodIn_r _ [31, 32, 79, 80, 81, 82] (by decide +kernel) (by decide +kernel)
set_option maxRecDepth 20000 in
theorem gX9_seen_X6_areWithin : GoodIn wsX9_seen (wsV RX9 291 RX6 yX6_areWithin wsX6_areWithin) := goodIn_app (goodIn_of _ (by decide +kernel)) ggX9_seen_X6_areWithin
set_option maxRecDepth 20000 in
theorem ggX9_seen_X2_explain : GoodIn wsX9_seen wsX2_explain := goodIn_r _ [37, 38, 39, 40, 14, 11, 15, 41, 42, 43, 44, 45, 46, 47, 48, 49, 50, 51, 52, 53, 54, 55, 56, 57, 36, 58, 79, 80, 81, 82, 98, 99, 100, 101, 102, 103, 104, 105, 106, 107, 95, 96, 97, 83, 84, 85, 86, 87, 88, 89, 90, 91, 92, 93, 94] (by decide +kernel) (by decide +kernel)
set_option maxRecDepth 20000 in
theorem gX9_seen_X2_explain : GoodIn wsX9_seen (wsV RX9 295 RX2 yX2_explain wsX2_explain) := goodIn_app (goodIn_of _ (by decide +kernel)) ggX9_seen_X2_explain
set_option maxRecDepth 20000 in
theorem ggX9_seen_X9_fine : GoodIn wsX9_seen wsX9_fine := goodIn_r _ [62, 20, 63, 64, 65, 66, 67, 68, 69, 70, 71, 72, 73, 74, 75, 76, 77, 78] (by decide +kernel) (by decide +kernel)
set_option maxRecDepth 20000 in
theorem gX9_seen_X9_fine : GoodIn wsX9_seen (wsV RX9 104 RX9 yX9_fine wsX9_fine) := goodIn_app (goodIn_of _ (by decide +kernel)) ggX9_seen_X9_fine
theorem dX9_seen_0 : decode cX9_seen 0 = .ok (.aload_n 0, 1) := by decide +kernel
theorem dX9_seen_1 : decode cX9_seen 1 = .ok (.getfield 153, 3) := by decide +kernel
theorem dX9_seen_4 : decode cX9_seen 4 = .ok (.ifCond .ne 6, 3) := by decide +kernel
theorem dX9_seen_7 : decode cX9_seen 7 = .ok (.ldc 166, 2) := by decide +kernel
theorem dX9_seen_9 : decode cX9_seen 9 = .ok (.ireturn, 1) := by decide +kernel
theorem dX9_seen_10 : decode cX9_seen 10 = .ok (.iload_n 1, 1) := by decide +kernel
theorem dX9_seen_11 : decode cX9_seen 11 = .ok (.invokestatic 87, 3) := by decide +kernel
theorem dX9_seen_14 : decode cX9_seen 14 = .ok (.ifCond .eq 23, 3) := by decide +kernel
theorem dX9_seen_17 : decode cX9_seen 17 = .ok (.iload_n 3, 1) := by decide +kernel
theorem dX9_seen_18 : decode cX9_seen 18 = .ok (.iconst 1, 1) := by decide +kernel
theorem dX9_seen_19 : decode cX9_seen 19 = .ok (.if_icmp .lt 18, 3) := by decide +kernel
theorem dX9_seen_22 : decode cX9_seen 22 = .ok (.iload_n 3, 1) := by decide +kernel
theorem dX9_seen_23 : decode cX9_seen 23 = .ok (.bipush 8, 2) := by decide +kernel
theorem dX9_seen_25 : decode cX9_seen 25 = .ok (.if_icmp .gt 12, 3) := by decide +kernel
theorem dX9_seen_28 : decode cX9_seen 28 = .ok (.iload 4, 2) := by decide +kernel
theorem dX9_seen_30 : decode cX9_seen 30 = .ok (.iconst 2, 1) := by decide +kernel
theorem dX9_seen_31 : decode cX9_seen 31 = .ok (.invokestatic 91, 3) := by decide +kernel
theorem dX9_seen_34 : decode cX9_seen 34 = .ok (.ifCond .ne 6, 3) := by decide +kernel
theorem dX9_seen_37 : decode cX9_seen 37 = .ok (.ldc 95, 2) := by decide +kernel
theorem dX9_seen_39 : decode cX9_seen 39 = .ok (.ireturn, 1) := by decide +kernel
theorem dX9_seen_40 : decode cX9_seen 40 = .ok (.aload_n 0, 1) := by decide +kernel
theorem dX9_seen_41 : decode cX9_seen 41 = .ok (.getfield 11, 3) := by decide +kernel
theorem dX9_seen_44 : decode cX9_seen 44 = .ok (.iload_n 1, 1) := by decide +kernel
theorem dX9_seen_45 : decode cX9_seen 45 = .ok (.aaload, 1) := by decide +kernel
theorem dX9_seen_46 : decode cX9_seen 46 = .ok (.astore 5, 2) := by decide +kernel
theorem dX9_seen_48 : decode cX9_seen 48 = .ok (.aload 5, 2) := by decide +kernel
theorem dX9_seen_50 : decode cX9_seen 50 = .ok (.getfield 107, 3) := by decide +kernel
theorem dX9_seen_53 : decode cX9_seen 53 = .ok (.ifCond .ne 9, 3) := by decide +kernel
theorem dX9_seen_56 : decode cX9_seen 56 = .ok (.aload_n 0, 1) := by decide +kernel
theorem dX9_seen_57 : decode cX9_seen 57 = .ok (.iconst 1, 1) := by decide +kernel
theorem dX9_seen_58 : decode cX9_seen 58 = .ok (.invokevirtual 96, 3) := by decide +kernel
theorem dX9_seen_61 : decode cX9_seen 61 = .ok (.ireturn, 1) := by decide +kernel
theorem dX9_seen_62 : decode cX9_seen 62 = .ok (.aload 5, 2) := by decide +kernel
theorem dX9_seen_64 : decode cX9_seen 64 = .ok (.iload_n 2, 1) := by decide +kernel
theorem dX9_seen_65 : decode cX9_seen 65 = .ok (.iload_n 3, 1) := by decide +kernel
theorem dX9_seen_66 : decode cX9_seen 66 = .ok (.invokevirtual 111, 3) := by decide +kernel
theorem dX9_seen_69 : decode cX9_seen 69 = .ok (.ifCond .ne 9, 3) := by decide +kernel
theorem dX9_seen_72 : decode cX9_seen 72 = .ok (.aload_n 0, 1) := by decide +kernel
theorem dX9_seen_73 : decode cX9_seen 73 = .ok (.iconst 2, 1) := by decide +kernel
theorem dX9_seen_74 : decode cX9_seen 74 = .ok (.invokevirtual 96, 3) := by decide +kernel
theorem dX9_seen_77 : decode cX9_seen 77 = .ok (.ireturn, 1) := by decide +kernel
theorem dX9_seen_78 : decode cX9_seen 78 = .ok (.aload 5, 2) := by decide +kernel
theorem dX9_seen_80 : decode cX9_seen 80 = .ok (.iload_n 2, 1) := by decide +kernel
theorem dX9_seen_81 : decode cX9_seen 81 = .ok (.iload_n 3, 1) := by decide +kernel
theorem dX9_seen_82 : decode cX9_seen 82 = .ok (.aload_n 0, 1) := by decide +kernel
theorem dX9_seen_83 : decode cX9_seen 83 = .ok (.getfield 25, 3) := by decide +kernel
theorem dX9_seen_86 : decode cX9_seen 86 = .ok (.getfield 170, 3) := by decide +kernel
theorem dX9_seen_89 : decode cX9_seen 89 = .ok (.invokevirtual 291, 3) := by decide +kernel
theorem dX9_seen_92 : decode cX9_seen 92 = .ok (.ifCond .ne 6, 3) := by decide +kernel
theorem dX9_seen_95 : decode cX9_seen 95 = .ok (.ldc 95, 2) := by decide +kernel
theorem dX9_seen_97 : decode cX9_seen 97 = .ok (.ireturn, 1) := by decide +kernel
theorem dX9_seen_98 : decode cX9_seen 98 = .ok (.aload_n 0, 1) := by decide +kernel
theorem dX9_seen_99 : decode cX9_seen 99 = .ok (.getfield 75, 3) := by decide +kernel
theorem dX9_seen_102 : decode cX9_seen 102 = .ok (.aload_n 0, 1) := by decide +kernel
theorem dX9_seen_103 : decode cX9_seen 103 = .ok (.getfield 25, 3) := by decide +kernel
theorem dX9_seen_106 : decode cX9_seen 106 = .ok (.aload_n 0, 1) := by decide +kernel
theorem dX9_seen_107 : decode cX9_seen 107 = .ok (.getfield 35, 3) := by decide +kernel
theorem dX9_seen_110 : decode cX9_seen 110 = .ok (.aload 5, 2) := by decide +kernel
theorem dX9_seen_112 : decode cX9_seen 112 = .ok (.iload_n 2, 1) := by decide +kernel
theorem dX9_seen_113 : decode cX9_seen 113 = .ok (.iload_n 3, 1) := by decide +kernel
theorem dX9_seen_114 : decode cX9_seen 114 = .ok (.invokevirtual 295, 3) := by decide +kernel
theorem dX9_seen_117 : decode cX9_seen 117 = .ok (.iload 4, 2) := by decide +kernel
theorem dX9_seen_119 : decode cX9_seen 119 = .ok (.ifCond .ne 15, 3) := by decide +kernel
theorem dX9_seen_122 : decode cX9_seen 122 = .ok (.aload_n 0, 1) := by decide +kernel
theorem dX9_seen_123 : decode cX9_seen 123 = .ok (.aload_n 0, 1) := by decide +kernel
theorem dX9_seen_124 : decode cX9_seen 124 = .ok (.getfield 75, 3) := by decide +kernel
theorem dX9_seen_127 : decode cX9_seen 127 = .ok (.getfield 299, 3) := by decide +kernel
theorem dX9_seen_130 : decode cX9_seen 130 = .ok (.invokevirtual 104, 3) := by decide +kernel
theorem dX9_seen_133 : decode cX9_seen 133 = .ok (.ireturn, 1) := by decide +kernel
theorem dX9_seen_134 : decode cX9_seen 134 = .ok (.aload_n 0, 1) := by decide +kernel
theorem dX9_seen_135 : decode cX9_seen 135 = .ok (.getfield 75, 3) := by decide +kernel
theorem dX9_seen_138 : decode cX9_seen 138 = .ok (.getfield 299, 3) := by decide +kernel
theorem dX9_seen_141 : decode cX9_seen 141 = .ok (.ifCond .ne 10, 3) := by decide +kernel
theorem dX9_seen_144 : decode cX9_seen 144 = .ok (.aload_n 0, 1) := by decide +kernel
theorem dX9_seen_145 : decode cX9_seen 145 = .ok (.ldc 238, 2) := by decide +kernel
theorem dX9_seen_147 : decode cX9_seen 147 = .ok (.invokevirtual 104, 3) := by decide +kernel
theorem dX9_seen_150 : decode cX9_seen 150 = .ok (.ireturn, 1) := by decide +kernel
theorem dX9_seen_151 : decode cX9_seen 151 = .ok (.aload_n 0, 1) := by decide +kernel
theorem dX9_seen_152 : decode cX9_seen 152 = .ok (.iload 4, 2) := by decide +kernel
theorem dX9_seen_154 : decode cX9_seen 154 = .ok (.iconst 1, 1) := by decide +kernel
theorem dX9_seen_155 : decode cX9_seen 155 = .ok (.if_icmp .ne 13, 3) := by decide +kernel
theorem dX9_seen_158 : decode cX9_seen 158 = .ok (.aload_n 0, 1) := by decide +kernel
theorem dX9_seen_159 : decode cX9_seen 159 = .ok (.getfield 75, 3) := by decide +kernel
theorem dX9_seen_162 : decode cX9_seen 162 = .ok (.getfield 302, 3) := by decide +kernel
theorem dX9_seen_165 : decode cX9_seen 165 = .ok (.goto 10, 3) := by decide +kernel
theorem dX9_seen_168 : decode cX9_seen 168 = .ok (.aload_n 0, 1) := by decide +kernel
theorem dX9_seen_169 : decode cX9_seen 169 = .ok (.getfield 75, 3) := by decide +kernel
theorem dX9_seen_172 : decode cX9_seen 172 = .ok (.getfield 305, 3) := by decide +kernel
theorem dX9_seen_175 : decode cX9_seen 175 = .ok (.invokevirtual 104, 3) := by decide +kernel
theorem dX9_seen_178 : decode cX9_seen 178 = .ok (.ireturn, 1) := by decide +kernel
set_option maxRecDepth 20000 in
theorem ggX9_image_X9_isWithin : GoodIn wsX9_image wsX9_isWithin := goodIn_r _ [12] (by decide +kernel) (by decide +kernel)
set_option maxRecDepth 20000 in
theorem gX9_image_X9_isWithin : GoodIn wsX9_image (va_wsS RX9 91 yX9_isWithin wsX9_isWithin) := goodIn_app (goodIn_of _ (by decide +kernel)) ggX9_image_X9_isWithin
set_option maxRecDepth 20000 in
theorem ggX9_image_X3_become : GoodIn wsX9_image wsX3_become := goodIn_r _ [17, 18, 19, 20, 21, 22, 23, 24, 25, 26, 27, 28, 29, 30, 31, 32, 33, 66, 67, 68, 69, 70, 71, 72, 73, 74, 75, 76, 77] (by decide +kernel) (by decide +kernel)
set_option maxRecDepth 20000 in
theorem gX9_image_X3_become : GoodIn wsX9_image (wsV RX9 308 RX3 yX3_become wsX3_become) := goodIn_app (goodIn_of _ (by decide +kernel)) ggX9_image_X3_become
set_option maxRecDepth 20000 in
theorem ggX9_image_X1_become : GoodIn wsX9_image wsX1_become := goodIn_r _ [38, 39, 40, 41, 42, 43, 44, 45, 46, 47, 48, 28, 29, 30, 49, 78, 79, 80, 81, 82, 83, 84, 85, 86, 87] (by decide +kernel) (by decide +kernel)
set_option maxRecDepth 20000 in
theorem gX9_image_X1_become : GoodIn wsX9_image (wsV RX9 311 RX1 yX1_become wsX1_become) := goodIn_app (goodIn_of _ (by decide +kernel)) ggX9_image_X1_become
theorem dX9_image_0 : decode cX9_image 0 = .ok (.iload_n 1, 1) := by decide +kernel
theorem dX9_image_1 : decode cX9_image 1 = .ok (.iconst 1, 1) := by decide +kernel
theorem dX9_image_2 : decode cX9_image 2 = .ok (.invokestatic 91, 3) := by decide +kernel
theorem dX9_image_5 : decode cX9_image 5 = .ok (.ifCond .ne 6, 3) := by decide +kernel
theorem dX9_image_8 : decode cX9_image 8 = .ok (.ldc 95, 2) := by decide +kernel
theorem dX9_image_10 : decode cX9_image 10 = .ok (.ireturn, 1) := by decide +kernel
theorem dX9_image_11 : decode cX9_image 11 = .ok (.aload_n 0, 1) := by decide +kernel
theorem dX9_image_12 : decode cX9_image 12 = .ok (.getfield 153, 3) := by decide +kernel
theorem dX9_image_15 : decode cX9_image 15 = .ok (.ifCond .ne 6, 3) := by decide +kernel
theorem dX9_image_18 : decode cX9_image 18 = .ok (.ldc 166, 2) := by decide +kernel
theorem dX9_image_20 : decode cX9_image 20 = .ok (.ireturn, 1) := by decide +kernel
theorem dX9_image_21 : decode cX9_image 21 = .ok (.aload_n 0, 1) := by decide +kernel
theorem dX9_image_22 : decode cX9_image 22 = .ok (.getfield 46, 3) := by decide +kernel
theorem dX9_image_25 : decode cX9_image 25 = .ok (.iload_n 1, 1) := by decide +kernel
theorem dX9_image_26 : decode cX9_image 26 = .ok (.aaload, 1) := by decide +kernel
theorem dX9_image_27 : decode cX9_image 27 = .ok (.aload_n 0, 1) := by decide +kernel
theorem dX9_image_28 : decode cX9_image 28 = .ok (.getfield 25, 3) := by decide +kernel
theorem dX9_image_31 : decode cX9_image 31 = .ok (.invokevirtual 308, 3) := by decide +kernel
theorem dX9_image_34 : decode cX9_image 34 = .ok (.aload_n 0, 1) := by decide +kernel
theorem dX9_image_35 : decode cX9_image 35 = .ok (.getfield 50, 3) := by decide +kernel
theorem dX9_image_38 : decode cX9_image 38 = .ok (.iload_n 1, 1) := by decide +kernel
theorem dX9_image_39 : decode cX9_image 39 = .ok (.aaload, 1) := by decide +kernel
theorem dX9_image_40 : decode cX9_image 40 = .ok (.aload_n 0, 1) := by decide +kernel
theorem dX9_image_41 : decode cX9_image 41 = .ok (.getfield 35, 3) := by decide +kernel
theorem dX9_image_44 : decode cX9_image 44 = .ok (.invokevirtual 311, 3) := by decide +kernel
theorem dX9_image_47 : decode cX9_image 47 = .ok (.aload_n 0, 1) := by decide +kernel
theorem dX9_image_48 : decode cX9_image 48 = .ok (.getfield 54, 3) := by decide +kernel
theorem dX9_image_51 : decode cX9_image 51 = .ok (.iload_n 1, 1) := by decide +kernel
theorem dX9_image_52 : decode cX9_image 52 = .ok (.iconst 1, 1) := by decide +kernel
theorem dX9_image_53 : decode cX9_image 53 = .ok (.bastore, 1) := by decide +kernel
theorem dX9_image_54 : decode cX9_image 54 = .ok (.iconst 1, 1) := by decide +kernel
theorem dX9_image_55 : decode cX9_image 55 = .ok (.ireturn, 1) := by decide +kernel
set_option maxRecDepth 20000 in
theorem ggX9_restore_X9_isWithin : GoodIn wsX9_restore wsX9_isWithin := goodIn_r _ [12] (by decide +kernel) (by decide +kernel)
set_option maxRecDepth 20000 in
theorem gX9_restore_X9_isWithin : GoodIn wsX9_restore (va_wsS RX9 91 yX9_isWithin wsX9_isWithin) := goodIn_app (goodIn_of _ (by decide +kernel)) ggX9_restore_X9_isWithin
set_option maxRecDepth 20000 in
theorem ggX9_restore_X3_become : GoodIn wsX9_restore wsX3_become := goodIn_r _ [17, 18, 19, 20, 21, 22, 23, 24, 25, 26, 27, 28, 29, 30, 31, 32, 33, 73, 74, 75, 76, 77, 78, 79, 80, 81, 82, 83, 84] (by decide +kernel) (by decide +kernel)
set_option maxRecDepth 20000 in
theorem gX9_restore_X3_become : GoodIn wsX9_restore (wsV RX9 308 RX3 yX3_become wsX3_become) := goodIn_app (goodIn_of _ (by decide +kernel)) ggX9_restore_X3_become
set_option maxRecDepth 20000 in
theorem ggX9_restore_X1_become : GoodIn wsX9_restore wsX1_become := goodIn_r _ [38, 39, 40, 41, 42, 43, 44, 45, 46, 47, 48, 28, 29, 30, 49, 85, 86, 87, 88, 89, 90, 91, 92, 93, 94] (by decide +kernel) (by decide +kernel)
set_option maxRecDepth 20000 in
theorem gX9_restore_X1_become : GoodIn wsX9_restore (wsV RX9 311 RX1 yX1_become wsX1_become) := goodIn_app (goodIn_of _ (by decide +kernel)) ggX9_restore_X1_become
set_option maxRecDepth 20000 in
theorem ggX9_restore_X4_forget : GoodIn wsX9_restore wsX4_forget := goodIn_r _ [54, 55, 56, 95, 96, 97] (by decide +kernel) (by decide +kernel)
set_option maxRecDepth 20000 in
theorem gX9_restore_X4_forget : GoodIn wsX9_restore (wsV RX9 160 RX4 yX4_forget wsX4_forget) := goodIn_app (goodIn_of _ (by decide +kernel)) ggX9_restore_X4_forget
theorem dX9_restore_0 : decode cX9_restore 0 = .ok (.iload_n 1, 1) := by decide +kernel
theorem dX9_restore_1 : decode cX9_restore 1 = .ok (.iconst 1, 1) := by decide +kernel
theorem dX9_restore_2 : decode cX9_restore 2 = .ok (.invokestatic 91, 3) := by decide +kernel
theorem dX9_restore_5 : decode cX9_restore 5 = .ok (.ifCond .ne 6, 3) := by decide +kernel
theorem dX9_restore_8 : decode cX9_restore 8 = .ok (.ldc 95, 2) := by decide +kernel
theorem dX9_restore_10 : decode cX9_restore 10 = .ok (.ireturn, 1) := by decide +kernel
theorem dX9_restore_11 : decode cX9_restore 11 = .ok (.aload_n 0, 1) := by decide +kernel
theorem dX9_restore_12 : decode cX9_restore 12 = .ok (.getfield 54, 3) := by decide +kernel
theorem dX9_restore_15 : decode cX9_restore 15 = .ok (.iload_n 1, 1) := by decide +kernel
theorem dX9_restore_16 : decode cX9_restore 16 = .ok (.baload, 1) := by decide +kernel
theorem dX9_restore_17 : decode cX9_restore 17 = .ok (.ifCond .ne 6, 3) := by decide +kernel
theorem dX9_restore_20 : decode cX9_restore 20 = .ok (.ldc 166, 2) := by decide +kernel
theorem dX9_restore_22 : decode cX9_restore 22 = .ok (.ireturn, 1) := by decide +kernel
theorem dX9_restore_23 : decode cX9_restore 23 = .ok (.aload_n 0, 1) := by decide +kernel
theorem dX9_restore_24 : decode cX9_restore 24 = .ok (.getfield 25, 3) := by decide +kernel
theorem dX9_restore_27 : decode cX9_restore 27 = .ok (.aload_n 0, 1) := by decide +kernel
theorem dX9_restore_28 : decode cX9_restore 28 = .ok (.getfield 46, 3) := by decide +kernel
theorem dX9_restore_31 : decode cX9_restore 31 = .ok (.iload_n 1, 1) := by decide +kernel
theorem dX9_restore_32 : decode cX9_restore 32 = .ok (.aaload, 1) := by decide +kernel
theorem dX9_restore_33 : decode cX9_restore 33 = .ok (.invokevirtual 308, 3) := by decide +kernel
theorem dX9_restore_36 : decode cX9_restore 36 = .ok (.aload_n 0, 1) := by decide +kernel
theorem dX9_restore_37 : decode cX9_restore 37 = .ok (.getfield 35, 3) := by decide +kernel
theorem dX9_restore_40 : decode cX9_restore 40 = .ok (.aload_n 0, 1) := by decide +kernel
theorem dX9_restore_41 : decode cX9_restore 41 = .ok (.getfield 50, 3) := by decide +kernel
theorem dX9_restore_44 : decode cX9_restore 44 = .ok (.iload_n 1, 1) := by decide +kernel
theorem dX9_restore_45 : decode cX9_restore 45 = .ok (.aaload, 1) := by decide +kernel
theorem dX9_restore_46 : decode cX9_restore 46 = .ok (.invokevirtual 311, 3) := by decide +kernel
theorem dX9_restore_49 : decode cX9_restore 49 = .ok (.aload_n 0, 1) := by decide +kernel
theorem dX9_restore_50 : decode cX9_restore 50 = .ok (.getfield 42, 3) := by decide +kernel
theorem dX9_restore_53 : decode cX9_restore 53 = .ok (.invokevirtual 160, 3) := by decide +kernel
theorem dX9_restore_56 : decode cX9_restore 56 = .ok (.iconst 1, 1) := by decide +kernel
theorem dX9_restore_57 : decode cX9_restore 57 = .ok (.ireturn, 1) := by decide +kernel
set_option maxRecDepth 20000 in
theorem ggX9_kind_X9_isSuitor : GoodIn wsX9_kind wsX9_isSuitor := goodIn_r _ [7, 8, 1, 9, 10, 11, 12, 13, 14, 15, 16, 17, 18, 19, 20, 21, 22, 23, 24, 25, 26, 27, 28, 29, 30, 31, 32, 33, 34, 35, 36] (by decide +kernel) (by decide +kernel)
set_option maxRecDepth 20000 in
theorem gX9_kind_X9_isSuitor : GoodIn wsX9_kind (wsV RX9 219 RX9 yX9_isSuitor wsX9_isSuitor) := goodIn_app (goodIn_of _ (by decide +kernel)) ggX9_kind_X9_isSuitor
theorem dX9_kind_0 : decode cX9_kind 0 = .ok (.aload_n 0, 1) := by decide +kernel
theorem dX9_kind_1 : decode cX9_kind 1 = .ok (.iload_n 1, 1) := by decide +kernel
theorem dX9_kind_2 : decode cX9_kind 2 = .ok (.invokevirtual 219, 3) := by decide +kernel
theorem dX9_kind_5 : decode cX9_kind 5 = .ok (.ifCond .eq 15, 3) := by decide +kernel
theorem dX9_kind_8 : decode cX9_kind 8 = .ok (.aload_n 0, 1) := by decide +kernel
theorem dX9_kind_9 : decode cX9_kind 9 = .ok (.getfield 25, 3) := by decide +kernel
theorem dX9_kind_12 : decode cX9_kind 12 = .ok (.getfield 313, 3) := by decide +kernel
theorem dX9_kind_15 : decode cX9_kind 15 = .ok (.iload_n 1, 1) := by decide +kernel
theorem dX9_kind_16 : decode cX9_kind 16 = .ok (.iaload, 1) := by decide +kernel
theorem dX9_kind_17 : decode cX9_kind 17 = .ok (.goto 5, 3) := by decide +kernel
theorem dX9_kind_20 : decode cX9_kind 20 = .ok (.ldc 95, 2) := by decide +kernel
theorem dX9_kind_22 : decode cX9_kind 22 = .ok (.ireturn, 1) := by decide +kernel
set_option maxRecDepth 20000 in
theorem ggX9_as_X9_isSuitor : GoodIn wsX9_as wsX9_isSuitor := goodIn_r _ [7, 8, 2, 26, 27, 28, 29, 30, 31, 32, 33, 34, 35, 36, 37, 38, 39, 40, 41, 42, 43, 44, 45, 46, 47, 48, 49, 50, 51, 52, 53] (by decide +kernel) (by decide +kernel)
set_option maxRecDepth 20000 in
theorem gX9_as_X9_isSuitor : GoodIn wsX9_as (wsV RX9 219 RX9 yX9_isSuitor wsX9_isSuitor) := goodIn_app (goodIn_of _ (by decide +kernel)) ggX9_as_X9_isSuitor
set_option maxRecDepth 20000 in
theorem ggX9_as_X9_isWithin : GoodIn wsX9_as wsX9_isWithin := goodIn_r _ [11] (by decide +kernel) (by decide +kernel)
set_option maxRecDepth 20000 in
theorem gX9_as_X9_isWithin : GoodIn wsX9_as (va_wsS RX9 91 yX9_isWithin wsX9_isWithin) := goodIn_app (goodIn_of _ (by decide +kernel)) ggX9_as_X9_isWithin
set_option maxRecDepth 20000 in
theorem ggX9_as_X9_isOneOf : GoodIn wsX9_as wsX9_isOneOf := goodIn_r _ [14, 15] (by decide +kernel) (by decide +kernel)
set_option maxRecDepth 20000 in
theorem gX9_as_X9_isOneOf : GoodIn wsX9_as (va_wsS RX9 316 yX9_isOneOf wsX9_isOneOf) := goodIn_app (goodIn_of _ (by decide +kernel)) ggX9_as_X9_isOneOf
set_option maxRecDepth 20000 in
theorem ggX9_as_X9_found : GoodIn wsX9_as wsX9_found := goodIn_r _ [19, 20, 21, 26, 27, 28, 29, 30, 31, 32, 33, 34, 35, 36, 37, 38, 39, 40, 41] (by decide +kernel) (by decide +kernel)
set_option maxRecDepth 20000 in
theorem gX9_as_X9_found : GoodIn wsX9_as (wsV RX9 96 RX9 yX9_found wsX9_found) := goodIn_app (goodIn_of _ (by decide +kernel)) ggX9_as_X9_found
set_option maxRecDepth 20000 in
theorem ggX9_as_X9_fine : GoodIn wsX9_as wsX9_fine := goodIn_r _ [25, 20, 26, 27, 28, 29, 30, 31, 32, 33, 34, 35, 36, 37, 38, 39, 40, 41] (by decide +kernel) (by decide +kernel)
set_option maxRecDepth 20000 in
theorem gX9_as_X9_fine : GoodIn wsX9_as (wsV RX9 104 RX9 yX9_fine wsX9_fine) := goodIn_app (goodIn_of _ (by decide +kernel)) ggX9_as_X9_fine
theorem dX9_as_0 : decode cX9_as 0 = .ok (.aload_n 0, 1) := by decide +kernel
theorem dX9_as_1 : decode cX9_as 1 = .ok (.iload_n 1, 1) := by decide +kernel
theorem dX9_as_2 : decode cX9_as 2 = .ok (.invokevirtual 219, 3) := by decide +kernel
theorem dX9_as_5 : decode cX9_as 5 = .ok (.ifCond .eq 11, 3) := by decide +kernel
theorem dX9_as_8 : decode cX9_as 8 = .ok (.iload_n 2, 1) := by decide +kernel
theorem dX9_as_9 : decode cX9_as 9 = .ok (.iconst 5, 1) := by decide +kernel
theorem dX9_as_10 : decode cX9_as 10 = .ok (.invokestatic 91, 3) := by decide +kernel
theorem dX9_as_13 : decode cX9_as 13 = .ok (.ifCond .ne 6, 3) := by decide +kernel
theorem dX9_as_16 : decode cX9_as 16 = .ok (.ldc 95, 2) := by decide +kernel
theorem dX9_as_18 : decode cX9_as 18 = .ok (.ireturn, 1) := by decide +kernel
theorem dX9_as_19 : decode cX9_as 19 = .ok (.aload_n 0, 1) := by decide +kernel
theorem dX9_as_20 : decode cX9_as 20 = .ok (.getfield 25, 3) := by decide +kernel
theorem dX9_as_23 : decode cX9_as 23 = .ok (.getfield 313, 3) := by decide +kernel
theorem dX9_as_26 : decode cX9_as 26 = .ok (.iload_n 1, 1) := by decide +kernel
theorem dX9_as_27 : decode cX9_as 27 = .ok (.iaload, 1) := by decide +kernel
theorem dX9_as_28 : decode cX9_as 28 = .ok (.iload_n 2, 1) := by decide +kernel
theorem dX9_as_29 : decode cX9_as 29 = .ok (.invokestatic 316, 3) := by decide +kernel
theorem dX9_as_32 : decode cX9_as 32 = .ok (.ifCond .ne 9, 3) := by decide +kernel
theorem dX9_as_35 : decode cX9_as 35 = .ok (.aload_n 0, 1) := by decide +kernel
theorem dX9_as_36 : decode cX9_as 36 = .ok (.iconst 3, 1) := by decide +kernel
theorem dX9_as_37 : decode cX9_as 37 = .ok (.invokevirtual 96, 3) := by decide +kernel
theorem dX9_as_40 : decode cX9_as 40 = .ok (.ireturn, 1) := by decide +kernel
theorem dX9_as_41 : decode cX9_as 41 = .ok (.aload_n 0, 1) := by decide +kernel
theorem dX9_as_42 : decode cX9_as 42 = .ok (.iload_n 1, 1) := by decide +kernel
theorem dX9_as_43 : decode cX9_as 43 = .ok (.invokevirtual 104, 3) := by decide +kernel
theorem dX9_as_46 : decode cX9_as 46 = .ok (.ireturn, 1) := by decide +kernel
set_option maxRecDepth 20000 in
theorem ggX9_ask_X9_isSuitor : GoodIn wsX9_ask wsX9_isSuitor := goodIn_r _ [9, 10, 3, 77, 78, 79, 80, 81, 82, 83, 84, 85, 86, 87, 88, 89, 90, 91, 92, 93, 94, 95, 96, 97, 98, 99, 100, 101, 102, 103, 104] (by decide +kernel) (by decide +kernel)
set_option maxRecDepth 20000 in
theorem gX9_ask_X9_isSuitor : GoodIn wsX9_ask (wsV RX9 219 RX9 yX9_isSuitor wsX9_isSuitor) := goodIn_app (goodIn_of _ (by decide +kernel)) ggX9_ask_X9_isSuitor
set_option maxRecDepth 20000 in
theorem ggX9_ask_X9_isWithin : GoodIn wsX9_ask wsX9_isWithin := goodIn_r _ [13] (by decide +kernel) (by decide +kernel)
set_option maxRecDepth 20000 in
theorem gX9_ask_X9_isWithin : GoodIn wsX9_ask (va_wsS RX9 91 yX9_isWithin wsX9_isWithin) := goodIn_app (goodIn_of _ (by decide +kernel)) ggX9_ask_X9_isWithin
set_option maxRecDepth 20000 in
theorem ggX9_ask_X0_turnTo : GoodIn wsX9_ask wsX0_turnTo := goodIn_r _ [18, 19, 20, 21, 22, 23, 115, 116, 117, 118, 119, 120] (by decide +kernel) (by decide +kernel)
set_option maxRecDepth 20000 in
theorem gX9_ask_X0_turnTo : GoodIn wsX9_ask (wsV RX9 319 RX0 yX0_turnTo wsX0_turnTo) := goodIn_app (goodIn_of _ (by decide +kernel)) ggX9_ask_X0_turnTo
set_option maxRecDepth 20000 in
theorem ggX9_ask_X0_size : GoodIn wsX9_ask wsX0_size := goodIn_r _ [27, 21, 28, 29, 30, 17, 31, 32, 33, 34, 35, 19, 36, 37, 38, 39, 40, 22, 41, 42, 43, 44, 45, 46, 47, 48, 23, 49, 50, 51, 52, 20, 53, 54, 55, 56, 57, 58, 59, 60, 61, 62, 63, 64, 65, 66, 67, 68, 115, 116, 117, 118, 119, 120] (by decide +kernel) (by decide +kernel)
set_option maxRecDepth 20000 in
theorem gX9_ask_X0_size : GoodIn wsX9_ask (wsV RX9 323 RX0 yX0_size wsX0_size) := goodIn_app (goodIn_of _ (by decide +kernel)) ggX9_ask_X0_size
set_option maxRecDepth 20000 in
theorem ggX9_ask_X0_mark : GoodIn wsX9_ask wsX0_mark := goodIn_r _ [72, 21, 45, 46, 47, 17, 48, 23, 32, 33, 34, 35, 19, 36, 49, 50, 51, 52, 20, 41, 42, 43, 44, 53, 54, 55, 56, 73, 74, 75, 76, 65, 66, 67, 68, 61, 62, 63, 64, 37, 38, 39, 40, 22, 115, 116, 117, 118, 119, 120] (by decide +kernel) (by decide +kernel)
set_option maxRecDepth 20000 in
theorem gX9_ask_X0_mark : GoodIn wsX9_ask (wsV RX9 326 RX0 yX0_mark wsX0_mark) := goodIn_app (goodIn_of _ (by decide +kernel)) ggX9_ask_X0_mark
theorem dX9_ask_0 : decode cX9_ask 0 = .ok (.aload_n 0, 1) := by decide +kernel
theorem dX9_ask_1 : decode cX9_ask 1 = .ok (.iload_n 1, 1) := by decide +kernel
theorem dX9_ask_2 : decode cX9_ask 2 = .ok (.invokevirtual 219, 3) := by decide +kernel
theorem dX9_ask_5 : decode cX9_ask 5 = .ok (.ifCond .eq 11, 3) := by decide +kernel
theorem dX9_ask_8 : decode cX9_ask 8 = .ok (.iload_n 2, 1) := by decide +kernel
theorem dX9_ask_9 : decode cX9_ask 9 = .ok (.iconst 1, 1) := by decide +kernel
theorem dX9_ask_10 : decode cX9_ask 10 = .ok (.invokestatic 91, 3) := by decide +kernel
theorem dX9_ask_13 : decode cX9_ask 13 = .ok (.ifCond .ne 6, 3) := by decide +kernel
theorem dX9_ask_16 : decode cX9_ask 16 = .ok (.ldc 95, 2) := by decide +kernel
theorem dX9_ask_18 : decode cX9_ask 18 = .ok (.ireturn, 1) := by decide +kernel
theorem dX9_ask_19 : decode cX9_ask 19 = .ok (.aload_n 0, 1) := by decide +kernel
theorem dX9_ask_20 : decode cX9_ask 20 = .ok (.getfield 82, 3) := by decide +kernel
theorem dX9_ask_23 : decode cX9_ask 23 = .ok (.iload_n 1, 1) := by decide +kernel
theorem dX9_ask_24 : decode cX9_ask 24 = .ok (.aload_n 0, 1) := by decide +kernel
theorem dX9_ask_25 : decode cX9_ask 25 = .ok (.getfield 25, 3) := by decide +kernel
theorem dX9_ask_28 : decode cX9_ask 28 = .ok (.getfield 313, 3) := by decide +kernel
theorem dX9_ask_31 : decode cX9_ask 31 = .ok (.iload_n 1, 1) := by decide +kernel
theorem dX9_ask_32 : decode cX9_ask 32 = .ok (.iaload, 1) := by decide +kernel
theorem dX9_ask_33 : decode cX9_ask 33 = .ok (.aload_n 0, 1) := by decide +kernel
theorem dX9_ask_34 : decode cX9_ask 34 = .ok (.getfield 35, 3) := by decide +kernel
theorem dX9_ask_37 : decode cX9_ask 37 = .ok (.getfield 228, 3) := by decide +kernel
theorem dX9_ask_40 : decode cX9_ask 40 = .ok (.iload_n 1, 1) := by decide +kernel
theorem dX9_ask_41 : decode cX9_ask 41 = .ok (.iaload, 1) := by decide +kernel
theorem dX9_ask_42 : decode cX9_ask 42 = .ok (.aload_n 0, 1) := by decide +kernel
theorem dX9_ask_43 : decode cX9_ask 43 = .ok (.getfield 25, 3) := by decide +kernel
theorem dX9_ask_46 : decode cX9_ask 46 = .ok (.getfield 225, 3) := by decide +kernel
theorem dX9_ask_49 : decode cX9_ask 49 = .ok (.iload_n 1, 1) := by decide +kernel
theorem dX9_ask_50 : decode cX9_ask 50 = .ok (.iaload, 1) := by decide +kernel
theorem dX9_ask_51 : decode cX9_ask 51 = .ok (.invokevirtual 319, 3) := by decide +kernel
theorem dX9_ask_54 : decode cX9_ask 54 = .ok (.iload_n 2, 1) := by decide +kernel
theorem dX9_ask_55 : decode cX9_ask 55 = .ok (.ifCond .ne 13, 3) := by decide +kernel
theorem dX9_ask_58 : decode cX9_ask 58 = .ok (.aload_n 0, 1) := by decide +kernel
theorem dX9_ask_59 : decode cX9_ask 59 = .ok (.getfield 82, 3) := by decide +kernel
theorem dX9_ask_62 : decode cX9_ask 62 = .ok (.invokevirtual 323, 3) := by decide +kernel
theorem dX9_ask_65 : decode cX9_ask 65 = .ok (.goto 10, 3) := by decide +kernel
theorem dX9_ask_68 : decode cX9_ask 68 = .ok (.aload_n 0, 1) := by decide +kernel
theorem dX9_ask_69 : decode cX9_ask 69 = .ok (.getfield 82, 3) := by decide +kernel
theorem dX9_ask_72 : decode cX9_ask 72 = .ok (.invokevirtual 326, 3) := by decide +kernel
theorem dX9_ask_75 : decode cX9_ask 75 = .ok (.ireturn, 1) := by decide +kernel
theorem dX9_trace_0 : decode cX9_trace 0 = .ok (.iload_n 1, 1) := by decide +kernel
theorem dX9_trace_1 : decode cX9_trace 1 = .ok (.ifCond .lt 26, 3) := by decide +kernel
theorem dX9_trace_4 : decode cX9_trace 4 = .ok (.iload_n 1, 1) := by decide +kernel
theorem dX9_trace_5 : decode cX9_trace 5 = .ok (.aload_n 0, 1) := by decide +kernel
theorem dX9_trace_6 : decode cX9_trace 6 = .ok (.getfield 82, 3) := by decide +kernel
theorem dX9_trace_9 : decode cX9_trace 9 = .ok (.getfield 329, 3) := by decide +kernel
theorem dX9_trace_12 : decode cX9_trace 12 = .ok (.if_icmp .ge 15, 3) := by decide +kernel
theorem dX9_trace_15 : decode cX9_trace 15 = .ok (.aload_n 0, 1) := by decide +kernel
theorem dX9_trace_16 : decode cX9_trace 16 = .ok (.getfield 82, 3) := by decide +kernel
theorem dX9_trace_19 : decode cX9_trace 19 = .ok (.getfield 332, 3) := by decide +kernel
theorem dX9_trace_22 : decode cX9_trace 22 = .ok (.iload_n 1, 1) := by decide +kernel
theorem dX9_trace_23 : decode cX9_trace 23 = .ok (.iaload, 1) := by decide +kernel
theorem dX9_trace_24 : decode cX9_trace 24 = .ok (.goto 5, 3) := by decide +kernel
theorem dX9_trace_27 : decode cX9_trace 27 = .ok (.ldc 238, 2) := by decide +kernel
theorem dX9_trace_29 : decode cX9_trace 29 = .ok (.ireturn, 1) := by decide +kernel
set_option maxRecDepth 20000 in
theorem ggX9_count_X9_rowsThere : GoodIn wsX9_count wsX9_rowsThere := goodIn_r _ [11, 12, 23, 24, 25, 26, 27, 28, 29, 30, 31, 32, 33, 34, 35, 36, 37, 38, 71, 72, 73, 74] (by decide +kernel) (by decide +kernel)
set_option maxRecDepth 20000 in
theorem gX9_count_X9_rowsThere : GoodIn wsX9_count (wsV RX9 335 RX9 yX9_rowsThere wsX9_rowsThere) := goodIn_app (goodIn_of _ (by decide +kernel)) ggX9_count_X9_rowsThere
set_option maxRecDepth 20000 in
theorem ggX9_count_X1_whoKnows : GoodIn wsX9_count wsX1_whoKnows := goodIn_r _ [17, 18, 19, 20, 16, 21, 22, 39, 40, 41, 42, 43, 44, 45, 46, 47, 48, 49, 50, 51, 52, 53, 54, 55, 56, 57, 58, 59, 60] (by decide +kernel) (by decide +kernel)
set_option maxRecDepth 20000 in
theorem gX9_count_X1_whoKnows : GoodIn wsX9_count (wsV RX9 341 RX1 yX1_whoKnows wsX1_whoKnows) := goodIn_app (goodIn_of _ (by decide +kernel)) ggX9_count_X1_whoKnows
theorem dX9_count_0 : decode cX9_count 0 = .ok (.iload_n 1, 1) := by decide +kernel
theorem dX9_count_1 : decode cX9_count 1 = .ok (.tableswitch 167 0 7 #[47, 52, 71, 90, 109, 128, 151, 159], 47) := by decide +kernel
theorem dX9_count_48 : decode cX9_count 48 = .ok (.aload_n 0, 1) := by decide +kernel
theorem dX9_count_49 : decode cX9_count 49 = .ok (.invokevirtual 335, 3) := by decide +kernel
theorem dX9_count_52 : decode cX9_count 52 = .ok (.ireturn, 1) := by decide +kernel
theorem dX9_count_53 : decode cX9_count 53 = .ok (.aload_n 0, 1) := by decide +kernel
theorem dX9_count_54 : decode cX9_count 54 = .ok (.getfield 153, 3) := by decide +kernel
theorem dX9_count_57 : decode cX9_count 57 = .ok (.ifCond .eq 13, 3) := by decide +kernel
theorem dX9_count_60 : decode cX9_count 60 = .ok (.aload_n 0, 1) := by decide +kernel
theorem dX9_count_61 : decode cX9_count 61 = .ok (.getfield 25, 3) := by decide +kernel
theorem dX9_count_64 : decode cX9_count 64 = .ok (.getfield 170, 3) := by decide +kernel
theorem dX9_count_67 : decode cX9_count 67 = .ok (.goto 4, 3) := by decide +kernel
theorem dX9_count_70 : decode cX9_count 70 = .ok (.iconst 0, 1) := by decide +kernel
theorem dX9_count_71 : decode cX9_count 71 = .ok (.ireturn, 1) := by decide +kernel
theorem dX9_count_72 : decode cX9_count 72 = .ok (.aload_n 0, 1) := by decide +kernel
theorem dX9_count_73 : decode cX9_count 73 = .ok (.getfield 153, 3) := by decide +kernel
theorem dX9_count_76 : decode cX9_count 76 = .ok (.ifCond .eq 13, 3) := by decide +kernel
theorem dX9_count_79 : decode cX9_count 79 = .ok (.aload_n 0, 1) := by decide +kernel
theorem dX9_count_80 : decode cX9_count 80 = .ok (.getfield 25, 3) := by decide +kernel
theorem dX9_count_83 : decode cX9_count 83 = .ok (.getfield 338, 3) := by decide +kernel
theorem dX9_count_86 : decode cX9_count 86 = .ok (.goto 4, 3) := by decide +kernel
theorem dX9_count_89 : decode cX9_count 89 = .ok (.iconst 0, 1) := by decide +kernel
theorem dX9_count_90 : decode cX9_count 90 = .ok (.ireturn, 1) := by decide +kernel
theorem dX9_count_91 : decode cX9_count 91 = .ok (.aload_n 0, 1) := by decide +kernel
theorem dX9_count_92 : decode cX9_count 92 = .ok (.getfield 153, 3) := by decide +kernel
theorem dX9_count_95 : decode cX9_count 95 = .ok (.ifCond .eq 13, 3) := by decide +kernel
theorem dX9_count_98 : decode cX9_count 98 = .ok (.aload_n 0, 1) := by decide +kernel
theorem dX9_count_99 : decode cX9_count 99 = .ok (.getfield 25, 3) := by decide +kernel
theorem dX9_count_102 : decode cX9_count 102 = .ok (.getfield 163, 3) := by decide +kernel
theorem dX9_count_105 : decode cX9_count 105 = .ok (.goto 4, 3) := by decide +kernel
theorem dX9_count_108 : decode cX9_count 108 = .ok (.iconst 0, 1) := by decide +kernel
theorem dX9_count_109 : decode cX9_count 109 = .ok (.ireturn, 1) := by decide +kernel
theorem dX9_count_110 : decode cX9_count 110 = .ok (.aload_n 0, 1) := by decide +kernel
theorem dX9_count_111 : decode cX9_count 111 = .ok (.getfield 153, 3) := by decide +kernel
theorem dX9_count_114 : decode cX9_count 114 = .ok (.ifCond .eq 13, 3) := by decide +kernel
theorem dX9_count_117 : decode cX9_count 117 = .ok (.aload_n 0, 1) := by decide +kernel
theorem dX9_count_118 : decode cX9_count 118 = .ok (.getfield 35, 3) := by decide +kernel
theorem dX9_count_121 : decode cX9_count 121 = .ok (.getfield 193, 3) := by decide +kernel
theorem dX9_count_124 : decode cX9_count 124 = .ok (.goto 4, 3) := by decide +kernel
theorem dX9_count_127 : decode cX9_count 127 = .ok (.iconst 0, 1) := by decide +kernel
theorem dX9_count_128 : decode cX9_count 128 = .ok (.ireturn, 1) := by decide +kernel
theorem dX9_count_129 : decode cX9_count 129 = .ok (.aload_n 0, 1) := by decide +kernel
theorem dX9_count_130 : decode cX9_count 130 = .ok (.getfield 153, 3) := by decide +kernel
theorem dX9_count_133 : decode cX9_count 133 = .ok (.ifCond .eq 17, 3) := by decide +kernel
theorem dX9_count_136 : decode cX9_count 136 = .ok (.aload_n 0, 1) := by decide +kernel
theorem dX9_count_137 : decode cX9_count 137 = .ok (.getfield 35, 3) := by decide +kernel
theorem dX9_count_140 : decode cX9_count 140 = .ok (.aload_n 0, 1) := by decide +kernel
theorem dX9_count_141 : decode cX9_count 141 = .ok (.getfield 25, 3) := by decide +kernel
theorem dX9_count_144 : decode cX9_count 144 = .ok (.invokevirtual 341, 3) := by decide +kernel
theorem dX9_count_147 : decode cX9_count 147 = .ok (.goto 4, 3) := by decide +kernel
theorem dX9_count_150 : decode cX9_count 150 = .ok (.iconst 0, 1) := by decide +kernel
theorem dX9_count_151 : decode cX9_count 151 = .ok (.ireturn, 1) := by decide +kernel
theorem dX9_count_152 : decode cX9_count 152 = .ok (.aload_n 0, 1) := by decide +kernel
theorem dX9_count_153 : decode cX9_count 153 = .ok (.getfield 42, 3) := by decide +kernel
theorem dX9_count_156 : decode cX9_count 156 = .ok (.getfield 203, 3) := by decide +kernel
theorem dX9_count_159 : decode cX9_count 159 = .ok (.ireturn, 1) := by decide +kernel
theorem dX9_count_160 : decode cX9_count 160 = .ok (.aload_n 0, 1) := by decide +kernel
theorem dX9_count_161 : decode cX9_count 161 = .ok (.getfield 18, 3) := by decide +kernel
theorem dX9_count_164 : decode cX9_count 164 = .ok (.getfield 135, 3) := by decide +kernel
theorem dX9_count_167 : decode cX9_count 167 = .ok (.ireturn, 1) := by decide +kernel
theorem dX9_count_168 : decode cX9_count 168 = .ok (.ldc 95, 2) := by decide +kernel
theorem dX9_count_170 : decode cX9_count 170 = .ok (.ireturn, 1) := by decide +kernel
theorem dX9_status_0 : decode cX9_status 0 = .ok (.aload_n 0, 1) := by decide +kernel
theorem dX9_status_1 : decode cX9_status 1 = .ok (.getfield 344, 3) := by decide +kernel
theorem dX9_status_4 : decode cX9_status 4 = .ok (.ireturn, 1) := by decide +kernel
theorem dX9_found_0 : decode cX9_found 0 = .ok (.aload_n 0, 1) := by decide +kernel
theorem dX9_found_1 : decode cX9_found 1 = .ok (.iload_n 1, 1) := by decide +kernel
theorem dX9_found_2 : decode cX9_found 2 = .ok (.putfield 344, 3) := by decide +kernel
theorem dX9_found_5 : decode cX9_found 5 = .ok (.ldc_w 347, 3) := by decide +kernel
theorem dX9_found_8 : decode cX9_found 8 = .ok (.iload_n 1, 1) := by decide +kernel
theorem dX9_found_9 : decode cX9_found 9 = .ok (.isub, 1) := by decide +kernel
theorem dX9_found_10 : decode cX9_found 10 = .ok (.ireturn, 1) := by decide +kernel
theorem dX9_fine_0 : decode cX9_fine 0 = .ok (.aload_n 0, 1) := by decide +kernel
theorem dX9_fine_1 : decode cX9_fine 1 = .ok (.iconst 0, 1) := by decide +kernel
theorem dX9_fine_2 : decode cX9_fine 2 = .ok (.putfield 344, 3) := by decide +kernel
theorem dX9_fine_5 : decode cX9_fine 5 = .ok (.iload_n 1, 1) := by decide +kernel
theorem dX9_fine_6 : decode cX9_fine 6 = .ok (.ireturn, 1) := by decide +kernel
theorem dX9_rowsThere_0 : decode cX9_rowsThere 0 = .ok (.iconst 0, 1) := by decide +kernel
theorem dX9_rowsThere_1 : decode cX9_rowsThere 1 = .ok (.istore_n 1, 1) := by decide +kernel
theorem dX9_rowsThere_2 : decode cX9_rowsThere 2 = .ok (.iconst 0, 1) := by decide +kernel
theorem dX9_rowsThere_3 : decode cX9_rowsThere 3 = .ok (.istore_n 2, 1) := by decide +kernel
theorem dX9_rowsThere_4 : decode cX9_rowsThere 4 = .ok (.iload_n 2, 1) := by decide +kernel
theorem dX9_rowsThere_5 : decode cX9_rowsThere 5 = .ok (.bipush 8, 2) := by decide +kernel
theorem dX9_rowsThere_7 : decode cX9_rowsThere 7 = .ok (.if_icmp .ge 24, 3) := by decide +kernel
theorem dX9_rowsThere_10 : decode cX9_rowsThere 10 = .ok (.aload_n 0, 1) := by decide +kernel
theorem dX9_rowsThere_11 : decode cX9_rowsThere 11 = .ok (.getfield 11, 3) := by decide +kernel
theorem dX9_rowsThere_14 : decode cX9_rowsThere 14 = .ok (.iload_n 2, 1) := by decide +kernel
theorem dX9_rowsThere_15 : decode cX9_rowsThere 15 = .ok (.aaload, 1) := by decide +kernel
theorem dX9_rowsThere_16 : decode cX9_rowsThere 16 = .ok (.getfield 107, 3) := by decide +kernel
theorem dX9_rowsThere_19 : decode cX9_rowsThere 19 = .ok (.ifCond .eq 6, 3) := by decide +kernel
theorem dX9_rowsThere_22 : decode cX9_rowsThere 22 = .ok (.iinc 1 1, 3) := by decide +kernel
theorem dX9_rowsThere_25 : decode cX9_rowsThere 25 = .ok (.iinc 2 1, 3) := by decide +kernel
theorem dX9_rowsThere_28 : decode cX9_rowsThere 28 = .ok (.goto (-24), 3) := by decide +kernel
theorem dX9_rowsThere_31 : decode cX9_rowsThere 31 = .ok (.iload_n 1, 1) := by decide +kernel
theorem dX9_rowsThere_32 : decode cX9_rowsThere 32 = .ok (.ireturn, 1) := by decide +kernel
theorem dX9_isSuitor_0 : decode cX9_isSuitor 0 = .ok (.aload_n 0, 1) := by decide +kernel
theorem dX9_isSuitor_1 : decode cX9_isSuitor 1 = .ok (.getfield 153, 3) := by decide +kernel
theorem dX9_isSuitor_4 : decode cX9_isSuitor 4 = .ok (.ifCond .eq 22, 3) := by decide +kernel
theorem dX9_isSuitor_7 : decode cX9_isSuitor 7 = .ok (.iload_n 1, 1) := by decide +kernel
theorem dX9_isSuitor_8 : decode cX9_isSuitor 8 = .ok (.ifCond .lt 18, 3) := by decide +kernel
theorem dX9_isSuitor_11 : decode cX9_isSuitor 11 = .ok (.iload_n 1, 1) := by decide +kernel
theorem dX9_isSuitor_12 : decode cX9_isSuitor 12 = .ok (.aload_n 0, 1) := by decide +kernel
theorem dX9_isSuitor_13 : decode cX9_isSuitor 13 = .ok (.getfield 25, 3) := by decide +kernel
theorem dX9_isSuitor_16 : decode cX9_isSuitor 16 = .ok (.getfield 163, 3) := by decide +kernel
theorem dX9_isSuitor_19 : decode cX9_isSuitor 19 = .ok (.if_icmp .ge 7, 3) := by decide +kernel
theorem dX9_isSuitor_22 : decode cX9_isSuitor 22 = .ok (.iconst 1, 1) := by decide +kernel
theorem dX9_isSuitor_23 : decode cX9_isSuitor 23 = .ok (.goto 4, 3) := by decide +kernel
theorem dX9_isSuitor_26 : decode cX9_isSuitor 26 = .ok (.iconst 0, 1) := by decide +kernel
theorem dX9_isSuitor_27 : decode cX9_isSuitor 27 = .ok (.ireturn, 1) := by decide +kernel
theorem dX9_isRow_0 : decode cX9_isRow 0 = .ok (.iload_n 0, 1) := by decide +kernel
theorem dX9_isRow_1 : decode cX9_isRow 1 = .ok (.ifCond .lt 13, 3) := by decide +kernel
theorem dX9_isRow_4 : decode cX9_isRow 4 = .ok (.iload_n 0, 1) := by decide +kernel
theorem dX9_isRow_5 : decode cX9_isRow 5 = .ok (.bipush 8, 2) := by decide +kernel
theorem dX9_isRow_7 : decode cX9_isRow 7 = .ok (.if_icmp .ge 7, 3) := by decide +kernel
theorem dX9_isRow_10 : decode cX9_isRow 10 = .ok (.iconst 1, 1) := by decide +kernel
theorem dX9_isRow_11 : decode cX9_isRow 11 = .ok (.goto 4, 3) := by decide +kernel
theorem dX9_isRow_14 : decode cX9_isRow 14 = .ok (.iconst 0, 1) := by decide +kernel
theorem dX9_isRow_15 : decode cX9_isRow 15 = .ok (.ireturn, 1) := by decide +kernel
set_option maxRecDepth 20000 in
theorem ggX9_isHabit_X9_isWithin : GoodIn wsX9_isHabit wsX9_isWithin := goodIn_r _ [4] (by decide +kernel) (by decide +kernel)
set_option maxRecDepth 20000 in
theorem gX9_isHabit_X9_isWithin : GoodIn wsX9_isHabit (va_wsS RX9 91 yX9_isWithin wsX9_isWithin) := goodIn_app (goodIn_of _ (by decide +kernel)) ggX9_isHabit_X9_isWithin
theorem dX9_isHabit_0 : decode cX9_isHabit 0 = .ok (.iload_n 0, 1) := by decide +kernel
theorem dX9_isHabit_1 : decode cX9_isHabit 1 = .ok (.bipush 6, 2) := by decide +kernel
theorem dX9_isHabit_3 : decode cX9_isHabit 3 = .ok (.invokestatic 91, 3) := by decide +kernel
theorem dX9_isHabit_6 : decode cX9_isHabit 6 = .ok (.ifCond .eq 16, 3) := by decide +kernel
theorem dX9_isHabit_9 : decode cX9_isHabit 9 = .ok (.iload_n 1, 1) := by decide +kernel
theorem dX9_isHabit_10 : decode cX9_isHabit 10 = .ok (.bipush 9, 2) := by decide +kernel
theorem dX9_isHabit_12 : decode cX9_isHabit 12 = .ok (.invokestatic 91, 3) := by decide +kernel
theorem dX9_isHabit_15 : decode cX9_isHabit 15 = .ok (.ifCond .eq 7, 3) := by decide +kernel
theorem dX9_isHabit_18 : decode cX9_isHabit 18 = .ok (.iconst 1, 1) := by decide +kernel
theorem dX9_isHabit_19 : decode cX9_isHabit 19 = .ok (.goto 4, 3) := by decide +kernel
theorem dX9_isHabit_22 : decode cX9_isHabit 22 = .ok (.iconst 0, 1) := by decide +kernel
theorem dX9_isHabit_23 : decode cX9_isHabit 23 = .ok (.ireturn, 1) := by decide +kernel
theorem dX9_isWithin_0 : decode cX9_isWithin 0 = .ok (.iload_n 0, 1) := by decide +kernel
theorem dX9_isWithin_1 : decode cX9_isWithin 1 = .ok (.ifCond .lt 12, 3) := by decide +kernel
theorem dX9_isWithin_4 : decode cX9_isWithin 4 = .ok (.iload_n 0, 1) := by decide +kernel
theorem dX9_isWithin_5 : decode cX9_isWithin 5 = .ok (.iload_n 1, 1) := by decide +kernel
theorem dX9_isWithin_6 : decode cX9_isWithin 6 = .ok (.if_icmp .gt 7, 3) := by decide +kernel
theorem dX9_isWithin_9 : decode cX9_isWithin 9 = .ok (.iconst 1, 1) := by decide +kernel
theorem dX9_isWithin_10 : decode cX9_isWithin 10 = .ok (.goto 4, 3) := by decide +kernel
theorem dX9_isWithin_13 : decode cX9_isWithin 13 = .ok (.iconst 0, 1) := by decide +kernel
theorem dX9_isWithin_14 : decode cX9_isWithin 14 = .ok (.ireturn, 1) := by decide +kernel
theorem dX9_isOneOf_0 : decode cX9_isOneOf 0 = .ok (.iload_n 0, 1) := by decide +kernel
theorem dX9_isOneOf_1 : decode cX9_isOneOf 1 = .ok (.istore_n 2, 1) := by decide +kernel
theorem dX9_isOneOf_2 : decode cX9_isOneOf 2 = .ok (.iconst 0, 1) := by decide +kernel
theorem dX9_isOneOf_3 : decode cX9_isOneOf 3 = .ok (.istore_n 3, 1) := by decide +kernel
theorem dX9_isOneOf_4 : decode cX9_isOneOf 4 = .ok (.iload_n 3, 1) := by decide +kernel
theorem dX9_isOneOf_5 : decode cX9_isOneOf 5 = .ok (.iconst 3, 1) := by decide +kernel
theorem dX9_isOneOf_6 : decode cX9_isOneOf 6 = .ok (.if_icmp .ge 22, 3) := by decide +kernel
theorem dX9_isOneOf_9 : decode cX9_isOneOf 9 = .ok (.iload_n 2, 1) := by decide +kernel
theorem dX9_isOneOf_10 : decode cX9_isOneOf 10 = .ok (.iload_n 1, 1) := by decide +kernel
theorem dX9_isOneOf_11 : decode cX9_isOneOf 11 = .ok (.if_icmp .ne 5, 3) := by decide +kernel
theorem dX9_isOneOf_14 : decode cX9_isOneOf 14 = .ok (.iconst 1, 1) := by decide +kernel
theorem dX9_isOneOf_15 : decode cX9_isOneOf 15 = .ok (.ireturn, 1) := by decide +kernel
theorem dX9_isOneOf_16 : decode cX9_isOneOf 16 = .ok (.getstatic 348, 3) := by decide +kernel
theorem dX9_isOneOf_19 : decode cX9_isOneOf 19 = .ok (.iload_n 2, 1) := by decide +kernel
theorem dX9_isOneOf_20 : decode cX9_isOneOf 20 = .ok (.iaload, 1) := by decide +kernel
theorem dX9_isOneOf_21 : decode cX9_isOneOf 21 = .ok (.istore_n 2, 1) := by decide +kernel
theorem dX9_isOneOf_22 : decode cX9_isOneOf 22 = .ok (.iinc 3 1, 3) := by decide +kernel
theorem dX9_isOneOf_25 : decode cX9_isOneOf 25 = .ok (.goto (-21), 3) := by decide +kernel
theorem dX9_isOneOf_28 : decode cX9_isOneOf 28 = .ok (.iconst 0, 1) := by decide +kernel
theorem dX9_isOneOf_29 : decode cX9_isOneOf 29 = .ok (.ireturn, 1) := by decide +kernel
theorem dX10_init_0 : decode cX10_init 0 = .ok (.aload_n 0, 1) := by decide +kernel
theorem dX10_init_1 : decode cX10_init 1 = .ok (.invokespecial 1, 3) := by decide +kernel
theorem dX10_init_4 : decode cX10_init 4 = .ok (.aload_n 0, 1) := by decide +kernel
theorem dX10_init_5 : decode cX10_init 5 = .ok (.bipush 8, 2) := by decide +kernel
theorem dX10_init_7 : decode cX10_init 7 = .ok (.newarray .int, 2) := by decide +kernel
theorem dX10_init_9 : decode cX10_init 9 = .ok (.putfield 7, 3) := by decide +kernel
theorem dX10_init_12 : decode cX10_init 12 = .ok (.aload_n 0, 1) := by decide +kernel
theorem dX10_init_13 : decode cX10_init 13 = .ok (.bipush 8, 2) := by decide +kernel
theorem dX10_init_15 : decode cX10_init 15 = .ok (.newarray .int, 2) := by decide +kernel
theorem dX10_init_17 : decode cX10_init 17 = .ok (.putfield 13, 3) := by decide +kernel
theorem dX10_init_20 : decode cX10_init 20 = .ok (.aload_n 0, 1) := by decide +kernel
theorem dX10_init_21 : decode cX10_init 21 = .ok (.sipush 320, 3) := by decide +kernel
theorem dX10_init_24 : decode cX10_init 24 = .ok (.newarray .int, 2) := by decide +kernel
theorem dX10_init_26 : decode cX10_init 26 = .ok (.putfield 16, 3) := by decide +kernel
theorem dX10_init_29 : decode cX10_init 29 = .ok (.aload_n 0, 1) := by decide +kernel
theorem dX10_init_30 : decode cX10_init 30 = .ok (.bipush 120, 2) := by decide +kernel
theorem dX10_init_32 : decode cX10_init 32 = .ok (.newarray .int, 2) := by decide +kernel
theorem dX10_init_34 : decode cX10_init 34 = .ok (.putfield 19, 3) := by decide +kernel
theorem dX10_init_37 : decode cX10_init 37 = .ok (.aload_n 0, 1) := by decide +kernel
theorem dX10_init_38 : decode cX10_init 38 = .ok (.bipush 48, 2) := by decide +kernel
theorem dX10_init_40 : decode cX10_init 40 = .ok (.newarray .int, 2) := by decide +kernel
theorem dX10_init_42 : decode cX10_init 42 = .ok (.putfield 22, 3) := by decide +kernel
theorem dX10_init_45 : decode cX10_init 45 = .ok (.aload_n 0, 1) := by decide +kernel
theorem dX10_init_46 : decode cX10_init 46 = .ok (.sipush 1152, 3) := by decide +kernel
theorem dX10_init_49 : decode cX10_init 49 = .ok (.newarray .int, 2) := by decide +kernel
theorem dX10_init_51 : decode cX10_init 51 = .ok (.putfield 25, 3) := by decide +kernel
theorem dX10_init_54 : decode cX10_init 54 = .ok (.aload_n 0, 1) := by decide +kernel
theorem dX10_init_55 : decode cX10_init 55 = .ok (.bipush 96, 2) := by decide +kernel
theorem dX10_init_57 : decode cX10_init 57 = .ok (.newarray .int, 2) := by decide +kernel
theorem dX10_init_59 : decode cX10_init 59 = .ok (.putfield 28, 3) := by decide +kernel
theorem dX10_init_62 : decode cX10_init 62 = .ok (.aload_n 0, 1) := by decide +kernel
theorem dX10_init_63 : decode cX10_init 63 = .ok (.iconst 2, 1) := by decide +kernel
theorem dX10_init_64 : decode cX10_init 64 = .ok (.newarray .boolean, 2) := by decide +kernel
theorem dX10_init_66 : decode cX10_init 66 = .ok (.putfield 31, 3) := by decide +kernel
theorem dX10_init_69 : decode cX10_init 69 = .ok (.aload_n 0, 1) := by decide +kernel
theorem dX10_init_70 : decode cX10_init 70 = .ok (.bipush 16, 2) := by decide +kernel
theorem dX10_init_72 : decode cX10_init 72 = .ok (.newarray .int, 2) := by decide +kernel
theorem dX10_init_74 : decode cX10_init 74 = .ok (.putfield 35, 3) := by decide +kernel
theorem dX10_init_77 : decode cX10_init 77 = .ok (.aload_n 0, 1) := by decide +kernel
theorem dX10_init_78 : decode cX10_init 78 = .ok (.bipush 48, 2) := by decide +kernel
theorem dX10_init_80 : decode cX10_init 80 = .ok (.newarray .int, 2) := by decide +kernel
theorem dX10_init_82 : decode cX10_init 82 = .ok (.putfield 38, 3) := by decide +kernel
theorem dX10_init_85 : decode cX10_init 85 = .ok (.aload_n 0, 1) := by decide +kernel
theorem dX10_init_86 : decode cX10_init 86 = .ok (.bipush 48, 2) := by decide +kernel
theorem dX10_init_88 : decode cX10_init 88 = .ok (.newarray .int, 2) := by decide +kernel
theorem dX10_init_90 : decode cX10_init 90 = .ok (.putfield 41, 3) := by decide +kernel
theorem dX10_init_93 : decode cX10_init 93 = .ok (.iconst 0, 1) := by decide +kernel
theorem dX10_init_94 : decode cX10_init 94 = .ok (.istore_n 1, 1) := by decide +kernel
theorem dX10_init_95 : decode cX10_init 95 = .ok (.iload_n 1, 1) := by decide +kernel
theorem dX10_init_96 : decode cX10_init 96 = .ok (.bipush 8, 2) := by decide +kernel
theorem dX10_init_98 : decode cX10_init 98 = .ok (.if_icmp .ge 16, 3) := by decide +kernel
theorem dX10_init_101 : decode cX10_init 101 = .ok (.aload_n 0, 1) := by decide +kernel
theorem dX10_init_102 : decode cX10_init 102 = .ok (.getfield 13, 3) := by decide +kernel
theorem dX10_init_105 : decode cX10_init 105 = .ok (.iload_n 1, 1) := by decide +kernel
theorem dX10_init_106 : decode cX10_init 106 = .ok (.iconst (-1), 1) := by decide +kernel
theorem dX10_init_107 : decode cX10_init 107 = .ok (.iastore, 1) := by decide +kernel
theorem dX10_init_108 : decode cX10_init 108 = .ok (.iinc 1 1, 3) := by decide +kernel
theorem dX10_init_111 : decode cX10_init 111 = .ok (.goto (-16), 3) := by decide +kernel
theorem dX10_init_114 : decode cX10_init 114 = .ok (.return_, 1) := by decide +kernel
theorem dX10_in_0 : decode cX10_in 0 = .ok (.lload_n 0, 1) := by decide +kernel
theorem dX10_in_1 : decode cX10_in 1 = .ok (.lload_n 2, 1) := by decide +kernel
theorem dX10_in_2 : decode cX10_in 2 = .ok (.lcmp, 1) := by decide +kernel
theorem dX10_in_3 : decode cX10_in 3 = .ok (.ifCond .lt 14, 3) := by decide +kernel
theorem dX10_in_6 : decode cX10_in 6 = .ok (.lload_n 0, 1) := by decide +kernel
theorem dX10_in_7 : decode cX10_in 7 = .ok (.lload 4, 2) := by decide +kernel
theorem dX10_in_9 : decode cX10_in 9 = .ok (.lcmp, 1) := by decide +kernel
theorem dX10_in_10 : decode cX10_in 10 = .ok (.ifCond .gt 7, 3) := by decide +kernel
theorem dX10_in_13 : decode cX10_in 13 = .ok (.iconst 1, 1) := by decide +kernel
theorem dX10_in_14 : decode cX10_in 14 = .ok (.goto 4, 3) := by decide +kernel
theorem dX10_in_17 : decode cX10_in 17 = .ok (.iconst 0, 1) := by decide +kernel
theorem dX10_in_18 : decode cX10_in 18 = .ok (.ireturn, 1) := by decide +kernel
theorem dX10_found_0 : decode cX10_found 0 = .ok (.aload_n 0, 1) := by decide +kernel
theorem dX10_found_1 : decode cX10_found 1 = .ok (.iload_n 1, 1) := by decide +kernel
theorem dX10_found_2 : decode cX10_found 2 = .ok (.putfield 44, 3) := by decide +kernel
theorem dX10_found_5 : decode cX10_found 5 = .ok (.ldc 48, 2) := by decide +kernel
theorem dX10_found_7 : decode cX10_found 7 = .ok (.iload_n 1, 1) := by decide +kernel
theorem dX10_found_8 : decode cX10_found 8 = .ok (.isub, 1) := by decide +kernel
theorem dX10_found_9 : decode cX10_found 9 = .ok (.ireturn, 1) := by decide +kernel
theorem dX10_well_0 : decode cX10_well 0 = .ok (.aload_n 0, 1) := by decide +kernel
theorem dX10_well_1 : decode cX10_well 1 = .ok (.iconst 0, 1) := by decide +kernel
theorem dX10_well_2 : decode cX10_well 2 = .ok (.putfield 44, 3) := by decide +kernel
theorem dX10_well_5 : decode cX10_well 5 = .ok (.iload_n 1, 1) := by decide +kernel
theorem dX10_well_6 : decode cX10_well 6 = .ok (.ireturn, 1) := by decide +kernel
set_option maxRecDepth 20000 in
theorem ggX10_isRow_X10_in : GoodIn wsX10_isRow wsX10_in := goodIn_r _ [5] (by decide +kernel) (by decide +kernel)
set_option maxRecDepth 20000 in
theorem gX10_isRow_X10_in : GoodIn wsX10_isRow (va_wsS RX10 51 yX10_in wsX10_in) := goodIn_app (goodIn_of _ (by decide +kernel)) ggX10_isRow_X10_in
theorem dX10_isRow_0 : decode cX10_isRow 0 = .ok (.iload_n 0, 1) := by decide +kernel
theorem dX10_isRow_1 : decode cX10_isRow 1 = .ok (.i2l, 1) := by decide +kernel
theorem dX10_isRow_2 : decode cX10_isRow 2 = .ok (.lconst 0, 1) := by decide +kernel
theorem dX10_isRow_3 : decode cX10_isRow 3 = .ok (.ldc2_w 49, 3) := by decide +kernel
theorem dX10_isRow_6 : decode cX10_isRow 6 = .ok (.invokestatic 51, 3) := by decide +kernel
theorem dX10_isRow_9 : decode cX10_isRow 9 = .ok (.ireturn, 1) := by decide +kernel
set_option maxRecDepth 20000 in
theorem ggX10_row_X10_isRow : GoodIn wsX10_row wsX10_isRow := goodIn_r _ [9, 10, 11, 12, 8, 13] (by decide +kernel) (by decide +kernel)
set_option maxRecDepth 20000 in
theorem gX10_row_X10_isRow : GoodIn wsX10_row (va_wsS RX10 55 yX10_isRow wsX10_isRow) := goodIn_app (goodIn_of _ (by decide +kernel)) ggX10_row_X10_isRow
set_option maxRecDepth 20000 in
theorem ggX10_row_X10_in : GoodIn wsX10_row wsX10_in := goodIn_r _ [13] (by decide +kernel) (by decide +kernel)
set_option maxRecDepth 20000 in
theorem gX10_row_X10_in : GoodIn wsX10_row (va_wsS RX10 51 yX10_in wsX10_in) := goodIn_app (goodIn_of _ (by decide +kernel)) ggX10_row_X10_in
set_option maxRecDepth 20000 in
theorem ggX10_row_X10_found : GoodIn wsX10_row wsX10_found := goodIn_r _ [17, 18, 19, 24, 25, 26, 27, 28, 29, 30, 31, 32, 33, 34, 35, 36, 37, 38, 39, 40, 41, 42, 43, 44, 45, 46, 47] (by decide +kernel) (by decide +kernel)
set_option maxRecDepth 20000 in
theorem gX10_row_X10_found : GoodIn wsX10_row (wsV RX10 62 RX10 yX10_found wsX10_found) := goodIn_app (goodIn_of _ (by decide +kernel)) ggX10_row_X10_found
set_option maxRecDepth 20000 in
theorem ggX10_row_X10_well : GoodIn wsX10_row wsX10_well := goodIn_r _ [23, 18, 24, 25, 26, 27, 28, 29, 30, 31, 32, 33, 34, 35, 36, 37, 38, 39, 40, 41, 42, 43, 44, 45, 46, 47] (by decide +kernel) (by decide +kernel)
set_option maxRecDepth 20000 in
theorem gX10_row_X10_well : GoodIn wsX10_row (wsV RX10 66 RX10 yX10_well wsX10_well) := goodIn_app (goodIn_of _ (by decide +kernel)) ggX10_row_X10_well
theorem dX10_row_0 : decode cX10_row 0 = .ok (.iload_n 1, 1) := by decide +kernel
theorem dX10_row_1 : decode cX10_row 1 = .ok (.invokestatic 55, 3) := by decide +kernel
theorem dX10_row_4 : decode cX10_row 4 = .ok (.ifCond .eq 21, 3) := by decide +kernel
theorem dX10_row_7 : decode cX10_row 7 = .ok (.iload_n 2, 1) := by decide +kernel
theorem dX10_row_8 : decode cX10_row 8 = .ok (.i2l, 1) := by decide +kernel
theorem dX10_row_9 : decode cX10_row 9 = .ok (.lconst 0, 1) := by decide +kernel
theorem dX10_row_10 : decode cX10_row 10 = .ok (.ldc2_w 59, 3) := by decide +kernel
theorem dX10_row_13 : decode cX10_row 13 = .ok (.invokestatic 51, 3) := by decide +kernel
theorem dX10_row_16 : decode cX10_row 16 = .ok (.ifCond .eq 9, 3) := by decide +kernel
theorem dX10_row_19 : decode cX10_row 19 = .ok (.iload_n 3, 1) := by decide +kernel
theorem dX10_row_20 : decode cX10_row 20 = .ok (.bipush 40, 2) := by decide +kernel
theorem dX10_row_22 : decode cX10_row 22 = .ok (.if_icmp .le 6, 3) := by decide +kernel
theorem dX10_row_25 : decode cX10_row 25 = .ok (.ldc 61, 2) := by decide +kernel
theorem dX10_row_27 : decode cX10_row 27 = .ok (.ireturn, 1) := by decide +kernel
theorem dX10_row_28 : decode cX10_row 28 = .ok (.iload_n 3, 1) := by decide +kernel
theorem dX10_row_29 : decode cX10_row 29 = .ok (.ifCond .ge 9, 3) := by decide +kernel
theorem dX10_row_32 : decode cX10_row 32 = .ok (.aload_n 0, 1) := by decide +kernel
theorem dX10_row_33 : decode cX10_row 33 = .ok (.iconst 4, 1) := by decide +kernel
theorem dX10_row_34 : decode cX10_row 34 = .ok (.invokevirtual 62, 3) := by decide +kernel
theorem dX10_row_37 : decode cX10_row 37 = .ok (.ireturn, 1) := by decide +kernel
theorem dX10_row_38 : decode cX10_row 38 = .ok (.aload_n 0, 1) := by decide +kernel
theorem dX10_row_39 : decode cX10_row 39 = .ok (.getfield 7, 3) := by decide +kernel
theorem dX10_row_42 : decode cX10_row 42 = .ok (.iload_n 1, 1) := by decide +kernel
theorem dX10_row_43 : decode cX10_row 43 = .ok (.iload_n 2, 1) := by decide +kernel
theorem dX10_row_44 : decode cX10_row 44 = .ok (.iastore, 1) := by decide +kernel
theorem dX10_row_45 : decode cX10_row 45 = .ok (.aload_n 0, 1) := by decide +kernel
theorem dX10_row_46 : decode cX10_row 46 = .ok (.getfield 13, 3) := by decide +kernel
theorem dX10_row_49 : decode cX10_row 49 = .ok (.iload_n 1, 1) := by decide +kernel
theorem dX10_row_50 : decode cX10_row 50 = .ok (.iload_n 3, 1) := by decide +kernel
theorem dX10_row_51 : decode cX10_row 51 = .ok (.iastore, 1) := by decide +kernel
theorem dX10_row_52 : decode cX10_row 52 = .ok (.iconst 0, 1) := by decide +kernel
theorem dX10_row_53 : decode cX10_row 53 = .ok (.istore 4, 2) := by decide +kernel
theorem dX10_row_55 : decode cX10_row 55 = .ok (.iload 4, 2) := by decide +kernel
theorem dX10_row_57 : decode cX10_row 57 = .ok (.bipush 40, 2) := by decide +kernel
theorem dX10_row_59 : decode cX10_row 59 = .ok (.if_icmp .ge 22, 3) := by decide +kernel
theorem dX10_row_62 : decode cX10_row 62 = .ok (.aload_n 0, 1) := by decide +kernel
theorem dX10_row_63 : decode cX10_row 63 = .ok (.getfield 16, 3) := by decide +kernel
theorem dX10_row_66 : decode cX10_row 66 = .ok (.bipush 40, 2) := by decide +kernel
theorem dX10_row_68 : decode cX10_row 68 = .ok (.iload_n 1, 1) := by decide +kernel
theorem dX10_row_69 : decode cX10_row 69 = .ok (.imul, 1) := by decide +kernel
theorem dX10_row_70 : decode cX10_row 70 = .ok (.iload 4, 2) := by decide +kernel
theorem dX10_row_72 : decode cX10_row 72 = .ok (.iadd, 1) := by decide +kernel
theorem dX10_row_73 : decode cX10_row 73 = .ok (.iconst 0, 1) := by decide +kernel
theorem dX10_row_74 : decode cX10_row 74 = .ok (.iastore, 1) := by decide +kernel
theorem dX10_row_75 : decode cX10_row 75 = .ok (.iinc 4 1, 3) := by decide +kernel
theorem dX10_row_78 : decode cX10_row 78 = .ok (.goto (-23), 3) := by decide +kernel
theorem dX10_row_81 : decode cX10_row 81 = .ok (.aload_n 0, 1) := by decide +kernel
theorem dX10_row_82 : decode cX10_row 82 = .ok (.iload_n 3, 1) := by decide +kernel
theorem dX10_row_83 : decode cX10_row 83 = .ok (.invokevirtual 66, 3) := by decide +kernel
theorem dX10_row_86 : decode cX10_row 86 = .ok (.ireturn, 1) := by decide +kernel
set_option maxRecDepth 20000 in
theorem ggX10_set_X10_isRow : GoodIn wsX10_set wsX10_isRow := goodIn_r _ [8, 9, 10, 11, 7, 12] (by decide +kernel) (by decide +kernel)
set_option maxRecDepth 20000 in
theorem gX10_set_X10_isRow : GoodIn wsX10_set (va_wsS RX10 55 yX10_isRow wsX10_isRow) := goodIn_app (goodIn_of _ (by decide +kernel)) ggX10_set_X10_isRow
set_option maxRecDepth 20000 in
theorem ggX10_set_X10_found : GoodIn wsX10_set wsX10_found := goodIn_r _ [16, 17, 18, 23, 24, 25, 26, 27, 28, 29, 30, 31, 32, 33, 34, 35, 36, 37, 38, 39, 40, 41, 42, 43, 44, 45, 46] (by decide +kernel) (by decide +kernel)
set_option maxRecDepth 20000 in
theorem gX10_set_X10_found : GoodIn wsX10_set (wsV RX10 62 RX10 yX10_found wsX10_found) := goodIn_app (goodIn_of _ (by decide +kernel)) ggX10_set_X10_found
set_option maxRecDepth 20000 in
theorem ggX10_set_X10_in : GoodIn wsX10_set wsX10_in := goodIn_r _ [12] (by decide +kernel) (by decide +kernel)
set_option maxRecDepth 20000 in
theorem gX10_set_X10_in : GoodIn wsX10_set (va_wsS RX10 51 yX10_in wsX10_in) := goodIn_app (goodIn_of _ (by decide +kernel)) ggX10_set_X10_in
set_option maxRecDepth 20000 in
theorem ggX10_set_X10_well : GoodIn wsX10_set wsX10_well := goodIn_r _ [22, 17, 23, 24, 25, 26, 27, 28, 29, 30, 31, 32, 33, 34, 35, 36, 37, 38, 39, 40, 41, 42, 43, 44, 45, 46] (by decide +kernel) (by decide +kernel)
set_option maxRecDepth 20000 in
theorem gX10_set_X10_well : GoodIn wsX10_set (wsV RX10 66 RX10 yX10_well wsX10_well) := goodIn_app (goodIn_of _ (by decide +kernel)) ggX10_set_X10_well
theorem dX10_set_0 : decode cX10_set 0 = .ok (.iload_n 1, 1) := by decide +kernel
theorem dX10_set_1 : decode cX10_set 1 = .ok (.invokestatic 55, 3) := by decide +kernel
theorem dX10_set_4 : decode cX10_set 4 = .ok (.ifCond .ne 6, 3) := by decide +kernel
theorem dX10_set_7 : decode cX10_set 7 = .ok (.ldc 61, 2) := by decide +kernel
theorem dX10_set_9 : decode cX10_set 9 = .ok (.ireturn, 1) := by decide +kernel
theorem dX10_set_10 : decode cX10_set 10 = .ok (.aload_n 0, 1) := by decide +kernel
theorem dX10_set_11 : decode cX10_set 11 = .ok (.getfield 13, 3) := by decide +kernel
theorem dX10_set_14 : decode cX10_set 14 = .ok (.iload_n 1, 1) := by decide +kernel
theorem dX10_set_15 : decode cX10_set 15 = .ok (.iaload, 1) := by decide +kernel
theorem dX10_set_16 : decode cX10_set 16 = .ok (.ifCond .ge 9, 3) := by decide +kernel
theorem dX10_set_19 : decode cX10_set 19 = .ok (.aload_n 0, 1) := by decide +kernel
theorem dX10_set_20 : decode cX10_set 20 = .ok (.iconst 1, 1) := by decide +kernel
theorem dX10_set_21 : decode cX10_set 21 = .ok (.invokevirtual 62, 3) := by decide +kernel
theorem dX10_set_24 : decode cX10_set 24 = .ok (.ireturn, 1) := by decide +kernel
theorem dX10_set_25 : decode cX10_set 25 = .ok (.iload_n 2, 1) := by decide +kernel
theorem dX10_set_26 : decode cX10_set 26 = .ok (.i2l, 1) := by decide +kernel
theorem dX10_set_27 : decode cX10_set 27 = .ok (.lconst 0, 1) := by decide +kernel
theorem dX10_set_28 : decode cX10_set 28 = .ok (.aload_n 0, 1) := by decide +kernel
theorem dX10_set_29 : decode cX10_set 29 = .ok (.getfield 13, 3) := by decide +kernel
theorem dX10_set_32 : decode cX10_set 32 = .ok (.iload_n 1, 1) := by decide +kernel
theorem dX10_set_33 : decode cX10_set 33 = .ok (.iaload, 1) := by decide +kernel
theorem dX10_set_34 : decode cX10_set 34 = .ok (.iconst 1, 1) := by decide +kernel
theorem dX10_set_35 : decode cX10_set 35 = .ok (.isub, 1) := by decide +kernel
theorem dX10_set_36 : decode cX10_set 36 = .ok (.i2l, 1) := by decide +kernel
theorem dX10_set_37 : decode cX10_set 37 = .ok (.invokestatic 51, 3) := by decide +kernel
theorem dX10_set_40 : decode cX10_set 40 = .ok (.ifCond .ne 9, 3) := by decide +kernel
theorem dX10_set_43 : decode cX10_set 43 = .ok (.aload_n 0, 1) := by decide +kernel
theorem dX10_set_44 : decode cX10_set 44 = .ok (.iconst 2, 1) := by decide +kernel
theorem dX10_set_45 : decode cX10_set 45 = .ok (.invokevirtual 62, 3) := by decide +kernel
theorem dX10_set_48 : decode cX10_set 48 = .ok (.ireturn, 1) := by decide +kernel
theorem dX10_set_49 : decode cX10_set 49 = .ok (.aload_n 0, 1) := by decide +kernel
theorem dX10_set_50 : decode cX10_set 50 = .ok (.getfield 16, 3) := by decide +kernel
theorem dX10_set_53 : decode cX10_set 53 = .ok (.bipush 40, 2) := by decide +kernel
theorem dX10_set_55 : decode cX10_set 55 = .ok (.iload_n 1, 1) := by decide +kernel
theorem dX10_set_56 : decode cX10_set 56 = .ok (.imul, 1) := by decide +kernel
theorem dX10_set_57 : decode cX10_set 57 = .ok (.iload_n 2, 1) := by decide +kernel
theorem dX10_set_58 : decode cX10_set 58 = .ok (.iadd, 1) := by decide +kernel
theorem dX10_set_59 : decode cX10_set 59 = .ok (.aload_n 0, 1) := by decide +kernel
theorem dX10_set_60 : decode cX10_set 60 = .ok (.getfield 7, 3) := by decide +kernel
theorem dX10_set_63 : decode cX10_set 63 = .ok (.iload_n 1, 1) := by decide +kernel
theorem dX10_set_64 : decode cX10_set 64 = .ok (.iaload, 1) := by decide +kernel
theorem dX10_set_65 : decode cX10_set 65 = .ok (.ifCond .ne 8, 3) := by decide +kernel
theorem dX10_set_68 : decode cX10_set 68 = .ok (.iload_n 3, 1) := by decide +kernel
theorem dX10_set_69 : decode cX10_set 69 = .ok (.i2b, 1) := by decide +kernel
theorem dX10_set_70 : decode cX10_set 70 = .ok (.goto 19, 3) := by decide +kernel
theorem dX10_set_73 : decode cX10_set 73 = .ok (.aload_n 0, 1) := by decide +kernel
theorem dX10_set_74 : decode cX10_set 74 = .ok (.getfield 7, 3) := by decide +kernel
theorem dX10_set_77 : decode cX10_set 77 = .ok (.iload_n 1, 1) := by decide +kernel
theorem dX10_set_78 : decode cX10_set 78 = .ok (.iaload, 1) := by decide +kernel
theorem dX10_set_79 : decode cX10_set 79 = .ok (.iconst 1, 1) := by decide +kernel
theorem dX10_set_80 : decode cX10_set 80 = .ok (.if_icmp .ne 8, 3) := by decide +kernel
theorem dX10_set_83 : decode cX10_set 83 = .ok (.iload_n 3, 1) := by decide +kernel
theorem dX10_set_84 : decode cX10_set 84 = .ok (.i2s, 1) := by decide +kernel
theorem dX10_set_85 : decode cX10_set 85 = .ok (.goto 4, 3) := by decide +kernel
theorem dX10_set_88 : decode cX10_set 88 = .ok (.iload_n 3, 1) := by decide +kernel
theorem dX10_set_89 : decode cX10_set 89 = .ok (.iastore, 1) := by decide +kernel
theorem dX10_set_90 : decode cX10_set 90 = .ok (.aload_n 0, 1) := by decide +kernel
theorem dX10_set_91 : decode cX10_set 91 = .ok (.aload_n 0, 1) := by decide +kernel
theorem dX10_set_92 : decode cX10_set 92 = .ok (.getfield 16, 3) := by decide +kernel
theorem dX10_set_95 : decode cX10_set 95 = .ok (.bipush 40, 2) := by decide +kernel
theorem dX10_set_97 : decode cX10_set 97 = .ok (.iload_n 1, 1) := by decide +kernel
theorem dX10_set_98 : decode cX10_set 98 = .ok (.imul, 1) := by decide +kernel
theorem dX10_set_99 : decode cX10_set 99 = .ok (.iload_n 2, 1) := by decide +kernel
theorem dX10_set_100 : decode cX10_set 100 = .ok (.iadd, 1) := by decide +kernel
theorem dX10_set_101 : decode cX10_set 101 = .ok (.iaload, 1) := by decide +kernel
theorem dX10_set_102 : decode cX10_set 102 = .ok (.invokevirtual 66, 3) := by decide +kernel
theorem dX10_set_105 : decode cX10_set 105 = .ok (.ireturn, 1) := by decide +kernel
set_option maxRecDepth 20000 in
theorem ggX10_copy_X10_isRow : GoodIn wsX10_copy wsX10_isRow := goodIn_r _ [8, 9, 10, 11, 7, 12] (by decide +kernel) (by decide +kernel)
set_option maxRecDepth 20000 in
theorem gX10_copy_X10_isRow : GoodIn wsX10_copy (va_wsS RX10 55 yX10_isRow wsX10_isRow) := goodIn_app (goodIn_of _ (by decide +kernel)) ggX10_copy_X10_isRow
set_option maxRecDepth 20000 in
theorem ggX10_copy_X10_found : GoodIn wsX10_copy wsX10_found := goodIn_r _ [16, 17, 18, 23, 24, 25, 26, 27, 28, 29, 30, 31, 32, 33, 34, 35, 36, 37, 38, 39, 40, 41, 42, 43, 44, 45, 46] (by decide +kernel) (by decide +kernel)
set_option maxRecDepth 20000 in
theorem gX10_copy_X10_found : GoodIn wsX10_copy (wsV RX10 62 RX10 yX10_found wsX10_found) := goodIn_app (goodIn_of _ (by decide +kernel)) ggX10_copy_X10_found
set_option maxRecDepth 20000 in
theorem ggX10_copy_X10_well : GoodIn wsX10_copy wsX10_well := goodIn_r _ [22, 17, 23, 24, 25, 26, 27, 28, 29, 30, 31, 32, 33, 34, 35, 36, 37, 38, 39, 40, 41, 42, 43, 44, 45, 46] (by decide +kernel) (by decide +kernel)
set_option maxRecDepth 20000 in
theorem gX10_copy_X10_well : GoodIn wsX10_copy (wsV RX10 66 RX10 yX10_well wsX10_well) := goodIn_app (goodIn_of _ (by decide +kernel)) ggX10_copy_X10_well
theorem dX10_copy_0 : decode cX10_copy 0 = .ok (.iload_n 1, 1) := by decide +kernel
theorem dX10_copy_1 : decode cX10_copy 1 = .ok (.invokestatic 55, 3) := by decide +kernel
theorem dX10_copy_4 : decode cX10_copy 4 = .ok (.ifCond .eq 10, 3) := by decide +kernel
theorem dX10_copy_7 : decode cX10_copy 7 = .ok (.iload_n 3, 1) := by decide +kernel
theorem dX10_copy_8 : decode cX10_copy 8 = .ok (.invokestatic 55, 3) := by decide +kernel
theorem dX10_copy_11 : decode cX10_copy 11 = .ok (.ifCond .ne 6, 3) := by decide +kernel
theorem dX10_copy_14 : decode cX10_copy 14 = .ok (.ldc 61, 2) := by decide +kernel
theorem dX10_copy_16 : decode cX10_copy 16 = .ok (.ireturn, 1) := by decide +kernel
theorem dX10_copy_17 : decode cX10_copy 17 = .ok (.aload_n 0, 1) := by decide +kernel
theorem dX10_copy_18 : decode cX10_copy 18 = .ok (.getfield 13, 3) := by decide +kernel
theorem dX10_copy_21 : decode cX10_copy 21 = .ok (.iload_n 1, 1) := by decide +kernel
theorem dX10_copy_22 : decode cX10_copy 22 = .ok (.iaload, 1) := by decide +kernel
theorem dX10_copy_23 : decode cX10_copy 23 = .ok (.ifCond .lt 12, 3) := by decide +kernel
theorem dX10_copy_26 : decode cX10_copy 26 = .ok (.aload_n 0, 1) := by decide +kernel
theorem dX10_copy_27 : decode cX10_copy 27 = .ok (.getfield 13, 3) := by decide +kernel
theorem dX10_copy_30 : decode cX10_copy 30 = .ok (.iload_n 3, 1) := by decide +kernel
theorem dX10_copy_31 : decode cX10_copy 31 = .ok (.iaload, 1) := by decide +kernel
theorem dX10_copy_32 : decode cX10_copy 32 = .ok (.ifCond .ge 9, 3) := by decide +kernel
theorem dX10_copy_35 : decode cX10_copy 35 = .ok (.aload_n 0, 1) := by decide +kernel
theorem dX10_copy_36 : decode cX10_copy 36 = .ok (.iconst 1, 1) := by decide +kernel
theorem dX10_copy_37 : decode cX10_copy 37 = .ok (.invokevirtual 62, 3) := by decide +kernel
theorem dX10_copy_40 : decode cX10_copy 40 = .ok (.ireturn, 1) := by decide +kernel
theorem dX10_copy_41 : decode cX10_copy 41 = .ok (.aload_n 0, 1) := by decide +kernel
theorem dX10_copy_42 : decode cX10_copy 42 = .ok (.getfield 7, 3) := by decide +kernel
theorem dX10_copy_45 : decode cX10_copy 45 = .ok (.iload_n 1, 1) := by decide +kernel
theorem dX10_copy_46 : decode cX10_copy 46 = .ok (.iaload, 1) := by decide +kernel
theorem dX10_copy_47 : decode cX10_copy 47 = .ok (.aload_n 0, 1) := by decide +kernel
theorem dX10_copy_48 : decode cX10_copy 48 = .ok (.getfield 7, 3) := by decide +kernel
theorem dX10_copy_51 : decode cX10_copy 51 = .ok (.iload_n 3, 1) := by decide +kernel
theorem dX10_copy_52 : decode cX10_copy 52 = .ok (.iaload, 1) := by decide +kernel
theorem dX10_copy_53 : decode cX10_copy 53 = .ok (.if_icmp .eq 9, 3) := by decide +kernel
theorem dX10_copy_56 : decode cX10_copy 56 = .ok (.aload_n 0, 1) := by decide +kernel
theorem dX10_copy_57 : decode cX10_copy 57 = .ok (.iconst 5, 1) := by decide +kernel
theorem dX10_copy_58 : decode cX10_copy 58 = .ok (.invokevirtual 62, 3) := by decide +kernel
theorem dX10_copy_61 : decode cX10_copy 61 = .ok (.ireturn, 1) := by decide +kernel
theorem dX10_copy_62 : decode cX10_copy 62 = .ok (.iload_n 2, 1) := by decide +kernel
theorem dX10_copy_63 : decode cX10_copy 63 = .ok (.ifCond .lt 48, 3) := by decide +kernel
theorem dX10_copy_66 : decode cX10_copy 66 = .ok (.iload 4, 2) := by decide +kernel
theorem dX10_copy_68 : decode cX10_copy 68 = .ok (.ifCond .lt 43, 3) := by decide +kernel
theorem dX10_copy_71 : decode cX10_copy 71 = .ok (.iload 5, 2) := by decide +kernel
theorem dX10_copy_73 : decode cX10_copy 73 = .ok (.ifCond .lt 38, 3) := by decide +kernel
theorem dX10_copy_76 : decode cX10_copy 76 = .ok (.iload_n 2, 1) := by decide +kernel
theorem dX10_copy_77 : decode cX10_copy 77 = .ok (.i2l, 1) := by decide +kernel
theorem dX10_copy_78 : decode cX10_copy 78 = .ok (.iload 5, 2) := by decide +kernel
theorem dX10_copy_80 : decode cX10_copy 80 = .ok (.i2l, 1) := by decide +kernel
theorem dX10_copy_81 : decode cX10_copy 81 = .ok (.ladd, 1) := by decide +kernel
theorem dX10_copy_82 : decode cX10_copy 82 = .ok (.aload_n 0, 1) := by decide +kernel
theorem dX10_copy_83 : decode cX10_copy 83 = .ok (.getfield 13, 3) := by decide +kernel
theorem dX10_copy_86 : decode cX10_copy 86 = .ok (.iload_n 1, 1) := by decide +kernel
theorem dX10_copy_87 : decode cX10_copy 87 = .ok (.iaload, 1) := by decide +kernel
theorem dX10_copy_88 : decode cX10_copy 88 = .ok (.i2l, 1) := by decide +kernel
theorem dX10_copy_89 : decode cX10_copy 89 = .ok (.lcmp, 1) := by decide +kernel
theorem dX10_copy_90 : decode cX10_copy 90 = .ok (.ifCond .gt 21, 3) := by decide +kernel
theorem dX10_copy_93 : decode cX10_copy 93 = .ok (.iload 4, 2) := by decide +kernel
theorem dX10_copy_95 : decode cX10_copy 95 = .ok (.i2l, 1) := by decide +kernel
theorem dX10_copy_96 : decode cX10_copy 96 = .ok (.iload 5, 2) := by decide +kernel
theorem dX10_copy_98 : decode cX10_copy 98 = .ok (.i2l, 1) := by decide +kernel
theorem dX10_copy_99 : decode cX10_copy 99 = .ok (.ladd, 1) := by decide +kernel
theorem dX10_copy_100 : decode cX10_copy 100 = .ok (.aload_n 0, 1) := by decide +kernel
theorem dX10_copy_101 : decode cX10_copy 101 = .ok (.getfield 13, 3) := by decide +kernel
theorem dX10_copy_104 : decode cX10_copy 104 = .ok (.iload_n 3, 1) := by decide +kernel
theorem dX10_copy_105 : decode cX10_copy 105 = .ok (.iaload, 1) := by decide +kernel
theorem dX10_copy_106 : decode cX10_copy 106 = .ok (.i2l, 1) := by decide +kernel
theorem dX10_copy_107 : decode cX10_copy 107 = .ok (.lcmp, 1) := by decide +kernel

theorem dX10_copy_108 : decode cX10_copy 108 = .ok (.ifCond .le 9, 3) := by decide +kernel
theorem dX10_copy_111 : decode cX10_copy 111 = .ok (.aload_n 0, 1) := by decide +kernel
theorem dX10_copy_112 : decode cX10_copy 112 = .ok (.iconst 2, 1) := by decide +kernel
theorem dX10_copy_113 : decode cX10_copy 113 = .ok (.invokevirtual 62, 3) := by decide +kernel
theorem dX10_copy_116 : decode cX10_copy 116 = .ok (.ireturn, 1) := by decide +kernel
theorem dX10_copy_117 : decode cX10_copy 117 = .ok (.iconst 0, 1) := by decide +kernel
theorem dX10_copy_118 : decode cX10_copy 118 = .ok (.istore 6, 2) := by decide +kernel
theorem dX10_copy_120 : decode cX10_copy 120 = .ok (.iload 6, 2) := by decide +kernel
theorem dX10_copy_122 : decode cX10_copy 122 = .ok (.iload 5, 2) := by decide +kernel
theorem dX10_copy_124 : decode cX10_copy 124 = .ok (.if_icmp .ge 58, 3) := by decide +kernel
theorem dX10_copy_127 : decode cX10_copy 127 = .ok (.iload 4, 2) := by decide +kernel
theorem dX10_copy_129 : decode cX10_copy 129 = .ok (.iload_n 2, 1) := by decide +kernel
theorem dX10_copy_130 : decode cX10_copy 130 = .ok (.if_icmp .le 13, 3) := by decide +kernel
theorem dX10_copy_133 : decode cX10_copy 133 = .ok (.iload 5, 2) := by decide +kernel
theorem dX10_copy_135 : decode cX10_copy 135 = .ok (.iconst 1, 1) := by decide +kernel
theorem dX10_copy_136 : decode cX10_copy 136 = .ok (.isub, 1) := by decide +kernel
theorem dX10_copy_137 : decode cX10_copy 137 = .ok (.iload 6, 2) := by decide +kernel
theorem dX10_copy_139 : decode cX10_copy 139 = .ok (.isub, 1) := by decide +kernel
theorem dX10_copy_140 : decode cX10_copy 140 = .ok (.goto 5, 3) := by decide +kernel
theorem dX10_copy_143 : decode cX10_copy 143 = .ok (.iload 6, 2) := by decide +kernel
theorem dX10_copy_145 : decode cX10_copy 145 = .ok (.istore 7, 2) := by decide +kernel
theorem dX10_copy_147 : decode cX10_copy 147 = .ok (.aload_n 0, 1) := by decide +kernel
theorem dX10_copy_148 : decode cX10_copy 148 = .ok (.getfield 16, 3) := by decide +kernel
theorem dX10_copy_151 : decode cX10_copy 151 = .ok (.bipush 40, 2) := by decide +kernel
theorem dX10_copy_153 : decode cX10_copy 153 = .ok (.iload_n 3, 1) := by decide +kernel
theorem dX10_copy_154 : decode cX10_copy 154 = .ok (.imul, 1) := by decide +kernel
theorem dX10_copy_155 : decode cX10_copy 155 = .ok (.iload 4, 2) := by decide +kernel
theorem dX10_copy_157 : decode cX10_copy 157 = .ok (.iadd, 1) := by decide +kernel
theorem dX10_copy_158 : decode cX10_copy 158 = .ok (.iload 7, 2) := by decide +kernel
theorem dX10_copy_160 : decode cX10_copy 160 = .ok (.iadd, 1) := by decide +kernel
theorem dX10_copy_161 : decode cX10_copy 161 = .ok (.aload_n 0, 1) := by decide +kernel
theorem dX10_copy_162 : decode cX10_copy 162 = .ok (.getfield 16, 3) := by decide +kernel
theorem dX10_copy_165 : decode cX10_copy 165 = .ok (.bipush 40, 2) := by decide +kernel
theorem dX10_copy_167 : decode cX10_copy 167 = .ok (.iload_n 1, 1) := by decide +kernel
theorem dX10_copy_168 : decode cX10_copy 168 = .ok (.imul, 1) := by decide +kernel
theorem dX10_copy_169 : decode cX10_copy 169 = .ok (.iload_n 2, 1) := by decide +kernel
theorem dX10_copy_170 : decode cX10_copy 170 = .ok (.iadd, 1) := by decide +kernel
theorem dX10_copy_171 : decode cX10_copy 171 = .ok (.iload 7, 2) := by decide +kernel
theorem dX10_copy_173 : decode cX10_copy 173 = .ok (.iadd, 1) := by decide +kernel
theorem dX10_copy_174 : decode cX10_copy 174 = .ok (.iaload, 1) := by decide +kernel
theorem dX10_copy_175 : decode cX10_copy 175 = .ok (.iastore, 1) := by decide +kernel
theorem dX10_copy_176 : decode cX10_copy 176 = .ok (.iinc 6 1, 3) := by decide +kernel
theorem dX10_copy_179 : decode cX10_copy 179 = .ok (.goto (-59), 3) := by decide +kernel
theorem dX10_copy_182 : decode cX10_copy 182 = .ok (.aload_n 0, 1) := by decide +kernel
theorem dX10_copy_183 : decode cX10_copy 183 = .ok (.iload 5, 2) := by decide +kernel
theorem dX10_copy_185 : decode cX10_copy 185 = .ok (.invokevirtual 66, 3) := by decide +kernel
theorem dX10_copy_188 : decode cX10_copy 188 = .ok (.ireturn, 1) := by decide +kernel
set_option maxRecDepth 20000 in
theorem ggX10_drop_X10_isRow : GoodIn wsX10_drop wsX10_isRow := goodIn_r _ [6, 7, 8, 9, 5, 10] (by decide +kernel) (by decide +kernel)
set_option maxRecDepth 20000 in
theorem gX10_drop_X10_isRow : GoodIn wsX10_drop (va_wsS RX10 55 yX10_isRow wsX10_isRow) := goodIn_app (goodIn_of _ (by decide +kernel)) ggX10_drop_X10_isRow
set_option maxRecDepth 20000 in
theorem ggX10_drop_X10_found : GoodIn wsX10_drop wsX10_found := goodIn_r _ [14, 15, 16, 21, 22, 23, 24, 25, 26, 27, 28, 29, 30, 31, 32, 33, 34, 35, 36, 37, 38, 39, 40, 41, 42, 43, 44] (by decide +kernel) (by decide +kernel)
set_option maxRecDepth 20000 in
theorem gX10_drop_X10_found : GoodIn wsX10_drop (wsV RX10 62 RX10 yX10_found wsX10_found) := goodIn_app (goodIn_of _ (by decide +kernel)) ggX10_drop_X10_found
set_option maxRecDepth 20000 in
theorem ggX10_drop_X10_well : GoodIn wsX10_drop wsX10_well := goodIn_r _ [20, 15, 21, 22, 23, 24, 25, 26, 27, 28, 29, 30, 31, 32, 33, 34, 35, 36, 37, 38, 39, 40, 41, 42, 43, 44] (by decide +kernel) (by decide +kernel)
set_option maxRecDepth 20000 in
theorem gX10_drop_X10_well : GoodIn wsX10_drop (wsV RX10 66 RX10 yX10_well wsX10_well) := goodIn_app (goodIn_of _ (by decide +kernel)) ggX10_drop_X10_well
theorem dX10_drop_0 : decode cX10_drop 0 = .ok (.iload_n 1, 1) := by decide +kernel
theorem dX10_drop_1 : decode cX10_drop 1 = .ok (.invokestatic 55, 3) := by decide +kernel
theorem dX10_drop_4 : decode cX10_drop 4 = .ok (.ifCond .ne 6, 3) := by decide +kernel
theorem dX10_drop_7 : decode cX10_drop 7 = .ok (.ldc 61, 2) := by decide +kernel
theorem dX10_drop_9 : decode cX10_drop 9 = .ok (.ireturn, 1) := by decide +kernel
theorem dX10_drop_10 : decode cX10_drop 10 = .ok (.aload_n 0, 1) := by decide +kernel
theorem dX10_drop_11 : decode cX10_drop 11 = .ok (.getfield 13, 3) := by decide +kernel
theorem dX10_drop_14 : decode cX10_drop 14 = .ok (.iload_n 1, 1) := by decide +kernel
theorem dX10_drop_15 : decode cX10_drop 15 = .ok (.iaload, 1) := by decide +kernel
theorem dX10_drop_16 : decode cX10_drop 16 = .ok (.ifCond .ge 9, 3) := by decide +kernel
theorem dX10_drop_19 : decode cX10_drop 19 = .ok (.aload_n 0, 1) := by decide +kernel
theorem dX10_drop_20 : decode cX10_drop 20 = .ok (.iconst 1, 1) := by decide +kernel
theorem dX10_drop_21 : decode cX10_drop 21 = .ok (.invokevirtual 62, 3) := by decide +kernel
theorem dX10_drop_24 : decode cX10_drop 24 = .ok (.ireturn, 1) := by decide +kernel
theorem dX10_drop_25 : decode cX10_drop 25 = .ok (.aload_n 0, 1) := by decide +kernel
theorem dX10_drop_26 : decode cX10_drop 26 = .ok (.getfield 13, 3) := by decide +kernel
theorem dX10_drop_29 : decode cX10_drop 29 = .ok (.iload_n 1, 1) := by decide +kernel
theorem dX10_drop_30 : decode cX10_drop 30 = .ok (.iaload, 1) := by decide +kernel
theorem dX10_drop_31 : decode cX10_drop 31 = .ok (.istore_n 2, 1) := by decide +kernel
theorem dX10_drop_32 : decode cX10_drop 32 = .ok (.aload_n 0, 1) := by decide +kernel
theorem dX10_drop_33 : decode cX10_drop 33 = .ok (.getfield 13, 3) := by decide +kernel
theorem dX10_drop_36 : decode cX10_drop 36 = .ok (.iload_n 1, 1) := by decide +kernel
theorem dX10_drop_37 : decode cX10_drop 37 = .ok (.iconst (-1), 1) := by decide +kernel
theorem dX10_drop_38 : decode cX10_drop 38 = .ok (.iastore, 1) := by decide +kernel
theorem dX10_drop_39 : decode cX10_drop 39 = .ok (.aload_n 0, 1) := by decide +kernel
theorem dX10_drop_40 : decode cX10_drop 40 = .ok (.iload_n 2, 1) := by decide +kernel
theorem dX10_drop_41 : decode cX10_drop 41 = .ok (.invokevirtual 66, 3) := by decide +kernel
theorem dX10_drop_44 : decode cX10_drop 44 = .ok (.ireturn, 1) := by decide +kernel
set_option maxRecDepth 20000 in
theorem ggX10_feed_X10_in : GoodIn wsX10_feed wsX10_in := goodIn_r _ [9] (by decide +kernel) (by decide +kernel)
set_option maxRecDepth 20000 in
theorem gX10_feed_X10_in : GoodIn wsX10_feed (va_wsS RX10 51 yX10_in wsX10_in) := goodIn_app (goodIn_of _ (by decide +kernel)) ggX10_feed_X10_in
theorem dX10_feed_0 : decode cX10_feed 0 = .ok (.iload_n 1, 1) := by decide +kernel
theorem dX10_feed_1 : decode cX10_feed 1 = .ok (.i2l, 1) := by decide +kernel
theorem dX10_feed_2 : decode cX10_feed 2 = .ok (.lconst 0, 1) := by decide +kernel
theorem dX10_feed_3 : decode cX10_feed 3 = .ok (.ldc2_w 69, 3) := by decide +kernel
theorem dX10_feed_6 : decode cX10_feed 6 = .ok (.invokestatic 51, 3) := by decide +kernel
theorem dX10_feed_9 : decode cX10_feed 9 = .ok (.ifCond .ne 6, 3) := by decide +kernel
theorem dX10_feed_12 : decode cX10_feed 12 = .ok (.ldc 61, 2) := by decide +kernel
theorem dX10_feed_14 : decode cX10_feed 14 = .ok (.ireturn, 1) := by decide +kernel
theorem dX10_feed_15 : decode cX10_feed 15 = .ok (.aload_n 0, 1) := by decide +kernel
theorem dX10_feed_16 : decode cX10_feed 16 = .ok (.getfield 71, 3) := by decide +kernel
theorem dX10_feed_19 : decode cX10_feed 19 = .ok (.bipush 120, 2) := by decide +kernel
theorem dX10_feed_21 : decode cX10_feed 21 = .ok (.if_icmp .ne 6, 3) := by decide +kernel
theorem dX10_feed_24 : decode cX10_feed 24 = .ok (.ldc 74, 2) := by decide +kernel
theorem dX10_feed_26 : decode cX10_feed 26 = .ok (.ireturn, 1) := by decide +kernel
theorem dX10_feed_27 : decode cX10_feed 27 = .ok (.aload_n 0, 1) := by decide +kernel
theorem dX10_feed_28 : decode cX10_feed 28 = .ok (.getfield 19, 3) := by decide +kernel
theorem dX10_feed_31 : decode cX10_feed 31 = .ok (.aload_n 0, 1) := by decide +kernel
theorem dX10_feed_32 : decode cX10_feed 32 = .ok (.getfield 71, 3) := by decide +kernel
theorem dX10_feed_35 : decode cX10_feed 35 = .ok (.iload_n 1, 1) := by decide +kernel
theorem dX10_feed_36 : decode cX10_feed 36 = .ok (.iastore, 1) := by decide +kernel
theorem dX10_feed_37 : decode cX10_feed 37 = .ok (.aload_n 0, 1) := by decide +kernel
theorem dX10_feed_38 : decode cX10_feed 38 = .ok (.dup, 1) := by decide +kernel
theorem dX10_feed_39 : decode cX10_feed 39 = .ok (.getfield 71, 3) := by decide +kernel
theorem dX10_feed_42 : decode cX10_feed 42 = .ok (.iconst 1, 1) := by decide +kernel
theorem dX10_feed_43 : decode cX10_feed 43 = .ok (.iadd, 1) := by decide +kernel
theorem dX10_feed_44 : decode cX10_feed 44 = .ok (.putfield 71, 3) := by decide +kernel
theorem dX10_feed_47 : decode cX10_feed 47 = .ok (.aload_n 0, 1) := by decide +kernel
theorem dX10_feed_48 : decode cX10_feed 48 = .ok (.getfield 71, 3) := by decide +kernel
theorem dX10_feed_51 : decode cX10_feed 51 = .ok (.ireturn, 1) := by decide +kernel
set_option maxRecDepth 20000 in
theorem ggX10_isFigure_X10_in : GoodIn wsX10_isFigure wsX10_in := goodIn_r _ [6] (by decide +kernel) (by decide +kernel)
set_option maxRecDepth 20000 in
theorem gX10_isFigure_X10_in : GoodIn wsX10_isFigure (va_wsS RX10 51 yX10_in wsX10_in) := goodIn_app (goodIn_of _ (by decide +kernel)) ggX10_isFigure_X10_in
theorem dX10_isFigure_0 : decode cX10_isFigure 0 = .ok (.iload_n 0, 1) := by decide +kernel
theorem dX10_isFigure_1 : decode cX10_isFigure 1 = .ok (.i2l, 1) := by decide +kernel
theorem dX10_isFigure_2 : decode cX10_isFigure 2 = .ok (.ldc2_w 75, 3) := by decide +kernel
theorem dX10_isFigure_5 : decode cX10_isFigure 5 = .ok (.ldc2_w 77, 3) := by decide +kernel
theorem dX10_isFigure_8 : decode cX10_isFigure 8 = .ok (.invokestatic 51, 3) := by decide +kernel
theorem dX10_isFigure_11 : decode cX10_isFigure 11 = .ok (.ireturn, 1) := by decide +kernel
set_option maxRecDepth 20000 in
theorem ggX10_next_X10_in : GoodIn wsX10_next wsX10_in := goodIn_r _ [12] (by decide +kernel) (by decide +kernel)
set_option maxRecDepth 20000 in
theorem gX10_next_X10_in : GoodIn wsX10_next (va_wsS RX10 51 yX10_in wsX10_in) := goodIn_app (goodIn_of _ (by decide +kernel)) ggX10_next_X10_in
set_option maxRecDepth 20000 in
theorem ggX10_next_X10_isFigure : GoodIn wsX10_next wsX10_isFigure := goodIn_r _ [15, 16, 17, 9, 10, 11, 12] (by decide +kernel) (by decide +kernel)
set_option maxRecDepth 20000 in
theorem gX10_next_X10_isFigure : GoodIn wsX10_next (va_wsS RX10 92 yX10_isFigure wsX10_isFigure) := goodIn_app (goodIn_of _ (by decide +kernel)) ggX10_next_X10_isFigure
theorem dX10_next_0 : decode cX10_next 0 = .ok (.aload_n 0, 1) := by decide +kernel
theorem dX10_next_1 : decode cX10_next 1 = .ok (.aload_n 0, 1) := by decide +kernel
theorem dX10_next_2 : decode cX10_next 2 = .ok (.getfield 79, 3) := by decide +kernel
theorem dX10_next_5 : decode cX10_next 5 = .ok (.putfield 82, 3) := by decide +kernel
theorem dX10_next_8 : decode cX10_next 8 = .ok (.aload_n 0, 1) := by decide +kernel
theorem dX10_next_9 : decode cX10_next 9 = .ok (.getfield 79, 3) := by decide +kernel
theorem dX10_next_12 : decode cX10_next 12 = .ok (.aload_n 0, 1) := by decide +kernel
theorem dX10_next_13 : decode cX10_next 13 = .ok (.getfield 85, 3) := by decide +kernel
theorem dX10_next_16 : decode cX10_next 16 = .ok (.if_icmp .ge 15, 3) := by decide +kernel
theorem dX10_next_19 : decode cX10_next 19 = .ok (.aload_n 0, 1) := by decide +kernel
theorem dX10_next_20 : decode cX10_next 20 = .ok (.getfield 19, 3) := by decide +kernel
theorem dX10_next_23 : decode cX10_next 23 = .ok (.aload_n 0, 1) := by decide +kernel
theorem dX10_next_24 : decode cX10_next 24 = .ok (.getfield 79, 3) := by decide +kernel
theorem dX10_next_27 : decode cX10_next 27 = .ok (.iaload, 1) := by decide +kernel
theorem dX10_next_28 : decode cX10_next 28 = .ok (.goto 4, 3) := by decide +kernel
theorem dX10_next_31 : decode cX10_next 31 = .ok (.iconst (-1), 1) := by decide +kernel
theorem dX10_next_32 : decode cX10_next 32 = .ok (.istore_n 1, 1) := by decide +kernel
theorem dX10_next_33 : decode cX10_next 33 = .ok (.aload_n 0, 1) := by decide +kernel
theorem dX10_next_34 : decode cX10_next 34 = .ok (.iload_n 1, 1) := by decide +kernel
theorem dX10_next_35 : decode cX10_next 35 = .ok (.ifCond .ge 7, 3) := by decide +kernel
theorem dX10_next_38 : decode cX10_next 38 = .ok (.iconst 0, 1) := by decide +kernel
theorem dX10_next_39 : decode cX10_next 39 = .ok (.goto 53, 3) := by decide +kernel
theorem dX10_next_42 : decode cX10_next 42 = .ok (.iload_n 1, 1) := by decide +kernel
theorem dX10_next_43 : decode cX10_next 43 = .ok (.i2l, 1) := by decide +kernel
theorem dX10_next_44 : decode cX10_next 44 = .ok (.ldc2_w 88, 3) := by decide +kernel
theorem dX10_next_47 : decode cX10_next 47 = .ok (.ldc2_w 90, 3) := by decide +kernel
theorem dX10_next_50 : decode cX10_next 50 = .ok (.invokestatic 51, 3) := by decide +kernel
theorem dX10_next_53 : decode cX10_next 53 = .ok (.ifCond .eq 7, 3) := by decide +kernel
theorem dX10_next_56 : decode cX10_next 56 = .ok (.iconst 1, 1) := by decide +kernel
theorem dX10_next_57 : decode cX10_next 57 = .ok (.goto 35, 3) := by decide +kernel
theorem dX10_next_60 : decode cX10_next 60 = .ok (.iload_n 1, 1) := by decide +kernel
theorem dX10_next_61 : decode cX10_next 61 = .ok (.invokestatic 92, 3) := by decide +kernel
theorem dX10_next_64 : decode cX10_next 64 = .ok (.ifCond .eq 7, 3) := by decide +kernel
theorem dX10_next_67 : decode cX10_next 67 = .ok (.iconst 2, 1) := by decide +kernel
theorem dX10_next_68 : decode cX10_next 68 = .ok (.goto 24, 3) := by decide +kernel
theorem dX10_next_71 : decode cX10_next 71 = .ok (.iload_n 1, 1) := by decide +kernel
theorem dX10_next_72 : decode cX10_next 72 = .ok (.bipush 44, 2) := by decide +kernel
theorem dX10_next_74 : decode cX10_next 74 = .ok (.if_icmp .ne 7, 3) := by decide +kernel
theorem dX10_next_77 : decode cX10_next 77 = .ok (.iconst 3, 1) := by decide +kernel
theorem dX10_next_78 : decode cX10_next 78 = .ok (.goto 14, 3) := by decide +kernel
theorem dX10_next_81 : decode cX10_next 81 = .ok (.iload_n 1, 1) := by decide +kernel
theorem dX10_next_82 : decode cX10_next 82 = .ok (.bipush 59, 2) := by decide +kernel
theorem dX10_next_84 : decode cX10_next 84 = .ok (.if_icmp .ne 7, 3) := by decide +kernel
theorem dX10_next_87 : decode cX10_next 87 = .ok (.iconst 4, 1) := by decide +kernel
theorem dX10_next_88 : decode cX10_next 88 = .ok (.goto 4, 3) := by decide +kernel
theorem dX10_next_91 : decode cX10_next 91 = .ok (.iconst 5, 1) := by decide +kernel
theorem dX10_next_92 : decode cX10_next 92 = .ok (.putfield 95, 3) := by decide +kernel
theorem dX10_next_95 : decode cX10_next 95 = .ok (.aload_n 0, 1) := by decide +kernel
theorem dX10_next_96 : decode cX10_next 96 = .ok (.aload_n 0, 1) := by decide +kernel
theorem dX10_next_97 : decode cX10_next 97 = .ok (.getfield 95, 3) := by decide +kernel
theorem dX10_next_100 : decode cX10_next 100 = .ok (.iconst 1, 1) := by decide +kernel
theorem dX10_next_101 : decode cX10_next 101 = .ok (.if_icmp .ne 7, 3) := by decide +kernel
theorem dX10_next_104 : decode cX10_next 104 = .ok (.iload_n 1, 1) := by decide +kernel
theorem dX10_next_105 : decode cX10_next 105 = .ok (.goto 4, 3) := by decide +kernel
theorem dX10_next_108 : decode cX10_next 108 = .ok (.iconst 0, 1) := by decide +kernel
theorem dX10_next_109 : decode cX10_next 109 = .ok (.putfield 98, 3) := by decide +kernel
theorem dX10_next_112 : decode cX10_next 112 = .ok (.aload_n 0, 1) := by decide +kernel
theorem dX10_next_113 : decode cX10_next 113 = .ok (.dup, 1) := by decide +kernel
theorem dX10_next_114 : decode cX10_next 114 = .ok (.getfield 79, 3) := by decide +kernel
theorem dX10_next_117 : decode cX10_next 117 = .ok (.aload_n 0, 1) := by decide +kernel
theorem dX10_next_118 : decode cX10_next 118 = .ok (.getfield 95, 3) := by decide +kernel
theorem dX10_next_121 : decode cX10_next 121 = .ok (.ifCond .le 15, 3) := by decide +kernel
theorem dX10_next_124 : decode cX10_next 124 = .ok (.aload_n 0, 1) := by decide +kernel
theorem dX10_next_125 : decode cX10_next 125 = .ok (.getfield 95, 3) := by decide +kernel
theorem dX10_next_128 : decode cX10_next 128 = .ok (.iconst 2, 1) := by decide +kernel
theorem dX10_next_129 : decode cX10_next 129 = .ok (.if_icmp .eq 7, 3) := by decide +kernel
theorem dX10_next_132 : decode cX10_next 132 = .ok (.iconst 1, 1) := by decide +kernel
theorem dX10_next_133 : decode cX10_next 133 = .ok (.goto 4, 3) := by decide +kernel
theorem dX10_next_136 : decode cX10_next 136 = .ok (.iconst 0, 1) := by decide +kernel
theorem dX10_next_137 : decode cX10_next 137 = .ok (.iadd, 1) := by decide +kernel
theorem dX10_next_138 : decode cX10_next 138 = .ok (.putfield 79, 3) := by decide +kernel
theorem dX10_next_141 : decode cX10_next 141 = .ok (.aload_n 0, 1) := by decide +kernel
theorem dX10_next_142 : decode cX10_next 142 = .ok (.getfield 95, 3) := by decide +kernel
theorem dX10_next_145 : decode cX10_next 145 = .ok (.iconst 2, 1) := by decide +kernel
theorem dX10_next_146 : decode cX10_next 146 = .ok (.if_icmp .ne 86, 3) := by decide +kernel
theorem dX10_next_149 : decode cX10_next 149 = .ok (.aload_n 0, 1) := by decide +kernel
theorem dX10_next_150 : decode cX10_next 150 = .ok (.getfield 79, 3) := by decide +kernel
theorem dX10_next_153 : decode cX10_next 153 = .ok (.aload_n 0, 1) := by decide +kernel
theorem dX10_next_154 : decode cX10_next 154 = .ok (.getfield 85, 3) := by decide +kernel
theorem dX10_next_157 : decode cX10_next 157 = .ok (.if_icmp .ge 75, 3) := by decide +kernel
theorem dX10_next_160 : decode cX10_next 160 = .ok (.aload_n 0, 1) := by decide +kernel
theorem dX10_next_161 : decode cX10_next 161 = .ok (.getfield 19, 3) := by decide +kernel
theorem dX10_next_164 : decode cX10_next 164 = .ok (.aload_n 0, 1) := by decide +kernel
theorem dX10_next_165 : decode cX10_next 165 = .ok (.getfield 79, 3) := by decide +kernel
theorem dX10_next_168 : decode cX10_next 168 = .ok (.iaload, 1) := by decide +kernel
theorem dX10_next_169 : decode cX10_next 169 = .ok (.invokestatic 92, 3) := by decide +kernel
theorem dX10_next_172 : decode cX10_next 172 = .ok (.ifCond .eq 60, 3) := by decide +kernel
theorem dX10_next_175 : decode cX10_next 175 = .ok (.aload_n 0, 1) := by decide +kernel
theorem dX10_next_176 : decode cX10_next 176 = .ok (.aload_n 0, 1) := by decide +kernel
theorem dX10_next_177 : decode cX10_next 177 = .ok (.getfield 79, 3) := by decide +kernel
theorem dX10_next_180 : decode cX10_next 180 = .ok (.aload_n 0, 1) := by decide +kernel
theorem dX10_next_181 : decode cX10_next 181 = .ok (.getfield 82, 3) := by decide +kernel
theorem dX10_next_184 : decode cX10_next 184 = .ok (.isub, 1) := by decide +kernel
theorem dX10_next_185 : decode cX10_next 185 = .ok (.iconst 2, 1) := by decide +kernel
theorem dX10_next_186 : decode cX10_next 186 = .ok (.if_icmp .ge 26, 3) := by decide +kernel
theorem dX10_next_189 : decode cX10_next 189 = .ok (.bipush 10, 2) := by decide +kernel
theorem dX10_next_191 : decode cX10_next 191 = .ok (.aload_n 0, 1) := by decide +kernel
theorem dX10_next_192 : decode cX10_next 192 = .ok (.getfield 98, 3) := by decide +kernel
theorem dX10_next_195 : decode cX10_next 195 = .ok (.imul, 1) := by decide +kernel
theorem dX10_next_196 : decode cX10_next 196 = .ok (.aload_n 0, 1) := by decide +kernel
theorem dX10_next_197 : decode cX10_next 197 = .ok (.getfield 19, 3) := by decide +kernel
theorem dX10_next_200 : decode cX10_next 200 = .ok (.aload_n 0, 1) := by decide +kernel
theorem dX10_next_201 : decode cX10_next 201 = .ok (.getfield 79, 3) := by decide +kernel
theorem dX10_next_204 : decode cX10_next 204 = .ok (.iaload, 1) := by decide +kernel
theorem dX10_next_205 : decode cX10_next 205 = .ok (.iadd, 1) := by decide +kernel
theorem dX10_next_206 : decode cX10_next 206 = .ok (.bipush 48, 2) := by decide +kernel
theorem dX10_next_208 : decode cX10_next 208 = .ok (.isub, 1) := by decide +kernel
theorem dX10_next_209 : decode cX10_next 209 = .ok (.goto 7, 3) := by decide +kernel
theorem dX10_next_212 : decode cX10_next 212 = .ok (.aload_n 0, 1) := by decide +kernel
theorem dX10_next_213 : decode cX10_next 213 = .ok (.getfield 98, 3) := by decide +kernel
theorem dX10_next_216 : decode cX10_next 216 = .ok (.putfield 98, 3) := by decide +kernel
theorem dX10_next_219 : decode cX10_next 219 = .ok (.aload_n 0, 1) := by decide +kernel
theorem dX10_next_220 : decode cX10_next 220 = .ok (.dup, 1) := by decide +kernel
theorem dX10_next_221 : decode cX10_next 221 = .ok (.getfield 79, 3) := by decide +kernel
theorem dX10_next_224 : decode cX10_next 224 = .ok (.iconst 1, 1) := by decide +kernel
theorem dX10_next_225 : decode cX10_next 225 = .ok (.iadd, 1) := by decide +kernel
theorem dX10_next_226 : decode cX10_next 226 = .ok (.putfield 79, 3) := by decide +kernel
theorem dX10_next_229 : decode cX10_next 229 = .ok (.goto (-88), 3) := by decide +kernel
theorem dX10_next_232 : decode cX10_next 232 = .ok (.aload_n 0, 1) := by decide +kernel
theorem dX10_next_233 : decode cX10_next 233 = .ok (.aload_n 0, 1) := by decide +kernel
theorem dX10_next_234 : decode cX10_next 234 = .ok (.getfield 95, 3) := by decide +kernel
theorem dX10_next_237 : decode cX10_next 237 = .ok (.iconst 2, 1) := by decide +kernel
theorem dX10_next_238 : decode cX10_next 238 = .ok (.if_icmp .ne 20, 3) := by decide +kernel
theorem dX10_next_241 : decode cX10_next 241 = .ok (.aload_n 0, 1) := by decide +kernel
theorem dX10_next_242 : decode cX10_next 242 = .ok (.getfield 79, 3) := by decide +kernel
theorem dX10_next_245 : decode cX10_next 245 = .ok (.aload_n 0, 1) := by decide +kernel
theorem dX10_next_246 : decode cX10_next 246 = .ok (.getfield 82, 3) := by decide +kernel
theorem dX10_next_249 : decode cX10_next 249 = .ok (.isub, 1) := by decide +kernel
theorem dX10_next_250 : decode cX10_next 250 = .ok (.iconst 2, 1) := by decide +kernel
theorem dX10_next_251 : decode cX10_next 251 = .ok (.if_icmp .le 7, 3) := by decide +kernel
theorem dX10_next_254 : decode cX10_next 254 = .ok (.iconst 5, 1) := by decide +kernel
theorem dX10_next_255 : decode cX10_next 255 = .ok (.goto 7, 3) := by decide +kernel
theorem dX10_next_258 : decode cX10_next 258 = .ok (.aload_n 0, 1) := by decide +kernel
theorem dX10_next_259 : decode cX10_next 259 = .ok (.getfield 95, 3) := by decide +kernel
theorem dX10_next_262 : decode cX10_next 262 = .ok (.putfield 95, 3) := by decide +kernel
theorem dX10_next_265 : decode cX10_next 265 = .ok (.return_, 1) := by decide +kernel
theorem dX10_fails_0 : decode cX10_fails 0 = .ok (.aload_n 0, 1) := by decide +kernel
theorem dX10_fails_1 : decode cX10_fails 1 = .ok (.iload_n 1, 1) := by decide +kernel
theorem dX10_fails_2 : decode cX10_fails 2 = .ok (.putfield 101, 3) := by decide +kernel
theorem dX10_fails_5 : decode cX10_fails 5 = .ok (.iconst 0, 1) := by decide +kernel
theorem dX10_fails_6 : decode cX10_fails 6 = .ok (.ireturn, 1) := by decide +kernel
set_option maxRecDepth 20000 in
theorem ggX10_number_X10_next : GoodIn wsX10_number wsX10_next := goodIn_r _ [8, 9, 10, 11, 12, 13, 14, 1, 2, 15, 16, 7, 17, 18, 19, 20, 21, 22, 28, 29, 30, 31, 32, 33, 34, 35, 36, 37, 38, 39, 40, 41, 42, 43, 44, 45, 46, 47, 48, 49, 50, 51] (by decide +kernel) (by decide +kernel)
set_option maxRecDepth 20000 in
theorem gX10_number_X10_next : GoodIn wsX10_number (wsV RX10 104 RX10 yX10_next wsX10_next) := goodIn_app (goodIn_of _ (by decide +kernel)) ggX10_number_X10_next
set_option maxRecDepth 20000 in
theorem ggX10_number_X10_fails : GoodIn wsX10_number wsX10_fails := goodIn_r _ [26, 27, 28, 29, 30, 31, 32, 33, 34, 35, 36, 37, 38, 39, 40, 41, 42, 43, 44, 45, 46, 47, 48, 49, 50, 51] (by decide +kernel) (by decide +kernel)
set_option maxRecDepth 20000 in
theorem gX10_number_X10_fails : GoodIn wsX10_number (wsV RX10 107 RX10 yX10_fails wsX10_fails) := goodIn_app (goodIn_of _ (by decide +kernel)) ggX10_number_X10_fails
set_option maxRecDepth 20000 in
theorem ggX10_number_X10_in : GoodIn wsX10_number wsX10_in := goodIn_r _ [17] (by decide +kernel) (by decide +kernel)
set_option maxRecDepth 20000 in
theorem gX10_number_X10_in : GoodIn wsX10_number (va_wsS RX10 51 yX10_in wsX10_in) := goodIn_app (goodIn_of _ (by decide +kernel)) ggX10_number_X10_in
theorem dX10_number_0 : decode cX10_number 0 = .ok (.aload_n 0, 1) := by decide +kernel
theorem dX10_number_1 : decode cX10_number 1 = .ok (.invokevirtual 104, 3) := by decide +kernel
theorem dX10_number_4 : decode cX10_number 4 = .ok (.aload_n 0, 1) := by decide +kernel
theorem dX10_number_5 : decode cX10_number 5 = .ok (.getfield 95, 3) := by decide +kernel
theorem dX10_number_8 : decode cX10_number 8 = .ok (.iconst 2, 1) := by decide +kernel
theorem dX10_number_9 : decode cX10_number 9 = .ok (.if_icmp .eq 9, 3) := by decide +kernel
theorem dX10_number_12 : decode cX10_number 12 = .ok (.aload_n 0, 1) := by decide +kernel
theorem dX10_number_13 : decode cX10_number 13 = .ok (.iconst 1, 1) := by decide +kernel
theorem dX10_number_14 : decode cX10_number 14 = .ok (.invokevirtual 107, 3) := by decide +kernel
theorem dX10_number_17 : decode cX10_number 17 = .ok (.ireturn, 1) := by decide +kernel
theorem dX10_number_18 : decode cX10_number 18 = .ok (.aload_n 0, 1) := by decide +kernel
theorem dX10_number_19 : decode cX10_number 19 = .ok (.getfield 98, 3) := by decide +kernel
theorem dX10_number_22 : decode cX10_number 22 = .ok (.i2l, 1) := by decide +kernel
theorem dX10_number_23 : decode cX10_number 23 = .ok (.iload_n 2, 1) := by decide +kernel
theorem dX10_number_24 : decode cX10_number 24 = .ok (.i2l, 1) := by decide +kernel
theorem dX10_number_25 : decode cX10_number 25 = .ok (.iload_n 3, 1) := by decide +kernel
theorem dX10_number_26 : decode cX10_number 26 = .ok (.i2l, 1) := by decide +kernel
theorem dX10_number_27 : decode cX10_number 27 = .ok (.invokestatic 51, 3) := by decide +kernel
theorem dX10_number_30 : decode cX10_number 30 = .ok (.ifCond .ne 9, 3) := by decide +kernel
theorem dX10_number_33 : decode cX10_number 33 = .ok (.aload_n 0, 1) := by decide +kernel
theorem dX10_number_34 : decode cX10_number 34 = .ok (.iconst 2, 1) := by decide +kernel
theorem dX10_number_35 : decode cX10_number 35 = .ok (.invokevirtual 107, 3) := by decide +kernel
theorem dX10_number_38 : decode cX10_number 38 = .ok (.ireturn, 1) := by decide +kernel
theorem dX10_number_39 : decode cX10_number 39 = .ok (.aload_n 0, 1) := by decide +kernel
theorem dX10_number_40 : decode cX10_number 40 = .ok (.getfield 38, 3) := by decide +kernel
theorem dX10_number_43 : decode cX10_number 43 = .ok (.iload_n 1, 1) := by decide +kernel
theorem dX10_number_44 : decode cX10_number 44 = .ok (.aload_n 0, 1) := by decide +kernel
theorem dX10_number_45 : decode cX10_number 45 = .ok (.getfield 98, 3) := by decide +kernel
theorem dX10_number_48 : decode cX10_number 48 = .ok (.iastore, 1) := by decide +kernel
theorem dX10_number_49 : decode cX10_number 49 = .ok (.iconst 1, 1) := by decide +kernel
theorem dX10_number_50 : decode cX10_number 50 = .ok (.ireturn, 1) := by decide +kernel
set_option maxRecDepth 20000 in
theorem ggX10_sign_X10_next : GoodIn wsX10_sign wsX10_next := goodIn_r _ [6, 7, 8, 9, 10, 11, 12, 1, 13, 14, 15, 5, 16, 17, 18, 19, 20, 21, 27, 28, 29, 30, 31, 32, 33, 34, 35, 36, 37, 38, 39, 40, 41, 42, 43, 44, 45, 46, 47, 48, 49, 50] (by decide +kernel) (by decide +kernel)
set_option maxRecDepth 20000 in
theorem gX10_sign_X10_next : GoodIn wsX10_sign (wsV RX10 104 RX10 yX10_next wsX10_next) := goodIn_app (goodIn_of _ (by decide +kernel)) ggX10_sign_X10_next
set_option maxRecDepth 20000 in
theorem ggX10_sign_X10_fails : GoodIn wsX10_sign wsX10_fails := goodIn_r _ [25, 26, 27, 28, 29, 30, 31, 32, 33, 34, 35, 36, 37, 38, 39, 40, 41, 42, 43, 44, 45, 46, 47, 48, 49, 50] (by decide +kernel) (by decide +kernel)
set_option maxRecDepth 20000 in
theorem gX10_sign_X10_fails : GoodIn wsX10_sign (wsV RX10 107 RX10 yX10_fails wsX10_fails) := goodIn_app (goodIn_of _ (by decide +kernel)) ggX10_sign_X10_fails
theorem dX10_sign_0 : decode cX10_sign 0 = .ok (.aload_n 0, 1) := by decide +kernel
theorem dX10_sign_1 : decode cX10_sign 1 = .ok (.invokevirtual 104, 3) := by decide +kernel
theorem dX10_sign_4 : decode cX10_sign 4 = .ok (.aload_n 0, 1) := by decide +kernel
theorem dX10_sign_5 : decode cX10_sign 5 = .ok (.getfield 95, 3) := by decide +kernel
theorem dX10_sign_8 : decode cX10_sign 8 = .ok (.iload_n 1, 1) := by decide +kernel
theorem dX10_sign_9 : decode cX10_sign 9 = .ok (.if_icmp .eq 11, 3) := by decide +kernel
theorem dX10_sign_12 : decode cX10_sign 12 = .ok (.aload_n 0, 1) := by decide +kernel
theorem dX10_sign_13 : decode cX10_sign 13 = .ok (.iconst 1, 1) := by decide +kernel
theorem dX10_sign_14 : decode cX10_sign 14 = .ok (.invokevirtual 107, 3) := by decide +kernel
theorem dX10_sign_17 : decode cX10_sign 17 = .ok (.ifCond .eq 7, 3) := by decide +kernel
theorem dX10_sign_20 : decode cX10_sign 20 = .ok (.iconst 1, 1) := by decide +kernel
theorem dX10_sign_21 : decode cX10_sign 21 = .ok (.goto 4, 3) := by decide +kernel
theorem dX10_sign_24 : decode cX10_sign 24 = .ok (.iconst 0, 1) := by decide +kernel
theorem dX10_sign_25 : decode cX10_sign 25 = .ok (.ireturn, 1) := by decide +kernel
set_option maxRecDepth 20000 in
theorem ggX10_letter_X10_next : GoodIn wsX10_letter wsX10_next := goodIn_r _ [7, 8, 9, 10, 11, 12, 13, 1, 2, 14, 15, 6, 16, 17, 18, 19, 20, 21, 27, 28, 29, 30, 31, 32, 33, 34, 35, 36, 37, 38, 39, 40, 41, 42, 43, 44, 45, 46, 47, 48, 49, 50] (by decide +kernel) (by decide +kernel)
set_option maxRecDepth 20000 in
theorem gX10_letter_X10_next : GoodIn wsX10_letter (wsV RX10 104 RX10 yX10_next wsX10_next) := goodIn_app (goodIn_of _ (by decide +kernel)) ggX10_letter_X10_next
set_option maxRecDepth 20000 in
theorem ggX10_letter_X10_fails : GoodIn wsX10_letter wsX10_fails := goodIn_r _ [25, 26, 27, 28, 29, 30, 31, 32, 33, 34, 35, 36, 37, 38, 39, 40, 41, 42, 43, 44, 45, 46, 47, 48, 49, 50] (by decide +kernel) (by decide +kernel)
set_option maxRecDepth 20000 in
theorem gX10_letter_X10_fails : GoodIn wsX10_letter (wsV RX10 107 RX10 yX10_fails wsX10_fails) := goodIn_app (goodIn_of _ (by decide +kernel)) ggX10_letter_X10_fails
theorem dX10_letter_0 : decode cX10_letter 0 = .ok (.aload_n 0, 1) := by decide +kernel
theorem dX10_letter_1 : decode cX10_letter 1 = .ok (.invokevirtual 104, 3) := by decide +kernel
theorem dX10_letter_4 : decode cX10_letter 4 = .ok (.aload_n 0, 1) := by decide +kernel
theorem dX10_letter_5 : decode cX10_letter 5 = .ok (.getfield 95, 3) := by decide +kernel
theorem dX10_letter_8 : decode cX10_letter 8 = .ok (.iconst 1, 1) := by decide +kernel
theorem dX10_letter_9 : decode cX10_letter 9 = .ok (.if_icmp .ne 11, 3) := by decide +kernel
theorem dX10_letter_12 : decode cX10_letter 12 = .ok (.aload_n 0, 1) := by decide +kernel
theorem dX10_letter_13 : decode cX10_letter 13 = .ok (.getfield 98, 3) := by decide +kernel
theorem dX10_letter_16 : decode cX10_letter 16 = .ok (.iload_n 1, 1) := by decide +kernel
theorem dX10_letter_17 : decode cX10_letter 17 = .ok (.if_icmp .eq 11, 3) := by decide +kernel
theorem dX10_letter_20 : decode cX10_letter 20 = .ok (.aload_n 0, 1) := by decide +kernel
theorem dX10_letter_21 : decode cX10_letter 21 = .ok (.iconst 1, 1) := by decide +kernel
theorem dX10_letter_22 : decode cX10_letter 22 = .ok (.invokevirtual 107, 3) := by decide +kernel
theorem dX10_letter_25 : decode cX10_letter 25 = .ok (.ifCond .eq 7, 3) := by decide +kernel
theorem dX10_letter_28 : decode cX10_letter 28 = .ok (.iconst 1, 1) := by decide +kernel
theorem dX10_letter_29 : decode cX10_letter 29 = .ok (.goto 4, 3) := by decide +kernel
theorem dX10_letter_32 : decode cX10_letter 32 = .ok (.iconst 0, 1) := by decide +kernel
theorem dX10_letter_33 : decode cX10_letter 33 = .ok (.ireturn, 1) := by decide +kernel
set_option maxRecDepth 20000 in
theorem ggX10_readsLaw_X10_letter : GoodIn wsX10_readsLaw wsX10_letter := goodIn_r _ [5, 6, 7, 8, 9, 10, 4, 11, 12, 13, 14, 15, 16, 17, 18, 19, 20, 21, 22, 23, 24, 25, 26, 27, 28, 29, 30, 40, 41, 42, 43, 44, 45, 46, 47, 48, 49, 50, 51, 52, 53, 54, 55, 56, 57, 58, 59, 60, 61, 62, 63] (by decide +kernel) (by decide +kernel)
set_option maxRecDepth 20000 in
theorem gX10_readsLaw_X10_letter : GoodIn wsX10_readsLaw (wsV RX10 110 RX10 yX10_letter wsX10_letter) := goodIn_app (goodIn_of _ (by decide +kernel)) ggX10_readsLaw_X10_letter
set_option maxRecDepth 20000 in
theorem ggX10_readsLaw_X10_number : GoodIn wsX10_readsLaw wsX10_number := goodIn_r _ [34, 6, 7, 35, 8, 9, 10, 4, 11, 12, 13, 14, 15, 16, 17, 18, 19, 20, 21, 22, 23, 24, 25, 26, 27, 28, 29, 30, 40, 41, 42, 43, 44, 45, 46, 47, 48, 49, 50, 51, 52, 53, 54, 55, 56, 57, 58, 59, 60, 61, 62, 63] (by decide +kernel) (by decide +kernel)
set_option maxRecDepth 20000 in
theorem gX10_readsLaw_X10_number : GoodIn wsX10_readsLaw (wsV RX10 113 RX10 yX10_number wsX10_number) := goodIn_app (goodIn_of _ (by decide +kernel)) ggX10_readsLaw_X10_number
set_option maxRecDepth 20000 in
theorem ggX10_readsLaw_X10_sign : GoodIn wsX10_readsLaw wsX10_sign := goodIn_r _ [39, 6, 8, 9, 10, 4, 11, 12, 13, 14, 15, 16, 17, 7, 18, 19, 20, 21, 22, 23, 24, 25, 26, 27, 28, 29, 30, 40, 41, 42, 43, 44, 45, 46, 47, 48, 49, 50, 51, 52, 53, 54, 55, 56, 57, 58, 59, 60, 61, 62, 63] (by decide +kernel) (by decide +kernel)
set_option maxRecDepth 20000 in
theorem gX10_readsLaw_X10_sign : GoodIn wsX10_readsLaw (wsV RX10 117 RX10 yX10_sign wsX10_sign) := goodIn_app (goodIn_of _ (by decide +kernel)) ggX10_readsLaw_X10_sign
theorem dX10_readsLaw_0 : decode cX10_readsLaw 0 = .ok (.aload_n 0, 1) := by decide +kernel
theorem dX10_readsLaw_1 : decode cX10_readsLaw 1 = .ok (.bipush 108, 2) := by decide +kernel
theorem dX10_readsLaw_3 : decode cX10_readsLaw 3 = .ok (.invokevirtual 110, 3) := by decide +kernel
theorem dX10_readsLaw_6 : decode cX10_readsLaw 6 = .ok (.ifCond .eq 33, 3) := by decide +kernel
theorem dX10_readsLaw_9 : decode cX10_readsLaw 9 = .ok (.aload_n 0, 1) := by decide +kernel
theorem dX10_readsLaw_10 : decode cX10_readsLaw 10 = .ok (.iconst 0, 1) := by decide +kernel
theorem dX10_readsLaw_11 : decode cX10_readsLaw 11 = .ok (.iconst 4, 1) := by decide +kernel
theorem dX10_readsLaw_12 : decode cX10_readsLaw 12 = .ok (.bipush 24, 2) := by decide +kernel
theorem dX10_readsLaw_14 : decode cX10_readsLaw 14 = .ok (.invokevirtual 113, 3) := by decide +kernel
theorem dX10_readsLaw_17 : decode cX10_readsLaw 17 = .ok (.ifCond .eq 22, 3) := by decide +kernel
theorem dX10_readsLaw_20 : decode cX10_readsLaw 20 = .ok (.aload_n 0, 1) := by decide +kernel
theorem dX10_readsLaw_21 : decode cX10_readsLaw 21 = .ok (.iconst 3, 1) := by decide +kernel
theorem dX10_readsLaw_22 : decode cX10_readsLaw 22 = .ok (.invokevirtual 117, 3) := by decide +kernel
theorem dX10_readsLaw_25 : decode cX10_readsLaw 25 = .ok (.ifCond .eq 14, 3) := by decide +kernel
theorem dX10_readsLaw_28 : decode cX10_readsLaw 28 = .ok (.aload_n 0, 1) := by decide +kernel
theorem dX10_readsLaw_29 : decode cX10_readsLaw 29 = .ok (.iconst 1, 1) := by decide +kernel
theorem dX10_readsLaw_30 : decode cX10_readsLaw 30 = .ok (.iconst 0, 1) := by decide +kernel
theorem dX10_readsLaw_31 : decode cX10_readsLaw 31 = .ok (.bipush 99, 2) := by decide +kernel
theorem dX10_readsLaw_33 : decode cX10_readsLaw 33 = .ok (.invokevirtual 113, 3) := by decide +kernel
theorem dX10_readsLaw_36 : decode cX10_readsLaw 36 = .ok (.ifCond .ne 5, 3) := by decide +kernel
theorem dX10_readsLaw_39 : decode cX10_readsLaw 39 = .ok (.iconst 0, 1) := by decide +kernel
theorem dX10_readsLaw_40 : decode cX10_readsLaw 40 = .ok (.ireturn, 1) := by decide +kernel
theorem dX10_readsLaw_41 : decode cX10_readsLaw 41 = .ok (.iconst 0, 1) := by decide +kernel
theorem dX10_readsLaw_42 : decode cX10_readsLaw 42 = .ok (.istore_n 1, 1) := by decide +kernel
theorem dX10_readsLaw_43 : decode cX10_readsLaw 43 = .ok (.iload_n 1, 1) := by decide +kernel
theorem dX10_readsLaw_44 : decode cX10_readsLaw 44 = .ok (.iconst 4, 1) := by decide +kernel
theorem dX10_readsLaw_45 : decode cX10_readsLaw 45 = .ok (.if_icmp .ge 32, 3) := by decide +kernel
theorem dX10_readsLaw_48 : decode cX10_readsLaw 48 = .ok (.aload_n 0, 1) := by decide +kernel
theorem dX10_readsLaw_49 : decode cX10_readsLaw 49 = .ok (.iconst 3, 1) := by decide +kernel
theorem dX10_readsLaw_50 : decode cX10_readsLaw 50 = .ok (.invokevirtual 117, 3) := by decide +kernel
theorem dX10_readsLaw_53 : decode cX10_readsLaw 53 = .ok (.ifCond .eq 16, 3) := by decide +kernel
theorem dX10_readsLaw_56 : decode cX10_readsLaw 56 = .ok (.aload_n 0, 1) := by decide +kernel
theorem dX10_readsLaw_57 : decode cX10_readsLaw 57 = .ok (.iconst 2, 1) := by decide +kernel
theorem dX10_readsLaw_58 : decode cX10_readsLaw 58 = .ok (.iload_n 1, 1) := by decide +kernel
theorem dX10_readsLaw_59 : decode cX10_readsLaw 59 = .ok (.iadd, 1) := by decide +kernel
theorem dX10_readsLaw_60 : decode cX10_readsLaw 60 = .ok (.iconst 0, 1) := by decide +kernel
theorem dX10_readsLaw_61 : decode cX10_readsLaw 61 = .ok (.bipush 9, 2) := by decide +kernel
theorem dX10_readsLaw_63 : decode cX10_readsLaw 63 = .ok (.invokevirtual 113, 3) := by decide +kernel
theorem dX10_readsLaw_66 : decode cX10_readsLaw 66 = .ok (.ifCond .ne 5, 3) := by decide +kernel
theorem dX10_readsLaw_69 : decode cX10_readsLaw 69 = .ok (.iconst 0, 1) := by decide +kernel
theorem dX10_readsLaw_70 : decode cX10_readsLaw 70 = .ok (.ireturn, 1) := by decide +kernel
theorem dX10_readsLaw_71 : decode cX10_readsLaw 71 = .ok (.iinc 1 1, 3) := by decide +kernel
theorem dX10_readsLaw_74 : decode cX10_readsLaw 74 = .ok (.goto (-31), 3) := by decide +kernel
theorem dX10_readsLaw_77 : decode cX10_readsLaw 77 = .ok (.aload_n 0, 1) := by decide +kernel
theorem dX10_readsLaw_78 : decode cX10_readsLaw 78 = .ok (.iconst 4, 1) := by decide +kernel
theorem dX10_readsLaw_79 : decode cX10_readsLaw 79 = .ok (.invokevirtual 117, 3) := by decide +kernel
theorem dX10_readsLaw_82 : decode cX10_readsLaw 82 = .ok (.ireturn, 1) := by decide +kernel
set_option maxRecDepth 20000 in
theorem ggX10_readsColours_X10_letter : GoodIn wsX10_readsColours wsX10_letter := goodIn_r _ [8, 2, 3, 9, 10, 11, 7, 12, 13, 14, 15, 16, 17, 18, 19, 20, 21, 22, 23, 24, 25, 26, 27, 28, 29, 30, 31, 36, 37, 38, 39, 40, 41, 42, 43, 44, 45, 46, 47, 48, 49, 50, 51, 52, 53, 54, 55, 56, 57, 58, 59] (by decide +kernel) (by decide +kernel)
set_option maxRecDepth 20000 in
theorem gX10_readsColours_X10_letter : GoodIn wsX10_readsColours (wsV RX10 110 RX10 yX10_letter wsX10_letter) := goodIn_app (goodIn_of _ (by decide +kernel)) ggX10_readsColours_X10_letter
set_option maxRecDepth 20000 in
theorem ggX10_readsColours_X10_next : GoodIn wsX10_readsColours wsX10_next := goodIn_r _ [12, 13, 14, 15, 16, 17, 18, 2, 3, 19, 20, 7, 21, 22, 23, 24, 25, 26, 36, 37, 38, 39, 40, 41, 42, 43, 44, 45, 46, 47, 48, 49, 50, 51, 52, 53, 54, 55, 56, 57, 58, 59] (by decide +kernel) (by decide +kernel)
set_option maxRecDepth 20000 in
theorem gX10_readsColours_X10_next : GoodIn wsX10_readsColours (wsV RX10 104 RX10 yX10_next wsX10_next) := goodIn_app (goodIn_of _ (by decide +kernel)) ggX10_readsColours_X10_next
set_option maxRecDepth 20000 in
theorem ggX10_readsColours_X10_fails : GoodIn wsX10_readsColours wsX10_fails := goodIn_r _ [30, 31, 36, 37, 38, 39, 40, 41, 42, 43, 44, 45, 46, 47, 48, 49, 50, 51, 52, 53, 54, 55, 56, 57, 58, 59] (by decide +kernel) (by decide +kernel)
set_option maxRecDepth 20000 in
theorem gX10_readsColours_X10_fails : GoodIn wsX10_readsColours (wsV RX10 107 RX10 yX10_fails wsX10_fails) := goodIn_app (goodIn_of _ (by decide +kernel)) ggX10_readsColours_X10_fails
set_option maxRecDepth 20000 in
theorem ggX10_readsColours_X10_number : GoodIn wsX10_readsColours wsX10_number := goodIn_r _ [35, 2, 3, 1, 9, 10, 11, 7, 12, 13, 14, 15, 16, 17, 18, 19, 20, 21, 22, 23, 24, 25, 26, 27, 28, 29, 30, 31, 36, 37, 38, 39, 40, 41, 42, 43, 44, 45, 46, 47, 48, 49, 50, 51, 52, 53, 54, 55, 56, 57, 58, 59] (by decide +kernel) (by decide +kernel)
set_option maxRecDepth 20000 in
theorem gX10_readsColours_X10_number : GoodIn wsX10_readsColours (wsV RX10 113 RX10 yX10_number wsX10_number) := goodIn_app (goodIn_of _ (by decide +kernel)) ggX10_readsColours_X10_number
theorem dX10_readsColours_0 : decode cX10_readsColours 0 = .ok (.aload_n 0, 1) := by decide +kernel
theorem dX10_readsColours_1 : decode cX10_readsColours 1 = .ok (.bipush 99, 2) := by decide +kernel
theorem dX10_readsColours_3 : decode cX10_readsColours 3 = .ok (.invokevirtual 110, 3) := by decide +kernel
theorem dX10_readsColours_6 : decode cX10_readsColours 6 = .ok (.ifCond .ne 5, 3) := by decide +kernel
theorem dX10_readsColours_9 : decode cX10_readsColours 9 = .ok (.iconst 0, 1) := by decide +kernel
theorem dX10_readsColours_10 : decode cX10_readsColours 10 = .ok (.ireturn, 1) := by decide +kernel
theorem dX10_readsColours_11 : decode cX10_readsColours 11 = .ok (.iconst 1, 1) := by decide +kernel
theorem dX10_readsColours_12 : decode cX10_readsColours 12 = .ok (.istore_n 1, 1) := by decide +kernel
theorem dX10_readsColours_13 : decode cX10_readsColours 13 = .ok (.iload_n 1, 1) := by decide +kernel
theorem dX10_readsColours_14 : decode cX10_readsColours 14 = .ok (.ifCond .eq 116, 3) := by decide +kernel
theorem dX10_readsColours_17 : decode cX10_readsColours 17 = .ok (.aload_n 0, 1) := by decide +kernel
theorem dX10_readsColours_18 : decode cX10_readsColours 18 = .ok (.getfield 38, 3) := by decide +kernel
theorem dX10_readsColours_21 : decode cX10_readsColours 21 = .ok (.bipush 6, 2) := by decide +kernel
theorem dX10_readsColours_23 : decode cX10_readsColours 23 = .ok (.iaload, 1) := by decide +kernel
theorem dX10_readsColours_24 : decode cX10_readsColours 24 = .ok (.istore_n 2, 1) := by decide +kernel
theorem dX10_readsColours_25 : decode cX10_readsColours 25 = .ok (.iload_n 2, 1) := by decide +kernel
theorem dX10_readsColours_26 : decode cX10_readsColours 26 = .ok (.bipush 8, 2) := by decide +kernel
theorem dX10_readsColours_28 : decode cX10_readsColours 28 = .ok (.if_icmp .ne 37, 3) := by decide +kernel
theorem dX10_readsColours_31 : decode cX10_readsColours 31 = .ok (.aload_n 0, 1) := by decide +kernel
theorem dX10_readsColours_32 : decode cX10_readsColours 32 = .ok (.invokevirtual 104, 3) := by decide +kernel
theorem dX10_readsColours_35 : decode cX10_readsColours 35 = .ok (.aload_n 0, 1) := by decide +kernel
theorem dX10_readsColours_36 : decode cX10_readsColours 36 = .ok (.aload_n 0, 1) := by decide +kernel
theorem dX10_readsColours_37 : decode cX10_readsColours 37 = .ok (.getfield 95, 3) := by decide +kernel
theorem dX10_readsColours_40 : decode cX10_readsColours 40 = .ok (.iconst 2, 1) := by decide +kernel
theorem dX10_readsColours_41 : decode cX10_readsColours 41 = .ok (.if_icmp .eq 7, 3) := by decide +kernel
theorem dX10_readsColours_44 : decode cX10_readsColours 44 = .ok (.iconst 1, 1) := by decide +kernel
theorem dX10_readsColours_45 : decode cX10_readsColours 45 = .ok (.goto 16, 3) := by decide +kernel
theorem dX10_readsColours_48 : decode cX10_readsColours 48 = .ok (.aload_n 0, 1) := by decide +kernel
theorem dX10_readsColours_49 : decode cX10_readsColours 49 = .ok (.getfield 98, 3) := by decide +kernel
theorem dX10_readsColours_52 : decode cX10_readsColours 52 = .ok (.iconst 3, 1) := by decide +kernel
theorem dX10_readsColours_53 : decode cX10_readsColours 53 = .ok (.if_icmp .le 7, 3) := by decide +kernel
theorem dX10_readsColours_56 : decode cX10_readsColours 56 = .ok (.iconst 2, 1) := by decide +kernel
theorem dX10_readsColours_57 : decode cX10_readsColours 57 = .ok (.goto 4, 3) := by decide +kernel
theorem dX10_readsColours_60 : decode cX10_readsColours 60 = .ok (.iconst 3, 1) := by decide +kernel
theorem dX10_readsColours_61 : decode cX10_readsColours 61 = .ok (.invokevirtual 107, 3) := by decide +kernel
theorem dX10_readsColours_64 : decode cX10_readsColours 64 = .ok (.ireturn, 1) := by decide +kernel
theorem dX10_readsColours_65 : decode cX10_readsColours 65 = .ok (.aload_n 0, 1) := by decide +kernel
theorem dX10_readsColours_66 : decode cX10_readsColours 66 = .ok (.bipush 15, 2) := by decide +kernel
theorem dX10_readsColours_68 : decode cX10_readsColours 68 = .ok (.iload_n 2, 1) := by decide +kernel
theorem dX10_readsColours_69 : decode cX10_readsColours 69 = .ok (.iadd, 1) := by decide +kernel
theorem dX10_readsColours_70 : decode cX10_readsColours 70 = .ok (.iconst 0, 1) := by decide +kernel
theorem dX10_readsColours_71 : decode cX10_readsColours 71 = .ok (.iconst 3, 1) := by decide +kernel
theorem dX10_readsColours_72 : decode cX10_readsColours 72 = .ok (.invokevirtual 113, 3) := by decide +kernel
theorem dX10_readsColours_75 : decode cX10_readsColours 75 = .ok (.ifCond .ne 5, 3) := by decide +kernel
theorem dX10_readsColours_78 : decode cX10_readsColours 78 = .ok (.iconst 0, 1) := by decide +kernel
theorem dX10_readsColours_79 : decode cX10_readsColours 79 = .ok (.ireturn, 1) := by decide +kernel
theorem dX10_readsColours_80 : decode cX10_readsColours 80 = .ok (.aload_n 0, 1) := by decide +kernel
theorem dX10_readsColours_81 : decode cX10_readsColours 81 = .ok (.getfield 38, 3) := by decide +kernel
theorem dX10_readsColours_84 : decode cX10_readsColours 84 = .ok (.bipush 6, 2) := by decide +kernel
theorem dX10_readsColours_86 : decode cX10_readsColours 86 = .ok (.dup2, 1) := by decide +kernel
theorem dX10_readsColours_87 : decode cX10_readsColours 87 = .ok (.iaload, 1) := by decide +kernel
theorem dX10_readsColours_88 : decode cX10_readsColours 88 = .ok (.iconst 1, 1) := by decide +kernel
theorem dX10_readsColours_89 : decode cX10_readsColours 89 = .ok (.iadd, 1) := by decide +kernel
theorem dX10_readsColours_90 : decode cX10_readsColours 90 = .ok (.iastore, 1) := by decide +kernel
theorem dX10_readsColours_91 : decode cX10_readsColours 91 = .ok (.aload_n 0, 1) := by decide +kernel
theorem dX10_readsColours_92 : decode cX10_readsColours 92 = .ok (.invokevirtual 104, 3) := by decide +kernel
theorem dX10_readsColours_95 : decode cX10_readsColours 95 = .ok (.aload_n 0, 1) := by decide +kernel
theorem dX10_readsColours_96 : decode cX10_readsColours 96 = .ok (.getfield 95, 3) := by decide +kernel
theorem dX10_readsColours_99 : decode cX10_readsColours 99 = .ok (.iconst 3, 1) := by decide +kernel
theorem dX10_readsColours_100 : decode cX10_readsColours 100 = .ok (.if_icmp .ne 7, 3) := by decide +kernel
theorem dX10_readsColours_103 : decode cX10_readsColours 103 = .ok (.iconst 1, 1) := by decide +kernel
theorem dX10_readsColours_104 : decode cX10_readsColours 104 = .ok (.goto 4, 3) := by decide +kernel
theorem dX10_readsColours_107 : decode cX10_readsColours 107 = .ok (.iconst 0, 1) := by decide +kernel
theorem dX10_readsColours_108 : decode cX10_readsColours 108 = .ok (.istore_n 1, 1) := by decide +kernel
theorem dX10_readsColours_109 : decode cX10_readsColours 109 = .ok (.iload_n 1, 1) := by decide +kernel
theorem dX10_readsColours_110 : decode cX10_readsColours 110 = .ok (.ifCond .ne 17, 3) := by decide +kernel
theorem dX10_readsColours_113 : decode cX10_readsColours 113 = .ok (.aload_n 0, 1) := by decide +kernel
theorem dX10_readsColours_114 : decode cX10_readsColours 114 = .ok (.getfield 95, 3) := by decide +kernel
theorem dX10_readsColours_117 : decode cX10_readsColours 117 = .ok (.iconst 4, 1) := by decide +kernel
theorem dX10_readsColours_118 : decode cX10_readsColours 118 = .ok (.if_icmp .eq 9, 3) := by decide +kernel
theorem dX10_readsColours_121 : decode cX10_readsColours 121 = .ok (.aload_n 0, 1) := by decide +kernel
theorem dX10_readsColours_122 : decode cX10_readsColours 122 = .ok (.iconst 1, 1) := by decide +kernel
theorem dX10_readsColours_123 : decode cX10_readsColours 123 = .ok (.invokevirtual 107, 3) := by decide +kernel
theorem dX10_readsColours_126 : decode cX10_readsColours 126 = .ok (.ireturn, 1) := by decide +kernel
theorem dX10_readsColours_127 : decode cX10_readsColours 127 = .ok (.goto (-114), 3) := by decide +kernel
theorem dX10_readsColours_130 : decode cX10_readsColours 130 = .ok (.iconst 1, 1) := by decide +kernel
theorem dX10_readsColours_131 : decode cX10_readsColours 131 = .ok (.ireturn, 1) := by decide +kernel
theorem dX10_sortOf_0 : decode cX10_sortOf 0 = .ok (.iload_n 0, 1) := by decide +kernel
theorem dX10_sortOf_1 : decode cX10_sortOf 1 = .ok (.bipush 107, 2) := by decide +kernel
theorem dX10_sortOf_3 : decode cX10_sortOf 3 = .ok (.if_icmp .ne 7, 3) := by decide +kernel
theorem dX10_sortOf_6 : decode cX10_sortOf 6 = .ok (.iconst 1, 1) := by decide +kernel
theorem dX10_sortOf_7 : decode cX10_sortOf 7 = .ok (.goto 44, 3) := by decide +kernel
theorem dX10_sortOf_10 : decode cX10_sortOf 10 = .ok (.iload_n 0, 1) := by decide +kernel
theorem dX10_sortOf_11 : decode cX10_sortOf 11 = .ok (.bipush 112, 2) := by decide +kernel
theorem dX10_sortOf_13 : decode cX10_sortOf 13 = .ok (.if_icmp .ne 7, 3) := by decide +kernel
theorem dX10_sortOf_16 : decode cX10_sortOf 16 = .ok (.iconst 2, 1) := by decide +kernel
theorem dX10_sortOf_17 : decode cX10_sortOf 17 = .ok (.goto 34, 3) := by decide +kernel
theorem dX10_sortOf_20 : decode cX10_sortOf 20 = .ok (.iload_n 0, 1) := by decide +kernel
theorem dX10_sortOf_21 : decode cX10_sortOf 21 = .ok (.bipush 119, 2) := by decide +kernel
theorem dX10_sortOf_23 : decode cX10_sortOf 23 = .ok (.if_icmp .ne 7, 3) := by decide +kernel
theorem dX10_sortOf_26 : decode cX10_sortOf 26 = .ok (.iconst 3, 1) := by decide +kernel
theorem dX10_sortOf_27 : decode cX10_sortOf 27 = .ok (.goto 24, 3) := by decide +kernel
theorem dX10_sortOf_30 : decode cX10_sortOf 30 = .ok (.iload_n 0, 1) := by decide +kernel
theorem dX10_sortOf_31 : decode cX10_sortOf 31 = .ok (.bipush 110, 2) := by decide +kernel
theorem dX10_sortOf_33 : decode cX10_sortOf 33 = .ok (.if_icmp .ne 7, 3) := by decide +kernel
theorem dX10_sortOf_36 : decode cX10_sortOf 36 = .ok (.iconst 4, 1) := by decide +kernel
theorem dX10_sortOf_37 : decode cX10_sortOf 37 = .ok (.goto 14, 3) := by decide +kernel
theorem dX10_sortOf_40 : decode cX10_sortOf 40 = .ok (.iload_n 0, 1) := by decide +kernel
theorem dX10_sortOf_41 : decode cX10_sortOf 41 = .ok (.bipush 109, 2) := by decide +kernel
theorem dX10_sortOf_43 : decode cX10_sortOf 43 = .ok (.if_icmp .ne 7, 3) := by decide +kernel
theorem dX10_sortOf_46 : decode cX10_sortOf 46 = .ok (.iconst 5, 1) := by decide +kernel
theorem dX10_sortOf_47 : decode cX10_sortOf 47 = .ok (.goto 4, 3) := by decide +kernel
theorem dX10_sortOf_50 : decode cX10_sortOf 50 = .ok (.iconst 0, 1) := by decide +kernel
theorem dX10_sortOf_51 : decode cX10_sortOf 51 = .ok (.ireturn, 1) := by decide +kernel
set_option maxRecDepth 20000 in
theorem ggX10_readsSuitor_X10_sortOf : GoodIn wsX10_readsSuitor wsX10_sortOf := goodIn_r _ [7] (by decide +kernel) (by decide +kernel)
set_option maxRecDepth 20000 in
theorem gX10_readsSuitor_X10_sortOf : GoodIn wsX10_readsSuitor (va_wsS RX10 120 yX10_sortOf wsX10_sortOf) := goodIn_app (goodIn_of _ (by decide +kernel)) ggX10_readsSuitor_X10_sortOf
set_option maxRecDepth 20000 in
theorem ggX10_readsSuitor_X10_fails : GoodIn wsX10_readsSuitor wsX10_fails := goodIn_r _ [11, 12, 39, 40, 41, 42, 43, 44, 45, 46, 47, 48, 49, 50, 51, 52, 53, 54, 55, 56, 57, 58, 59, 60, 61, 62] (by decide +kernel) (by decide +kernel)
set_option maxRecDepth 20000 in
theorem gX10_readsSuitor_X10_fails : GoodIn wsX10_readsSuitor (wsV RX10 107 RX10 yX10_fails wsX10_fails) := goodIn_app (goodIn_of _ (by decide +kernel)) ggX10_readsSuitor_X10_fails
set_option maxRecDepth 20000 in
theorem ggX10_readsSuitor_X10_number : GoodIn wsX10_readsSuitor wsX10_number := goodIn_r _ [16, 2, 3, 1, 17, 18, 19, 6, 20, 21, 22, 23, 24, 25, 26, 27, 28, 29, 30, 31, 32, 33, 34, 8, 9, 10, 11, 12, 39, 40, 41, 42, 43, 44, 45, 46, 47, 48, 49, 50, 51, 52, 53, 54, 55, 56, 57, 58, 59, 60, 61, 62] (by decide +kernel) (by decide +kernel)
set_option maxRecDepth 20000 in
theorem gX10_readsSuitor_X10_number : GoodIn wsX10_readsSuitor (wsV RX10 113 RX10 yX10_number wsX10_number) := goodIn_app (goodIn_of _ (by decide +kernel)) ggX10_readsSuitor_X10_number
set_option maxRecDepth 20000 in
theorem ggX10_readsSuitor_X10_sign : GoodIn wsX10_readsSuitor wsX10_sign := goodIn_r _ [38, 2, 17, 18, 19, 6, 20, 21, 22, 23, 24, 25, 26, 3, 27, 28, 29, 30, 31, 32, 33, 34, 8, 9, 10, 11, 12, 39, 40, 41, 42, 43, 44, 45, 46, 47, 48, 49, 50, 51, 52, 53, 54, 55, 56, 57, 58, 59, 60, 61, 62] (by decide +kernel) (by decide +kernel)
set_option maxRecDepth 20000 in
theorem gX10_readsSuitor_X10_sign : GoodIn wsX10_readsSuitor (wsV RX10 117 RX10 yX10_sign wsX10_sign) := goodIn_app (goodIn_of _ (by decide +kernel)) ggX10_readsSuitor_X10_sign
theorem dX10_readsSuitor_0 : decode cX10_readsSuitor 0 = .ok (.aload_n 0, 1) := by decide +kernel
theorem dX10_readsSuitor_1 : decode cX10_readsSuitor 1 = .ok (.getfield 38, 3) := by decide +kernel
theorem dX10_readsSuitor_4 : decode cX10_readsSuitor 4 = .ok (.bipush 7, 2) := by decide +kernel
theorem dX10_readsSuitor_6 : decode cX10_readsSuitor 6 = .ok (.iaload, 1) := by decide +kernel
theorem dX10_readsSuitor_7 : decode cX10_readsSuitor 7 = .ok (.istore_n 1, 1) := by decide +kernel
theorem dX10_readsSuitor_8 : decode cX10_readsSuitor 8 = .ok (.aload_n 0, 1) := by decide +kernel
theorem dX10_readsSuitor_9 : decode cX10_readsSuitor 9 = .ok (.getfield 95, 3) := by decide +kernel
theorem dX10_readsSuitor_12 : decode cX10_readsSuitor 12 = .ok (.iconst 1, 1) := by decide +kernel
theorem dX10_readsSuitor_13 : decode cX10_readsSuitor 13 = .ok (.if_icmp .ne 13, 3) := by decide +kernel
theorem dX10_readsSuitor_16 : decode cX10_readsSuitor 16 = .ok (.aload_n 0, 1) := by decide +kernel
theorem dX10_readsSuitor_17 : decode cX10_readsSuitor 17 = .ok (.getfield 98, 3) := by decide +kernel
theorem dX10_readsSuitor_20 : decode cX10_readsSuitor 20 = .ok (.invokestatic 120, 3) := by decide +kernel
theorem dX10_readsSuitor_23 : decode cX10_readsSuitor 23 = .ok (.goto 4, 3) := by decide +kernel
theorem dX10_readsSuitor_26 : decode cX10_readsSuitor 26 = .ok (.iconst 0, 1) := by decide +kernel
theorem dX10_readsSuitor_27 : decode cX10_readsSuitor 27 = .ok (.istore_n 2, 1) := by decide +kernel
theorem dX10_readsSuitor_28 : decode cX10_readsSuitor 28 = .ok (.iload_n 2, 1) := by decide +kernel
theorem dX10_readsSuitor_29 : decode cX10_readsSuitor 29 = .ok (.ifCond .ne 9, 3) := by decide +kernel
theorem dX10_readsSuitor_32 : decode cX10_readsSuitor 32 = .ok (.aload_n 0, 1) := by decide +kernel
theorem dX10_readsSuitor_33 : decode cX10_readsSuitor 33 = .ok (.iconst 1, 1) := by decide +kernel
theorem dX10_readsSuitor_34 : decode cX10_readsSuitor 34 = .ok (.invokevirtual 107, 3) := by decide +kernel
theorem dX10_readsSuitor_37 : decode cX10_readsSuitor 37 = .ok (.ireturn, 1) := by decide +kernel
theorem dX10_readsSuitor_38 : decode cX10_readsSuitor 38 = .ok (.iload_n 1, 1) := by decide +kernel
theorem dX10_readsSuitor_39 : decode cX10_readsSuitor 39 = .ok (.iconst 5, 1) := by decide +kernel
theorem dX10_readsSuitor_40 : decode cX10_readsSuitor 40 = .ok (.if_icmp .ne 9, 3) := by decide +kernel
theorem dX10_readsSuitor_43 : decode cX10_readsSuitor 43 = .ok (.aload_n 0, 1) := by decide +kernel
theorem dX10_readsSuitor_44 : decode cX10_readsSuitor 44 = .ok (.iconst 3, 1) := by decide +kernel
theorem dX10_readsSuitor_45 : decode cX10_readsSuitor 45 = .ok (.invokevirtual 107, 3) := by decide +kernel
theorem dX10_readsSuitor_48 : decode cX10_readsSuitor 48 = .ok (.ireturn, 1) := by decide +kernel
theorem dX10_readsSuitor_49 : decode cX10_readsSuitor 49 = .ok (.aload_n 0, 1) := by decide +kernel
theorem dX10_readsSuitor_50 : decode cX10_readsSuitor 50 = .ok (.getfield 38, 3) := by decide +kernel
theorem dX10_readsSuitor_53 : decode cX10_readsSuitor 53 = .ok (.bipush 23, 2) := by decide +kernel
theorem dX10_readsSuitor_55 : decode cX10_readsSuitor 55 = .ok (.iload_n 1, 1) := by decide +kernel
theorem dX10_readsSuitor_56 : decode cX10_readsSuitor 56 = .ok (.iadd, 1) := by decide +kernel
theorem dX10_readsSuitor_57 : decode cX10_readsSuitor 57 = .ok (.iload_n 2, 1) := by decide +kernel
theorem dX10_readsSuitor_58 : decode cX10_readsSuitor 58 = .ok (.iastore, 1) := by decide +kernel
theorem dX10_readsSuitor_59 : decode cX10_readsSuitor 59 = .ok (.aload_n 0, 1) := by decide +kernel
theorem dX10_readsSuitor_60 : decode cX10_readsSuitor 60 = .ok (.bipush 28, 2) := by decide +kernel
theorem dX10_readsSuitor_62 : decode cX10_readsSuitor 62 = .ok (.iload_n 1, 1) := by decide +kernel
theorem dX10_readsSuitor_63 : decode cX10_readsSuitor 63 = .ok (.iadd, 1) := by decide +kernel
theorem dX10_readsSuitor_64 : decode cX10_readsSuitor 64 = .ok (.iconst 1, 1) := by decide +kernel
theorem dX10_readsSuitor_65 : decode cX10_readsSuitor 65 = .ok (.bipush 9, 2) := by decide +kernel
theorem dX10_readsSuitor_67 : decode cX10_readsSuitor 67 = .ok (.invokevirtual 113, 3) := by decide +kernel
theorem dX10_readsSuitor_70 : decode cX10_readsSuitor 70 = .ok (.ifCond .eq 25, 3) := by decide +kernel
theorem dX10_readsSuitor_73 : decode cX10_readsSuitor 73 = .ok (.aload_n 0, 1) := by decide +kernel
theorem dX10_readsSuitor_74 : decode cX10_readsSuitor 74 = .ok (.iconst 3, 1) := by decide +kernel
theorem dX10_readsSuitor_75 : decode cX10_readsSuitor 75 = .ok (.invokevirtual 117, 3) := by decide +kernel
theorem dX10_readsSuitor_78 : decode cX10_readsSuitor 78 = .ok (.ifCond .eq 17, 3) := by decide +kernel
theorem dX10_readsSuitor_81 : decode cX10_readsSuitor 81 = .ok (.aload_n 0, 1) := by decide +kernel
theorem dX10_readsSuitor_82 : decode cX10_readsSuitor 82 = .ok (.bipush 33, 2) := by decide +kernel
theorem dX10_readsSuitor_84 : decode cX10_readsSuitor 84 = .ok (.iload_n 1, 1) := by decide +kernel
theorem dX10_readsSuitor_85 : decode cX10_readsSuitor 85 = .ok (.iadd, 1) := by decide +kernel
theorem dX10_readsSuitor_86 : decode cX10_readsSuitor 86 = .ok (.iconst 1, 1) := by decide +kernel
theorem dX10_readsSuitor_87 : decode cX10_readsSuitor 87 = .ok (.bipush 9, 2) := by decide +kernel
theorem dX10_readsSuitor_89 : decode cX10_readsSuitor 89 = .ok (.invokevirtual 113, 3) := by decide +kernel
theorem dX10_readsSuitor_92 : decode cX10_readsSuitor 92 = .ok (.ifCond .ne 5, 3) := by decide +kernel
theorem dX10_readsSuitor_95 : decode cX10_readsSuitor 95 = .ok (.iconst 0, 1) := by decide +kernel
theorem dX10_readsSuitor_96 : decode cX10_readsSuitor 96 = .ok (.ireturn, 1) := by decide +kernel
theorem dX10_readsSuitor_97 : decode cX10_readsSuitor 97 = .ok (.aload_n 0, 1) := by decide +kernel
theorem dX10_readsSuitor_98 : decode cX10_readsSuitor 98 = .ok (.getfield 38, 3) := by decide +kernel
theorem dX10_readsSuitor_101 : decode cX10_readsSuitor 101 = .ok (.bipush 7, 2) := by decide +kernel
theorem dX10_readsSuitor_103 : decode cX10_readsSuitor 103 = .ok (.dup2, 1) := by decide +kernel
theorem dX10_readsSuitor_104 : decode cX10_readsSuitor 104 = .ok (.iaload, 1) := by decide +kernel
theorem dX10_readsSuitor_105 : decode cX10_readsSuitor 105 = .ok (.iconst 1, 1) := by decide +kernel
theorem dX10_readsSuitor_106 : decode cX10_readsSuitor 106 = .ok (.iadd, 1) := by decide +kernel
theorem dX10_readsSuitor_107 : decode cX10_readsSuitor 107 = .ok (.iastore, 1) := by decide +kernel
theorem dX10_readsSuitor_108 : decode cX10_readsSuitor 108 = .ok (.aload_n 0, 1) := by decide +kernel
theorem dX10_readsSuitor_109 : decode cX10_readsSuitor 109 = .ok (.iconst 4, 1) := by decide +kernel
theorem dX10_readsSuitor_110 : decode cX10_readsSuitor 110 = .ok (.invokevirtual 117, 3) := by decide +kernel
theorem dX10_readsSuitor_113 : decode cX10_readsSuitor 113 = .ok (.ireturn, 1) := by decide +kernel
set_option maxRecDepth 20000 in
theorem ggX10_reads_X10_readsLaw : GoodIn wsX10_reads wsX10_readsLaw := goodIn_r _ [8, 9, 10, 11, 7, 12, 3, 13, 14, 15, 16, 17, 2, 18, 19, 20, 21, 22, 23, 24, 25, 26, 27, 28, 29, 30, 31, 32, 33, 34, 35, 36, 37, 38, 39, 1, 40, 41, 42, 43, 55, 56, 57, 58, 59, 60, 61, 62, 63, 64, 65, 66, 67, 68, 69, 70, 71, 72, 73, 74, 75, 76, 77, 78] (by decide +kernel) (by decide +kernel)
set_option maxRecDepth 20000 in
theorem gX10_reads_X10_readsLaw : GoodIn wsX10_reads (wsV RX10 123 RX10 yX10_readsLaw wsX10_readsLaw) := goodIn_app (goodIn_of _ (by decide +kernel)) ggX10_reads_X10_readsLaw
set_option maxRecDepth 20000 in
theorem ggX10_reads_X10_readsColours : GoodIn wsX10_reads wsX10_readsColours := goodIn_r _ [47, 1, 3, 13, 9, 10, 11, 7, 12, 14, 15, 16, 17, 2, 18, 19, 20, 21, 22, 23, 24, 25, 26, 27, 28, 29, 30, 31, 32, 33, 34, 35, 36, 37, 38, 39, 55, 56, 57, 58, 59, 60, 61, 62, 63, 64, 65, 66, 67, 68, 69, 70, 71, 72, 73, 74, 75, 76, 77, 78] (by decide +kernel) (by decide +kernel)
set_option maxRecDepth 20000 in
theorem gX10_reads_X10_readsColours : GoodIn wsX10_reads (wsV RX10 127 RX10 yX10_readsColours wsX10_readsColours) := goodIn_app (goodIn_of _ (by decide +kernel)) ggX10_reads_X10_readsColours
set_option maxRecDepth 20000 in
theorem ggX10_reads_X10_next : GoodIn wsX10_reads wsX10_next := goodIn_r _ [17, 2, 18, 19, 20, 21, 22, 3, 13, 23, 24, 7, 25, 26, 27, 28, 29, 30, 55, 56, 57, 58, 59, 60, 61, 62, 63, 64, 65, 66, 67, 68, 69, 70, 71, 72, 73, 74, 75, 76, 77, 78] (by decide +kernel) (by decide +kernel)
set_option maxRecDepth 20000 in
theorem gX10_reads_X10_next : GoodIn wsX10_reads (wsV RX10 104 RX10 yX10_next wsX10_next) := goodIn_app (goodIn_of _ (by decide +kernel)) ggX10_reads_X10_next
set_option maxRecDepth 20000 in
theorem ggX10_reads_X10_readsSuitor : GoodIn wsX10_reads wsX10_readsSuitor := goodIn_r _ [51, 1, 3, 13, 52, 53, 7, 54, 31, 32, 33, 34, 35, 36, 37, 38, 39, 14, 15, 16, 17, 2, 18, 19, 20, 21, 22, 23, 24, 25, 26, 27, 28, 29, 30, 40, 41, 42, 43, 55, 56, 57, 58, 59, 60, 61, 62, 63, 64, 65, 66, 67, 68, 69, 70, 71, 72, 73, 74, 75, 76, 77, 78] (by decide +kernel) (by decide +kernel)
set_option maxRecDepth 20000 in
theorem gX10_reads_X10_readsSuitor : GoodIn wsX10_reads (wsV RX10 130 RX10 yX10_readsSuitor wsX10_readsSuitor) := goodIn_app (goodIn_of _ (by decide +kernel)) ggX10_reads_X10_readsSuitor
theorem dX10_reads_0 : decode cX10_reads 0 = .ok (.iconst 0, 1) := by decide +kernel
theorem dX10_reads_1 : decode cX10_reads 1 = .ok (.istore_n 1, 1) := by decide +kernel
theorem dX10_reads_2 : decode cX10_reads 2 = .ok (.iload_n 1, 1) := by decide +kernel
theorem dX10_reads_3 : decode cX10_reads 3 = .ok (.bipush 48, 2) := by decide +kernel
theorem dX10_reads_5 : decode cX10_reads 5 = .ok (.if_icmp .ge 26, 3) := by decide +kernel
theorem dX10_reads_8 : decode cX10_reads 8 = .ok (.aload_n 0, 1) := by decide +kernel
theorem dX10_reads_9 : decode cX10_reads 9 = .ok (.getfield 38, 3) := by decide +kernel
theorem dX10_reads_12 : decode cX10_reads 12 = .ok (.iload_n 1, 1) := by decide +kernel
theorem dX10_reads_13 : decode cX10_reads 13 = .ok (.iload_n 1, 1) := by decide +kernel
theorem dX10_reads_14 : decode cX10_reads 14 = .ok (.bipush 43, 2) := by decide +kernel
theorem dX10_reads_16 : decode cX10_reads 16 = .ok (.if_icmp .ge 7, 3) := by decide +kernel
theorem dX10_reads_19 : decode cX10_reads 19 = .ok (.iconst 0, 1) := by decide +kernel
theorem dX10_reads_20 : decode cX10_reads 20 = .ok (.goto 4, 3) := by decide +kernel
theorem dX10_reads_23 : decode cX10_reads 23 = .ok (.iconst (-1), 1) := by decide +kernel
theorem dX10_reads_24 : decode cX10_reads 24 = .ok (.iastore, 1) := by decide +kernel
theorem dX10_reads_25 : decode cX10_reads 25 = .ok (.iinc 1 1, 3) := by decide +kernel
theorem dX10_reads_28 : decode cX10_reads 28 = .ok (.goto (-26), 3) := by decide +kernel
theorem dX10_reads_31 : decode cX10_reads 31 = .ok (.aload_n 0, 1) := by decide +kernel
theorem dX10_reads_32 : decode cX10_reads 32 = .ok (.getfield 38, 3) := by decide +kernel
theorem dX10_reads_35 : decode cX10_reads 35 = .ok (.bipush 8, 2) := by decide +kernel
theorem dX10_reads_37 : decode cX10_reads 37 = .ok (.iconst 1, 1) := by decide +kernel
theorem dX10_reads_38 : decode cX10_reads 38 = .ok (.iastore, 1) := by decide +kernel
theorem dX10_reads_39 : decode cX10_reads 39 = .ok (.aload_n 0, 1) := by decide +kernel
theorem dX10_reads_40 : decode cX10_reads 40 = .ok (.iconst 0, 1) := by decide +kernel
theorem dX10_reads_41 : decode cX10_reads 41 = .ok (.putfield 79, 3) := by decide +kernel
theorem dX10_reads_44 : decode cX10_reads 44 = .ok (.aload_n 0, 1) := by decide +kernel
theorem dX10_reads_45 : decode cX10_reads 45 = .ok (.invokevirtual 123, 3) := by decide +kernel
theorem dX10_reads_48 : decode cX10_reads 48 = .ok (.ifCond .eq 10, 3) := by decide +kernel
theorem dX10_reads_51 : decode cX10_reads 51 = .ok (.aload_n 0, 1) := by decide +kernel
theorem dX10_reads_52 : decode cX10_reads 52 = .ok (.invokevirtual 127, 3) := by decide +kernel
theorem dX10_reads_55 : decode cX10_reads 55 = .ok (.ifCond .ne 5, 3) := by decide +kernel
theorem dX10_reads_58 : decode cX10_reads 58 = .ok (.iconst 0, 1) := by decide +kernel
theorem dX10_reads_59 : decode cX10_reads 59 = .ok (.ireturn, 1) := by decide +kernel
theorem dX10_reads_60 : decode cX10_reads 60 = .ok (.aload_n 0, 1) := by decide +kernel
theorem dX10_reads_61 : decode cX10_reads 61 = .ok (.invokevirtual 104, 3) := by decide +kernel
theorem dX10_reads_64 : decode cX10_reads 64 = .ok (.aload_n 0, 1) := by decide +kernel
theorem dX10_reads_65 : decode cX10_reads 65 = .ok (.getfield 95, 3) := by decide +kernel
theorem dX10_reads_68 : decode cX10_reads 68 = .ok (.ifCond .eq 19, 3) := by decide +kernel
theorem dX10_reads_71 : decode cX10_reads 71 = .ok (.aload_n 0, 1) := by decide +kernel
theorem dX10_reads_72 : decode cX10_reads 72 = .ok (.invokevirtual 130, 3) := by decide +kernel
theorem dX10_reads_75 : decode cX10_reads 75 = .ok (.ifCond .ne 5, 3) := by decide +kernel
theorem dX10_reads_78 : decode cX10_reads 78 = .ok (.iconst 0, 1) := by decide +kernel
theorem dX10_reads_79 : decode cX10_reads 79 = .ok (.ireturn, 1) := by decide +kernel
theorem dX10_reads_80 : decode cX10_reads 80 = .ok (.aload_n 0, 1) := by decide +kernel
theorem dX10_reads_81 : decode cX10_reads 81 = .ok (.invokevirtual 104, 3) := by decide +kernel
theorem dX10_reads_84 : decode cX10_reads 84 = .ok (.goto (-20), 3) := by decide +kernel
theorem dX10_reads_87 : decode cX10_reads 87 = .ok (.iconst 1, 1) := by decide +kernel
theorem dX10_reads_88 : decode cX10_reads 88 = .ok (.ireturn, 1) := by decide +kernel
set_option maxRecDepth 20000 in
theorem ggX10_loom_X10_reads : GoodIn wsX10_loom wsX10_reads := goodIn_r _ [13, 7, 14, 15, 16, 17, 18, 12, 19, 20, 21, 22, 23, 24, 25, 26, 27, 28, 4, 2, 29, 30, 31, 32, 33, 34, 35, 36, 37, 38, 39, 40, 41, 42, 43, 44, 45, 46, 47, 48, 49, 50, 51, 52, 53, 54, 55, 56, 57, 58, 59, 60, 61, 62, 63, 67, 68, 69, 70, 71, 72, 73, 74, 75, 76, 77, 78, 79, 80, 81, 82, 83, 84, 85, 86, 87, 88, 89, 90] (by decide +kernel) (by decide +kernel)
set_option maxRecDepth 20000 in
theorem gX10_loom_X10_reads : GoodIn wsX10_loom (wsV RX10 133 RX10 yX10_reads wsX10_reads) := goodIn_app (goodIn_of _ (by decide +kernel)) ggX10_loom_X10_reads
set_option maxRecDepth 20000 in
theorem ggX10_loom_X10_copies : GoodIn wsX10_loom wsX10_copies := goodIn_r _ [66] (by decide +kernel) (by decide +kernel)
set_option maxRecDepth 20000 in
theorem gX10_loom_X10_copies : GoodIn wsX10_loom (va_wsS RX10 144 yX10_copies wsX10_copies) := goodIn_app (goodIn_of _ (by decide +kernel)) ggX10_loom_X10_copies
theorem dX10_loom_0 : decode cX10_loom 0 = .ok (.aload_n 0, 1) := by decide +kernel
theorem dX10_loom_1 : decode cX10_loom 1 = .ok (.aload_n 0, 1) := by decide +kernel
theorem dX10_loom_2 : decode cX10_loom 2 = .ok (.getfield 71, 3) := by decide +kernel
theorem dX10_loom_5 : decode cX10_loom 5 = .ok (.putfield 85, 3) := by decide +kernel
theorem dX10_loom_8 : decode cX10_loom 8 = .ok (.aload_n 0, 1) := by decide +kernel
theorem dX10_loom_9 : decode cX10_loom 9 = .ok (.iconst 0, 1) := by decide +kernel
theorem dX10_loom_10 : decode cX10_loom 10 = .ok (.putfield 71, 3) := by decide +kernel
theorem dX10_loom_13 : decode cX10_loom 13 = .ok (.aload_n 0, 1) := by decide +kernel
theorem dX10_loom_14 : decode cX10_loom 14 = .ok (.invokevirtual 133, 3) := by decide +kernel
theorem dX10_loom_17 : decode cX10_loom 17 = .ok (.ifCond .ne 11, 3) := by decide +kernel
theorem dX10_loom_20 : decode cX10_loom 20 = .ok (.ldc 136, 2) := by decide +kernel
theorem dX10_loom_22 : decode cX10_loom 22 = .ok (.aload_n 0, 1) := by decide +kernel
theorem dX10_loom_23 : decode cX10_loom 23 = .ok (.getfield 82, 3) := by decide +kernel
theorem dX10_loom_26 : decode cX10_loom 26 = .ok (.isub, 1) := by decide +kernel
theorem dX10_loom_27 : decode cX10_loom 27 = .ok (.ireturn, 1) := by decide +kernel
theorem dX10_loom_28 : decode cX10_loom 28 = .ok (.aload_n 0, 1) := by decide +kernel
theorem dX10_loom_29 : decode cX10_loom 29 = .ok (.iconst 1, 1) := by decide +kernel
theorem dX10_loom_30 : decode cX10_loom 30 = .ok (.putfield 137, 3) := by decide +kernel
theorem dX10_loom_33 : decode cX10_loom 33 = .ok (.aload_n 0, 1) := by decide +kernel
theorem dX10_loom_34 : decode cX10_loom 34 = .ok (.iconst 0, 1) := by decide +kernel
theorem dX10_loom_35 : decode cX10_loom 35 = .ok (.putfield 141, 3) := by decide +kernel
theorem dX10_loom_38 : decode cX10_loom 38 = .ok (.aload_n 0, 1) := by decide +kernel
theorem dX10_loom_39 : decode cX10_loom 39 = .ok (.getfield 38, 3) := by decide +kernel
theorem dX10_loom_42 : decode cX10_loom 42 = .ok (.iconst 0, 1) := by decide +kernel
theorem dX10_loom_43 : decode cX10_loom 43 = .ok (.aload_n 0, 1) := by decide +kernel
theorem dX10_loom_44 : decode cX10_loom 44 = .ok (.getfield 22, 3) := by decide +kernel
theorem dX10_loom_47 : decode cX10_loom 47 = .ok (.iconst 0, 1) := by decide +kernel
theorem dX10_loom_48 : decode cX10_loom 48 = .ok (.invokestatic 144, 3) := by decide +kernel
theorem dX10_loom_51 : decode cX10_loom 51 = .ok (.aload_n 0, 1) := by decide +kernel
theorem dX10_loom_52 : decode cX10_loom 52 = .ok (.getfield 22, 3) := by decide +kernel
theorem dX10_loom_55 : decode cX10_loom 55 = .ok (.bipush 7, 2) := by decide +kernel
theorem dX10_loom_57 : decode cX10_loom 57 = .ok (.iaload, 1) := by decide +kernel
theorem dX10_loom_58 : decode cX10_loom 58 = .ok (.ireturn, 1) := by decide +kernel
theorem dX10_fault_0 : decode cX10_fault 0 = .ok (.aload_n 0, 1) := by decide +kernel
theorem dX10_fault_1 : decode cX10_fault 1 = .ok (.getfield 101, 3) := by decide +kernel
theorem dX10_fault_4 : decode cX10_fault 4 = .ok (.ireturn, 1) := by decide +kernel
theorem dX10_copies_0 : decode cX10_copies 0 = .ok (.iconst 0, 1) := by decide +kernel
theorem dX10_copies_1 : decode cX10_copies 1 = .ok (.istore 4, 2) := by decide +kernel
theorem dX10_copies_3 : decode cX10_copies 3 = .ok (.iload 4, 2) := by decide +kernel
theorem dX10_copies_5 : decode cX10_copies 5 = .ok (.bipush 48, 2) := by decide +kernel
theorem dX10_copies_7 : decode cX10_copies 7 = .ok (.if_icmp .ge 21, 3) := by decide +kernel
theorem dX10_copies_10 : decode cX10_copies 10 = .ok (.aload_n 2, 1) := by decide +kernel
theorem dX10_copies_11 : decode cX10_copies 11 = .ok (.iload_n 3, 1) := by decide +kernel
theorem dX10_copies_12 : decode cX10_copies 12 = .ok (.iload 4, 2) := by decide +kernel
theorem dX10_copies_14 : decode cX10_copies 14 = .ok (.iadd, 1) := by decide +kernel
theorem dX10_copies_15 : decode cX10_copies 15 = .ok (.aload_n 0, 1) := by decide +kernel
theorem dX10_copies_16 : decode cX10_copies 16 = .ok (.iload_n 1, 1) := by decide +kernel
theorem dX10_copies_17 : decode cX10_copies 17 = .ok (.iload 4, 2) := by decide +kernel
theorem dX10_copies_19 : decode cX10_copies 19 = .ok (.iadd, 1) := by decide +kernel
theorem dX10_copies_20 : decode cX10_copies 20 = .ok (.iaload, 1) := by decide +kernel
theorem dX10_copies_21 : decode cX10_copies 21 = .ok (.iastore, 1) := by decide +kernel
theorem dX10_copies_22 : decode cX10_copies 22 = .ok (.iinc 4 1, 3) := by decide +kernel
theorem dX10_copies_25 : decode cX10_copies 25 = .ok (.goto (-22), 3) := by decide +kernel
theorem dX10_copies_28 : decode cX10_copies 28 = .ok (.return_, 1) := by decide +kernel
set_option maxRecDepth 20000 in
theorem ggX10_isSuitor_X10_in : GoodIn wsX10_isSuitor wsX10_in := goodIn_r _ [5] (by decide +kernel) (by decide +kernel)
set_option maxRecDepth 20000 in
theorem gX10_isSuitor_X10_in : GoodIn wsX10_isSuitor (va_wsS RX10 51 yX10_in wsX10_in) := goodIn_app (goodIn_of _ (by decide +kernel)) ggX10_isSuitor_X10_in
theorem dX10_isSuitor_0 : decode cX10_isSuitor 0 = .ok (.iload_n 1, 1) := by decide +kernel
theorem dX10_isSuitor_1 : decode cX10_isSuitor 1 = .ok (.i2l, 1) := by decide +kernel
theorem dX10_isSuitor_2 : decode cX10_isSuitor 2 = .ok (.lconst 0, 1) := by decide +kernel
theorem dX10_isSuitor_3 : decode cX10_isSuitor 3 = .ok (.aload_n 0, 1) := by decide +kernel
theorem dX10_isSuitor_4 : decode cX10_isSuitor 4 = .ok (.getfield 22, 3) := by decide +kernel
theorem dX10_isSuitor_7 : decode cX10_isSuitor 7 = .ok (.bipush 7, 2) := by decide +kernel
theorem dX10_isSuitor_9 : decode cX10_isSuitor 9 = .ok (.iaload, 1) := by decide +kernel
theorem dX10_isSuitor_10 : decode cX10_isSuitor 10 = .ok (.iconst 1, 1) := by decide +kernel
theorem dX10_isSuitor_11 : decode cX10_isSuitor 11 = .ok (.isub, 1) := by decide +kernel
theorem dX10_isSuitor_12 : decode cX10_isSuitor 12 = .ok (.i2l, 1) := by decide +kernel
theorem dX10_isSuitor_13 : decode cX10_isSuitor 13 = .ok (.invokestatic 51, 3) := by decide +kernel
theorem dX10_isSuitor_16 : decode cX10_isSuitor 16 = .ok (.ireturn, 1) := by decide +kernel
set_option maxRecDepth 20000 in
theorem ggX10_isTwo_X10_in : GoodIn wsX10_isTwo wsX10_in := goodIn_r _ [4] (by decide +kernel) (by decide +kernel)
set_option maxRecDepth 20000 in
theorem gX10_isTwo_X10_in : GoodIn wsX10_isTwo (va_wsS RX10 51 yX10_in wsX10_in) := goodIn_app (goodIn_of _ (by decide +kernel)) ggX10_isTwo_X10_in
theorem dX10_isTwo_0 : decode cX10_isTwo 0 = .ok (.iload_n 0, 1) := by decide +kernel
theorem dX10_isTwo_1 : decode cX10_isTwo 1 = .ok (.i2l, 1) := by decide +kernel
theorem dX10_isTwo_2 : decode cX10_isTwo 2 = .ok (.lconst 0, 1) := by decide +kernel
theorem dX10_isTwo_3 : decode cX10_isTwo 3 = .ok (.lconst 1, 1) := by decide +kernel
theorem dX10_isTwo_4 : decode cX10_isTwo 4 = .ok (.invokestatic 51, 3) := by decide +kernel
theorem dX10_isTwo_7 : decode cX10_isTwo 7 = .ok (.ireturn, 1) := by decide +kernel
theorem dX10_colourAt_0 : decode cX10_colourAt 0 = .ok (.aload_n 0, 1) := by decide +kernel
theorem dX10_colourAt_1 : decode cX10_colourAt 1 = .ok (.bipush 15, 2) := by decide +kernel
theorem dX10_colourAt_3 : decode cX10_colourAt 3 = .ok (.iload_n 1, 1) := by decide +kernel
theorem dX10_colourAt_4 : decode cX10_colourAt 4 = .ok (.aload_n 0, 1) := by decide +kernel
theorem dX10_colourAt_5 : decode cX10_colourAt 5 = .ok (.bipush 6, 2) := by decide +kernel
theorem dX10_colourAt_7 : decode cX10_colourAt 7 = .ok (.iaload, 1) := by decide +kernel
theorem dX10_colourAt_8 : decode cX10_colourAt 8 = .ok (.irem, 1) := by decide +kernel
theorem dX10_colourAt_9 : decode cX10_colourAt 9 = .ok (.iadd, 1) := by decide +kernel
theorem dX10_colourAt_10 : decode cX10_colourAt 10 = .ok (.iaload, 1) := by decide +kernel
theorem dX10_colourAt_11 : decode cX10_colourAt 11 = .ok (.ireturn, 1) := by decide +kernel
theorem dX10_yarn_0 : decode cX10_yarn 0 = .ok (.aload_n 0, 1) := by decide +kernel
theorem dX10_yarn_1 : decode cX10_yarn 1 = .ok (.iconst 1, 1) := by decide +kernel
theorem dX10_yarn_2 : decode cX10_yarn 2 = .ok (.iaload, 1) := by decide +kernel
theorem dX10_yarn_3 : decode cX10_yarn 3 = .ok (.aload_n 0, 1) := by decide +kernel
theorem dX10_yarn_4 : decode cX10_yarn 4 = .ok (.bipush 11, 2) := by decide +kernel
theorem dX10_yarn_6 : decode cX10_yarn 6 = .ok (.iaload, 1) := by decide +kernel
theorem dX10_yarn_7 : decode cX10_yarn 7 = .ok (.isub, 1) := by decide +kernel
theorem dX10_yarn_8 : decode cX10_yarn 8 = .ok (.aload_n 0, 1) := by decide +kernel
theorem dX10_yarn_9 : decode cX10_yarn 9 = .ok (.bipush 12, 2) := by decide +kernel
theorem dX10_yarn_11 : decode cX10_yarn 11 = .ok (.iaload, 1) := by decide +kernel
theorem dX10_yarn_12 : decode cX10_yarn 12 = .ok (.iconst 4, 1) := by decide +kernel
theorem dX10_yarn_13 : decode cX10_yarn 13 = .ok (.idiv, 1) := by decide +kernel
theorem dX10_yarn_14 : decode cX10_yarn 14 = .ok (.isub, 1) := by decide +kernel
theorem dX10_yarn_15 : decode cX10_yarn 15 = .ok (.ireturn, 1) := by decide +kernel
theorem dX10_wants_0 : decode cX10_wants 0 = .ok (.aload_n 0, 1) := by decide +kernel
theorem dX10_wants_1 : decode cX10_wants 1 = .ok (.bipush 10, 2) := by decide +kernel
theorem dX10_wants_3 : decode cX10_wants 3 = .ok (.iaload, 1) := by decide +kernel
theorem dX10_wants_4 : decode cX10_wants 4 = .ok (.iload_n 1, 1) := by decide +kernel
theorem dX10_wants_5 : decode cX10_wants 5 = .ok (.iadd, 1) := by decide +kernel
theorem dX10_wants_6 : decode cX10_wants 6 = .ok (.aload_n 0, 1) := by decide +kernel
theorem dX10_wants_7 : decode cX10_wants 7 = .ok (.bipush 11, 2) := by decide +kernel
theorem dX10_wants_9 : decode cX10_wants 9 = .ok (.iaload, 1) := by decide +kernel
theorem dX10_wants_10 : decode cX10_wants 10 = .ok (.isub, 1) := by decide +kernel
theorem dX10_wants_11 : decode cX10_wants 11 = .ok (.istore_n 2, 1) := by decide +kernel
theorem dX10_wants_12 : decode cX10_wants 12 = .ok (.iload_n 2, 1) := by decide +kernel
theorem dX10_wants_13 : decode cX10_wants 13 = .ok (.ifCond .le 7, 3) := by decide +kernel
theorem dX10_wants_16 : decode cX10_wants 16 = .ok (.iload_n 2, 1) := by decide +kernel
theorem dX10_wants_17 : decode cX10_wants 17 = .ok (.goto 4, 3) := by decide +kernel
theorem dX10_wants_20 : decode cX10_wants 20 = .ok (.iconst 0, 1) := by decide +kernel
theorem dX10_wants_21 : decode cX10_wants 21 = .ok (.istore_n 3, 1) := by decide +kernel
theorem dX10_wants_22 : decode cX10_wants 22 = .ok (.aload_n 0, 1) := by decide +kernel
theorem dX10_wants_23 : decode cX10_wants 23 = .ok (.bipush 12, 2) := by decide +kernel
theorem dX10_wants_25 : decode cX10_wants 25 = .ok (.iaload, 1) := by decide +kernel
theorem dX10_wants_26 : decode cX10_wants 26 = .ok (.iload_n 1, 1) := by decide +kernel
theorem dX10_wants_27 : decode cX10_wants 27 = .ok (.iadd, 1) := by decide +kernel
theorem dX10_wants_28 : decode cX10_wants 28 = .ok (.iload_n 3, 1) := by decide +kernel
theorem dX10_wants_29 : decode cX10_wants 29 = .ok (.isub, 1) := by decide +kernel
theorem dX10_wants_30 : decode cX10_wants 30 = .ok (.istore 4, 2) := by decide +kernel
theorem dX10_wants_32 : decode cX10_wants 32 = .ok (.iload_n 3, 1) := by decide +kernel
theorem dX10_wants_33 : decode cX10_wants 33 = .ok (.iload 4, 2) := by decide +kernel
theorem dX10_wants_35 : decode cX10_wants 35 = .ok (.iconst 4, 1) := by decide +kernel
theorem dX10_wants_36 : decode cX10_wants 36 = .ok (.idiv, 1) := by decide +kernel
theorem dX10_wants_37 : decode cX10_wants 37 = .ok (.iadd, 1) := by decide +kernel
theorem dX10_wants_38 : decode cX10_wants 38 = .ok (.aload_n 0, 1) := by decide +kernel
theorem dX10_wants_39 : decode cX10_wants 39 = .ok (.bipush 12, 2) := by decide +kernel
theorem dX10_wants_41 : decode cX10_wants 41 = .ok (.iaload, 1) := by decide +kernel
theorem dX10_wants_42 : decode cX10_wants 42 = .ok (.iconst 4, 1) := by decide +kernel
theorem dX10_wants_43 : decode cX10_wants 43 = .ok (.idiv, 1) := by decide +kernel
theorem dX10_wants_44 : decode cX10_wants 44 = .ok (.isub, 1) := by decide +kernel
theorem dX10_wants_45 : decode cX10_wants 45 = .ok (.ireturn, 1) := by decide +kernel
theorem dX10_weaves_0 : decode cX10_weaves 0 = .ok (.aload_n 0, 1) := by decide +kernel
theorem dX10_weaves_1 : decode cX10_weaves 1 = .ok (.bipush 10, 2) := by decide +kernel
theorem dX10_weaves_3 : decode cX10_weaves 3 = .ok (.iaload, 1) := by decide +kernel
theorem dX10_weaves_4 : decode cX10_weaves 4 = .ok (.iload_n 1, 1) := by decide +kernel
theorem dX10_weaves_5 : decode cX10_weaves 5 = .ok (.iadd, 1) := by decide +kernel
theorem dX10_weaves_6 : decode cX10_weaves 6 = .ok (.aload_n 0, 1) := by decide +kernel
theorem dX10_weaves_7 : decode cX10_weaves 7 = .ok (.bipush 11, 2) := by decide +kernel
theorem dX10_weaves_9 : decode cX10_weaves 9 = .ok (.iaload, 1) := by decide +kernel
theorem dX10_weaves_10 : decode cX10_weaves 10 = .ok (.isub, 1) := by decide +kernel
theorem dX10_weaves_11 : decode cX10_weaves 11 = .ok (.istore_n 2, 1) := by decide +kernel
theorem dX10_weaves_12 : decode cX10_weaves 12 = .ok (.iload_n 2, 1) := by decide +kernel
theorem dX10_weaves_13 : decode cX10_weaves 13 = .ok (.ifCond .le 7, 3) := by decide +kernel
theorem dX10_weaves_16 : decode cX10_weaves 16 = .ok (.iload_n 2, 1) := by decide +kernel
theorem dX10_weaves_17 : decode cX10_weaves 17 = .ok (.goto 4, 3) := by decide +kernel
theorem dX10_weaves_20 : decode cX10_weaves 20 = .ok (.iconst 0, 1) := by decide +kernel
theorem dX10_weaves_21 : decode cX10_weaves 21 = .ok (.istore_n 3, 1) := by decide +kernel
theorem dX10_weaves_22 : decode cX10_weaves 22 = .ok (.aload_n 0, 1) := by decide +kernel
theorem dX10_weaves_23 : decode cX10_weaves 23 = .ok (.bipush 10, 2) := by decide +kernel
theorem dX10_weaves_25 : decode cX10_weaves 25 = .ok (.dup2, 1) := by decide +kernel
theorem dX10_weaves_26 : decode cX10_weaves 26 = .ok (.iaload, 1) := by decide +kernel
theorem dX10_weaves_27 : decode cX10_weaves 27 = .ok (.iload_n 1, 1) := by decide +kernel
theorem dX10_weaves_28 : decode cX10_weaves 28 = .ok (.iadd, 1) := by decide +kernel
theorem dX10_weaves_29 : decode cX10_weaves 29 = .ok (.iastore, 1) := by decide +kernel
theorem dX10_weaves_30 : decode cX10_weaves 30 = .ok (.aload_n 0, 1) := by decide +kernel
theorem dX10_weaves_31 : decode cX10_weaves 31 = .ok (.bipush 11, 2) := by decide +kernel
theorem dX10_weaves_33 : decode cX10_weaves 33 = .ok (.dup2, 1) := by decide +kernel
theorem dX10_weaves_34 : decode cX10_weaves 34 = .ok (.iaload, 1) := by decide +kernel
theorem dX10_weaves_35 : decode cX10_weaves 35 = .ok (.iload_n 3, 1) := by decide +kernel
theorem dX10_weaves_36 : decode cX10_weaves 36 = .ok (.iadd, 1) := by decide +kernel
theorem dX10_weaves_37 : decode cX10_weaves 37 = .ok (.iastore, 1) := by decide +kernel
theorem dX10_weaves_38 : decode cX10_weaves 38 = .ok (.aload_n 0, 1) := by decide +kernel
theorem dX10_weaves_39 : decode cX10_weaves 39 = .ok (.bipush 12, 2) := by decide +kernel
theorem dX10_weaves_41 : decode cX10_weaves 41 = .ok (.dup2, 1) := by decide +kernel
theorem dX10_weaves_42 : decode cX10_weaves 42 = .ok (.iaload, 1) := by decide +kernel
theorem dX10_weaves_43 : decode cX10_weaves 43 = .ok (.iload_n 1, 1) := by decide +kernel
theorem dX10_weaves_44 : decode cX10_weaves 44 = .ok (.iload_n 3, 1) := by decide +kernel
theorem dX10_weaves_45 : decode cX10_weaves 45 = .ok (.isub, 1) := by decide +kernel
theorem dX10_weaves_46 : decode cX10_weaves 46 = .ok (.iadd, 1) := by decide +kernel
theorem dX10_weaves_47 : decode cX10_weaves 47 = .ok (.iastore, 1) := by decide +kernel
theorem dX10_weaves_48 : decode cX10_weaves 48 = .ok (.return_, 1) := by decide +kernel
theorem dX10_comes_0 : decode cX10_comes 0 = .ok (.aload_n 0, 1) := by decide +kernel
theorem dX10_comes_1 : decode cX10_comes 1 = .ok (.bipush 8, 2) := by decide +kernel
theorem dX10_comes_3 : decode cX10_comes 3 = .ok (.iaload, 1) := by decide +kernel
theorem dX10_comes_4 : decode cX10_comes 4 = .ok (.aload_n 0, 1) := by decide +kernel
theorem dX10_comes_5 : decode cX10_comes 5 = .ok (.bipush 28, 2) := by decide +kernel
theorem dX10_comes_7 : decode cX10_comes 7 = .ok (.iload_n 1, 1) := by decide +kernel
theorem dX10_comes_8 : decode cX10_comes 8 = .ok (.iadd, 1) := by decide +kernel
theorem dX10_comes_9 : decode cX10_comes 9 = .ok (.iaload, 1) := by decide +kernel
theorem dX10_comes_10 : decode cX10_comes 10 = .ok (.irem, 1) := by decide +kernel
theorem dX10_comes_11 : decode cX10_comes 11 = .ok (.ifCond .ne 7, 3) := by decide +kernel
theorem dX10_comes_14 : decode cX10_comes 14 = .ok (.iconst 1, 1) := by decide +kernel
theorem dX10_comes_15 : decode cX10_comes 15 = .ok (.goto 4, 3) := by decide +kernel
theorem dX10_comes_18 : decode cX10_comes 18 = .ok (.iconst 0, 1) := by decide +kernel
theorem dX10_comes_19 : decode cX10_comes 19 = .ok (.ireturn, 1) := by decide +kernel
set_option maxRecDepth 20000 in
theorem ggX10_looksSame_X10_colourAt : GoodIn wsX10_looksSame wsX10_colourAt := goodIn_r _ [4] (by decide +kernel) (by decide +kernel)
set_option maxRecDepth 20000 in
theorem gX10_looksSame_X10_colourAt : GoodIn wsX10_looksSame (va_wsS RX10 148 yX10_colourAt wsX10_colourAt) := goodIn_app (goodIn_of _ (by decide +kernel)) ggX10_looksSame_X10_colourAt
theorem dX10_looksSame_0 : decode cX10_looksSame 0 = .ok (.aload_n 0, 1) := by decide +kernel
theorem dX10_looksSame_1 : decode cX10_looksSame 1 = .ok (.bipush 10, 2) := by decide +kernel
theorem dX10_looksSame_3 : decode cX10_looksSame 3 = .ok (.iaload, 1) := by decide +kernel
theorem dX10_looksSame_4 : decode cX10_looksSame 4 = .ok (.istore_n 2, 1) := by decide +kernel
theorem dX10_looksSame_5 : decode cX10_looksSame 5 = .ok (.iload_n 2, 1) := by decide +kernel
theorem dX10_looksSame_6 : decode cX10_looksSame 6 = .ok (.iconst 1, 1) := by decide +kernel
theorem dX10_looksSame_7 : decode cX10_looksSame 7 = .ok (.if_icmp .le 46, 3) := by decide +kernel
theorem dX10_looksSame_10 : decode cX10_looksSame 10 = .ok (.iload_n 1, 1) := by decide +kernel
theorem dX10_looksSame_11 : decode cX10_looksSame 11 = .ok (.iconst 1, 1) := by decide +kernel
theorem dX10_looksSame_12 : decode cX10_looksSame 12 = .ok (.if_icmp .le 41, 3) := by decide +kernel
theorem dX10_looksSame_15 : decode cX10_looksSame 15 = .ok (.aload_n 0, 1) := by decide +kernel
theorem dX10_looksSame_16 : decode cX10_looksSame 16 = .ok (.iload_n 2, 1) := by decide +kernel
theorem dX10_looksSame_17 : decode cX10_looksSame 17 = .ok (.iconst 1, 1) := by decide +kernel
theorem dX10_looksSame_18 : decode cX10_looksSame 18 = .ok (.isub, 1) := by decide +kernel
theorem dX10_looksSame_19 : decode cX10_looksSame 19 = .ok (.invokestatic 148, 3) := by decide +kernel
theorem dX10_looksSame_22 : decode cX10_looksSame 22 = .ok (.aload_n 0, 1) := by decide +kernel
theorem dX10_looksSame_23 : decode cX10_looksSame 23 = .ok (.iload_n 1, 1) := by decide +kernel
theorem dX10_looksSame_24 : decode cX10_looksSame 24 = .ok (.iconst 1, 1) := by decide +kernel
theorem dX10_looksSame_25 : decode cX10_looksSame 25 = .ok (.isub, 1) := by decide +kernel
theorem dX10_looksSame_26 : decode cX10_looksSame 26 = .ok (.invokestatic 148, 3) := by decide +kernel
theorem dX10_looksSame_29 : decode cX10_looksSame 29 = .ok (.if_icmp .ne 24, 3) := by decide +kernel
theorem dX10_looksSame_32 : decode cX10_looksSame 32 = .ok (.aload_n 0, 1) := by decide +kernel
theorem dX10_looksSame_33 : decode cX10_looksSame 33 = .ok (.iload_n 2, 1) := by decide +kernel
theorem dX10_looksSame_34 : decode cX10_looksSame 34 = .ok (.iconst 2, 1) := by decide +kernel
theorem dX10_looksSame_35 : decode cX10_looksSame 35 = .ok (.isub, 1) := by decide +kernel
theorem dX10_looksSame_36 : decode cX10_looksSame 36 = .ok (.invokestatic 148, 3) := by decide +kernel
theorem dX10_looksSame_39 : decode cX10_looksSame 39 = .ok (.aload_n 0, 1) := by decide +kernel
theorem dX10_looksSame_40 : decode cX10_looksSame 40 = .ok (.iload_n 1, 1) := by decide +kernel
theorem dX10_looksSame_41 : decode cX10_looksSame 41 = .ok (.iconst 2, 1) := by decide +kernel
theorem dX10_looksSame_42 : decode cX10_looksSame 42 = .ok (.isub, 1) := by decide +kernel
theorem dX10_looksSame_43 : decode cX10_looksSame 43 = .ok (.invokestatic 148, 3) := by decide +kernel
theorem dX10_looksSame_46 : decode cX10_looksSame 46 = .ok (.if_icmp .ne 7, 3) := by decide +kernel
theorem dX10_looksSame_49 : decode cX10_looksSame 49 = .ok (.iconst 1, 1) := by decide +kernel
theorem dX10_looksSame_50 : decode cX10_looksSame 50 = .ok (.goto 4, 3) := by decide +kernel
theorem dX10_looksSame_53 : decode cX10_looksSame 53 = .ok (.iconst 0, 1) := by decide +kernel
theorem dX10_looksSame_54 : decode cX10_looksSame 54 = .ok (.ireturn, 1) := by decide +kernel
set_option maxRecDepth 20000 in
theorem ggX10_looks_X10_comes : GoodIn wsX10_looks wsX10_comes := goodIn_r _ [4] (by decide +kernel) (by decide +kernel)
set_option maxRecDepth 20000 in
theorem gX10_looks_X10_comes : GoodIn wsX10_looks (va_wsS RX10 152 yX10_comes wsX10_comes) := goodIn_app (goodIn_of _ (by decide +kernel)) ggX10_looks_X10_comes
set_option maxRecDepth 20000 in
theorem ggX10_looks_X10_looksSame : GoodIn wsX10_looks wsX10_looksSame := goodIn_r _ [7, 8, 9, 3, 10] (by decide +kernel) (by decide +kernel)
set_option maxRecDepth 20000 in
theorem gX10_looks_X10_looksSame : GoodIn wsX10_looks (va_wsS RX10 156 yX10_looksSame wsX10_looksSame) := goodIn_app (goodIn_of _ (by decide +kernel)) ggX10_looks_X10_looksSame
theorem dX10_looks_0 : decode cX10_looks 0 = .ok (.iconst 0, 1) := by decide +kernel
theorem dX10_looks_1 : decode cX10_looks 1 = .ok (.istore_n 1, 1) := by decide +kernel
theorem dX10_looks_2 : decode cX10_looks 2 = .ok (.iload_n 1, 1) := by decide +kernel
theorem dX10_looks_3 : decode cX10_looks 3 = .ok (.aload_n 0, 1) := by decide +kernel
theorem dX10_looks_4 : decode cX10_looks 4 = .ok (.bipush 7, 2) := by decide +kernel
theorem dX10_looks_6 : decode cX10_looks 6 = .ok (.iaload, 1) := by decide +kernel
theorem dX10_looks_7 : decode cX10_looks 7 = .ok (.if_icmp .ge 118, 3) := by decide +kernel
theorem dX10_looks_10 : decode cX10_looks 10 = .ok (.aload_n 0, 1) := by decide +kernel
theorem dX10_looks_11 : decode cX10_looks 11 = .ok (.bipush 23, 2) := by decide +kernel
theorem dX10_looks_13 : decode cX10_looks 13 = .ok (.iload_n 1, 1) := by decide +kernel
theorem dX10_looks_14 : decode cX10_looks 14 = .ok (.iadd, 1) := by decide +kernel
theorem dX10_looks_15 : decode cX10_looks 15 = .ok (.iaload, 1) := by decide +kernel
theorem dX10_looks_16 : decode cX10_looks 16 = .ok (.istore_n 2, 1) := by decide +kernel
theorem dX10_looks_17 : decode cX10_looks 17 = .ok (.aload_n 0, 1) := by decide +kernel
theorem dX10_looks_18 : decode cX10_looks 18 = .ok (.bipush 43, 2) := by decide +kernel
theorem dX10_looks_20 : decode cX10_looks 20 = .ok (.iload_n 1, 1) := by decide +kernel
theorem dX10_looks_21 : decode cX10_looks 21 = .ok (.iadd, 1) := by decide +kernel
theorem dX10_looks_22 : decode cX10_looks 22 = .ok (.iaload, 1) := by decide +kernel
theorem dX10_looks_23 : decode cX10_looks 23 = .ok (.istore_n 3, 1) := by decide +kernel
theorem dX10_looks_24 : decode cX10_looks 24 = .ok (.iload_n 2, 1) := by decide +kernel
theorem dX10_looks_25 : decode cX10_looks 25 = .ok (.iconst 4, 1) := by decide +kernel
theorem dX10_looks_26 : decode cX10_looks 26 = .ok (.if_icmp .ge 93, 3) := by decide +kernel
theorem dX10_looks_29 : decode cX10_looks 29 = .ok (.aload_n 0, 1) := by decide +kernel
theorem dX10_looks_30 : decode cX10_looks 30 = .ok (.iload_n 1, 1) := by decide +kernel
theorem dX10_looks_31 : decode cX10_looks 31 = .ok (.invokestatic 152, 3) := by decide +kernel
theorem dX10_looks_34 : decode cX10_looks 34 = .ok (.ifCond .eq 85, 3) := by decide +kernel
theorem dX10_looks_37 : decode cX10_looks 37 = .ok (.iload_n 2, 1) := by decide +kernel
theorem dX10_looks_38 : decode cX10_looks 38 = .ok (.iconst 1, 1) := by decide +kernel
theorem dX10_looks_39 : decode cX10_looks 39 = .ok (.if_icmp .ne 19, 3) := by decide +kernel
theorem dX10_looks_42 : decode cX10_looks 42 = .ok (.aload_n 0, 1) := by decide +kernel
theorem dX10_looks_43 : decode cX10_looks 43 = .ok (.bipush 10, 2) := by decide +kernel
theorem dX10_looks_45 : decode cX10_looks 45 = .ok (.iaload, 1) := by decide +kernel
theorem dX10_looks_46 : decode cX10_looks 46 = .ok (.iload_n 3, 1) := by decide +kernel
theorem dX10_looks_47 : decode cX10_looks 47 = .ok (.if_icmp .gt 7, 3) := by decide +kernel
theorem dX10_looks_50 : decode cX10_looks 50 = .ok (.iconst 1, 1) := by decide +kernel
theorem dX10_looks_51 : decode cX10_looks 51 = .ok (.goto 33, 3) := by decide +kernel
theorem dX10_looks_54 : decode cX10_looks 54 = .ok (.iconst 0, 1) := by decide +kernel
theorem dX10_looks_55 : decode cX10_looks 55 = .ok (.goto 29, 3) := by decide +kernel
theorem dX10_looks_58 : decode cX10_looks 58 = .ok (.iload_n 2, 1) := by decide +kernel
theorem dX10_looks_59 : decode cX10_looks 59 = .ok (.iconst 3, 1) := by decide +kernel
theorem dX10_looks_60 : decode cX10_looks 60 = .ok (.if_icmp .ne 19, 3) := by decide +kernel
theorem dX10_looks_63 : decode cX10_looks 63 = .ok (.aload_n 0, 1) := by decide +kernel
theorem dX10_looks_64 : decode cX10_looks 64 = .ok (.bipush 10, 2) := by decide +kernel
theorem dX10_looks_66 : decode cX10_looks 66 = .ok (.iaload, 1) := by decide +kernel
theorem dX10_looks_67 : decode cX10_looks 67 = .ok (.iload_n 3, 1) := by decide +kernel
theorem dX10_looks_68 : decode cX10_looks 68 = .ok (.if_icmp .ge 7, 3) := by decide +kernel
theorem dX10_looks_71 : decode cX10_looks 71 = .ok (.iconst 1, 1) := by decide +kernel
theorem dX10_looks_72 : decode cX10_looks 72 = .ok (.goto 12, 3) := by decide +kernel
theorem dX10_looks_75 : decode cX10_looks 75 = .ok (.iconst 0, 1) := by decide +kernel
theorem dX10_looks_76 : decode cX10_looks 76 = .ok (.goto 8, 3) := by decide +kernel
theorem dX10_looks_79 : decode cX10_looks 79 = .ok (.aload_n 0, 1) := by decide +kernel
theorem dX10_looks_80 : decode cX10_looks 80 = .ok (.iload_n 3, 1) := by decide +kernel
theorem dX10_looks_81 : decode cX10_looks 81 = .ok (.invokestatic 156, 3) := by decide +kernel
theorem dX10_looks_84 : decode cX10_looks 84 = .ok (.istore 4, 2) := by decide +kernel
theorem dX10_looks_86 : decode cX10_looks 86 = .ok (.aload_n 0, 1) := by decide +kernel
theorem dX10_looks_87 : decode cX10_looks 87 = .ok (.bipush 38, 2) := by decide +kernel
theorem dX10_looks_89 : decode cX10_looks 89 = .ok (.iload_n 1, 1) := by decide +kernel
theorem dX10_looks_90 : decode cX10_looks 90 = .ok (.iadd, 1) := by decide +kernel
theorem dX10_looks_91 : decode cX10_looks 91 = .ok (.dup2, 1) := by decide +kernel
theorem dX10_looks_92 : decode cX10_looks 92 = .ok (.iaload, 1) := by decide +kernel
theorem dX10_looks_93 : decode cX10_looks 93 = .ok (.iload_n 3, 1) := by decide +kernel
theorem dX10_looks_94 : decode cX10_looks 94 = .ok (.ifCond .lt 12, 3) := by decide +kernel
theorem dX10_looks_97 : decode cX10_looks 97 = .ok (.iload 4, 2) := by decide +kernel
theorem dX10_looks_99 : decode cX10_looks 99 = .ok (.ifCond .eq 7, 3) := by decide +kernel
theorem dX10_looks_102 : decode cX10_looks 102 = .ok (.iconst 1, 1) := by decide +kernel
theorem dX10_looks_103 : decode cX10_looks 103 = .ok (.goto 4, 3) := by decide +kernel
theorem dX10_looks_106 : decode cX10_looks 106 = .ok (.iconst 0, 1) := by decide +kernel
theorem dX10_looks_107 : decode cX10_looks 107 = .ok (.iadd, 1) := by decide +kernel
theorem dX10_looks_108 : decode cX10_looks 108 = .ok (.iastore, 1) := by decide +kernel
theorem dX10_looks_109 : decode cX10_looks 109 = .ok (.aload_n 0, 1) := by decide +kernel
theorem dX10_looks_110 : decode cX10_looks 110 = .ok (.bipush 43, 2) := by decide +kernel
theorem dX10_looks_112 : decode cX10_looks 112 = .ok (.iload_n 1, 1) := by decide +kernel
theorem dX10_looks_113 : decode cX10_looks 113 = .ok (.iadd, 1) := by decide +kernel
theorem dX10_looks_114 : decode cX10_looks 114 = .ok (.aload_n 0, 1) := by decide +kernel
theorem dX10_looks_115 : decode cX10_looks 115 = .ok (.bipush 10, 2) := by decide +kernel
theorem dX10_looks_117 : decode cX10_looks 117 = .ok (.iaload, 1) := by decide +kernel
theorem dX10_looks_118 : decode cX10_looks 118 = .ok (.iastore, 1) := by decide +kernel
theorem dX10_looks_119 : decode cX10_looks 119 = .ok (.iinc 1 1, 3) := by decide +kernel
theorem dX10_looks_122 : decode cX10_looks 122 = .ok (.goto (-120), 3) := by decide +kernel
theorem dX10_looks_125 : decode cX10_looks 125 = .ok (.return_, 1) := by decide +kernel
theorem dX10_feasts_0 : decode cX10_feasts 0 = .ok (.aload_n 0, 1) := by decide +kernel
theorem dX10_feasts_1 : decode cX10_feasts 1 = .ok (.iconst 4, 1) := by decide +kernel
theorem dX10_feasts_2 : decode cX10_feasts 2 = .ok (.iaload, 1) := by decide +kernel
theorem dX10_feasts_3 : decode cX10_feasts 3 = .ok (.ifCond .eq 14, 3) := by decide +kernel
theorem dX10_feasts_6 : decode cX10_feasts 6 = .ok (.aload_n 0, 1) := by decide +kernel
theorem dX10_feasts_7 : decode cX10_feasts 7 = .ok (.bipush 8, 2) := by decide +kernel
theorem dX10_feasts_9 : decode cX10_feasts 9 = .ok (.iaload, 1) := by decide +kernel
theorem dX10_feasts_10 : decode cX10_feasts 10 = .ok (.aload_n 0, 1) := by decide +kernel
theorem dX10_feasts_11 : decode cX10_feasts 11 = .ok (.iconst 4, 1) := by decide +kernel
theorem dX10_feasts_12 : decode cX10_feasts 12 = .ok (.iaload, 1) := by decide +kernel
theorem dX10_feasts_13 : decode cX10_feasts 13 = .ok (.irem, 1) := by decide +kernel
theorem dX10_feasts_14 : decode cX10_feasts 14 = .ok (.ifCond .eq 5, 3) := by decide +kernel
theorem dX10_feasts_17 : decode cX10_feasts 17 = .ok (.iconst 0, 1) := by decide +kernel
theorem dX10_feasts_18 : decode cX10_feasts 18 = .ok (.ireturn, 1) := by decide +kernel
theorem dX10_feasts_19 : decode cX10_feasts 19 = .ok (.aload_n 0, 1) := by decide +kernel
theorem dX10_feasts_20 : decode cX10_feasts 20 = .ok (.bipush 10, 2) := by decide +kernel
theorem dX10_feasts_22 : decode cX10_feasts 22 = .ok (.iaload, 1) := by decide +kernel
theorem dX10_feasts_23 : decode cX10_feasts 23 = .ok (.aload_n 0, 1) := by decide +kernel
theorem dX10_feasts_24 : decode cX10_feasts 24 = .ok (.bipush 14, 2) := by decide +kernel
theorem dX10_feasts_26 : decode cX10_feasts 26 = .ok (.iaload, 1) := by decide +kernel
theorem dX10_feasts_27 : decode cX10_feasts 27 = .ok (.isub, 1) := by decide +kernel
theorem dX10_feasts_28 : decode cX10_feasts 28 = .ok (.aload_n 0, 1) := by decide +kernel
theorem dX10_feasts_29 : decode cX10_feasts 29 = .ok (.iconst 5, 1) := by decide +kernel
theorem dX10_feasts_30 : decode cX10_feasts 30 = .ok (.iaload, 1) := by decide +kernel
theorem dX10_feasts_31 : decode cX10_feasts 31 = .ok (.if_icmp .ge 7, 3) := by decide +kernel
theorem dX10_feasts_34 : decode cX10_feasts 34 = .ok (.iconst 1, 1) := by decide +kernel
theorem dX10_feasts_35 : decode cX10_feasts 35 = .ok (.goto 4, 3) := by decide +kernel
theorem dX10_feasts_38 : decode cX10_feasts 38 = .ok (.iconst 0, 1) := by decide +kernel
theorem dX10_feasts_39 : decode cX10_feasts 39 = .ok (.istore_n 1, 1) := by decide +kernel
theorem dX10_feasts_40 : decode cX10_feasts 40 = .ok (.aload_n 0, 1) := by decide +kernel
theorem dX10_feasts_41 : decode cX10_feasts 41 = .ok (.bipush 13, 2) := by decide +kernel
theorem dX10_feasts_43 : decode cX10_feasts 43 = .ok (.dup2, 1) := by decide +kernel
theorem dX10_feasts_44 : decode cX10_feasts 44 = .ok (.iaload, 1) := by decide +kernel
theorem dX10_feasts_45 : decode cX10_feasts 45 = .ok (.iload_n 1, 1) := by decide +kernel
theorem dX10_feasts_46 : decode cX10_feasts 46 = .ok (.ifCond .eq 7, 3) := by decide +kernel
theorem dX10_feasts_49 : decode cX10_feasts 49 = .ok (.iconst 1, 1) := by decide +kernel
theorem dX10_feasts_50 : decode cX10_feasts 50 = .ok (.goto 4, 3) := by decide +kernel
theorem dX10_feasts_53 : decode cX10_feasts 53 = .ok (.iconst 0, 1) := by decide +kernel
theorem dX10_feasts_54 : decode cX10_feasts 54 = .ok (.iadd, 1) := by decide +kernel
theorem dX10_feasts_55 : decode cX10_feasts 55 = .ok (.iastore, 1) := by decide +kernel
theorem dX10_feasts_56 : decode cX10_feasts 56 = .ok (.aload_n 0, 1) := by decide +kernel
theorem dX10_feasts_57 : decode cX10_feasts 57 = .ok (.bipush 14, 2) := by decide +kernel
theorem dX10_feasts_59 : decode cX10_feasts 59 = .ok (.aload_n 0, 1) := by decide +kernel
theorem dX10_feasts_60 : decode cX10_feasts 60 = .ok (.bipush 10, 2) := by decide +kernel
theorem dX10_feasts_62 : decode cX10_feasts 62 = .ok (.iaload, 1) := by decide +kernel
theorem dX10_feasts_63 : decode cX10_feasts 63 = .ok (.iastore, 1) := by decide +kernel
theorem dX10_feasts_64 : decode cX10_feasts 64 = .ok (.iload_n 1, 1) := by decide +kernel
theorem dX10_feasts_65 : decode cX10_feasts 65 = .ok (.ireturn, 1) := by decide +kernel
theorem dX10_isMoon_0 : decode cX10_isMoon 0 = .ok (.aload_n 0, 1) := by decide +kernel
theorem dX10_isMoon_1 : decode cX10_isMoon 1 = .ok (.iconst 3, 1) := by decide +kernel
theorem dX10_isMoon_2 : decode cX10_isMoon 2 = .ok (.iaload, 1) := by decide +kernel
theorem dX10_isMoon_3 : decode cX10_isMoon 3 = .ok (.ifCond .eq 18, 3) := by decide +kernel
theorem dX10_isMoon_6 : decode cX10_isMoon 6 = .ok (.aload_n 0, 1) := by decide +kernel
theorem dX10_isMoon_7 : decode cX10_isMoon 7 = .ok (.bipush 8, 2) := by decide +kernel
theorem dX10_isMoon_9 : decode cX10_isMoon 9 = .ok (.iaload, 1) := by decide +kernel
theorem dX10_isMoon_10 : decode cX10_isMoon 10 = .ok (.aload_n 0, 1) := by decide +kernel
theorem dX10_isMoon_11 : decode cX10_isMoon 11 = .ok (.iconst 3, 1) := by decide +kernel
theorem dX10_isMoon_12 : decode cX10_isMoon 12 = .ok (.iaload, 1) := by decide +kernel
theorem dX10_isMoon_13 : decode cX10_isMoon 13 = .ok (.irem, 1) := by decide +kernel
theorem dX10_isMoon_14 : decode cX10_isMoon 14 = .ok (.ifCond .ne 7, 3) := by decide +kernel
theorem dX10_isMoon_17 : decode cX10_isMoon 17 = .ok (.iconst 1, 1) := by decide +kernel
theorem dX10_isMoon_18 : decode cX10_isMoon 18 = .ok (.goto 4, 3) := by decide +kernel
theorem dX10_isMoon_21 : decode cX10_isMoon 21 = .ok (.iconst 0, 1) := by decide +kernel
theorem dX10_isMoon_22 : decode cX10_isMoon 22 = .ok (.ireturn, 1) := by decide +kernel
set_option maxRecDepth 20000 in
theorem ggX10_undoes_X10_comes : GoodIn wsX10_undoes wsX10_comes := goodIn_r _ [4] (by decide +kernel) (by decide +kernel)
set_option maxRecDepth 20000 in
theorem gX10_undoes_X10_comes : GoodIn wsX10_undoes (va_wsS RX10 152 yX10_comes wsX10_comes) := goodIn_app (goodIn_of _ (by decide +kernel)) ggX10_undoes_X10_comes
theorem dX10_undoes_0 : decode cX10_undoes 0 = .ok (.iconst 0, 1) := by decide +kernel
theorem dX10_undoes_1 : decode cX10_undoes 1 = .ok (.istore_n 2, 1) := by decide +kernel
theorem dX10_undoes_2 : decode cX10_undoes 2 = .ok (.iload_n 2, 1) := by decide +kernel
theorem dX10_undoes_3 : decode cX10_undoes 3 = .ok (.aload_n 0, 1) := by decide +kernel
theorem dX10_undoes_4 : decode cX10_undoes 4 = .ok (.bipush 7, 2) := by decide +kernel
theorem dX10_undoes_6 : decode cX10_undoes 6 = .ok (.iaload, 1) := by decide +kernel
theorem dX10_undoes_7 : decode cX10_undoes 7 = .ok (.if_icmp .ge 50, 3) := by decide +kernel
theorem dX10_undoes_10 : decode cX10_undoes 10 = .ok (.aload_n 0, 1) := by decide +kernel
theorem dX10_undoes_11 : decode cX10_undoes 11 = .ok (.bipush 23, 2) := by decide +kernel
theorem dX10_undoes_13 : decode cX10_undoes 13 = .ok (.iload_n 2, 1) := by decide +kernel
theorem dX10_undoes_14 : decode cX10_undoes 14 = .ok (.iadd, 1) := by decide +kernel
theorem dX10_undoes_15 : decode cX10_undoes 15 = .ok (.iaload, 1) := by decide +kernel
theorem dX10_undoes_16 : decode cX10_undoes 16 = .ok (.istore_n 3, 1) := by decide +kernel
theorem dX10_undoes_17 : decode cX10_undoes 17 = .ok (.aload_n 0, 1) := by decide +kernel
theorem dX10_undoes_18 : decode cX10_undoes 18 = .ok (.bipush 38, 2) := by decide +kernel
theorem dX10_undoes_20 : decode cX10_undoes 20 = .ok (.iload_n 2, 1) := by decide +kernel
theorem dX10_undoes_21 : decode cX10_undoes 21 = .ok (.iadd, 1) := by decide +kernel
theorem dX10_undoes_22 : decode cX10_undoes 22 = .ok (.dup2, 1) := by decide +kernel
theorem dX10_undoes_23 : decode cX10_undoes 23 = .ok (.iaload, 1) := by decide +kernel
theorem dX10_undoes_24 : decode cX10_undoes 24 = .ok (.iload_n 3, 1) := by decide +kernel
theorem dX10_undoes_25 : decode cX10_undoes 25 = .ok (.iconst 4, 1) := by decide +kernel
theorem dX10_undoes_26 : decode cX10_undoes 26 = .ok (.if_icmp .lt 22, 3) := by decide +kernel
theorem dX10_undoes_29 : decode cX10_undoes 29 = .ok (.aload_n 0, 1) := by decide +kernel
theorem dX10_undoes_30 : decode cX10_undoes 30 = .ok (.iload_n 2, 1) := by decide +kernel
theorem dX10_undoes_31 : decode cX10_undoes 31 = .ok (.invokestatic 152, 3) := by decide +kernel
theorem dX10_undoes_34 : decode cX10_undoes 34 = .ok (.ifCond .eq 14, 3) := by decide +kernel
theorem dX10_undoes_37 : decode cX10_undoes 37 = .ok (.iload_n 1, 1) := by decide +kernel
theorem dX10_undoes_38 : decode cX10_undoes 38 = .ok (.iload_n 3, 1) := by decide +kernel
theorem dX10_undoes_39 : decode cX10_undoes 39 = .ok (.iconst 4, 1) := by decide +kernel
theorem dX10_undoes_40 : decode cX10_undoes 40 = .ok (.isub, 1) := by decide +kernel
theorem dX10_undoes_41 : decode cX10_undoes 41 = .ok (.if_icmp .le 7, 3) := by decide +kernel
theorem dX10_undoes_44 : decode cX10_undoes 44 = .ok (.iconst 1, 1) := by decide +kernel
theorem dX10_undoes_45 : decode cX10_undoes 45 = .ok (.goto 4, 3) := by decide +kernel
theorem dX10_undoes_48 : decode cX10_undoes 48 = .ok (.iconst 0, 1) := by decide +kernel
theorem dX10_undoes_49 : decode cX10_undoes 49 = .ok (.iadd, 1) := by decide +kernel
theorem dX10_undoes_50 : decode cX10_undoes 50 = .ok (.iastore, 1) := by decide +kernel
theorem dX10_undoes_51 : decode cX10_undoes 51 = .ok (.iinc 2 1, 3) := by decide +kernel
theorem dX10_undoes_54 : decode cX10_undoes 54 = .ok (.goto (-52), 3) := by decide +kernel
theorem dX10_undoes_57 : decode cX10_undoes 57 = .ok (.aload_n 0, 1) := by decide +kernel
theorem dX10_undoes_58 : decode cX10_undoes 58 = .ok (.bipush 10, 2) := by decide +kernel
theorem dX10_undoes_60 : decode cX10_undoes 60 = .ok (.dup2, 1) := by decide +kernel
theorem dX10_undoes_61 : decode cX10_undoes 61 = .ok (.iaload, 1) := by decide +kernel
theorem dX10_undoes_62 : decode cX10_undoes 62 = .ok (.iload_n 1, 1) := by decide +kernel
theorem dX10_undoes_63 : decode cX10_undoes 63 = .ok (.isub, 1) := by decide +kernel
theorem dX10_undoes_64 : decode cX10_undoes 64 = .ok (.iastore, 1) := by decide +kernel
theorem dX10_undoes_65 : decode cX10_undoes 65 = .ok (.aload_n 0, 1) := by decide +kernel
theorem dX10_undoes_66 : decode cX10_undoes 66 = .ok (.bipush 9, 2) := by decide +kernel
theorem dX10_undoes_68 : decode cX10_undoes 68 = .ok (.iconst 0, 1) := by decide +kernel
theorem dX10_undoes_69 : decode cX10_undoes 69 = .ok (.iastore, 1) := by decide +kernel
theorem dX10_undoes_70 : decode cX10_undoes 70 = .ok (.aload_n 0, 1) := by decide +kernel
theorem dX10_undoes_71 : decode cX10_undoes 71 = .ok (.bipush 8, 2) := by decide +kernel
theorem dX10_undoes_73 : decode cX10_undoes 73 = .ok (.dup2, 1) := by decide +kernel
theorem dX10_undoes_74 : decode cX10_undoes 74 = .ok (.iaload, 1) := by decide +kernel
theorem dX10_undoes_75 : decode cX10_undoes 75 = .ok (.iconst 1, 1) := by decide +kernel
theorem dX10_undoes_76 : decode cX10_undoes 76 = .ok (.iadd, 1) := by decide +kernel
theorem dX10_undoes_77 : decode cX10_undoes 77 = .ok (.iastore, 1) := by decide +kernel
theorem dX10_undoes_78 : decode cX10_undoes 78 = .ok (.return_, 1) := by decide +kernel
theorem dX10_knows_0 : decode cX10_knows 0 = .ok (.aload_n 0, 1) := by decide +kernel
theorem dX10_knows_1 : decode cX10_knows 1 = .ok (.bipush 38, 2) := by decide +kernel
theorem dX10_knows_3 : decode cX10_knows 3 = .ok (.iload_n 1, 1) := by decide +kernel
theorem dX10_knows_4 : decode cX10_knows 4 = .ok (.iadd, 1) := by decide +kernel
theorem dX10_knows_5 : decode cX10_knows 5 = .ok (.iaload, 1) := by decide +kernel
theorem dX10_knows_6 : decode cX10_knows 6 = .ok (.aload_n 0, 1) := by decide +kernel
theorem dX10_knows_7 : decode cX10_knows 7 = .ok (.bipush 33, 2) := by decide +kernel
theorem dX10_knows_9 : decode cX10_knows 9 = .ok (.iload_n 1, 1) := by decide +kernel
theorem dX10_knows_10 : decode cX10_knows 10 = .ok (.iadd, 1) := by decide +kernel
theorem dX10_knows_11 : decode cX10_knows 11 = .ok (.iaload, 1) := by decide +kernel
theorem dX10_knows_12 : decode cX10_knows 12 = .ok (.if_icmp .lt 7, 3) := by decide +kernel
theorem dX10_knows_15 : decode cX10_knows 15 = .ok (.iconst 1, 1) := by decide +kernel
theorem dX10_knows_16 : decode cX10_knows 16 = .ok (.goto 4, 3) := by decide +kernel
theorem dX10_knows_19 : decode cX10_knows 19 = .ok (.iconst 0, 1) := by decide +kernel
theorem dX10_knows_20 : decode cX10_knows 20 = .ok (.ireturn, 1) := by decide +kernel
set_option maxRecDepth 20000 in
theorem ggX10_remember_X10_copies : GoodIn wsX10_remember wsX10_copies := goodIn_r _ [7] (by decide +kernel) (by decide +kernel)
set_option maxRecDepth 20000 in
theorem gX10_remember_X10_copies : GoodIn wsX10_remember (va_wsS RX10 144 yX10_copies wsX10_copies) := goodIn_app (goodIn_of _ (by decide +kernel)) ggX10_remember_X10_copies
theorem dX10_remember_0 : decode cX10_remember 0 = .ok (.aload_n 0, 1) := by decide +kernel
theorem dX10_remember_1 : decode cX10_remember 1 = .ok (.getfield 141, 3) := by decide +kernel
theorem dX10_remember_4 : decode cX10_remember 4 = .ok (.bipush 24, 2) := by decide +kernel
theorem dX10_remember_6 : decode cX10_remember 6 = .ok (.if_icmp .ne 43, 3) := by decide +kernel
theorem dX10_remember_9 : decode cX10_remember 9 = .ok (.iconst 0, 1) := by decide +kernel
theorem dX10_remember_10 : decode cX10_remember 10 = .ok (.istore_n 1, 1) := by decide +kernel
theorem dX10_remember_11 : decode cX10_remember 11 = .ok (.iload_n 1, 1) := by decide +kernel
theorem dX10_remember_12 : decode cX10_remember 12 = .ok (.sipush 1104, 3) := by decide +kernel
theorem dX10_remember_15 : decode cX10_remember 15 = .ok (.if_icmp .ge 24, 3) := by decide +kernel
theorem dX10_remember_18 : decode cX10_remember 18 = .ok (.aload_n 0, 1) := by decide +kernel
theorem dX10_remember_19 : decode cX10_remember 19 = .ok (.getfield 25, 3) := by decide +kernel
theorem dX10_remember_22 : decode cX10_remember 22 = .ok (.iload_n 1, 1) := by decide +kernel
theorem dX10_remember_23 : decode cX10_remember 23 = .ok (.aload_n 0, 1) := by decide +kernel
theorem dX10_remember_24 : decode cX10_remember 24 = .ok (.getfield 25, 3) := by decide +kernel
theorem dX10_remember_27 : decode cX10_remember 27 = .ok (.iload_n 1, 1) := by decide +kernel
theorem dX10_remember_28 : decode cX10_remember 28 = .ok (.bipush 48, 2) := by decide +kernel
theorem dX10_remember_30 : decode cX10_remember 30 = .ok (.iadd, 1) := by decide +kernel
theorem dX10_remember_31 : decode cX10_remember 31 = .ok (.iaload, 1) := by decide +kernel
theorem dX10_remember_32 : decode cX10_remember 32 = .ok (.iastore, 1) := by decide +kernel
theorem dX10_remember_33 : decode cX10_remember 33 = .ok (.iinc 1 1, 3) := by decide +kernel
theorem dX10_remember_36 : decode cX10_remember 36 = .ok (.goto (-25), 3) := by decide +kernel
theorem dX10_remember_39 : decode cX10_remember 39 = .ok (.aload_n 0, 1) := by decide +kernel
theorem dX10_remember_40 : decode cX10_remember 40 = .ok (.dup, 1) := by decide +kernel
theorem dX10_remember_41 : decode cX10_remember 41 = .ok (.getfield 141, 3) := by decide +kernel
theorem dX10_remember_44 : decode cX10_remember 44 = .ok (.iconst 1, 1) := by decide +kernel
theorem dX10_remember_45 : decode cX10_remember 45 = .ok (.isub, 1) := by decide +kernel
theorem dX10_remember_46 : decode cX10_remember 46 = .ok (.putfield 141, 3) := by decide +kernel
theorem dX10_remember_49 : decode cX10_remember 49 = .ok (.aload_n 0, 1) := by decide +kernel
theorem dX10_remember_50 : decode cX10_remember 50 = .ok (.getfield 22, 3) := by decide +kernel
theorem dX10_remember_53 : decode cX10_remember 53 = .ok (.iconst 0, 1) := by decide +kernel
theorem dX10_remember_54 : decode cX10_remember 54 = .ok (.aload_n 0, 1) := by decide +kernel
theorem dX10_remember_55 : decode cX10_remember 55 = .ok (.getfield 25, 3) := by decide +kernel
theorem dX10_remember_58 : decode cX10_remember 58 = .ok (.bipush 48, 2) := by decide +kernel
theorem dX10_remember_60 : decode cX10_remember 60 = .ok (.aload_n 0, 1) := by decide +kernel
theorem dX10_remember_61 : decode cX10_remember 61 = .ok (.getfield 141, 3) := by decide +kernel
theorem dX10_remember_64 : decode cX10_remember 64 = .ok (.imul, 1) := by decide +kernel
theorem dX10_remember_65 : decode cX10_remember 65 = .ok (.invokestatic 144, 3) := by decide +kernel
theorem dX10_remember_68 : decode cX10_remember 68 = .ok (.aload_n 0, 1) := by decide +kernel
theorem dX10_remember_69 : decode cX10_remember 69 = .ok (.dup, 1) := by decide +kernel
theorem dX10_remember_70 : decode cX10_remember 70 = .ok (.getfield 141, 3) := by decide +kernel
theorem dX10_remember_73 : decode cX10_remember 73 = .ok (.iconst 1, 1) := by decide +kernel
theorem dX10_remember_74 : decode cX10_remember 74 = .ok (.iadd, 1) := by decide +kernel
theorem dX10_remember_75 : decode cX10_remember 75 = .ok (.putfield 141, 3) := by decide +kernel
theorem dX10_remember_78 : decode cX10_remember 78 = .ok (.return_, 1) := by decide +kernel
set_option maxRecDepth 20000 in
theorem ggX10_weave_X10_in : GoodIn wsX10_weave wsX10_in := goodIn_r _ [9] (by decide +kernel) (by decide +kernel)
set_option maxRecDepth 20000 in
theorem gX10_weave_X10_in : GoodIn wsX10_weave (va_wsS RX10 51 yX10_in wsX10_in) := goodIn_app (goodIn_of _ (by decide +kernel)) ggX10_weave_X10_in
set_option maxRecDepth 20000 in
theorem ggX10_weave_X10_wants : GoodIn wsX10_weave wsX10_wants := goodIn_r _ [12] (by decide +kernel) (by decide +kernel)
set_option maxRecDepth 20000 in
theorem gX10_weave_X10_wants : GoodIn wsX10_weave (va_wsS RX10 162 yX10_wants wsX10_wants) := goodIn_app (goodIn_of _ (by decide +kernel)) ggX10_weave_X10_wants
set_option maxRecDepth 20000 in
theorem ggX10_weave_X10_yarn : GoodIn wsX10_weave wsX10_yarn := goodIn_r _ [15] (by decide +kernel) (by decide +kernel)
set_option maxRecDepth 20000 in
theorem gX10_weave_X10_yarn : GoodIn wsX10_weave (va_wsS RX10 165 yX10_yarn wsX10_yarn) := goodIn_app (goodIn_of _ (by decide +kernel)) ggX10_weave_X10_yarn
set_option maxRecDepth 20000 in
theorem ggX10_weave_X10_remember : GoodIn wsX10_weave wsX10_remember := goodIn_r _ [19, 20, 21, 5, 22, 23, 8, 24, 43, 44, 45, 46, 47, 48, 49, 50, 51, 52, 53, 54, 55, 56, 57, 58, 59, 60, 61, 62, 63, 64, 65, 66] (by decide +kernel) (by decide +kernel)
set_option maxRecDepth 20000 in
theorem gX10_weave_X10_remember : GoodIn wsX10_weave (wsV RX10 169 RX10 yX10_remember wsX10_remember) := goodIn_app (goodIn_of _ (by decide +kernel)) ggX10_weave_X10_remember
set_option maxRecDepth 20000 in
theorem ggX10_weave_X10_weaves : GoodIn wsX10_weave wsX10_weaves := goodIn_r _ [27] (by decide +kernel) (by decide +kernel)
set_option maxRecDepth 20000 in
theorem gX10_weave_X10_weaves : GoodIn wsX10_weave (va_wsS RX10 172 yX10_weaves wsX10_weaves) := goodIn_app (goodIn_of _ (by decide +kernel)) ggX10_weave_X10_weaves
set_option maxRecDepth 20000 in
theorem ggX10_weave_X10_looks : GoodIn wsX10_weave wsX10_looks := goodIn_r _ [30, 31, 32, 8, 33, 34, 35, 36, 37, 38, 39] (by decide +kernel) (by decide +kernel)
set_option maxRecDepth 20000 in
theorem gX10_weave_X10_looks : GoodIn wsX10_weave (va_wsS RX10 176 yX10_looks wsX10_looks) := goodIn_app (goodIn_of _ (by decide +kernel)) ggX10_weave_X10_looks
set_option maxRecDepth 20000 in
theorem ggX10_weave_X10_feasts : GoodIn wsX10_weave wsX10_feasts := goodIn_r _ [42] (by decide +kernel) (by decide +kernel)
set_option maxRecDepth 20000 in
theorem gX10_weave_X10_feasts : GoodIn wsX10_weave (va_wsS RX10 180 yX10_feasts wsX10_feasts) := goodIn_app (goodIn_of _ (by decide +kernel)) ggX10_weave_X10_feasts
theorem dX10_weave_0 : decode cX10_weave 0 = .ok (.aload_n 0, 1) := by decide +kernel
theorem dX10_weave_1 : decode cX10_weave 1 = .ok (.getfield 137, 3) := by decide +kernel
theorem dX10_weave_4 : decode cX10_weave 4 = .ok (.ifCond .ne 6, 3) := by decide +kernel
theorem dX10_weave_7 : decode cX10_weave 7 = .ok (.ldc 159, 2) := by decide +kernel
theorem dX10_weave_9 : decode cX10_weave 9 = .ok (.ireturn, 1) := by decide +kernel
theorem dX10_weave_10 : decode cX10_weave 10 = .ok (.iload_n 1, 1) := by decide +kernel
theorem dX10_weave_11 : decode cX10_weave 11 = .ok (.i2l, 1) := by decide +kernel
theorem dX10_weave_12 : decode cX10_weave 12 = .ok (.lconst 0, 1) := by decide +kernel
theorem dX10_weave_13 : decode cX10_weave 13 = .ok (.ldc2_w 160, 3) := by decide +kernel
theorem dX10_weave_16 : decode cX10_weave 16 = .ok (.invokestatic 51, 3) := by decide +kernel
theorem dX10_weave_19 : decode cX10_weave 19 = .ok (.ifCond .ne 6, 3) := by decide +kernel
theorem dX10_weave_22 : decode cX10_weave 22 = .ok (.ldc 61, 2) := by decide +kernel
theorem dX10_weave_24 : decode cX10_weave 24 = .ok (.ireturn, 1) := by decide +kernel
theorem dX10_weave_25 : decode cX10_weave 25 = .ok (.aload_n 0, 1) := by decide +kernel
theorem dX10_weave_26 : decode cX10_weave 26 = .ok (.getfield 22, 3) := by decide +kernel
theorem dX10_weave_29 : decode cX10_weave 29 = .ok (.bipush 9, 2) := by decide +kernel
theorem dX10_weave_31 : decode cX10_weave 31 = .ok (.iaload, 1) := by decide +kernel
theorem dX10_weave_32 : decode cX10_weave 32 = .ok (.iconst 1, 1) := by decide +kernel
theorem dX10_weave_33 : decode cX10_weave 33 = .ok (.if_icmp .eq 39, 3) := by decide +kernel
theorem dX10_weave_36 : decode cX10_weave 36 = .ok (.aload_n 0, 1) := by decide +kernel
theorem dX10_weave_37 : decode cX10_weave 37 = .ok (.getfield 22, 3) := by decide +kernel
theorem dX10_weave_40 : decode cX10_weave 40 = .ok (.bipush 10, 2) := by decide +kernel
theorem dX10_weave_42 : decode cX10_weave 42 = .ok (.iaload, 1) := by decide +kernel
theorem dX10_weave_43 : decode cX10_weave 43 = .ok (.iload_n 1, 1) := by decide +kernel
theorem dX10_weave_44 : decode cX10_weave 44 = .ok (.iadd, 1) := by decide +kernel
theorem dX10_weave_45 : decode cX10_weave 45 = .ok (.aload_n 0, 1) := by decide +kernel
theorem dX10_weave_46 : decode cX10_weave 46 = .ok (.getfield 22, 3) := by decide +kernel
theorem dX10_weave_49 : decode cX10_weave 49 = .ok (.iconst 0, 1) := by decide +kernel
theorem dX10_weave_50 : decode cX10_weave 50 = .ok (.iaload, 1) := by decide +kernel
theorem dX10_weave_51 : decode cX10_weave 51 = .ok (.if_icmp .gt 21, 3) := by decide +kernel
theorem dX10_weave_54 : decode cX10_weave 54 = .ok (.aload_n 0, 1) := by decide +kernel
theorem dX10_weave_55 : decode cX10_weave 55 = .ok (.getfield 22, 3) := by decide +kernel
theorem dX10_weave_58 : decode cX10_weave 58 = .ok (.iload_n 1, 1) := by decide +kernel
theorem dX10_weave_59 : decode cX10_weave 59 = .ok (.invokestatic 162, 3) := by decide +kernel
theorem dX10_weave_62 : decode cX10_weave 62 = .ok (.aload_n 0, 1) := by decide +kernel
theorem dX10_weave_63 : decode cX10_weave 63 = .ok (.getfield 22, 3) := by decide +kernel
theorem dX10_weave_66 : decode cX10_weave 66 = .ok (.invokestatic 165, 3) := by decide +kernel
theorem dX10_weave_69 : decode cX10_weave 69 = .ok (.if_icmp .le 6, 3) := by decide +kernel
theorem dX10_weave_72 : decode cX10_weave 72 = .ok (.ldc 159, 2) := by decide +kernel
theorem dX10_weave_74 : decode cX10_weave 74 = .ok (.ireturn, 1) := by decide +kernel
theorem dX10_weave_75 : decode cX10_weave 75 = .ok (.aload_n 0, 1) := by decide +kernel
theorem dX10_weave_76 : decode cX10_weave 76 = .ok (.invokevirtual 169, 3) := by decide +kernel
theorem dX10_weave_79 : decode cX10_weave 79 = .ok (.aload_n 0, 1) := by decide +kernel
theorem dX10_weave_80 : decode cX10_weave 80 = .ok (.getfield 22, 3) := by decide +kernel
theorem dX10_weave_83 : decode cX10_weave 83 = .ok (.iload_n 1, 1) := by decide +kernel
theorem dX10_weave_84 : decode cX10_weave 84 = .ok (.invokestatic 172, 3) := by decide +kernel
theorem dX10_weave_87 : decode cX10_weave 87 = .ok (.aload_n 0, 1) := by decide +kernel
theorem dX10_weave_88 : decode cX10_weave 88 = .ok (.getfield 22, 3) := by decide +kernel
theorem dX10_weave_91 : decode cX10_weave 91 = .ok (.invokestatic 176, 3) := by decide +kernel
theorem dX10_weave_94 : decode cX10_weave 94 = .ok (.aload_n 0, 1) := by decide +kernel
theorem dX10_weave_95 : decode cX10_weave 95 = .ok (.getfield 22, 3) := by decide +kernel
theorem dX10_weave_98 : decode cX10_weave 98 = .ok (.invokestatic 180, 3) := by decide +kernel
theorem dX10_weave_101 : decode cX10_weave 101 = .ok (.istore_n 2, 1) := by decide +kernel
theorem dX10_weave_102 : decode cX10_weave 102 = .ok (.aload_n 0, 1) := by decide +kernel
theorem dX10_weave_103 : decode cX10_weave 103 = .ok (.getfield 22, 3) := by decide +kernel
theorem dX10_weave_106 : decode cX10_weave 106 = .ok (.bipush 9, 2) := by decide +kernel
theorem dX10_weave_108 : decode cX10_weave 108 = .ok (.iconst 1, 1) := by decide +kernel
theorem dX10_weave_109 : decode cX10_weave 109 = .ok (.iastore, 1) := by decide +kernel
theorem dX10_weave_110 : decode cX10_weave 110 = .ok (.aload_n 0, 1) := by decide +kernel
theorem dX10_weave_111 : decode cX10_weave 111 = .ok (.getfield 22, 3) := by decide +kernel
theorem dX10_weave_114 : decode cX10_weave 114 = .ok (.bipush 10, 2) := by decide +kernel
theorem dX10_weave_116 : decode cX10_weave 116 = .ok (.iaload, 1) := by decide +kernel
theorem dX10_weave_117 : decode cX10_weave 117 = .ok (.ireturn, 1) := by decide +kernel
set_option maxRecDepth 20000 in
theorem ggX10_unpick_X10_in : GoodIn wsX10_unpick wsX10_in := goodIn_r _ [10] (by decide +kernel) (by decide +kernel)
set_option maxRecDepth 20000 in
theorem gX10_unpick_X10_in : GoodIn wsX10_unpick (va_wsS RX10 51 yX10_in wsX10_in) := goodIn_app (goodIn_of _ (by decide +kernel)) ggX10_unpick_X10_in
set_option maxRecDepth 20000 in
theorem ggX10_unpick_X10_isMoon : GoodIn wsX10_unpick wsX10_isMoon := goodIn_r _ [13] (by decide +kernel) (by decide +kernel)
set_option maxRecDepth 20000 in
theorem gX10_unpick_X10_isMoon : GoodIn wsX10_unpick (va_wsS RX10 186 yX10_isMoon wsX10_isMoon) := goodIn_app (goodIn_of _ (by decide +kernel)) ggX10_unpick_X10_isMoon
set_option maxRecDepth 20000 in
theorem ggX10_unpick_X10_remember : GoodIn wsX10_unpick wsX10_remember := goodIn_r _ [17, 18, 19, 5, 20, 21, 9, 22, 29, 30, 31, 32, 33, 34, 35, 36, 37, 38, 39, 40, 41, 42, 43, 44, 45, 46, 47, 48, 49, 50, 51, 52] (by decide +kernel) (by decide +kernel)
set_option maxRecDepth 20000 in
theorem gX10_unpick_X10_remember : GoodIn wsX10_unpick (wsV RX10 169 RX10 yX10_remember wsX10_remember) := goodIn_app (goodIn_of _ (by decide +kernel)) ggX10_unpick_X10_remember
set_option maxRecDepth 20000 in
theorem ggX10_unpick_X10_undoes : GoodIn wsX10_unpick wsX10_undoes := goodIn_r _ [25, 26, 27, 9, 28] (by decide +kernel) (by decide +kernel)
set_option maxRecDepth 20000 in
theorem gX10_unpick_X10_undoes : GoodIn wsX10_unpick (va_wsS RX10 189 yX10_undoes wsX10_undoes) := goodIn_app (goodIn_of _ (by decide +kernel)) ggX10_unpick_X10_undoes
theorem dX10_unpick_0 : decode cX10_unpick 0 = .ok (.aload_n 0, 1) := by decide +kernel
theorem dX10_unpick_1 : decode cX10_unpick 1 = .ok (.getfield 137, 3) := by decide +kernel
theorem dX10_unpick_4 : decode cX10_unpick 4 = .ok (.ifCond .ne 6, 3) := by decide +kernel
theorem dX10_unpick_7 : decode cX10_unpick 7 = .ok (.ldc 159, 2) := by decide +kernel
theorem dX10_unpick_9 : decode cX10_unpick 9 = .ok (.ireturn, 1) := by decide +kernel
theorem dX10_unpick_10 : decode cX10_unpick 10 = .ok (.iload_n 1, 1) := by decide +kernel
theorem dX10_unpick_11 : decode cX10_unpick 11 = .ok (.i2l, 1) := by decide +kernel
theorem dX10_unpick_12 : decode cX10_unpick 12 = .ok (.lconst 0, 1) := by decide +kernel
theorem dX10_unpick_13 : decode cX10_unpick 13 = .ok (.ldc2_w 184, 3) := by decide +kernel
theorem dX10_unpick_16 : decode cX10_unpick 16 = .ok (.invokestatic 51, 3) := by decide +kernel
theorem dX10_unpick_19 : decode cX10_unpick 19 = .ok (.ifCond .ne 6, 3) := by decide +kernel
theorem dX10_unpick_22 : decode cX10_unpick 22 = .ok (.ldc 61, 2) := by decide +kernel
theorem dX10_unpick_24 : decode cX10_unpick 24 = .ok (.ireturn, 1) := by decide +kernel
theorem dX10_unpick_25 : decode cX10_unpick 25 = .ok (.aload_n 0, 1) := by decide +kernel
theorem dX10_unpick_26 : decode cX10_unpick 26 = .ok (.getfield 22, 3) := by decide +kernel
theorem dX10_unpick_29 : decode cX10_unpick 29 = .ok (.bipush 9, 2) := by decide +kernel
theorem dX10_unpick_31 : decode cX10_unpick 31 = .ok (.iaload, 1) := by decide +kernel
theorem dX10_unpick_32 : decode cX10_unpick 32 = .ok (.ifCond .eq 38, 3) := by decide +kernel
theorem dX10_unpick_35 : decode cX10_unpick 35 = .ok (.iload_n 1, 1) := by decide +kernel
theorem dX10_unpick_36 : decode cX10_unpick 36 = .ok (.aload_n 0, 1) := by decide +kernel
theorem dX10_unpick_37 : decode cX10_unpick 37 = .ok (.getfield 22, 3) := by decide +kernel
theorem dX10_unpick_40 : decode cX10_unpick 40 = .ok (.iconst 2, 1) := by decide +kernel
theorem dX10_unpick_41 : decode cX10_unpick 41 = .ok (.iaload, 1) := by decide +kernel
theorem dX10_unpick_42 : decode cX10_unpick 42 = .ok (.if_icmp .gt 28, 3) := by decide +kernel
theorem dX10_unpick_45 : decode cX10_unpick 45 = .ok (.iload_n 1, 1) := by decide +kernel
theorem dX10_unpick_46 : decode cX10_unpick 46 = .ok (.ifCond .le 13, 3) := by decide +kernel
theorem dX10_unpick_49 : decode cX10_unpick 49 = .ok (.aload_n 0, 1) := by decide +kernel
theorem dX10_unpick_50 : decode cX10_unpick 50 = .ok (.getfield 22, 3) := by decide +kernel
theorem dX10_unpick_53 : decode cX10_unpick 53 = .ok (.invokestatic 186, 3) := by decide +kernel
theorem dX10_unpick_56 : decode cX10_unpick 56 = .ok (.ifCond .ne 14, 3) := by decide +kernel
theorem dX10_unpick_59 : decode cX10_unpick 59 = .ok (.iload_n 1, 1) := by decide +kernel
theorem dX10_unpick_60 : decode cX10_unpick 60 = .ok (.aload_n 0, 1) := by decide +kernel
theorem dX10_unpick_61 : decode cX10_unpick 61 = .ok (.getfield 22, 3) := by decide +kernel
theorem dX10_unpick_64 : decode cX10_unpick 64 = .ok (.bipush 10, 2) := by decide +kernel
theorem dX10_unpick_66 : decode cX10_unpick 66 = .ok (.iaload, 1) := by decide +kernel
theorem dX10_unpick_67 : decode cX10_unpick 67 = .ok (.if_icmp .le 6, 3) := by decide +kernel
theorem dX10_unpick_70 : decode cX10_unpick 70 = .ok (.ldc 159, 2) := by decide +kernel
theorem dX10_unpick_72 : decode cX10_unpick 72 = .ok (.ireturn, 1) := by decide +kernel
theorem dX10_unpick_73 : decode cX10_unpick 73 = .ok (.aload_n 0, 1) := by decide +kernel
theorem dX10_unpick_74 : decode cX10_unpick 74 = .ok (.getfield 22, 3) := by decide +kernel
theorem dX10_unpick_77 : decode cX10_unpick 77 = .ok (.bipush 8, 2) := by decide +kernel
theorem dX10_unpick_79 : decode cX10_unpick 79 = .ok (.iaload, 1) := by decide +kernel
theorem dX10_unpick_80 : decode cX10_unpick 80 = .ok (.sipush 999, 3) := by decide +kernel
theorem dX10_unpick_83 : decode cX10_unpick 83 = .ok (.if_icmp .ne 6, 3) := by decide +kernel
theorem dX10_unpick_86 : decode cX10_unpick 86 = .ok (.ldc 74, 2) := by decide +kernel
theorem dX10_unpick_88 : decode cX10_unpick 88 = .ok (.ireturn, 1) := by decide +kernel
theorem dX10_unpick_89 : decode cX10_unpick 89 = .ok (.aload_n 0, 1) := by decide +kernel
theorem dX10_unpick_90 : decode cX10_unpick 90 = .ok (.invokevirtual 169, 3) := by decide +kernel
theorem dX10_unpick_93 : decode cX10_unpick 93 = .ok (.aload_n 0, 1) := by decide +kernel
theorem dX10_unpick_94 : decode cX10_unpick 94 = .ok (.getfield 22, 3) := by decide +kernel
theorem dX10_unpick_97 : decode cX10_unpick 97 = .ok (.iload_n 1, 1) := by decide +kernel
theorem dX10_unpick_98 : decode cX10_unpick 98 = .ok (.invokestatic 189, 3) := by decide +kernel
theorem dX10_unpick_101 : decode cX10_unpick 101 = .ok (.aload_n 0, 1) := by decide +kernel
theorem dX10_unpick_102 : decode cX10_unpick 102 = .ok (.getfield 22, 3) := by decide +kernel
theorem dX10_unpick_105 : decode cX10_unpick 105 = .ok (.bipush 10, 2) := by decide +kernel
theorem dX10_unpick_107 : decode cX10_unpick 107 = .ok (.iaload, 1) := by decide +kernel
theorem dX10_unpick_108 : decode cX10_unpick 108 = .ok (.ireturn, 1) := by decide +kernel
set_option maxRecDepth 20000 in
theorem ggX10_undo_X10_copies : GoodIn wsX10_undo wsX10_copies := goodIn_r _ [8] (by decide +kernel) (by decide +kernel)
set_option maxRecDepth 20000 in
theorem gX10_undo_X10_copies : GoodIn wsX10_undo (va_wsS RX10 144 yX10_copies wsX10_copies) := goodIn_app (goodIn_of _ (by decide +kernel)) ggX10_undo_X10_copies
theorem dX10_undo_0 : decode cX10_undo 0 = .ok (.aload_n 0, 1) := by decide +kernel
theorem dX10_undo_1 : decode cX10_undo 1 = .ok (.getfield 141, 3) := by decide +kernel
theorem dX10_undo_4 : decode cX10_undo 4 = .ok (.ifCond .ne 6, 3) := by decide +kernel
theorem dX10_undo_7 : decode cX10_undo 7 = .ok (.ldc 159, 2) := by decide +kernel
theorem dX10_undo_9 : decode cX10_undo 9 = .ok (.ireturn, 1) := by decide +kernel
theorem dX10_undo_10 : decode cX10_undo 10 = .ok (.aload_n 0, 1) := by decide +kernel
theorem dX10_undo_11 : decode cX10_undo 11 = .ok (.dup, 1) := by decide +kernel
theorem dX10_undo_12 : decode cX10_undo 12 = .ok (.getfield 141, 3) := by decide +kernel
theorem dX10_undo_15 : decode cX10_undo 15 = .ok (.iconst 1, 1) := by decide +kernel
theorem dX10_undo_16 : decode cX10_undo 16 = .ok (.isub, 1) := by decide +kernel
theorem dX10_undo_17 : decode cX10_undo 17 = .ok (.putfield 141, 3) := by decide +kernel
theorem dX10_undo_20 : decode cX10_undo 20 = .ok (.aload_n 0, 1) := by decide +kernel
theorem dX10_undo_21 : decode cX10_undo 21 = .ok (.getfield 25, 3) := by decide +kernel
theorem dX10_undo_24 : decode cX10_undo 24 = .ok (.bipush 48, 2) := by decide +kernel
theorem dX10_undo_26 : decode cX10_undo 26 = .ok (.aload_n 0, 1) := by decide +kernel
theorem dX10_undo_27 : decode cX10_undo 27 = .ok (.getfield 141, 3) := by decide +kernel
theorem dX10_undo_30 : decode cX10_undo 30 = .ok (.imul, 1) := by decide +kernel
theorem dX10_undo_31 : decode cX10_undo 31 = .ok (.aload_n 0, 1) := by decide +kernel
theorem dX10_undo_32 : decode cX10_undo 32 = .ok (.getfield 22, 3) := by decide +kernel
theorem dX10_undo_35 : decode cX10_undo 35 = .ok (.iconst 0, 1) := by decide +kernel
theorem dX10_undo_36 : decode cX10_undo 36 = .ok (.invokestatic 144, 3) := by decide +kernel
theorem dX10_undo_39 : decode cX10_undo 39 = .ok (.aload_n 0, 1) := by decide +kernel
theorem dX10_undo_40 : decode cX10_undo 40 = .ok (.getfield 141, 3) := by decide +kernel
theorem dX10_undo_43 : decode cX10_undo 43 = .ok (.ireturn, 1) := by decide +kernel
set_option maxRecDepth 20000 in
theorem ggX10_cloth_X10_yarn : GoodIn wsX10_cloth wsX10_yarn := goodIn_r _ [8] (by decide +kernel) (by decide +kernel)
set_option maxRecDepth 20000 in
theorem gX10_cloth_X10_yarn : GoodIn wsX10_cloth (va_wsS RX10 165 yX10_yarn wsX10_yarn) := goodIn_app (goodIn_of _ (by decide +kernel)) ggX10_cloth_X10_yarn
theorem dX10_cloth_0 : decode cX10_cloth 0 = .ok (.aload_n 0, 1) := by decide +kernel
theorem dX10_cloth_1 : decode cX10_cloth 1 = .ok (.getfield 137, 3) := by decide +kernel
theorem dX10_cloth_4 : decode cX10_cloth 4 = .ok (.ifCond .ne 6, 3) := by decide +kernel
theorem dX10_cloth_7 : decode cX10_cloth 7 = .ok (.ldc 159, 2) := by decide +kernel
theorem dX10_cloth_9 : decode cX10_cloth 9 = .ok (.ireturn, 1) := by decide +kernel
theorem dX10_cloth_10 : decode cX10_cloth 10 = .ok (.iload_n 1, 1) := by decide +kernel
theorem dX10_cloth_11 : decode cX10_cloth 11 = .ok (.tableswitch 97 0 6 #[41, 41, 41, 51, 59, 67, 75], 41) := by decide +kernel
theorem dX10_cloth_52 : decode cX10_cloth 52 = .ok (.aload_n 0, 1) := by decide +kernel
theorem dX10_cloth_53 : decode cX10_cloth 53 = .ok (.getfield 22, 3) := by decide +kernel
theorem dX10_cloth_56 : decode cX10_cloth 56 = .ok (.bipush 10, 2) := by decide +kernel
theorem dX10_cloth_58 : decode cX10_cloth 58 = .ok (.iload_n 1, 1) := by decide +kernel
theorem dX10_cloth_59 : decode cX10_cloth 59 = .ok (.iadd, 1) := by decide +kernel
theorem dX10_cloth_60 : decode cX10_cloth 60 = .ok (.iaload, 1) := by decide +kernel
theorem dX10_cloth_61 : decode cX10_cloth 61 = .ok (.ireturn, 1) := by decide +kernel
theorem dX10_cloth_62 : decode cX10_cloth 62 = .ok (.aload_n 0, 1) := by decide +kernel
theorem dX10_cloth_63 : decode cX10_cloth 63 = .ok (.getfield 22, 3) := by decide +kernel
theorem dX10_cloth_66 : decode cX10_cloth 66 = .ok (.invokestatic 165, 3) := by decide +kernel
theorem dX10_cloth_69 : decode cX10_cloth 69 = .ok (.ireturn, 1) := by decide +kernel
theorem dX10_cloth_70 : decode cX10_cloth 70 = .ok (.aload_n 0, 1) := by decide +kernel
theorem dX10_cloth_71 : decode cX10_cloth 71 = .ok (.getfield 22, 3) := by decide +kernel
theorem dX10_cloth_74 : decode cX10_cloth 74 = .ok (.bipush 13, 2) := by decide +kernel
theorem dX10_cloth_76 : decode cX10_cloth 76 = .ok (.iaload, 1) := by decide +kernel
theorem dX10_cloth_77 : decode cX10_cloth 77 = .ok (.ireturn, 1) := by decide +kernel
theorem dX10_cloth_78 : decode cX10_cloth 78 = .ok (.aload_n 0, 1) := by decide +kernel
theorem dX10_cloth_79 : decode cX10_cloth 79 = .ok (.getfield 22, 3) := by decide +kernel
theorem dX10_cloth_82 : decode cX10_cloth 82 = .ok (.bipush 9, 2) := by decide +kernel
theorem dX10_cloth_84 : decode cX10_cloth 84 = .ok (.iaload, 1) := by decide +kernel
theorem dX10_cloth_85 : decode cX10_cloth 85 = .ok (.ireturn, 1) := by decide +kernel
theorem dX10_cloth_86 : decode cX10_cloth 86 = .ok (.aload_n 0, 1) := by decide +kernel
theorem dX10_cloth_87 : decode cX10_cloth 87 = .ok (.getfield 22, 3) := by decide +kernel
theorem dX10_cloth_90 : decode cX10_cloth 90 = .ok (.bipush 10, 2) := by decide +kernel
theorem dX10_cloth_92 : decode cX10_cloth 92 = .ok (.iaload, 1) := by decide +kernel
theorem dX10_cloth_93 : decode cX10_cloth 93 = .ok (.aload_n 0, 1) := by decide +kernel
theorem dX10_cloth_94 : decode cX10_cloth 94 = .ok (.getfield 22, 3) := by decide +kernel
theorem dX10_cloth_97 : decode cX10_cloth 97 = .ok (.iconst 0, 1) := by decide +kernel
theorem dX10_cloth_98 : decode cX10_cloth 98 = .ok (.iaload, 1) := by decide +kernel
theorem dX10_cloth_99 : decode cX10_cloth 99 = .ok (.if_icmp .ne 7, 3) := by decide +kernel
theorem dX10_cloth_102 : decode cX10_cloth 102 = .ok (.iconst 1, 1) := by decide +kernel
theorem dX10_cloth_103 : decode cX10_cloth 103 = .ok (.goto 4, 3) := by decide +kernel
theorem dX10_cloth_106 : decode cX10_cloth 106 = .ok (.iconst 0, 1) := by decide +kernel
theorem dX10_cloth_107 : decode cX10_cloth 107 = .ok (.ireturn, 1) := by decide +kernel
theorem dX10_cloth_108 : decode cX10_cloth 108 = .ok (.ldc 61, 2) := by decide +kernel
theorem dX10_cloth_110 : decode cX10_cloth 110 = .ok (.ireturn, 1) := by decide +kernel
set_option maxRecDepth 20000 in
theorem ggX10_colour_X10_in : GoodIn wsX10_colour wsX10_in := goodIn_r _ [6] (by decide +kernel) (by decide +kernel)
set_option maxRecDepth 20000 in
theorem gX10_colour_X10_in : GoodIn wsX10_colour (va_wsS RX10 51 yX10_in wsX10_in) := goodIn_app (goodIn_of _ (by decide +kernel)) ggX10_colour_X10_in
set_option maxRecDepth 20000 in
theorem ggX10_colour_X10_colourAt : GoodIn wsX10_colour wsX10_colourAt := goodIn_r _ [9] (by decide +kernel) (by decide +kernel)
set_option maxRecDepth 20000 in
theorem gX10_colour_X10_colourAt : GoodIn wsX10_colour (va_wsS RX10 148 yX10_colourAt wsX10_colourAt) := goodIn_app (goodIn_of _ (by decide +kernel)) ggX10_colour_X10_colourAt
theorem dX10_colour_0 : decode cX10_colour 0 = .ok (.iload_n 1, 1) := by decide +kernel
theorem dX10_colour_1 : decode cX10_colour 1 = .ok (.i2l, 1) := by decide +kernel
theorem dX10_colour_2 : decode cX10_colour 2 = .ok (.lconst 0, 1) := by decide +kernel
theorem dX10_colour_3 : decode cX10_colour 3 = .ok (.aload_n 0, 1) := by decide +kernel
theorem dX10_colour_4 : decode cX10_colour 4 = .ok (.getfield 22, 3) := by decide +kernel
theorem dX10_colour_7 : decode cX10_colour 7 = .ok (.iconst 0, 1) := by decide +kernel
theorem dX10_colour_8 : decode cX10_colour 8 = .ok (.iaload, 1) := by decide +kernel
theorem dX10_colour_9 : decode cX10_colour 9 = .ok (.iconst 1, 1) := by decide +kernel
theorem dX10_colour_10 : decode cX10_colour 10 = .ok (.isub, 1) := by decide +kernel
theorem dX10_colour_11 : decode cX10_colour 11 = .ok (.i2l, 1) := by decide +kernel
theorem dX10_colour_12 : decode cX10_colour 12 = .ok (.invokestatic 51, 3) := by decide +kernel
theorem dX10_colour_15 : decode cX10_colour 15 = .ok (.ifCond .eq 14, 3) := by decide +kernel
theorem dX10_colour_18 : decode cX10_colour 18 = .ok (.aload_n 0, 1) := by decide +kernel
theorem dX10_colour_19 : decode cX10_colour 19 = .ok (.getfield 22, 3) := by decide +kernel
theorem dX10_colour_22 : decode cX10_colour 22 = .ok (.iload_n 1, 1) := by decide +kernel
theorem dX10_colour_23 : decode cX10_colour 23 = .ok (.invokestatic 148, 3) := by decide +kernel
theorem dX10_colour_26 : decode cX10_colour 26 = .ok (.goto 5, 3) := by decide +kernel
theorem dX10_colour_29 : decode cX10_colour 29 = .ok (.ldc 61, 2) := by decide +kernel
theorem dX10_colour_31 : decode cX10_colour 31 = .ok (.ireturn, 1) := by decide +kernel
set_option maxRecDepth 20000 in
theorem ggX10_suitor_X10_isSuitor : GoodIn wsX10_suitor wsX10_isSuitor := goodIn_r _ [9, 3, 10, 11, 8, 12, 16, 17, 18, 19, 20, 21, 22, 23, 24, 25, 26, 27, 28, 29, 30, 31, 32, 33, 34, 35, 36, 37, 38, 39] (by decide +kernel) (by decide +kernel)
set_option maxRecDepth 20000 in
theorem gX10_suitor_X10_isSuitor : GoodIn wsX10_suitor (wsV RX10 192 RX10 yX10_isSuitor wsX10_isSuitor) := goodIn_app (goodIn_of _ (by decide +kernel)) ggX10_suitor_X10_isSuitor
set_option maxRecDepth 20000 in
theorem ggX10_suitor_X10_in : GoodIn wsX10_suitor wsX10_in := goodIn_r _ [12] (by decide +kernel) (by decide +kernel)
set_option maxRecDepth 20000 in
theorem gX10_suitor_X10_in : GoodIn wsX10_suitor (va_wsS RX10 51 yX10_in wsX10_in) := goodIn_app (goodIn_of _ (by decide +kernel)) ggX10_suitor_X10_in
set_option maxRecDepth 20000 in
theorem ggX10_suitor_X10_knows : GoodIn wsX10_suitor wsX10_knows := goodIn_r _ [15] (by decide +kernel) (by decide +kernel)
set_option maxRecDepth 20000 in
theorem gX10_suitor_X10_knows : GoodIn wsX10_suitor (va_wsS RX10 197 yX10_knows wsX10_knows) := goodIn_app (goodIn_of _ (by decide +kernel)) ggX10_suitor_X10_knows
theorem dX10_suitor_0 : decode cX10_suitor 0 = .ok (.aload_n 0, 1) := by decide +kernel
theorem dX10_suitor_1 : decode cX10_suitor 1 = .ok (.iload_n 1, 1) := by decide +kernel
theorem dX10_suitor_2 : decode cX10_suitor 2 = .ok (.invokevirtual 192, 3) := by decide +kernel
theorem dX10_suitor_5 : decode cX10_suitor 5 = .ok (.ifCond .eq 15, 3) := by decide +kernel
theorem dX10_suitor_8 : decode cX10_suitor 8 = .ok (.iload_n 2, 1) := by decide +kernel
theorem dX10_suitor_9 : decode cX10_suitor 9 = .ok (.i2l, 1) := by decide +kernel
theorem dX10_suitor_10 : decode cX10_suitor 10 = .ok (.lconst 0, 1) := by decide +kernel
theorem dX10_suitor_11 : decode cX10_suitor 11 = .ok (.ldc2_w 195, 3) := by decide +kernel
theorem dX10_suitor_14 : decode cX10_suitor 14 = .ok (.invokestatic 51, 3) := by decide +kernel
theorem dX10_suitor_17 : decode cX10_suitor 17 = .ok (.ifCond .ne 6, 3) := by decide +kernel
theorem dX10_suitor_20 : decode cX10_suitor 20 = .ok (.ldc 61, 2) := by decide +kernel
theorem dX10_suitor_22 : decode cX10_suitor 22 = .ok (.ireturn, 1) := by decide +kernel
theorem dX10_suitor_23 : decode cX10_suitor 23 = .ok (.iload_n 2, 1) := by decide +kernel
theorem dX10_suitor_24 : decode cX10_suitor 24 = .ok (.iconst 3, 1) := by decide +kernel
theorem dX10_suitor_25 : decode cX10_suitor 25 = .ok (.if_icmp .ge 17, 3) := by decide +kernel
theorem dX10_suitor_28 : decode cX10_suitor 28 = .ok (.aload_n 0, 1) := by decide +kernel
theorem dX10_suitor_29 : decode cX10_suitor 29 = .ok (.getfield 22, 3) := by decide +kernel
theorem dX10_suitor_32 : decode cX10_suitor 32 = .ok (.bipush 28, 2) := by decide +kernel
theorem dX10_suitor_34 : decode cX10_suitor 34 = .ok (.iconst 5, 1) := by decide +kernel

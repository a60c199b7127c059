theorem dX5_init_5 : decode cX5_init 5 = .ok (.bipush 120, 2) := by decide +kernel
theorem dX5_init_7 : decode cX5_init 7 = .ok (.newarray .int, 2) := by decide +kernel
theorem dX5_init_9 : decode cX5_init 9 = .ok (.putfield 9, 3) := by decide +kernel
theorem dX5_init_12 : decode cX5_init 12 = .ok (.return_, 1) := by decide +kernel
theorem dX5_append_0 : decode cX5_append 0 = .ok (.aload_n 0, 1) := by decide +kernel
theorem dX5_append_1 : decode cX5_append 1 = .ok (.getfield 9, 3) := by decide +kernel
theorem dX5_append_4 : decode cX5_append 4 = .ok (.aload_n 0, 1) := by decide +kernel
theorem dX5_append_5 : decode cX5_append 5 = .ok (.getfield 15, 3) := by decide +kernel
theorem dX5_append_8 : decode cX5_append 8 = .ok (.iload_n 1, 1) := by decide +kernel
theorem dX5_append_9 : decode cX5_append 9 = .ok (.iastore, 1) := by decide +kernel
theorem dX5_append_10 : decode cX5_append 10 = .ok (.aload_n 0, 1) := by decide +kernel
theorem dX5_append_11 : decode cX5_append 11 = .ok (.dup, 1) := by decide +kernel
theorem dX5_append_12 : decode cX5_append 12 = .ok (.getfield 15, 3) := by decide +kernel
theorem dX5_append_15 : decode cX5_append 15 = .ok (.iconst 1, 1) := by decide +kernel
theorem dX5_append_16 : decode cX5_append 16 = .ok (.iadd, 1) := by decide +kernel
theorem dX5_append_17 : decode cX5_append 17 = .ok (.putfield 15, 3) := by decide +kernel
theorem dX5_append_20 : decode cX5_append 20 = .ok (.aload_n 0, 1) := by decide +kernel
theorem dX5_append_21 : decode cX5_append 21 = .ok (.getfield 15, 3) := by decide +kernel
theorem dX5_append_24 : decode cX5_append 24 = .ok (.ireturn, 1) := by decide +kernel
set_option maxRecDepth 20000 in
theorem ggX5_readInto_X5_step : GoodIn wsX5_readInto wsX5_step := goodIn_r _ [8, 1, 2, 9, 3, 10, 11, 12, 13, 14, 15, 7, 16, 17, 18, 19, 20, 146, 147, 148, 149, 150, 151, 152] (by decide +kernel) (by decide +kernel)
set_option maxRecDepth 20000 in
theorem gX5_readInto_X5_step : GoodIn wsX5_readInto (wsV RX5 25 RX5 yX5_step wsX5_step) := goodIn_app (goodIn_of _ (by decide +kernel)) ggX5_readInto_X5_step
set_option maxRecDepth 20000 in
theorem ggX5_readInto_X5_readLaw : GoodIn wsX5_readInto wsX5_readLaw := goodIn_r _ [24, 25, 26, 27, 7, 28, 10, 11, 29, 30, 31, 32, 1, 4, 5, 6, 8, 2, 9, 3, 12, 13, 14, 15, 16, 17, 18, 19, 20, 33, 34, 35, 36, 37, 38, 39, 40, 41, 42, 43, 44, 153, 154, 155, 156, 157, 158, 159, 160, 161, 162, 163, 164, 146, 147, 148, 149, 150, 151, 152] (by decide +kernel) (by decide +kernel)
set_option maxRecDepth 20000 in
theorem gX5_readInto_X5_readLaw : GoodIn wsX5_readInto (wsV RX5 28 RX5 yX5_readLaw wsX5_readLaw) := goodIn_app (goodIn_of _ (by decide +kernel)) ggX5_readInto_X5_readLaw
set_option maxRecDepth 20000 in
theorem ggX5_readInto_X5_readColours : GoodIn wsX5_readInto wsX5_readColours := goodIn_r _ [48, 1, 10, 25, 26, 27, 7, 28, 11, 29, 30, 31, 32, 4, 5, 6, 8, 2, 9, 3, 12, 13, 14, 15, 16, 17, 18, 19, 20, 37, 38, 39, 40, 33, 34, 35, 36, 41, 42, 43, 44, 153, 154, 155, 156, 157, 158, 159, 160, 161, 162, 163, 164, 146, 147, 148, 149, 150, 151, 152] (by decide +kernel) (by decide +kernel)
set_option maxRecDepth 20000 in
theorem gX5_readInto_X5_readColours : GoodIn wsX5_readInto (wsV RX5 32 RX5 yX5_readColours wsX5_readColours) := goodIn_app (goodIn_of _ (by decide +kernel)) ggX5_readInto_X5_readColours
set_option maxRecDepth 20000 in
theorem ggX5_readInto_X5_readSuitors : GoodIn wsX5_readInto wsX5_readSuitors := goodIn_r _ [52, 1, 10, 11, 53, 54, 55, 56, 57, 58, 59, 60, 61, 62, 63, 64, 65, 66, 67, 68, 69, 70, 71, 72, 73, 74, 75, 76, 77, 78, 79, 80, 81, 82, 83, 84, 85, 86, 87, 88, 89, 90, 91, 92, 93, 94, 95, 96, 97, 98, 99, 100, 101, 102, 103, 104, 105, 106, 107, 108, 109, 110, 111, 112, 113, 114, 115, 116, 117, 118, 119, 120, 121, 122, 123, 124, 125, 126, 127, 128, 129, 130, 131, 132, 133, 134, 135, 136, 137, 138, 139, 140, 141, 29, 30, 31, 7, 32, 4, 5, 6, 8, 2, 9, 3, 12, 13, 14, 15, 16, 17, 18, 19, 20, 142, 143, 144, 145, 33, 34, 35, 36, 37, 38, 39, 40, 41, 42, 43, 44, 153, 154, 155, 156, 157, 158, 159, 160, 161, 162, 163, 164, 146, 147, 148, 149, 150, 151, 152] (by decide +kernel) (by decide +kernel)
set_option maxRecDepth 20000 in
theorem gX5_readInto_X5_readSuitors : GoodIn wsX5_readInto (wsV RX5 35 RX5 yX5_readSuitors wsX5_readSuitors) := goodIn_app (goodIn_of _ (by decide +kernel)) ggX5_readInto_X5_readSuitors
theorem dX5_readInto_0 : decode cX5_readInto 0 = .ok (.aload_n 0, 1) := by decide +kernel
theorem dX5_readInto_1 : decode cX5_readInto 1 = .ok (.iconst 0, 1) := by decide +kernel
theorem dX5_readInto_2 : decode cX5_readInto 2 = .ok (.putfield 19, 3) := by decide +kernel
theorem dX5_readInto_5 : decode cX5_readInto 5 = .ok (.aload_n 0, 1) := by decide +kernel
theorem dX5_readInto_6 : decode cX5_readInto 6 = .ok (.iconst 0, 1) := by decide +kernel
theorem dX5_readInto_7 : decode cX5_readInto 7 = .ok (.putfield 22, 3) := by decide +kernel
theorem dX5_readInto_10 : decode cX5_readInto 10 = .ok (.aload_n 0, 1) := by decide +kernel
theorem dX5_readInto_11 : decode cX5_readInto 11 = .ok (.invokevirtual 25, 3) := by decide +kernel
theorem dX5_readInto_14 : decode cX5_readInto 14 = .ok (.aload_n 0, 1) := by decide +kernel
theorem dX5_readInto_15 : decode cX5_readInto 15 = .ok (.aload_n 1, 1) := by decide +kernel
theorem dX5_readInto_16 : decode cX5_readInto 16 = .ok (.invokevirtual 28, 3) := by decide +kernel
theorem dX5_readInto_19 : decode cX5_readInto 19 = .ok (.aload_n 0, 1) := by decide +kernel
theorem dX5_readInto_20 : decode cX5_readInto 20 = .ok (.aload_n 1, 1) := by decide +kernel
theorem dX5_readInto_21 : decode cX5_readInto 21 = .ok (.invokevirtual 32, 3) := by decide +kernel
theorem dX5_readInto_24 : decode cX5_readInto 24 = .ok (.aload_n 0, 1) := by decide +kernel
theorem dX5_readInto_25 : decode cX5_readInto 25 = .ok (.aload_n 1, 1) := by decide +kernel
theorem dX5_readInto_26 : decode cX5_readInto 26 = .ok (.invokevirtual 35, 3) := by decide +kernel
theorem dX5_readInto_29 : decode cX5_readInto 29 = .ok (.aload_n 0, 1) := by decide +kernel
theorem dX5_readInto_30 : decode cX5_readInto 30 = .ok (.iconst 0, 1) := by decide +kernel
theorem dX5_readInto_31 : decode cX5_readInto 31 = .ok (.putfield 15, 3) := by decide +kernel
theorem dX5_readInto_34 : decode cX5_readInto 34 = .ok (.aload_n 0, 1) := by decide +kernel
theorem dX5_readInto_35 : decode cX5_readInto 35 = .ok (.getfield 19, 3) := by decide +kernel
theorem dX5_readInto_38 : decode cX5_readInto 38 = .ok (.ireturn, 1) := by decide +kernel
set_option maxRecDepth 20000 in
theorem ggX5_readLaw_X5_takeLetter : GoodIn wsX5_readLaw wsX5_takeLetter := goodIn_r _ [5, 6, 7, 8, 9, 10, 4, 11, 12, 13, 14, 15, 16, 17, 18, 19, 20, 21, 22, 23, 24, 25, 26, 27, 28, 53, 54, 55, 56, 57, 58, 59] (by decide +kernel) (by decide +kernel)
set_option maxRecDepth 20000 in
theorem gX5_readLaw_X5_takeLetter : GoodIn wsX5_readLaw (wsV RX5 38 RX5 yX5_takeLetter wsX5_takeLetter) := goodIn_app (goodIn_of _ (by decide +kernel)) ggX5_readLaw_X5_takeLetter
set_option maxRecDepth 20000 in
theorem ggX5_readLaw_X5_takeNumber : GoodIn wsX5_readLaw wsX5_takeNumber := goodIn_r _ [32, 7, 33, 34, 35, 4, 36, 6, 8, 9, 10, 11, 12, 13, 14, 15, 16, 17, 18, 19, 20, 21, 22, 23, 24, 25, 26, 27, 28, 53, 54, 55, 56, 57, 58, 59] (by decide +kernel) (by decide +kernel)
set_option maxRecDepth 20000 in
theorem gX5_readLaw_X5_takeNumber : GoodIn wsX5_readLaw (wsV RX5 42 RX5 yX5_takeNumber wsX5_takeNumber) := goodIn_app (goodIn_of _ (by decide +kernel)) ggX5_readLaw_X5_takeNumber
set_option maxRecDepth 20000 in
theorem ggX5_readLaw_X5_takeSign : GoodIn wsX5_readLaw wsX5_takeSign := goodIn_r _ [40, 6, 8, 9, 10, 4, 11, 12, 13, 14, 15, 16, 17, 18, 19, 7, 20, 21, 22, 23, 24, 25, 26, 27, 28, 53, 54, 55, 56, 57, 58, 59] (by decide +kernel) (by decide +kernel)
set_option maxRecDepth 20000 in
theorem gX5_readLaw_X5_takeSign : GoodIn wsX5_readLaw (wsV RX5 51 RX5 yX5_takeSign wsX5_takeSign) := goodIn_app (goodIn_of _ (by decide +kernel)) ggX5_readLaw_X5_takeSign
theorem dX5_readLaw_0 : decode cX5_readLaw 0 = .ok (.aload_n 0, 1) := by decide +kernel
theorem dX5_readLaw_1 : decode cX5_readLaw 1 = .ok (.bipush 108, 2) := by decide +kernel
theorem dX5_readLaw_3 : decode cX5_readLaw 3 = .ok (.invokevirtual 38, 3) := by decide +kernel
theorem dX5_readLaw_6 : decode cX5_readLaw 6 = .ok (.aload_n 1, 1) := by decide +kernel
theorem dX5_readLaw_7 : decode cX5_readLaw 7 = .ok (.aload_n 0, 1) := by decide +kernel
theorem dX5_readLaw_8 : decode cX5_readLaw 8 = .ok (.iconst 4, 1) := by decide +kernel
theorem dX5_readLaw_9 : decode cX5_readLaw 9 = .ok (.bipush 24, 2) := by decide +kernel
theorem dX5_readLaw_11 : decode cX5_readLaw 11 = .ok (.invokevirtual 42, 3) := by decide +kernel
theorem dX5_readLaw_14 : decode cX5_readLaw 14 = .ok (.putfield 46, 3) := by decide +kernel
theorem dX5_readLaw_17 : decode cX5_readLaw 17 = .ok (.aload_n 0, 1) := by decide +kernel
theorem dX5_readLaw_18 : decode cX5_readLaw 18 = .ok (.iconst 3, 1) := by decide +kernel
theorem dX5_readLaw_19 : decode cX5_readLaw 19 = .ok (.invokevirtual 51, 3) := by decide +kernel
theorem dX5_readLaw_22 : decode cX5_readLaw 22 = .ok (.aload_n 1, 1) := by decide +kernel
theorem dX5_readLaw_23 : decode cX5_readLaw 23 = .ok (.aload_n 0, 1) := by decide +kernel
theorem dX5_readLaw_24 : decode cX5_readLaw 24 = .ok (.iconst 0, 1) := by decide +kernel
theorem dX5_readLaw_25 : decode cX5_readLaw 25 = .ok (.bipush 99, 2) := by decide +kernel
theorem dX5_readLaw_27 : decode cX5_readLaw 27 = .ok (.invokevirtual 42, 3) := by decide +kernel
theorem dX5_readLaw_30 : decode cX5_readLaw 30 = .ok (.putfield 54, 3) := by decide +kernel
theorem dX5_readLaw_33 : decode cX5_readLaw 33 = .ok (.aload_n 0, 1) := by decide +kernel
theorem dX5_readLaw_34 : decode cX5_readLaw 34 = .ok (.iconst 3, 1) := by decide +kernel
theorem dX5_readLaw_35 : decode cX5_readLaw 35 = .ok (.invokevirtual 51, 3) := by decide +kernel
theorem dX5_readLaw_38 : decode cX5_readLaw 38 = .ok (.aload_n 1, 1) := by decide +kernel
theorem dX5_readLaw_39 : decode cX5_readLaw 39 = .ok (.aload_n 0, 1) := by decide +kernel
theorem dX5_readLaw_40 : decode cX5_readLaw 40 = .ok (.iconst 0, 1) := by decide +kernel
theorem dX5_readLaw_41 : decode cX5_readLaw 41 = .ok (.bipush 9, 2) := by decide +kernel
theorem dX5_readLaw_43 : decode cX5_readLaw 43 = .ok (.invokevirtual 42, 3) := by decide +kernel
theorem dX5_readLaw_46 : decode cX5_readLaw 46 = .ok (.putfield 57, 3) := by decide +kernel
theorem dX5_readLaw_49 : decode cX5_readLaw 49 = .ok (.aload_n 0, 1) := by decide +kernel
theorem dX5_readLaw_50 : decode cX5_readLaw 50 = .ok (.iconst 3, 1) := by decide +kernel
theorem dX5_readLaw_51 : decode cX5_readLaw 51 = .ok (.invokevirtual 51, 3) := by decide +kernel
theorem dX5_readLaw_54 : decode cX5_readLaw 54 = .ok (.aload_n 1, 1) := by decide +kernel
theorem dX5_readLaw_55 : decode cX5_readLaw 55 = .ok (.aload_n 0, 1) := by decide +kernel
theorem dX5_readLaw_56 : decode cX5_readLaw 56 = .ok (.iconst 0, 1) := by decide +kernel
theorem dX5_readLaw_57 : decode cX5_readLaw 57 = .ok (.bipush 9, 2) := by decide +kernel
theorem dX5_readLaw_59 : decode cX5_readLaw 59 = .ok (.invokevirtual 42, 3) := by decide +kernel
theorem dX5_readLaw_62 : decode cX5_readLaw 62 = .ok (.putfield 60, 3) := by decide +kernel
theorem dX5_readLaw_65 : decode cX5_readLaw 65 = .ok (.aload_n 0, 1) := by decide +kernel
theorem dX5_readLaw_66 : decode cX5_readLaw 66 = .ok (.iconst 3, 1) := by decide +kernel
theorem dX5_readLaw_67 : decode cX5_readLaw 67 = .ok (.invokevirtual 51, 3) := by decide +kernel
theorem dX5_readLaw_70 : decode cX5_readLaw 70 = .ok (.aload_n 1, 1) := by decide +kernel
theorem dX5_readLaw_71 : decode cX5_readLaw 71 = .ok (.aload_n 0, 1) := by decide +kernel
theorem dX5_readLaw_72 : decode cX5_readLaw 72 = .ok (.iconst 0, 1) := by decide +kernel
theorem dX5_readLaw_73 : decode cX5_readLaw 73 = .ok (.bipush 9, 2) := by decide +kernel
theorem dX5_readLaw_75 : decode cX5_readLaw 75 = .ok (.invokevirtual 42, 3) := by decide +kernel
theorem dX5_readLaw_78 : decode cX5_readLaw 78 = .ok (.putfield 63, 3) := by decide +kernel
theorem dX5_readLaw_81 : decode cX5_readLaw 81 = .ok (.aload_n 0, 1) := by decide +kernel
theorem dX5_readLaw_82 : decode cX5_readLaw 82 = .ok (.iconst 3, 1) := by decide +kernel
theorem dX5_readLaw_83 : decode cX5_readLaw 83 = .ok (.invokevirtual 51, 3) := by decide +kernel
theorem dX5_readLaw_86 : decode cX5_readLaw 86 = .ok (.aload_n 1, 1) := by decide +kernel
theorem dX5_readLaw_87 : decode cX5_readLaw 87 = .ok (.aload_n 0, 1) := by decide +kernel
theorem dX5_readLaw_88 : decode cX5_readLaw 88 = .ok (.iconst 0, 1) := by decide +kernel
theorem dX5_readLaw_89 : decode cX5_readLaw 89 = .ok (.bipush 9, 2) := by decide +kernel
theorem dX5_readLaw_91 : decode cX5_readLaw 91 = .ok (.invokevirtual 42, 3) := by decide +kernel
theorem dX5_readLaw_94 : decode cX5_readLaw 94 = .ok (.putfield 66, 3) := by decide +kernel
theorem dX5_readLaw_97 : decode cX5_readLaw 97 = .ok (.aload_n 0, 1) := by decide +kernel
theorem dX5_readLaw_98 : decode cX5_readLaw 98 = .ok (.iconst 4, 1) := by decide +kernel
theorem dX5_readLaw_99 : decode cX5_readLaw 99 = .ok (.invokevirtual 51, 3) := by decide +kernel
theorem dX5_readLaw_102 : decode cX5_readLaw 102 = .ok (.return_, 1) := by decide +kernel
set_option maxRecDepth 20000 in
theorem ggX5_readColours_X5_takeLetter : GoodIn wsX5_readColours wsX5_takeLetter := goodIn_r _ [7, 2, 8, 9, 10, 11, 6, 12, 1, 13, 14, 15, 16, 17, 18, 19, 20, 21, 22, 23, 24, 25, 26, 27, 28, 53, 54, 55, 56, 57, 58, 59] (by decide +kernel) (by decide +kernel)
set_option maxRecDepth 20000 in
theorem gX5_readColours_X5_takeLetter : GoodIn wsX5_readColours (wsV RX5 38 RX5 yX5_takeLetter wsX5_takeLetter) := goodIn_app (goodIn_of _ (by decide +kernel)) ggX5_readColours_X5_takeLetter
set_option maxRecDepth 20000 in
theorem ggX5_readColours_X5_checkNumber : GoodIn wsX5_readColours wsX5_checkNumber := goodIn_r _ [32, 2, 8, 9, 10, 11, 6, 12, 1, 53, 54, 55, 56, 57, 58, 59] (by decide +kernel) (by decide +kernel)
set_option maxRecDepth 20000 in
theorem gX5_readColours_X5_checkNumber : GoodIn wsX5_readColours (wsV RX5 72 RX5 yX5_checkNumber wsX5_checkNumber) := goodIn_app (goodIn_of _ (by decide +kernel)) ggX5_readColours_X5_checkNumber
set_option maxRecDepth 20000 in
theorem ggX5_readColours_X5_blame : GoodIn wsX5_readColours wsX5_blame := goodIn_r _ [12, 1, 53, 54, 55, 56, 57, 58, 59] (by decide +kernel) (by decide +kernel)
set_option maxRecDepth 20000 in
theorem gX5_readColours_X5_blame : GoodIn wsX5_readColours (wsV RX5 76 RX5 yX5_blame wsX5_blame) := goodIn_app (goodIn_of _ (by decide +kernel)) ggX5_readColours_X5_blame
set_option maxRecDepth 20000 in
theorem ggX5_readColours_X5_takeNumber : GoodIn wsX5_readColours wsX5_takeNumber := goodIn_r _ [36, 8, 29, 30, 31, 6, 32, 2, 9, 10, 11, 12, 1, 13, 14, 15, 16, 17, 18, 19, 20, 21, 22, 23, 24, 25, 26, 27, 28, 53, 54, 55, 56, 57, 58, 59] (by decide +kernel) (by decide +kernel)
set_option maxRecDepth 20000 in
theorem gX5_readColours_X5_takeNumber : GoodIn wsX5_readColours (wsV RX5 42 RX5 yX5_takeNumber wsX5_takeNumber) := goodIn_app (goodIn_of _ (by decide +kernel)) ggX5_readColours_X5_takeNumber
set_option maxRecDepth 20000 in
theorem ggX5_readColours_X5_takeSign : GoodIn wsX5_readColours wsX5_takeSign := goodIn_r _ [40, 2, 9, 10, 11, 6, 12, 1, 13, 14, 15, 16, 17, 18, 19, 8, 20, 21, 22, 23, 24, 25, 26, 27, 28, 53, 54, 55, 56, 57, 58, 59] (by decide +kernel) (by decide +kernel)
set_option maxRecDepth 20000 in
theorem gX5_readColours_X5_takeSign : GoodIn wsX5_readColours (wsV RX5 51 RX5 yX5_takeSign wsX5_takeSign) := goodIn_app (goodIn_of _ (by decide +kernel)) ggX5_readColours_X5_takeSign
theorem dX5_readColours_0 : decode cX5_readColours 0 = .ok (.aload_n 0, 1) := by decide +kernel
theorem dX5_readColours_1 : decode cX5_readColours 1 = .ok (.bipush 99, 2) := by decide +kernel
theorem dX5_readColours_3 : decode cX5_readColours 3 = .ok (.invokevirtual 38, 3) := by decide +kernel
theorem dX5_readColours_6 : decode cX5_readColours 6 = .ok (.aload_n 1, 1) := by decide +kernel
theorem dX5_readColours_7 : decode cX5_readColours 7 = .ok (.iconst 0, 1) := by decide +kernel
theorem dX5_readColours_8 : decode cX5_readColours 8 = .ok (.putfield 69, 3) := by decide +kernel
theorem dX5_readColours_11 : decode cX5_readColours 11 = .ok (.iconst 1, 1) := by decide +kernel
theorem dX5_readColours_12 : decode cX5_readColours 12 = .ok (.istore_n 2, 1) := by decide +kernel
theorem dX5_readColours_13 : decode cX5_readColours 13 = .ok (.iconst 0, 1) := by decide +kernel
theorem dX5_readColours_14 : decode cX5_readColours 14 = .ok (.istore_n 3, 1) := by decide +kernel
theorem dX5_readColours_15 : decode cX5_readColours 15 = .ok (.iload_n 3, 1) := by decide +kernel
theorem dX5_readColours_16 : decode cX5_readColours 16 = .ok (.bipush 8, 2) := by decide +kernel
theorem dX5_readColours_18 : decode cX5_readColours 18 = .ok (.if_icmp .gt 86, 3) := by decide +kernel
theorem dX5_readColours_21 : decode cX5_readColours 21 = .ok (.iload_n 2, 1) := by decide +kernel
theorem dX5_readColours_22 : decode cX5_readColours 22 = .ok (.ifCond .eq 82, 3) := by decide +kernel
theorem dX5_readColours_25 : decode cX5_readColours 25 = .ok (.aload_n 0, 1) := by decide +kernel
theorem dX5_readColours_26 : decode cX5_readColours 26 = .ok (.iconst 0, 1) := by decide +kernel
theorem dX5_readColours_27 : decode cX5_readColours 27 = .ok (.iconst 3, 1) := by decide +kernel
theorem dX5_readColours_28 : decode cX5_readColours 28 = .ok (.invokevirtual 72, 3) := by decide +kernel
theorem dX5_readColours_31 : decode cX5_readColours 31 = .ok (.iload_n 3, 1) := by decide +kernel
theorem dX5_readColours_32 : decode cX5_readColours 32 = .ok (.bipush 8, 2) := by decide +kernel
theorem dX5_readColours_34 : decode cX5_readColours 34 = .ok (.if_icmp .ne 11, 3) := by decide +kernel
theorem dX5_readColours_37 : decode cX5_readColours 37 = .ok (.aload_n 0, 1) := by decide +kernel
theorem dX5_readColours_38 : decode cX5_readColours 38 = .ok (.iconst 3, 1) := by decide +kernel
theorem dX5_readColours_39 : decode cX5_readColours 39 = .ok (.invokevirtual 76, 3) := by decide +kernel
theorem dX5_readColours_42 : decode cX5_readColours 42 = .ok (.goto 56, 3) := by decide +kernel
theorem dX5_readColours_45 : decode cX5_readColours 45 = .ok (.aload_n 1, 1) := by decide +kernel
theorem dX5_readColours_46 : decode cX5_readColours 46 = .ok (.getfield 79, 3) := by decide +kernel
theorem dX5_readColours_49 : decode cX5_readColours 49 = .ok (.iload_n 3, 1) := by decide +kernel
theorem dX5_readColours_50 : decode cX5_readColours 50 = .ok (.aload_n 0, 1) := by decide +kernel
theorem dX5_readColours_51 : decode cX5_readColours 51 = .ok (.iconst 0, 1) := by decide +kernel
theorem dX5_readColours_52 : decode cX5_readColours 52 = .ok (.iconst 3, 1) := by decide +kernel
theorem dX5_readColours_53 : decode cX5_readColours 53 = .ok (.invokevirtual 42, 3) := by decide +kernel
theorem dX5_readColours_56 : decode cX5_readColours 56 = .ok (.iastore, 1) := by decide +kernel
theorem dX5_readColours_57 : decode cX5_readColours 57 = .ok (.aload_n 1, 1) := by decide +kernel
theorem dX5_readColours_58 : decode cX5_readColours 58 = .ok (.iload_n 3, 1) := by decide +kernel
theorem dX5_readColours_59 : decode cX5_readColours 59 = .ok (.iconst 1, 1) := by decide +kernel
theorem dX5_readColours_60 : decode cX5_readColours 60 = .ok (.iadd, 1) := by decide +kernel
theorem dX5_readColours_61 : decode cX5_readColours 61 = .ok (.putfield 69, 3) := by decide +kernel
theorem dX5_readColours_64 : decode cX5_readColours 64 = .ok (.aload_n 0, 1) := by decide +kernel
theorem dX5_readColours_65 : decode cX5_readColours 65 = .ok (.getfield 19, 3) := by decide +kernel
theorem dX5_readColours_68 : decode cX5_readColours 68 = .ok (.ifCond .ne 15, 3) := by decide +kernel
theorem dX5_readColours_71 : decode cX5_readColours 71 = .ok (.aload_n 0, 1) := by decide +kernel
theorem dX5_readColours_72 : decode cX5_readColours 72 = .ok (.getfield 82, 3) := by decide +kernel
theorem dX5_readColours_75 : decode cX5_readColours 75 = .ok (.iconst 3, 1) := by decide +kernel
theorem dX5_readColours_76 : decode cX5_readColours 76 = .ok (.if_icmp .ne 7, 3) := by decide +kernel
theorem dX5_readColours_79 : decode cX5_readColours 79 = .ok (.iconst 1, 1) := by decide +kernel
theorem dX5_readColours_80 : decode cX5_readColours 80 = .ok (.goto 4, 3) := by decide +kernel
theorem dX5_readColours_83 : decode cX5_readColours 83 = .ok (.iconst 0, 1) := by decide +kernel
theorem dX5_readColours_84 : decode cX5_readColours 84 = .ok (.istore_n 2, 1) := by decide +kernel
theorem dX5_readColours_85 : decode cX5_readColours 85 = .ok (.aload_n 0, 1) := by decide +kernel
theorem dX5_readColours_86 : decode cX5_readColours 86 = .ok (.iload_n 2, 1) := by decide +kernel
theorem dX5_readColours_87 : decode cX5_readColours 87 = .ok (.ifCond .eq 7, 3) := by decide +kernel
theorem dX5_readColours_90 : decode cX5_readColours 90 = .ok (.iconst 3, 1) := by decide +kernel
theorem dX5_readColours_91 : decode cX5_readColours 91 = .ok (.goto 4, 3) := by decide +kernel
theorem dX5_readColours_94 : decode cX5_readColours 94 = .ok (.iconst 4, 1) := by decide +kernel
theorem dX5_readColours_95 : decode cX5_readColours 95 = .ok (.invokevirtual 51, 3) := by decide +kernel
theorem dX5_readColours_98 : decode cX5_readColours 98 = .ok (.iinc 3 1, 3) := by decide +kernel
theorem dX5_readColours_101 : decode cX5_readColours 101 = .ok (.goto (-86), 3) := by decide +kernel
theorem dX5_readColours_104 : decode cX5_readColours 104 = .ok (.return_, 1) := by decide +kernel
set_option maxRecDepth 20000 in
theorem ggX5_readSuitors_J0_indexOf_0f7a4 : GoodIn wsX5_readSuitors wsJ0_indexOf_0f7a4 := goodIn_r _ [8, 9, 10, 11, 7, 12, 13, 14, 15, 16, 17, 18, 19, 20, 21, 22, 23, 24, 25, 26, 27, 28, 29, 30, 31, 32, 33, 34, 35, 36, 37, 38, 39, 40, 41, 42, 43, 44, 45, 46, 47, 48, 49, 50, 51, 52, 53, 54, 55, 56, 57, 58, 59, 60, 61, 62, 63, 64, 65, 66, 67, 68, 69, 70, 71, 72, 73, 74, 75, 76, 77, 78, 79, 80, 81, 82, 83, 84, 85, 86, 87, 88, 89, 90, 91, 92] (by decide +kernel) (by decide +kernel)
set_option maxRecDepth 20000 in
theorem gX5_readSuitors_J0_indexOf_0f7a4 : GoodIn wsX5_readSuitors (wsV RX5 93 RJ0 yJ0_indexOf_0f7a4 wsJ0_indexOf_0f7a4) := goodIn_app (goodIn_of _ (by decide +kernel)) ggX5_readSuitors_J0_indexOf_0f7a4
set_option maxRecDepth 20000 in
theorem ggX5_readSuitors_X5_blame : GoodIn wsX5_readSuitors wsX5_blame := goodIn_r _ [97, 1, 142, 143, 144, 145, 146, 147, 148] (by decide +kernel) (by decide +kernel)
set_option maxRecDepth 20000 in
theorem gX5_readSuitors_X5_blame : GoodIn wsX5_readSuitors (wsV RX5 76 RX5 yX5_blame wsX5_blame) := goodIn_app (goodIn_of _ (by decide +kernel)) ggX5_readSuitors_X5_blame
set_option maxRecDepth 20000 in
theorem ggX5_readSuitors_X5_step : GoodIn wsX5_readSuitors wsX5_step := goodIn_r _ [101, 1, 102, 103, 104, 2, 3, 105, 106, 107, 108, 96, 109, 110, 111, 112, 113, 142, 143, 144, 145, 146, 147, 148] (by decide +kernel) (by decide +kernel)
set_option maxRecDepth 20000 in
theorem gX5_readSuitors_X5_step : GoodIn wsX5_readSuitors (wsV RX5 25 RX5 yX5_step wsX5_step) := goodIn_app (goodIn_of _ (by decide +kernel)) ggX5_readSuitors_X5_step
set_option maxRecDepth 20000 in
theorem ggX5_readSuitors_X5_readSuitor : GoodIn wsX5_readSuitors wsX5_readSuitor := goodIn_r _ [117, 118, 119, 120, 96, 121, 3, 122, 123, 124, 125, 2, 93, 94, 95, 97, 1, 98, 99, 100, 101, 102, 103, 104, 105, 106, 107, 108, 109, 110, 111, 112, 113, 126, 127, 128, 129, 130, 131, 132, 133, 134, 135, 136, 137, 138, 139, 140, 141, 142, 143, 144, 145, 146, 147, 148] (by decide +kernel) (by decide +kernel)
set_option maxRecDepth 20000 in
theorem gX5_readSuitors_X5_readSuitor : GoodIn wsX5_readSuitors (wsV RX5 99 RX5 yX5_readSuitor wsX5_readSuitor) := goodIn_app (goodIn_of _ (by decide +kernel)) ggX5_readSuitors_X5_readSuitor
theorem dX5_readSuitors_0 : decode cX5_readSuitors 0 = .ok (.aload_n 1, 1) := by decide +kernel
theorem dX5_readSuitors_1 : decode cX5_readSuitors 1 = .ok (.iconst 0, 1) := by decide +kernel
theorem dX5_readSuitors_2 : decode cX5_readSuitors 2 = .ok (.putfield 85, 3) := by decide +kernel
theorem dX5_readSuitors_5 : decode cX5_readSuitors 5 = .ok (.iconst 0, 1) := by decide +kernel
theorem dX5_readSuitors_6 : decode cX5_readSuitors 6 = .ok (.istore_n 2, 1) := by decide +kernel
theorem dX5_readSuitors_7 : decode cX5_readSuitors 7 = .ok (.iload_n 2, 1) := by decide +kernel
theorem dX5_readSuitors_8 : decode cX5_readSuitors 8 = .ok (.iconst 5, 1) := by decide +kernel
theorem dX5_readSuitors_9 : decode cX5_readSuitors 9 = .ok (.if_icmp .gt 84, 3) := by decide +kernel
theorem dX5_readSuitors_12 : decode cX5_readSuitors 12 = .ok (.aload_n 0, 1) := by decide +kernel
theorem dX5_readSuitors_13 : decode cX5_readSuitors 13 = .ok (.getfield 19, 3) := by decide +kernel
theorem dX5_readSuitors_16 : decode cX5_readSuitors 16 = .ok (.ifCond .ne 77, 3) := by decide +kernel
theorem dX5_readSuitors_19 : decode cX5_readSuitors 19 = .ok (.aload_n 0, 1) := by decide +kernel
theorem dX5_readSuitors_20 : decode cX5_readSuitors 20 = .ok (.getfield 82, 3) := by decide +kernel
theorem dX5_readSuitors_23 : decode cX5_readSuitors 23 = .ok (.ifCond .eq 70, 3) := by decide +kernel
theorem dX5_readSuitors_26 : decode cX5_readSuitors 26 = .ok (.aload_n 0, 1) := by decide +kernel
theorem dX5_readSuitors_27 : decode cX5_readSuitors 27 = .ok (.getfield 82, 3) := by decide +kernel
theorem dX5_readSuitors_30 : decode cX5_readSuitors 30 = .ok (.iconst 1, 1) := by decide +kernel
theorem dX5_readSuitors_31 : decode cX5_readSuitors 31 = .ok (.if_icmp .ne 16, 3) := by decide +kernel
theorem dX5_readSuitors_34 : decode cX5_readSuitors 34 = .ok (.ldc 88, 2) := by decide +kernel
theorem dX5_readSuitors_36 : decode cX5_readSuitors 36 = .ok (.aload_n 0, 1) := by decide +kernel
theorem dX5_readSuitors_37 : decode cX5_readSuitors 37 = .ok (.getfield 90, 3) := by decide +kernel
theorem dX5_readSuitors_40 : decode cX5_readSuitors 40 = .ok (.i2c, 1) := by decide +kernel
theorem dX5_readSuitors_41 : decode cX5_readSuitors 41 = .ok (.invokevirtual 93, 3) := by decide +kernel
theorem dX5_readSuitors_44 : decode cX5_readSuitors 44 = .ok (.goto 4, 3) := by decide +kernel
theorem dX5_readSuitors_47 : decode cX5_readSuitors 47 = .ok (.iconst (-1), 1) := by decide +kernel
theorem dX5_readSuitors_48 : decode cX5_readSuitors 48 = .ok (.istore_n 3, 1) := by decide +kernel
theorem dX5_readSuitors_49 : decode cX5_readSuitors 49 = .ok (.iload_n 3, 1) := by decide +kernel
theorem dX5_readSuitors_50 : decode cX5_readSuitors 50 = .ok (.ifCond .ge 11, 3) := by decide +kernel
theorem dX5_readSuitors_53 : decode cX5_readSuitors 53 = .ok (.aload_n 0, 1) := by decide +kernel
theorem dX5_readSuitors_54 : decode cX5_readSuitors 54 = .ok (.iconst 1, 1) := by decide +kernel
theorem dX5_readSuitors_55 : decode cX5_readSuitors 55 = .ok (.invokevirtual 76, 3) := by decide +kernel
theorem dX5_readSuitors_58 : decode cX5_readSuitors 58 = .ok (.goto 29, 3) := by decide +kernel
theorem dX5_readSuitors_61 : decode cX5_readSuitors 61 = .ok (.iload_n 2, 1) := by decide +kernel
theorem dX5_readSuitors_62 : decode cX5_readSuitors 62 = .ok (.iconst 5, 1) := by decide +kernel
theorem dX5_readSuitors_63 : decode cX5_readSuitors 63 = .ok (.if_icmp .ne 11, 3) := by decide +kernel
theorem dX5_readSuitors_66 : decode cX5_readSuitors 66 = .ok (.aload_n 0, 1) := by decide +kernel
theorem dX5_readSuitors_67 : decode cX5_readSuitors 67 = .ok (.iconst 3, 1) := by decide +kernel
theorem dX5_readSuitors_68 : decode cX5_readSuitors 68 = .ok (.invokevirtual 76, 3) := by decide +kernel
theorem dX5_readSuitors_71 : decode cX5_readSuitors 71 = .ok (.goto 16, 3) := by decide +kernel
theorem dX5_readSuitors_74 : decode cX5_readSuitors 74 = .ok (.aload_n 0, 1) := by decide +kernel
theorem dX5_readSuitors_75 : decode cX5_readSuitors 75 = .ok (.invokevirtual 25, 3) := by decide +kernel
theorem dX5_readSuitors_78 : decode cX5_readSuitors 78 = .ok (.aload_n 0, 1) := by decide +kernel
theorem dX5_readSuitors_79 : decode cX5_readSuitors 79 = .ok (.aload_n 1, 1) := by decide +kernel
theorem dX5_readSuitors_80 : decode cX5_readSuitors 80 = .ok (.iload_n 2, 1) := by decide +kernel
theorem dX5_readSuitors_81 : decode cX5_readSuitors 81 = .ok (.iload_n 3, 1) := by decide +kernel
theorem dX5_readSuitors_82 : decode cX5_readSuitors 82 = .ok (.iconst 1, 1) := by decide +kernel
theorem dX5_readSuitors_83 : decode cX5_readSuitors 83 = .ok (.iadd, 1) := by decide +kernel
theorem dX5_readSuitors_84 : decode cX5_readSuitors 84 = .ok (.invokevirtual 99, 3) := by decide +kernel
theorem dX5_readSuitors_87 : decode cX5_readSuitors 87 = .ok (.iinc 2 1, 3) := by decide +kernel
theorem dX5_readSuitors_90 : decode cX5_readSuitors 90 = .ok (.goto (-83), 3) := by decide +kernel
theorem dX5_readSuitors_93 : decode cX5_readSuitors 93 = .ok (.return_, 1) := by decide +kernel
set_option maxRecDepth 20000 in
theorem ggX5_readSuitor_X5_takeNumber : GoodIn wsX5_readSuitor wsX5_takeNumber := goodIn_r _ [5, 6, 7, 8, 9, 4, 10, 11, 12, 13, 14, 15, 16, 17, 18, 19, 20, 21, 22, 23, 24, 25, 26, 27, 28, 29, 30, 31, 32, 49, 50, 51, 52, 53, 54, 55] (by decide +kernel) (by decide +kernel)
set_option maxRecDepth 20000 in
theorem gX5_readSuitor_X5_takeNumber : GoodIn wsX5_readSuitor (wsV RX5 42 RX5 yX5_takeNumber wsX5_takeNumber) := goodIn_app (goodIn_of _ (by decide +kernel)) ggX5_readSuitor_X5_takeNumber
set_option maxRecDepth 20000 in
theorem ggX5_readSuitor_X5_takeSign : GoodIn wsX5_readSuitor wsX5_takeSign := goodIn_r _ [36, 11, 12, 13, 14, 4, 15, 16, 17, 18, 19, 20, 21, 22, 23, 6, 24, 25, 26, 27, 28, 29, 30, 31, 32, 49, 50, 51, 52, 53, 54, 55] (by decide +kernel) (by decide +kernel)
set_option maxRecDepth 20000 in
theorem gX5_readSuitor_X5_takeSign : GoodIn wsX5_readSuitor (wsV RX5 51 RX5 yX5_takeSign wsX5_takeSign) := goodIn_app (goodIn_of _ (by decide +kernel)) ggX5_readSuitor_X5_takeSign
theorem dX5_readSuitor_0 : decode cX5_readSuitor 0 = .ok (.aload_n 1, 1) := by decide +kernel
theorem dX5_readSuitor_1 : decode cX5_readSuitor 1 = .ok (.getfield 103, 3) := by decide +kernel
theorem dX5_readSuitor_4 : decode cX5_readSuitor 4 = .ok (.iload_n 2, 1) := by decide +kernel
theorem dX5_readSuitor_5 : decode cX5_readSuitor 5 = .ok (.iload_n 3, 1) := by decide +kernel
theorem dX5_readSuitor_6 : decode cX5_readSuitor 6 = .ok (.iastore, 1) := by decide +kernel
theorem dX5_readSuitor_7 : decode cX5_readSuitor 7 = .ok (.aload_n 1, 1) := by decide +kernel
theorem dX5_readSuitor_8 : decode cX5_readSuitor 8 = .ok (.getfield 106, 3) := by decide +kernel
theorem dX5_readSuitor_11 : decode cX5_readSuitor 11 = .ok (.iload_n 2, 1) := by decide +kernel
theorem dX5_readSuitor_12 : decode cX5_readSuitor 12 = .ok (.aload_n 0, 1) := by decide +kernel
theorem dX5_readSuitor_13 : decode cX5_readSuitor 13 = .ok (.iconst 1, 1) := by decide +kernel
theorem dX5_readSuitor_14 : decode cX5_readSuitor 14 = .ok (.bipush 9, 2) := by decide +kernel
theorem dX5_readSuitor_16 : decode cX5_readSuitor 16 = .ok (.invokevirtual 42, 3) := by decide +kernel
theorem dX5_readSuitor_19 : decode cX5_readSuitor 19 = .ok (.iastore, 1) := by decide +kernel
theorem dX5_readSuitor_20 : decode cX5_readSuitor 20 = .ok (.aload_n 0, 1) := by decide +kernel
theorem dX5_readSuitor_21 : decode cX5_readSuitor 21 = .ok (.iconst 3, 1) := by decide +kernel
theorem dX5_readSuitor_22 : decode cX5_readSuitor 22 = .ok (.invokevirtual 51, 3) := by decide +kernel
theorem dX5_readSuitor_25 : decode cX5_readSuitor 25 = .ok (.aload_n 1, 1) := by decide +kernel
theorem dX5_readSuitor_26 : decode cX5_readSuitor 26 = .ok (.getfield 109, 3) := by decide +kernel
theorem dX5_readSuitor_29 : decode cX5_readSuitor 29 = .ok (.iload_n 2, 1) := by decide +kernel
theorem dX5_readSuitor_30 : decode cX5_readSuitor 30 = .ok (.aload_n 0, 1) := by decide +kernel
theorem dX5_readSuitor_31 : decode cX5_readSuitor 31 = .ok (.iconst 1, 1) := by decide +kernel
theorem dX5_readSuitor_32 : decode cX5_readSuitor 32 = .ok (.bipush 9, 2) := by decide +kernel
theorem dX5_readSuitor_34 : decode cX5_readSuitor 34 = .ok (.invokevirtual 42, 3) := by decide +kernel
theorem dX5_readSuitor_37 : decode cX5_readSuitor 37 = .ok (.iastore, 1) := by decide +kernel
theorem dX5_readSuitor_38 : decode cX5_readSuitor 38 = .ok (.aload_n 0, 1) := by decide +kernel
theorem dX5_readSuitor_39 : decode cX5_readSuitor 39 = .ok (.iconst 4, 1) := by decide +kernel
theorem dX5_readSuitor_40 : decode cX5_readSuitor 40 = .ok (.invokevirtual 51, 3) := by decide +kernel
theorem dX5_readSuitor_43 : decode cX5_readSuitor 43 = .ok (.aload_n 1, 1) := by decide +kernel
theorem dX5_readSuitor_44 : decode cX5_readSuitor 44 = .ok (.iload_n 2, 1) := by decide +kernel
theorem dX5_readSuitor_45 : decode cX5_readSuitor 45 = .ok (.iconst 1, 1) := by decide +kernel
theorem dX5_readSuitor_46 : decode cX5_readSuitor 46 = .ok (.iadd, 1) := by decide +kernel
theorem dX5_readSuitor_47 : decode cX5_readSuitor 47 = .ok (.putfield 85, 3) := by decide +kernel
theorem dX5_readSuitor_50 : decode cX5_readSuitor 50 = .ok (.return_, 1) := by decide +kernel
theorem dX5_blame_0 : decode cX5_blame 0 = .ok (.aload_n 0, 1) := by decide +kernel
theorem dX5_blame_1 : decode cX5_blame 1 = .ok (.getfield 19, 3) := by decide +kernel
theorem dX5_blame_4 : decode cX5_blame 4 = .ok (.ifCond .ne 8, 3) := by decide +kernel
theorem dX5_blame_7 : decode cX5_blame 7 = .ok (.aload_n 0, 1) := by decide +kernel
theorem dX5_blame_8 : decode cX5_blame 8 = .ok (.iload_n 1, 1) := by decide +kernel
theorem dX5_blame_9 : decode cX5_blame 9 = .ok (.putfield 19, 3) := by decide +kernel
theorem dX5_blame_12 : decode cX5_blame 12 = .ok (.return_, 1) := by decide +kernel
set_option maxRecDepth 20000 in
theorem ggX5_takeLetter_X5_blame : GoodIn wsX5_takeLetter wsX5_blame := goodIn_r _ [7, 8, 25, 26, 27, 28, 29, 30, 31] (by decide +kernel) (by decide +kernel)
set_option maxRecDepth 20000 in
theorem gX5_takeLetter_X5_blame : GoodIn wsX5_takeLetter (wsV RX5 76 RX5 yX5_blame wsX5_blame) := goodIn_app (goodIn_of _ (by decide +kernel)) ggX5_takeLetter_X5_blame
set_option maxRecDepth 20000 in
theorem ggX5_takeLetter_X5_step : GoodIn wsX5_takeLetter wsX5_step := goodIn_r _ [12, 8, 13, 14, 15, 1, 2, 16, 17, 18, 19, 6, 20, 21, 22, 23, 24, 25, 26, 27, 28, 29, 30, 31] (by decide +kernel) (by decide +kernel)
set_option maxRecDepth 20000 in
theorem gX5_takeLetter_X5_step : GoodIn wsX5_takeLetter (wsV RX5 25 RX5 yX5_step wsX5_step) := goodIn_app (goodIn_of _ (by decide +kernel)) ggX5_takeLetter_X5_step
theorem dX5_takeLetter_0 : decode cX5_takeLetter 0 = .ok (.aload_n 0, 1) := by decide +kernel
theorem dX5_takeLetter_1 : decode cX5_takeLetter 1 = .ok (.getfield 82, 3) := by decide +kernel
theorem dX5_takeLetter_4 : decode cX5_takeLetter 4 = .ok (.iconst 1, 1) := by decide +kernel
theorem dX5_takeLetter_5 : decode cX5_takeLetter 5 = .ok (.if_icmp .ne 11, 3) := by decide +kernel
theorem dX5_takeLetter_8 : decode cX5_takeLetter 8 = .ok (.aload_n 0, 1) := by decide +kernel
theorem dX5_takeLetter_9 : decode cX5_takeLetter 9 = .ok (.getfield 90, 3) := by decide +kernel
theorem dX5_takeLetter_12 : decode cX5_takeLetter 12 = .ok (.iload_n 1, 1) := by decide +kernel
theorem dX5_takeLetter_13 : decode cX5_takeLetter 13 = .ok (.if_icmp .eq 8, 3) := by decide +kernel
theorem dX5_takeLetter_16 : decode cX5_takeLetter 16 = .ok (.aload_n 0, 1) := by decide +kernel
theorem dX5_takeLetter_17 : decode cX5_takeLetter 17 = .ok (.iconst 1, 1) := by decide +kernel
theorem dX5_takeLetter_18 : decode cX5_takeLetter 18 = .ok (.invokevirtual 76, 3) := by decide +kernel
theorem dX5_takeLetter_21 : decode cX5_takeLetter 21 = .ok (.aload_n 0, 1) := by decide +kernel
theorem dX5_takeLetter_22 : decode cX5_takeLetter 22 = .ok (.invokevirtual 25, 3) := by decide +kernel
theorem dX5_takeLetter_25 : decode cX5_takeLetter 25 = .ok (.return_, 1) := by decide +kernel
set_option maxRecDepth 20000 in
theorem ggX5_takeSign_X5_blame : GoodIn wsX5_takeSign wsX5_blame := goodIn_r _ [6, 7, 25, 26, 27, 28, 29, 30, 31] (by decide +kernel) (by decide +kernel)
set_option maxRecDepth 20000 in
theorem gX5_takeSign_X5_blame : GoodIn wsX5_takeSign (wsV RX5 76 RX5 yX5_blame wsX5_blame) := goodIn_app (goodIn_of _ (by decide +kernel)) ggX5_takeSign_X5_blame
set_option maxRecDepth 20000 in
theorem ggX5_takeSign_X5_step : GoodIn wsX5_takeSign wsX5_step := goodIn_r _ [11, 7, 12, 13, 14, 1, 15, 16, 17, 18, 19, 5, 20, 21, 22, 23, 24, 25, 26, 27, 28, 29, 30, 31] (by decide +kernel) (by decide +kernel)
set_option maxRecDepth 20000 in
theorem gX5_takeSign_X5_step : GoodIn wsX5_takeSign (wsV RX5 25 RX5 yX5_step wsX5_step) := goodIn_app (goodIn_of _ (by decide +kernel)) ggX5_takeSign_X5_step
theorem dX5_takeSign_0 : decode cX5_takeSign 0 = .ok (.aload_n 0, 1) := by decide +kernel
theorem dX5_takeSign_1 : decode cX5_takeSign 1 = .ok (.getfield 82, 3) := by decide +kernel
theorem dX5_takeSign_4 : decode cX5_takeSign 4 = .ok (.iload_n 1, 1) := by decide +kernel
theorem dX5_takeSign_5 : decode cX5_takeSign 5 = .ok (.if_icmp .eq 8, 3) := by decide +kernel
theorem dX5_takeSign_8 : decode cX5_takeSign 8 = .ok (.aload_n 0, 1) := by decide +kernel
theorem dX5_takeSign_9 : decode cX5_takeSign 9 = .ok (.iconst 1, 1) := by decide +kernel
theorem dX5_takeSign_10 : decode cX5_takeSign 10 = .ok (.invokevirtual 76, 3) := by decide +kernel
theorem dX5_takeSign_13 : decode cX5_takeSign 13 = .ok (.aload_n 0, 1) := by decide +kernel
theorem dX5_takeSign_14 : decode cX5_takeSign 14 = .ok (.invokevirtual 25, 3) := by decide +kernel
theorem dX5_takeSign_17 : decode cX5_takeSign 17 = .ok (.return_, 1) := by decide +kernel
set_option maxRecDepth 20000 in
theorem ggX5_takeNumber_X5_checkNumber : GoodIn wsX5_takeNumber wsX5_checkNumber := goodIn_r _ [6, 7, 1, 8, 9, 10, 5, 11, 12, 29, 30, 31, 32, 33, 34, 35] (by decide +kernel) (by decide +kernel)
set_option maxRecDepth 20000 in
theorem gX5_takeNumber_X5_checkNumber : GoodIn wsX5_takeNumber (wsV RX5 72 RX5 yX5_checkNumber wsX5_checkNumber) := goodIn_app (goodIn_of _ (by decide +kernel)) ggX5_takeNumber_X5_checkNumber
set_option maxRecDepth 20000 in
theorem ggX5_takeNumber_X5_step : GoodIn wsX5_takeNumber wsX5_step := goodIn_r _ [16, 12, 17, 18, 19, 7, 1, 20, 21, 22, 23, 5, 24, 25, 26, 27, 28, 29, 30, 31, 32, 33, 34, 35] (by decide +kernel) (by decide +kernel)
set_option maxRecDepth 20000 in
theorem gX5_takeNumber_X5_step : GoodIn wsX5_takeNumber (wsV RX5 25 RX5 yX5_step wsX5_step) := goodIn_app (goodIn_of _ (by decide +kernel)) ggX5_takeNumber_X5_step
theorem dX5_takeNumber_0 : decode cX5_takeNumber 0 = .ok (.aload_n 0, 1) := by decide +kernel
theorem dX5_takeNumber_1 : decode cX5_takeNumber 1 = .ok (.iload_n 1, 1) := by decide +kernel
theorem dX5_takeNumber_2 : decode cX5_takeNumber 2 = .ok (.iload_n 2, 1) := by decide +kernel
theorem dX5_takeNumber_3 : decode cX5_takeNumber 3 = .ok (.invokevirtual 72, 3) := by decide +kernel
theorem dX5_takeNumber_6 : decode cX5_takeNumber 6 = .ok (.aload_n 0, 1) := by decide +kernel
theorem dX5_takeNumber_7 : decode cX5_takeNumber 7 = .ok (.getfield 90, 3) := by decide +kernel
theorem dX5_takeNumber_10 : decode cX5_takeNumber 10 = .ok (.istore_n 3, 1) := by decide +kernel
theorem dX5_takeNumber_11 : decode cX5_takeNumber 11 = .ok (.aload_n 0, 1) := by decide +kernel
theorem dX5_takeNumber_12 : decode cX5_takeNumber 12 = .ok (.invokevirtual 25, 3) := by decide +kernel
theorem dX5_takeNumber_15 : decode cX5_takeNumber 15 = .ok (.iload_n 3, 1) := by decide +kernel
theorem dX5_takeNumber_16 : decode cX5_takeNumber 16 = .ok (.ireturn, 1) := by decide +kernel
set_option maxRecDepth 20000 in
theorem ggX5_checkNumber_X5_blame : GoodIn wsX5_checkNumber wsX5_blame := goodIn_r _ [7, 8, 9, 10, 11, 12, 13, 14, 15] (by decide +kernel) (by decide +kernel)
set_option maxRecDepth 20000 in
theorem gX5_checkNumber_X5_blame : GoodIn wsX5_checkNumber (wsV RX5 76 RX5 yX5_blame wsX5_blame) := goodIn_app (goodIn_of _ (by decide +kernel)) ggX5_checkNumber_X5_blame
theorem dX5_checkNumber_0 : decode cX5_checkNumber 0 = .ok (.aload_n 0, 1) := by decide +kernel
theorem dX5_checkNumber_1 : decode cX5_checkNumber 1 = .ok (.getfield 82, 3) := by decide +kernel
theorem dX5_checkNumber_4 : decode cX5_checkNumber 4 = .ok (.iconst 2, 1) := by decide +kernel
theorem dX5_checkNumber_5 : decode cX5_checkNumber 5 = .ok (.if_icmp .eq 11, 3) := by decide +kernel
theorem dX5_checkNumber_8 : decode cX5_checkNumber 8 = .ok (.aload_n 0, 1) := by decide +kernel
theorem dX5_checkNumber_9 : decode cX5_checkNumber 9 = .ok (.iconst 1, 1) := by decide +kernel
theorem dX5_checkNumber_10 : decode cX5_checkNumber 10 = .ok (.invokevirtual 76, 3) := by decide +kernel
theorem dX5_checkNumber_13 : decode cX5_checkNumber 13 = .ok (.goto 24, 3) := by decide +kernel
theorem dX5_checkNumber_16 : decode cX5_checkNumber 16 = .ok (.aload_n 0, 1) := by decide +kernel
theorem dX5_checkNumber_17 : decode cX5_checkNumber 17 = .ok (.getfield 90, 3) := by decide +kernel
theorem dX5_checkNumber_20 : decode cX5_checkNumber 20 = .ok (.iload_n 1, 1) := by decide +kernel
theorem dX5_checkNumber_21 : decode cX5_checkNumber 21 = .ok (.if_icmp .lt 11, 3) := by decide +kernel
theorem dX5_checkNumber_24 : decode cX5_checkNumber 24 = .ok (.aload_n 0, 1) := by decide +kernel
theorem dX5_checkNumber_25 : decode cX5_checkNumber 25 = .ok (.getfield 90, 3) := by decide +kernel
theorem dX5_checkNumber_28 : decode cX5_checkNumber 28 = .ok (.iload_n 2, 1) := by decide +kernel
theorem dX5_checkNumber_29 : decode cX5_checkNumber 29 = .ok (.if_icmp .le 8, 3) := by decide +kernel
theorem dX5_checkNumber_32 : decode cX5_checkNumber 32 = .ok (.aload_n 0, 1) := by decide +kernel
theorem dX5_checkNumber_33 : decode cX5_checkNumber 33 = .ok (.iconst 2, 1) := by decide +kernel
theorem dX5_checkNumber_34 : decode cX5_checkNumber 34 = .ok (.invokevirtual 76, 3) := by decide +kernel
theorem dX5_checkNumber_37 : decode cX5_checkNumber 37 = .ok (.return_, 1) := by decide +kernel
set_option maxRecDepth 20000 in
theorem ggX5_step_X5_isFigure : GoodIn wsX5_step wsX5_isFigure := goodIn_r _ [12, 4, 7, 17, 18, 19, 20, 21, 22, 23] (by decide +kernel) (by decide +kernel)
set_option maxRecDepth 20000 in
theorem gX5_step_X5_isFigure : GoodIn wsX5_step (wsV RX5 115 RX5 yX5_isFigure wsX5_isFigure) := goodIn_app (goodIn_of _ (by decide +kernel)) ggX5_step_X5_isFigure
set_option maxRecDepth 20000 in
theorem ggX5_step_X5_readFigures : GoodIn wsX5_step wsX5_readFigures := goodIn_r _ [16, 6, 3, 2, 4, 7, 5, 8, 9, 10, 11, 12, 17, 18, 19, 20, 21, 22, 23] (by decide +kernel) (by decide +kernel)
set_option maxRecDepth 20000 in
theorem gX5_step_X5_readFigures : GoodIn wsX5_step (wsV RX5 119 RX5 yX5_readFigures wsX5_readFigures) := goodIn_app (goodIn_of _ (by decide +kernel)) ggX5_step_X5_readFigures
theorem dX5_step_0 : decode cX5_step 0 = .ok (.aload_n 0, 1) := by decide +kernel
theorem dX5_step_1 : decode cX5_step 1 = .ok (.getfield 19, 3) := by decide +kernel
theorem dX5_step_4 : decode cX5_step 4 = .ok (.ifCond .eq 4, 3) := by decide +kernel
theorem dX5_step_7 : decode cX5_step 7 = .ok (.return_, 1) := by decide +kernel
theorem dX5_step_8 : decode cX5_step 8 = .ok (.aload_n 0, 1) := by decide +kernel
theorem dX5_step_9 : decode cX5_step 9 = .ok (.aload_n 0, 1) := by decide +kernel
theorem dX5_step_10 : decode cX5_step 10 = .ok (.getfield 22, 3) := by decide +kernel
theorem dX5_step_13 : decode cX5_step 13 = .ok (.putfield 112, 3) := by decide +kernel
theorem dX5_step_16 : decode cX5_step 16 = .ok (.aload_n 0, 1) := by decide +kernel
theorem dX5_step_17 : decode cX5_step 17 = .ok (.getfield 112, 3) := by decide +kernel
theorem dX5_step_20 : decode cX5_step 20 = .ok (.aload_n 0, 1) := by decide +kernel
theorem dX5_step_21 : decode cX5_step 21 = .ok (.getfield 15, 3) := by decide +kernel
theorem dX5_step_24 : decode cX5_step 24 = .ok (.if_icmp .lt 14, 3) := by decide +kernel
theorem dX5_step_27 : decode cX5_step 27 = .ok (.aload_n 0, 1) := by decide +kernel
theorem dX5_step_28 : decode cX5_step 28 = .ok (.iconst 0, 1) := by decide +kernel
theorem dX5_step_29 : decode cX5_step 29 = .ok (.putfield 82, 3) := by decide +kernel
theorem dX5_step_32 : decode cX5_step 32 = .ok (.aload_n 0, 1) := by decide +kernel
theorem dX5_step_33 : decode cX5_step 33 = .ok (.iconst 0, 1) := by decide +kernel
theorem dX5_step_34 : decode cX5_step 34 = .ok (.putfield 90, 3) := by decide +kernel
theorem dX5_step_37 : decode cX5_step 37 = .ok (.return_, 1) := by decide +kernel
theorem dX5_step_38 : decode cX5_step 38 = .ok (.aload_n 0, 1) := by decide +kernel
theorem dX5_step_39 : decode cX5_step 39 = .ok (.aload_n 0, 1) := by decide +kernel
theorem dX5_step_40 : decode cX5_step 40 = .ok (.getfield 9, 3) := by decide +kernel
theorem dX5_step_43 : decode cX5_step 43 = .ok (.aload_n 0, 1) := by decide +kernel
theorem dX5_step_44 : decode cX5_step 44 = .ok (.getfield 112, 3) := by decide +kernel
theorem dX5_step_47 : decode cX5_step 47 = .ok (.iaload, 1) := by decide +kernel
theorem dX5_step_48 : decode cX5_step 48 = .ok (.putfield 90, 3) := by decide +kernel
theorem dX5_step_51 : decode cX5_step 51 = .ok (.aload_n 0, 1) := by decide +kernel
theorem dX5_step_52 : decode cX5_step 52 = .ok (.aload_n 0, 1) := by decide +kernel
theorem dX5_step_53 : decode cX5_step 53 = .ok (.getfield 112, 3) := by decide +kernel
theorem dX5_step_56 : decode cX5_step 56 = .ok (.iconst 1, 1) := by decide +kernel
theorem dX5_step_57 : decode cX5_step 57 = .ok (.iadd, 1) := by decide +kernel
theorem dX5_step_58 : decode cX5_step 58 = .ok (.putfield 22, 3) := by decide +kernel
theorem dX5_step_61 : decode cX5_step 61 = .ok (.aload_n 0, 1) := by decide +kernel
theorem dX5_step_62 : decode cX5_step 62 = .ok (.aload_n 0, 1) := by decide +kernel
theorem dX5_step_63 : decode cX5_step 63 = .ok (.getfield 112, 3) := by decide +kernel
theorem dX5_step_66 : decode cX5_step 66 = .ok (.invokevirtual 115, 3) := by decide +kernel
theorem dX5_step_69 : decode cX5_step 69 = .ok (.ifCond .eq 10, 3) := by decide +kernel
theorem dX5_step_72 : decode cX5_step 72 = .ok (.aload_n 0, 1) := by decide +kernel
theorem dX5_step_73 : decode cX5_step 73 = .ok (.invokevirtual 119, 3) := by decide +kernel
theorem dX5_step_76 : decode cX5_step 76 = .ok (.goto 64, 3) := by decide +kernel
theorem dX5_step_79 : decode cX5_step 79 = .ok (.aload_n 0, 1) := by decide +kernel
theorem dX5_step_80 : decode cX5_step 80 = .ok (.getfield 90, 3) := by decide +kernel
theorem dX5_step_83 : decode cX5_step 83 = .ok (.bipush 97, 2) := by decide +kernel
theorem dX5_step_85 : decode cX5_step 85 = .ok (.if_icmp .lt 20, 3) := by decide +kernel
theorem dX5_step_88 : decode cX5_step 88 = .ok (.aload_n 0, 1) := by decide +kernel
theorem dX5_step_89 : decode cX5_step 89 = .ok (.getfield 90, 3) := by decide +kernel
theorem dX5_step_92 : decode cX5_step 92 = .ok (.bipush 122, 2) := by decide +kernel
theorem dX5_step_94 : decode cX5_step 94 = .ok (.if_icmp .gt 11, 3) := by decide +kernel
theorem dX5_step_97 : decode cX5_step 97 = .ok (.aload_n 0, 1) := by decide +kernel
theorem dX5_step_98 : decode cX5_step 98 = .ok (.iconst 1, 1) := by decide +kernel
theorem dX5_step_99 : decode cX5_step 99 = .ok (.putfield 82, 3) := by decide +kernel
theorem dX5_step_102 : decode cX5_step 102 = .ok (.goto 38, 3) := by decide +kernel
theorem dX5_step_105 : decode cX5_step 105 = .ok (.aload_n 0, 1) := by decide +kernel
theorem dX5_step_106 : decode cX5_step 106 = .ok (.getfield 90, 3) := by decide +kernel
theorem dX5_step_109 : decode cX5_step 109 = .ok (.bipush 44, 2) := by decide +kernel
theorem dX5_step_111 : decode cX5_step 111 = .ok (.if_icmp .ne 11, 3) := by decide +kernel
theorem dX5_step_114 : decode cX5_step 114 = .ok (.aload_n 0, 1) := by decide +kernel
theorem dX5_step_115 : decode cX5_step 115 = .ok (.iconst 3, 1) := by decide +kernel
theorem dX5_step_116 : decode cX5_step 116 = .ok (.putfield 82, 3) := by decide +kernel
theorem dX5_step_119 : decode cX5_step 119 = .ok (.goto 21, 3) := by decide +kernel
theorem dX5_step_122 : decode cX5_step 122 = .ok (.aload_n 0, 1) := by decide +kernel
theorem dX5_step_123 : decode cX5_step 123 = .ok (.aload_n 0, 1) := by decide +kernel
theorem dX5_step_124 : decode cX5_step 124 = .ok (.getfield 90, 3) := by decide +kernel
theorem dX5_step_127 : decode cX5_step 127 = .ok (.bipush 59, 2) := by decide +kernel
theorem dX5_step_129 : decode cX5_step 129 = .ok (.if_icmp .ne 7, 3) := by decide +kernel
theorem dX5_step_132 : decode cX5_step 132 = .ok (.iconst 4, 1) := by decide +kernel
theorem dX5_step_133 : decode cX5_step 133 = .ok (.goto 4, 3) := by decide +kernel
theorem dX5_step_136 : decode cX5_step 136 = .ok (.iconst 5, 1) := by decide +kernel
theorem dX5_step_137 : decode cX5_step 137 = .ok (.putfield 82, 3) := by decide +kernel
theorem dX5_step_140 : decode cX5_step 140 = .ok (.return_, 1) := by decide +kernel
set_option maxRecDepth 20000 in
theorem ggX5_readFigures_X5_isFigure : GoodIn wsX5_readFigures wsX5_isFigure := goodIn_r _ [11, 4, 5, 12, 13, 14, 15, 16, 17, 18] (by decide +kernel) (by decide +kernel)
set_option maxRecDepth 20000 in
theorem gX5_readFigures_X5_isFigure : GoodIn wsX5_readFigures (wsV RX5 115 RX5 yX5_isFigure wsX5_isFigure) := goodIn_app (goodIn_of _ (by decide +kernel)) ggX5_readFigures_X5_isFigure
theorem dX5_readFigures_0 : decode cX5_readFigures 0 = .ok (.aload_n 0, 1) := by decide +kernel
theorem dX5_readFigures_1 : decode cX5_readFigures 1 = .ok (.iconst 0, 1) := by decide +kernel
theorem dX5_readFigures_2 : decode cX5_readFigures 2 = .ok (.putfield 90, 3) := by decide +kernel
theorem dX5_readFigures_5 : decode cX5_readFigures 5 = .ok (.aload_n 0, 1) := by decide +kernel
theorem dX5_readFigures_6 : decode cX5_readFigures 6 = .ok (.aload_n 0, 1) := by decide +kernel
theorem dX5_readFigures_7 : decode cX5_readFigures 7 = .ok (.getfield 112, 3) := by decide +kernel
theorem dX5_readFigures_10 : decode cX5_readFigures 10 = .ok (.putfield 22, 3) := by decide +kernel
theorem dX5_readFigures_13 : decode cX5_readFigures 13 = .ok (.aload_n 0, 1) := by decide +kernel
theorem dX5_readFigures_14 : decode cX5_readFigures 14 = .ok (.getfield 22, 3) := by decide +kernel
theorem dX5_readFigures_17 : decode cX5_readFigures 17 = .ok (.aload_n 0, 1) := by decide +kernel
theorem dX5_readFigures_18 : decode cX5_readFigures 18 = .ok (.getfield 15, 3) := by decide +kernel
theorem dX5_readFigures_21 : decode cX5_readFigures 21 = .ok (.if_icmp .ge 51, 3) := by decide +kernel
theorem dX5_readFigures_24 : decode cX5_readFigures 24 = .ok (.aload_n 0, 1) := by decide +kernel
theorem dX5_readFigures_25 : decode cX5_readFigures 25 = .ok (.aload_n 0, 1) := by decide +kernel
theorem dX5_readFigures_26 : decode cX5_readFigures 26 = .ok (.getfield 22, 3) := by decide +kernel
theorem dX5_readFigures_29 : decode cX5_readFigures 29 = .ok (.invokevirtual 115, 3) := by decide +kernel
theorem dX5_readFigures_32 : decode cX5_readFigures 32 = .ok (.ifCond .eq 40, 3) := by decide +kernel
theorem dX5_readFigures_35 : decode cX5_readFigures 35 = .ok (.aload_n 0, 1) := by decide +kernel
theorem dX5_readFigures_36 : decode cX5_readFigures 36 = .ok (.aload_n 0, 1) := by decide +kernel
theorem dX5_readFigures_37 : decode cX5_readFigures 37 = .ok (.getfield 90, 3) := by decide +kernel
theorem dX5_readFigures_40 : decode cX5_readFigures 40 = .ok (.bipush 10, 2) := by decide +kernel
theorem dX5_readFigures_42 : decode cX5_readFigures 42 = .ok (.imul, 1) := by decide +kernel
theorem dX5_readFigures_43 : decode cX5_readFigures 43 = .ok (.aload_n 0, 1) := by decide +kernel
theorem dX5_readFigures_44 : decode cX5_readFigures 44 = .ok (.getfield 9, 3) := by decide +kernel
theorem dX5_readFigures_47 : decode cX5_readFigures 47 = .ok (.aload_n 0, 1) := by decide +kernel
theorem dX5_readFigures_48 : decode cX5_readFigures 48 = .ok (.getfield 22, 3) := by decide +kernel
theorem dX5_readFigures_51 : decode cX5_readFigures 51 = .ok (.iaload, 1) := by decide +kernel
theorem dX5_readFigures_52 : decode cX5_readFigures 52 = .ok (.iadd, 1) := by decide +kernel
theorem dX5_readFigures_53 : decode cX5_readFigures 53 = .ok (.bipush 48, 2) := by decide +kernel
theorem dX5_readFigures_55 : decode cX5_readFigures 55 = .ok (.isub, 1) := by decide +kernel
theorem dX5_readFigures_56 : decode cX5_readFigures 56 = .ok (.putfield 90, 3) := by decide +kernel
theorem dX5_readFigures_59 : decode cX5_readFigures 59 = .ok (.aload_n 0, 1) := by decide +kernel
theorem dX5_readFigures_60 : decode cX5_readFigures 60 = .ok (.dup, 1) := by decide +kernel
theorem dX5_readFigures_61 : decode cX5_readFigures 61 = .ok (.getfield 22, 3) := by decide +kernel
theorem dX5_readFigures_64 : decode cX5_readFigures 64 = .ok (.iconst 1, 1) := by decide +kernel
theorem dX5_readFigures_65 : decode cX5_readFigures 65 = .ok (.iadd, 1) := by decide +kernel
theorem dX5_readFigures_66 : decode cX5_readFigures 66 = .ok (.putfield 22, 3) := by decide +kernel
theorem dX5_readFigures_69 : decode cX5_readFigures 69 = .ok (.goto (-56), 3) := by decide +kernel
theorem dX5_readFigures_72 : decode cX5_readFigures 72 = .ok (.aload_n 0, 1) := by decide +kernel
theorem dX5_readFigures_73 : decode cX5_readFigures 73 = .ok (.aload_n 0, 1) := by decide +kernel
theorem dX5_readFigures_74 : decode cX5_readFigures 74 = .ok (.getfield 22, 3) := by decide +kernel
theorem dX5_readFigures_77 : decode cX5_readFigures 77 = .ok (.aload_n 0, 1) := by decide +kernel
theorem dX5_readFigures_78 : decode cX5_readFigures 78 = .ok (.getfield 112, 3) := by decide +kernel
theorem dX5_readFigures_81 : decode cX5_readFigures 81 = .ok (.isub, 1) := by decide +kernel
theorem dX5_readFigures_82 : decode cX5_readFigures 82 = .ok (.iconst 2, 1) := by decide +kernel
theorem dX5_readFigures_83 : decode cX5_readFigures 83 = .ok (.if_icmp .gt 7, 3) := by decide +kernel
theorem dX5_readFigures_86 : decode cX5_readFigures 86 = .ok (.iconst 2, 1) := by decide +kernel
theorem dX5_readFigures_87 : decode cX5_readFigures 87 = .ok (.goto 4, 3) := by decide +kernel
theorem dX5_readFigures_90 : decode cX5_readFigures 90 = .ok (.iconst 5, 1) := by decide +kernel
theorem dX5_readFigures_91 : decode cX5_readFigures 91 = .ok (.putfield 82, 3) := by decide +kernel
theorem dX5_readFigures_94 : decode cX5_readFigures 94 = .ok (.return_, 1) := by decide +kernel
theorem dX5_isFigure_0 : decode cX5_isFigure 0 = .ok (.iload_n 1, 1) := by decide +kernel
theorem dX5_isFigure_1 : decode cX5_isFigure 1 = .ok (.aload_n 0, 1) := by decide +kernel
theorem dX5_isFigure_2 : decode cX5_isFigure 2 = .ok (.getfield 15, 3) := by decide +kernel
theorem dX5_isFigure_5 : decode cX5_isFigure 5 = .ok (.if_icmp .ge 29, 3) := by decide +kernel
theorem dX5_isFigure_8 : decode cX5_isFigure 8 = .ok (.aload_n 0, 1) := by decide +kernel
theorem dX5_isFigure_9 : decode cX5_isFigure 9 = .ok (.getfield 9, 3) := by decide +kernel
theorem dX5_isFigure_12 : decode cX5_isFigure 12 = .ok (.iload_n 1, 1) := by decide +kernel
theorem dX5_isFigure_13 : decode cX5_isFigure 13 = .ok (.iaload, 1) := by decide +kernel
theorem dX5_isFigure_14 : decode cX5_isFigure 14 = .ok (.bipush 48, 2) := by decide +kernel
theorem dX5_isFigure_16 : decode cX5_isFigure 16 = .ok (.if_icmp .lt 18, 3) := by decide +kernel
theorem dX5_isFigure_19 : decode cX5_isFigure 19 = .ok (.aload_n 0, 1) := by decide +kernel
theorem dX5_isFigure_20 : decode cX5_isFigure 20 = .ok (.getfield 9, 3) := by decide +kernel
theorem dX5_isFigure_23 : decode cX5_isFigure 23 = .ok (.iload_n 1, 1) := by decide +kernel
theorem dX5_isFigure_24 : decode cX5_isFigure 24 = .ok (.iaload, 1) := by decide +kernel
theorem dX5_isFigure_25 : decode cX5_isFigure 25 = .ok (.bipush 57, 2) := by decide +kernel
theorem dX5_isFigure_27 : decode cX5_isFigure 27 = .ok (.if_icmp .gt 7, 3) := by decide +kernel
theorem dX5_isFigure_30 : decode cX5_isFigure 30 = .ok (.iconst 1, 1) := by decide +kernel
theorem dX5_isFigure_31 : decode cX5_isFigure 31 = .ok (.goto 4, 3) := by decide +kernel
theorem dX5_isFigure_34 : decode cX5_isFigure 34 = .ok (.iconst 0, 1) := by decide +kernel
theorem dX5_isFigure_35 : decode cX5_isFigure 35 = .ok (.ireturn, 1) := by decide +kernel
theorem dX6_init_0 : decode cX6_init 0 = .ok (.aload_n 0, 1) := by decide +kernel
theorem dX6_init_1 : decode cX6_init 1 = .ok (.invokespecial 3, 3) := by decide +kernel
theorem dX6_init_4 : decode cX6_init 4 = .ok (.aload_n 0, 1) := by decide +kernel
theorem dX6_init_5 : decode cX6_init 5 = .ok (.bipush 40, 2) := by decide +kernel
theorem dX6_init_7 : decode cX6_init 7 = .ok (.newarray .int, 2) := by decide +kernel
theorem dX6_init_9 : decode cX6_init 9 = .ok (.putfield 9, 3) := by decide +kernel
theorem dX6_init_12 : decode cX6_init 12 = .ok (.return_, 1) := by decide +kernel
theorem dX6_make_0 : decode cX6_make 0 = .ok (.aload_n 0, 1) := by decide +kernel
theorem dX6_make_1 : decode cX6_make 1 = .ok (.iconst 1, 1) := by decide +kernel
theorem dX6_make_2 : decode cX6_make 2 = .ok (.putfield 15, 3) := by decide +kernel
theorem dX6_make_5 : decode cX6_make 5 = .ok (.aload_n 0, 1) := by decide +kernel
theorem dX6_make_6 : decode cX6_make 6 = .ok (.iload_n 1, 1) := by decide +kernel
theorem dX6_make_7 : decode cX6_make 7 = .ok (.putfield 19, 3) := by decide +kernel
theorem dX6_make_10 : decode cX6_make 10 = .ok (.aload_n 0, 1) := by decide +kernel
theorem dX6_make_11 : decode cX6_make 11 = .ok (.iload_n 2, 1) := by decide +kernel
theorem dX6_make_12 : decode cX6_make 12 = .ok (.putfield 23, 3) := by decide +kernel
theorem dX6_make_15 : decode cX6_make 15 = .ok (.iconst 0, 1) := by decide +kernel
theorem dX6_make_16 : decode cX6_make 16 = .ok (.istore_n 3, 1) := by decide +kernel
theorem dX6_make_17 : decode cX6_make 17 = .ok (.iload_n 3, 1) := by decide +kernel
theorem dX6_make_18 : decode cX6_make 18 = .ok (.bipush 40, 2) := by decide +kernel
theorem dX6_make_20 : decode cX6_make 20 = .ok (.if_icmp .ge 16, 3) := by decide +kernel
theorem dX6_make_23 : decode cX6_make 23 = .ok (.aload_n 0, 1) := by decide +kernel
theorem dX6_make_24 : decode cX6_make 24 = .ok (.getfield 9, 3) := by decide +kernel
theorem dX6_make_27 : decode cX6_make 27 = .ok (.iload_n 3, 1) := by decide +kernel
theorem dX6_make_28 : decode cX6_make 28 = .ok (.iconst 0, 1) := by decide +kernel
theorem dX6_make_29 : decode cX6_make 29 = .ok (.iastore, 1) := by decide +kernel
theorem dX6_make_30 : decode cX6_make 30 = .ok (.iinc 3 1, 3) := by decide +kernel
theorem dX6_make_33 : decode cX6_make 33 = .ok (.goto (-16), 3) := by decide +kernel
theorem dX6_make_36 : decode cX6_make 36 = .ok (.return_, 1) := by decide +kernel
theorem dX6_hasStretch_0 : decode cX6_hasStretch 0 = .ok (.iload_n 1, 1) := by decide +kernel
theorem dX6_hasStretch_1 : decode cX6_hasStretch 1 = .ok (.ifCond .lt 21, 3) := by decide +kernel
theorem dX6_hasStretch_4 : decode cX6_hasStretch 4 = .ok (.iload_n 2, 1) := by decide +kernel
theorem dX6_hasStretch_5 : decode cX6_hasStretch 5 = .ok (.ifCond .lt 17, 3) := by decide +kernel
theorem dX6_hasStretch_8 : decode cX6_hasStretch 8 = .ok (.iload_n 1, 1) := by decide +kernel
theorem dX6_hasStretch_9 : decode cX6_hasStretch 9 = .ok (.aload_n 0, 1) := by decide +kernel
theorem dX6_hasStretch_10 : decode cX6_hasStretch 10 = .ok (.getfield 23, 3) := by decide +kernel
theorem dX6_hasStretch_13 : decode cX6_hasStretch 13 = .ok (.iload_n 2, 1) := by decide +kernel
theorem dX6_hasStretch_14 : decode cX6_hasStretch 14 = .ok (.isub, 1) := by decide +kernel
theorem dX6_hasStretch_15 : decode cX6_hasStretch 15 = .ok (.if_icmp .gt 7, 3) := by decide +kernel
theorem dX6_hasStretch_18 : decode cX6_hasStretch 18 = .ok (.iconst 1, 1) := by decide +kernel
theorem dX6_hasStretch_19 : decode cX6_hasStretch 19 = .ok (.goto 4, 3) := by decide +kernel
theorem dX6_hasStretch_22 : decode cX6_hasStretch 22 = .ok (.iconst 0, 1) := by decide +kernel
theorem dX6_hasStretch_23 : decode cX6_hasStretch 23 = .ok (.ireturn, 1) := by decide +kernel
theorem dX6_put_0 : decode cX6_put 0 = .ok (.iload_n 2, 1) := by decide +kernel
theorem dX6_put_1 : decode cX6_put 1 = .ok (.istore_n 3, 1) := by decide +kernel
theorem dX6_put_2 : decode cX6_put 2 = .ok (.aload_n 0, 1) := by decide +kernel
theorem dX6_put_3 : decode cX6_put 3 = .ok (.getfield 19, 3) := by decide +kernel
theorem dX6_put_6 : decode cX6_put 6 = .ok (.ifCond .ne 9, 3) := by decide +kernel
theorem dX6_put_9 : decode cX6_put 9 = .ok (.iload_n 2, 1) := by decide +kernel
theorem dX6_put_10 : decode cX6_put 10 = .ok (.i2b, 1) := by decide +kernel
theorem dX6_put_11 : decode cX6_put 11 = .ok (.istore_n 3, 1) := by decide +kernel
theorem dX6_put_12 : decode cX6_put 12 = .ok (.goto 14, 3) := by decide +kernel
theorem dX6_put_15 : decode cX6_put 15 = .ok (.aload_n 0, 1) := by decide +kernel
theorem dX6_put_16 : decode cX6_put 16 = .ok (.getfield 19, 3) := by decide +kernel
theorem dX6_put_19 : decode cX6_put 19 = .ok (.iconst 1, 1) := by decide +kernel
theorem dX6_put_20 : decode cX6_put 20 = .ok (.if_icmp .ne 6, 3) := by decide +kernel
theorem dX6_put_23 : decode cX6_put 23 = .ok (.iload_n 2, 1) := by decide +kernel
theorem dX6_put_24 : decode cX6_put 24 = .ok (.i2s, 1) := by decide +kernel
theorem dX6_put_25 : decode cX6_put 25 = .ok (.istore_n 3, 1) := by decide +kernel
theorem dX6_put_26 : decode cX6_put 26 = .ok (.aload_n 0, 1) := by decide +kernel
theorem dX6_put_27 : decode cX6_put 27 = .ok (.getfield 9, 3) := by decide +kernel
theorem dX6_put_30 : decode cX6_put 30 = .ok (.iload_n 1, 1) := by decide +kernel
theorem dX6_put_31 : decode cX6_put 31 = .ok (.iload_n 3, 1) := by decide +kernel
theorem dX6_put_32 : decode cX6_put 32 = .ok (.iastore, 1) := by decide +kernel
theorem dX6_put_33 : decode cX6_put 33 = .ok (.iload_n 3, 1) := by decide +kernel
theorem dX6_put_34 : decode cX6_put 34 = .ok (.ireturn, 1) := by decide +kernel
theorem dX6_areWithin_0 : decode cX6_areWithin 0 = .ok (.iload_n 1, 1) := by decide +kernel
theorem dX6_areWithin_1 : decode cX6_areWithin 1 = .ok (.istore 4, 2) := by decide +kernel
theorem dX6_areWithin_3 : decode cX6_areWithin 3 = .ok (.iload 4, 2) := by decide +kernel
theorem dX6_areWithin_5 : decode cX6_areWithin 5 = .ok (.iload_n 1, 1) := by decide +kernel
theorem dX6_areWithin_6 : decode cX6_areWithin 6 = .ok (.iload_n 2, 1) := by decide +kernel
theorem dX6_areWithin_7 : decode cX6_areWithin 7 = .ok (.iadd, 1) := by decide +kernel
theorem dX6_areWithin_8 : decode cX6_areWithin 8 = .ok (.if_icmp .ge 32, 3) := by decide +kernel
theorem dX6_areWithin_11 : decode cX6_areWithin 11 = .ok (.aload_n 0, 1) := by decide +kernel
theorem dX6_areWithin_12 : decode cX6_areWithin 12 = .ok (.getfield 9, 3) := by decide +kernel
theorem dX6_areWithin_15 : decode cX6_areWithin 15 = .ok (.iload 4, 2) := by decide +kernel
theorem dX6_areWithin_17 : decode cX6_areWithin 17 = .ok (.iaload, 1) := by decide +kernel
theorem dX6_areWithin_18 : decode cX6_areWithin 18 = .ok (.ifCond .lt 14, 3) := by decide +kernel
theorem dX6_areWithin_21 : decode cX6_areWithin 21 = .ok (.aload_n 0, 1) := by decide +kernel
theorem dX6_areWithin_22 : decode cX6_areWithin 22 = .ok (.getfield 9, 3) := by decide +kernel
theorem dX6_areWithin_25 : decode cX6_areWithin 25 = .ok (.iload 4, 2) := by decide +kernel
theorem dX6_areWithin_27 : decode cX6_areWithin 27 = .ok (.iaload, 1) := by decide +kernel
theorem dX6_areWithin_28 : decode cX6_areWithin 28 = .ok (.iload_n 3, 1) := by decide +kernel
theorem dX6_areWithin_29 : decode cX6_areWithin 29 = .ok (.if_icmp .le 5, 3) := by decide +kernel
theorem dX6_areWithin_32 : decode cX6_areWithin 32 = .ok (.iconst 0, 1) := by decide +kernel
theorem dX6_areWithin_33 : decode cX6_areWithin 33 = .ok (.ireturn, 1) := by decide +kernel
theorem dX6_areWithin_34 : decode cX6_areWithin 34 = .ok (.iinc 4 1, 3) := by decide +kernel
theorem dX6_areWithin_37 : decode cX6_areWithin 37 = .ok (.goto (-34), 3) := by decide +kernel
theorem dX6_areWithin_40 : decode cX6_areWithin 40 = .ok (.iconst 1, 1) := by decide +kernel
theorem dX6_areWithin_41 : decode cX6_areWithin 41 = .ok (.ireturn, 1) := by decide +kernel
set_option maxRecDepth 20000 in
theorem ggX7_init_X3_init : GoodIn wsX7_init wsX3_init := goodIn_r _ [13, 14, 2, 3, 15, 16, 17, 18, 19, 25, 26, 27, 28, 29, 30, 31, 32, 33, 34, 35, 36] (by decide +kernel) (by decide +kernel)
set_option maxRecDepth 20000 in
theorem gX7_init_X3_init_n11 : GoodIn wsX7_init (wsX3_init) := ggX7_init_X3_init
set_option maxRecDepth 20000 in
theorem ggX7_init_X1_init : GoodIn wsX7_init wsX1_init := goodIn_r _ [21, 22, 2, 3, 15, 23, 24, 47, 48, 49, 50, 51, 52, 53, 54, 55, 56] (by decide +kernel) (by decide +kernel)
set_option maxRecDepth 20000 in
theorem gX7_init_X1_init_n20 : GoodIn wsX7_init (wsX1_init) := ggX7_init_X1_init
theorem dX7_init_0 : decode cX7_init 0 = .ok (.aload_n 0, 1) := by decide +kernel
theorem dX7_init_1 : decode cX7_init 1 = .ok (.invokespecial 3, 3) := by decide +kernel
theorem dX7_init_4 : decode cX7_init 4 = .ok (.aload_n 0, 1) := by decide +kernel
theorem dX7_init_5 : decode cX7_init 5 = .ok (.new 9, 3) := by decide +kernel
theorem dX7_init_8 : decode cX7_init 8 = .ok (.dup, 1) := by decide +kernel
theorem dX7_init_9 : decode cX7_init 9 = .ok (.invokespecial 11, 3) := by decide +kernel
theorem dX7_init_12 : decode cX7_init 12 = .ok (.putfield 12, 3) := by decide +kernel
theorem dX7_init_15 : decode cX7_init 15 = .ok (.aload_n 0, 1) := by decide +kernel
theorem dX7_init_16 : decode cX7_init 16 = .ok (.new 18, 3) := by decide +kernel
theorem dX7_init_19 : decode cX7_init 19 = .ok (.dup, 1) := by decide +kernel
theorem dX7_init_20 : decode cX7_init 20 = .ok (.invokespecial 20, 3) := by decide +kernel
theorem dX7_init_23 : decode cX7_init 23 = .ok (.putfield 21, 3) := by decide +kernel
theorem dX7_init_26 : decode cX7_init 26 = .ok (.return_, 1) := by decide +kernel
set_option maxRecDepth 20000 in
theorem ggX7_foretell_X3_become : GoodIn wsX7_foretell wsX3_become := goodIn_r _ [6, 7, 8, 9, 10, 11, 12, 13, 14, 15, 16, 17, 18, 19, 20, 21, 22, 134, 135, 136, 137, 138, 139, 140, 141, 142, 143, 144, 145] (by decide +kernel) (by decide +kernel)
set_option maxRecDepth 20000 in
theorem gX7_foretell_X3_become : GoodIn wsX7_foretell (wsV RX7 25 RX3 yX3_become wsX3_become) := goodIn_app (goodIn_of _ (by decide +kernel)) ggX7_foretell_X3_become
set_option maxRecDepth 20000 in
theorem ggX7_foretell_X7_foretellHabit : GoodIn wsX7_foretell wsX7_foretellHabit := goodIn_r _ [27, 28, 29, 30, 1, 31, 32, 33, 34, 35, 36, 37, 38, 39, 40, 41, 42, 43, 44, 45, 46, 47, 17, 18, 19, 48, 49, 50, 51, 26, 52, 53, 54, 55, 56, 57, 58, 59, 60, 61, 62, 63, 5, 64, 10, 9, 65, 66, 67, 68, 69, 70, 71, 72, 73, 74, 75, 76, 77, 78, 79, 80, 81, 82, 83, 84, 85, 86, 87, 88, 89, 90, 91, 92, 93, 94, 95, 96, 97, 98, 99, 100, 101, 102, 103, 104, 105, 106, 107, 108, 109, 110, 111, 112, 113, 114, 115, 116, 117, 118, 119, 120, 121, 122, 13, 15, 123, 124, 125, 126, 127, 128, 129, 130, 131, 132, 133, 146, 147, 148, 149, 150, 151, 152, 153, 154, 155, 134, 135, 136, 137, 138, 139, 140, 141, 142, 143, 144, 145] (by decide +kernel) (by decide +kernel)
set_option maxRecDepth 20000 in
theorem gX7_foretell_X7_foretellHabit : GoodIn wsX7_foretell (wsV RX7 29 RX7 yX7_foretellHabit wsX7_foretellHabit) := goodIn_app (goodIn_of _ (by decide +kernel)) ggX7_foretell_X7_foretellHabit
theorem dX7_foretell_0 : decode cX7_foretell 0 = .ok (.aload_n 0, 1) := by decide +kernel
theorem dX7_foretell_1 : decode cX7_foretell 1 = .ok (.getfield 12, 3) := by decide +kernel
theorem dX7_foretell_4 : decode cX7_foretell 4 = .ok (.aload_n 1, 1) := by decide +kernel
theorem dX7_foretell_5 : decode cX7_foretell 5 = .ok (.invokevirtual 25, 3) := by decide +kernel
theorem dX7_foretell_8 : decode cX7_foretell 8 = .ok (.aload_n 0, 1) := by decide +kernel
theorem dX7_foretell_9 : decode cX7_foretell 9 = .ok (.aload_n 2, 1) := by decide +kernel
theorem dX7_foretell_10 : decode cX7_foretell 10 = .ok (.iload_n 3, 1) := by decide +kernel
theorem dX7_foretell_11 : decode cX7_foretell 11 = .ok (.iload 4, 2) := by decide +kernel
theorem dX7_foretell_13 : decode cX7_foretell 13 = .ok (.invokevirtual 29, 3) := by decide +kernel
theorem dX7_foretell_16 : decode cX7_foretell 16 = .ok (.return_, 1) := by decide +kernel
set_option maxRecDepth 20000 in
theorem ggX7_findLongest_X3_become : GoodIn wsX7_findLongest wsX3_become := goodIn_r _ [10, 11, 12, 13, 14, 15, 16, 17, 18, 19, 20, 21, 22, 23, 24, 25, 26, 137, 138, 139, 140, 141, 142, 143, 144, 145, 146, 147, 148] (by decide +kernel) (by decide +kernel)
set_option maxRecDepth 20000 in
theorem gX7_findLongest_X3_become : GoodIn wsX7_findLongest (wsV RX7 25 RX3 yX3_become wsX3_become) := goodIn_app (goodIn_of _ (by decide +kernel)) ggX7_findLongest_X3_become
set_option maxRecDepth 20000 in
theorem ggX7_findLongest_X7_foretellHabit : GoodIn wsX7_findLongest wsX7_foretellHabit := goodIn_r _ [31, 32, 3, 33, 1, 34, 35, 36, 37, 38, 39, 40, 41, 42, 43, 44, 45, 46, 47, 48, 49, 50, 21, 22, 23, 51, 52, 53, 54, 30, 55, 56, 57, 58, 59, 60, 61, 62, 63, 64, 65, 66, 9, 67, 14, 13, 68, 69, 70, 71, 72, 73, 74, 75, 76, 77, 78, 79, 80, 81, 82, 83, 84, 85, 86, 87, 88, 89, 90, 91, 92, 93, 94, 95, 96, 97, 98, 99, 100, 101, 102, 103, 104, 105, 106, 107, 108, 109, 110, 111, 112, 113, 114, 115, 116, 117, 118, 119, 120, 121, 122, 123, 124, 125, 17, 19, 126, 127, 128, 129, 130, 131, 132, 133, 134, 135, 136, 149, 150, 151, 152, 153, 154, 155, 156, 157, 158, 137, 138, 139, 140, 141, 142, 143, 144, 145, 146, 147, 148] (by decide +kernel) (by decide +kernel)
set_option maxRecDepth 20000 in
theorem gX7_findLongest_X7_foretellHabit : GoodIn wsX7_findLongest (wsV RX7 29 RX7 yX7_foretellHabit wsX7_foretellHabit) := goodIn_app (goodIn_of _ (by decide +kernel)) ggX7_findLongest_X7_foretellHabit
theorem dX7_findLongest_0 : decode cX7_findLongest 0 = .ok (.aload_n 0, 1) := by decide +kernel
theorem dX7_findLongest_1 : decode cX7_findLongest 1 = .ok (.getfield 12, 3) := by decide +kernel
theorem dX7_findLongest_4 : decode cX7_findLongest 4 = .ok (.aload_n 1, 1) := by decide +kernel
theorem dX7_findLongest_5 : decode cX7_findLongest 5 = .ok (.invokevirtual 25, 3) := by decide +kernel
theorem dX7_findLongest_8 : decode cX7_findLongest 8 = .ok (.aload_n 0, 1) := by decide +kernel
theorem dX7_findLongest_9 : decode cX7_findLongest 9 = .ok (.iconst (-1), 1) := by decide +kernel
theorem dX7_findLongest_10 : decode cX7_findLongest 10 = .ok (.putfield 33, 3) := by decide +kernel
theorem dX7_findLongest_13 : decode cX7_findLongest 13 = .ok (.iconst 0, 1) := by decide +kernel
theorem dX7_findLongest_14 : decode cX7_findLongest 14 = .ok (.istore_n 3, 1) := by decide +kernel
theorem dX7_findLongest_15 : decode cX7_findLongest 15 = .ok (.iload_n 3, 1) := by decide +kernel
theorem dX7_findLongest_16 : decode cX7_findLongest 16 = .ok (.bipush 6, 2) := by decide +kernel
theorem dX7_findLongest_18 : decode cX7_findLongest 18 = .ok (.if_icmp .gt 88, 3) := by decide +kernel
theorem dX7_findLongest_21 : decode cX7_findLongest 21 = .ok (.aload_n 0, 1) := by decide +kernel
theorem dX7_findLongest_22 : decode cX7_findLongest 22 = .ok (.getfield 33, 3) := by decide +kernel
theorem dX7_findLongest_25 : decode cX7_findLongest 25 = .ok (.sipush 200, 3) := by decide +kernel
theorem dX7_findLongest_28 : decode cX7_findLongest 28 = .ok (.if_icmp .ge 78, 3) := by decide +kernel
theorem dX7_findLongest_31 : decode cX7_findLongest 31 = .ok (.iconst 0, 1) := by decide +kernel
theorem dX7_findLongest_32 : decode cX7_findLongest 32 = .ok (.istore 4, 2) := by decide +kernel
theorem dX7_findLongest_34 : decode cX7_findLongest 34 = .ok (.iload 4, 2) := by decide +kernel
theorem dX7_findLongest_36 : decode cX7_findLongest 36 = .ok (.aload_n 0, 1) := by decide +kernel
theorem dX7_findLongest_37 : decode cX7_findLongest 37 = .ok (.getfield 12, 3) := by decide +kernel
theorem dX7_findLongest_40 : decode cX7_findLongest 40 = .ok (.getfield 37, 3) := by decide +kernel
theorem dX7_findLongest_43 : decode cX7_findLongest 43 = .ok (.if_icmp .gt 57, 3) := by decide +kernel
theorem dX7_findLongest_46 : decode cX7_findLongest 46 = .ok (.aload_n 0, 1) := by decide +kernel
theorem dX7_findLongest_47 : decode cX7_findLongest 47 = .ok (.getfield 33, 3) := by decide +kernel
theorem dX7_findLongest_50 : decode cX7_findLongest 50 = .ok (.sipush 200, 3) := by decide +kernel
theorem dX7_findLongest_53 : decode cX7_findLongest 53 = .ok (.if_icmp .ge 47, 3) := by decide +kernel
theorem dX7_findLongest_56 : decode cX7_findLongest 56 = .ok (.aload_n 0, 1) := by decide +kernel
theorem dX7_findLongest_57 : decode cX7_findLongest 57 = .ok (.aload_n 2, 1) := by decide +kernel
theorem dX7_findLongest_58 : decode cX7_findLongest 58 = .ok (.iload_n 3, 1) := by decide +kernel
theorem dX7_findLongest_59 : decode cX7_findLongest 59 = .ok (.iload 4, 2) := by decide +kernel
theorem dX7_findLongest_61 : decode cX7_findLongest 61 = .ok (.invokevirtual 29, 3) := by decide +kernel
theorem dX7_findLongest_64 : decode cX7_findLongest 64 = .ok (.aload_n 0, 1) := by decide +kernel
theorem dX7_findLongest_65 : decode cX7_findLongest 65 = .ok (.getfield 40, 3) := by decide +kernel
theorem dX7_findLongest_68 : decode cX7_findLongest 68 = .ok (.aload_n 0, 1) := by decide +kernel
theorem dX7_findLongest_69 : decode cX7_findLongest 69 = .ok (.getfield 33, 3) := by decide +kernel
theorem dX7_findLongest_72 : decode cX7_findLongest 72 = .ok (.if_icmp .le 22, 3) := by decide +kernel
theorem dX7_findLongest_75 : decode cX7_findLongest 75 = .ok (.aload_n 0, 1) := by decide +kernel
theorem dX7_findLongest_76 : decode cX7_findLongest 76 = .ok (.aload_n 0, 1) := by decide +kernel
theorem dX7_findLongest_77 : decode cX7_findLongest 77 = .ok (.getfield 40, 3) := by decide +kernel
theorem dX7_findLongest_80 : decode cX7_findLongest 80 = .ok (.putfield 33, 3) := by decide +kernel
theorem dX7_findLongest_83 : decode cX7_findLongest 83 = .ok (.aload_n 0, 1) := by decide +kernel
theorem dX7_findLongest_84 : decode cX7_findLongest 84 = .ok (.iload_n 3, 1) := by decide +kernel
theorem dX7_findLongest_85 : decode cX7_findLongest 85 = .ok (.putfield 43, 3) := by decide +kernel
theorem dX7_findLongest_88 : decode cX7_findLongest 88 = .ok (.aload_n 0, 1) := by decide +kernel
theorem dX7_findLongest_89 : decode cX7_findLongest 89 = .ok (.iload 4, 2) := by decide +kernel
theorem dX7_findLongest_91 : decode cX7_findLongest 91 = .ok (.putfield 46, 3) := by decide +kernel
theorem dX7_findLongest_94 : decode cX7_findLongest 94 = .ok (.iinc 4 1, 3) := by decide +kernel
theorem dX7_findLongest_97 : decode cX7_findLongest 97 = .ok (.goto (-63), 3) := by decide +kernel
theorem dX7_findLongest_100 : decode cX7_findLongest 100 = .ok (.iinc 3 1, 3) := by decide +kernel
theorem dX7_findLongest_103 : decode cX7_findLongest 103 = .ok (.goto (-88), 3) := by decide +kernel
theorem dX7_findLongest_106 : decode cX7_findLongest 106 = .ok (.return_, 1) := by decide +kernel
set_option maxRecDepth 20000 in
theorem ggX7_findSoonest_X3_become : GoodIn wsX7_findSoonest wsX3_become := goodIn_r _ [10, 11, 12, 13, 14, 15, 16, 17, 18, 19, 20, 21, 22, 23, 24, 25, 26, 120, 121, 122, 123, 124, 125, 126, 127, 128, 129, 130, 131] (by decide +kernel) (by decide +kernel)
set_option maxRecDepth 20000 in
theorem gX7_findSoonest_X3_become : GoodIn wsX7_findSoonest (wsV RX7 25 RX3 yX3_become wsX3_become) := goodIn_app (goodIn_of _ (by decide +kernel)) ggX7_findSoonest_X3_become
set_option maxRecDepth 20000 in
theorem ggX7_findSoonest_X1_become : GoodIn wsX7_findSoonest wsX1_become := goodIn_r _ [31, 32, 33, 34, 35, 36, 37, 38, 39, 40, 41, 21, 22, 23, 42, 132, 133, 134, 135, 136, 137, 138, 139, 140, 141] (by decide +kernel) (by decide +kernel)
set_option maxRecDepth 20000 in
theorem gX7_findSoonest_X1_become : GoodIn wsX7_findSoonest (wsV RX7 60 RX1 yX1_become wsX1_become) := goodIn_app (goodIn_of _ (by decide +kernel)) ggX7_findSoonest_X1_become
set_option maxRecDepth 20000 in
theorem ggX7_findSoonest_X7_daysTillKnown : GoodIn wsX7_findSoonest wsX7_daysTillKnown := goodIn_r _ [47, 5, 1, 2, 48, 49, 50, 30, 51, 40, 52, 53, 54, 46, 55, 56, 57, 58, 59, 60, 61, 62, 9, 63, 14, 13, 64, 65, 66, 67, 68, 69, 70, 71, 34, 32, 33, 72, 73, 74, 75, 76, 77, 78, 79, 80, 81, 82, 83, 35, 84, 36, 85, 86, 87, 88, 37, 89, 90, 91, 92, 93, 94, 95, 96, 42, 39, 38, 97, 98, 99, 100, 101, 102, 103, 104, 105, 106, 107, 108, 17, 19, 109, 110, 111, 112, 113, 114, 115, 116, 117, 118, 119, 132, 133, 134, 135, 136, 137, 138, 139, 140, 141, 120, 121, 122, 123, 124, 125, 126, 127, 128, 129, 130, 131] (by decide +kernel) (by decide +kernel)
set_option maxRecDepth 20000 in
theorem gX7_findSoonest_X7_daysTillKnown : GoodIn wsX7_findSoonest (wsV RX7 63 RX7 yX7_daysTillKnown wsX7_daysTillKnown) := goodIn_app (goodIn_of _ (by decide +kernel)) ggX7_findSoonest_X7_daysTillKnown
theorem dX7_findSoonest_0 : decode cX7_findSoonest 0 = .ok (.aload_n 0, 1) := by decide +kernel
theorem dX7_findSoonest_1 : decode cX7_findSoonest 1 = .ok (.getfield 12, 3) := by decide +kernel
theorem dX7_findSoonest_4 : decode cX7_findSoonest 4 = .ok (.aload_n 1, 1) := by decide +kernel
theorem dX7_findSoonest_5 : decode cX7_findSoonest 5 = .ok (.invokevirtual 25, 3) := by decide +kernel
theorem dX7_findSoonest_8 : decode cX7_findSoonest 8 = .ok (.aload_n 0, 1) := by decide +kernel
theorem dX7_findSoonest_9 : decode cX7_findSoonest 9 = .ok (.ldc 49, 2) := by decide +kernel
theorem dX7_findSoonest_11 : decode cX7_findSoonest 11 = .ok (.putfield 50, 3) := by decide +kernel
theorem dX7_findSoonest_14 : decode cX7_findSoonest 14 = .ok (.aload_n 0, 1) := by decide +kernel
theorem dX7_findSoonest_15 : decode cX7_findSoonest 15 = .ok (.ldc 49, 2) := by decide +kernel
theorem dX7_findSoonest_17 : decode cX7_findSoonest 17 = .ok (.putfield 53, 3) := by decide +kernel
theorem dX7_findSoonest_20 : decode cX7_findSoonest 20 = .ok (.iconst 1, 1) := by decide +kernel
theorem dX7_findSoonest_21 : decode cX7_findSoonest 21 = .ok (.istore 6, 2) := by decide +kernel
theorem dX7_findSoonest_23 : decode cX7_findSoonest 23 = .ok (.iload 6, 2) := by decide +kernel
theorem dX7_findSoonest_25 : decode cX7_findSoonest 25 = .ok (.bipush 9, 2) := by decide +kernel
theorem dX7_findSoonest_27 : decode cX7_findSoonest 27 = .ok (.if_icmp .gt 76, 3) := by decide +kernel
theorem dX7_findSoonest_30 : decode cX7_findSoonest 30 = .ok (.aload_n 0, 1) := by decide +kernel
theorem dX7_findSoonest_31 : decode cX7_findSoonest 31 = .ok (.getfield 12, 3) := by decide +kernel
theorem dX7_findSoonest_34 : decode cX7_findSoonest 34 = .ok (.getfield 56, 3) := by decide +kernel
theorem dX7_findSoonest_37 : decode cX7_findSoonest 37 = .ok (.iload_n 3, 1) := by decide +kernel
theorem dX7_findSoonest_38 : decode cX7_findSoonest 38 = .ok (.iload 6, 2) := by decide +kernel
theorem dX7_findSoonest_40 : decode cX7_findSoonest 40 = .ok (.iastore, 1) := by decide +kernel
theorem dX7_findSoonest_41 : decode cX7_findSoonest 41 = .ok (.aload_n 0, 1) := by decide +kernel
theorem dX7_findSoonest_42 : decode cX7_findSoonest 42 = .ok (.getfield 21, 3) := by decide +kernel
theorem dX7_findSoonest_45 : decode cX7_findSoonest 45 = .ok (.aload_n 2, 1) := by decide +kernel
theorem dX7_findSoonest_46 : decode cX7_findSoonest 46 = .ok (.invokevirtual 60, 3) := by decide +kernel
theorem dX7_findSoonest_49 : decode cX7_findSoonest 49 = .ok (.aload_n 0, 1) := by decide +kernel
theorem dX7_findSoonest_50 : decode cX7_findSoonest 50 = .ok (.iload_n 3, 1) := by decide +kernel
theorem dX7_findSoonest_51 : decode cX7_findSoonest 51 = .ok (.iload 4, 2) := by decide +kernel
theorem dX7_findSoonest_53 : decode cX7_findSoonest 53 = .ok (.iload 5, 2) := by decide +kernel
theorem dX7_findSoonest_55 : decode cX7_findSoonest 55 = .ok (.invokevirtual 63, 3) := by decide +kernel
theorem dX7_findSoonest_58 : decode cX7_findSoonest 58 = .ok (.istore 7, 2) := by decide +kernel
theorem dX7_findSoonest_60 : decode cX7_findSoonest 60 = .ok (.iload 7, 2) := by decide +kernel
theorem dX7_findSoonest_62 : decode cX7_findSoonest 62 = .ok (.ldc 49, 2) := by decide +kernel
theorem dX7_findSoonest_64 : decode cX7_findSoonest 64 = .ok (.if_icmp .eq 33, 3) := by decide +kernel
theorem dX7_findSoonest_67 : decode cX7_findSoonest 67 = .ok (.aload_n 0, 1) := by decide +kernel
theorem dX7_findSoonest_68 : decode cX7_findSoonest 68 = .ok (.getfield 53, 3) := by decide +kernel
theorem dX7_findSoonest_71 : decode cX7_findSoonest 71 = .ok (.ldc 49, 2) := by decide +kernel
theorem dX7_findSoonest_73 : decode cX7_findSoonest 73 = .ok (.if_icmp .eq 12, 3) := by decide +kernel
theorem dX7_findSoonest_76 : decode cX7_findSoonest 76 = .ok (.iload 7, 2) := by decide +kernel
theorem dX7_findSoonest_78 : decode cX7_findSoonest 78 = .ok (.aload_n 0, 1) := by decide +kernel
theorem dX7_findSoonest_79 : decode cX7_findSoonest 79 = .ok (.getfield 53, 3) := by decide +kernel
theorem dX7_findSoonest_82 : decode cX7_findSoonest 82 = .ok (.if_icmp .ge 15, 3) := by decide +kernel
theorem dX7_findSoonest_85 : decode cX7_findSoonest 85 = .ok (.aload_n 0, 1) := by decide +kernel
theorem dX7_findSoonest_86 : decode cX7_findSoonest 86 = .ok (.iload 6, 2) := by decide +kernel
theorem dX7_findSoonest_88 : decode cX7_findSoonest 88 = .ok (.putfield 50, 3) := by decide +kernel
theorem dX7_findSoonest_91 : decode cX7_findSoonest 91 = .ok (.aload_n 0, 1) := by decide +kernel
theorem dX7_findSoonest_92 : decode cX7_findSoonest 92 = .ok (.iload 7, 2) := by decide +kernel
theorem dX7_findSoonest_94 : decode cX7_findSoonest 94 = .ok (.putfield 53, 3) := by decide +kernel
theorem dX7_findSoonest_97 : decode cX7_findSoonest 97 = .ok (.iinc 6 1, 3) := by decide +kernel
theorem dX7_findSoonest_100 : decode cX7_findSoonest 100 = .ok (.goto (-77), 3) := by decide +kernel
theorem dX7_findSoonest_103 : decode cX7_findSoonest 103 = .ok (.return_, 1) := by decide +kernel
set_option maxRecDepth 20000 in
theorem ggX7_foretellHabit_X1_become : GoodIn wsX7_foretellHabit wsX1_become := goodIn_r _ [11, 12, 13, 14, 15, 16, 17, 18, 19, 20, 21, 22, 23, 24, 25, 117, 118, 119, 120, 121, 122, 123, 124, 125, 126] (by decide +kernel) (by decide +kernel)
set_option maxRecDepth 20000 in
theorem gX7_foretellHabit_X1_become : GoodIn wsX7_foretellHabit (wsV RX7 60 RX1 yX1_become wsX1_become) := goodIn_app (goodIn_of _ (by decide +kernel)) ggX7_foretellHabit_X1_become
set_option maxRecDepth 20000 in
theorem ggX7_foretellHabit_X7_endOfNight : GoodIn wsX7_foretellHabit wsX7_endOfNight := goodIn_r _ [30, 1, 4, 5, 31, 32, 33, 29, 34, 35, 36, 37, 38, 39, 40, 41, 42, 43, 44, 45, 46, 47, 48, 49, 50, 51, 52, 10, 53, 14, 12, 20, 13, 54, 55, 56, 57, 58, 59, 60, 61, 62, 63, 64, 65, 66, 107, 108, 109, 110, 111, 112, 113, 114, 115, 116, 117, 118, 119, 120, 121, 122, 123, 124, 125, 126, 127, 128, 129, 130, 131, 132, 133, 134, 135, 136, 137, 138] (by decide +kernel) (by decide +kernel)
set_option maxRecDepth 20000 in
theorem gX7_foretellHabit_X7_endOfNight : GoodIn wsX7_foretellHabit (wsV RX7 71 RX7 yX7_endOfNight wsX7_endOfNight) := goodIn_app (goodIn_of _ (by decide +kernel)) ggX7_foretellHabit_X7_endOfNight
set_option maxRecDepth 20000 in
theorem ggX7_foretellHabit_X7_endOfDay : GoodIn wsX7_foretellHabit wsX7_endOfDay := goodIn_r _ [70, 1, 4, 71, 72, 73, 29, 74, 35, 36, 37, 38, 75, 76, 77, 10, 78, 15, 14, 79, 16, 80, 81, 82, 83, 17, 84, 85, 86, 87, 88, 89, 90, 91, 12, 25, 20, 19, 18, 13, 57, 48, 42, 49, 92, 93, 94, 95, 96, 97, 98, 99, 100, 101, 102, 103, 104, 105, 106, 26, 27, 28, 30, 5, 31, 32, 33, 34, 39, 40, 41, 43, 44, 45, 46, 47, 50, 51, 52, 53, 54, 55, 56, 58, 59, 60, 61, 62, 63, 64, 65, 66, 107, 108, 109, 110, 111, 112, 113, 114, 115, 116, 117, 118, 119, 120, 121, 122, 123, 124, 125, 126, 127, 128, 129, 130, 131, 132, 133, 134, 135, 136, 137, 138] (by decide +kernel) (by decide +kernel)
set_option maxRecDepth 20000 in
theorem gX7_foretellHabit_X7_endOfDay : GoodIn wsX7_foretellHabit (wsV RX7 78 RX7 yX7_endOfDay wsX7_endOfDay) := goodIn_app (goodIn_of _ (by decide +kernel)) ggX7_foretellHabit_X7_endOfDay
set_option maxRecDepth 20000 in
theorem ggX7_foretellHabit_X1_firstWhoKnows : GoodIn wsX7_foretellHabit wsX1_firstWhoKnows := goodIn_r _ [61, 62, 63, 64, 65, 10, 66, 20, 127, 128, 129, 130, 131, 132, 133, 134, 135, 136, 137, 138, 117, 118, 119, 120, 121, 122, 123, 124, 125, 126] (by decide +kernel) (by decide +kernel)
set_option maxRecDepth 20000 in
theorem gX7_foretellHabit_X1_firstWhoKnows : GoodIn wsX7_foretellHabit (wsV RX7 82 RX1 yX1_firstWhoKnows wsX1_firstWhoKnows) := goodIn_app (goodIn_of _ (by decide +kernel)) ggX7_foretellHabit_X1_firstWhoKnows
theorem dX7_foretellHabit_0 : decode cX7_foretellHabit 0 = .ok (.aload_n 0, 1) := by decide +kernel
theorem dX7_foretellHabit_1 : decode cX7_foretellHabit 1 = .ok (.getfield 21, 3) := by decide +kernel
theorem dX7_foretellHabit_4 : decode cX7_foretellHabit 4 = .ok (.aload_n 1, 1) := by decide +kernel
theorem dX7_foretellHabit_5 : decode cX7_foretellHabit 5 = .ok (.invokevirtual 60, 3) := by decide +kernel
theorem dX7_foretellHabit_8 : decode cX7_foretellHabit 8 = .ok (.aload_n 0, 1) := by decide +kernel
theorem dX7_foretellHabit_9 : decode cX7_foretellHabit 9 = .ok (.iconst 0, 1) := by decide +kernel
theorem dX7_foretellHabit_10 : decode cX7_foretellHabit 10 = .ok (.putfield 40, 3) := by decide +kernel
theorem dX7_foretellHabit_13 : decode cX7_foretellHabit 13 = .ok (.aload_n 0, 1) := by decide +kernel
theorem dX7_foretellHabit_14 : decode cX7_foretellHabit 14 = .ok (.aload_n 0, 1) := by decide +kernel
theorem dX7_foretellHabit_15 : decode cX7_foretellHabit 15 = .ok (.getfield 21, 3) := by decide +kernel
theorem dX7_foretellHabit_18 : decode cX7_foretellHabit 18 = .ok (.getfield 67, 3) := by decide +kernel
theorem dX7_foretellHabit_21 : decode cX7_foretellHabit 21 = .ok (.ifCond .eq 11, 3) := by decide +kernel
theorem dX7_foretellHabit_24 : decode cX7_foretellHabit 24 = .ok (.aload_n 0, 1) := by decide +kernel
theorem dX7_foretellHabit_25 : decode cX7_foretellHabit 25 = .ok (.iload_n 3, 1) := by decide +kernel
theorem dX7_foretellHabit_26 : decode cX7_foretellHabit 26 = .ok (.invokevirtual 71, 3) := by decide +kernel
theorem dX7_foretellHabit_29 : decode cX7_foretellHabit 29 = .ok (.goto 4, 3) := by decide +kernel
theorem dX7_foretellHabit_32 : decode cX7_foretellHabit 32 = .ok (.iconst 0, 1) := by decide +kernel
theorem dX7_foretellHabit_33 : decode cX7_foretellHabit 33 = .ok (.putfield 75, 3) := by decide +kernel
theorem dX7_foretellHabit_36 : decode cX7_foretellHabit 36 = .ok (.iconst 0, 1) := by decide +kernel
theorem dX7_foretellHabit_37 : decode cX7_foretellHabit 37 = .ok (.istore 4, 2) := by decide +kernel
theorem dX7_foretellHabit_39 : decode cX7_foretellHabit 39 = .ok (.iload 4, 2) := by decide +kernel
theorem dX7_foretellHabit_41 : decode cX7_foretellHabit 41 = .ok (.sipush 200, 3) := by decide +kernel
theorem dX7_foretellHabit_44 : decode cX7_foretellHabit 44 = .ok (.if_icmp .ge 43, 3) := by decide +kernel
theorem dX7_foretellHabit_47 : decode cX7_foretellHabit 47 = .ok (.aload_n 0, 1) := by decide +kernel
theorem dX7_foretellHabit_48 : decode cX7_foretellHabit 48 = .ok (.getfield 75, 3) := by decide +kernel
theorem dX7_foretellHabit_51 : decode cX7_foretellHabit 51 = .ok (.ifCond .ne 36, 3) := by decide +kernel
theorem dX7_foretellHabit_54 : decode cX7_foretellHabit 54 = .ok (.aload_n 0, 1) := by decide +kernel
theorem dX7_foretellHabit_55 : decode cX7_foretellHabit 55 = .ok (.aload_n 0, 1) := by decide +kernel
theorem dX7_foretellHabit_56 : decode cX7_foretellHabit 56 = .ok (.iload_n 2, 1) := by decide +kernel
theorem dX7_foretellHabit_57 : decode cX7_foretellHabit 57 = .ok (.iload_n 3, 1) := by decide +kernel
theorem dX7_foretellHabit_58 : decode cX7_foretellHabit 58 = .ok (.invokevirtual 78, 3) := by decide +kernel
theorem dX7_foretellHabit_61 : decode cX7_foretellHabit 61 = .ok (.putfield 75, 3) := by decide +kernel
theorem dX7_foretellHabit_64 : decode cX7_foretellHabit 64 = .ok (.aload_n 0, 1) := by decide +kernel
theorem dX7_foretellHabit_65 : decode cX7_foretellHabit 65 = .ok (.getfield 75, 3) := by decide +kernel
theorem dX7_foretellHabit_68 : decode cX7_foretellHabit 68 = .ok (.ifCond .ne 13, 3) := by decide +kernel
theorem dX7_foretellHabit_71 : decode cX7_foretellHabit 71 = .ok (.aload_n 0, 1) := by decide +kernel
theorem dX7_foretellHabit_72 : decode cX7_foretellHabit 72 = .ok (.dup, 1) := by decide +kernel
theorem dX7_foretellHabit_73 : decode cX7_foretellHabit 73 = .ok (.getfield 40, 3) := by decide +kernel
theorem dX7_foretellHabit_76 : decode cX7_foretellHabit 76 = .ok (.iconst 1, 1) := by decide +kernel
theorem dX7_foretellHabit_77 : decode cX7_foretellHabit 77 = .ok (.iadd, 1) := by decide +kernel
theorem dX7_foretellHabit_78 : decode cX7_foretellHabit 78 = .ok (.putfield 40, 3) := by decide +kernel
theorem dX7_foretellHabit_81 : decode cX7_foretellHabit 81 = .ok (.iinc 4 1, 3) := by decide +kernel
theorem dX7_foretellHabit_84 : decode cX7_foretellHabit 84 = .ok (.goto (-45), 3) := by decide +kernel
theorem dX7_foretellHabit_87 : decode cX7_foretellHabit 87 = .ok (.aload_n 0, 1) := by decide +kernel
theorem dX7_foretellHabit_88 : decode cX7_foretellHabit 88 = .ok (.aload_n 0, 1) := by decide +kernel
theorem dX7_foretellHabit_89 : decode cX7_foretellHabit 89 = .ok (.getfield 75, 3) := by decide +kernel
theorem dX7_foretellHabit_92 : decode cX7_foretellHabit 92 = .ok (.iconst 4, 1) := by decide +kernel
theorem dX7_foretellHabit_93 : decode cX7_foretellHabit 93 = .ok (.if_icmp .ne 17, 3) := by decide +kernel
theorem dX7_foretellHabit_96 : decode cX7_foretellHabit 96 = .ok (.aload_n 0, 1) := by decide +kernel
theorem dX7_foretellHabit_97 : decode cX7_foretellHabit 97 = .ok (.getfield 21, 3) := by decide +kernel
theorem dX7_foretellHabit_100 : decode cX7_foretellHabit 100 = .ok (.aload_n 0, 1) := by decide +kernel
theorem dX7_foretellHabit_101 : decode cX7_foretellHabit 101 = .ok (.getfield 12, 3) := by decide +kernel
theorem dX7_foretellHabit_104 : decode cX7_foretellHabit 104 = .ok (.invokevirtual 82, 3) := by decide +kernel
theorem dX7_foretellHabit_107 : decode cX7_foretellHabit 107 = .ok (.goto 5, 3) := by decide +kernel
theorem dX7_foretellHabit_110 : decode cX7_foretellHabit 110 = .ok (.ldc 49, 2) := by decide +kernel
theorem dX7_foretellHabit_112 : decode cX7_foretellHabit 112 = .ok (.putfield 86, 3) := by decide +kernel
theorem dX7_foretellHabit_115 : decode cX7_foretellHabit 115 = .ok (.return_, 1) := by decide +kernel
set_option maxRecDepth 20000 in
theorem ggX7_endOfDay_X7_weaves : GoodIn wsX7_endOfDay wsX7_weaves := goodIn_r _ [7, 2, 1, 8, 9, 10, 11, 12, 13, 14, 15, 16, 17, 18, 19, 20, 21, 22, 23, 24, 25, 26, 27, 28, 29, 92, 93, 94, 95, 96, 97, 98, 99, 100, 101, 112, 113, 114, 115, 116, 117, 118, 119, 120, 121, 122, 123, 102, 103, 104, 105, 106, 107, 108, 109, 110, 111] (by decide +kernel) (by decide +kernel)
set_option maxRecDepth 20000 in
theorem gX7_endOfDay_X7_weaves : GoodIn wsX7_endOfDay (wsV RX7 89 RX7 yX7_weaves wsX7_weaves) := goodIn_app (goodIn_of _ (by decide +kernel)) ggX7_endOfDay_X7_weaves
set_option maxRecDepth 20000 in
theorem ggX7_endOfDay_X1_passEvening : GoodIn wsX7_endOfDay wsX1_passEvening := goodIn_r _ [33, 34, 35, 36, 18, 37, 38, 39, 40, 41, 42, 43, 44, 45, 46, 15, 47, 48, 49, 50, 51, 52, 53, 54, 55, 56, 57, 58, 112, 113, 114, 115, 116, 117, 118, 119, 120, 121, 122, 123, 102, 103, 104, 105, 106, 107, 108, 109, 110, 111] (by decide +kernel) (by decide +kernel)
set_option maxRecDepth 20000 in
theorem gX7_endOfDay_X1_passEvening : GoodIn wsX7_endOfDay (wsV RX7 102 RX1 yX1_passEvening wsX1_passEvening) := goodIn_app (goodIn_of _ (by decide +kernel)) ggX7_endOfDay_X1_passEvening
set_option maxRecDepth 20000 in
theorem ggX7_endOfDay_X7_endOfNight : GoodIn wsX7_endOfDay wsX7_endOfNight := goodIn_r _ [62, 1, 2, 63, 64, 65, 66, 6, 67, 8, 9, 10, 11, 68, 69, 70, 42, 71, 72, 73, 74, 75, 41, 43, 76, 77, 78, 15, 79, 18, 34, 36, 39, 80, 81, 82, 40, 83, 84, 85, 86, 87, 88, 89, 90, 91, 92, 93, 94, 95, 96, 97, 98, 99, 100, 101, 102, 103, 104, 105, 106, 107, 108, 109, 110, 111, 112, 113, 114, 115, 116, 117, 118, 119, 120, 121, 122, 123] (by decide +kernel) (by decide +kernel)
set_option maxRecDepth 20000 in
theorem gX7_endOfDay_X7_endOfNight : GoodIn wsX7_endOfDay (wsV RX7 71 RX7 yX7_endOfNight wsX7_endOfNight) := goodIn_app (goodIn_of _ (by decide +kernel)) ggX7_endOfDay_X7_endOfNight
theorem dX7_endOfDay_0 : decode cX7_endOfDay 0 = .ok (.aload_n 0, 1) := by decide +kernel
theorem dX7_endOfDay_1 : decode cX7_endOfDay 1 = .ok (.iload_n 1, 1) := by decide +kernel
theorem dX7_endOfDay_2 : decode cX7_endOfDay 2 = .ok (.invokevirtual 89, 3) := by decide +kernel
theorem dX7_endOfDay_5 : decode cX7_endOfDay 5 = .ok (.ifCond .ne 5, 3) := by decide +kernel
theorem dX7_endOfDay_8 : decode cX7_endOfDay 8 = .ok (.iconst 1, 1) := by decide +kernel
theorem dX7_endOfDay_9 : decode cX7_endOfDay 9 = .ok (.ireturn, 1) := by decide +kernel
theorem dX7_endOfDay_10 : decode cX7_endOfDay 10 = .ok (.aload_n 0, 1) := by decide +kernel
theorem dX7_endOfDay_11 : decode cX7_endOfDay 11 = .ok (.getfield 21, 3) := by decide +kernel
theorem dX7_endOfDay_14 : decode cX7_endOfDay 14 = .ok (.getfield 93, 3) := by decide +kernel
theorem dX7_endOfDay_17 : decode cX7_endOfDay 17 = .ok (.aload_n 0, 1) := by decide +kernel
theorem dX7_endOfDay_18 : decode cX7_endOfDay 18 = .ok (.getfield 12, 3) := by decide +kernel
theorem dX7_endOfDay_21 : decode cX7_endOfDay 21 = .ok (.getfield 96, 3) := by decide +kernel
theorem dX7_endOfDay_24 : decode cX7_endOfDay 24 = .ok (.if_icmp .ne 5, 3) := by decide +kernel
theorem dX7_endOfDay_27 : decode cX7_endOfDay 27 = .ok (.iconst 2, 1) := by decide +kernel
theorem dX7_endOfDay_28 : decode cX7_endOfDay 28 = .ok (.ireturn, 1) := by decide +kernel
theorem dX7_endOfDay_29 : decode cX7_endOfDay 29 = .ok (.aload_n 0, 1) := by decide +kernel
theorem dX7_endOfDay_30 : decode cX7_endOfDay 30 = .ok (.getfield 21, 3) := by decide +kernel
theorem dX7_endOfDay_33 : decode cX7_endOfDay 33 = .ok (.getfield 99, 3) := by decide +kernel
theorem dX7_endOfDay_36 : decode cX7_endOfDay 36 = .ok (.istore_n 3, 1) := by decide +kernel
theorem dX7_endOfDay_37 : decode cX7_endOfDay 37 = .ok (.aload_n 0, 1) := by decide +kernel
theorem dX7_endOfDay_38 : decode cX7_endOfDay 38 = .ok (.getfield 21, 3) := by decide +kernel
theorem dX7_endOfDay_41 : decode cX7_endOfDay 41 = .ok (.aload_n 0, 1) := by decide +kernel
theorem dX7_endOfDay_42 : decode cX7_endOfDay 42 = .ok (.getfield 12, 3) := by decide +kernel
theorem dX7_endOfDay_45 : decode cX7_endOfDay 45 = .ok (.invokevirtual 102, 3) := by decide +kernel
theorem dX7_endOfDay_48 : decode cX7_endOfDay 48 = .ok (.aload_n 0, 1) := by decide +kernel
theorem dX7_endOfDay_49 : decode cX7_endOfDay 49 = .ok (.getfield 21, 3) := by decide +kernel
theorem dX7_endOfDay_52 : decode cX7_endOfDay 52 = .ok (.getfield 99, 3) := by decide +kernel
theorem dX7_endOfDay_55 : decode cX7_endOfDay 55 = .ok (.iload_n 3, 1) := by decide +kernel
theorem dX7_endOfDay_56 : decode cX7_endOfDay 56 = .ok (.if_icmp .le 5, 3) := by decide +kernel
theorem dX7_endOfDay_59 : decode cX7_endOfDay 59 = .ok (.iconst 3, 1) := by decide +kernel
theorem dX7_endOfDay_60 : decode cX7_endOfDay 60 = .ok (.ireturn, 1) := by decide +kernel
theorem dX7_endOfDay_61 : decode cX7_endOfDay 61 = .ok (.aload_n 0, 1) := by decide +kernel
theorem dX7_endOfDay_62 : decode cX7_endOfDay 62 = .ok (.iload_n 2, 1) := by decide +kernel
theorem dX7_endOfDay_63 : decode cX7_endOfDay 63 = .ok (.invokevirtual 71, 3) := by decide +kernel
theorem dX7_endOfDay_66 : decode cX7_endOfDay 66 = .ok (.ireturn, 1) := by decide +kernel
set_option maxRecDepth 20000 in
theorem ggX7_endOfNight_X7_undoes : GoodIn wsX7_endOfNight wsX7_undoes := goodIn_r _ [8, 1, 2, 9, 10, 11, 12, 13, 14, 15, 16, 17, 18, 19, 20, 21, 22, 23, 24, 25, 26, 27, 28, 29, 30, 31, 32, 33, 34, 35, 36, 46, 47, 48, 49, 50, 51, 52, 53, 54, 55, 56, 57, 58, 59, 60, 61, 62, 63, 64, 65, 66, 67, 68, 69, 70, 71, 72, 73, 74, 75, 76, 77] (by decide +kernel) (by decide +kernel)
set_option maxRecDepth 20000 in
theorem gX7_endOfNight_X7_undoes : GoodIn wsX7_endOfNight (wsV RX7 105 RX7 yX7_undoes wsX7_undoes) := goodIn_app (goodIn_of _ (by decide +kernel)) ggX7_endOfNight_X7_undoes
set_option maxRecDepth 20000 in
theorem ggX7_endOfNight_X1_firstWhoKnows : GoodIn wsX7_endOfNight wsX1_firstWhoKnows := goodIn_r _ [40, 41, 42, 43, 44, 27, 45, 31, 66, 67, 68, 69, 70, 71, 72, 73, 74, 75, 76, 77, 56, 57, 58, 59, 60, 61, 62, 63, 64, 65] (by decide +kernel) (by decide +kernel)
set_option maxRecDepth 20000 in
theorem gX7_endOfNight_X1_firstWhoKnows : GoodIn wsX7_endOfNight (wsV RX7 82 RX1 yX1_firstWhoKnows wsX1_firstWhoKnows) := goodIn_app (goodIn_of _ (by decide +kernel)) ggX7_endOfNight_X1_firstWhoKnows
theorem dX7_endOfNight_0 : decode cX7_endOfNight 0 = .ok (.aload_n 0, 1) := by decide +kernel
theorem dX7_endOfNight_1 : decode cX7_endOfNight 1 = .ok (.iload_n 1, 1) := by decide +kernel
theorem dX7_endOfNight_2 : decode cX7_endOfNight 2 = .ok (.invokevirtual 105, 3) := by decide +kernel
theorem dX7_endOfNight_5 : decode cX7_endOfNight 5 = .ok (.aload_n 0, 1) := by decide +kernel
theorem dX7_endOfNight_6 : decode cX7_endOfNight 6 = .ok (.getfield 21, 3) := by decide +kernel
theorem dX7_endOfNight_9 : decode cX7_endOfNight 9 = .ok (.aload_n 0, 1) := by decide +kernel
theorem dX7_endOfNight_10 : decode cX7_endOfNight 10 = .ok (.getfield 12, 3) := by decide +kernel
theorem dX7_endOfNight_13 : decode cX7_endOfNight 13 = .ok (.invokevirtual 82, 3) := by decide +kernel
theorem dX7_endOfNight_16 : decode cX7_endOfNight 16 = .ok (.ldc 49, 2) := by decide +kernel
theorem dX7_endOfNight_18 : decode cX7_endOfNight 18 = .ok (.if_icmp .ne 7, 3) := by decide +kernel
theorem dX7_endOfNight_21 : decode cX7_endOfNight 21 = .ok (.iconst 0, 1) := by decide +kernel
theorem dX7_endOfNight_22 : decode cX7_endOfNight 22 = .ok (.goto 4, 3) := by decide +kernel
theorem dX7_endOfNight_25 : decode cX7_endOfNight 25 = .ok (.iconst 4, 1) := by decide +kernel
theorem dX7_endOfNight_26 : decode cX7_endOfNight 26 = .ok (.ireturn, 1) := by decide +kernel
set_option maxRecDepth 20000 in
theorem ggX7_daysTillKnown_X1_knows : GoodIn wsX7_daysTillKnown wsX1_knows := goodIn_r _ [8, 9, 93, 94, 95, 96, 97, 98, 99, 100, 101, 102, 103, 104, 105, 106, 107, 108, 109, 110, 111, 112, 113, 114] (by decide +kernel) (by decide +kernel)
set_option maxRecDepth 20000 in
theorem gX7_daysTillKnown_X1_knows : GoodIn wsX7_daysTillKnown (wsV RX7 109 RX1 yX1_knows wsX1_knows) := goodIn_app (goodIn_of _ (by decide +kernel)) ggX7_daysTillKnown_X1_knows
set_option maxRecDepth 20000 in
theorem ggX7_daysTillKnown_X7_undoes : GoodIn wsX7_daysTillKnown wsX7_undoes := goodIn_r _ [14, 1, 2, 15, 16, 17, 18, 19, 20, 21, 22, 23, 24, 25, 26, 27, 28, 29, 30, 31, 32, 7, 33, 34, 35, 9, 36, 37, 38, 39, 40, 83, 84, 85, 86, 87, 88, 89, 90, 91, 92, 93, 94, 95, 96, 97, 98, 99, 100, 101, 102, 103, 104, 105, 106, 107, 108, 109, 110, 111, 112, 113, 114] (by decide +kernel) (by decide +kernel)
set_option maxRecDepth 20000 in
theorem gX7_daysTillKnown_X7_undoes : GoodIn wsX7_daysTillKnown (wsV RX7 105 RX7 yX7_undoes wsX7_undoes) := goodIn_app (goodIn_of _ (by decide +kernel)) ggX7_daysTillKnown_X7_undoes
set_option maxRecDepth 20000 in
theorem ggX7_daysTillKnown_X7_weaves : GoodIn wsX7_daysTillKnown wsX7_weaves := goodIn_r _ [44, 2, 1, 15, 16, 17, 18, 45, 46, 47, 7, 48, 49, 34, 50, 51, 52, 53, 54, 55, 56, 57, 58, 59, 60, 83, 84, 85, 86, 87, 88, 89, 90, 91, 92, 103, 104, 105, 106, 107, 108, 109, 110, 111, 112, 113, 114, 93, 94, 95, 96, 97, 98, 99, 100, 101, 102] (by decide +kernel) (by decide +kernel)
set_option maxRecDepth 20000 in
theorem gX7_daysTillKnown_X7_weaves : GoodIn wsX7_daysTillKnown (wsV RX7 89 RX7 yX7_weaves wsX7_weaves) := goodIn_app (goodIn_of _ (by decide +kernel)) ggX7_daysTillKnown_X7_weaves
set_option maxRecDepth 20000 in
theorem ggX7_daysTillKnown_X1_passEvening : GoodIn wsX7_daysTillKnown wsX1_passEvening := goodIn_r _ [64, 35, 65, 9, 34, 66, 67, 36, 40, 28, 22, 29, 68, 69, 70, 7, 71, 72, 73, 74, 75, 76, 77, 78, 79, 80, 81, 82, 103, 104, 105, 106, 107, 108, 109, 110, 111, 112, 113, 114, 93, 94, 95, 96, 97, 98, 99, 100, 101, 102] (by decide +kernel) (by decide +kernel)
set_option maxRecDepth 20000 in
theorem gX7_daysTillKnown_X1_passEvening : GoodIn wsX7_daysTillKnown (wsV RX7 102 RX1 yX1_passEvening wsX1_passEvening) := goodIn_app (goodIn_of _ (by decide +kernel)) ggX7_daysTillKnown_X1_passEvening
theorem dX7_daysTillKnown_0 : decode cX7_daysTillKnown 0 = .ok (.aload_n 0, 1) := by decide +kernel
theorem dX7_daysTillKnown_1 : decode cX7_daysTillKnown 1 = .ok (.getfield 21, 3) := by decide +kernel
theorem dX7_daysTillKnown_4 : decode cX7_daysTillKnown 4 = .ok (.aload_n 0, 1) := by decide +kernel
theorem dX7_daysTillKnown_5 : decode cX7_daysTillKnown 5 = .ok (.getfield 12, 3) := by decide +kernel
theorem dX7_daysTillKnown_8 : decode cX7_daysTillKnown 8 = .ok (.iload_n 1, 1) := by decide +kernel
theorem dX7_daysTillKnown_9 : decode cX7_daysTillKnown 9 = .ok (.invokevirtual 109, 3) := by decide +kernel
theorem dX7_daysTillKnown_12 : decode cX7_daysTillKnown 12 = .ok (.ifCond .eq 5, 3) := by decide +kernel
theorem dX7_daysTillKnown_15 : decode cX7_daysTillKnown 15 = .ok (.iconst 0, 1) := by decide +kernel
theorem dX7_daysTillKnown_16 : decode cX7_daysTillKnown 16 = .ok (.ireturn, 1) := by decide +kernel
theorem dX7_daysTillKnown_17 : decode cX7_daysTillKnown 17 = .ok (.aload_n 0, 1) := by decide +kernel
theorem dX7_daysTillKnown_18 : decode cX7_daysTillKnown 18 = .ok (.getfield 21, 3) := by decide +kernel
theorem dX7_daysTillKnown_21 : decode cX7_daysTillKnown 21 = .ok (.getfield 67, 3) := by decide +kernel
theorem dX7_daysTillKnown_24 : decode cX7_daysTillKnown 24 = .ok (.ifCond .eq 25, 3) := by decide +kernel
theorem dX7_daysTillKnown_27 : decode cX7_daysTillKnown 27 = .ok (.aload_n 0, 1) := by decide +kernel
theorem dX7_daysTillKnown_28 : decode cX7_daysTillKnown 28 = .ok (.iload_n 3, 1) := by decide +kernel
theorem dX7_daysTillKnown_29 : decode cX7_daysTillKnown 29 = .ok (.invokevirtual 105, 3) := by decide +kernel
theorem dX7_daysTillKnown_32 : decode cX7_daysTillKnown 32 = .ok (.aload_n 0, 1) := by decide +kernel
theorem dX7_daysTillKnown_33 : decode cX7_daysTillKnown 33 = .ok (.getfield 21, 3) := by decide +kernel
theorem dX7_daysTillKnown_36 : decode cX7_daysTillKnown 36 = .ok (.aload_n 0, 1) := by decide +kernel
theorem dX7_daysTillKnown_37 : decode cX7_daysTillKnown 37 = .ok (.getfield 12, 3) := by decide +kernel
theorem dX7_daysTillKnown_40 : decode cX7_daysTillKnown 40 = .ok (.iload_n 1, 1) := by decide +kernel
theorem dX7_daysTillKnown_41 : decode cX7_daysTillKnown 41 = .ok (.invokevirtual 109, 3) := by decide +kernel
theorem dX7_daysTillKnown_44 : decode cX7_daysTillKnown 44 = .ok (.ifCond .eq 5, 3) := by decide +kernel
theorem dX7_daysTillKnown_47 : decode cX7_daysTillKnown 47 = .ok (.iconst 1, 1) := by decide +kernel
theorem dX7_daysTillKnown_48 : decode cX7_daysTillKnown 48 = .ok (.ireturn, 1) := by decide +kernel
theorem dX7_daysTillKnown_49 : decode cX7_daysTillKnown 49 = .ok (.iconst 1, 1) := by decide +kernel
theorem dX7_daysTillKnown_50 : decode cX7_daysTillKnown 50 = .ok (.istore 4, 2) := by decide +kernel
theorem dX7_daysTillKnown_52 : decode cX7_daysTillKnown 52 = .ok (.iload 4, 2) := by decide +kernel
theorem dX7_daysTillKnown_54 : decode cX7_daysTillKnown 54 = .ok (.sipush 200, 3) := by decide +kernel
theorem dX7_daysTillKnown_57 : decode cX7_daysTillKnown 57 = .ok (.if_icmp .gt 89, 3) := by decide +kernel
theorem dX7_daysTillKnown_60 : decode cX7_daysTillKnown 60 = .ok (.aload_n 0, 1) := by decide +kernel
theorem dX7_daysTillKnown_61 : decode cX7_daysTillKnown 61 = .ok (.iload_n 2, 1) := by decide +kernel
theorem dX7_daysTillKnown_62 : decode cX7_daysTillKnown 62 = .ok (.invokevirtual 89, 3) := by decide +kernel
theorem dX7_daysTillKnown_65 : decode cX7_daysTillKnown 65 = .ok (.ifCond .eq 81, 3) := by decide +kernel
theorem dX7_daysTillKnown_68 : decode cX7_daysTillKnown 68 = .ok (.aload_n 0, 1) := by decide +kernel
theorem dX7_daysTillKnown_69 : decode cX7_daysTillKnown 69 = .ok (.getfield 21, 3) := by decide +kernel
theorem dX7_daysTillKnown_72 : decode cX7_daysTillKnown 72 = .ok (.aload_n 0, 1) := by decide +kernel
theorem dX7_daysTillKnown_73 : decode cX7_daysTillKnown 73 = .ok (.getfield 12, 3) := by decide +kernel
theorem dX7_daysTillKnown_76 : decode cX7_daysTillKnown 76 = .ok (.invokevirtual 102, 3) := by decide +kernel
theorem dX7_daysTillKnown_79 : decode cX7_daysTillKnown 79 = .ok (.aload_n 0, 1) := by decide +kernel
theorem dX7_daysTillKnown_80 : decode cX7_daysTillKnown 80 = .ok (.getfield 21, 3) := by decide +kernel
theorem dX7_daysTillKnown_83 : decode cX7_daysTillKnown 83 = .ok (.aload_n 0, 1) := by decide +kernel
theorem dX7_daysTillKnown_84 : decode cX7_daysTillKnown 84 = .ok (.getfield 12, 3) := by decide +kernel
theorem dX7_daysTillKnown_87 : decode cX7_daysTillKnown 87 = .ok (.iload_n 1, 1) := by decide +kernel
theorem dX7_daysTillKnown_88 : decode cX7_daysTillKnown 88 = .ok (.invokevirtual 109, 3) := by decide +kernel
theorem dX7_daysTillKnown_91 : decode cX7_daysTillKnown 91 = .ok (.ifCond .eq 6, 3) := by decide +kernel
theorem dX7_daysTillKnown_94 : decode cX7_daysTillKnown 94 = .ok (.iload 4, 2) := by decide +kernel
theorem dX7_daysTillKnown_96 : decode cX7_daysTillKnown 96 = .ok (.ireturn, 1) := by decide +kernel
theorem dX7_daysTillKnown_97 : decode cX7_daysTillKnown 97 = .ok (.aload_n 0, 1) := by decide +kernel
theorem dX7_daysTillKnown_98 : decode cX7_daysTillKnown 98 = .ok (.getfield 21, 3) := by decide +kernel
theorem dX7_daysTillKnown_101 : decode cX7_daysTillKnown 101 = .ok (.getfield 93, 3) := by decide +kernel
theorem dX7_daysTillKnown_104 : decode cX7_daysTillKnown 104 = .ok (.aload_n 0, 1) := by decide +kernel
theorem dX7_daysTillKnown_105 : decode cX7_daysTillKnown 105 = .ok (.getfield 12, 3) := by decide +kernel
theorem dX7_daysTillKnown_108 : decode cX7_daysTillKnown 108 = .ok (.getfield 96, 3) := by decide +kernel
theorem dX7_daysTillKnown_111 : decode cX7_daysTillKnown 111 = .ok (.if_icmp .ne 6, 3) := by decide +kernel
theorem dX7_daysTillKnown_114 : decode cX7_daysTillKnown 114 = .ok (.ldc 49, 2) := by decide +kernel
theorem dX7_daysTillKnown_116 : decode cX7_daysTillKnown 116 = .ok (.ireturn, 1) := by decide +kernel
theorem dX7_daysTillKnown_117 : decode cX7_daysTillKnown 117 = .ok (.aload_n 0, 1) := by decide +kernel
theorem dX7_daysTillKnown_118 : decode cX7_daysTillKnown 118 = .ok (.iload_n 3, 1) := by decide +kernel
theorem dX7_daysTillKnown_119 : decode cX7_daysTillKnown 119 = .ok (.invokevirtual 105, 3) := by decide +kernel
theorem dX7_daysTillKnown_122 : decode cX7_daysTillKnown 122 = .ok (.aload_n 0, 1) := by decide +kernel
theorem dX7_daysTillKnown_123 : decode cX7_daysTillKnown 123 = .ok (.getfield 21, 3) := by decide +kernel
theorem dX7_daysTillKnown_126 : decode cX7_daysTillKnown 126 = .ok (.aload_n 0, 1) := by decide +kernel
theorem dX7_daysTillKnown_127 : decode cX7_daysTillKnown 127 = .ok (.getfield 12, 3) := by decide +kernel
theorem dX7_daysTillKnown_130 : decode cX7_daysTillKnown 130 = .ok (.iload_n 1, 1) := by decide +kernel
theorem dX7_daysTillKnown_131 : decode cX7_daysTillKnown 131 = .ok (.invokevirtual 109, 3) := by decide +kernel
theorem dX7_daysTillKnown_134 : decode cX7_daysTillKnown 134 = .ok (.ifCond .eq 6, 3) := by decide +kernel
theorem dX7_daysTillKnown_137 : decode cX7_daysTillKnown 137 = .ok (.iload 4, 2) := by decide +kernel
theorem dX7_daysTillKnown_139 : decode cX7_daysTillKnown 139 = .ok (.ireturn, 1) := by decide +kernel
theorem dX7_daysTillKnown_140 : decode cX7_daysTillKnown 140 = .ok (.iinc 4 1, 3) := by decide +kernel
theorem dX7_daysTillKnown_143 : decode cX7_daysTillKnown 143 = .ok (.goto (-91), 3) := by decide +kernel
theorem dX7_daysTillKnown_146 : decode cX7_daysTillKnown 146 = .ok (.ldc 49, 2) := by decide +kernel
theorem dX7_daysTillKnown_148 : decode cX7_daysTillKnown 148 = .ok (.ireturn, 1) := by decide +kernel
set_option maxRecDepth 20000 in
theorem ggX7_weaves_X1_yarnFor : GoodIn wsX7_weaves wsX1_yarnFor := goodIn_r _ [11, 12, 13, 14, 4, 5, 6, 15, 47, 48, 49, 50, 51, 52, 53, 54, 55, 56] (by decide +kernel) (by decide +kernel)
set_option maxRecDepth 20000 in
theorem gX7_weaves_X1_yarnFor : GoodIn wsX7_weaves (wsV RX7 118 RX1 yX1_yarnFor wsX1_yarnFor) := goodIn_app (goodIn_of _ (by decide +kernel)) ggX7_weaves_X1_yarnFor
set_option maxRecDepth 20000 in
theorem ggX7_weaves_X1_hangMore : GoodIn wsX7_weaves wsX1_hangMore := goodIn_r _ [19, 20, 15, 12, 13, 14, 4, 5, 6, 21, 22, 23, 24, 8, 9, 10, 11, 47, 48, 49, 50, 51, 52, 53, 54, 55, 56] (by decide +kernel) (by decide +kernel)
set_option maxRecDepth 20000 in
theorem gX7_weaves_X1_hangMore : GoodIn wsX7_weaves (wsV RX7 124 RX1 yX1_hangMore wsX1_hangMore) := goodIn_app (goodIn_of _ (by decide +kernel)) ggX7_weaves_X1_hangMore
theorem dX7_weaves_0 : decode cX7_weaves 0 = .ok (.iload_n 1, 1) := by decide +kernel
theorem dX7_weaves_1 : decode cX7_weaves 1 = .ok (.aload_n 0, 1) := by decide +kernel
theorem dX7_weaves_2 : decode cX7_weaves 2 = .ok (.getfield 12, 3) := by decide +kernel
theorem dX7_weaves_5 : decode cX7_weaves 5 = .ok (.getfield 96, 3) := by decide +kernel
theorem dX7_weaves_8 : decode cX7_weaves 8 = .ok (.aload_n 0, 1) := by decide +kernel
theorem dX7_weaves_9 : decode cX7_weaves 9 = .ok (.getfield 21, 3) := by decide +kernel
theorem dX7_weaves_12 : decode cX7_weaves 12 = .ok (.getfield 93, 3) := by decide +kernel
theorem dX7_weaves_15 : decode cX7_weaves 15 = .ok (.isub, 1) := by decide +kernel
theorem dX7_weaves_16 : decode cX7_weaves 16 = .ok (.invokestatic 113, 3) := by decide +kernel
theorem dX7_weaves_19 : decode cX7_weaves 19 = .ok (.istore_n 2, 1) := by decide +kernel
theorem dX7_weaves_20 : decode cX7_weaves 20 = .ok (.aload_n 0, 1) := by decide +kernel
theorem dX7_weaves_21 : decode cX7_weaves 21 = .ok (.getfield 21, 3) := by decide +kernel
theorem dX7_weaves_24 : decode cX7_weaves 24 = .ok (.iload_n 2, 1) := by decide +kernel
theorem dX7_weaves_25 : decode cX7_weaves 25 = .ok (.invokevirtual 118, 3) := by decide +kernel
theorem dX7_weaves_28 : decode cX7_weaves 28 = .ok (.aload_n 0, 1) := by decide +kernel
theorem dX7_weaves_29 : decode cX7_weaves 29 = .ok (.getfield 21, 3) := by decide +kernel
theorem dX7_weaves_32 : decode cX7_weaves 32 = .ok (.getfield 121, 3) := by decide +kernel
theorem dX7_weaves_35 : decode cX7_weaves 35 = .ok (.if_icmp .le 5, 3) := by decide +kernel
theorem dX7_weaves_38 : decode cX7_weaves 38 = .ok (.iconst 0, 1) := by decide +kernel
theorem dX7_weaves_39 : decode cX7_weaves 39 = .ok (.ireturn, 1) := by decide +kernel
theorem dX7_weaves_40 : decode cX7_weaves 40 = .ok (.aload_n 0, 1) := by decide +kernel
theorem dX7_weaves_41 : decode cX7_weaves 41 = .ok (.getfield 21, 3) := by decide +kernel
theorem dX7_weaves_44 : decode cX7_weaves 44 = .ok (.iload_n 2, 1) := by decide +kernel
theorem dX7_weaves_45 : decode cX7_weaves 45 = .ok (.invokevirtual 124, 3) := by decide +kernel
theorem dX7_weaves_48 : decode cX7_weaves 48 = .ok (.iconst 1, 1) := by decide +kernel
theorem dX7_weaves_49 : decode cX7_weaves 49 = .ok (.ireturn, 1) := by decide +kernel
set_option maxRecDepth 20000 in
theorem ggX7_undoes_X3_mostUndone : GoodIn wsX7_undoes wsX3_mostUndone := goodIn_r _ [11, 12, 13, 14, 4, 5, 6, 15, 16, 10, 17, 51, 52, 53, 54, 55, 56, 57, 58, 59, 60, 61, 62] (by decide +kernel) (by decide +kernel)
set_option maxRecDepth 20000 in
theorem gX7_undoes_X3_mostUndone : GoodIn wsX7_undoes (wsV RX7 130 RX3 yX3_mostUndone wsX3_mostUndone) := goodIn_app (goodIn_of _ (by decide +kernel)) ggX7_undoes_X3_mostUndone
set_option maxRecDepth 20000 in
theorem ggX7_undoes_X1_passNight : GoodIn wsX7_undoes wsX1_passNight := goodIn_r _ [22, 23, 24, 25, 26, 27, 28, 21, 29, 30, 16, 10, 17, 41, 42, 43, 44, 45, 46, 47, 48, 49, 50, 51, 52, 53, 54, 55, 56, 57, 58, 59, 60, 61, 62] (by decide +kernel) (by decide +kernel)
set_option maxRecDepth 20000 in
theorem gX7_undoes_X1_passNight : GoodIn wsX7_undoes (wsV RX7 133 RX1 yX1_passNight wsX1_passNight) := goodIn_app (goodIn_of _ (by decide +kernel)) ggX7_undoes_X1_passNight
theorem dX7_undoes_0 : decode cX7_undoes 0 = .ok (.aload_n 0, 1) := by decide +kernel
theorem dX7_undoes_1 : decode cX7_undoes 1 = .ok (.getfield 21, 3) := by decide +kernel
theorem dX7_undoes_4 : decode cX7_undoes 4 = .ok (.aload_n 0, 1) := by decide +kernel
theorem dX7_undoes_5 : decode cX7_undoes 5 = .ok (.getfield 12, 3) := by decide +kernel
theorem dX7_undoes_8 : decode cX7_undoes 8 = .ok (.iload_n 1, 1) := by decide +kernel
theorem dX7_undoes_9 : decode cX7_undoes 9 = .ok (.aload_n 0, 1) := by decide +kernel
theorem dX7_undoes_10 : decode cX7_undoes 10 = .ok (.getfield 12, 3) := by decide +kernel
theorem dX7_undoes_13 : decode cX7_undoes 13 = .ok (.aload_n 0, 1) := by decide +kernel
theorem dX7_undoes_14 : decode cX7_undoes 14 = .ok (.getfield 21, 3) := by decide +kernel
theorem dX7_undoes_17 : decode cX7_undoes 17 = .ok (.getfield 127, 3) := by decide +kernel
theorem dX7_undoes_20 : decode cX7_undoes 20 = .ok (.aload_n 0, 1) := by decide +kernel
theorem dX7_undoes_21 : decode cX7_undoes 21 = .ok (.getfield 21, 3) := by decide +kernel
theorem dX7_undoes_24 : decode cX7_undoes 24 = .ok (.getfield 93, 3) := by decide +kernel
theorem dX7_undoes_27 : decode cX7_undoes 27 = .ok (.invokevirtual 130, 3) := by decide +kernel
theorem dX7_undoes_30 : decode cX7_undoes 30 = .ok (.invokestatic 113, 3) := by decide +kernel
theorem dX7_undoes_33 : decode cX7_undoes 33 = .ok (.invokevirtual 133, 3) := by decide +kernel
theorem dX7_undoes_36 : decode cX7_undoes 36 = .ok (.return_, 1) := by decide +kernel
theorem dX8_init_0 : decode cX8_init 0 = .ok (.aload_n 0, 1) := by decide +kernel
theorem dX8_init_1 : decode cX8_init 1 = .ok (.invokespecial 3, 3) := by decide +kernel
theorem dX8_init_4 : decode cX8_init 4 = .ok (.return_, 1) := by decide +kernel
set_option maxRecDepth 20000 in
theorem ggX8_find_X8_sameFrom : GoodIn wsX8_find wsX8_sameFrom := goodIn_r _ [8, 9, 10, 11, 12, 13, 14, 15, 16, 20, 21, 22, 23, 24, 25, 26, 27, 28, 29, 30, 31] (by decide +kernel) (by decide +kernel)
set_option maxRecDepth 20000 in
theorem gX8_find_X8_sameFrom : GoodIn wsX8_find (va_wsS RX8 27 yX8_sameFrom wsX8_sameFrom) := goodIn_app (goodIn_of _ (by decide +kernel)) ggX8_find_X8_sameFrom
theorem dX8_find_0 : decode cX8_find 0 = .ok (.aload_n 0, 1) := by decide +kernel
theorem dX8_find_1 : decode cX8_find 1 = .ok (.iconst 0, 1) := by decide +kernel
theorem dX8_find_2 : decode cX8_find 2 = .ok (.putfield 9, 3) := by decide +kernel
theorem dX8_find_5 : decode cX8_find 5 = .ok (.aload_n 0, 1) := by decide +kernel
theorem dX8_find_6 : decode cX8_find 6 = .ok (.ldc 15, 2) := by decide +kernel
theorem dX8_find_8 : decode cX8_find 8 = .ok (.putfield 16, 3) := by decide +kernel
theorem dX8_find_11 : decode cX8_find 11 = .ok (.aload_n 0, 1) := by decide +kernel
theorem dX8_find_12 : decode cX8_find 12 = .ok (.ldc 15, 2) := by decide +kernel
theorem dX8_find_14 : decode cX8_find 14 = .ok (.putfield 19, 3) := by decide +kernel
theorem dX8_find_17 : decode cX8_find 17 = .ok (.iconst 0, 1) := by decide +kernel
theorem dX8_find_18 : decode cX8_find 18 = .ok (.istore_n 2, 1) := by decide +kernel
theorem dX8_find_19 : decode cX8_find 19 = .ok (.iload_n 2, 1) := by decide +kernel
theorem dX8_find_20 : decode cX8_find 20 = .ok (.aload_n 1, 1) := by decide +kernel
theorem dX8_find_21 : decode cX8_find 21 = .ok (.getfield 22, 3) := by decide +kernel
theorem dX8_find_24 : decode cX8_find 24 = .ok (.if_icmp .ge 60, 3) := by decide +kernel
theorem dX8_find_27 : decode cX8_find 27 = .ok (.iload_n 2, 1) := by decide +kernel
theorem dX8_find_28 : decode cX8_find 28 = .ok (.iconst 1, 1) := by decide +kernel
theorem dX8_find_29 : decode cX8_find 29 = .ok (.iadd, 1) := by decide +kernel
theorem dX8_find_30 : decode cX8_find 30 = .ok (.istore_n 3, 1) := by decide +kernel
theorem dX8_find_31 : decode cX8_find 31 = .ok (.iload_n 3, 1) := by decide +kernel
theorem dX8_find_32 : decode cX8_find 32 = .ok (.aload_n 1, 1) := by decide +kernel
theorem dX8_find_33 : decode cX8_find 33 = .ok (.getfield 22, 3) := by decide +kernel
theorem dX8_find_36 : decode cX8_find 36 = .ok (.if_icmp .ge 42, 3) := by decide +kernel
theorem dX8_find_39 : decode cX8_find 39 = .ok (.aload_n 1, 1) := by decide +kernel
theorem dX8_find_40 : decode cX8_find 40 = .ok (.iload_n 2, 1) := by decide +kernel
theorem dX8_find_41 : decode cX8_find 41 = .ok (.iload_n 3, 1) := by decide +kernel
theorem dX8_find_42 : decode cX8_find 42 = .ok (.invokestatic 27, 3) := by decide +kernel
theorem dX8_find_45 : decode cX8_find 45 = .ok (.istore 4, 2) := by decide +kernel
theorem dX8_find_47 : decode cX8_find 47 = .ok (.iload 4, 2) := by decide +kernel
theorem dX8_find_49 : decode cX8_find 49 = .ok (.aload_n 0, 1) := by decide +kernel
theorem dX8_find_50 : decode cX8_find 50 = .ok (.getfield 9, 3) := by decide +kernel
theorem dX8_find_53 : decode cX8_find 53 = .ok (.if_icmp .le 19, 3) := by decide +kernel
theorem dX8_find_56 : decode cX8_find 56 = .ok (.aload_n 0, 1) := by decide +kernel
theorem dX8_find_57 : decode cX8_find 57 = .ok (.iload 4, 2) := by decide +kernel
theorem dX8_find_59 : decode cX8_find 59 = .ok (.putfield 9, 3) := by decide +kernel
theorem dX8_find_62 : decode cX8_find 62 = .ok (.aload_n 0, 1) := by decide +kernel
theorem dX8_find_63 : decode cX8_find 63 = .ok (.iload_n 2, 1) := by decide +kernel
theorem dX8_find_64 : decode cX8_find 64 = .ok (.putfield 16, 3) := by decide +kernel
theorem dX8_find_67 : decode cX8_find 67 = .ok (.aload_n 0, 1) := by decide +kernel
theorem dX8_find_68 : decode cX8_find 68 = .ok (.iload_n 3, 1) := by decide +kernel
theorem dX8_find_69 : decode cX8_find 69 = .ok (.putfield 19, 3) := by decide +kernel
theorem dX8_find_72 : decode cX8_find 72 = .ok (.iinc 3 1, 3) := by decide +kernel
theorem dX8_find_75 : decode cX8_find 75 = .ok (.goto (-44), 3) := by decide +kernel
theorem dX8_find_78 : decode cX8_find 78 = .ok (.iinc 2 1, 3) := by decide +kernel
theorem dX8_find_81 : decode cX8_find 81 = .ok (.goto (-62), 3) := by decide +kernel
theorem dX8_find_84 : decode cX8_find 84 = .ok (.return_, 1) := by decide +kernel
set_option maxRecDepth 20000 in
theorem ggX8_sameFrom_X3_colourAt : GoodIn wsX8_sameFrom wsX3_colourAt := goodIn_r _ [5, 6, 7, 8, 9, 10, 11, 12, 13, 14, 15, 16, 17, 18, 19, 20] (by decide +kernel) (by decide +kernel)
set_option maxRecDepth 20000 in
theorem gX8_sameFrom_X3_colourAt : GoodIn wsX8_sameFrom (wsV RX8 31 RX3 yX3_colourAt wsX3_colourAt) := goodIn_app (goodIn_of _ (by decide +kernel)) ggX8_sameFrom_X3_colourAt
theorem dX8_sameFrom_0 : decode cX8_sameFrom 0 = .ok (.iconst 0, 1) := by decide +kernel
theorem dX8_sameFrom_1 : decode cX8_sameFrom 1 = .ok (.istore_n 3, 1) := by decide +kernel
theorem dX8_sameFrom_2 : decode cX8_sameFrom 2 = .ok (.iload_n 2, 1) := by decide +kernel
theorem dX8_sameFrom_3 : decode cX8_sameFrom 3 = .ok (.iload_n 3, 1) := by decide +kernel
theorem dX8_sameFrom_4 : decode cX8_sameFrom 4 = .ok (.iadd, 1) := by decide +kernel
theorem dX8_sameFrom_5 : decode cX8_sameFrom 5 = .ok (.aload_n 0, 1) := by decide +kernel
theorem dX8_sameFrom_6 : decode cX8_sameFrom 6 = .ok (.getfield 22, 3) := by decide +kernel
theorem dX8_sameFrom_9 : decode cX8_sameFrom 9 = .ok (.if_icmp .ge 26, 3) := by decide +kernel
theorem dX8_sameFrom_12 : decode cX8_sameFrom 12 = .ok (.aload_n 0, 1) := by decide +kernel
theorem dX8_sameFrom_13 : decode cX8_sameFrom 13 = .ok (.iload_n 1, 1) := by decide +kernel
theorem dX8_sameFrom_14 : decode cX8_sameFrom 14 = .ok (.iload_n 3, 1) := by decide +kernel
theorem dX8_sameFrom_15 : decode cX8_sameFrom 15 = .ok (.iadd, 1) := by decide +kernel
theorem dX8_sameFrom_16 : decode cX8_sameFrom 16 = .ok (.invokevirtual 31, 3) := by decide +kernel
theorem dX8_sameFrom_19 : decode cX8_sameFrom 19 = .ok (.aload_n 0, 1) := by decide +kernel
theorem dX8_sameFrom_20 : decode cX8_sameFrom 20 = .ok (.iload_n 2, 1) := by decide +kernel
theorem dX8_sameFrom_21 : decode cX8_sameFrom 21 = .ok (.iload_n 3, 1) := by decide +kernel
theorem dX8_sameFrom_22 : decode cX8_sameFrom 22 = .ok (.iadd, 1) := by decide +kernel
theorem dX8_sameFrom_23 : decode cX8_sameFrom 23 = .ok (.invokevirtual 31, 3) := by decide +kernel
theorem dX8_sameFrom_26 : decode cX8_sameFrom 26 = .ok (.if_icmp .ne 9, 3) := by decide +kernel
theorem dX8_sameFrom_29 : decode cX8_sameFrom 29 = .ok (.iinc 3 1, 3) := by decide +kernel
theorem dX8_sameFrom_32 : decode cX8_sameFrom 32 = .ok (.goto (-30), 3) := by decide +kernel
theorem dX8_sameFrom_35 : decode cX8_sameFrom 35 = .ok (.iload_n 3, 1) := by decide +kernel
theorem dX8_sameFrom_36 : decode cX8_sameFrom 36 = .ok (.ireturn, 1) := by decide +kernel
set_option maxRecDepth 20000 in
theorem ggX9_init_X5_init : GoodIn wsX9_init wsX5_init := goodIn_r _ [46, 47, 2, 3, 48, 49, 105, 106, 107, 108, 109, 110, 111] (by decide +kernel) (by decide +kernel)
set_option maxRecDepth 20000 in
theorem gX9_init_X5_init_n17 : GoodIn wsX9_init (wsX5_init) := ggX9_init_X5_init
set_option maxRecDepth 20000 in
theorem ggX9_init_X3_init : GoodIn wsX9_init wsX3_init := goodIn_r _ [51, 52, 2, 3, 48, 53, 54, 55, 56, 112, 113, 114, 115, 116, 117, 118, 119, 120, 121, 122, 123] (by decide +kernel) (by decide +kernel)
set_option maxRecDepth 20000 in
theorem gX9_init_X3_init_n24 : GoodIn wsX9_init (wsX3_init) := ggX9_init_X3_init
set_option maxRecDepth 20000 in
theorem ggX9_init_X1_init : GoodIn wsX9_init wsX1_init := goodIn_r _ [58, 59, 2, 3, 48, 60, 61, 124, 125, 126, 127, 128, 129, 130, 131, 132, 133] (by decide +kernel) (by decide +kernel)
set_option maxRecDepth 20000 in
theorem gX9_init_X1_init_n34 : GoodIn wsX9_init (wsX1_init) := ggX9_init_X1_init
set_option maxRecDepth 20000 in
theorem ggX9_init_X4_init : GoodIn wsX9_init wsX4_init := goodIn_r _ [64, 65, 2, 3, 66, 67, 16, 17, 57, 58, 59, 48, 60, 61, 134, 135, 136, 124, 125, 126, 127, 128, 129, 130, 131, 132, 133] (by decide +kernel) (by decide +kernel)
set_option maxRecDepth 20000 in
theorem gX9_init_X4_init : GoodIn wsX9_init (wsX4_init) := ggX9_init_X4_init
set_option maxRecDepth 20000 in
theorem ggX9_init_X7_init : GoodIn wsX9_init wsX7_init := goodIn_r _ [69, 70, 2, 3, 71, 11, 12, 72, 73, 16, 17, 74, 50, 51, 52, 48, 53, 54, 55, 56, 57, 58, 59, 60, 61, 112, 113, 114, 115, 116, 117, 118, 119, 120, 121, 122, 123, 137, 138, 139, 140, 141, 142, 143, 144, 145, 146, 124, 125, 126, 127, 128, 129, 130, 131, 132, 133] (by decide +kernel) (by decide +kernel)
set_option maxRecDepth 20000 in
theorem gX9_init_X7_init_n60 : GoodIn wsX9_init (wsX7_init) := ggX9_init_X7_init
set_option maxRecDepth 20000 in
theorem ggX9_init_X8_init : GoodIn wsX9_init wsX8_init := goodIn_r _ [76, 77, 2, 3] (by decide +kernel) (by decide +kernel)
set_option maxRecDepth 20000 in
theorem gX9_init_X8_init_n67 : GoodIn wsX9_init (wsX8_init) := ggX9_init_X8_init
set_option maxRecDepth 20000 in
theorem ggX9_init_X2_init : GoodIn wsX9_init wsX2_init := goodIn_r _ [79, 80, 2, 3] (by decide +kernel) (by decide +kernel)
set_option maxRecDepth 20000 in
theorem gX9_init_X2_init_n74 : GoodIn wsX9_init (wsX2_init) := ggX9_init_X2_init
set_option maxRecDepth 20000 in
theorem ggX9_init_X0_init : GoodIn wsX9_init wsX0_init := goodIn_r _ [82, 83, 2, 3, 48, 84, 153, 154, 155, 156, 157, 158] (by decide +kernel) (by decide +kernel)
set_option maxRecDepth 20000 in
theorem gX9_init_X0_init_n81 : GoodIn wsX9_init (wsX0_init) := ggX9_init_X0_init
set_option maxRecDepth 20000 in
theorem ggX9_init_X6_init : GoodIn wsX9_init wsX6_init := goodIn_r _ [86, 87, 2, 3, 48, 88, 159, 160, 161, 162] (by decide +kernel) (by decide +kernel)
set_option maxRecDepth 20000 in
theorem gX9_init_X6_init_n86 : GoodIn wsX9_init (wsX6_init) := ggX9_init_X6_init
theorem dX9_init_0 : decode cX9_init 0 = .ok (.aload_n 0, 1) := by decide +kernel
theorem dX9_init_1 : decode cX9_init 1 = .ok (.invokespecial 1, 3) := by decide +kernel
theorem dX9_init_4 : decode cX9_init 4 = .ok (.aload_n 0, 1) := by decide +kernel
theorem dX9_init_5 : decode cX9_init 5 = .ok (.bipush 8, 2) := by decide +kernel
theorem dX9_init_7 : decode cX9_init 7 = .ok (.anewarray 9, 3) := by decide +kernel
theorem dX9_init_10 : decode cX9_init 10 = .ok (.putfield 11, 3) := by decide +kernel
theorem dX9_init_13 : decode cX9_init 13 = .ok (.aload_n 0, 1) := by decide +kernel
theorem dX9_init_14 : decode cX9_init 14 = .ok (.new 15, 3) := by decide +kernel
theorem dX9_init_17 : decode cX9_init 17 = .ok (.dup, 1) := by decide +kernel
theorem dX9_init_18 : decode cX9_init 18 = .ok (.invokespecial 17, 3) := by decide +kernel
theorem dX9_init_21 : decode cX9_init 21 = .ok (.putfield 18, 3) := by decide +kernel
theorem dX9_init_24 : decode cX9_init 24 = .ok (.aload_n 0, 1) := by decide +kernel
theorem dX9_init_25 : decode cX9_init 25 = .ok (.new 22, 3) := by decide +kernel
theorem dX9_init_28 : decode cX9_init 28 = .ok (.dup, 1) := by decide +kernel
theorem dX9_init_29 : decode cX9_init 29 = .ok (.invokespecial 24, 3) := by decide +kernel
theorem dX9_init_32 : decode cX9_init 32 = .ok (.putfield 25, 3) := by decide +kernel
theorem dX9_init_35 : decode cX9_init 35 = .ok (.aload_n 0, 1) := by decide +kernel
theorem dX9_init_36 : decode cX9_init 36 = .ok (.new 22, 3) := by decide +kernel
theorem dX9_init_39 : decode cX9_init 39 = .ok (.dup, 1) := by decide +kernel
theorem dX9_init_40 : decode cX9_init 40 = .ok (.invokespecial 24, 3) := by decide +kernel
theorem dX9_init_43 : decode cX9_init 43 = .ok (.putfield 29, 3) := by decide +kernel
theorem dX9_init_46 : decode cX9_init 46 = .ok (.aload_n 0, 1) := by decide +kernel
theorem dX9_init_47 : decode cX9_init 47 = .ok (.new 32, 3) := by decide +kernel
theorem dX9_init_50 : decode cX9_init 50 = .ok (.dup, 1) := by decide +kernel
theorem dX9_init_51 : decode cX9_init 51 = .ok (.invokespecial 34, 3) := by decide +kernel
theorem dX9_init_54 : decode cX9_init 54 = .ok (.putfield 35, 3) := by decide +kernel
theorem dX9_init_57 : decode cX9_init 57 = .ok (.aload_n 0, 1) := by decide +kernel
theorem dX9_init_58 : decode cX9_init 58 = .ok (.new 39, 3) := by decide +kernel
theorem dX9_init_61 : decode cX9_init 61 = .ok (.dup, 1) := by decide +kernel
theorem dX9_init_62 : decode cX9_init 62 = .ok (.invokespecial 41, 3) := by decide +kernel
theorem dX9_init_65 : decode cX9_init 65 = .ok (.putfield 42, 3) := by decide +kernel
theorem dX9_init_68 : decode cX9_init 68 = .ok (.aload_n 0, 1) := by decide +kernel
theorem dX9_init_69 : decode cX9_init 69 = .ok (.iconst 2, 1) := by decide +kernel
theorem dX9_init_70 : decode cX9_init 70 = .ok (.anewarray 22, 3) := by decide +kernel
theorem dX9_init_73 : decode cX9_init 73 = .ok (.putfield 46, 3) := by decide +kernel
theorem dX9_init_76 : decode cX9_init 76 = .ok (.aload_n 0, 1) := by decide +kernel
theorem dX9_init_77 : decode cX9_init 77 = .ok (.iconst 2, 1) := by decide +kernel
theorem dX9_init_78 : decode cX9_init 78 = .ok (.anewarray 32, 3) := by decide +kernel
theorem dX9_init_81 : decode cX9_init 81 = .ok (.putfield 50, 3) := by decide +kernel
theorem dX9_init_84 : decode cX9_init 84 = .ok (.aload_n 0, 1) := by decide +kernel
theorem dX9_init_85 : decode cX9_init 85 = .ok (.iconst 2, 1) := by decide +kernel
theorem dX9_init_86 : decode cX9_init 86 = .ok (.newarray .boolean, 2) := by decide +kernel
theorem dX9_init_88 : decode cX9_init 88 = .ok (.putfield 54, 3) := by decide +kernel
theorem dX9_init_91 : decode cX9_init 91 = .ok (.aload_n 0, 1) := by decide +kernel
theorem dX9_init_92 : decode cX9_init 92 = .ok (.new 58, 3) := by decide +kernel
theorem dX9_init_95 : decode cX9_init 95 = .ok (.dup, 1) := by decide +kernel
theorem dX9_init_96 : decode cX9_init 96 = .ok (.invokespecial 60, 3) := by decide +kernel
theorem dX9_init_99 : decode cX9_init 99 = .ok (.putfield 61, 3) := by decide +kernel
theorem dX9_init_102 : decode cX9_init 102 = .ok (.aload_n 0, 1) := by decide +kernel
theorem dX9_init_103 : decode cX9_init 103 = .ok (.new 65, 3) := by decide +kernel
theorem dX9_init_106 : decode cX9_init 106 = .ok (.dup, 1) := by decide +kernel
theorem dX9_init_107 : decode cX9_init 107 = .ok (.invokespecial 67, 3) := by decide +kernel
theorem dX9_init_110 : decode cX9_init 110 = .ok (.putfield 68, 3) := by decide +kernel
theorem dX9_init_113 : decode cX9_init 113 = .ok (.aload_n 0, 1) := by decide +kernel
theorem dX9_init_114 : decode cX9_init 114 = .ok (.new 72, 3) := by decide +kernel
theorem dX9_init_117 : decode cX9_init 117 = .ok (.dup, 1) := by decide +kernel
theorem dX9_init_118 : decode cX9_init 118 = .ok (.invokespecial 74, 3) := by decide +kernel
theorem dX9_init_121 : decode cX9_init 121 = .ok (.putfield 75, 3) := by decide +kernel
theorem dX9_init_124 : decode cX9_init 124 = .ok (.aload_n 0, 1) := by decide +kernel
theorem dX9_init_125 : decode cX9_init 125 = .ok (.new 79, 3) := by decide +kernel
theorem dX9_init_128 : decode cX9_init 128 = .ok (.dup, 1) := by decide +kernel
theorem dX9_init_129 : decode cX9_init 129 = .ok (.invokespecial 81, 3) := by decide +kernel
theorem dX9_init_132 : decode cX9_init 132 = .ok (.putfield 82, 3) := by decide +kernel
theorem dX9_init_135 : decode cX9_init 135 = .ok (.iconst 0, 1) := by decide +kernel
theorem dX9_init_136 : decode cX9_init 136 = .ok (.istore_n 1, 1) := by decide +kernel
theorem dX9_init_137 : decode cX9_init 137 = .ok (.iload_n 1, 1) := by decide +kernel
theorem dX9_init_138 : decode cX9_init 138 = .ok (.bipush 8, 2) := by decide +kernel
theorem dX9_init_140 : decode cX9_init 140 = .ok (.if_icmp .ge 22, 3) := by decide +kernel
theorem dX9_init_143 : decode cX9_init 143 = .ok (.aload_n 0, 1) := by decide +kernel
theorem dX9_init_144 : decode cX9_init 144 = .ok (.getfield 11, 3) := by decide +kernel
theorem dX9_init_147 : decode cX9_init 147 = .ok (.iload_n 1, 1) := by decide +kernel
theorem dX9_init_148 : decode cX9_init 148 = .ok (.new 9, 3) := by decide +kernel
theorem dX9_init_151 : decode cX9_init 151 = .ok (.dup, 1) := by decide +kernel
theorem dX9_init_152 : decode cX9_init 152 = .ok (.invokespecial 86, 3) := by decide +kernel
theorem dX9_init_155 : decode cX9_init 155 = .ok (.aastore, 1) := by decide +kernel
theorem dX9_init_156 : decode cX9_init 156 = .ok (.iinc 1 1, 3) := by decide +kernel
theorem dX9_init_159 : decode cX9_init 159 = .ok (.goto (-22), 3) := by decide +kernel
theorem dX9_init_162 : decode cX9_init 162 = .ok (.iconst 0, 1) := by decide +kernel
theorem dX9_init_163 : decode cX9_init 163 = .ok (.istore_n 1, 1) := by decide +kernel
theorem dX9_init_164 : decode cX9_init 164 = .ok (.iload_n 1, 1) := by decide +kernel
theorem dX9_init_165 : decode cX9_init 165 = .ok (.iconst 2, 1) := by decide +kernel
theorem dX9_init_166 : decode cX9_init 166 = .ok (.if_icmp .ge 35, 3) := by decide +kernel
theorem dX9_init_169 : decode cX9_init 169 = .ok (.aload_n 0, 1) := by decide +kernel
theorem dX9_init_170 : decode cX9_init 170 = .ok (.getfield 46, 3) := by decide +kernel
theorem dX9_init_173 : decode cX9_init 173 = .ok (.iload_n 1, 1) := by decide +kernel
theorem dX9_init_174 : decode cX9_init 174 = .ok (.new 22, 3) := by decide +kernel
theorem dX9_init_177 : decode cX9_init 177 = .ok (.dup, 1) := by decide +kernel
theorem dX9_init_178 : decode cX9_init 178 = .ok (.invokespecial 24, 3) := by decide +kernel
theorem dX9_init_181 : decode cX9_init 181 = .ok (.aastore, 1) := by decide +kernel
theorem dX9_init_182 : decode cX9_init 182 = .ok (.aload_n 0, 1) := by decide +kernel
theorem dX9_init_183 : decode cX9_init 183 = .ok (.getfield 50, 3) := by decide +kernel
theorem dX9_init_186 : decode cX9_init 186 = .ok (.iload_n 1, 1) := by decide +kernel
theorem dX9_init_187 : decode cX9_init 187 = .ok (.new 32, 3) := by decide +kernel
theorem dX9_init_190 : decode cX9_init 190 = .ok (.dup, 1) := by decide +kernel
theorem dX9_init_191 : decode cX9_init 191 = .ok (.invokespecial 34, 3) := by decide +kernel
theorem dX9_init_194 : decode cX9_init 194 = .ok (.aastore, 1) := by decide +kernel
theorem dX9_init_195 : decode cX9_init 195 = .ok (.iinc 1 1, 3) := by decide +kernel
theorem dX9_init_198 : decode cX9_init 198 = .ok (.goto (-34), 3) := by decide +kernel
theorem dX9_init_201 : decode cX9_init 201 = .ok (.return_, 1) := by decide +kernel
set_option maxRecDepth 20000 in
theorem ggX9_row_X9_isRow : GoodIn wsX9_row wsX9_isRow := goodIn_r _ [6] (by decide +kernel) (by decide +kernel)
set_option maxRecDepth 20000 in
theorem gX9_row_X9_isRow : GoodIn wsX9_row (va_wsS RX9 87 yX9_isRow wsX9_isRow) := goodIn_app (goodIn_of _ (by decide +kernel)) ggX9_row_X9_isRow
set_option maxRecDepth 20000 in
theorem ggX9_row_X9_isWithin : GoodIn wsX9_row wsX9_isWithin := goodIn_r _ [9] (by decide +kernel) (by decide +kernel)
set_option maxRecDepth 20000 in
theorem gX9_row_X9_isWithin : GoodIn wsX9_row (va_wsS RX9 91 yX9_isWithin wsX9_isWithin) := goodIn_app (goodIn_of _ (by decide +kernel)) ggX9_row_X9_isWithin
set_option maxRecDepth 20000 in
theorem ggX9_row_X9_found : GoodIn wsX9_row wsX9_found := goodIn_r _ [13, 14, 15, 29, 30, 31, 32, 33, 34, 35, 36, 37, 38, 39, 40, 41, 42, 43, 44] (by decide +kernel) (by decide +kernel)
set_option maxRecDepth 20000 in
theorem gX9_row_X9_found : GoodIn wsX9_row (wsV RX9 96 RX9 yX9_found wsX9_found) := goodIn_app (goodIn_of _ (by decide +kernel)) ggX9_row_X9_found
set_option maxRecDepth 20000 in
theorem ggX9_row_X6_make : GoodIn wsX9_row wsX6_make := goodIn_r _ [20, 21, 22, 23, 24, 45, 46, 47, 48] (by decide +kernel) (by decide +kernel)
set_option maxRecDepth 20000 in
theorem gX9_row_X6_make : GoodIn wsX9_row (wsV RX9 100 RX6 yX6_make wsX6_make) := goodIn_app (goodIn_of _ (by decide +kernel)) ggX9_row_X6_make
set_option maxRecDepth 20000 in
theorem ggX9_row_X9_fine : GoodIn wsX9_row wsX9_fine := goodIn_r _ [28, 14, 29, 30, 31, 32, 33, 34, 35, 36, 37, 38, 39, 40, 41, 42, 43, 44] (by decide +kernel) (by decide +kernel)
set_option maxRecDepth 20000 in
theorem gX9_row_X9_fine : GoodIn wsX9_row (wsV RX9 104 RX9 yX9_fine wsX9_fine) := goodIn_app (goodIn_of _ (by decide +kernel)) ggX9_row_X9_fine
theorem dX9_row_0 : decode cX9_row 0 = .ok (.iload_n 1, 1) := by decide +kernel
theorem dX9_row_1 : decode cX9_row 1 = .ok (.invokestatic 87, 3) := by decide +kernel
theorem dX9_row_4 : decode cX9_row 4 = .ok (.ifCond .eq 17, 3) := by decide +kernel
theorem dX9_row_7 : decode cX9_row 7 = .ok (.iload_n 2, 1) := by decide +kernel
theorem dX9_row_8 : decode cX9_row 8 = .ok (.iconst 2, 1) := by decide +kernel
theorem dX9_row_9 : decode cX9_row 9 = .ok (.invokestatic 91, 3) := by decide +kernel
theorem dX9_row_12 : decode cX9_row 12 = .ok (.ifCond .eq 9, 3) := by decide +kernel
theorem dX9_row_15 : decode cX9_row 15 = .ok (.iload_n 3, 1) := by decide +kernel
theorem dX9_row_16 : decode cX9_row 16 = .ok (.bipush 40, 2) := by decide +kernel
theorem dX9_row_18 : decode cX9_row 18 = .ok (.if_icmp .le 6, 3) := by decide +kernel
theorem dX9_row_21 : decode cX9_row 21 = .ok (.ldc 95, 2) := by decide +kernel
theorem dX9_row_23 : decode cX9_row 23 = .ok (.ireturn, 1) := by decide +kernel
theorem dX9_row_24 : decode cX9_row 24 = .ok (.iload_n 3, 1) := by decide +kernel
theorem dX9_row_25 : decode cX9_row 25 = .ok (.ifCond .ge 9, 3) := by decide +kernel
theorem dX9_row_28 : decode cX9_row 28 = .ok (.aload_n 0, 1) := by decide +kernel
theorem dX9_row_29 : decode cX9_row 29 = .ok (.iconst 4, 1) := by decide +kernel
theorem dX9_row_30 : decode cX9_row 30 = .ok (.invokevirtual 96, 3) := by decide +kernel
theorem dX9_row_33 : decode cX9_row 33 = .ok (.ireturn, 1) := by decide +kernel
theorem dX9_row_34 : decode cX9_row 34 = .ok (.aload_n 0, 1) := by decide +kernel
theorem dX9_row_35 : decode cX9_row 35 = .ok (.getfield 11, 3) := by decide +kernel
theorem dX9_row_38 : decode cX9_row 38 = .ok (.iload_n 1, 1) := by decide +kernel
theorem dX9_row_39 : decode cX9_row 39 = .ok (.aaload, 1) := by decide +kernel
theorem dX9_row_40 : decode cX9_row 40 = .ok (.iload_n 2, 1) := by decide +kernel
theorem dX9_row_41 : decode cX9_row 41 = .ok (.iload_n 3, 1) := by decide +kernel
theorem dX9_row_42 : decode cX9_row 42 = .ok (.invokevirtual 100, 3) := by decide +kernel
theorem dX9_row_45 : decode cX9_row 45 = .ok (.aload_n 0, 1) := by decide +kernel
theorem dX9_row_46 : decode cX9_row 46 = .ok (.iload_n 3, 1) := by decide +kernel
theorem dX9_row_47 : decode cX9_row 47 = .ok (.invokevirtual 104, 3) := by decide +kernel
theorem dX9_row_50 : decode cX9_row 50 = .ok (.ireturn, 1) := by decide +kernel
set_option maxRecDepth 20000 in
theorem ggX9_set_X9_isRow : GoodIn wsX9_set wsX9_isRow := goodIn_r _ [6] (by decide +kernel) (by decide +kernel)
set_option maxRecDepth 20000 in
theorem gX9_set_X9_isRow : GoodIn wsX9_set (va_wsS RX9 87 yX9_isRow wsX9_isRow) := goodIn_app (goodIn_of _ (by decide +kernel)) ggX9_set_X9_isRow
set_option maxRecDepth 20000 in
theorem ggX9_set_X9_found : GoodIn wsX9_set wsX9_found := goodIn_r _ [10, 11, 12, 29, 30, 31, 32, 33, 34, 35, 36, 37, 38, 39, 40, 41, 42, 43, 44] (by decide +kernel) (by decide +kernel)
set_option maxRecDepth 20000 in
theorem gX9_set_X9_found : GoodIn wsX9_set (wsV RX9 96 RX9 yX9_found wsX9_found) := goodIn_app (goodIn_of _ (by decide +kernel)) ggX9_set_X9_found
set_option maxRecDepth 20000 in
theorem ggX9_set_X6_hasStretch : GoodIn wsX9_set wsX6_hasStretch := goodIn_r _ [17, 18, 45, 46, 47, 48] (by decide +kernel) (by decide +kernel)
set_option maxRecDepth 20000 in
theorem gX9_set_X6_hasStretch : GoodIn wsX9_set (wsV RX9 111 RX6 yX6_hasStretch wsX6_hasStretch) := goodIn_app (goodIn_of _ (by decide +kernel)) ggX9_set_X6_hasStretch
set_option maxRecDepth 20000 in
theorem ggX9_set_X6_put : GoodIn wsX9_set wsX6_put := goodIn_r _ [22, 23, 24, 45, 46, 47, 48] (by decide +kernel) (by decide +kernel)
set_option maxRecDepth 20000 in
theorem gX9_set_X6_put : GoodIn wsX9_set (wsV RX9 114 RX6 yX6_put wsX6_put) := goodIn_app (goodIn_of _ (by decide +kernel)) ggX9_set_X6_put
set_option maxRecDepth 20000 in
theorem ggX9_set_X9_fine : GoodIn wsX9_set wsX9_fine := goodIn_r _ [28, 11, 29, 30, 31, 32, 33, 34, 35, 36, 37, 38, 39, 40, 41, 42, 43, 44] (by decide +kernel) (by decide +kernel)
set_option maxRecDepth 20000 in
theorem gX9_set_X9_fine : GoodIn wsX9_set (wsV RX9 104 RX9 yX9_fine wsX9_fine) := goodIn_app (goodIn_of _ (by decide +kernel)) ggX9_set_X9_fine
theorem dX9_set_0 : decode cX9_set 0 = .ok (.iload_n 1, 1) := by decide +kernel
theorem dX9_set_1 : decode cX9_set 1 = .ok (.invokestatic 87, 3) := by decide +kernel
theorem dX9_set_4 : decode cX9_set 4 = .ok (.ifCond .ne 6, 3) := by decide +kernel
theorem dX9_set_7 : decode cX9_set 7 = .ok (.ldc 95, 2) := by decide +kernel
theorem dX9_set_9 : decode cX9_set 9 = .ok (.ireturn, 1) := by decide +kernel
theorem dX9_set_10 : decode cX9_set 10 = .ok (.aload_n 0, 1) := by decide +kernel
theorem dX9_set_11 : decode cX9_set 11 = .ok (.getfield 11, 3) := by decide +kernel
theorem dX9_set_14 : decode cX9_set 14 = .ok (.iload_n 1, 1) := by decide +kernel
theorem dX9_set_15 : decode cX9_set 15 = .ok (.aaload, 1) := by decide +kernel
theorem dX9_set_16 : decode cX9_set 16 = .ok (.astore 4, 2) := by decide +kernel
theorem dX9_set_18 : decode cX9_set 18 = .ok (.aload 4, 2) := by decide +kernel
theorem dX9_set_20 : decode cX9_set 20 = .ok (.getfield 107, 3) := by decide +kernel
theorem dX9_set_23 : decode cX9_set 23 = .ok (.ifCond .ne 9, 3) := by decide +kernel
theorem dX9_set_26 : decode cX9_set 26 = .ok (.aload_n 0, 1) := by decide +kernel
theorem dX9_set_27 : decode cX9_set 27 = .ok (.iconst 1, 1) := by decide +kernel
theorem dX9_set_28 : decode cX9_set 28 = .ok (.invokevirtual 96, 3) := by decide +kernel
theorem dX9_set_31 : decode cX9_set 31 = .ok (.ireturn, 1) := by decide +kernel
theorem dX9_set_32 : decode cX9_set 32 = .ok (.aload 4, 2) := by decide +kernel
theorem dX9_set_34 : decode cX9_set 34 = .ok (.iload_n 2, 1) := by decide +kernel
theorem dX9_set_35 : decode cX9_set 35 = .ok (.iconst 1, 1) := by decide +kernel
theorem dX9_set_36 : decode cX9_set 36 = .ok (.invokevirtual 111, 3) := by decide +kernel
theorem dX9_set_39 : decode cX9_set 39 = .ok (.ifCond .ne 9, 3) := by decide +kernel
theorem dX9_set_42 : decode cX9_set 42 = .ok (.aload_n 0, 1) := by decide +kernel
theorem dX9_set_43 : decode cX9_set 43 = .ok (.iconst 2, 1) := by decide +kernel
theorem dX9_set_44 : decode cX9_set 44 = .ok (.invokevirtual 96, 3) := by decide +kernel
theorem dX9_set_47 : decode cX9_set 47 = .ok (.ireturn, 1) := by decide +kernel
theorem dX9_set_48 : decode cX9_set 48 = .ok (.aload_n 0, 1) := by decide +kernel
theorem dX9_set_49 : decode cX9_set 49 = .ok (.aload 4, 2) := by decide +kernel
theorem dX9_set_51 : decode cX9_set 51 = .ok (.iload_n 2, 1) := by decide +kernel
theorem dX9_set_52 : decode cX9_set 52 = .ok (.iload_n 3, 1) := by decide +kernel
theorem dX9_set_53 : decode cX9_set 53 = .ok (.invokevirtual 114, 3) := by decide +kernel

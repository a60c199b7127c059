theorem dX10_suitor_35 : decode cX10_suitor 35 = .ok (.iload_n 2, 1) := by decide +kernel
theorem dX10_suitor_36 : decode cX10_suitor 36 = .ok (.imul, 1) := by decide +kernel
theorem dX10_suitor_37 : decode cX10_suitor 37 = .ok (.iadd, 1) := by decide +kernel
theorem dX10_suitor_38 : decode cX10_suitor 38 = .ok (.iload_n 1, 1) := by decide +kernel
theorem dX10_suitor_39 : decode cX10_suitor 39 = .ok (.iadd, 1) := by decide +kernel
theorem dX10_suitor_40 : decode cX10_suitor 40 = .ok (.iaload, 1) := by decide +kernel
theorem dX10_suitor_41 : decode cX10_suitor 41 = .ok (.ireturn, 1) := by decide +kernel
theorem dX10_suitor_42 : decode cX10_suitor 42 = .ok (.aload_n 0, 1) := by decide +kernel
theorem dX10_suitor_43 : decode cX10_suitor 43 = .ok (.getfield 22, 3) := by decide +kernel
theorem dX10_suitor_46 : decode cX10_suitor 46 = .ok (.bipush 43, 2) := by decide +kernel
theorem dX10_suitor_48 : decode cX10_suitor 48 = .ok (.iload_n 1, 1) := by decide +kernel
theorem dX10_suitor_49 : decode cX10_suitor 49 = .ok (.iadd, 1) := by decide +kernel
theorem dX10_suitor_50 : decode cX10_suitor 50 = .ok (.iaload, 1) := by decide +kernel
theorem dX10_suitor_51 : decode cX10_suitor 51 = .ok (.istore_n 3, 1) := by decide +kernel
theorem dX10_suitor_52 : decode cX10_suitor 52 = .ok (.iload_n 2, 1) := by decide +kernel
theorem dX10_suitor_53 : decode cX10_suitor 53 = .ok (.iconst 3, 1) := by decide +kernel
theorem dX10_suitor_54 : decode cX10_suitor 54 = .ok (.if_icmp .ne 22, 3) := by decide +kernel
theorem dX10_suitor_57 : decode cX10_suitor 57 = .ok (.aload_n 0, 1) := by decide +kernel
theorem dX10_suitor_58 : decode cX10_suitor 58 = .ok (.getfield 22, 3) := by decide +kernel
theorem dX10_suitor_61 : decode cX10_suitor 61 = .ok (.iload_n 1, 1) := by decide +kernel
theorem dX10_suitor_62 : decode cX10_suitor 62 = .ok (.invokestatic 197, 3) := by decide +kernel
theorem dX10_suitor_65 : decode cX10_suitor 65 = .ok (.ifCond .eq 7, 3) := by decide +kernel
theorem dX10_suitor_68 : decode cX10_suitor 68 = .ok (.iconst 1, 1) := by decide +kernel
theorem dX10_suitor_69 : decode cX10_suitor 69 = .ok (.goto 17, 3) := by decide +kernel
theorem dX10_suitor_72 : decode cX10_suitor 72 = .ok (.iconst 0, 1) := by decide +kernel
theorem dX10_suitor_73 : decode cX10_suitor 73 = .ok (.goto 13, 3) := by decide +kernel
theorem dX10_suitor_76 : decode cX10_suitor 76 = .ok (.iload_n 3, 1) := by decide +kernel
theorem dX10_suitor_77 : decode cX10_suitor 77 = .ok (.ifCond .ge 8, 3) := by decide +kernel
theorem dX10_suitor_80 : decode cX10_suitor 80 = .ok (.ldc 200, 2) := by decide +kernel
theorem dX10_suitor_82 : decode cX10_suitor 82 = .ok (.goto 4, 3) := by decide +kernel
theorem dX10_suitor_85 : decode cX10_suitor 85 = .ok (.iload_n 3, 1) := by decide +kernel
theorem dX10_suitor_86 : decode cX10_suitor 86 = .ok (.ireturn, 1) := by decide +kernel
theorem dX10_lesser_0 : decode cX10_lesser 0 = .ok (.iload_n 0, 1) := by decide +kernel
theorem dX10_lesser_1 : decode cX10_lesser 1 = .ok (.iload_n 1, 1) := by decide +kernel
theorem dX10_lesser_2 : decode cX10_lesser 2 = .ok (.if_icmp .ge 7, 3) := by decide +kernel
theorem dX10_lesser_5 : decode cX10_lesser 5 = .ok (.iload_n 0, 1) := by decide +kernel
theorem dX10_lesser_6 : decode cX10_lesser 6 = .ok (.goto 4, 3) := by decide +kernel
theorem dX10_lesser_9 : decode cX10_lesser 9 = .ok (.iload_n 1, 1) := by decide +kernel
theorem dX10_lesser_10 : decode cX10_lesser 10 = .ok (.ireturn, 1) := by decide +kernel
set_option maxRecDepth 20000 in
theorem ggX10_wovenBy_X10_lesser : GoodIn wsX10_wovenBy wsX10_lesser := goodIn_r _ [4] (by decide +kernel) (by decide +kernel)
set_option maxRecDepth 20000 in
theorem gX10_wovenBy_X10_lesser : GoodIn wsX10_wovenBy (va_wsS RX10 201 yX10_lesser wsX10_lesser) := goodIn_app (goodIn_of _ (by decide +kernel)) ggX10_wovenBy_X10_lesser
theorem dX10_wovenBy_0 : decode cX10_wovenBy 0 = .ok (.iload_n 1, 1) := by decide +kernel
theorem dX10_wovenBy_1 : decode cX10_wovenBy 1 = .ok (.aload_n 0, 1) := by decide +kernel
theorem dX10_wovenBy_2 : decode cX10_wovenBy 2 = .ok (.iconst 0, 1) := by decide +kernel
theorem dX10_wovenBy_3 : decode cX10_wovenBy 3 = .ok (.iaload, 1) := by decide +kernel
theorem dX10_wovenBy_4 : decode cX10_wovenBy 4 = .ok (.aload_n 0, 1) := by decide +kernel
theorem dX10_wovenBy_5 : decode cX10_wovenBy 5 = .ok (.bipush 10, 2) := by decide +kernel
theorem dX10_wovenBy_7 : decode cX10_wovenBy 7 = .ok (.iaload, 1) := by decide +kernel
theorem dX10_wovenBy_8 : decode cX10_wovenBy 8 = .ok (.isub, 1) := by decide +kernel
theorem dX10_wovenBy_9 : decode cX10_wovenBy 9 = .ok (.invokestatic 201, 3) := by decide +kernel
theorem dX10_wovenBy_12 : decode cX10_wovenBy 12 = .ok (.ireturn, 1) := by decide +kernel
set_option maxRecDepth 20000 in
theorem ggX10_undoneBy_X10_isMoon : GoodIn wsX10_undoneBy wsX10_isMoon := goodIn_r _ [4] (by decide +kernel) (by decide +kernel)
set_option maxRecDepth 20000 in
theorem gX10_undoneBy_X10_isMoon : GoodIn wsX10_undoneBy (va_wsS RX10 186 yX10_isMoon wsX10_isMoon) := goodIn_app (goodIn_of _ (by decide +kernel)) ggX10_undoneBy_X10_isMoon
set_option maxRecDepth 20000 in
theorem ggX10_undoneBy_X10_lesser : GoodIn wsX10_undoneBy wsX10_lesser := goodIn_r _ [7] (by decide +kernel) (by decide +kernel)
set_option maxRecDepth 20000 in
theorem gX10_undoneBy_X10_lesser : GoodIn wsX10_undoneBy (va_wsS RX10 201 yX10_lesser wsX10_lesser) := goodIn_app (goodIn_of _ (by decide +kernel)) ggX10_undoneBy_X10_lesser
theorem dX10_undoneBy_0 : decode cX10_undoneBy 0 = .ok (.aload_n 0, 1) := by decide +kernel
theorem dX10_undoneBy_1 : decode cX10_undoneBy 1 = .ok (.invokestatic 186, 3) := by decide +kernel
theorem dX10_undoneBy_4 : decode cX10_undoneBy 4 = .ok (.ifCond .eq 7, 3) := by decide +kernel
theorem dX10_undoneBy_7 : decode cX10_undoneBy 7 = .ok (.iconst 0, 1) := by decide +kernel
theorem dX10_undoneBy_8 : decode cX10_undoneBy 8 = .ok (.goto 17, 3) := by decide +kernel
theorem dX10_undoneBy_11 : decode cX10_undoneBy 11 = .ok (.iload_n 1, 1) := by decide +kernel
theorem dX10_undoneBy_12 : decode cX10_undoneBy 12 = .ok (.aload_n 0, 1) := by decide +kernel
theorem dX10_undoneBy_13 : decode cX10_undoneBy 13 = .ok (.iconst 2, 1) := by decide +kernel
theorem dX10_undoneBy_14 : decode cX10_undoneBy 14 = .ok (.iaload, 1) := by decide +kernel
theorem dX10_undoneBy_15 : decode cX10_undoneBy 15 = .ok (.aload_n 0, 1) := by decide +kernel
theorem dX10_undoneBy_16 : decode cX10_undoneBy 16 = .ok (.bipush 10, 2) := by decide +kernel
theorem dX10_undoneBy_18 : decode cX10_undoneBy 18 = .ok (.iaload, 1) := by decide +kernel
theorem dX10_undoneBy_19 : decode cX10_undoneBy 19 = .ok (.invokestatic 201, 3) := by decide +kernel
theorem dX10_undoneBy_22 : decode cX10_undoneBy 22 = .ok (.invokestatic 201, 3) := by decide +kernel
theorem dX10_undoneBy_25 : decode cX10_undoneBy 25 = .ok (.ireturn, 1) := by decide +kernel
set_option maxRecDepth 20000 in
theorem ggX10_whoKnows_X10_knows : GoodIn wsX10_whoKnows wsX10_knows := goodIn_r _ [5] (by decide +kernel) (by decide +kernel)
set_option maxRecDepth 20000 in
theorem gX10_whoKnows_X10_knows : GoodIn wsX10_whoKnows (va_wsS RX10 197 yX10_knows wsX10_knows) := goodIn_app (goodIn_of _ (by decide +kernel)) ggX10_whoKnows_X10_knows
theorem dX10_whoKnows_0 : decode cX10_whoKnows 0 = .ok (.iconst 0, 1) := by decide +kernel
theorem dX10_whoKnows_1 : decode cX10_whoKnows 1 = .ok (.istore_n 1, 1) := by decide +kernel
theorem dX10_whoKnows_2 : decode cX10_whoKnows 2 = .ok (.iload_n 1, 1) := by decide +kernel
theorem dX10_whoKnows_3 : decode cX10_whoKnows 3 = .ok (.aload_n 0, 1) := by decide +kernel
theorem dX10_whoKnows_4 : decode cX10_whoKnows 4 = .ok (.bipush 7, 2) := by decide +kernel
theorem dX10_whoKnows_6 : decode cX10_whoKnows 6 = .ok (.iaload, 1) := by decide +kernel
theorem dX10_whoKnows_7 : decode cX10_whoKnows 7 = .ok (.if_icmp .ge 19, 3) := by decide +kernel
theorem dX10_whoKnows_10 : decode cX10_whoKnows 10 = .ok (.aload_n 0, 1) := by decide +kernel
theorem dX10_whoKnows_11 : decode cX10_whoKnows 11 = .ok (.iload_n 1, 1) := by decide +kernel
theorem dX10_whoKnows_12 : decode cX10_whoKnows 12 = .ok (.invokestatic 197, 3) := by decide +kernel
theorem dX10_whoKnows_15 : decode cX10_whoKnows 15 = .ok (.ifCond .eq 5, 3) := by decide +kernel
theorem dX10_whoKnows_18 : decode cX10_whoKnows 18 = .ok (.iload_n 1, 1) := by decide +kernel
theorem dX10_whoKnows_19 : decode cX10_whoKnows 19 = .ok (.ireturn, 1) := by decide +kernel
theorem dX10_whoKnows_20 : decode cX10_whoKnows 20 = .ok (.iinc 1 1, 3) := by decide +kernel
theorem dX10_whoKnows_23 : decode cX10_whoKnows 23 = .ok (.goto (-21), 3) := by decide +kernel
theorem dX10_whoKnows_26 : decode cX10_whoKnows 26 = .ok (.ldc 200, 2) := by decide +kernel
theorem dX10_whoKnows_28 : decode cX10_whoKnows 28 = .ok (.ireturn, 1) := by decide +kernel
set_option maxRecDepth 20000 in
theorem ggX10_dayGoes_X10_wovenBy : GoodIn wsX10_dayGoes wsX10_wovenBy := goodIn_r _ [6, 7, 8, 5, 9] (by decide +kernel) (by decide +kernel)
set_option maxRecDepth 20000 in
theorem gX10_dayGoes_X10_wovenBy : GoodIn wsX10_dayGoes (va_wsS RX10 205 yX10_wovenBy wsX10_wovenBy) := goodIn_app (goodIn_of _ (by decide +kernel)) ggX10_dayGoes_X10_wovenBy
set_option maxRecDepth 20000 in
theorem ggX10_dayGoes_X10_wants : GoodIn wsX10_dayGoes wsX10_wants := goodIn_r _ [12] (by decide +kernel) (by decide +kernel)
set_option maxRecDepth 20000 in
theorem gX10_dayGoes_X10_wants : GoodIn wsX10_dayGoes (va_wsS RX10 162 yX10_wants wsX10_wants) := goodIn_app (goodIn_of _ (by decide +kernel)) ggX10_dayGoes_X10_wants
set_option maxRecDepth 20000 in
theorem ggX10_dayGoes_X10_yarn : GoodIn wsX10_dayGoes wsX10_yarn := goodIn_r _ [15] (by decide +kernel) (by decide +kernel)
set_option maxRecDepth 20000 in
theorem gX10_dayGoes_X10_yarn : GoodIn wsX10_dayGoes (va_wsS RX10 165 yX10_yarn wsX10_yarn) := goodIn_app (goodIn_of _ (by decide +kernel)) ggX10_dayGoes_X10_yarn
set_option maxRecDepth 20000 in
theorem ggX10_dayGoes_X10_weaves : GoodIn wsX10_dayGoes wsX10_weaves := goodIn_r _ [18] (by decide +kernel) (by decide +kernel)
set_option maxRecDepth 20000 in
theorem gX10_dayGoes_X10_weaves : GoodIn wsX10_dayGoes (va_wsS RX10 172 yX10_weaves wsX10_weaves) := goodIn_app (goodIn_of _ (by decide +kernel)) ggX10_dayGoes_X10_weaves
set_option maxRecDepth 20000 in
theorem ggX10_dayGoes_X10_looks : GoodIn wsX10_dayGoes wsX10_looks := goodIn_r _ [21, 22, 23, 5, 24, 25, 26, 27, 28, 29, 30] (by decide +kernel) (by decide +kernel)
set_option maxRecDepth 20000 in
theorem gX10_dayGoes_X10_looks : GoodIn wsX10_dayGoes (va_wsS RX10 176 yX10_looks wsX10_looks) := goodIn_app (goodIn_of _ (by decide +kernel)) ggX10_dayGoes_X10_looks
set_option maxRecDepth 20000 in
theorem ggX10_dayGoes_X10_feasts : GoodIn wsX10_dayGoes wsX10_feasts := goodIn_r _ [33] (by decide +kernel) (by decide +kernel)
set_option maxRecDepth 20000 in
theorem gX10_dayGoes_X10_feasts : GoodIn wsX10_dayGoes (va_wsS RX10 180 yX10_feasts wsX10_feasts) := goodIn_app (goodIn_of _ (by decide +kernel)) ggX10_dayGoes_X10_feasts
set_option maxRecDepth 20000 in
theorem ggX10_dayGoes_X10_undoneBy : GoodIn wsX10_dayGoes wsX10_undoneBy := goodIn_r _ [36, 37, 38, 5, 39, 7, 8, 9] (by decide +kernel) (by decide +kernel)
set_option maxRecDepth 20000 in
theorem gX10_dayGoes_X10_undoneBy : GoodIn wsX10_dayGoes (va_wsS RX10 208 yX10_undoneBy wsX10_undoneBy) := goodIn_app (goodIn_of _ (by decide +kernel)) ggX10_dayGoes_X10_undoneBy
set_option maxRecDepth 20000 in
theorem ggX10_dayGoes_X10_undoes : GoodIn wsX10_dayGoes wsX10_undoes := goodIn_r _ [42, 22, 23, 5, 24] (by decide +kernel) (by decide +kernel)
set_option maxRecDepth 20000 in
theorem gX10_dayGoes_X10_undoes : GoodIn wsX10_dayGoes (va_wsS RX10 189 yX10_undoes wsX10_undoes) := goodIn_app (goodIn_of _ (by decide +kernel)) ggX10_dayGoes_X10_undoes
set_option maxRecDepth 20000 in
theorem ggX10_dayGoes_X10_whoKnows : GoodIn wsX10_dayGoes wsX10_whoKnows := goodIn_r _ [45, 2, 46, 47, 5, 48] (by decide +kernel) (by decide +kernel)
set_option maxRecDepth 20000 in
theorem gX10_dayGoes_X10_whoKnows : GoodIn wsX10_dayGoes (va_wsS RX10 211 yX10_whoKnows wsX10_whoKnows) := goodIn_app (goodIn_of _ (by decide +kernel)) ggX10_dayGoes_X10_whoKnows
theorem dX10_dayGoes_0 : decode cX10_dayGoes 0 = .ok (.aload_n 0, 1) := by decide +kernel
theorem dX10_dayGoes_1 : decode cX10_dayGoes 1 = .ok (.getfield 41, 3) := by decide +kernel
theorem dX10_dayGoes_4 : decode cX10_dayGoes 4 = .ok (.iload_n 1, 1) := by decide +kernel
theorem dX10_dayGoes_5 : decode cX10_dayGoes 5 = .ok (.invokestatic 205, 3) := by decide +kernel
theorem dX10_dayGoes_8 : decode cX10_dayGoes 8 = .ok (.istore_n 3, 1) := by decide +kernel
theorem dX10_dayGoes_9 : decode cX10_dayGoes 9 = .ok (.aload_n 0, 1) := by decide +kernel
theorem dX10_dayGoes_10 : decode cX10_dayGoes 10 = .ok (.getfield 41, 3) := by decide +kernel
theorem dX10_dayGoes_13 : decode cX10_dayGoes 13 = .ok (.iload_n 3, 1) := by decide +kernel
theorem dX10_dayGoes_14 : decode cX10_dayGoes 14 = .ok (.invokestatic 162, 3) := by decide +kernel
theorem dX10_dayGoes_17 : decode cX10_dayGoes 17 = .ok (.aload_n 0, 1) := by decide +kernel
theorem dX10_dayGoes_18 : decode cX10_dayGoes 18 = .ok (.getfield 41, 3) := by decide +kernel
theorem dX10_dayGoes_21 : decode cX10_dayGoes 21 = .ok (.invokestatic 165, 3) := by decide +kernel
theorem dX10_dayGoes_24 : decode cX10_dayGoes 24 = .ok (.if_icmp .le 5, 3) := by decide +kernel
theorem dX10_dayGoes_27 : decode cX10_dayGoes 27 = .ok (.iconst 1, 1) := by decide +kernel
theorem dX10_dayGoes_28 : decode cX10_dayGoes 28 = .ok (.ireturn, 1) := by decide +kernel
theorem dX10_dayGoes_29 : decode cX10_dayGoes 29 = .ok (.aload_n 0, 1) := by decide +kernel
theorem dX10_dayGoes_30 : decode cX10_dayGoes 30 = .ok (.getfield 41, 3) := by decide +kernel
theorem dX10_dayGoes_33 : decode cX10_dayGoes 33 = .ok (.iload_n 3, 1) := by decide +kernel
theorem dX10_dayGoes_34 : decode cX10_dayGoes 34 = .ok (.invokestatic 172, 3) := by decide +kernel
theorem dX10_dayGoes_37 : decode cX10_dayGoes 37 = .ok (.aload_n 0, 1) := by decide +kernel
theorem dX10_dayGoes_38 : decode cX10_dayGoes 38 = .ok (.getfield 41, 3) := by decide +kernel
theorem dX10_dayGoes_41 : decode cX10_dayGoes 41 = .ok (.bipush 10, 2) := by decide +kernel
theorem dX10_dayGoes_43 : decode cX10_dayGoes 43 = .ok (.iaload, 1) := by decide +kernel
theorem dX10_dayGoes_44 : decode cX10_dayGoes 44 = .ok (.aload_n 0, 1) := by decide +kernel
theorem dX10_dayGoes_45 : decode cX10_dayGoes 45 = .ok (.getfield 41, 3) := by decide +kernel
theorem dX10_dayGoes_48 : decode cX10_dayGoes 48 = .ok (.iconst 0, 1) := by decide +kernel
theorem dX10_dayGoes_49 : decode cX10_dayGoes 49 = .ok (.iaload, 1) := by decide +kernel
theorem dX10_dayGoes_50 : decode cX10_dayGoes 50 = .ok (.if_icmp .ne 5, 3) := by decide +kernel
theorem dX10_dayGoes_53 : decode cX10_dayGoes 53 = .ok (.iconst 2, 1) := by decide +kernel
theorem dX10_dayGoes_54 : decode cX10_dayGoes 54 = .ok (.ireturn, 1) := by decide +kernel
theorem dX10_dayGoes_55 : decode cX10_dayGoes 55 = .ok (.aload_n 0, 1) := by decide +kernel
theorem dX10_dayGoes_56 : decode cX10_dayGoes 56 = .ok (.getfield 41, 3) := by decide +kernel
theorem dX10_dayGoes_59 : decode cX10_dayGoes 59 = .ok (.invokestatic 176, 3) := by decide +kernel
theorem dX10_dayGoes_62 : decode cX10_dayGoes 62 = .ok (.aload_n 0, 1) := by decide +kernel
theorem dX10_dayGoes_63 : decode cX10_dayGoes 63 = .ok (.getfield 41, 3) := by decide +kernel
theorem dX10_dayGoes_66 : decode cX10_dayGoes 66 = .ok (.invokestatic 180, 3) := by decide +kernel
theorem dX10_dayGoes_69 : decode cX10_dayGoes 69 = .ok (.ifCond .eq 5, 3) := by decide +kernel
theorem dX10_dayGoes_72 : decode cX10_dayGoes 72 = .ok (.iconst 3, 1) := by decide +kernel
theorem dX10_dayGoes_73 : decode cX10_dayGoes 73 = .ok (.ireturn, 1) := by decide +kernel
theorem dX10_dayGoes_74 : decode cX10_dayGoes 74 = .ok (.aload_n 0, 1) := by decide +kernel
theorem dX10_dayGoes_75 : decode cX10_dayGoes 75 = .ok (.getfield 41, 3) := by decide +kernel
theorem dX10_dayGoes_78 : decode cX10_dayGoes 78 = .ok (.aload_n 0, 1) := by decide +kernel
theorem dX10_dayGoes_79 : decode cX10_dayGoes 79 = .ok (.getfield 41, 3) := by decide +kernel
theorem dX10_dayGoes_82 : decode cX10_dayGoes 82 = .ok (.iload_n 2, 1) := by decide +kernel
theorem dX10_dayGoes_83 : decode cX10_dayGoes 83 = .ok (.invokestatic 208, 3) := by decide +kernel
theorem dX10_dayGoes_86 : decode cX10_dayGoes 86 = .ok (.invokestatic 189, 3) := by decide +kernel
theorem dX10_dayGoes_89 : decode cX10_dayGoes 89 = .ok (.aload_n 0, 1) := by decide +kernel
theorem dX10_dayGoes_90 : decode cX10_dayGoes 90 = .ok (.getfield 41, 3) := by decide +kernel
theorem dX10_dayGoes_93 : decode cX10_dayGoes 93 = .ok (.invokestatic 211, 3) := by decide +kernel
theorem dX10_dayGoes_96 : decode cX10_dayGoes 96 = .ok (.ldc 200, 2) := by decide +kernel
theorem dX10_dayGoes_98 : decode cX10_dayGoes 98 = .ok (.if_icmp .ne 7, 3) := by decide +kernel
theorem dX10_dayGoes_101 : decode cX10_dayGoes 101 = .ok (.iconst 0, 1) := by decide +kernel
theorem dX10_dayGoes_102 : decode cX10_dayGoes 102 = .ok (.goto 4, 3) := by decide +kernel
theorem dX10_dayGoes_105 : decode cX10_dayGoes 105 = .ok (.iconst 4, 1) := by decide +kernel
theorem dX10_dayGoes_106 : decode cX10_dayGoes 106 = .ok (.ireturn, 1) := by decide +kernel
set_option maxRecDepth 20000 in
theorem ggX10_habit_X10_copies : GoodIn wsX10_habit wsX10_copies := goodIn_r _ [9] (by decide +kernel) (by decide +kernel)
set_option maxRecDepth 20000 in
theorem gX10_habit_X10_copies : GoodIn wsX10_habit (va_wsS RX10 144 yX10_copies wsX10_copies) := goodIn_app (goodIn_of _ (by decide +kernel)) ggX10_habit_X10_copies
set_option maxRecDepth 20000 in
theorem ggX10_habit_X10_undoneBy : GoodIn wsX10_habit wsX10_undoneBy := goodIn_r _ [12, 13, 14, 8, 15, 16, 17, 18] (by decide +kernel) (by decide +kernel)
set_option maxRecDepth 20000 in
theorem gX10_habit_X10_undoneBy : GoodIn wsX10_habit (va_wsS RX10 208 yX10_undoneBy wsX10_undoneBy) := goodIn_app (goodIn_of _ (by decide +kernel)) ggX10_habit_X10_undoneBy
set_option maxRecDepth 20000 in
theorem ggX10_habit_X10_undoes : GoodIn wsX10_habit wsX10_undoes := goodIn_r _ [21, 22, 23, 8, 24] (by decide +kernel) (by decide +kernel)
set_option maxRecDepth 20000 in
theorem gX10_habit_X10_undoes : GoodIn wsX10_habit (va_wsS RX10 189 yX10_undoes wsX10_undoes) := goodIn_app (goodIn_of _ (by decide +kernel)) ggX10_habit_X10_undoes
set_option maxRecDepth 20000 in
theorem ggX10_habit_X10_whoKnows : GoodIn wsX10_habit wsX10_whoKnows := goodIn_r _ [27, 5, 28, 29, 8, 30] (by decide +kernel) (by decide +kernel)
set_option maxRecDepth 20000 in
theorem gX10_habit_X10_whoKnows : GoodIn wsX10_habit (va_wsS RX10 211 yX10_whoKnows wsX10_whoKnows) := goodIn_app (goodIn_of _ (by decide +kernel)) ggX10_habit_X10_whoKnows
set_option maxRecDepth 20000 in
theorem ggX10_habit_X10_dayGoes : GoodIn wsX10_habit wsX10_dayGoes := goodIn_r _ [34, 2, 5, 35, 36, 8, 37, 16, 17, 18, 38, 39, 40, 41, 42, 43, 44, 45, 46, 47, 48, 49, 22, 23, 24, 50, 51, 52, 53, 54, 55, 56, 57, 58, 10, 11, 12, 13, 14, 15, 19, 20, 21, 25, 26, 27, 28, 29, 30, 59, 60, 61, 62, 63, 64, 65, 66, 67, 68, 69, 70, 71, 72, 73, 74, 75, 76, 77, 78, 79, 80, 81, 82] (by decide +kernel) (by decide +kernel)
set_option maxRecDepth 20000 in
theorem gX10_habit_X10_dayGoes : GoodIn wsX10_habit (wsV RX10 220 RX10 yX10_dayGoes wsX10_dayGoes) := goodIn_app (goodIn_of _ (by decide +kernel)) ggX10_habit_X10_dayGoes
theorem dX10_habit_0 : decode cX10_habit 0 = .ok (.aload_n 0, 1) := by decide +kernel
theorem dX10_habit_1 : decode cX10_habit 1 = .ok (.getfield 22, 3) := by decide +kernel
theorem dX10_habit_4 : decode cX10_habit 4 = .ok (.iconst 0, 1) := by decide +kernel
theorem dX10_habit_5 : decode cX10_habit 5 = .ok (.aload_n 0, 1) := by decide +kernel
theorem dX10_habit_6 : decode cX10_habit 6 = .ok (.getfield 41, 3) := by decide +kernel
theorem dX10_habit_9 : decode cX10_habit 9 = .ok (.iconst 0, 1) := by decide +kernel
theorem dX10_habit_10 : decode cX10_habit 10 = .ok (.invokestatic 144, 3) := by decide +kernel
theorem dX10_habit_13 : decode cX10_habit 13 = .ok (.aload_n 0, 1) := by decide +kernel
theorem dX10_habit_14 : decode cX10_habit 14 = .ok (.iconst 0, 1) := by decide +kernel
theorem dX10_habit_15 : decode cX10_habit 15 = .ok (.putfield 214, 3) := by decide +kernel
theorem dX10_habit_18 : decode cX10_habit 18 = .ok (.aload_n 0, 1) := by decide +kernel
theorem dX10_habit_19 : decode cX10_habit 19 = .ok (.iconst 0, 1) := by decide +kernel
theorem dX10_habit_20 : decode cX10_habit 20 = .ok (.putfield 217, 3) := by decide +kernel
theorem dX10_habit_23 : decode cX10_habit 23 = .ok (.aload_n 0, 1) := by decide +kernel
theorem dX10_habit_24 : decode cX10_habit 24 = .ok (.getfield 41, 3) := by decide +kernel
theorem dX10_habit_27 : decode cX10_habit 27 = .ok (.bipush 9, 2) := by decide +kernel
theorem dX10_habit_29 : decode cX10_habit 29 = .ok (.iaload, 1) := by decide +kernel
theorem dX10_habit_30 : decode cX10_habit 30 = .ok (.iconst 1, 1) := by decide +kernel
theorem dX10_habit_31 : decode cX10_habit 31 = .ok (.if_icmp .ne 39, 3) := by decide +kernel
theorem dX10_habit_34 : decode cX10_habit 34 = .ok (.aload_n 0, 1) := by decide +kernel
theorem dX10_habit_35 : decode cX10_habit 35 = .ok (.getfield 41, 3) := by decide +kernel
theorem dX10_habit_38 : decode cX10_habit 38 = .ok (.aload_n 0, 1) := by decide +kernel
theorem dX10_habit_39 : decode cX10_habit 39 = .ok (.getfield 41, 3) := by decide +kernel
theorem dX10_habit_42 : decode cX10_habit 42 = .ok (.iload_n 2, 1) := by decide +kernel
theorem dX10_habit_43 : decode cX10_habit 43 = .ok (.invokestatic 208, 3) := by decide +kernel
theorem dX10_habit_46 : decode cX10_habit 46 = .ok (.invokestatic 189, 3) := by decide +kernel
theorem dX10_habit_49 : decode cX10_habit 49 = .ok (.aload_n 0, 1) := by decide +kernel
theorem dX10_habit_50 : decode cX10_habit 50 = .ok (.aload_n 0, 1) := by decide +kernel
theorem dX10_habit_51 : decode cX10_habit 51 = .ok (.getfield 41, 3) := by decide +kernel
theorem dX10_habit_54 : decode cX10_habit 54 = .ok (.invokestatic 211, 3) := by decide +kernel
theorem dX10_habit_57 : decode cX10_habit 57 = .ok (.ldc 200, 2) := by decide +kernel
theorem dX10_habit_59 : decode cX10_habit 59 = .ok (.if_icmp .ne 7, 3) := by decide +kernel
theorem dX10_habit_62 : decode cX10_habit 62 = .ok (.iconst 0, 1) := by decide +kernel
theorem dX10_habit_63 : decode cX10_habit 63 = .ok (.goto 4, 3) := by decide +kernel
theorem dX10_habit_66 : decode cX10_habit 66 = .ok (.iconst 4, 1) := by decide +kernel
theorem dX10_habit_67 : decode cX10_habit 67 = .ok (.putfield 217, 3) := by decide +kernel
theorem dX10_habit_70 : decode cX10_habit 70 = .ok (.aload_n 0, 1) := by decide +kernel
theorem dX10_habit_71 : decode cX10_habit 71 = .ok (.getfield 217, 3) := by decide +kernel
theorem dX10_habit_74 : decode cX10_habit 74 = .ok (.ifCond .ne 47, 3) := by decide +kernel
theorem dX10_habit_77 : decode cX10_habit 77 = .ok (.aload_n 0, 1) := by decide +kernel
theorem dX10_habit_78 : decode cX10_habit 78 = .ok (.getfield 214, 3) := by decide +kernel
theorem dX10_habit_81 : decode cX10_habit 81 = .ok (.sipush 200, 3) := by decide +kernel
theorem dX10_habit_84 : decode cX10_habit 84 = .ok (.if_icmp .ge 37, 3) := by decide +kernel
theorem dX10_habit_87 : decode cX10_habit 87 = .ok (.aload_n 0, 1) := by decide +kernel
theorem dX10_habit_88 : decode cX10_habit 88 = .ok (.aload_n 0, 1) := by decide +kernel
theorem dX10_habit_89 : decode cX10_habit 89 = .ok (.iload_n 1, 1) := by decide +kernel
theorem dX10_habit_90 : decode cX10_habit 90 = .ok (.iload_n 2, 1) := by decide +kernel
theorem dX10_habit_91 : decode cX10_habit 91 = .ok (.invokevirtual 220, 3) := by decide +kernel
theorem dX10_habit_94 : decode cX10_habit 94 = .ok (.putfield 217, 3) := by decide +kernel
theorem dX10_habit_97 : decode cX10_habit 97 = .ok (.aload_n 0, 1) := by decide +kernel
theorem dX10_habit_98 : decode cX10_habit 98 = .ok (.dup, 1) := by decide +kernel
theorem dX10_habit_99 : decode cX10_habit 99 = .ok (.getfield 214, 3) := by decide +kernel
theorem dX10_habit_102 : decode cX10_habit 102 = .ok (.aload_n 0, 1) := by decide +kernel
theorem dX10_habit_103 : decode cX10_habit 103 = .ok (.getfield 217, 3) := by decide +kernel
theorem dX10_habit_106 : decode cX10_habit 106 = .ok (.ifCond .ne 7, 3) := by decide +kernel
theorem dX10_habit_109 : decode cX10_habit 109 = .ok (.iconst 1, 1) := by decide +kernel
theorem dX10_habit_110 : decode cX10_habit 110 = .ok (.goto 4, 3) := by decide +kernel
theorem dX10_habit_113 : decode cX10_habit 113 = .ok (.iconst 0, 1) := by decide +kernel
theorem dX10_habit_114 : decode cX10_habit 114 = .ok (.iadd, 1) := by decide +kernel
theorem dX10_habit_115 : decode cX10_habit 115 = .ok (.putfield 214, 3) := by decide +kernel
theorem dX10_habit_118 : decode cX10_habit 118 = .ok (.goto (-48), 3) := by decide +kernel
theorem dX10_habit_121 : decode cX10_habit 121 = .ok (.return_, 1) := by decide +kernel
set_option maxRecDepth 20000 in
theorem ggX10_holds_X10_in : GoodIn wsX10_holds wsX10_in := goodIn_r _ [14] (by decide +kernel) (by decide +kernel)
set_option maxRecDepth 20000 in
theorem gX10_holds_X10_in : GoodIn wsX10_holds (va_wsS RX10 51 yX10_in wsX10_in) := goodIn_app (goodIn_of _ (by decide +kernel)) ggX10_holds_X10_in
set_option maxRecDepth 20000 in
theorem ggX10_holds_X10_habit : GoodIn wsX10_holds wsX10_habit := goodIn_r _ [18, 19, 9, 7, 8, 10, 20, 21, 13, 22, 23, 24, 25, 26, 27, 28, 29, 30, 31, 32, 33, 34, 35, 36, 37, 38, 39, 40, 41, 42, 43, 44, 45, 46, 47, 48, 49, 50, 51, 52, 53, 54, 55, 56, 57, 58, 59, 60, 61, 62, 63, 64, 65, 66, 67, 68, 69, 70, 71, 72, 73, 74, 75, 76, 77, 78, 79, 80, 81, 82, 83, 84, 85, 86, 87, 88, 89, 90, 91, 92, 93, 94, 95] (by decide +kernel) (by decide +kernel)
set_option maxRecDepth 20000 in
theorem gX10_holds_X10_habit : GoodIn wsX10_holds (wsV RX10 223 RX10 yX10_habit wsX10_habit) := goodIn_app (goodIn_of _ (by decide +kernel)) ggX10_holds_X10_habit
set_option maxRecDepth 20000 in
theorem ggX10_holds_X10_whoKnows : GoodIn wsX10_holds wsX10_whoKnows := goodIn_r _ [40, 10, 41, 42, 13, 43] (by decide +kernel) (by decide +kernel)
set_option maxRecDepth 20000 in
theorem gX10_holds_X10_whoKnows : GoodIn wsX10_holds (va_wsS RX10 211 yX10_whoKnows wsX10_whoKnows) := goodIn_app (goodIn_of _ (by decide +kernel)) ggX10_holds_X10_whoKnows
theorem dX10_holds_0 : decode cX10_holds 0 = .ok (.aload_n 0, 1) := by decide +kernel
theorem dX10_holds_1 : decode cX10_holds 1 = .ok (.getfield 137, 3) := by decide +kernel
theorem dX10_holds_4 : decode cX10_holds 4 = .ok (.ifCond .ne 6, 3) := by decide +kernel
theorem dX10_holds_7 : decode cX10_holds 7 = .ok (.ldc 159, 2) := by decide +kernel
theorem dX10_holds_9 : decode cX10_holds 9 = .ok (.ireturn, 1) := by decide +kernel
theorem dX10_holds_10 : decode cX10_holds 10 = .ok (.iload_n 1, 1) := by decide +kernel
theorem dX10_holds_11 : decode cX10_holds 11 = .ok (.i2l, 1) := by decide +kernel
theorem dX10_holds_12 : decode cX10_holds 12 = .ok (.lconst 0, 1) := by decide +kernel
theorem dX10_holds_13 : decode cX10_holds 13 = .ok (.ldc2_w 160, 3) := by decide +kernel
theorem dX10_holds_16 : decode cX10_holds 16 = .ok (.invokestatic 51, 3) := by decide +kernel
theorem dX10_holds_19 : decode cX10_holds 19 = .ok (.ifCond .eq 27, 3) := by decide +kernel
theorem dX10_holds_22 : decode cX10_holds 22 = .ok (.iload_n 2, 1) := by decide +kernel
theorem dX10_holds_23 : decode cX10_holds 23 = .ok (.i2l, 1) := by decide +kernel
theorem dX10_holds_24 : decode cX10_holds 24 = .ok (.lconst 0, 1) := by decide +kernel
theorem dX10_holds_25 : decode cX10_holds 25 = .ok (.ldc2_w 184, 3) := by decide +kernel
theorem dX10_holds_28 : decode cX10_holds 28 = .ok (.invokestatic 51, 3) := by decide +kernel
theorem dX10_holds_31 : decode cX10_holds 31 = .ok (.ifCond .eq 15, 3) := by decide +kernel
theorem dX10_holds_34 : decode cX10_holds 34 = .ok (.iload_n 3, 1) := by decide +kernel
theorem dX10_holds_35 : decode cX10_holds 35 = .ok (.i2l, 1) := by decide +kernel
theorem dX10_holds_36 : decode cX10_holds 36 = .ok (.lconst 0, 1) := by decide +kernel
theorem dX10_holds_37 : decode cX10_holds 37 = .ok (.ldc2_w 59, 3) := by decide +kernel
theorem dX10_holds_40 : decode cX10_holds 40 = .ok (.invokestatic 51, 3) := by decide +kernel
theorem dX10_holds_43 : decode cX10_holds 43 = .ok (.ifCond .ne 6, 3) := by decide +kernel
theorem dX10_holds_46 : decode cX10_holds 46 = .ok (.ldc 61, 2) := by decide +kernel
theorem dX10_holds_48 : decode cX10_holds 48 = .ok (.ireturn, 1) := by decide +kernel
theorem dX10_holds_49 : decode cX10_holds 49 = .ok (.aload_n 0, 1) := by decide +kernel
theorem dX10_holds_50 : decode cX10_holds 50 = .ok (.iload_n 1, 1) := by decide +kernel
theorem dX10_holds_51 : decode cX10_holds 51 = .ok (.iload_n 2, 1) := by decide +kernel
theorem dX10_holds_52 : decode cX10_holds 52 = .ok (.invokevirtual 223, 3) := by decide +kernel
theorem dX10_holds_55 : decode cX10_holds 55 = .ok (.iload_n 3, 1) := by decide +kernel
theorem dX10_holds_56 : decode cX10_holds 56 = .ok (.ifCond .ne 10, 3) := by decide +kernel
theorem dX10_holds_59 : decode cX10_holds 59 = .ok (.aload_n 0, 1) := by decide +kernel
theorem dX10_holds_60 : decode cX10_holds 60 = .ok (.getfield 214, 3) := by decide +kernel
theorem dX10_holds_63 : decode cX10_holds 63 = .ok (.goto 35, 3) := by decide +kernel
theorem dX10_holds_66 : decode cX10_holds 66 = .ok (.iload_n 3, 1) := by decide +kernel
theorem dX10_holds_67 : decode cX10_holds 67 = .ok (.iconst 1, 1) := by decide +kernel
theorem dX10_holds_68 : decode cX10_holds 68 = .ok (.if_icmp .ne 10, 3) := by decide +kernel
theorem dX10_holds_71 : decode cX10_holds 71 = .ok (.aload_n 0, 1) := by decide +kernel
theorem dX10_holds_72 : decode cX10_holds 72 = .ok (.getfield 217, 3) := by decide +kernel
theorem dX10_holds_75 : decode cX10_holds 75 = .ok (.goto 23, 3) := by decide +kernel
theorem dX10_holds_78 : decode cX10_holds 78 = .ok (.aload_n 0, 1) := by decide +kernel
theorem dX10_holds_79 : decode cX10_holds 79 = .ok (.getfield 217, 3) := by decide +kernel
theorem dX10_holds_82 : decode cX10_holds 82 = .ok (.iconst 4, 1) := by decide +kernel
theorem dX10_holds_83 : decode cX10_holds 83 = .ok (.if_icmp .ne 13, 3) := by decide +kernel
theorem dX10_holds_86 : decode cX10_holds 86 = .ok (.aload_n 0, 1) := by decide +kernel
theorem dX10_holds_87 : decode cX10_holds 87 = .ok (.getfield 41, 3) := by decide +kernel
theorem dX10_holds_90 : decode cX10_holds 90 = .ok (.invokestatic 211, 3) := by decide +kernel
theorem dX10_holds_93 : decode cX10_holds 93 = .ok (.goto 5, 3) := by decide +kernel
theorem dX10_holds_96 : decode cX10_holds 96 = .ok (.ldc 200, 2) := by decide +kernel
theorem dX10_holds_98 : decode cX10_holds 98 = .ok (.ireturn, 1) := by decide +kernel
set_option maxRecDepth 20000 in
theorem ggX10_longest_X10_in : GoodIn wsX10_longest wsX10_in := goodIn_r _ [9] (by decide +kernel) (by decide +kernel)
set_option maxRecDepth 20000 in
theorem gX10_longest_X10_in : GoodIn wsX10_longest (va_wsS RX10 51 yX10_in wsX10_in) := goodIn_app (goodIn_of _ (by decide +kernel)) ggX10_longest_X10_in
set_option maxRecDepth 20000 in
theorem ggX10_longest_X10_habit : GoodIn wsX10_longest wsX10_habit := goodIn_r _ [13, 14, 15, 5, 16, 17, 18, 19, 8, 20, 21, 22, 23, 24, 25, 26, 27, 28, 29, 30, 31, 32, 33, 34, 35, 36, 37, 38, 39, 40, 41, 42, 43, 44, 45, 46, 47, 48, 49, 50, 51, 52, 53, 54, 55, 56, 57, 58, 59, 60, 61, 62, 63, 64, 65, 66, 67, 68, 69, 70, 71, 72, 73, 74, 75, 76, 77, 78, 79, 80, 81, 82, 83, 84, 85, 86, 87, 88, 89, 90, 91, 92, 93] (by decide +kernel) (by decide +kernel)
set_option maxRecDepth 20000 in
theorem gX10_longest_X10_habit : GoodIn wsX10_longest (wsV RX10 223 RX10 yX10_habit wsX10_habit) := goodIn_app (goodIn_of _ (by decide +kernel)) ggX10_longest_X10_habit
theorem dX10_longest_0 : decode cX10_longest 0 = .ok (.aload_n 0, 1) := by decide +kernel
theorem dX10_longest_1 : decode cX10_longest 1 = .ok (.getfield 137, 3) := by decide +kernel
theorem dX10_longest_4 : decode cX10_longest 4 = .ok (.ifCond .ne 6, 3) := by decide +kernel
theorem dX10_longest_7 : decode cX10_longest 7 = .ok (.ldc 159, 2) := by decide +kernel
theorem dX10_longest_9 : decode cX10_longest 9 = .ok (.ireturn, 1) := by decide +kernel
theorem dX10_longest_10 : decode cX10_longest 10 = .ok (.iload_n 1, 1) := by decide +kernel
theorem dX10_longest_11 : decode cX10_longest 11 = .ok (.i2l, 1) := by decide +kernel
theorem dX10_longest_12 : decode cX10_longest 12 = .ok (.lconst 0, 1) := by decide +kernel
theorem dX10_longest_13 : decode cX10_longest 13 = .ok (.ldc2_w 59, 3) := by decide +kernel
theorem dX10_longest_16 : decode cX10_longest 16 = .ok (.invokestatic 51, 3) := by decide +kernel
theorem dX10_longest_19 : decode cX10_longest 19 = .ok (.ifCond .ne 6, 3) := by decide +kernel
theorem dX10_longest_22 : decode cX10_longest 22 = .ok (.ldc 61, 2) := by decide +kernel
theorem dX10_longest_24 : decode cX10_longest 24 = .ok (.ireturn, 1) := by decide +kernel
theorem dX10_longest_25 : decode cX10_longest 25 = .ok (.iconst (-1), 1) := by decide +kernel
theorem dX10_longest_26 : decode cX10_longest 26 = .ok (.istore_n 2, 1) := by decide +kernel
theorem dX10_longest_27 : decode cX10_longest 27 = .ok (.iconst 0, 1) := by decide +kernel
theorem dX10_longest_28 : decode cX10_longest 28 = .ok (.istore_n 3, 1) := by decide +kernel
theorem dX10_longest_29 : decode cX10_longest 29 = .ok (.iconst 0, 1) := by decide +kernel
theorem dX10_longest_30 : decode cX10_longest 30 = .ok (.istore 4, 2) := by decide +kernel
theorem dX10_longest_32 : decode cX10_longest 32 = .ok (.iload 4, 2) := by decide +kernel
theorem dX10_longest_34 : decode cX10_longest 34 = .ok (.bipush 70, 2) := by decide +kernel
theorem dX10_longest_36 : decode cX10_longest 36 = .ok (.if_icmp .ge 55, 3) := by decide +kernel
theorem dX10_longest_39 : decode cX10_longest 39 = .ok (.aload_n 0, 1) := by decide +kernel
theorem dX10_longest_40 : decode cX10_longest 40 = .ok (.iload 4, 2) := by decide +kernel
theorem dX10_longest_42 : decode cX10_longest 42 = .ok (.bipush 10, 2) := by decide +kernel
theorem dX10_longest_44 : decode cX10_longest 44 = .ok (.idiv, 1) := by decide +kernel
theorem dX10_longest_45 : decode cX10_longest 45 = .ok (.iload 4, 2) := by decide +kernel
theorem dX10_longest_47 : decode cX10_longest 47 = .ok (.bipush 10, 2) := by decide +kernel
theorem dX10_longest_49 : decode cX10_longest 49 = .ok (.irem, 1) := by decide +kernel
theorem dX10_longest_50 : decode cX10_longest 50 = .ok (.invokevirtual 223, 3) := by decide +kernel
theorem dX10_longest_53 : decode cX10_longest 53 = .ok (.aload_n 0, 1) := by decide +kernel
theorem dX10_longest_54 : decode cX10_longest 54 = .ok (.getfield 214, 3) := by decide +kernel
theorem dX10_longest_57 : decode cX10_longest 57 = .ok (.iload_n 2, 1) := by decide +kernel
theorem dX10_longest_58 : decode cX10_longest 58 = .ok (.if_icmp .le 8, 3) := by decide +kernel
theorem dX10_longest_61 : decode cX10_longest 61 = .ok (.iload 4, 2) := by decide +kernel
theorem dX10_longest_63 : decode cX10_longest 63 = .ok (.goto 4, 3) := by decide +kernel
theorem dX10_longest_66 : decode cX10_longest 66 = .ok (.iload_n 3, 1) := by decide +kernel
theorem dX10_longest_67 : decode cX10_longest 67 = .ok (.istore_n 3, 1) := by decide +kernel
theorem dX10_longest_68 : decode cX10_longest 68 = .ok (.aload_n 0, 1) := by decide +kernel
theorem dX10_longest_69 : decode cX10_longest 69 = .ok (.getfield 214, 3) := by decide +kernel
theorem dX10_longest_72 : decode cX10_longest 72 = .ok (.iload_n 2, 1) := by decide +kernel
theorem dX10_longest_73 : decode cX10_longest 73 = .ok (.if_icmp .le 10, 3) := by decide +kernel
theorem dX10_longest_76 : decode cX10_longest 76 = .ok (.aload_n 0, 1) := by decide +kernel
theorem dX10_longest_77 : decode cX10_longest 77 = .ok (.getfield 214, 3) := by decide +kernel
theorem dX10_longest_80 : decode cX10_longest 80 = .ok (.goto 4, 3) := by decide +kernel
theorem dX10_longest_83 : decode cX10_longest 83 = .ok (.iload_n 2, 1) := by decide +kernel
theorem dX10_longest_84 : decode cX10_longest 84 = .ok (.istore_n 2, 1) := by decide +kernel
theorem dX10_longest_85 : decode cX10_longest 85 = .ok (.iinc 4 1, 3) := by decide +kernel
theorem dX10_longest_88 : decode cX10_longest 88 = .ok (.goto (-56), 3) := by decide +kernel
theorem dX10_longest_91 : decode cX10_longest 91 = .ok (.iload_n 1, 1) := by decide +kernel
theorem dX10_longest_92 : decode cX10_longest 92 = .ok (.ifCond .ne 10, 3) := by decide +kernel
theorem dX10_longest_95 : decode cX10_longest 95 = .ok (.iload_n 3, 1) := by decide +kernel
theorem dX10_longest_96 : decode cX10_longest 96 = .ok (.bipush 10, 2) := by decide +kernel
theorem dX10_longest_98 : decode cX10_longest 98 = .ok (.idiv, 1) := by decide +kernel
theorem dX10_longest_99 : decode cX10_longest 99 = .ok (.goto 16, 3) := by decide +kernel
theorem dX10_longest_102 : decode cX10_longest 102 = .ok (.iload_n 1, 1) := by decide +kernel
theorem dX10_longest_103 : decode cX10_longest 103 = .ok (.iconst 1, 1) := by decide +kernel
theorem dX10_longest_104 : decode cX10_longest 104 = .ok (.if_icmp .ne 10, 3) := by decide +kernel
theorem dX10_longest_107 : decode cX10_longest 107 = .ok (.iload_n 3, 1) := by decide +kernel
theorem dX10_longest_108 : decode cX10_longest 108 = .ok (.bipush 10, 2) := by decide +kernel
theorem dX10_longest_110 : decode cX10_longest 110 = .ok (.irem, 1) := by decide +kernel
theorem dX10_longest_111 : decode cX10_longest 111 = .ok (.goto 4, 3) := by decide +kernel
theorem dX10_longest_114 : decode cX10_longest 114 = .ok (.iload_n 2, 1) := by decide +kernel
theorem dX10_longest_115 : decode cX10_longest 115 = .ok (.ireturn, 1) := by decide +kernel
set_option maxRecDepth 20000 in
theorem ggX10_knowsBy_X10_copies : GoodIn wsX10_knowsBy wsX10_copies := goodIn_r _ [7] (by decide +kernel) (by decide +kernel)
set_option maxRecDepth 20000 in
theorem gX10_knowsBy_X10_copies : GoodIn wsX10_knowsBy (va_wsS RX10 144 yX10_copies wsX10_copies) := goodIn_app (goodIn_of _ (by decide +kernel)) ggX10_knowsBy_X10_copies
set_option maxRecDepth 20000 in
theorem ggX10_knowsBy_X10_undoneBy : GoodIn wsX10_knowsBy wsX10_undoneBy := goodIn_r _ [10, 11, 12, 6, 13, 14, 15, 16] (by decide +kernel) (by decide +kernel)
set_option maxRecDepth 20000 in
theorem gX10_knowsBy_X10_undoneBy : GoodIn wsX10_knowsBy (va_wsS RX10 208 yX10_undoneBy wsX10_undoneBy) := goodIn_app (goodIn_of _ (by decide +kernel)) ggX10_knowsBy_X10_undoneBy
set_option maxRecDepth 20000 in
theorem ggX10_knowsBy_X10_undoes : GoodIn wsX10_knowsBy wsX10_undoes := goodIn_r _ [19, 20, 21, 6, 22] (by decide +kernel) (by decide +kernel)
set_option maxRecDepth 20000 in
theorem gX10_knowsBy_X10_undoes : GoodIn wsX10_knowsBy (va_wsS RX10 189 yX10_undoes wsX10_undoes) := goodIn_app (goodIn_of _ (by decide +kernel)) ggX10_knowsBy_X10_undoes
set_option maxRecDepth 20000 in
theorem ggX10_knowsBy_X10_knows : GoodIn wsX10_knowsBy wsX10_knows := goodIn_r _ [25] (by decide +kernel) (by decide +kernel)
set_option maxRecDepth 20000 in
theorem gX10_knowsBy_X10_knows : GoodIn wsX10_knowsBy (va_wsS RX10 197 yX10_knows wsX10_knows) := goodIn_app (goodIn_of _ (by decide +kernel)) ggX10_knowsBy_X10_knows
set_option maxRecDepth 20000 in
theorem ggX10_knowsBy_X10_wovenBy : GoodIn wsX10_knowsBy wsX10_wovenBy := goodIn_r _ [28, 14, 15, 6, 16] (by decide +kernel) (by decide +kernel)
set_option maxRecDepth 20000 in
theorem gX10_knowsBy_X10_wovenBy : GoodIn wsX10_knowsBy (va_wsS RX10 205 yX10_wovenBy wsX10_wovenBy) := goodIn_app (goodIn_of _ (by decide +kernel)) ggX10_knowsBy_X10_wovenBy
set_option maxRecDepth 20000 in
theorem ggX10_knowsBy_X10_wants : GoodIn wsX10_knowsBy wsX10_wants := goodIn_r _ [31] (by decide +kernel) (by decide +kernel)
set_option maxRecDepth 20000 in
theorem gX10_knowsBy_X10_wants : GoodIn wsX10_knowsBy (va_wsS RX10 162 yX10_wants wsX10_wants) := goodIn_app (goodIn_of _ (by decide +kernel)) ggX10_knowsBy_X10_wants
set_option maxRecDepth 20000 in
theorem ggX10_knowsBy_X10_yarn : GoodIn wsX10_knowsBy wsX10_yarn := goodIn_r _ [34] (by decide +kernel) (by decide +kernel)
set_option maxRecDepth 20000 in
theorem gX10_knowsBy_X10_yarn : GoodIn wsX10_knowsBy (va_wsS RX10 165 yX10_yarn wsX10_yarn) := goodIn_app (goodIn_of _ (by decide +kernel)) ggX10_knowsBy_X10_yarn
set_option maxRecDepth 20000 in
theorem ggX10_knowsBy_X10_weaves : GoodIn wsX10_knowsBy wsX10_weaves := goodIn_r _ [37] (by decide +kernel) (by decide +kernel)
set_option maxRecDepth 20000 in
theorem gX10_knowsBy_X10_weaves : GoodIn wsX10_knowsBy (va_wsS RX10 172 yX10_weaves wsX10_weaves) := goodIn_app (goodIn_of _ (by decide +kernel)) ggX10_knowsBy_X10_weaves
set_option maxRecDepth 20000 in
theorem ggX10_knowsBy_X10_looks : GoodIn wsX10_knowsBy wsX10_looks := goodIn_r _ [40, 20, 21, 6, 22, 41, 42, 43, 44, 45, 46] (by decide +kernel) (by decide +kernel)
set_option maxRecDepth 20000 in
theorem gX10_knowsBy_X10_looks : GoodIn wsX10_knowsBy (va_wsS RX10 176 yX10_looks wsX10_looks) := goodIn_app (goodIn_of _ (by decide +kernel)) ggX10_knowsBy_X10_looks
theorem dX10_knowsBy_0 : decode cX10_knowsBy 0 = .ok (.aload_n 0, 1) := by decide +kernel
theorem dX10_knowsBy_1 : decode cX10_knowsBy 1 = .ok (.getfield 22, 3) := by decide +kernel
theorem dX10_knowsBy_4 : decode cX10_knowsBy 4 = .ok (.iconst 0, 1) := by decide +kernel
theorem dX10_knowsBy_5 : decode cX10_knowsBy 5 = .ok (.aload_n 0, 1) := by decide +kernel
theorem dX10_knowsBy_6 : decode cX10_knowsBy 6 = .ok (.getfield 41, 3) := by decide +kernel
theorem dX10_knowsBy_9 : decode cX10_knowsBy 9 = .ok (.iconst 0, 1) := by decide +kernel
theorem dX10_knowsBy_10 : decode cX10_knowsBy 10 = .ok (.invokestatic 144, 3) := by decide +kernel
theorem dX10_knowsBy_13 : decode cX10_knowsBy 13 = .ok (.aload_n 0, 1) := by decide +kernel
theorem dX10_knowsBy_14 : decode cX10_knowsBy 14 = .ok (.getfield 41, 3) := by decide +kernel
theorem dX10_knowsBy_17 : decode cX10_knowsBy 17 = .ok (.bipush 28, 2) := by decide +kernel
theorem dX10_knowsBy_19 : decode cX10_knowsBy 19 = .ok (.iload_n 1, 1) := by decide +kernel
theorem dX10_knowsBy_20 : decode cX10_knowsBy 20 = .ok (.iadd, 1) := by decide +kernel
theorem dX10_knowsBy_21 : decode cX10_knowsBy 21 = .ok (.iload_n 2, 1) := by decide +kernel
theorem dX10_knowsBy_22 : decode cX10_knowsBy 22 = .ok (.iastore, 1) := by decide +kernel
theorem dX10_knowsBy_23 : decode cX10_knowsBy 23 = .ok (.aload_n 0, 1) := by decide +kernel
theorem dX10_knowsBy_24 : decode cX10_knowsBy 24 = .ok (.getfield 41, 3) := by decide +kernel
theorem dX10_knowsBy_27 : decode cX10_knowsBy 27 = .ok (.bipush 9, 2) := by decide +kernel
theorem dX10_knowsBy_29 : decode cX10_knowsBy 29 = .ok (.iaload, 1) := by decide +kernel
theorem dX10_knowsBy_30 : decode cX10_knowsBy 30 = .ok (.iconst 1, 1) := by decide +kernel
theorem dX10_knowsBy_31 : decode cX10_knowsBy 31 = .ok (.if_icmp .ne 32, 3) := by decide +kernel
theorem dX10_knowsBy_34 : decode cX10_knowsBy 34 = .ok (.aload_n 0, 1) := by decide +kernel
theorem dX10_knowsBy_35 : decode cX10_knowsBy 35 = .ok (.getfield 41, 3) := by decide +kernel
theorem dX10_knowsBy_38 : decode cX10_knowsBy 38 = .ok (.aload_n 0, 1) := by decide +kernel
theorem dX10_knowsBy_39 : decode cX10_knowsBy 39 = .ok (.getfield 41, 3) := by decide +kernel
theorem dX10_knowsBy_42 : decode cX10_knowsBy 42 = .ok (.iload 4, 2) := by decide +kernel
theorem dX10_knowsBy_44 : decode cX10_knowsBy 44 = .ok (.invokestatic 208, 3) := by decide +kernel
theorem dX10_knowsBy_47 : decode cX10_knowsBy 47 = .ok (.invokestatic 189, 3) := by decide +kernel
theorem dX10_knowsBy_50 : decode cX10_knowsBy 50 = .ok (.aload_n 0, 1) := by decide +kernel
theorem dX10_knowsBy_51 : decode cX10_knowsBy 51 = .ok (.getfield 41, 3) := by decide +kernel
theorem dX10_knowsBy_54 : decode cX10_knowsBy 54 = .ok (.iload_n 1, 1) := by decide +kernel
theorem dX10_knowsBy_55 : decode cX10_knowsBy 55 = .ok (.invokestatic 197, 3) := by decide +kernel
theorem dX10_knowsBy_58 : decode cX10_knowsBy 58 = .ok (.ifCond .eq 5, 3) := by decide +kernel
theorem dX10_knowsBy_61 : decode cX10_knowsBy 61 = .ok (.iconst 1, 1) := by decide +kernel
theorem dX10_knowsBy_62 : decode cX10_knowsBy 62 = .ok (.ireturn, 1) := by decide +kernel
theorem dX10_knowsBy_63 : decode cX10_knowsBy 63 = .ok (.iconst 1, 1) := by decide +kernel
theorem dX10_knowsBy_64 : decode cX10_knowsBy 64 = .ok (.istore 5, 2) := by decide +kernel
theorem dX10_knowsBy_66 : decode cX10_knowsBy 66 = .ok (.iload 5, 2) := by decide +kernel
theorem dX10_knowsBy_68 : decode cX10_knowsBy 68 = .ok (.sipush 200, 3) := by decide +kernel
theorem dX10_knowsBy_71 : decode cX10_knowsBy 71 = .ok (.if_icmp .gt 120, 3) := by decide +kernel
theorem dX10_knowsBy_74 : decode cX10_knowsBy 74 = .ok (.aload_n 0, 1) := by decide +kernel
theorem dX10_knowsBy_75 : decode cX10_knowsBy 75 = .ok (.getfield 41, 3) := by decide +kernel
theorem dX10_knowsBy_78 : decode cX10_knowsBy 78 = .ok (.iload_n 3, 1) := by decide +kernel
theorem dX10_knowsBy_79 : decode cX10_knowsBy 79 = .ok (.invokestatic 205, 3) := by decide +kernel
theorem dX10_knowsBy_82 : decode cX10_knowsBy 82 = .ok (.istore 6, 2) := by decide +kernel
theorem dX10_knowsBy_84 : decode cX10_knowsBy 84 = .ok (.aload_n 0, 1) := by decide +kernel
theorem dX10_knowsBy_85 : decode cX10_knowsBy 85 = .ok (.getfield 41, 3) := by decide +kernel
theorem dX10_knowsBy_88 : decode cX10_knowsBy 88 = .ok (.iload 6, 2) := by decide +kernel
theorem dX10_knowsBy_90 : decode cX10_knowsBy 90 = .ok (.invokestatic 162, 3) := by decide +kernel
theorem dX10_knowsBy_93 : decode cX10_knowsBy 93 = .ok (.aload_n 0, 1) := by decide +kernel
theorem dX10_knowsBy_94 : decode cX10_knowsBy 94 = .ok (.getfield 41, 3) := by decide +kernel
theorem dX10_knowsBy_97 : decode cX10_knowsBy 97 = .ok (.invokestatic 165, 3) := by decide +kernel
theorem dX10_knowsBy_100 : decode cX10_knowsBy 100 = .ok (.if_icmp .le 6, 3) := by decide +kernel
theorem dX10_knowsBy_103 : decode cX10_knowsBy 103 = .ok (.ldc 200, 2) := by decide +kernel
theorem dX10_knowsBy_105 : decode cX10_knowsBy 105 = .ok (.ireturn, 1) := by decide +kernel
theorem dX10_knowsBy_106 : decode cX10_knowsBy 106 = .ok (.aload_n 0, 1) := by decide +kernel
theorem dX10_knowsBy_107 : decode cX10_knowsBy 107 = .ok (.getfield 41, 3) := by decide +kernel
theorem dX10_knowsBy_110 : decode cX10_knowsBy 110 = .ok (.iload 6, 2) := by decide +kernel
theorem dX10_knowsBy_112 : decode cX10_knowsBy 112 = .ok (.invokestatic 172, 3) := by decide +kernel
theorem dX10_knowsBy_115 : decode cX10_knowsBy 115 = .ok (.aload_n 0, 1) := by decide +kernel
theorem dX10_knowsBy_116 : decode cX10_knowsBy 116 = .ok (.getfield 41, 3) := by decide +kernel
theorem dX10_knowsBy_119 : decode cX10_knowsBy 119 = .ok (.invokestatic 176, 3) := by decide +kernel
theorem dX10_knowsBy_122 : decode cX10_knowsBy 122 = .ok (.aload_n 0, 1) := by decide +kernel
theorem dX10_knowsBy_123 : decode cX10_knowsBy 123 = .ok (.getfield 41, 3) := by decide +kernel
theorem dX10_knowsBy_126 : decode cX10_knowsBy 126 = .ok (.iload_n 1, 1) := by decide +kernel
theorem dX10_knowsBy_127 : decode cX10_knowsBy 127 = .ok (.invokestatic 197, 3) := by decide +kernel
theorem dX10_knowsBy_130 : decode cX10_knowsBy 130 = .ok (.ifCond .eq 6, 3) := by decide +kernel
theorem dX10_knowsBy_133 : decode cX10_knowsBy 133 = .ok (.iload 5, 2) := by decide +kernel
theorem dX10_knowsBy_135 : decode cX10_knowsBy 135 = .ok (.ireturn, 1) := by decide +kernel
theorem dX10_knowsBy_136 : decode cX10_knowsBy 136 = .ok (.aload_n 0, 1) := by decide +kernel
theorem dX10_knowsBy_137 : decode cX10_knowsBy 137 = .ok (.getfield 41, 3) := by decide +kernel
theorem dX10_knowsBy_140 : decode cX10_knowsBy 140 = .ok (.bipush 10, 2) := by decide +kernel
theorem dX10_knowsBy_142 : decode cX10_knowsBy 142 = .ok (.iaload, 1) := by decide +kernel
theorem dX10_knowsBy_143 : decode cX10_knowsBy 143 = .ok (.aload_n 0, 1) := by decide +kernel
theorem dX10_knowsBy_144 : decode cX10_knowsBy 144 = .ok (.getfield 41, 3) := by decide +kernel
theorem dX10_knowsBy_147 : decode cX10_knowsBy 147 = .ok (.iconst 0, 1) := by decide +kernel
theorem dX10_knowsBy_148 : decode cX10_knowsBy 148 = .ok (.iaload, 1) := by decide +kernel
theorem dX10_knowsBy_149 : decode cX10_knowsBy 149 = .ok (.if_icmp .ne 6, 3) := by decide +kernel
theorem dX10_knowsBy_152 : decode cX10_knowsBy 152 = .ok (.ldc 200, 2) := by decide +kernel
theorem dX10_knowsBy_154 : decode cX10_knowsBy 154 = .ok (.ireturn, 1) := by decide +kernel
theorem dX10_knowsBy_155 : decode cX10_knowsBy 155 = .ok (.aload_n 0, 1) := by decide +kernel
theorem dX10_knowsBy_156 : decode cX10_knowsBy 156 = .ok (.getfield 41, 3) := by decide +kernel
theorem dX10_knowsBy_159 : decode cX10_knowsBy 159 = .ok (.aload_n 0, 1) := by decide +kernel
theorem dX10_knowsBy_160 : decode cX10_knowsBy 160 = .ok (.getfield 41, 3) := by decide +kernel
theorem dX10_knowsBy_163 : decode cX10_knowsBy 163 = .ok (.iload 4, 2) := by decide +kernel
theorem dX10_knowsBy_165 : decode cX10_knowsBy 165 = .ok (.invokestatic 208, 3) := by decide +kernel
theorem dX10_knowsBy_168 : decode cX10_knowsBy 168 = .ok (.invokestatic 189, 3) := by decide +kernel
theorem dX10_knowsBy_171 : decode cX10_knowsBy 171 = .ok (.aload_n 0, 1) := by decide +kernel
theorem dX10_knowsBy_172 : decode cX10_knowsBy 172 = .ok (.getfield 41, 3) := by decide +kernel
theorem dX10_knowsBy_175 : decode cX10_knowsBy 175 = .ok (.iload_n 1, 1) := by decide +kernel
theorem dX10_knowsBy_176 : decode cX10_knowsBy 176 = .ok (.invokestatic 197, 3) := by decide +kernel
theorem dX10_knowsBy_179 : decode cX10_knowsBy 179 = .ok (.ifCond .eq 6, 3) := by decide +kernel
theorem dX10_knowsBy_182 : decode cX10_knowsBy 182 = .ok (.iload 5, 2) := by decide +kernel
theorem dX10_knowsBy_184 : decode cX10_knowsBy 184 = .ok (.ireturn, 1) := by decide +kernel
theorem dX10_knowsBy_185 : decode cX10_knowsBy 185 = .ok (.iinc 5 1, 3) := by decide +kernel
theorem dX10_knowsBy_188 : decode cX10_knowsBy 188 = .ok (.goto (-122), 3) := by decide +kernel
theorem dX10_knowsBy_191 : decode cX10_knowsBy 191 = .ok (.ldc 200, 2) := by decide +kernel
theorem dX10_knowsBy_193 : decode cX10_knowsBy 193 = .ok (.ireturn, 1) := by decide +kernel
set_option maxRecDepth 20000 in
theorem ggX10_soonest_X10_isSuitor : GoodIn wsX10_soonest wsX10_isSuitor := goodIn_r _ [10, 4, 11, 12, 9, 13, 64, 65, 66, 67, 68, 69, 70, 71, 72, 73, 74, 75, 76, 77, 78, 79, 80, 81, 82, 83, 84, 85, 86, 87] (by decide +kernel) (by decide +kernel)
set_option maxRecDepth 20000 in
theorem gX10_soonest_X10_isSuitor : GoodIn wsX10_soonest (wsV RX10 192 RX10 yX10_isSuitor wsX10_isSuitor) := goodIn_app (goodIn_of _ (by decide +kernel)) ggX10_soonest_X10_isSuitor
set_option maxRecDepth 20000 in
theorem ggX10_soonest_X10_in : GoodIn wsX10_soonest wsX10_in := goodIn_r _ [13] (by decide +kernel) (by decide +kernel)
set_option maxRecDepth 20000 in
theorem gX10_soonest_X10_in : GoodIn wsX10_soonest (va_wsS RX10 51 yX10_in wsX10_in) := goodIn_app (goodIn_of _ (by decide +kernel)) ggX10_soonest_X10_in
set_option maxRecDepth 20000 in
theorem ggX10_soonest_X10_isTwo : GoodIn wsX10_soonest wsX10_isTwo := goodIn_r _ [16, 11, 12, 9, 13] (by decide +kernel) (by decide +kernel)
set_option maxRecDepth 20000 in
theorem gX10_soonest_X10_isTwo : GoodIn wsX10_soonest (va_wsS RX10 227 yX10_isTwo wsX10_isTwo) := goodIn_app (goodIn_of _ (by decide +kernel)) ggX10_soonest_X10_isTwo
set_option maxRecDepth 20000 in
theorem ggX10_soonest_X10_knows : GoodIn wsX10_soonest wsX10_knows := goodIn_r _ [19] (by decide +kernel) (by decide +kernel)
set_option maxRecDepth 20000 in
theorem gX10_soonest_X10_knows : GoodIn wsX10_soonest (va_wsS RX10 197 yX10_knows wsX10_knows) := goodIn_app (goodIn_of _ (by decide +kernel)) ggX10_soonest_X10_knows
set_option maxRecDepth 20000 in
theorem ggX10_soonest_X10_knowsBy : GoodIn wsX10_soonest wsX10_knowsBy := goodIn_r _ [23, 4, 24, 5, 25, 26, 9, 27, 28, 29, 30, 31, 32, 33, 34, 35, 36, 37, 38, 39, 40, 41, 42, 17, 18, 19, 43, 44, 45, 46, 47, 48, 49, 50, 51, 52, 53, 54, 55, 56, 57, 58, 59, 60, 61, 62, 63, 64, 65, 66, 67, 68, 69, 70, 71, 72, 73, 74, 75, 76, 77, 78, 79, 80, 81, 82, 83, 84, 85, 86, 87] (by decide +kernel) (by decide +kernel)
set_option maxRecDepth 20000 in
theorem gX10_soonest_X10_knowsBy : GoodIn wsX10_soonest (wsV RX10 230 RX10 yX10_knowsBy wsX10_knowsBy) := goodIn_app (goodIn_of _ (by decide +kernel)) ggX10_soonest_X10_knowsBy
theorem dX10_soonest_0 : decode cX10_soonest 0 = .ok (.aload_n 0, 1) := by decide +kernel
theorem dX10_soonest_1 : decode cX10_soonest 1 = .ok (.iload_n 1, 1) := by decide +kernel
theorem dX10_soonest_2 : decode cX10_soonest 2 = .ok (.invokevirtual 192, 3) := by decide +kernel
theorem dX10_soonest_5 : decode cX10_soonest 5 = .ok (.ifCond .eq 35, 3) := by decide +kernel
theorem dX10_soonest_8 : decode cX10_soonest 8 = .ok (.iload_n 2, 1) := by decide +kernel
theorem dX10_soonest_9 : decode cX10_soonest 9 = .ok (.i2l, 1) := by decide +kernel
theorem dX10_soonest_10 : decode cX10_soonest 10 = .ok (.lconst 0, 1) := by decide +kernel
theorem dX10_soonest_11 : decode cX10_soonest 11 = .ok (.ldc2_w 160, 3) := by decide +kernel
theorem dX10_soonest_14 : decode cX10_soonest 14 = .ok (.invokestatic 51, 3) := by decide +kernel
theorem dX10_soonest_17 : decode cX10_soonest 17 = .ok (.ifCond .eq 23, 3) := by decide +kernel
theorem dX10_soonest_20 : decode cX10_soonest 20 = .ok (.iload_n 3, 1) := by decide +kernel
theorem dX10_soonest_21 : decode cX10_soonest 21 = .ok (.i2l, 1) := by decide +kernel
theorem dX10_soonest_22 : decode cX10_soonest 22 = .ok (.lconst 0, 1) := by decide +kernel
theorem dX10_soonest_23 : decode cX10_soonest 23 = .ok (.ldc2_w 184, 3) := by decide +kernel
theorem dX10_soonest_26 : decode cX10_soonest 26 = .ok (.invokestatic 51, 3) := by decide +kernel
theorem dX10_soonest_29 : decode cX10_soonest 29 = .ok (.ifCond .eq 11, 3) := by decide +kernel
theorem dX10_soonest_32 : decode cX10_soonest 32 = .ok (.iload 4, 2) := by decide +kernel
theorem dX10_soonest_34 : decode cX10_soonest 34 = .ok (.invokestatic 227, 3) := by decide +kernel
theorem dX10_soonest_37 : decode cX10_soonest 37 = .ok (.ifCond .ne 6, 3) := by decide +kernel
theorem dX10_soonest_40 : decode cX10_soonest 40 = .ok (.ldc 61, 2) := by decide +kernel
theorem dX10_soonest_42 : decode cX10_soonest 42 = .ok (.ireturn, 1) := by decide +kernel
theorem dX10_soonest_43 : decode cX10_soonest 43 = .ok (.aload_n 0, 1) := by decide +kernel
theorem dX10_soonest_44 : decode cX10_soonest 44 = .ok (.getfield 22, 3) := by decide +kernel
theorem dX10_soonest_47 : decode cX10_soonest 47 = .ok (.iload_n 1, 1) := by decide +kernel
theorem dX10_soonest_48 : decode cX10_soonest 48 = .ok (.invokestatic 197, 3) := by decide +kernel
theorem dX10_soonest_51 : decode cX10_soonest 51 = .ok (.ifCond .eq 14, 3) := by decide +kernel
theorem dX10_soonest_54 : decode cX10_soonest 54 = .ok (.iload 4, 2) := by decide +kernel
theorem dX10_soonest_56 : decode cX10_soonest 56 = .ok (.ifCond .ne 7, 3) := by decide +kernel
theorem dX10_soonest_59 : decode cX10_soonest 59 = .ok (.iconst 1, 1) := by decide +kernel
theorem dX10_soonest_60 : decode cX10_soonest 60 = .ok (.goto 4, 3) := by decide +kernel
theorem dX10_soonest_63 : decode cX10_soonest 63 = .ok (.iconst 0, 1) := by decide +kernel
theorem dX10_soonest_64 : decode cX10_soonest 64 = .ok (.ireturn, 1) := by decide +kernel
theorem dX10_soonest_65 : decode cX10_soonest 65 = .ok (.ldc 200, 2) := by decide +kernel
theorem dX10_soonest_67 : decode cX10_soonest 67 = .ok (.istore 5, 2) := by decide +kernel
theorem dX10_soonest_69 : decode cX10_soonest 69 = .ok (.ldc 200, 2) := by decide +kernel
theorem dX10_soonest_71 : decode cX10_soonest 71 = .ok (.istore 6, 2) := by decide +kernel
theorem dX10_soonest_73 : decode cX10_soonest 73 = .ok (.iconst 1, 1) := by decide +kernel
theorem dX10_soonest_74 : decode cX10_soonest 74 = .ok (.istore 7, 2) := by decide +kernel
theorem dX10_soonest_76 : decode cX10_soonest 76 = .ok (.iload 7, 2) := by decide +kernel
theorem dX10_soonest_78 : decode cX10_soonest 78 = .ok (.bipush 10, 2) := by decide +kernel
theorem dX10_soonest_80 : decode cX10_soonest 80 = .ok (.if_icmp .ge 49, 3) := by decide +kernel
theorem dX10_soonest_83 : decode cX10_soonest 83 = .ok (.aload_n 0, 1) := by decide +kernel
theorem dX10_soonest_84 : decode cX10_soonest 84 = .ok (.iload_n 1, 1) := by decide +kernel
theorem dX10_soonest_85 : decode cX10_soonest 85 = .ok (.iload 7, 2) := by decide +kernel
theorem dX10_soonest_87 : decode cX10_soonest 87 = .ok (.iload_n 2, 1) := by decide +kernel
theorem dX10_soonest_88 : decode cX10_soonest 88 = .ok (.iload_n 3, 1) := by decide +kernel
theorem dX10_soonest_89 : decode cX10_soonest 89 = .ok (.invokevirtual 230, 3) := by decide +kernel
theorem dX10_soonest_92 : decode cX10_soonest 92 = .ok (.istore 8, 2) := by decide +kernel
theorem dX10_soonest_94 : decode cX10_soonest 94 = .ok (.iload 8, 2) := by decide +kernel
theorem dX10_soonest_96 : decode cX10_soonest 96 = .ok (.ldc 200, 2) := by decide +kernel
theorem dX10_soonest_98 : decode cX10_soonest 98 = .ok (.if_icmp .eq 25, 3) := by decide +kernel
theorem dX10_soonest_101 : decode cX10_soonest 101 = .ok (.iload 5, 2) := by decide +kernel
theorem dX10_soonest_103 : decode cX10_soonest 103 = .ok (.ldc 200, 2) := by decide +kernel
theorem dX10_soonest_105 : decode cX10_soonest 105 = .ok (.if_icmp .eq 10, 3) := by decide +kernel
theorem dX10_soonest_108 : decode cX10_soonest 108 = .ok (.iload 8, 2) := by decide +kernel
theorem dX10_soonest_110 : decode cX10_soonest 110 = .ok (.iload 6, 2) := by decide +kernel
theorem dX10_soonest_112 : decode cX10_soonest 112 = .ok (.if_icmp .ge 11, 3) := by decide +kernel
theorem dX10_soonest_115 : decode cX10_soonest 115 = .ok (.iload 7, 2) := by decide +kernel
theorem dX10_soonest_117 : decode cX10_soonest 117 = .ok (.istore 5, 2) := by decide +kernel
theorem dX10_soonest_119 : decode cX10_soonest 119 = .ok (.iload 8, 2) := by decide +kernel
theorem dX10_soonest_121 : decode cX10_soonest 121 = .ok (.istore 6, 2) := by decide +kernel
theorem dX10_soonest_123 : decode cX10_soonest 123 = .ok (.iinc 7 1, 3) := by decide +kernel
theorem dX10_soonest_126 : decode cX10_soonest 126 = .ok (.goto (-50), 3) := by decide +kernel
theorem dX10_soonest_129 : decode cX10_soonest 129 = .ok (.iload 4, 2) := by decide +kernel
theorem dX10_soonest_131 : decode cX10_soonest 131 = .ok (.ifCond .ne 8, 3) := by decide +kernel
theorem dX10_soonest_134 : decode cX10_soonest 134 = .ok (.iload 5, 2) := by decide +kernel
theorem dX10_soonest_136 : decode cX10_soonest 136 = .ok (.goto 5, 3) := by decide +kernel
theorem dX10_soonest_139 : decode cX10_soonest 139 = .ok (.iload 6, 2) := by decide +kernel
theorem dX10_soonest_141 : decode cX10_soonest 141 = .ok (.ireturn, 1) := by decide +kernel
set_option maxRecDepth 20000 in
theorem ggX10_alike_X10_colourAt : GoodIn wsX10_alike wsX10_colourAt := goodIn_r _ [5] (by decide +kernel) (by decide +kernel)
set_option maxRecDepth 20000 in
theorem gX10_alike_X10_colourAt : GoodIn wsX10_alike (va_wsS RX10 148 yX10_colourAt wsX10_colourAt) := goodIn_app (goodIn_of _ (by decide +kernel)) ggX10_alike_X10_colourAt
theorem dX10_alike_0 : decode cX10_alike 0 = .ok (.iconst 0, 1) := by decide +kernel
theorem dX10_alike_1 : decode cX10_alike 1 = .ok (.istore_n 3, 1) := by decide +kernel
theorem dX10_alike_2 : decode cX10_alike 2 = .ok (.iload_n 2, 1) := by decide +kernel
theorem dX10_alike_3 : decode cX10_alike 3 = .ok (.iload_n 3, 1) := by decide +kernel
theorem dX10_alike_4 : decode cX10_alike 4 = .ok (.iadd, 1) := by decide +kernel
theorem dX10_alike_5 : decode cX10_alike 5 = .ok (.aload_n 0, 1) := by decide +kernel
theorem dX10_alike_6 : decode cX10_alike 6 = .ok (.getfield 22, 3) := by decide +kernel
theorem dX10_alike_9 : decode cX10_alike 9 = .ok (.iconst 0, 1) := by decide +kernel
theorem dX10_alike_10 : decode cX10_alike 10 = .ok (.iaload, 1) := by decide +kernel
theorem dX10_alike_11 : decode cX10_alike 11 = .ok (.if_icmp .ge 32, 3) := by decide +kernel
theorem dX10_alike_14 : decode cX10_alike 14 = .ok (.aload_n 0, 1) := by decide +kernel
theorem dX10_alike_15 : decode cX10_alike 15 = .ok (.getfield 22, 3) := by decide +kernel
theorem dX10_alike_18 : decode cX10_alike 18 = .ok (.iload_n 1, 1) := by decide +kernel
theorem dX10_alike_19 : decode cX10_alike 19 = .ok (.iload_n 3, 1) := by decide +kernel
theorem dX10_alike_20 : decode cX10_alike 20 = .ok (.iadd, 1) := by decide +kernel
theorem dX10_alike_21 : decode cX10_alike 21 = .ok (.invokestatic 148, 3) := by decide +kernel
theorem dX10_alike_24 : decode cX10_alike 24 = .ok (.aload_n 0, 1) := by decide +kernel
theorem dX10_alike_25 : decode cX10_alike 25 = .ok (.getfield 22, 3) := by decide +kernel
theorem dX10_alike_28 : decode cX10_alike 28 = .ok (.iload_n 2, 1) := by decide +kernel
theorem dX10_alike_29 : decode cX10_alike 29 = .ok (.iload_n 3, 1) := by decide +kernel
theorem dX10_alike_30 : decode cX10_alike 30 = .ok (.iadd, 1) := by decide +kernel
theorem dX10_alike_31 : decode cX10_alike 31 = .ok (.invokestatic 148, 3) := by decide +kernel
theorem dX10_alike_34 : decode cX10_alike 34 = .ok (.if_icmp .ne 9, 3) := by decide +kernel
theorem dX10_alike_37 : decode cX10_alike 37 = .ok (.iinc 3 1, 3) := by decide +kernel
theorem dX10_alike_40 : decode cX10_alike 40 = .ok (.goto (-38), 3) := by decide +kernel
theorem dX10_alike_43 : decode cX10_alike 43 = .ok (.iload_n 3, 1) := by decide +kernel
theorem dX10_alike_44 : decode cX10_alike 44 = .ok (.ireturn, 1) := by decide +kernel
set_option maxRecDepth 20000 in
theorem ggX10_twice_X10_in : GoodIn wsX10_twice wsX10_in := goodIn_r _ [10] (by decide +kernel) (by decide +kernel)
set_option maxRecDepth 20000 in
theorem gX10_twice_X10_in : GoodIn wsX10_twice (va_wsS RX10 51 yX10_in wsX10_in) := goodIn_app (goodIn_of _ (by decide +kernel)) ggX10_twice_X10_in
set_option maxRecDepth 20000 in
theorem ggX10_twice_X10_alike : GoodIn wsX10_twice wsX10_alike := goodIn_r _ [14, 6, 15, 16, 9, 17, 18, 19, 20, 21, 22, 23, 24, 25, 26, 27, 28, 29, 30, 31, 32, 33, 34, 35, 36, 37, 38, 39, 40, 41] (by decide +kernel) (by decide +kernel)
set_option maxRecDepth 20000 in
theorem gX10_twice_X10_alike : GoodIn wsX10_twice (wsV RX10 234 RX10 yX10_alike wsX10_alike) := goodIn_app (goodIn_of _ (by decide +kernel)) ggX10_twice_X10_alike
theorem dX10_twice_0 : decode cX10_twice 0 = .ok (.aload_n 0, 1) := by decide +kernel
theorem dX10_twice_1 : decode cX10_twice 1 = .ok (.getfield 137, 3) := by decide +kernel
theorem dX10_twice_4 : decode cX10_twice 4 = .ok (.ifCond .ne 6, 3) := by decide +kernel
theorem dX10_twice_7 : decode cX10_twice 7 = .ok (.ldc 159, 2) := by decide +kernel
theorem dX10_twice_9 : decode cX10_twice 9 = .ok (.ireturn, 1) := by decide +kernel
theorem dX10_twice_10 : decode cX10_twice 10 = .ok (.iload_n 1, 1) := by decide +kernel
theorem dX10_twice_11 : decode cX10_twice 11 = .ok (.i2l, 1) := by decide +kernel
theorem dX10_twice_12 : decode cX10_twice 12 = .ok (.lconst 0, 1) := by decide +kernel
theorem dX10_twice_13 : decode cX10_twice 13 = .ok (.ldc2_w 59, 3) := by decide +kernel
theorem dX10_twice_16 : decode cX10_twice 16 = .ok (.invokestatic 51, 3) := by decide +kernel
theorem dX10_twice_19 : decode cX10_twice 19 = .ok (.ifCond .ne 6, 3) := by decide +kernel
theorem dX10_twice_22 : decode cX10_twice 22 = .ok (.ldc 61, 2) := by decide +kernel
theorem dX10_twice_24 : decode cX10_twice 24 = .ok (.ireturn, 1) := by decide +kernel
theorem dX10_twice_25 : decode cX10_twice 25 = .ok (.iconst 0, 1) := by decide +kernel
theorem dX10_twice_26 : decode cX10_twice 26 = .ok (.istore_n 2, 1) := by decide +kernel
theorem dX10_twice_27 : decode cX10_twice 27 = .ok (.ldc 200, 2) := by decide +kernel
theorem dX10_twice_29 : decode cX10_twice 29 = .ok (.istore_n 3, 1) := by decide +kernel
theorem dX10_twice_30 : decode cX10_twice 30 = .ok (.ldc 200, 2) := by decide +kernel
theorem dX10_twice_32 : decode cX10_twice 32 = .ok (.istore 4, 2) := by decide +kernel
theorem dX10_twice_34 : decode cX10_twice 34 = .ok (.iconst 0, 1) := by decide +kernel
theorem dX10_twice_35 : decode cX10_twice 35 = .ok (.istore 5, 2) := by decide +kernel
theorem dX10_twice_37 : decode cX10_twice 37 = .ok (.iload 5, 2) := by decide +kernel
theorem dX10_twice_39 : decode cX10_twice 39 = .ok (.aload_n 0, 1) := by decide +kernel
theorem dX10_twice_40 : decode cX10_twice 40 = .ok (.getfield 22, 3) := by decide +kernel
theorem dX10_twice_43 : decode cX10_twice 43 = .ok (.iconst 0, 1) := by decide +kernel
theorem dX10_twice_44 : decode cX10_twice 44 = .ok (.iaload, 1) := by decide +kernel
theorem dX10_twice_45 : decode cX10_twice 45 = .ok (.if_icmp .ge 60, 3) := by decide +kernel
theorem dX10_twice_48 : decode cX10_twice 48 = .ok (.iload 5, 2) := by decide +kernel
theorem dX10_twice_50 : decode cX10_twice 50 = .ok (.iconst 1, 1) := by decide +kernel
theorem dX10_twice_51 : decode cX10_twice 51 = .ok (.iadd, 1) := by decide +kernel
theorem dX10_twice_52 : decode cX10_twice 52 = .ok (.istore 6, 2) := by decide +kernel
theorem dX10_twice_54 : decode cX10_twice 54 = .ok (.iload 6, 2) := by decide +kernel
theorem dX10_twice_56 : decode cX10_twice 56 = .ok (.aload_n 0, 1) := by decide +kernel
theorem dX10_twice_57 : decode cX10_twice 57 = .ok (.getfield 22, 3) := by decide +kernel
theorem dX10_twice_60 : decode cX10_twice 60 = .ok (.iconst 0, 1) := by decide +kernel
theorem dX10_twice_61 : decode cX10_twice 61 = .ok (.iaload, 1) := by decide +kernel
theorem dX10_twice_62 : decode cX10_twice 62 = .ok (.if_icmp .ge 37, 3) := by decide +kernel
theorem dX10_twice_65 : decode cX10_twice 65 = .ok (.aload_n 0, 1) := by decide +kernel
theorem dX10_twice_66 : decode cX10_twice 66 = .ok (.iload 5, 2) := by decide +kernel
theorem dX10_twice_68 : decode cX10_twice 68 = .ok (.iload 6, 2) := by decide +kernel
theorem dX10_twice_70 : decode cX10_twice 70 = .ok (.invokevirtual 234, 3) := by decide +kernel
theorem dX10_twice_73 : decode cX10_twice 73 = .ok (.iload_n 2, 1) := by decide +kernel
theorem dX10_twice_74 : decode cX10_twice 74 = .ok (.if_icmp .le 19, 3) := by decide +kernel
theorem dX10_twice_77 : decode cX10_twice 77 = .ok (.aload_n 0, 1) := by decide +kernel
theorem dX10_twice_78 : decode cX10_twice 78 = .ok (.iload 5, 2) := by decide +kernel
theorem dX10_twice_80 : decode cX10_twice 80 = .ok (.iload 6, 2) := by decide +kernel
theorem dX10_twice_82 : decode cX10_twice 82 = .ok (.invokevirtual 234, 3) := by decide +kernel
theorem dX10_twice_85 : decode cX10_twice 85 = .ok (.istore_n 2, 1) := by decide +kernel
theorem dX10_twice_86 : decode cX10_twice 86 = .ok (.iload 5, 2) := by decide +kernel
theorem dX10_twice_88 : decode cX10_twice 88 = .ok (.istore_n 3, 1) := by decide +kernel
theorem dX10_twice_89 : decode cX10_twice 89 = .ok (.iload 6, 2) := by decide +kernel
theorem dX10_twice_91 : decode cX10_twice 91 = .ok (.istore 4, 2) := by decide +kernel
theorem dX10_twice_93 : decode cX10_twice 93 = .ok (.iinc 6 1, 3) := by decide +kernel
theorem dX10_twice_96 : decode cX10_twice 96 = .ok (.goto (-42), 3) := by decide +kernel
theorem dX10_twice_99 : decode cX10_twice 99 = .ok (.iinc 5 1, 3) := by decide +kernel
theorem dX10_twice_102 : decode cX10_twice 102 = .ok (.goto (-65), 3) := by decide +kernel
theorem dX10_twice_105 : decode cX10_twice 105 = .ok (.iload_n 1, 1) := by decide +kernel
theorem dX10_twice_106 : decode cX10_twice 106 = .ok (.ifCond .ne 7, 3) := by decide +kernel
theorem dX10_twice_109 : decode cX10_twice 109 = .ok (.iload_n 2, 1) := by decide +kernel
theorem dX10_twice_110 : decode cX10_twice 110 = .ok (.goto 14, 3) := by decide +kernel
theorem dX10_twice_113 : decode cX10_twice 113 = .ok (.iload_n 1, 1) := by decide +kernel
theorem dX10_twice_114 : decode cX10_twice 114 = .ok (.iconst 1, 1) := by decide +kernel
theorem dX10_twice_115 : decode cX10_twice 115 = .ok (.if_icmp .ne 7, 3) := by decide +kernel
theorem dX10_twice_118 : decode cX10_twice 118 = .ok (.iload_n 3, 1) := by decide +kernel
theorem dX10_twice_119 : decode cX10_twice 119 = .ok (.goto 5, 3) := by decide +kernel
theorem dX10_twice_122 : decode cX10_twice 122 = .ok (.iload 4, 2) := by decide +kernel
theorem dX10_twice_124 : decode cX10_twice 124 = .ok (.ireturn, 1) := by decide +kernel
set_option maxRecDepth 20000 in
theorem ggX10_looks__X10_colourAt : GoodIn wsX10_looks_ wsX10_colourAt := goodIn_r _ [9] (by decide +kernel) (by decide +kernel)
set_option maxRecDepth 20000 in
theorem gX10_looks__X10_colourAt : GoodIn wsX10_looks_ (va_wsS RX10 148 yX10_colourAt wsX10_colourAt) := goodIn_app (goodIn_of _ (by decide +kernel)) ggX10_looks__X10_colourAt
theorem dX10_looks__0 : decode cX10_looks_ 0 = .ok (.aload_n 0, 1) := by decide +kernel
theorem dX10_looks__1 : decode cX10_looks_ 1 = .ok (.getfield 137, 3) := by decide +kernel
theorem dX10_looks__4 : decode cX10_looks_ 4 = .ok (.ifCond .ne 6, 3) := by decide +kernel
theorem dX10_looks__7 : decode cX10_looks_ 7 = .ok (.ldc 159, 2) := by decide +kernel
theorem dX10_looks__9 : decode cX10_looks_ 9 = .ok (.ireturn, 1) := by decide +kernel
theorem dX10_looks__10 : decode cX10_looks_ 10 = .ok (.iload_n 1, 1) := by decide +kernel
theorem dX10_looks__11 : decode cX10_looks_ 11 = .ok (.ifCond .ge 6, 3) := by decide +kernel
theorem dX10_looks__14 : decode cX10_looks_ 14 = .ok (.ldc 61, 2) := by decide +kernel
theorem dX10_looks__16 : decode cX10_looks_ 16 = .ok (.ireturn, 1) := by decide +kernel
theorem dX10_looks__17 : decode cX10_looks_ 17 = .ok (.iload_n 1, 1) := by decide +kernel
theorem dX10_looks__18 : decode cX10_looks_ 18 = .ok (.aload_n 0, 1) := by decide +kernel
theorem dX10_looks__19 : decode cX10_looks_ 19 = .ok (.getfield 22, 3) := by decide +kernel
theorem dX10_looks__22 : decode cX10_looks_ 22 = .ok (.bipush 10, 2) := by decide +kernel
theorem dX10_looks__24 : decode cX10_looks_ 24 = .ok (.iaload, 1) := by decide +kernel
theorem dX10_looks__25 : decode cX10_looks_ 25 = .ok (.if_icmp .le 6, 3) := by decide +kernel
theorem dX10_looks__28 : decode cX10_looks_ 28 = .ok (.ldc 200, 2) := by decide +kernel
theorem dX10_looks__30 : decode cX10_looks_ 30 = .ok (.ireturn, 1) := by decide +kernel
theorem dX10_looks__31 : decode cX10_looks_ 31 = .ok (.iconst 0, 1) := by decide +kernel
theorem dX10_looks__32 : decode cX10_looks_ 32 = .ok (.istore_n 2, 1) := by decide +kernel
theorem dX10_looks__33 : decode cX10_looks_ 33 = .ok (.iload_n 1, 1) := by decide +kernel
theorem dX10_looks__34 : decode cX10_looks_ 34 = .ok (.istore_n 3, 1) := by decide +kernel
theorem dX10_looks__35 : decode cX10_looks_ 35 = .ok (.iload_n 3, 1) := by decide +kernel
theorem dX10_looks__36 : decode cX10_looks_ 36 = .ok (.aload_n 0, 1) := by decide +kernel
theorem dX10_looks__37 : decode cX10_looks_ 37 = .ok (.getfield 22, 3) := by decide +kernel
theorem dX10_looks__40 : decode cX10_looks_ 40 = .ok (.iconst 0, 1) := by decide +kernel
theorem dX10_looks__41 : decode cX10_looks_ 41 = .ok (.iaload, 1) := by decide +kernel
theorem dX10_looks__42 : decode cX10_looks_ 42 = .ok (.if_icmp .gt 83, 3) := by decide +kernel
theorem dX10_looks__45 : decode cX10_looks_ 45 = .ok (.iconst 1, 1) := by decide +kernel
theorem dX10_looks__46 : decode cX10_looks_ 46 = .ok (.istore 4, 2) := by decide +kernel
theorem dX10_looks__48 : decode cX10_looks_ 48 = .ok (.iconst 1, 1) := by decide +kernel
theorem dX10_looks__49 : decode cX10_looks_ 49 = .ok (.istore 5, 2) := by decide +kernel
theorem dX10_looks__51 : decode cX10_looks_ 51 = .ok (.iload 5, 2) := by decide +kernel
theorem dX10_looks__53 : decode cX10_looks_ 53 = .ok (.iload_n 1, 1) := by decide +kernel
theorem dX10_looks__54 : decode cX10_looks_ 54 = .ok (.if_icmp .gt 52, 3) := by decide +kernel
theorem dX10_looks__57 : decode cX10_looks_ 57 = .ok (.iload 4, 2) := by decide +kernel
theorem dX10_looks__59 : decode cX10_looks_ 59 = .ok (.ifCond .eq 38, 3) := by decide +kernel
theorem dX10_looks__62 : decode cX10_looks_ 62 = .ok (.aload_n 0, 1) := by decide +kernel
theorem dX10_looks__63 : decode cX10_looks_ 63 = .ok (.getfield 22, 3) := by decide +kernel
theorem dX10_looks__66 : decode cX10_looks_ 66 = .ok (.iload_n 3, 1) := by decide +kernel
theorem dX10_looks__67 : decode cX10_looks_ 67 = .ok (.iload 5, 2) := by decide +kernel
theorem dX10_looks__69 : decode cX10_looks_ 69 = .ok (.isub, 1) := by decide +kernel
theorem dX10_looks__70 : decode cX10_looks_ 70 = .ok (.invokestatic 148, 3) := by decide +kernel
theorem dX10_looks__73 : decode cX10_looks_ 73 = .ok (.aload_n 0, 1) := by decide +kernel
theorem dX10_looks__74 : decode cX10_looks_ 74 = .ok (.getfield 22, 3) := by decide +kernel
theorem dX10_looks__77 : decode cX10_looks_ 77 = .ok (.aload_n 0, 1) := by decide +kernel
theorem dX10_looks__78 : decode cX10_looks_ 78 = .ok (.getfield 22, 3) := by decide +kernel
theorem dX10_looks__81 : decode cX10_looks_ 81 = .ok (.bipush 10, 2) := by decide +kernel
theorem dX10_looks__83 : decode cX10_looks_ 83 = .ok (.iaload, 1) := by decide +kernel
theorem dX10_looks__84 : decode cX10_looks_ 84 = .ok (.iload 5, 2) := by decide +kernel
theorem dX10_looks__86 : decode cX10_looks_ 86 = .ok (.isub, 1) := by decide +kernel
theorem dX10_looks__87 : decode cX10_looks_ 87 = .ok (.invokestatic 148, 3) := by decide +kernel
theorem dX10_looks__90 : decode cX10_looks_ 90 = .ok (.if_icmp .ne 7, 3) := by decide +kernel
theorem dX10_looks__93 : decode cX10_looks_ 93 = .ok (.iconst 1, 1) := by decide +kernel
theorem dX10_looks__94 : decode cX10_looks_ 94 = .ok (.goto 4, 3) := by decide +kernel
theorem dX10_looks__97 : decode cX10_looks_ 97 = .ok (.iconst 0, 1) := by decide +kernel
theorem dX10_looks__98 : decode cX10_looks_ 98 = .ok (.istore 4, 2) := by decide +kernel
theorem dX10_looks__100 : decode cX10_looks_ 100 = .ok (.iinc 5 1, 3) := by decide +kernel
theorem dX10_looks__103 : decode cX10_looks_ 103 = .ok (.goto (-52), 3) := by decide +kernel
theorem dX10_looks__106 : decode cX10_looks_ 106 = .ok (.iload_n 2, 1) := by decide +kernel
theorem dX10_looks__107 : decode cX10_looks_ 107 = .ok (.iload 4, 2) := by decide +kernel
theorem dX10_looks__109 : decode cX10_looks_ 109 = .ok (.ifCond .eq 7, 3) := by decide +kernel
theorem dX10_looks__112 : decode cX10_looks_ 112 = .ok (.iconst 1, 1) := by decide +kernel
theorem dX10_looks__113 : decode cX10_looks_ 113 = .ok (.goto 4, 3) := by decide +kernel
theorem dX10_looks__116 : decode cX10_looks_ 116 = .ok (.iconst 0, 1) := by decide +kernel
theorem dX10_looks__117 : decode cX10_looks_ 117 = .ok (.iadd, 1) := by decide +kernel
theorem dX10_looks__118 : decode cX10_looks_ 118 = .ok (.istore_n 2, 1) := by decide +kernel
theorem dX10_looks__119 : decode cX10_looks_ 119 = .ok (.iinc 3 1, 3) := by decide +kernel
theorem dX10_looks__122 : decode cX10_looks_ 122 = .ok (.goto (-87), 3) := by decide +kernel
theorem dX10_looks__125 : decode cX10_looks_ 125 = .ok (.iload_n 2, 1) := by decide +kernel
theorem dX10_looks__126 : decode cX10_looks_ 126 = .ok (.ireturn, 1) := by decide +kernel
set_option maxRecDepth 20000 in
theorem ggX10_waysOf_X10_lesser : GoodIn wsX10_waysOf wsX10_lesser := goodIn_r _ [6] (by decide +kernel) (by decide +kernel)
set_option maxRecDepth 20000 in
theorem gX10_waysOf_X10_lesser : GoodIn wsX10_waysOf (va_wsS RX10 201 yX10_lesser wsX10_lesser) := goodIn_app (goodIn_of _ (by decide +kernel)) ggX10_waysOf_X10_lesser
set_option maxRecDepth 20000 in
theorem ggX10_waysOf_X10_in : GoodIn wsX10_waysOf wsX10_in := goodIn_r _ [9] (by decide +kernel) (by decide +kernel)
set_option maxRecDepth 20000 in
theorem gX10_waysOf_X10_in : GoodIn wsX10_waysOf (va_wsS RX10 51 yX10_in wsX10_in) := goodIn_app (goodIn_of _ (by decide +kernel)) ggX10_waysOf_X10_in
theorem dX10_waysOf_0 : decode cX10_waysOf 0 = .ok (.aload_n 0, 1) := by decide +kernel
theorem dX10_waysOf_1 : decode cX10_waysOf 1 = .ok (.getfield 22, 3) := by decide +kernel
theorem dX10_waysOf_4 : decode cX10_waysOf 4 = .ok (.iconst 3, 1) := by decide +kernel
theorem dX10_waysOf_5 : decode cX10_waysOf 5 = .ok (.iaload, 1) := by decide +kernel
theorem dX10_waysOf_6 : decode cX10_waysOf 6 = .ok (.ifCond .eq 18, 3) := by decide +kernel
theorem dX10_waysOf_9 : decode cX10_waysOf 9 = .ok (.iload_n 3, 1) := by decide +kernel
theorem dX10_waysOf_10 : decode cX10_waysOf 10 = .ok (.aload_n 0, 1) := by decide +kernel
theorem dX10_waysOf_11 : decode cX10_waysOf 11 = .ok (.getfield 22, 3) := by decide +kernel
theorem dX10_waysOf_14 : decode cX10_waysOf 14 = .ok (.iconst 3, 1) := by decide +kernel
theorem dX10_waysOf_15 : decode cX10_waysOf 15 = .ok (.iaload, 1) := by decide +kernel
theorem dX10_waysOf_16 : decode cX10_waysOf 16 = .ok (.irem, 1) := by decide +kernel
theorem dX10_waysOf_17 : decode cX10_waysOf 17 = .ok (.ifCond .ne 7, 3) := by decide +kernel
theorem dX10_waysOf_20 : decode cX10_waysOf 20 = .ok (.iconst 1, 1) := by decide +kernel
theorem dX10_waysOf_21 : decode cX10_waysOf 21 = .ok (.goto 4, 3) := by decide +kernel
theorem dX10_waysOf_24 : decode cX10_waysOf 24 = .ok (.iconst 0, 1) := by decide +kernel
theorem dX10_waysOf_25 : decode cX10_waysOf 25 = .ok (.istore 5, 2) := by decide +kernel
theorem dX10_waysOf_27 : decode cX10_waysOf 27 = .ok (.iload 5, 2) := by decide +kernel
theorem dX10_waysOf_29 : decode cX10_waysOf 29 = .ok (.ifCond .eq 7, 3) := by decide +kernel
theorem dX10_waysOf_32 : decode cX10_waysOf 32 = .ok (.iconst 0, 1) := by decide +kernel
theorem dX10_waysOf_33 : decode cX10_waysOf 33 = .ok (.goto 13, 3) := by decide +kernel
theorem dX10_waysOf_36 : decode cX10_waysOf 36 = .ok (.aload_n 0, 1) := by decide +kernel
theorem dX10_waysOf_37 : decode cX10_waysOf 37 = .ok (.getfield 22, 3) := by decide +kernel
theorem dX10_waysOf_40 : decode cX10_waysOf 40 = .ok (.iconst 2, 1) := by decide +kernel
theorem dX10_waysOf_41 : decode cX10_waysOf 41 = .ok (.iaload, 1) := by decide +kernel
theorem dX10_waysOf_42 : decode cX10_waysOf 42 = .ok (.iload_n 1, 1) := by decide +kernel
theorem dX10_waysOf_43 : decode cX10_waysOf 43 = .ok (.invokestatic 201, 3) := by decide +kernel
theorem dX10_waysOf_46 : decode cX10_waysOf 46 = .ok (.istore 6, 2) := by decide +kernel
theorem dX10_waysOf_48 : decode cX10_waysOf 48 = .ok (.iconst 0, 1) := by decide +kernel
theorem dX10_waysOf_49 : decode cX10_waysOf 49 = .ok (.istore 7, 2) := by decide +kernel
theorem dX10_waysOf_51 : decode cX10_waysOf 51 = .ok (.iconst 0, 1) := by decide +kernel
theorem dX10_waysOf_52 : decode cX10_waysOf 52 = .ok (.istore 8, 2) := by decide +kernel
theorem dX10_waysOf_54 : decode cX10_waysOf 54 = .ok (.iload 8, 2) := by decide +kernel
theorem dX10_waysOf_56 : decode cX10_waysOf 56 = .ok (.iload 6, 2) := by decide +kernel
theorem dX10_waysOf_58 : decode cX10_waysOf 58 = .ok (.if_icmp .gt 55, 3) := by decide +kernel
theorem dX10_waysOf_61 : decode cX10_waysOf 61 = .ok (.iload_n 2, 1) := by decide +kernel
theorem dX10_waysOf_62 : decode cX10_waysOf 62 = .ok (.iload_n 1, 1) := by decide +kernel
theorem dX10_waysOf_63 : decode cX10_waysOf 63 = .ok (.isub, 1) := by decide +kernel
theorem dX10_waysOf_64 : decode cX10_waysOf 64 = .ok (.iload 8, 2) := by decide +kernel
theorem dX10_waysOf_66 : decode cX10_waysOf 66 = .ok (.iadd, 1) := by decide +kernel
theorem dX10_waysOf_67 : decode cX10_waysOf 67 = .ok (.i2l, 1) := by decide +kernel
theorem dX10_waysOf_68 : decode cX10_waysOf 68 = .ok (.lconst 0, 1) := by decide +kernel
theorem dX10_waysOf_69 : decode cX10_waysOf 69 = .ok (.ldc2_w 160, 3) := by decide +kernel
theorem dX10_waysOf_72 : decode cX10_waysOf 72 = .ok (.invokestatic 51, 3) := by decide +kernel
theorem dX10_waysOf_75 : decode cX10_waysOf 75 = .ok (.istore 9, 2) := by decide +kernel
theorem dX10_waysOf_77 : decode cX10_waysOf 77 = .ok (.iload 7, 2) := by decide +kernel
theorem dX10_waysOf_79 : decode cX10_waysOf 79 = .ok (.iload 9, 2) := by decide +kernel
theorem dX10_waysOf_81 : decode cX10_waysOf 81 = .ok (.ifCond .eq 22, 3) := by decide +kernel
theorem dX10_waysOf_84 : decode cX10_waysOf 84 = .ok (.iload 8, 2) := by decide +kernel
theorem dX10_waysOf_86 : decode cX10_waysOf 86 = .ok (.ifCond .le 7, 3) := by decide +kernel
theorem dX10_waysOf_89 : decode cX10_waysOf 89 = .ok (.iconst 1, 1) := by decide +kernel
theorem dX10_waysOf_90 : decode cX10_waysOf 90 = .ok (.goto 4, 3) := by decide +kernel
theorem dX10_waysOf_93 : decode cX10_waysOf 93 = .ok (.iconst 0, 1) := by decide +kernel
theorem dX10_waysOf_94 : decode cX10_waysOf 94 = .ok (.iload 4, 2) := by decide +kernel
theorem dX10_waysOf_96 : decode cX10_waysOf 96 = .ok (.if_icmp .ne 7, 3) := by decide +kernel
theorem dX10_waysOf_99 : decode cX10_waysOf 99 = .ok (.iconst 1, 1) := by decide +kernel
theorem dX10_waysOf_100 : decode cX10_waysOf 100 = .ok (.goto 4, 3) := by decide +kernel
theorem dX10_waysOf_103 : decode cX10_waysOf 103 = .ok (.iconst 0, 1) := by decide +kernel
theorem dX10_waysOf_104 : decode cX10_waysOf 104 = .ok (.iadd, 1) := by decide +kernel
theorem dX10_waysOf_105 : decode cX10_waysOf 105 = .ok (.istore 7, 2) := by decide +kernel
theorem dX10_waysOf_107 : decode cX10_waysOf 107 = .ok (.iinc 8 1, 3) := by decide +kernel
theorem dX10_waysOf_110 : decode cX10_waysOf 110 = .ok (.goto (-56), 3) := by decide +kernel
theorem dX10_waysOf_113 : decode cX10_waysOf 113 = .ok (.iload 7, 2) := by decide +kernel
theorem dX10_waysOf_115 : decode cX10_waysOf 115 = .ok (.ireturn, 1) := by decide +kernel
set_option maxRecDepth 20000 in
theorem ggX10_seen_X10_isRow : GoodIn wsX10_seen wsX10_isRow := goodIn_r _ [14, 15, 16, 17, 13, 18] (by decide +kernel) (by decide +kernel)
set_option maxRecDepth 20000 in
theorem gX10_seen_X10_isRow : GoodIn wsX10_seen (va_wsS RX10 55 yX10_isRow wsX10_isRow) := goodIn_app (goodIn_of _ (by decide +kernel)) ggX10_seen_X10_isRow
set_option maxRecDepth 20000 in
theorem ggX10_seen_X10_in : GoodIn wsX10_seen wsX10_in := goodIn_r _ [18] (by decide +kernel) (by decide +kernel)
set_option maxRecDepth 20000 in
theorem gX10_seen_X10_in : GoodIn wsX10_seen (va_wsS RX10 51 yX10_in wsX10_in) := goodIn_app (goodIn_of _ (by decide +kernel)) ggX10_seen_X10_in
set_option maxRecDepth 20000 in
theorem ggX10_seen_X10_found : GoodIn wsX10_seen wsX10_found := goodIn_r _ [22, 23, 24, 36, 37, 38, 39, 40, 41, 42, 43, 44, 45, 46, 47, 48, 49, 50, 51, 52, 53, 54, 55, 56, 57, 58, 59] (by decide +kernel) (by decide +kernel)
set_option maxRecDepth 20000 in
theorem gX10_seen_X10_found : GoodIn wsX10_seen (wsV RX10 62 RX10 yX10_found wsX10_found) := goodIn_app (goodIn_of _ (by decide +kernel)) ggX10_seen_X10_found
set_option maxRecDepth 20000 in
theorem ggX10_seen_X10_waysOf : GoodIn wsX10_seen wsX10_waysOf := goodIn_r _ [28, 8, 9, 29, 30, 13, 31, 16, 17, 18, 36, 37, 38, 39, 40, 41, 42, 43, 44, 45, 46, 47, 48, 49, 50, 51, 52, 53, 54, 55, 56, 57, 58, 59] (by decide +kernel) (by decide +kernel)
set_option maxRecDepth 20000 in
theorem gX10_seen_X10_waysOf : GoodIn wsX10_seen (wsV RX10 239 RX10 yX10_waysOf wsX10_waysOf) := goodIn_app (goodIn_of _ (by decide +kernel)) ggX10_seen_X10_waysOf
set_option maxRecDepth 20000 in
theorem ggX10_seen_X10_well : GoodIn wsX10_seen wsX10_well := goodIn_r _ [35, 23, 36, 37, 38, 39, 40, 41, 42, 43, 44, 45, 46, 47, 48, 49, 50, 51, 52, 53, 54, 55, 56, 57, 58, 59] (by decide +kernel) (by decide +kernel)
set_option maxRecDepth 20000 in
theorem gX10_seen_X10_well : GoodIn wsX10_seen (wsV RX10 66 RX10 yX10_well wsX10_well) := goodIn_app (goodIn_of _ (by decide +kernel)) ggX10_seen_X10_well
theorem dX10_seen_0 : decode cX10_seen 0 = .ok (.aload_n 0, 1) := by decide +kernel
theorem dX10_seen_1 : decode cX10_seen 1 = .ok (.getfield 137, 3) := by decide +kernel
theorem dX10_seen_4 : decode cX10_seen 4 = .ok (.ifCond .ne 6, 3) := by decide +kernel
theorem dX10_seen_7 : decode cX10_seen 7 = .ok (.ldc 159, 2) := by decide +kernel
theorem dX10_seen_9 : decode cX10_seen 9 = .ok (.ireturn, 1) := by decide +kernel
theorem dX10_seen_10 : decode cX10_seen 10 = .ok (.iload_n 1, 1) := by decide +kernel
theorem dX10_seen_11 : decode cX10_seen 11 = .ok (.invokestatic 55, 3) := by decide +kernel
theorem dX10_seen_14 : decode cX10_seen 14 = .ok (.ifCond .eq 28, 3) := by decide +kernel
theorem dX10_seen_17 : decode cX10_seen 17 = .ok (.iload_n 3, 1) := by decide +kernel
theorem dX10_seen_18 : decode cX10_seen 18 = .ok (.i2l, 1) := by decide +kernel
theorem dX10_seen_19 : decode cX10_seen 19 = .ok (.lconst 1, 1) := by decide +kernel
theorem dX10_seen_20 : decode cX10_seen 20 = .ok (.ldc2_w 237, 3) := by decide +kernel
theorem dX10_seen_23 : decode cX10_seen 23 = .ok (.invokestatic 51, 3) := by decide +kernel
theorem dX10_seen_26 : decode cX10_seen 26 = .ok (.ifCond .eq 16, 3) := by decide +kernel
theorem dX10_seen_29 : decode cX10_seen 29 = .ok (.iload 4, 2) := by decide +kernel
theorem dX10_seen_31 : decode cX10_seen 31 = .ok (.i2l, 1) := by decide +kernel
theorem dX10_seen_32 : decode cX10_seen 32 = .ok (.lconst 0, 1) := by decide +kernel
theorem dX10_seen_33 : decode cX10_seen 33 = .ok (.ldc2_w 59, 3) := by decide +kernel
theorem dX10_seen_36 : decode cX10_seen 36 = .ok (.invokestatic 51, 3) := by decide +kernel
theorem dX10_seen_39 : decode cX10_seen 39 = .ok (.ifCond .ne 6, 3) := by decide +kernel
theorem dX10_seen_42 : decode cX10_seen 42 = .ok (.ldc 61, 2) := by decide +kernel
theorem dX10_seen_44 : decode cX10_seen 44 = .ok (.ireturn, 1) := by decide +kernel
theorem dX10_seen_45 : decode cX10_seen 45 = .ok (.aload_n 0, 1) := by decide +kernel
theorem dX10_seen_46 : decode cX10_seen 46 = .ok (.getfield 13, 3) := by decide +kernel
theorem dX10_seen_49 : decode cX10_seen 49 = .ok (.iload_n 1, 1) := by decide +kernel
theorem dX10_seen_50 : decode cX10_seen 50 = .ok (.iaload, 1) := by decide +kernel
theorem dX10_seen_51 : decode cX10_seen 51 = .ok (.ifCond .ge 9, 3) := by decide +kernel
theorem dX10_seen_54 : decode cX10_seen 54 = .ok (.aload_n 0, 1) := by decide +kernel
theorem dX10_seen_55 : decode cX10_seen 55 = .ok (.iconst 1, 1) := by decide +kernel
theorem dX10_seen_56 : decode cX10_seen 56 = .ok (.invokevirtual 62, 3) := by decide +kernel
theorem dX10_seen_59 : decode cX10_seen 59 = .ok (.ireturn, 1) := by decide +kernel
theorem dX10_seen_60 : decode cX10_seen 60 = .ok (.iload_n 2, 1) := by decide +kernel
theorem dX10_seen_61 : decode cX10_seen 61 = .ok (.ifCond .lt 19, 3) := by decide +kernel
theorem dX10_seen_64 : decode cX10_seen 64 = .ok (.iload_n 2, 1) := by decide +kernel
theorem dX10_seen_65 : decode cX10_seen 65 = .ok (.i2l, 1) := by decide +kernel
theorem dX10_seen_66 : decode cX10_seen 66 = .ok (.iload_n 3, 1) := by decide +kernel
theorem dX10_seen_67 : decode cX10_seen 67 = .ok (.i2l, 1) := by decide +kernel
theorem dX10_seen_68 : decode cX10_seen 68 = .ok (.ladd, 1) := by decide +kernel
theorem dX10_seen_69 : decode cX10_seen 69 = .ok (.aload_n 0, 1) := by decide +kernel
theorem dX10_seen_70 : decode cX10_seen 70 = .ok (.getfield 13, 3) := by decide +kernel
theorem dX10_seen_73 : decode cX10_seen 73 = .ok (.iload_n 1, 1) := by decide +kernel
theorem dX10_seen_74 : decode cX10_seen 74 = .ok (.iaload, 1) := by decide +kernel
theorem dX10_seen_75 : decode cX10_seen 75 = .ok (.i2l, 1) := by decide +kernel
theorem dX10_seen_76 : decode cX10_seen 76 = .ok (.lcmp, 1) := by decide +kernel
theorem dX10_seen_77 : decode cX10_seen 77 = .ok (.ifCond .le 9, 3) := by decide +kernel
theorem dX10_seen_80 : decode cX10_seen 80 = .ok (.aload_n 0, 1) := by decide +kernel
theorem dX10_seen_81 : decode cX10_seen 81 = .ok (.iconst 2, 1) := by decide +kernel
theorem dX10_seen_82 : decode cX10_seen 82 = .ok (.invokevirtual 62, 3) := by decide +kernel
theorem dX10_seen_85 : decode cX10_seen 85 = .ok (.ireturn, 1) := by decide +kernel
theorem dX10_seen_86 : decode cX10_seen 86 = .ok (.bipush 40, 2) := by decide +kernel
theorem dX10_seen_88 : decode cX10_seen 88 = .ok (.iload_n 1, 1) := by decide +kernel
theorem dX10_seen_89 : decode cX10_seen 89 = .ok (.imul, 1) := by decide +kernel
theorem dX10_seen_90 : decode cX10_seen 90 = .ok (.iload_n 2, 1) := by decide +kernel
theorem dX10_seen_91 : decode cX10_seen 91 = .ok (.iadd, 1) := by decide +kernel
theorem dX10_seen_92 : decode cX10_seen 92 = .ok (.istore 5, 2) := by decide +kernel
theorem dX10_seen_94 : decode cX10_seen 94 = .ok (.iconst 0, 1) := by decide +kernel
theorem dX10_seen_95 : decode cX10_seen 95 = .ok (.istore 6, 2) := by decide +kernel
theorem dX10_seen_97 : decode cX10_seen 97 = .ok (.iload 6, 2) := by decide +kernel
theorem dX10_seen_99 : decode cX10_seen 99 = .ok (.iload_n 3, 1) := by decide +kernel
theorem dX10_seen_100 : decode cX10_seen 100 = .ok (.if_icmp .ge 37, 3) := by decide +kernel
theorem dX10_seen_103 : decode cX10_seen 103 = .ok (.aload_n 0, 1) := by decide +kernel
theorem dX10_seen_104 : decode cX10_seen 104 = .ok (.getfield 16, 3) := by decide +kernel
theorem dX10_seen_107 : decode cX10_seen 107 = .ok (.iload 5, 2) := by decide +kernel
theorem dX10_seen_109 : decode cX10_seen 109 = .ok (.iload 6, 2) := by decide +kernel
theorem dX10_seen_111 : decode cX10_seen 111 = .ok (.iadd, 1) := by decide +kernel
theorem dX10_seen_112 : decode cX10_seen 112 = .ok (.iaload, 1) := by decide +kernel
theorem dX10_seen_113 : decode cX10_seen 113 = .ok (.i2l, 1) := by decide +kernel
theorem dX10_seen_114 : decode cX10_seen 114 = .ok (.lconst 0, 1) := by decide +kernel
theorem dX10_seen_115 : decode cX10_seen 115 = .ok (.aload_n 0, 1) := by decide +kernel
theorem dX10_seen_116 : decode cX10_seen 116 = .ok (.getfield 22, 3) := by decide +kernel
theorem dX10_seen_119 : decode cX10_seen 119 = .ok (.iconst 0, 1) := by decide +kernel
theorem dX10_seen_120 : decode cX10_seen 120 = .ok (.iaload, 1) := by decide +kernel
theorem dX10_seen_121 : decode cX10_seen 121 = .ok (.i2l, 1) := by decide +kernel
theorem dX10_seen_122 : decode cX10_seen 122 = .ok (.invokestatic 51, 3) := by decide +kernel
theorem dX10_seen_125 : decode cX10_seen 125 = .ok (.ifCond .ne 6, 3) := by decide +kernel
theorem dX10_seen_128 : decode cX10_seen 128 = .ok (.ldc 61, 2) := by decide +kernel
theorem dX10_seen_130 : decode cX10_seen 130 = .ok (.ireturn, 1) := by decide +kernel
theorem dX10_seen_131 : decode cX10_seen 131 = .ok (.iinc 6 1, 3) := by decide +kernel
theorem dX10_seen_134 : decode cX10_seen 134 = .ok (.goto (-37), 3) := by decide +kernel
theorem dX10_seen_137 : decode cX10_seen 137 = .ok (.aload_n 0, 1) := by decide +kernel
theorem dX10_seen_138 : decode cX10_seen 138 = .ok (.getfield 16, 3) := by decide +kernel
theorem dX10_seen_141 : decode cX10_seen 141 = .ok (.iload 5, 2) := by decide +kernel
theorem dX10_seen_143 : decode cX10_seen 143 = .ok (.iaload, 1) := by decide +kernel
theorem dX10_seen_144 : decode cX10_seen 144 = .ok (.aload_n 0, 1) := by decide +kernel
theorem dX10_seen_145 : decode cX10_seen 145 = .ok (.getfield 22, 3) := by decide +kernel
theorem dX10_seen_148 : decode cX10_seen 148 = .ok (.bipush 10, 2) := by decide +kernel
theorem dX10_seen_150 : decode cX10_seen 150 = .ok (.iaload, 1) := by decide +kernel
theorem dX10_seen_151 : decode cX10_seen 151 = .ok (.isub, 1) := by decide +kernel
theorem dX10_seen_152 : decode cX10_seen 152 = .ok (.istore 6, 2) := by decide +kernel
theorem dX10_seen_154 : decode cX10_seen 154 = .ok (.aload_n 0, 1) := by decide +kernel
theorem dX10_seen_155 : decode cX10_seen 155 = .ok (.getfield 22, 3) := by decide +kernel
theorem dX10_seen_158 : decode cX10_seen 158 = .ok (.bipush 9, 2) := by decide +kernel
theorem dX10_seen_160 : decode cX10_seen 160 = .ok (.iaload, 1) := by decide +kernel
theorem dX10_seen_161 : decode cX10_seen 161 = .ok (.iconst 1, 1) := by decide +kernel
theorem dX10_seen_162 : decode cX10_seen 162 = .ok (.if_icmp .ne 16, 3) := by decide +kernel
theorem dX10_seen_165 : decode cX10_seen 165 = .ok (.iload 6, 2) := by decide +kernel
theorem dX10_seen_167 : decode cX10_seen 167 = .ok (.ifCond .ne 7, 3) := by decide +kernel
theorem dX10_seen_170 : decode cX10_seen 170 = .ok (.iconst 1, 1) := by decide +kernel
theorem dX10_seen_171 : decode cX10_seen 171 = .ok (.goto 25, 3) := by decide +kernel
theorem dX10_seen_174 : decode cX10_seen 174 = .ok (.iconst 0, 1) := by decide +kernel
theorem dX10_seen_175 : decode cX10_seen 175 = .ok (.goto 21, 3) := by decide +kernel
theorem dX10_seen_178 : decode cX10_seen 178 = .ok (.iload 6, 2) := by decide +kernel
theorem dX10_seen_180 : decode cX10_seen 180 = .ok (.i2l, 1) := by decide +kernel
theorem dX10_seen_181 : decode cX10_seen 181 = .ok (.lconst 0, 1) := by decide +kernel
theorem dX10_seen_182 : decode cX10_seen 182 = .ok (.ldc2_w 160, 3) := by decide +kernel
theorem dX10_seen_185 : decode cX10_seen 185 = .ok (.invokestatic 51, 3) := by decide +kernel
theorem dX10_seen_188 : decode cX10_seen 188 = .ok (.ifCond .eq 7, 3) := by decide +kernel
theorem dX10_seen_191 : decode cX10_seen 191 = .ok (.iconst 1, 1) := by decide +kernel
theorem dX10_seen_192 : decode cX10_seen 192 = .ok (.goto 4, 3) := by decide +kernel
theorem dX10_seen_195 : decode cX10_seen 195 = .ok (.iconst 0, 1) := by decide +kernel
theorem dX10_seen_196 : decode cX10_seen 196 = .ok (.istore 7, 2) := by decide +kernel
theorem dX10_seen_198 : decode cX10_seen 198 = .ok (.iconst 0, 1) := by decide +kernel
theorem dX10_seen_199 : decode cX10_seen 199 = .ok (.istore 8, 2) := by decide +kernel
theorem dX10_seen_201 : decode cX10_seen 201 = .ok (.iconst 0, 1) := by decide +kernel
theorem dX10_seen_202 : decode cX10_seen 202 = .ok (.istore 9, 2) := by decide +kernel
theorem dX10_seen_204 : decode cX10_seen 204 = .ok (.iconst 0, 1) := by decide +kernel
theorem dX10_seen_205 : decode cX10_seen 205 = .ok (.istore 10, 2) := by decide +kernel
theorem dX10_seen_207 : decode cX10_seen 207 = .ok (.iload 10, 2) := by decide +kernel
theorem dX10_seen_209 : decode cX10_seen 209 = .ok (.iload_n 3, 1) := by decide +kernel
theorem dX10_seen_210 : decode cX10_seen 210 = .ok (.iconst 1, 1) := by decide +kernel
theorem dX10_seen_211 : decode cX10_seen 211 = .ok (.isub, 1) := by decide +kernel
theorem dX10_seen_212 : decode cX10_seen 212 = .ok (.if_icmp .ge 133, 3) := by decide +kernel
theorem dX10_seen_215 : decode cX10_seen 215 = .ok (.aload_n 0, 1) := by decide +kernel
theorem dX10_seen_216 : decode cX10_seen 216 = .ok (.aload_n 0, 1) := by decide +kernel
theorem dX10_seen_217 : decode cX10_seen 217 = .ok (.getfield 16, 3) := by decide +kernel
theorem dX10_seen_220 : decode cX10_seen 220 = .ok (.iload 5, 2) := by decide +kernel
theorem dX10_seen_222 : decode cX10_seen 222 = .ok (.iload 10, 2) := by decide +kernel
theorem dX10_seen_224 : decode cX10_seen 224 = .ok (.iadd, 1) := by decide +kernel
theorem dX10_seen_225 : decode cX10_seen 225 = .ok (.iaload, 1) := by decide +kernel
theorem dX10_seen_226 : decode cX10_seen 226 = .ok (.aload_n 0, 1) := by decide +kernel
theorem dX10_seen_227 : decode cX10_seen 227 = .ok (.getfield 16, 3) := by decide +kernel
theorem dX10_seen_230 : decode cX10_seen 230 = .ok (.iload 5, 2) := by decide +kernel
theorem dX10_seen_232 : decode cX10_seen 232 = .ok (.iload 10, 2) := by decide +kernel
theorem dX10_seen_234 : decode cX10_seen 234 = .ok (.iadd, 1) := by decide +kernel
theorem dX10_seen_235 : decode cX10_seen 235 = .ok (.iconst 1, 1) := by decide +kernel
theorem dX10_seen_236 : decode cX10_seen 236 = .ok (.iadd, 1) := by decide +kernel
theorem dX10_seen_237 : decode cX10_seen 237 = .ok (.iaload, 1) := by decide +kernel
theorem dX10_seen_238 : decode cX10_seen 238 = .ok (.aload_n 0, 1) := by decide +kernel
theorem dX10_seen_239 : decode cX10_seen 239 = .ok (.getfield 22, 3) := by decide +kernel
theorem dX10_seen_242 : decode cX10_seen 242 = .ok (.bipush 8, 2) := by decide +kernel
theorem dX10_seen_244 : decode cX10_seen 244 = .ok (.iaload, 1) := by decide +kernel
theorem dX10_seen_245 : decode cX10_seen 245 = .ok (.iload 10, 2) := by decide +kernel
theorem dX10_seen_247 : decode cX10_seen 247 = .ok (.iadd, 1) := by decide +kernel
theorem dX10_seen_248 : decode cX10_seen 248 = .ok (.iconst 1, 1) := by decide +kernel
theorem dX10_seen_249 : decode cX10_seen 249 = .ok (.invokevirtual 239, 3) := by decide +kernel
theorem dX10_seen_252 : decode cX10_seen 252 = .ok (.istore 11, 2) := by decide +kernel
theorem dX10_seen_254 : decode cX10_seen 254 = .ok (.aload_n 0, 1) := by decide +kernel
theorem dX10_seen_255 : decode cX10_seen 255 = .ok (.aload_n 0, 1) := by decide +kernel
theorem dX10_seen_256 : decode cX10_seen 256 = .ok (.getfield 16, 3) := by decide +kernel
theorem dX10_seen_259 : decode cX10_seen 259 = .ok (.iload 5, 2) := by decide +kernel
theorem dX10_seen_261 : decode cX10_seen 261 = .ok (.iload 10, 2) := by decide +kernel
theorem dX10_seen_263 : decode cX10_seen 263 = .ok (.iadd, 1) := by decide +kernel
theorem dX10_seen_264 : decode cX10_seen 264 = .ok (.iaload, 1) := by decide +kernel
theorem dX10_seen_265 : decode cX10_seen 265 = .ok (.aload_n 0, 1) := by decide +kernel
theorem dX10_seen_266 : decode cX10_seen 266 = .ok (.getfield 16, 3) := by decide +kernel
theorem dX10_seen_269 : decode cX10_seen 269 = .ok (.iload 5, 2) := by decide +kernel
theorem dX10_seen_271 : decode cX10_seen 271 = .ok (.iload 10, 2) := by decide +kernel
theorem dX10_seen_273 : decode cX10_seen 273 = .ok (.iadd, 1) := by decide +kernel
theorem dX10_seen_274 : decode cX10_seen 274 = .ok (.iconst 1, 1) := by decide +kernel
theorem dX10_seen_275 : decode cX10_seen 275 = .ok (.iadd, 1) := by decide +kernel
theorem dX10_seen_276 : decode cX10_seen 276 = .ok (.iaload, 1) := by decide +kernel
theorem dX10_seen_277 : decode cX10_seen 277 = .ok (.aload_n 0, 1) := by decide +kernel
theorem dX10_seen_278 : decode cX10_seen 278 = .ok (.getfield 22, 3) := by decide +kernel
theorem dX10_seen_281 : decode cX10_seen 281 = .ok (.bipush 8, 2) := by decide +kernel
theorem dX10_seen_283 : decode cX10_seen 283 = .ok (.iaload, 1) := by decide +kernel
theorem dX10_seen_284 : decode cX10_seen 284 = .ok (.iload 10, 2) := by decide +kernel
theorem dX10_seen_286 : decode cX10_seen 286 = .ok (.iadd, 1) := by decide +kernel
theorem dX10_seen_287 : decode cX10_seen 287 = .ok (.iconst 0, 1) := by decide +kernel
theorem dX10_seen_288 : decode cX10_seen 288 = .ok (.invokevirtual 239, 3) := by decide +kernel
theorem dX10_seen_291 : decode cX10_seen 291 = .ok (.istore 12, 2) := by decide +kernel
theorem dX10_seen_293 : decode cX10_seen 293 = .ok (.iload 7, 2) := by decide +kernel
theorem dX10_seen_295 : decode cX10_seen 295 = .ok (.iload 11, 2) := by decide +kernel
theorem dX10_seen_297 : decode cX10_seen 297 = .ok (.iload 12, 2) := by decide +kernel
theorem dX10_seen_299 : decode cX10_seen 299 = .ok (.iadd, 1) := by decide +kernel
theorem dX10_seen_300 : decode cX10_seen 300 = .ok (.imul, 1) := by decide +kernel
theorem dX10_seen_301 : decode cX10_seen 301 = .ok (.istore 7, 2) := by decide +kernel
theorem dX10_seen_303 : decode cX10_seen 303 = .ok (.iload 8, 2) := by decide +kernel
theorem dX10_seen_305 : decode cX10_seen 305 = .ok (.iload 12, 2) := by decide +kernel
theorem dX10_seen_307 : decode cX10_seen 307 = .ok (.ifCond .ne 10, 3) := by decide +kernel
theorem dX10_seen_310 : decode cX10_seen 310 = .ok (.iconst 1, 1) := by decide +kernel
theorem dX10_seen_311 : decode cX10_seen 311 = .ok (.iload 10, 2) := by decide +kernel
theorem dX10_seen_313 : decode cX10_seen 313 = .ok (.ishl, 1) := by decide +kernel
theorem dX10_seen_314 : decode cX10_seen 314 = .ok (.goto 4, 3) := by decide +kernel
theorem dX10_seen_317 : decode cX10_seen 317 = .ok (.iconst 0, 1) := by decide +kernel
theorem dX10_seen_318 : decode cX10_seen 318 = .ok (.ior, 1) := by decide +kernel
theorem dX10_seen_319 : decode cX10_seen 319 = .ok (.istore 8, 2) := by decide +kernel
theorem dX10_seen_321 : decode cX10_seen 321 = .ok (.iload 9, 2) := by decide +kernel
theorem dX10_seen_323 : decode cX10_seen 323 = .ok (.iload 11, 2) := by decide +kernel
theorem dX10_seen_325 : decode cX10_seen 325 = .ok (.ifCond .le 10, 3) := by decide +kernel
theorem dX10_seen_328 : decode cX10_seen 328 = .ok (.iconst 1, 1) := by decide +kernel
theorem dX10_seen_329 : decode cX10_seen 329 = .ok (.iload 10, 2) := by decide +kernel
theorem dX10_seen_331 : decode cX10_seen 331 = .ok (.ishl, 1) := by decide +kernel
theorem dX10_seen_332 : decode cX10_seen 332 = .ok (.goto 4, 3) := by decide +kernel
theorem dX10_seen_335 : decode cX10_seen 335 = .ok (.iconst 0, 1) := by decide +kernel
theorem dX10_seen_336 : decode cX10_seen 336 = .ok (.ior, 1) := by decide +kernel
theorem dX10_seen_337 : decode cX10_seen 337 = .ok (.istore 9, 2) := by decide +kernel
theorem dX10_seen_339 : decode cX10_seen 339 = .ok (.iinc 10 1, 3) := by decide +kernel
theorem dX10_seen_342 : decode cX10_seen 342 = .ok (.goto (-135), 3) := by decide +kernel
theorem dX10_seen_345 : decode cX10_seen 345 = .ok (.aload_n 0, 1) := by decide +kernel
theorem dX10_seen_346 : decode cX10_seen 346 = .ok (.iload 4, 2) := by decide +kernel
theorem dX10_seen_348 : decode cX10_seen 348 = .ok (.ifCond .ne 8, 3) := by decide +kernel
theorem dX10_seen_351 : decode cX10_seen 351 = .ok (.iload 7, 2) := by decide +kernel
theorem dX10_seen_353 : decode cX10_seen 353 = .ok (.goto 26, 3) := by decide +kernel
theorem dX10_seen_356 : decode cX10_seen 356 = .ok (.iload 7, 2) := by decide +kernel
theorem dX10_seen_358 : decode cX10_seen 358 = .ok (.ifCond .ne 8, 3) := by decide +kernel
theorem dX10_seen_361 : decode cX10_seen 361 = .ok (.ldc 200, 2) := by decide +kernel
theorem dX10_seen_363 : decode cX10_seen 363 = .ok (.goto 16, 3) := by decide +kernel
theorem dX10_seen_366 : decode cX10_seen 366 = .ok (.iload 4, 2) := by decide +kernel
theorem dX10_seen_368 : decode cX10_seen 368 = .ok (.iconst 1, 1) := by decide +kernel
theorem dX10_seen_369 : decode cX10_seen 369 = .ok (.if_icmp .ne 8, 3) := by decide +kernel
theorem dX10_seen_372 : decode cX10_seen 372 = .ok (.iload 8, 2) := by decide +kernel
theorem dX10_seen_374 : decode cX10_seen 374 = .ok (.goto 5, 3) := by decide +kernel
theorem dX10_seen_377 : decode cX10_seen 377 = .ok (.iload 9, 2) := by decide +kernel
theorem dX10_seen_379 : decode cX10_seen 379 = .ok (.invokevirtual 66, 3) := by decide +kernel
theorem dX10_seen_382 : decode cX10_seen 382 = .ok (.ireturn, 1) := by decide +kernel
set_option maxRecDepth 20000 in
theorem ggX10_image_X10_isTwo : GoodIn wsX10_image wsX10_isTwo := goodIn_r _ [10, 11, 12, 9, 13] (by decide +kernel) (by decide +kernel)
set_option maxRecDepth 20000 in
theorem gX10_image_X10_isTwo : GoodIn wsX10_image (va_wsS RX10 227 yX10_isTwo wsX10_isTwo) := goodIn_app (goodIn_of _ (by decide +kernel)) ggX10_image_X10_isTwo
set_option maxRecDepth 20000 in
theorem ggX10_image_X10_copies : GoodIn wsX10_image wsX10_copies := goodIn_r _ [16] (by decide +kernel) (by decide +kernel)
set_option maxRecDepth 20000 in
theorem gX10_image_X10_copies : GoodIn wsX10_image (va_wsS RX10 144 yX10_copies wsX10_copies) := goodIn_app (goodIn_of _ (by decide +kernel)) ggX10_image_X10_copies
theorem dX10_image_0 : decode cX10_image 0 = .ok (.iload_n 1, 1) := by decide +kernel
theorem dX10_image_1 : decode cX10_image 1 = .ok (.invokestatic 227, 3) := by decide +kernel
theorem dX10_image_4 : decode cX10_image 4 = .ok (.ifCond .ne 6, 3) := by decide +kernel
theorem dX10_image_7 : decode cX10_image 7 = .ok (.ldc 61, 2) := by decide +kernel
theorem dX10_image_9 : decode cX10_image 9 = .ok (.ireturn, 1) := by decide +kernel
theorem dX10_image_10 : decode cX10_image 10 = .ok (.aload_n 0, 1) := by decide +kernel
theorem dX10_image_11 : decode cX10_image 11 = .ok (.getfield 137, 3) := by decide +kernel
theorem dX10_image_14 : decode cX10_image 14 = .ok (.ifCond .ne 6, 3) := by decide +kernel
theorem dX10_image_17 : decode cX10_image 17 = .ok (.ldc 159, 2) := by decide +kernel
theorem dX10_image_19 : decode cX10_image 19 = .ok (.ireturn, 1) := by decide +kernel
theorem dX10_image_20 : decode cX10_image 20 = .ok (.aload_n 0, 1) := by decide +kernel
theorem dX10_image_21 : decode cX10_image 21 = .ok (.getfield 22, 3) := by decide +kernel
theorem dX10_image_24 : decode cX10_image 24 = .ok (.iconst 0, 1) := by decide +kernel
theorem dX10_image_25 : decode cX10_image 25 = .ok (.aload_n 0, 1) := by decide +kernel
theorem dX10_image_26 : decode cX10_image 26 = .ok (.getfield 28, 3) := by decide +kernel
theorem dX10_image_29 : decode cX10_image 29 = .ok (.bipush 48, 2) := by decide +kernel
theorem dX10_image_31 : decode cX10_image 31 = .ok (.iload_n 1, 1) := by decide +kernel
theorem dX10_image_32 : decode cX10_image 32 = .ok (.imul, 1) := by decide +kernel
theorem dX10_image_33 : decode cX10_image 33 = .ok (.invokestatic 144, 3) := by decide +kernel
theorem dX10_image_36 : decode cX10_image 36 = .ok (.aload_n 0, 1) := by decide +kernel
theorem dX10_image_37 : decode cX10_image 37 = .ok (.getfield 31, 3) := by decide +kernel
theorem dX10_image_40 : decode cX10_image 40 = .ok (.iload_n 1, 1) := by decide +kernel
theorem dX10_image_41 : decode cX10_image 41 = .ok (.iconst 1, 1) := by decide +kernel
theorem dX10_image_42 : decode cX10_image 42 = .ok (.bastore, 1) := by decide +kernel
theorem dX10_image_43 : decode cX10_image 43 = .ok (.iconst 1, 1) := by decide +kernel
theorem dX10_image_44 : decode cX10_image 44 = .ok (.ireturn, 1) := by decide +kernel
set_option maxRecDepth 20000 in
theorem ggX10_restore_X10_isTwo : GoodIn wsX10_restore wsX10_isTwo := goodIn_r _ [10, 11, 12, 9, 13] (by decide +kernel) (by decide +kernel)
set_option maxRecDepth 20000 in
theorem gX10_restore_X10_isTwo : GoodIn wsX10_restore (va_wsS RX10 227 yX10_isTwo wsX10_isTwo) := goodIn_app (goodIn_of _ (by decide +kernel)) ggX10_restore_X10_isTwo
set_option maxRecDepth 20000 in
theorem ggX10_restore_X10_copies : GoodIn wsX10_restore wsX10_copies := goodIn_r _ [16] (by decide +kernel) (by decide +kernel)
set_option maxRecDepth 20000 in
theorem gX10_restore_X10_copies : GoodIn wsX10_restore (va_wsS RX10 144 yX10_copies wsX10_copies) := goodIn_app (goodIn_of _ (by decide +kernel)) ggX10_restore_X10_copies
theorem dX10_restore_0 : decode cX10_restore 0 = .ok (.iload_n 1, 1) := by decide +kernel
theorem dX10_restore_1 : decode cX10_restore 1 = .ok (.invokestatic 227, 3) := by decide +kernel
theorem dX10_restore_4 : decode cX10_restore 4 = .ok (.ifCond .ne 6, 3) := by decide +kernel
theorem dX10_restore_7 : decode cX10_restore 7 = .ok (.ldc 61, 2) := by decide +kernel
theorem dX10_restore_9 : decode cX10_restore 9 = .ok (.ireturn, 1) := by decide +kernel
theorem dX10_restore_10 : decode cX10_restore 10 = .ok (.aload_n 0, 1) := by decide +kernel
theorem dX10_restore_11 : decode cX10_restore 11 = .ok (.getfield 31, 3) := by decide +kernel
theorem dX10_restore_14 : decode cX10_restore 14 = .ok (.iload_n 1, 1) := by decide +kernel
theorem dX10_restore_15 : decode cX10_restore 15 = .ok (.baload, 1) := by decide +kernel
theorem dX10_restore_16 : decode cX10_restore 16 = .ok (.ifCond .ne 6, 3) := by decide +kernel
theorem dX10_restore_19 : decode cX10_restore 19 = .ok (.ldc 159, 2) := by decide +kernel
theorem dX10_restore_21 : decode cX10_restore 21 = .ok (.ireturn, 1) := by decide +kernel
theorem dX10_restore_22 : decode cX10_restore 22 = .ok (.aload_n 0, 1) := by decide +kernel
theorem dX10_restore_23 : decode cX10_restore 23 = .ok (.getfield 28, 3) := by decide +kernel
theorem dX10_restore_26 : decode cX10_restore 26 = .ok (.bipush 48, 2) := by decide +kernel
theorem dX10_restore_28 : decode cX10_restore 28 = .ok (.iload_n 1, 1) := by decide +kernel
theorem dX10_restore_29 : decode cX10_restore 29 = .ok (.imul, 1) := by decide +kernel
theorem dX10_restore_30 : decode cX10_restore 30 = .ok (.aload_n 0, 1) := by decide +kernel
theorem dX10_restore_31 : decode cX10_restore 31 = .ok (.getfield 22, 3) := by decide +kernel
theorem dX10_restore_34 : decode cX10_restore 34 = .ok (.iconst 0, 1) := by decide +kernel
theorem dX10_restore_35 : decode cX10_restore 35 = .ok (.invokestatic 144, 3) := by decide +kernel
theorem dX10_restore_38 : decode cX10_restore 38 = .ok (.aload_n 0, 1) := by decide +kernel
theorem dX10_restore_39 : decode cX10_restore 39 = .ok (.iconst 0, 1) := by decide +kernel
theorem dX10_restore_40 : decode cX10_restore 40 = .ok (.putfield 141, 3) := by decide +kernel
theorem dX10_restore_43 : decode cX10_restore 43 = .ok (.iconst 1, 1) := by decide +kernel
theorem dX10_restore_44 : decode cX10_restore 44 = .ok (.ireturn, 1) := by decide +kernel
set_option maxRecDepth 20000 in
theorem ggX10_kind_X10_isSuitor : GoodIn wsX10_kind wsX10_isSuitor := goodIn_r _ [7, 1, 8, 9, 6, 10, 11, 12, 13, 14, 15, 16, 17, 18, 19, 20, 21, 22, 23, 24, 25, 26, 27, 28, 29, 30, 31, 32, 33, 34] (by decide +kernel) (by decide +kernel)
set_option maxRecDepth 20000 in
theorem gX10_kind_X10_isSuitor : GoodIn wsX10_kind (wsV RX10 192 RX10 yX10_isSuitor wsX10_isSuitor) := goodIn_app (goodIn_of _ (by decide +kernel)) ggX10_kind_X10_isSuitor
theorem dX10_kind_0 : decode cX10_kind 0 = .ok (.aload_n 0, 1) := by decide +kernel
theorem dX10_kind_1 : decode cX10_kind 1 = .ok (.iload_n 1, 1) := by decide +kernel
theorem dX10_kind_2 : decode cX10_kind 2 = .ok (.invokevirtual 192, 3) := by decide +kernel
theorem dX10_kind_5 : decode cX10_kind 5 = .ok (.ifCond .eq 15, 3) := by decide +kernel
theorem dX10_kind_8 : decode cX10_kind 8 = .ok (.aload_n 0, 1) := by decide +kernel
theorem dX10_kind_9 : decode cX10_kind 9 = .ok (.getfield 22, 3) := by decide +kernel
theorem dX10_kind_12 : decode cX10_kind 12 = .ok (.bipush 23, 2) := by decide +kernel
theorem dX10_kind_14 : decode cX10_kind 14 = .ok (.iload_n 1, 1) := by decide +kernel
theorem dX10_kind_15 : decode cX10_kind 15 = .ok (.iadd, 1) := by decide +kernel
theorem dX10_kind_16 : decode cX10_kind 16 = .ok (.iaload, 1) := by decide +kernel
theorem dX10_kind_17 : decode cX10_kind 17 = .ok (.goto 5, 3) := by decide +kernel
theorem dX10_kind_20 : decode cX10_kind 20 = .ok (.ldc 61, 2) := by decide +kernel
theorem dX10_kind_22 : decode cX10_kind 22 = .ok (.ireturn, 1) := by decide +kernel
theorem dX10_isOf_0 : decode cX10_isOf 0 = .ok (.iload_n 1, 1) := by decide +kernel
theorem dX10_isOf_1 : decode cX10_isOf 1 = .ok (.ifCond .eq 33, 3) := by decide +kernel
theorem dX10_isOf_4 : decode cX10_isOf 4 = .ok (.iload_n 0, 1) := by decide +kernel
theorem dX10_isOf_5 : decode cX10_isOf 5 = .ok (.iload_n 1, 1) := by decide +kernel
theorem dX10_isOf_6 : decode cX10_isOf 6 = .ok (.if_icmp .eq 28, 3) := by decide +kernel
theorem dX10_isOf_9 : decode cX10_isOf 9 = .ok (.iload_n 1, 1) := by decide +kernel
theorem dX10_isOf_10 : decode cX10_isOf 10 = .ok (.iconst 1, 1) := by decide +kernel
theorem dX10_isOf_11 : decode cX10_isOf 11 = .ok (.if_icmp .ne 13, 3) := by decide +kernel
theorem dX10_isOf_14 : decode cX10_isOf 14 = .ok (.iload_n 0, 1) := by decide +kernel
theorem dX10_isOf_15 : decode cX10_isOf 15 = .ok (.iconst 2, 1) := by decide +kernel
theorem dX10_isOf_16 : decode cX10_isOf 16 = .ok (.if_icmp .eq 18, 3) := by decide +kernel
theorem dX10_isOf_19 : decode cX10_isOf 19 = .ok (.iload_n 0, 1) := by decide +kernel
theorem dX10_isOf_20 : decode cX10_isOf 20 = .ok (.iconst 3, 1) := by decide +kernel
theorem dX10_isOf_21 : decode cX10_isOf 21 = .ok (.if_icmp .eq 13, 3) := by decide +kernel
theorem dX10_isOf_24 : decode cX10_isOf 24 = .ok (.iload_n 1, 1) := by decide +kernel
theorem dX10_isOf_25 : decode cX10_isOf 25 = .ok (.iconst 4, 1) := by decide +kernel
theorem dX10_isOf_26 : decode cX10_isOf 26 = .ok (.if_icmp .ne 12, 3) := by decide +kernel
theorem dX10_isOf_29 : decode cX10_isOf 29 = .ok (.iload_n 0, 1) := by decide +kernel
theorem dX10_isOf_30 : decode cX10_isOf 30 = .ok (.iconst 5, 1) := by decide +kernel
theorem dX10_isOf_31 : decode cX10_isOf 31 = .ok (.if_icmp .ne 7, 3) := by decide +kernel
theorem dX10_isOf_34 : decode cX10_isOf 34 = .ok (.iconst 1, 1) := by decide +kernel
theorem dX10_isOf_35 : decode cX10_isOf 35 = .ok (.goto 4, 3) := by decide +kernel
theorem dX10_isOf_38 : decode cX10_isOf 38 = .ok (.iconst 0, 1) := by decide +kernel
theorem dX10_isOf_39 : decode cX10_isOf 39 = .ok (.ireturn, 1) := by decide +kernel
set_option maxRecDepth 20000 in
theorem ggX10_as_X10_isSuitor : GoodIn wsX10_as wsX10_isSuitor := goodIn_r _ [8, 3, 9, 10, 7, 11, 25, 26, 27, 28, 29, 30, 31, 32, 33, 34, 35, 36, 37, 38, 39, 40, 41, 42, 43, 44, 45, 46, 47, 48] (by decide +kernel) (by decide +kernel)
set_option maxRecDepth 20000 in
theorem gX10_as_X10_isSuitor : GoodIn wsX10_as (wsV RX10 192 RX10 yX10_isSuitor wsX10_isSuitor) := goodIn_app (goodIn_of _ (by decide +kernel)) ggX10_as_X10_isSuitor
set_option maxRecDepth 20000 in
theorem ggX10_as_X10_in : GoodIn wsX10_as wsX10_in := goodIn_r _ [11] (by decide +kernel) (by decide +kernel)
set_option maxRecDepth 20000 in
theorem gX10_as_X10_in : GoodIn wsX10_as (va_wsS RX10 51 yX10_in wsX10_in) := goodIn_app (goodIn_of _ (by decide +kernel)) ggX10_as_X10_in
set_option maxRecDepth 20000 in
theorem ggX10_as_X10_isOf : GoodIn wsX10_as wsX10_isOf := goodIn_r _ [14] (by decide +kernel) (by decide +kernel)
set_option maxRecDepth 20000 in
theorem gX10_as_X10_isOf : GoodIn wsX10_as (va_wsS RX10 245 yX10_isOf wsX10_isOf) := goodIn_app (goodIn_of _ (by decide +kernel)) ggX10_as_X10_isOf
set_option maxRecDepth 20000 in
theorem ggX10_as_X10_well : GoodIn wsX10_as wsX10_well := goodIn_r _ [18, 19, 25, 26, 27, 28, 29, 30, 31, 32, 33, 34, 35, 36, 37, 38, 39, 40, 41, 42, 43, 44, 45, 46, 47, 48] (by decide +kernel) (by decide +kernel)
set_option maxRecDepth 20000 in
theorem gX10_as_X10_well : GoodIn wsX10_as (wsV RX10 66 RX10 yX10_well wsX10_well) := goodIn_app (goodIn_of _ (by decide +kernel)) ggX10_as_X10_well
set_option maxRecDepth 20000 in
theorem ggX10_as_X10_found : GoodIn wsX10_as wsX10_found := goodIn_r _ [23, 19, 24, 25, 26, 27, 28, 29, 30, 31, 32, 33, 34, 35, 36, 37, 38, 39, 40, 41, 42, 43, 44, 45, 46, 47, 48] (by decide +kernel) (by decide +kernel)
set_option maxRecDepth 20000 in
theorem gX10_as_X10_found : GoodIn wsX10_as (wsV RX10 62 RX10 yX10_found wsX10_found) := goodIn_app (goodIn_of _ (by decide +kernel)) ggX10_as_X10_found
theorem dX10_as_0 : decode cX10_as 0 = .ok (.aload_n 0, 1) := by decide +kernel
theorem dX10_as_1 : decode cX10_as 1 = .ok (.iload_n 1, 1) := by decide +kernel
theorem dX10_as_2 : decode cX10_as 2 = .ok (.invokevirtual 192, 3) := by decide +kernel
theorem dX10_as_5 : decode cX10_as 5 = .ok (.ifCond .eq 15, 3) := by decide +kernel
theorem dX10_as_8 : decode cX10_as 8 = .ok (.iload_n 2, 1) := by decide +kernel
theorem dX10_as_9 : decode cX10_as 9 = .ok (.i2l, 1) := by decide +kernel
theorem dX10_as_10 : decode cX10_as 10 = .ok (.lconst 0, 1) := by decide +kernel
theorem dX10_as_11 : decode cX10_as 11 = .ok (.ldc2_w 243, 3) := by decide +kernel
theorem dX10_as_14 : decode cX10_as 14 = .ok (.invokestatic 51, 3) := by decide +kernel
theorem dX10_as_17 : decode cX10_as 17 = .ok (.ifCond .ne 6, 3) := by decide +kernel
theorem dX10_as_20 : decode cX10_as 20 = .ok (.ldc 61, 2) := by decide +kernel
theorem dX10_as_22 : decode cX10_as 22 = .ok (.ireturn, 1) := by decide +kernel
theorem dX10_as_23 : decode cX10_as 23 = .ok (.aload_n 0, 1) := by decide +kernel
theorem dX10_as_24 : decode cX10_as 24 = .ok (.getfield 22, 3) := by decide +kernel
theorem dX10_as_27 : decode cX10_as 27 = .ok (.bipush 23, 2) := by decide +kernel
theorem dX10_as_29 : decode cX10_as 29 = .ok (.iload_n 1, 1) := by decide +kernel
theorem dX10_as_30 : decode cX10_as 30 = .ok (.iadd, 1) := by decide +kernel
theorem dX10_as_31 : decode cX10_as 31 = .ok (.iaload, 1) := by decide +kernel
theorem dX10_as_32 : decode cX10_as 32 = .ok (.iload_n 2, 1) := by decide +kernel
theorem dX10_as_33 : decode cX10_as 33 = .ok (.invokestatic 245, 3) := by decide +kernel
theorem dX10_as_36 : decode cX10_as 36 = .ok (.ifCond .eq 11, 3) := by decide +kernel
theorem dX10_as_39 : decode cX10_as 39 = .ok (.aload_n 0, 1) := by decide +kernel
theorem dX10_as_40 : decode cX10_as 40 = .ok (.iload_n 1, 1) := by decide +kernel
theorem dX10_as_41 : decode cX10_as 41 = .ok (.invokevirtual 66, 3) := by decide +kernel
theorem dX10_as_44 : decode cX10_as 44 = .ok (.goto 8, 3) := by decide +kernel
theorem dX10_as_47 : decode cX10_as 47 = .ok (.aload_n 0, 1) := by decide +kernel
theorem dX10_as_48 : decode cX10_as 48 = .ok (.iconst 3, 1) := by decide +kernel
theorem dX10_as_49 : decode cX10_as 49 = .ok (.invokevirtual 62, 3) := by decide +kernel
theorem dX10_as_52 : decode cX10_as 52 = .ok (.ireturn, 1) := by decide +kernel
theorem dX10_leave_0 : decode cX10_leave 0 = .ok (.lconst 1, 1) := by decide +kernel
theorem dX10_leave_1 : decode cX10_leave 1 = .ok (.lstore_n 3, 1) := by decide +kernel
theorem dX10_leave_2 : decode cX10_leave 2 = .ok (.lload_n 3, 1) := by decide +kernel
theorem dX10_leave_3 : decode cX10_leave 3 = .ok (.ldc2_w 249, 3) := by decide +kernel
theorem dX10_leave_6 : decode cX10_leave 6 = .ok (.lmul, 1) := by decide +kernel
theorem dX10_leave_7 : decode cX10_leave 7 = .ok (.lload_n 1, 1) := by decide +kernel
theorem dX10_leave_8 : decode cX10_leave 8 = .ok (.lcmp, 1) := by decide +kernel
theorem dX10_leave_9 : decode cX10_leave 9 = .ok (.ifCond .gt 12, 3) := by decide +kernel
theorem dX10_leave_12 : decode cX10_leave 12 = .ok (.lload_n 3, 1) := by decide +kernel
theorem dX10_leave_13 : decode cX10_leave 13 = .ok (.ldc2_w 249, 3) := by decide +kernel
theorem dX10_leave_16 : decode cX10_leave 16 = .ok (.lmul, 1) := by decide +kernel
theorem dX10_leave_17 : decode cX10_leave 17 = .ok (.lstore_n 3, 1) := by decide +kernel
theorem dX10_leave_18 : decode cX10_leave 18 = .ok (.goto (-16), 3) := by decide +kernel
theorem dX10_leave_21 : decode cX10_leave 21 = .ok (.lload_n 1, 1) := by decide +kernel
theorem dX10_leave_22 : decode cX10_leave 22 = .ok (.lstore 5, 2) := by decide +kernel
theorem dX10_leave_24 : decode cX10_leave 24 = .ok (.lload_n 3, 1) := by decide +kernel
theorem dX10_leave_25 : decode cX10_leave 25 = .ok (.lconst 0, 1) := by decide +kernel
theorem dX10_leave_26 : decode cX10_leave 26 = .ok (.lcmp, 1) := by decide +kernel
theorem dX10_leave_27 : decode cX10_leave 27 = .ok (.ifCond .le 42, 3) := by decide +kernel
theorem dX10_leave_30 : decode cX10_leave 30 = .ok (.aload_n 0, 1) := by decide +kernel
theorem dX10_leave_31 : decode cX10_leave 31 = .ok (.getfield 35, 3) := by decide +kernel
theorem dX10_leave_34 : decode cX10_leave 34 = .ok (.aload_n 0, 1) := by decide +kernel
theorem dX10_leave_35 : decode cX10_leave 35 = .ok (.getfield 251, 3) := by decide +kernel
theorem dX10_leave_38 : decode cX10_leave 38 = .ok (.lload 5, 2) := by decide +kernel
theorem dX10_leave_40 : decode cX10_leave 40 = .ok (.lload_n 3, 1) := by decide +kernel
theorem dX10_leave_41 : decode cX10_leave 41 = .ok (.ldiv, 1) := by decide +kernel
theorem dX10_leave_42 : decode cX10_leave 42 = .ok (.l2i, 1) := by decide +kernel
theorem dX10_leave_43 : decode cX10_leave 43 = .ok (.iastore, 1) := by decide +kernel
theorem dX10_leave_44 : decode cX10_leave 44 = .ok (.lload 5, 2) := by decide +kernel
theorem dX10_leave_46 : decode cX10_leave 46 = .ok (.lload_n 3, 1) := by decide +kernel
theorem dX10_leave_47 : decode cX10_leave 47 = .ok (.lrem, 1) := by decide +kernel
theorem dX10_leave_48 : decode cX10_leave 48 = .ok (.lstore 5, 2) := by decide +kernel
theorem dX10_leave_50 : decode cX10_leave 50 = .ok (.aload_n 0, 1) := by decide +kernel
theorem dX10_leave_51 : decode cX10_leave 51 = .ok (.dup, 1) := by decide +kernel
theorem dX10_leave_52 : decode cX10_leave 52 = .ok (.getfield 251, 3) := by decide +kernel
theorem dX10_leave_55 : decode cX10_leave 55 = .ok (.iconst 1, 1) := by decide +kernel
theorem dX10_leave_56 : decode cX10_leave 56 = .ok (.iadd, 1) := by decide +kernel
theorem dX10_leave_57 : decode cX10_leave 57 = .ok (.putfield 251, 3) := by decide +kernel
theorem dX10_leave_60 : decode cX10_leave 60 = .ok (.lload_n 3, 1) := by decide +kernel
theorem dX10_leave_61 : decode cX10_leave 61 = .ok (.ldc2_w 249, 3) := by decide +kernel
theorem dX10_leave_64 : decode cX10_leave 64 = .ok (.ldiv, 1) := by decide +kernel
theorem dX10_leave_65 : decode cX10_leave 65 = .ok (.lstore_n 3, 1) := by decide +kernel
theorem dX10_leave_66 : decode cX10_leave 66 = .ok (.goto (-42), 3) := by decide +kernel
theorem dX10_leave_69 : decode cX10_leave 69 = .ok (.return_, 1) := by decide +kernel
set_option maxRecDepth 20000 in
theorem ggX10_mark_X10_leave : GoodIn wsX10_mark wsX10_leave := goodIn_r _ [9, 10, 11, 12, 13, 14, 15, 16, 17, 18, 19, 20, 21, 22, 23, 24, 25, 26, 27, 28, 29, 30, 31, 32, 33, 34, 35, 36] (by decide +kernel) (by decide +kernel)
set_option maxRecDepth 20000 in
theorem gX10_mark_X10_leave : GoodIn wsX10_mark (wsV RX10 260 RX10 yX10_leave wsX10_leave) := goodIn_app (goodIn_of _ (by decide +kernel)) ggX10_mark_X10_leave
theorem dX10_mark_0 : decode cX10_mark 0 = .ok (.aload_n 0, 1) := by decide +kernel
theorem dX10_mark_1 : decode cX10_mark 1 = .ok (.getfield 22, 3) := by decide +kernel
theorem dX10_mark_4 : decode cX10_mark 4 = .ok (.bipush 23, 2) := by decide +kernel
theorem dX10_mark_6 : decode cX10_mark 6 = .ok (.iload_n 1, 1) := by decide +kernel
theorem dX10_mark_7 : decode cX10_mark 7 = .ok (.iadd, 1) := by decide +kernel
theorem dX10_mark_8 : decode cX10_mark 8 = .ok (.iaload, 1) := by decide +kernel
theorem dX10_mark_9 : decode cX10_mark 9 = .ok (.istore_n 2, 1) := by decide +kernel
theorem dX10_mark_10 : decode cX10_mark 10 = .ok (.iload_n 1, 1) := by decide +kernel
theorem dX10_mark_11 : decode cX10_mark 11 = .ok (.aload_n 0, 1) := by decide +kernel
theorem dX10_mark_12 : decode cX10_mark 12 = .ok (.getfield 22, 3) := by decide +kernel
theorem dX10_mark_15 : decode cX10_mark 15 = .ok (.bipush 33, 2) := by decide +kernel
theorem dX10_mark_17 : decode cX10_mark 17 = .ok (.iload_n 1, 1) := by decide +kernel
theorem dX10_mark_18 : decode cX10_mark 18 = .ok (.iadd, 1) := by decide +kernel
theorem dX10_mark_19 : decode cX10_mark 19 = .ok (.iaload, 1) := by decide +kernel
theorem dX10_mark_20 : decode cX10_mark 20 = .ok (.iadd, 1) := by decide +kernel
theorem dX10_mark_21 : decode cX10_mark 21 = .ok (.istore_n 3, 1) := by decide +kernel
theorem dX10_mark_22 : decode cX10_mark 22 = .ok (.aload_n 0, 1) := by decide +kernel
theorem dX10_mark_23 : decode cX10_mark 23 = .ok (.iload_n 2, 1) := by decide +kernel
theorem dX10_mark_24 : decode cX10_mark 24 = .ok (.iconst 2, 1) := by decide +kernel
theorem dX10_mark_25 : decode cX10_mark 25 = .ok (.if_icmp .ne 9, 3) := by decide +kernel
theorem dX10_mark_28 : decode cX10_mark 28 = .ok (.ldc2_w 254, 3) := by decide +kernel
theorem dX10_mark_31 : decode cX10_mark 31 = .ok (.goto 17, 3) := by decide +kernel
theorem dX10_mark_34 : decode cX10_mark 34 = .ok (.iload_n 2, 1) := by decide +kernel
theorem dX10_mark_35 : decode cX10_mark 35 = .ok (.iconst 3, 1) := by decide +kernel
theorem dX10_mark_36 : decode cX10_mark 36 = .ok (.if_icmp .ne 9, 3) := by decide +kernel
theorem dX10_mark_39 : decode cX10_mark 39 = .ok (.ldc2_w 256, 3) := by decide +kernel
theorem dX10_mark_42 : decode cX10_mark 42 = .ok (.goto 6, 3) := by decide +kernel
theorem dX10_mark_45 : decode cX10_mark 45 = .ok (.ldc2_w 258, 3) := by decide +kernel
theorem dX10_mark_48 : decode cX10_mark 48 = .ok (.invokevirtual 260, 3) := by decide +kernel
theorem dX10_mark_51 : decode cX10_mark 51 = .ok (.iload_n 2, 1) := by decide +kernel
theorem dX10_mark_52 : decode cX10_mark 52 = .ok (.iconst 2, 1) := by decide +kernel
theorem dX10_mark_53 : decode cX10_mark 53 = .ok (.if_icmp .ne 9, 3) := by decide +kernel
theorem dX10_mark_56 : decode cX10_mark 56 = .ok (.iconst 2, 1) := by decide +kernel
theorem dX10_mark_57 : decode cX10_mark 57 = .ok (.iload_n 3, 1) := by decide +kernel
theorem dX10_mark_58 : decode cX10_mark 58 = .ok (.imul, 1) := by decide +kernel
theorem dX10_mark_59 : decode cX10_mark 59 = .ok (.goto 17, 3) := by decide +kernel
theorem dX10_mark_62 : decode cX10_mark 62 = .ok (.iload_n 2, 1) := by decide +kernel
theorem dX10_mark_63 : decode cX10_mark 63 = .ok (.iconst 3, 1) := by decide +kernel
theorem dX10_mark_64 : decode cX10_mark 64 = .ok (.if_icmp .ne 11, 3) := by decide +kernel
theorem dX10_mark_67 : decode cX10_mark 67 = .ok (.iload_n 3, 1) := by decide +kernel
theorem dX10_mark_68 : decode cX10_mark 68 = .ok (.sipush 1000, 3) := by decide +kernel
theorem dX10_mark_71 : decode cX10_mark 71 = .ok (.isub, 1) := by decide +kernel
theorem dX10_mark_72 : decode cX10_mark 72 = .ok (.goto 4, 3) := by decide +kernel
theorem dX10_mark_75 : decode cX10_mark 75 = .ok (.iload_n 3, 1) := by decide +kernel
theorem dX10_mark_76 : decode cX10_mark 76 = .ok (.ireturn, 1) := by decide +kernel
set_option maxRecDepth 20000 in
theorem ggX10_sizeOf_X10_leave : GoodIn wsX10_sizeOf wsX10_leave := goodIn_r _ [8, 9, 10, 11, 12, 13, 14, 15, 16, 17, 18, 19, 20, 21, 22, 23, 24, 25, 26, 27, 28, 29, 30, 31, 32, 33, 34, 35] (by decide +kernel) (by decide +kernel)
set_option maxRecDepth 20000 in
theorem gX10_sizeOf_X10_leave : GoodIn wsX10_sizeOf (wsV RX10 260 RX10 yX10_leave wsX10_leave) := goodIn_app (goodIn_of _ (by decide +kernel)) ggX10_sizeOf_X10_leave
theorem dX10_sizeOf_0 : decode cX10_sizeOf 0 = .ok (.aload_n 0, 1) := by decide +kernel
theorem dX10_sizeOf_1 : decode cX10_sizeOf 1 = .ok (.getfield 22, 3) := by decide +kernel
theorem dX10_sizeOf_4 : decode cX10_sizeOf 4 = .ok (.bipush 38, 2) := by decide +kernel
theorem dX10_sizeOf_6 : decode cX10_sizeOf 6 = .ok (.iload_n 1, 1) := by decide +kernel
theorem dX10_sizeOf_7 : decode cX10_sizeOf 7 = .ok (.iadd, 1) := by decide +kernel
theorem dX10_sizeOf_8 : decode cX10_sizeOf 8 = .ok (.iaload, 1) := by decide +kernel
theorem dX10_sizeOf_9 : decode cX10_sizeOf 9 = .ok (.bipush 100, 2) := by decide +kernel
theorem dX10_sizeOf_11 : decode cX10_sizeOf 11 = .ok (.isub, 1) := by decide +kernel
theorem dX10_sizeOf_12 : decode cX10_sizeOf 12 = .ok (.istore_n 2, 1) := by decide +kernel
theorem dX10_sizeOf_13 : decode cX10_sizeOf 13 = .ok (.aload_n 0, 1) := by decide +kernel
theorem dX10_sizeOf_14 : decode cX10_sizeOf 14 = .ok (.getfield 22, 3) := by decide +kernel
theorem dX10_sizeOf_17 : decode cX10_sizeOf 17 = .ok (.bipush 23, 2) := by decide +kernel
theorem dX10_sizeOf_19 : decode cX10_sizeOf 19 = .ok (.iload_n 1, 1) := by decide +kernel
theorem dX10_sizeOf_20 : decode cX10_sizeOf 20 = .ok (.iadd, 1) := by decide +kernel
theorem dX10_sizeOf_21 : decode cX10_sizeOf 21 = .ok (.iaload, 1) := by decide +kernel
theorem dX10_sizeOf_22 : decode cX10_sizeOf 22 = .ok (.iconst 5, 1) := by decide +kernel
theorem dX10_sizeOf_23 : decode cX10_sizeOf 23 = .ok (.if_icmp .ne 7, 3) := by decide +kernel
theorem dX10_sizeOf_26 : decode cX10_sizeOf 26 = .ok (.iconst 1, 1) := by decide +kernel
theorem dX10_sizeOf_27 : decode cX10_sizeOf 27 = .ok (.goto 4, 3) := by decide +kernel
theorem dX10_sizeOf_30 : decode cX10_sizeOf 30 = .ok (.iconst 0, 1) := by decide +kernel
theorem dX10_sizeOf_31 : decode cX10_sizeOf 31 = .ok (.istore_n 3, 1) := by decide +kernel
theorem dX10_sizeOf_32 : decode cX10_sizeOf 32 = .ok (.aload_n 0, 1) := by decide +kernel
theorem dX10_sizeOf_33 : decode cX10_sizeOf 33 = .ok (.iload_n 3, 1) := by decide +kernel
theorem dX10_sizeOf_34 : decode cX10_sizeOf 34 = .ok (.ifCond .eq 9, 3) := by decide +kernel
theorem dX10_sizeOf_37 : decode cX10_sizeOf 37 = .ok (.ldc2_w 264, 3) := by decide +kernel
theorem dX10_sizeOf_40 : decode cX10_sizeOf 40 = .ok (.goto 6, 3) := by decide +kernel
theorem dX10_sizeOf_43 : decode cX10_sizeOf 43 = .ok (.ldc2_w 266, 3) := by decide +kernel
theorem dX10_sizeOf_46 : decode cX10_sizeOf 46 = .ok (.invokevirtual 260, 3) := by decide +kernel
theorem dX10_sizeOf_49 : decode cX10_sizeOf 49 = .ok (.iload_n 3, 1) := by decide +kernel
theorem dX10_sizeOf_50 : decode cX10_sizeOf 50 = .ok (.ifCond .eq 9, 3) := by decide +kernel
theorem dX10_sizeOf_53 : decode cX10_sizeOf 53 = .ok (.iconst 2, 1) := by decide +kernel
theorem dX10_sizeOf_54 : decode cX10_sizeOf 54 = .ok (.iload_n 2, 1) := by decide +kernel
theorem dX10_sizeOf_55 : decode cX10_sizeOf 55 = .ok (.imul, 1) := by decide +kernel
theorem dX10_sizeOf_56 : decode cX10_sizeOf 56 = .ok (.goto 4, 3) := by decide +kernel
theorem dX10_sizeOf_59 : decode cX10_sizeOf 59 = .ok (.iload_n 2, 1) := by decide +kernel
theorem dX10_sizeOf_60 : decode cX10_sizeOf 60 = .ok (.ireturn, 1) := by decide +kernel
set_option maxRecDepth 20000 in
theorem ggX10_ask_X10_isSuitor : GoodIn wsX10_ask wsX10_isSuitor := goodIn_r _ [11, 3, 12, 13, 10, 14, 34, 35, 36, 37, 38, 39, 40, 41, 42, 43, 44, 45, 46, 47, 48, 49, 50, 51, 52, 53, 54, 55, 56, 57] (by decide +kernel) (by decide +kernel)
set_option maxRecDepth 20000 in
theorem gX10_ask_X10_isSuitor : GoodIn wsX10_ask (wsV RX10 192 RX10 yX10_isSuitor wsX10_isSuitor) := goodIn_app (goodIn_of _ (by decide +kernel)) ggX10_ask_X10_isSuitor
set_option maxRecDepth 20000 in
theorem ggX10_ask_X10_in : GoodIn wsX10_ask wsX10_in := goodIn_r _ [14] (by decide +kernel) (by decide +kernel)
set_option maxRecDepth 20000 in
theorem gX10_ask_X10_in : GoodIn wsX10_ask (va_wsS RX10 51 yX10_in wsX10_in) := goodIn_app (goodIn_of _ (by decide +kernel)) ggX10_ask_X10_in
set_option maxRecDepth 20000 in
theorem ggX10_ask_X10_mark : GoodIn wsX10_ask wsX10_mark := goodIn_r _ [18, 3, 19, 20, 21, 22, 23, 24, 10, 25, 26, 27, 2, 34, 35, 36, 37, 38, 39, 40, 41, 42, 43, 44, 45, 46, 47, 48, 49, 50, 51, 52, 53, 54, 55, 56, 57] (by decide +kernel) (by decide +kernel)
set_option maxRecDepth 20000 in
theorem gX10_ask_X10_mark : GoodIn wsX10_ask (wsV RX10 268 RX10 yX10_mark wsX10_mark) := goodIn_app (goodIn_of _ (by decide +kernel)) ggX10_ask_X10_mark
set_option maxRecDepth 20000 in
theorem ggX10_ask_X10_leave : GoodIn wsX10_ask wsX10_leave := goodIn_r _ [25, 26, 27, 2, 34, 35, 36, 37, 38, 39, 40, 41, 42, 43, 44, 45, 46, 47, 48, 49, 50, 51, 52, 53, 54, 55, 56, 57] (by decide +kernel) (by decide +kernel)
set_option maxRecDepth 20000 in
theorem gX10_ask_X10_leave : GoodIn wsX10_ask (wsV RX10 260 RX10 yX10_leave wsX10_leave) := goodIn_app (goodIn_of _ (by decide +kernel)) ggX10_ask_X10_leave
set_option maxRecDepth 20000 in
theorem ggX10_ask_X10_sizeOf : GoodIn wsX10_ask wsX10_sizeOf := goodIn_r _ [31, 3, 32, 33, 22, 23, 24, 10, 25, 26, 27, 2, 34, 35, 36, 37, 38, 39, 40, 41, 42, 43, 44, 45, 46, 47, 48, 49, 50, 51, 52, 53, 54, 55, 56, 57] (by decide +kernel) (by decide +kernel)
set_option maxRecDepth 20000 in
theorem gX10_ask_X10_sizeOf : GoodIn wsX10_ask (wsV RX10 275 RX10 yX10_sizeOf wsX10_sizeOf) := goodIn_app (goodIn_of _ (by decide +kernel)) ggX10_ask_X10_sizeOf
theorem dX10_ask_0 : decode cX10_ask 0 = .ok (.aload_n 0, 1) := by decide +kernel
theorem dX10_ask_1 : decode cX10_ask 1 = .ok (.iload_n 1, 1) := by decide +kernel
theorem dX10_ask_2 : decode cX10_ask 2 = .ok (.invokevirtual 192, 3) := by decide +kernel
theorem dX10_ask_5 : decode cX10_ask 5 = .ok (.ifCond .eq 13, 3) := by decide +kernel
theorem dX10_ask_8 : decode cX10_ask 8 = .ok (.iload_n 2, 1) := by decide +kernel
theorem dX10_ask_9 : decode cX10_ask 9 = .ok (.i2l, 1) := by decide +kernel
theorem dX10_ask_10 : decode cX10_ask 10 = .ok (.lconst 0, 1) := by decide +kernel
theorem dX10_ask_11 : decode cX10_ask 11 = .ok (.lconst 1, 1) := by decide +kernel
theorem dX10_ask_12 : decode cX10_ask 12 = .ok (.invokestatic 51, 3) := by decide +kernel
theorem dX10_ask_15 : decode cX10_ask 15 = .ok (.ifCond .ne 6, 3) := by decide +kernel
theorem dX10_ask_18 : decode cX10_ask 18 = .ok (.ldc 61, 2) := by decide +kernel
theorem dX10_ask_20 : decode cX10_ask 20 = .ok (.ireturn, 1) := by decide +kernel
theorem dX10_ask_21 : decode cX10_ask 21 = .ok (.aload_n 0, 1) := by decide +kernel
theorem dX10_ask_22 : decode cX10_ask 22 = .ok (.iconst 0, 1) := by decide +kernel
theorem dX10_ask_23 : decode cX10_ask 23 = .ok (.putfield 251, 3) := by decide +kernel
theorem dX10_ask_26 : decode cX10_ask 26 = .ok (.aload_n 0, 1) := by decide +kernel
theorem dX10_ask_27 : decode cX10_ask 27 = .ok (.getfield 22, 3) := by decide +kernel
theorem dX10_ask_30 : decode cX10_ask 30 = .ok (.bipush 23, 2) := by decide +kernel
theorem dX10_ask_32 : decode cX10_ask 32 = .ok (.iload_n 1, 1) := by decide +kernel
theorem dX10_ask_33 : decode cX10_ask 33 = .ok (.iadd, 1) := by decide +kernel
theorem dX10_ask_34 : decode cX10_ask 34 = .ok (.iaload, 1) := by decide +kernel
theorem dX10_ask_35 : decode cX10_ask 35 = .ok (.istore_n 3, 1) := by decide +kernel
theorem dX10_ask_36 : decode cX10_ask 36 = .ok (.iload_n 3, 1) := by decide +kernel
theorem dX10_ask_37 : decode cX10_ask 37 = .ok (.iconst 4, 1) := by decide +kernel
theorem dX10_ask_38 : decode cX10_ask 38 = .ok (.if_icmp .ge 63, 3) := by decide +kernel
theorem dX10_ask_41 : decode cX10_ask 41 = .ok (.iload_n 2, 1) := by decide +kernel
theorem dX10_ask_42 : decode cX10_ask 42 = .ok (.iconst 1, 1) := by decide +kernel
theorem dX10_ask_43 : decode cX10_ask 43 = .ok (.if_icmp .ne 9, 3) := by decide +kernel
theorem dX10_ask_46 : decode cX10_ask 46 = .ok (.aload_n 0, 1) := by decide +kernel
theorem dX10_ask_47 : decode cX10_ask 47 = .ok (.iload_n 1, 1) := by decide +kernel
theorem dX10_ask_48 : decode cX10_ask 48 = .ok (.invokevirtual 268, 3) := by decide +kernel
theorem dX10_ask_51 : decode cX10_ask 51 = .ok (.ireturn, 1) := by decide +kernel
theorem dX10_ask_52 : decode cX10_ask 52 = .ok (.aload_n 0, 1) := by decide +kernel
theorem dX10_ask_53 : decode cX10_ask 53 = .ok (.iload_n 3, 1) := by decide +kernel
theorem dX10_ask_54 : decode cX10_ask 54 = .ok (.iconst 2, 1) := by decide +kernel
theorem dX10_ask_55 : decode cX10_ask 55 = .ok (.if_icmp .ne 9, 3) := by decide +kernel
theorem dX10_ask_58 : decode cX10_ask 58 = .ok (.ldc2_w 271, 3) := by decide +kernel
theorem dX10_ask_61 : decode cX10_ask 61 = .ok (.goto 6, 3) := by decide +kernel
theorem dX10_ask_64 : decode cX10_ask 64 = .ok (.ldc2_w 273, 3) := by decide +kernel
theorem dX10_ask_67 : decode cX10_ask 67 = .ok (.invokevirtual 260, 3) := by decide +kernel
theorem dX10_ask_70 : decode cX10_ask 70 = .ok (.aload_n 0, 1) := by decide +kernel
theorem dX10_ask_71 : decode cX10_ask 71 = .ok (.getfield 22, 3) := by decide +kernel
theorem dX10_ask_74 : decode cX10_ask 74 = .ok (.bipush 38, 2) := by decide +kernel
theorem dX10_ask_76 : decode cX10_ask 76 = .ok (.iload_n 1, 1) := by decide +kernel
theorem dX10_ask_77 : decode cX10_ask 77 = .ok (.iadd, 1) := by decide +kernel
theorem dX10_ask_78 : decode cX10_ask 78 = .ok (.iaload, 1) := by decide +kernel
theorem dX10_ask_79 : decode cX10_ask 79 = .ok (.aload_n 0, 1) := by decide +kernel
theorem dX10_ask_80 : decode cX10_ask 80 = .ok (.iload_n 1, 1) := by decide +kernel
theorem dX10_ask_81 : decode cX10_ask 81 = .ok (.invokevirtual 268, 3) := by decide +kernel
theorem dX10_ask_84 : decode cX10_ask 84 = .ok (.iadd, 1) := by decide +kernel
theorem dX10_ask_85 : decode cX10_ask 85 = .ok (.istore 4, 2) := by decide +kernel
theorem dX10_ask_87 : decode cX10_ask 87 = .ok (.iload_n 3, 1) := by decide +kernel
theorem dX10_ask_88 : decode cX10_ask 88 = .ok (.iconst 2, 1) := by decide +kernel
theorem dX10_ask_89 : decode cX10_ask 89 = .ok (.if_icmp .ne 9, 3) := by decide +kernel
theorem dX10_ask_92 : decode cX10_ask 92 = .ok (.iload 4, 2) := by decide +kernel
theorem dX10_ask_94 : decode cX10_ask 94 = .ok (.ineg, 1) := by decide +kernel
theorem dX10_ask_95 : decode cX10_ask 95 = .ok (.goto 5, 3) := by decide +kernel
theorem dX10_ask_98 : decode cX10_ask 98 = .ok (.iload 4, 2) := by decide +kernel
theorem dX10_ask_100 : decode cX10_ask 100 = .ok (.ireturn, 1) := by decide +kernel
theorem dX10_ask_101 : decode cX10_ask 101 = .ok (.iload_n 2, 1) := by decide +kernel
theorem dX10_ask_102 : decode cX10_ask 102 = .ok (.ifCond .ne 9, 3) := by decide +kernel
theorem dX10_ask_105 : decode cX10_ask 105 = .ok (.aload_n 0, 1) := by decide +kernel
theorem dX10_ask_106 : decode cX10_ask 106 = .ok (.iload_n 1, 1) := by decide +kernel
theorem dX10_ask_107 : decode cX10_ask 107 = .ok (.invokevirtual 275, 3) := by decide +kernel
theorem dX10_ask_110 : decode cX10_ask 110 = .ok (.ireturn, 1) := by decide +kernel
theorem dX10_ask_111 : decode cX10_ask 111 = .ok (.aload_n 0, 1) := by decide +kernel
theorem dX10_ask_112 : decode cX10_ask 112 = .ok (.ldc2_w 278, 3) := by decide +kernel
theorem dX10_ask_115 : decode cX10_ask 115 = .ok (.invokevirtual 260, 3) := by decide +kernel
theorem dX10_ask_118 : decode cX10_ask 118 = .ok (.iload_n 1, 1) := by decide +kernel
theorem dX10_ask_119 : decode cX10_ask 119 = .ok (.aload_n 0, 1) := by decide +kernel
theorem dX10_ask_120 : decode cX10_ask 120 = .ok (.iload_n 1, 1) := by decide +kernel
theorem dX10_ask_121 : decode cX10_ask 121 = .ok (.invokevirtual 275, 3) := by decide +kernel
theorem dX10_ask_124 : decode cX10_ask 124 = .ok (.isub, 1) := by decide +kernel
theorem dX10_ask_125 : decode cX10_ask 125 = .ok (.ireturn, 1) := by decide +kernel
set_option maxRecDepth 20000 in
theorem ggX10_trace_X10_in : GoodIn wsX10_trace wsX10_in := goodIn_r _ [7] (by decide +kernel) (by decide +kernel)
set_option maxRecDepth 20000 in
theorem gX10_trace_X10_in : GoodIn wsX10_trace (va_wsS RX10 51 yX10_in wsX10_in) := goodIn_app (goodIn_of _ (by decide +kernel)) ggX10_trace_X10_in
theorem dX10_trace_0 : decode cX10_trace 0 = .ok (.iload_n 1, 1) := by decide +kernel
theorem dX10_trace_1 : decode cX10_trace 1 = .ok (.i2l, 1) := by decide +kernel
theorem dX10_trace_2 : decode cX10_trace 2 = .ok (.lconst 0, 1) := by decide +kernel
theorem dX10_trace_3 : decode cX10_trace 3 = .ok (.aload_n 0, 1) := by decide +kernel
theorem dX10_trace_4 : decode cX10_trace 4 = .ok (.getfield 251, 3) := by decide +kernel
theorem dX10_trace_7 : decode cX10_trace 7 = .ok (.iconst 1, 1) := by decide +kernel
theorem dX10_trace_8 : decode cX10_trace 8 = .ok (.isub, 1) := by decide +kernel
theorem dX10_trace_9 : decode cX10_trace 9 = .ok (.i2l, 1) := by decide +kernel
theorem dX10_trace_10 : decode cX10_trace 10 = .ok (.invokestatic 51, 3) := by decide +kernel
theorem dX10_trace_13 : decode cX10_trace 13 = .ok (.ifCond .eq 12, 3) := by decide +kernel
theorem dX10_trace_16 : decode cX10_trace 16 = .ok (.aload_n 0, 1) := by decide +kernel
theorem dX10_trace_17 : decode cX10_trace 17 = .ok (.getfield 35, 3) := by decide +kernel
theorem dX10_trace_20 : decode cX10_trace 20 = .ok (.iload_n 1, 1) := by decide +kernel
theorem dX10_trace_21 : decode cX10_trace 21 = .ok (.iaload, 1) := by decide +kernel
theorem dX10_trace_22 : decode cX10_trace 22 = .ok (.goto 5, 3) := by decide +kernel
theorem dX10_trace_25 : decode cX10_trace 25 = .ok (.ldc 200, 2) := by decide +kernel
theorem dX10_trace_27 : decode cX10_trace 27 = .ok (.ireturn, 1) := by decide +kernel
set_option maxRecDepth 20000 in
theorem ggX10_count_X10_knows : GoodIn wsX10_count wsX10_knows := goodIn_r _ [9] (by decide +kernel) (by decide +kernel)
set_option maxRecDepth 20000 in
theorem gX10_count_X10_knows : GoodIn wsX10_count (va_wsS RX10 197 yX10_knows wsX10_knows) := goodIn_app (goodIn_of _ (by decide +kernel)) ggX10_count_X10_knows
theorem dX10_count_0 : decode cX10_count 0 = .ok (.iconst 0, 1) := by decide +kernel
theorem dX10_count_1 : decode cX10_count 1 = .ok (.istore_n 2, 1) := by decide +kernel
theorem dX10_count_2 : decode cX10_count 2 = .ok (.iconst 0, 1) := by decide +kernel
theorem dX10_count_3 : decode cX10_count 3 = .ok (.istore_n 3, 1) := by decide +kernel
theorem dX10_count_4 : decode cX10_count 4 = .ok (.iconst 0, 1) := by decide +kernel
theorem dX10_count_5 : decode cX10_count 5 = .ok (.istore 4, 2) := by decide +kernel
theorem dX10_count_7 : decode cX10_count 7 = .ok (.iload 4, 2) := by decide +kernel
theorem dX10_count_9 : decode cX10_count 9 = .ok (.bipush 8, 2) := by decide +kernel
theorem dX10_count_11 : decode cX10_count 11 = .ok (.if_icmp .ge 27, 3) := by decide +kernel
theorem dX10_count_14 : decode cX10_count 14 = .ok (.iload_n 2, 1) := by decide +kernel
theorem dX10_count_15 : decode cX10_count 15 = .ok (.aload_n 0, 1) := by decide +kernel
theorem dX10_count_16 : decode cX10_count 16 = .ok (.getfield 13, 3) := by decide +kernel
theorem dX10_count_19 : decode cX10_count 19 = .ok (.iload 4, 2) := by decide +kernel
theorem dX10_count_21 : decode cX10_count 21 = .ok (.iaload, 1) := by decide +kernel
theorem dX10_count_22 : decode cX10_count 22 = .ok (.ifCond .ge 7, 3) := by decide +kernel
theorem dX10_count_25 : decode cX10_count 25 = .ok (.iconst 0, 1) := by decide +kernel
theorem dX10_count_26 : decode cX10_count 26 = .ok (.goto 4, 3) := by decide +kernel
theorem dX10_count_29 : decode cX10_count 29 = .ok (.iconst 1, 1) := by decide +kernel
theorem dX10_count_30 : decode cX10_count 30 = .ok (.iadd, 1) := by decide +kernel
theorem dX10_count_31 : decode cX10_count 31 = .ok (.istore_n 2, 1) := by decide +kernel
theorem dX10_count_32 : decode cX10_count 32 = .ok (.iinc 4 1, 3) := by decide +kernel
theorem dX10_count_35 : decode cX10_count 35 = .ok (.goto (-28), 3) := by decide +kernel
theorem dX10_count_38 : decode cX10_count 38 = .ok (.iconst 0, 1) := by decide +kernel
theorem dX10_count_39 : decode cX10_count 39 = .ok (.istore 4, 2) := by decide +kernel
theorem dX10_count_41 : decode cX10_count 41 = .ok (.iload 4, 2) := by decide +kernel
theorem dX10_count_43 : decode cX10_count 43 = .ok (.aload_n 0, 1) := by decide +kernel

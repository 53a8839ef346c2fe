theorem dX8_heardAt_22 : decode cX8_heardAt 22 = .ok (.bipush 8, 2) := by decide +kernel
theorem dX8_heardAt_24 : decode cX8_heardAt 24 = .ok (.idiv, 1) := by decide +kernel
theorem dX8_heardAt_25 : decode cX8_heardAt 25 = .ok (.invokestatic 163, 3) := by decide +kernel
theorem dX8_heardAt_28 : decode cX8_heardAt 28 = .ok (.iadd, 1) := by decide +kernel
theorem dX8_heardAt_29 : decode cX8_heardAt 29 = .ok (.istore_n 2, 1) := by decide +kernel
theorem dX8_heardAt_30 : decode cX8_heardAt 30 = .ok (.aload_n 0, 1) := by decide +kernel
theorem dX8_heardAt_31 : decode cX8_heardAt 31 = .ok (.aload_n 0, 1) := by decide +kernel
theorem dX8_heardAt_32 : decode cX8_heardAt 32 = .ok (.getfield 116, 3) := by decide +kernel
theorem dX8_heardAt_35 : decode cX8_heardAt 35 = .ok (.invokevirtual 151, 3) := by decide +kernel
theorem dX8_heardAt_38 : decode cX8_heardAt 38 = .ok (.istore_n 3, 1) := by decide +kernel
theorem dX8_heardAt_39 : decode cX8_heardAt 39 = .ok (.iload_n 3, 1) := by decide +kernel
theorem dX8_heardAt_40 : decode cX8_heardAt 40 = .ok (.iload_n 2, 1) := by decide +kernel
theorem dX8_heardAt_41 : decode cX8_heardAt 41 = .ok (.if_icmp .le 9, 3) := by decide +kernel
theorem dX8_heardAt_44 : decode cX8_heardAt 44 = .ok (.iload_n 3, 1) := by decide +kernel
theorem dX8_heardAt_45 : decode cX8_heardAt 45 = .ok (.iload_n 2, 1) := by decide +kernel
theorem dX8_heardAt_46 : decode cX8_heardAt 46 = .ok (.isub, 1) := by decide +kernel
theorem dX8_heardAt_47 : decode cX8_heardAt 47 = .ok (.goto 4, 3) := by decide +kernel
theorem dX8_heardAt_50 : decode cX8_heardAt 50 = .ok (.iconst 0, 1) := by decide +kernel
theorem dX8_heardAt_51 : decode cX8_heardAt 51 = .ok (.ireturn, 1) := by decide +kernel
set_option maxRecDepth 20000 in
theorem ggX8_heard_X8_isCorner : GoodIn wsX8_heard wsX8_isCorner := goodIn_r _ [5, 6, 7, 4, 8] (by decide +kernel) (by decide +kernel)
set_option maxRecDepth 20000 in
theorem gX8_heard_X8_isCorner : GoodIn wsX8_heard (va_wsS RX8 148 yX8_isCorner wsX8_isCorner) := goodIn_app (goodIn_of _ (by decide +kernel)) ggX8_heard_X8_isCorner
set_option maxRecDepth 20000 in
theorem ggX8_heard_X8_heardAt : GoodIn wsX8_heard wsX8_heardAt := goodIn_r _ [12, 13, 14, 15, 16, 4, 17, 18, 19, 20, 21, 1, 22, 23, 24, 25, 26, 27, 28, 29, 30, 31, 32, 33, 34, 35, 36, 37, 38, 39, 40, 41, 42, 43, 44, 45, 46, 47, 48, 49, 50, 51, 52, 53, 54, 55, 56, 57, 58, 59, 60, 61, 62] (by decide +kernel) (by decide +kernel)
set_option maxRecDepth 20000 in
theorem gX8_heard_X8_heardAt : GoodIn wsX8_heard (wsV RX8 167 RX8 yX8_heardAt wsX8_heardAt) := goodIn_app (goodIn_of _ (by decide +kernel)) ggX8_heard_X8_heardAt
theorem dX8_heard_0 : decode cX8_heard 0 = .ok (.iload_n 1, 1) := by decide +kernel
theorem dX8_heard_1 : decode cX8_heard 1 = .ok (.invokestatic 148, 3) := by decide +kernel
theorem dX8_heard_4 : decode cX8_heard 4 = .ok (.ifCond .ne 6, 3) := by decide +kernel
theorem dX8_heard_7 : decode cX8_heard 7 = .ok (.bipush (-2), 2) := by decide +kernel
theorem dX8_heard_9 : decode cX8_heard 9 = .ok (.ireturn, 1) := by decide +kernel
theorem dX8_heard_10 : decode cX8_heard 10 = .ok (.aload_n 0, 1) := by decide +kernel
theorem dX8_heard_11 : decode cX8_heard 11 = .ok (.getfield 74, 3) := by decide +kernel
theorem dX8_heard_14 : decode cX8_heard 14 = .ok (.ifCond .ne 8, 3) := by decide +kernel
theorem dX8_heard_17 : decode cX8_heard 17 = .ok (.bipush (-3), 2) := by decide +kernel
theorem dX8_heard_19 : decode cX8_heard 19 = .ok (.goto 8, 3) := by decide +kernel
theorem dX8_heard_22 : decode cX8_heard 22 = .ok (.aload_n 0, 1) := by decide +kernel
theorem dX8_heard_23 : decode cX8_heard 23 = .ok (.iload_n 1, 1) := by decide +kernel
theorem dX8_heard_24 : decode cX8_heard 24 = .ok (.invokevirtual 167, 3) := by decide +kernel
theorem dX8_heard_27 : decode cX8_heard 27 = .ok (.ireturn, 1) := by decide +kernel
theorem dX8_size_0 : decode cX8_size 0 = .ok (.iconst 0, 1) := by decide +kernel
theorem dX8_size_1 : decode cX8_size 1 = .ok (.istore_n 1, 1) := by decide +kernel
theorem dX8_size_2 : decode cX8_size 2 = .ok (.iload_n 0, 1) := by decide +kernel
theorem dX8_size_3 : decode cX8_size 3 = .ok (.istore_n 2, 1) := by decide +kernel
theorem dX8_size_4 : decode cX8_size 4 = .ok (.iload_n 2, 1) := by decide +kernel
theorem dX8_size_5 : decode cX8_size 5 = .ok (.ifCond .le 16, 3) := by decide +kernel
theorem dX8_size_8 : decode cX8_size 8 = .ok (.iload_n 1, 1) := by decide +kernel
theorem dX8_size_9 : decode cX8_size 9 = .ok (.iload_n 2, 1) := by decide +kernel
theorem dX8_size_10 : decode cX8_size 10 = .ok (.iconst 1, 1) := by decide +kernel
theorem dX8_size_11 : decode cX8_size 11 = .ok (.iand, 1) := by decide +kernel
theorem dX8_size_12 : decode cX8_size 12 = .ok (.iadd, 1) := by decide +kernel
theorem dX8_size_13 : decode cX8_size 13 = .ok (.istore_n 1, 1) := by decide +kernel
theorem dX8_size_14 : decode cX8_size 14 = .ok (.iload_n 2, 1) := by decide +kernel
theorem dX8_size_15 : decode cX8_size 15 = .ok (.iconst 1, 1) := by decide +kernel
theorem dX8_size_16 : decode cX8_size 16 = .ok (.ishr, 1) := by decide +kernel
theorem dX8_size_17 : decode cX8_size 17 = .ok (.istore_n 2, 1) := by decide +kernel
theorem dX8_size_18 : decode cX8_size 18 = .ok (.goto (-14), 3) := by decide +kernel
theorem dX8_size_21 : decode cX8_size 21 = .ok (.iload_n 1, 1) := by decide +kernel
theorem dX8_size_22 : decode cX8_size 22 = .ok (.ireturn, 1) := by decide +kernel
set_option maxRecDepth 20000 in
theorem ggX8_goYear_X8_isOf : GoodIn wsX8_goYear wsX8_isOf := goodIn_r _ [8] (by decide +kernel) (by decide +kernel)
set_option maxRecDepth 20000 in
theorem gX8_goYear_X8_isOf : GoodIn wsX8_goYear (va_wsS RX8 136 yX8_isOf wsX8_isOf) := goodIn_app (goodIn_of _ (by decide +kernel)) ggX8_goYear_X8_isOf
set_option maxRecDepth 20000 in
theorem ggX8_goYear_X8_comes : GoodIn wsX8_goYear wsX8_comes := goodIn_r _ [12, 4, 13, 14, 15, 7, 16, 17, 18, 19, 20, 21, 22, 5, 6, 8, 23, 24, 25, 26, 27, 28, 32, 33, 34, 35, 36, 37, 38, 39, 40, 41, 42, 43, 44, 45, 46, 47, 48, 49, 50, 51, 52, 53, 54, 55, 56, 57, 58, 59, 60, 61, 62, 63] (by decide +kernel) (by decide +kernel)
set_option maxRecDepth 20000 in
theorem gX8_goYear_X8_comes : GoodIn wsX8_goYear (wsV RX8 160 RX8 yX8_comes wsX8_comes) := goodIn_app (goodIn_of _ (by decide +kernel)) ggX8_goYear_X8_comes
set_option maxRecDepth 20000 in
theorem ggX8_goYear_X8_size : GoodIn wsX8_goYear wsX8_size := goodIn_r _ [31] (by decide +kernel) (by decide +kernel)
set_option maxRecDepth 20000 in
theorem gX8_goYear_X8_size : GoodIn wsX8_goYear (va_wsS RX8 176 yX8_size wsX8_size) := goodIn_app (goodIn_of _ (by decide +kernel)) ggX8_goYear_X8_size
set_option maxRecDepth 20000 in
theorem ggX8_goYear_X8_laughsOf : GoodIn wsX8_goYear wsX8_laughsOf := goodIn_r _ [22, 17, 5, 6, 7, 8, 23, 24, 25, 26, 27, 28, 32, 33, 34, 35, 36, 37, 38, 39, 40, 41, 42, 43, 44, 45, 46, 47, 48, 49, 50, 51, 52, 53, 54, 55, 56, 57, 58, 59, 60, 61, 62, 63] (by decide +kernel) (by decide +kernel)
set_option maxRecDepth 20000 in
theorem gX8_goYear_X8_laughsOf : GoodIn wsX8_goYear (wsV RX8 151 RX8 yX8_laughsOf wsX8_laughsOf) := goodIn_app (goodIn_of _ (by decide +kernel)) ggX8_goYear_X8_laughsOf
theorem dX8_goYear_0 : decode cX8_goYear 0 = .ok (.aload_n 0, 1) := by decide +kernel
theorem dX8_goYear_1 : decode cX8_goYear 1 = .ok (.iconst 0, 1) := by decide +kernel
theorem dX8_goYear_2 : decode cX8_goYear 2 = .ok (.putfield 170, 3) := by decide +kernel
theorem dX8_goYear_5 : decode cX8_goYear 5 = .ok (.aload_n 0, 1) := by decide +kernel
theorem dX8_goYear_6 : decode cX8_goYear 6 = .ok (.iconst 0, 1) := by decide +kernel
theorem dX8_goYear_7 : decode cX8_goYear 7 = .ok (.putfield 173, 3) := by decide +kernel
theorem dX8_goYear_10 : decode cX8_goYear 10 = .ok (.iconst 0, 1) := by decide +kernel
theorem dX8_goYear_11 : decode cX8_goYear 11 = .ok (.istore_n 3, 1) := by decide +kernel
theorem dX8_goYear_12 : decode cX8_goYear 12 = .ok (.iload_n 3, 1) := by decide +kernel
theorem dX8_goYear_13 : decode cX8_goYear 13 = .ok (.iload_n 2, 1) := by decide +kernel
theorem dX8_goYear_14 : decode cX8_goYear 14 = .ok (.if_icmp .ge 136, 3) := by decide +kernel
theorem dX8_goYear_17 : decode cX8_goYear 17 = .ok (.aload_n 0, 1) := by decide +kernel
theorem dX8_goYear_18 : decode cX8_goYear 18 = .ok (.getfield 16, 3) := by decide +kernel
theorem dX8_goYear_21 : decode cX8_goYear 21 = .ok (.iload_n 1, 1) := by decide +kernel
theorem dX8_goYear_22 : decode cX8_goYear 22 = .ok (.iconst 2, 1) := by decide +kernel
theorem dX8_goYear_23 : decode cX8_goYear 23 = .ok (.iload_n 3, 1) := by decide +kernel
theorem dX8_goYear_24 : decode cX8_goYear 24 = .ok (.imul, 1) := by decide +kernel
theorem dX8_goYear_25 : decode cX8_goYear 25 = .ok (.iadd, 1) := by decide +kernel
theorem dX8_goYear_26 : decode cX8_goYear 26 = .ok (.iaload, 1) := by decide +kernel
theorem dX8_goYear_27 : decode cX8_goYear 27 = .ok (.istore 4, 2) := by decide +kernel
theorem dX8_goYear_29 : decode cX8_goYear 29 = .ok (.aload_n 0, 1) := by decide +kernel
theorem dX8_goYear_30 : decode cX8_goYear 30 = .ok (.getfield 16, 3) := by decide +kernel
theorem dX8_goYear_33 : decode cX8_goYear 33 = .ok (.iload_n 1, 1) := by decide +kernel
theorem dX8_goYear_34 : decode cX8_goYear 34 = .ok (.iconst 2, 1) := by decide +kernel
theorem dX8_goYear_35 : decode cX8_goYear 35 = .ok (.iload_n 3, 1) := by decide +kernel
theorem dX8_goYear_36 : decode cX8_goYear 36 = .ok (.imul, 1) := by decide +kernel
theorem dX8_goYear_37 : decode cX8_goYear 37 = .ok (.iadd, 1) := by decide +kernel
theorem dX8_goYear_38 : decode cX8_goYear 38 = .ok (.iconst 1, 1) := by decide +kernel
theorem dX8_goYear_39 : decode cX8_goYear 39 = .ok (.iadd, 1) := by decide +kernel
theorem dX8_goYear_40 : decode cX8_goYear 40 = .ok (.iaload, 1) := by decide +kernel
theorem dX8_goYear_41 : decode cX8_goYear 41 = .ok (.iconst 1, 1) := by decide +kernel
theorem dX8_goYear_42 : decode cX8_goYear 42 = .ok (.if_icmp .ne 7, 3) := by decide +kernel
theorem dX8_goYear_45 : decode cX8_goYear 45 = .ok (.iconst 1, 1) := by decide +kernel
theorem dX8_goYear_46 : decode cX8_goYear 46 = .ok (.goto 4, 3) := by decide +kernel
theorem dX8_goYear_49 : decode cX8_goYear 49 = .ok (.iconst 0, 1) := by decide +kernel
theorem dX8_goYear_50 : decode cX8_goYear 50 = .ok (.istore 5, 2) := by decide +kernel
theorem dX8_goYear_52 : decode cX8_goYear 52 = .ok (.aload_n 0, 1) := by decide +kernel
theorem dX8_goYear_53 : decode cX8_goYear 53 = .ok (.getfield 116, 3) := by decide +kernel
theorem dX8_goYear_56 : decode cX8_goYear 56 = .ok (.iload 4, 2) := by decide +kernel
theorem dX8_goYear_58 : decode cX8_goYear 58 = .ok (.invokestatic 136, 3) := by decide +kernel
theorem dX8_goYear_61 : decode cX8_goYear 61 = .ok (.iload 5, 2) := by decide +kernel
theorem dX8_goYear_63 : decode cX8_goYear 63 = .ok (.if_icmp .eq 5, 3) := by decide +kernel
theorem dX8_goYear_66 : decode cX8_goYear 66 = .ok (.iload_n 3, 1) := by decide +kernel
theorem dX8_goYear_67 : decode cX8_goYear 67 = .ok (.ireturn, 1) := by decide +kernel
theorem dX8_goYear_68 : decode cX8_goYear 68 = .ok (.aload_n 0, 1) := by decide +kernel
theorem dX8_goYear_69 : decode cX8_goYear 69 = .ok (.dup, 1) := by decide +kernel
theorem dX8_goYear_70 : decode cX8_goYear 70 = .ok (.getfield 170, 3) := by decide +kernel
theorem dX8_goYear_73 : decode cX8_goYear 73 = .ok (.aload_n 0, 1) := by decide +kernel
theorem dX8_goYear_74 : decode cX8_goYear 74 = .ok (.iload 5, 2) := by decide +kernel
theorem dX8_goYear_76 : decode cX8_goYear 76 = .ok (.ifCond .eq 17, 3) := by decide +kernel
theorem dX8_goYear_79 : decode cX8_goYear 79 = .ok (.aload_n 0, 1) := by decide +kernel
theorem dX8_goYear_80 : decode cX8_goYear 80 = .ok (.getfield 116, 3) := by decide +kernel
theorem dX8_goYear_83 : decode cX8_goYear 83 = .ok (.iconst 1, 1) := by decide +kernel
theorem dX8_goYear_84 : decode cX8_goYear 84 = .ok (.iload 4, 2) := by decide +kernel
theorem dX8_goYear_86 : decode cX8_goYear 86 = .ok (.ishl, 1) := by decide +kernel
theorem dX8_goYear_87 : decode cX8_goYear 87 = .ok (.iconst (-1), 1) := by decide +kernel
theorem dX8_goYear_88 : decode cX8_goYear 88 = .ok (.ixor, 1) := by decide +kernel
theorem dX8_goYear_89 : decode cX8_goYear 89 = .ok (.iand, 1) := by decide +kernel
theorem dX8_goYear_90 : decode cX8_goYear 90 = .ok (.goto 12, 3) := by decide +kernel
theorem dX8_goYear_93 : decode cX8_goYear 93 = .ok (.aload_n 0, 1) := by decide +kernel
theorem dX8_goYear_94 : decode cX8_goYear 94 = .ok (.getfield 116, 3) := by decide +kernel
theorem dX8_goYear_97 : decode cX8_goYear 97 = .ok (.iconst 1, 1) := by decide +kernel
theorem dX8_goYear_98 : decode cX8_goYear 98 = .ok (.iload 4, 2) := by decide +kernel
theorem dX8_goYear_100 : decode cX8_goYear 100 = .ok (.ishl, 1) := by decide +kernel
theorem dX8_goYear_101 : decode cX8_goYear 101 = .ok (.ior, 1) := by decide +kernel
theorem dX8_goYear_102 : decode cX8_goYear 102 = .ok (.invokevirtual 160, 3) := by decide +kernel
theorem dX8_goYear_105 : decode cX8_goYear 105 = .ok (.invokestatic 176, 3) := by decide +kernel
theorem dX8_goYear_108 : decode cX8_goYear 108 = .ok (.iadd, 1) := by decide +kernel
theorem dX8_goYear_109 : decode cX8_goYear 109 = .ok (.putfield 170, 3) := by decide +kernel
theorem dX8_goYear_112 : decode cX8_goYear 112 = .ok (.aload_n 0, 1) := by decide +kernel
theorem dX8_goYear_113 : decode cX8_goYear 113 = .ok (.aload_n 0, 1) := by decide +kernel
theorem dX8_goYear_114 : decode cX8_goYear 114 = .ok (.getfield 116, 3) := by decide +kernel
theorem dX8_goYear_117 : decode cX8_goYear 117 = .ok (.invokevirtual 151, 3) := by decide +kernel
theorem dX8_goYear_120 : decode cX8_goYear 120 = .ok (.istore 6, 2) := by decide +kernel
theorem dX8_goYear_122 : decode cX8_goYear 122 = .ok (.aload_n 0, 1) := by decide +kernel
theorem dX8_goYear_123 : decode cX8_goYear 123 = .ok (.iload 6, 2) := by decide +kernel
theorem dX8_goYear_125 : decode cX8_goYear 125 = .ok (.aload_n 0, 1) := by decide +kernel
theorem dX8_goYear_126 : decode cX8_goYear 126 = .ok (.getfield 173, 3) := by decide +kernel
theorem dX8_goYear_129 : decode cX8_goYear 129 = .ok (.if_icmp .le 8, 3) := by decide +kernel
theorem dX8_goYear_132 : decode cX8_goYear 132 = .ok (.iload 6, 2) := by decide +kernel
theorem dX8_goYear_134 : decode cX8_goYear 134 = .ok (.goto 7, 3) := by decide +kernel
theorem dX8_goYear_137 : decode cX8_goYear 137 = .ok (.aload_n 0, 1) := by decide +kernel
theorem dX8_goYear_138 : decode cX8_goYear 138 = .ok (.getfield 173, 3) := by decide +kernel
theorem dX8_goYear_141 : decode cX8_goYear 141 = .ok (.putfield 173, 3) := by decide +kernel
theorem dX8_goYear_144 : decode cX8_goYear 144 = .ok (.iinc 3 1, 3) := by decide +kernel
theorem dX8_goYear_147 : decode cX8_goYear 147 = .ok (.goto (-135), 3) := by decide +kernel
theorem dX8_goYear_150 : decode cX8_goYear 150 = .ok (.bipush (-9), 2) := by decide +kernel
theorem dX8_goYear_152 : decode cX8_goYear 152 = .ok (.ireturn, 1) := by decide +kernel
set_option maxRecDepth 20000 in
theorem ggX8_year_X8_isSheet : GoodIn wsX8_year wsX8_isSheet := goodIn_r _ [8, 9, 10, 7, 11] (by decide +kernel) (by decide +kernel)
set_option maxRecDepth 20000 in
theorem gX8_year_X8_isSheet : GoodIn wsX8_year (va_wsS RX8 83 yX8_isSheet wsX8_isSheet) := goodIn_app (goodIn_of _ (by decide +kernel)) ggX8_year_X8_isSheet
set_option maxRecDepth 20000 in
theorem ggX8_year_X8_isSort : GoodIn wsX8_year wsX8_isSort := goodIn_r _ [14, 9, 10, 7, 11] (by decide +kernel) (by decide +kernel)
set_option maxRecDepth 20000 in
theorem gX8_year_X8_isSort : GoodIn wsX8_year (va_wsS RX8 87 yX8_isSort wsX8_isSort) := goodIn_app (goodIn_of _ (by decide +kernel)) ggX8_year_X8_isSort
set_option maxRecDepth 20000 in
theorem ggX8_year_X8_within : GoodIn wsX8_year wsX8_within := goodIn_r _ [11] (by decide +kernel) (by decide +kernel)
set_option maxRecDepth 20000 in
theorem gX8_year_X8_within : GoodIn wsX8_year (va_wsS RX8 70 yX8_within wsX8_within) := goodIn_app (goodIn_of _ (by decide +kernel)) ggX8_year_X8_within
set_option maxRecDepth 20000 in
theorem ggX8_year_X8_against : GoodIn wsX8_year wsX8_against := goodIn_r _ [18, 19, 20, 64, 65, 66, 67, 68, 69, 70, 71, 72, 73, 74, 75, 76, 77, 78, 79, 80, 81, 82, 83, 84, 85, 86, 87, 88, 89, 90, 91, 92, 93, 94, 95] (by decide +kernel) (by decide +kernel)
set_option maxRecDepth 20000 in
theorem gX8_year_X8_against : GoodIn wsX8_year (wsV RX8 90 RX8 yX8_against wsX8_against) := goodIn_app (goodIn_of _ (by decide +kernel)) ggX8_year_X8_against
set_option maxRecDepth 20000 in
theorem ggX8_year_X8_fails : GoodIn wsX8_year wsX8_fails := goodIn_r _ [24, 1, 64, 65, 66, 67, 68, 69, 70, 71, 72, 73, 74, 75, 76, 77, 78, 79, 80, 81, 82, 83, 84, 85, 86, 87, 88, 89, 90, 91, 92, 93, 94, 95] (by decide +kernel) (by decide +kernel)
set_option maxRecDepth 20000 in
theorem gX8_year_X8_fails : GoodIn wsX8_year (wsV RX8 94 RX8 yX8_fails wsX8_fails) := goodIn_app (goodIn_of _ (by decide +kernel)) ggX8_year_X8_fails
set_option maxRecDepth 20000 in
theorem ggX8_year_X8_isArticle : GoodIn wsX8_year wsX8_isArticle := goodIn_r _ [28, 2, 64, 65, 66, 67, 68, 69, 70, 71, 72, 73, 74, 75, 76, 77, 78, 79, 80, 81, 82, 83, 84, 85, 86, 87, 88, 89, 90, 91, 92, 93, 94, 95] (by decide +kernel) (by decide +kernel)
set_option maxRecDepth 20000 in
theorem gX8_year_X8_isArticle : GoodIn wsX8_year (wsV RX8 142 RX8 yX8_isArticle wsX8_isArticle) := goodIn_app (goodIn_of _ (by decide +kernel)) ggX8_year_X8_isArticle
set_option maxRecDepth 20000 in
theorem ggX8_year_X8_goYear : GoodIn wsX8_year wsX8_goYear := goodIn_r _ [32, 33, 34, 3, 4, 35, 36, 7, 37, 38, 39, 40, 41, 42, 43, 44, 45, 2, 46, 47, 48, 49, 50, 51, 52, 53, 54, 55, 56, 57, 58, 59, 64, 65, 66, 67, 68, 69, 70, 71, 72, 73, 74, 75, 76, 77, 78, 79, 80, 81, 82, 83, 84, 85, 86, 87, 88, 89, 90, 91, 92, 93, 94, 95] (by decide +kernel) (by decide +kernel)
set_option maxRecDepth 20000 in
theorem gX8_year_X8_goYear : GoodIn wsX8_year (wsV RX8 179 RX8 yX8_goYear wsX8_goYear) := goodIn_app (goodIn_of _ (by decide +kernel)) ggX8_year_X8_goYear
set_option maxRecDepth 20000 in
theorem ggX8_year_X8_tellYear : GoodIn wsX8_year wsX8_tellYear := goodIn_r _ [63, 4, 33, 34, 57, 58, 7, 59, 47, 48, 49, 50, 2, 35, 36, 37, 51, 52, 53, 54, 55, 56, 64, 65, 66, 67, 68, 69, 70, 71, 72, 73, 74, 75, 76, 77, 78, 79, 80, 81, 82, 83, 84, 85, 86, 87, 88, 89, 90, 91, 92, 93, 94, 95] (by decide +kernel) (by decide +kernel)
set_option maxRecDepth 20000 in
theorem gX8_year_X8_tellYear : GoodIn wsX8_year (wsV RX8 182 RX8 yX8_tellYear wsX8_tellYear) := goodIn_app (goodIn_of _ (by decide +kernel)) ggX8_year_X8_tellYear
theorem dX8_year_0 : decode cX8_year 0 = .ok (.aload_n 0, 1) := by decide +kernel
theorem dX8_year_1 : decode cX8_year 1 = .ok (.iconst 0, 1) := by decide +kernel
theorem dX8_year_2 : decode cX8_year 2 = .ok (.putfield 64, 3) := by decide +kernel
theorem dX8_year_5 : decode cX8_year 5 = .ok (.iload_n 1, 1) := by decide +kernel
theorem dX8_year_6 : decode cX8_year 6 = .ok (.invokestatic 83, 3) := by decide +kernel
theorem dX8_year_9 : decode cX8_year 9 = .ok (.ifCond .ne 5, 3) := by decide +kernel
theorem dX8_year_12 : decode cX8_year 12 = .ok (.iconst (-1), 1) := by decide +kernel
theorem dX8_year_13 : decode cX8_year 13 = .ok (.ireturn, 1) := by decide +kernel
theorem dX8_year_14 : decode cX8_year 14 = .ok (.iload_n 2, 1) := by decide +kernel
theorem dX8_year_15 : decode cX8_year 15 = .ok (.invokestatic 87, 3) := by decide +kernel
theorem dX8_year_18 : decode cX8_year 18 = .ok (.ifCond .eq 24, 3) := by decide +kernel
theorem dX8_year_21 : decode cX8_year 21 = .ok (.iload 4, 2) := by decide +kernel
theorem dX8_year_23 : decode cX8_year 23 = .ok (.iconst 0, 1) := by decide +kernel
theorem dX8_year_24 : decode cX8_year 24 = .ok (.bipush 20, 2) := by decide +kernel
theorem dX8_year_26 : decode cX8_year 26 = .ok (.invokestatic 70, 3) := by decide +kernel
theorem dX8_year_29 : decode cX8_year 29 = .ok (.ifCond .eq 13, 3) := by decide +kernel
theorem dX8_year_32 : decode cX8_year 32 = .ok (.iload 5, 2) := by decide +kernel
theorem dX8_year_34 : decode cX8_year 34 = .ok (.iconst 0, 1) := by decide +kernel
theorem dX8_year_35 : decode cX8_year 35 = .ok (.iconst 5, 1) := by decide +kernel
theorem dX8_year_36 : decode cX8_year 36 = .ok (.invokestatic 70, 3) := by decide +kernel
theorem dX8_year_39 : decode cX8_year 39 = .ok (.ifCond .ne 6, 3) := by decide +kernel
theorem dX8_year_42 : decode cX8_year 42 = .ok (.bipush (-2), 2) := by decide +kernel
theorem dX8_year_44 : decode cX8_year 44 = .ok (.ireturn, 1) := by decide +kernel
theorem dX8_year_45 : decode cX8_year 45 = .ok (.aload_n 0, 1) := by decide +kernel
theorem dX8_year_46 : decode cX8_year 46 = .ok (.iload_n 1, 1) := by decide +kernel
theorem dX8_year_47 : decode cX8_year 47 = .ok (.iload_n 2, 1) := by decide +kernel
theorem dX8_year_48 : decode cX8_year 48 = .ok (.iload_n 3, 1) := by decide +kernel
theorem dX8_year_49 : decode cX8_year 49 = .ok (.iconst 2, 1) := by decide +kernel
theorem dX8_year_50 : decode cX8_year 50 = .ok (.iload 4, 2) := by decide +kernel
theorem dX8_year_52 : decode cX8_year 52 = .ok (.imul, 1) := by decide +kernel
theorem dX8_year_53 : decode cX8_year 53 = .ok (.invokevirtual 90, 3) := by decide +kernel
theorem dX8_year_56 : decode cX8_year 56 = .ok (.istore 6, 2) := by decide +kernel
theorem dX8_year_58 : decode cX8_year 58 = .ok (.iload 6, 2) := by decide +kernel
theorem dX8_year_60 : decode cX8_year 60 = .ok (.ifCond .eq 10, 3) := by decide +kernel
theorem dX8_year_63 : decode cX8_year 63 = .ok (.aload_n 0, 1) := by decide +kernel
theorem dX8_year_64 : decode cX8_year 64 = .ok (.iload 6, 2) := by decide +kernel
theorem dX8_year_66 : decode cX8_year 66 = .ok (.invokevirtual 94, 3) := by decide +kernel
theorem dX8_year_69 : decode cX8_year 69 = .ok (.ireturn, 1) := by decide +kernel
theorem dX8_year_70 : decode cX8_year 70 = .ok (.aload_n 0, 1) := by decide +kernel
theorem dX8_year_71 : decode cX8_year 71 = .ok (.getfield 74, 3) := by decide +kernel
theorem dX8_year_74 : decode cX8_year 74 = .ok (.ifCond .ne 6, 3) := by decide +kernel
theorem dX8_year_77 : decode cX8_year 77 = .ok (.bipush (-3), 2) := by decide +kernel
theorem dX8_year_79 : decode cX8_year 79 = .ok (.ireturn, 1) := by decide +kernel
theorem dX8_year_80 : decode cX8_year 80 = .ok (.bipush 60, 2) := by decide +kernel
theorem dX8_year_82 : decode cX8_year 82 = .ok (.iload_n 1, 1) := by decide +kernel
theorem dX8_year_83 : decode cX8_year 83 = .ok (.imul, 1) := by decide +kernel
theorem dX8_year_84 : decode cX8_year 84 = .ok (.iload_n 3, 1) := by decide +kernel
theorem dX8_year_85 : decode cX8_year 85 = .ok (.iadd, 1) := by decide +kernel
theorem dX8_year_86 : decode cX8_year 86 = .ok (.istore 7, 2) := by decide +kernel
theorem dX8_year_88 : decode cX8_year 88 = .ok (.iconst 0, 1) := by decide +kernel
theorem dX8_year_89 : decode cX8_year 89 = .ok (.istore 8, 2) := by decide +kernel
theorem dX8_year_91 : decode cX8_year 91 = .ok (.iload 8, 2) := by decide +kernel
theorem dX8_year_93 : decode cX8_year 93 = .ok (.iload 4, 2) := by decide +kernel
theorem dX8_year_95 : decode cX8_year 95 = .ok (.if_icmp .ge 55, 3) := by decide +kernel
theorem dX8_year_98 : decode cX8_year 98 = .ok (.aload_n 0, 1) := by decide +kernel
theorem dX8_year_99 : decode cX8_year 99 = .ok (.aload_n 0, 1) := by decide +kernel
theorem dX8_year_100 : decode cX8_year 100 = .ok (.getfield 16, 3) := by decide +kernel
theorem dX8_year_103 : decode cX8_year 103 = .ok (.iload 7, 2) := by decide +kernel
theorem dX8_year_105 : decode cX8_year 105 = .ok (.iconst 2, 1) := by decide +kernel
theorem dX8_year_106 : decode cX8_year 106 = .ok (.iload 8, 2) := by decide +kernel
theorem dX8_year_108 : decode cX8_year 108 = .ok (.imul, 1) := by decide +kernel
theorem dX8_year_109 : decode cX8_year 109 = .ok (.iadd, 1) := by decide +kernel
theorem dX8_year_110 : decode cX8_year 110 = .ok (.iaload, 1) := by decide +kernel
theorem dX8_year_111 : decode cX8_year 111 = .ok (.invokevirtual 142, 3) := by decide +kernel
theorem dX8_year_114 : decode cX8_year 114 = .ok (.ifCond .ne 5, 3) := by decide +kernel
theorem dX8_year_117 : decode cX8_year 117 = .ok (.iconst (-1), 1) := by decide +kernel
theorem dX8_year_118 : decode cX8_year 118 = .ok (.ireturn, 1) := by decide +kernel
theorem dX8_year_119 : decode cX8_year 119 = .ok (.aload_n 0, 1) := by decide +kernel
theorem dX8_year_120 : decode cX8_year 120 = .ok (.getfield 16, 3) := by decide +kernel
theorem dX8_year_123 : decode cX8_year 123 = .ok (.iload 7, 2) := by decide +kernel
theorem dX8_year_125 : decode cX8_year 125 = .ok (.iconst 2, 1) := by decide +kernel
theorem dX8_year_126 : decode cX8_year 126 = .ok (.iload 8, 2) := by decide +kernel
theorem dX8_year_128 : decode cX8_year 128 = .ok (.imul, 1) := by decide +kernel
theorem dX8_year_129 : decode cX8_year 129 = .ok (.iadd, 1) := by decide +kernel
theorem dX8_year_130 : decode cX8_year 130 = .ok (.iconst 1, 1) := by decide +kernel
theorem dX8_year_131 : decode cX8_year 131 = .ok (.iadd, 1) := by decide +kernel
theorem dX8_year_132 : decode cX8_year 132 = .ok (.iaload, 1) := by decide +kernel
theorem dX8_year_133 : decode cX8_year 133 = .ok (.iconst 0, 1) := by decide +kernel
theorem dX8_year_134 : decode cX8_year 134 = .ok (.iconst 1, 1) := by decide +kernel
theorem dX8_year_135 : decode cX8_year 135 = .ok (.invokestatic 70, 3) := by decide +kernel
theorem dX8_year_138 : decode cX8_year 138 = .ok (.ifCond .ne 6, 3) := by decide +kernel
theorem dX8_year_141 : decode cX8_year 141 = .ok (.bipush (-2), 2) := by decide +kernel
theorem dX8_year_143 : decode cX8_year 143 = .ok (.ireturn, 1) := by decide +kernel
theorem dX8_year_144 : decode cX8_year 144 = .ok (.iinc 8 1, 3) := by decide +kernel
theorem dX8_year_147 : decode cX8_year 147 = .ok (.goto (-56), 3) := by decide +kernel
theorem dX8_year_150 : decode cX8_year 150 = .ok (.aload_n 0, 1) := by decide +kernel
theorem dX8_year_151 : decode cX8_year 151 = .ok (.getfield 116, 3) := by decide +kernel
theorem dX8_year_154 : decode cX8_year 154 = .ok (.istore 8, 2) := by decide +kernel
theorem dX8_year_156 : decode cX8_year 156 = .ok (.aload_n 0, 1) := by decide +kernel
theorem dX8_year_157 : decode cX8_year 157 = .ok (.iload 7, 2) := by decide +kernel
theorem dX8_year_159 : decode cX8_year 159 = .ok (.iload 4, 2) := by decide +kernel
theorem dX8_year_161 : decode cX8_year 161 = .ok (.invokevirtual 179, 3) := by decide +kernel
theorem dX8_year_164 : decode cX8_year 164 = .ok (.istore 9, 2) := by decide +kernel
theorem dX8_year_166 : decode cX8_year 166 = .ok (.aload_n 0, 1) := by decide +kernel
theorem dX8_year_167 : decode cX8_year 167 = .ok (.iload 5, 2) := by decide +kernel
theorem dX8_year_169 : decode cX8_year 169 = .ok (.invokevirtual 182, 3) := by decide +kernel
theorem dX8_year_172 : decode cX8_year 172 = .ok (.istore 10, 2) := by decide +kernel
theorem dX8_year_174 : decode cX8_year 174 = .ok (.aload_n 0, 1) := by decide +kernel
theorem dX8_year_175 : decode cX8_year 175 = .ok (.iload 8, 2) := by decide +kernel
theorem dX8_year_177 : decode cX8_year 177 = .ok (.putfield 116, 3) := by decide +kernel
theorem dX8_year_180 : decode cX8_year 180 = .ok (.iload 5, 2) := by decide +kernel
theorem dX8_year_182 : decode cX8_year 182 = .ok (.iconst 1, 1) := by decide +kernel
theorem dX8_year_183 : decode cX8_year 183 = .ok (.if_icmp .ne 8, 3) := by decide +kernel
theorem dX8_year_186 : decode cX8_year 186 = .ok (.iload 9, 2) := by decide +kernel
theorem dX8_year_188 : decode cX8_year 188 = .ok (.goto 20, 3) := by decide +kernel
theorem dX8_year_191 : decode cX8_year 191 = .ok (.iload 9, 2) := by decide +kernel
theorem dX8_year_193 : decode cX8_year 193 = .ok (.bipush (-9), 2) := by decide +kernel
theorem dX8_year_195 : decode cX8_year 195 = .ok (.if_icmp .ne 8, 3) := by decide +kernel
theorem dX8_year_198 : decode cX8_year 198 = .ok (.iload 10, 2) := by decide +kernel
theorem dX8_year_200 : decode cX8_year 200 = .ok (.goto 8, 3) := by decide +kernel
theorem dX8_year_203 : decode cX8_year 203 = .ok (.bipush (-100), 2) := by decide +kernel
theorem dX8_year_205 : decode cX8_year 205 = .ok (.iload 9, 2) := by decide +kernel
theorem dX8_year_207 : decode cX8_year 207 = .ok (.isub, 1) := by decide +kernel
theorem dX8_year_208 : decode cX8_year 208 = .ok (.ireturn, 1) := by decide +kernel
set_option maxRecDepth 20000 in
theorem ggX8_tellYear_X8_size : GoodIn wsX8_tellYear wsX8_size := goodIn_r _ [7] (by decide +kernel) (by decide +kernel)
set_option maxRecDepth 20000 in
theorem gX8_tellYear_X8_size : GoodIn wsX8_tellYear (va_wsS RX8 176 yX8_size wsX8_size) := goodIn_app (goodIn_of _ (by decide +kernel)) ggX8_tellYear_X8_size
set_option maxRecDepth 20000 in
theorem ggX8_tellYear_X8_laughsOf : GoodIn wsX8_tellYear wsX8_laughsOf := goodIn_r _ [11, 12, 13, 14, 6, 15, 16, 17, 18, 19, 20, 21, 22, 23, 24, 25, 26, 27, 28, 29, 30, 31, 32, 33, 34, 35, 36, 37, 38, 39, 40, 41, 42, 43, 44, 45, 46, 47, 48, 49, 50, 51, 52, 53] (by decide +kernel) (by decide +kernel)
set_option maxRecDepth 20000 in
theorem gX8_tellYear_X8_laughsOf : GoodIn wsX8_tellYear (wsV RX8 151 RX8 yX8_laughsOf wsX8_laughsOf) := goodIn_app (goodIn_of _ (by decide +kernel)) ggX8_tellYear_X8_laughsOf
theorem dX8_tellYear_0 : decode cX8_tellYear 0 = .ok (.iload_n 1, 1) := by decide +kernel
theorem dX8_tellYear_1 : decode cX8_tellYear 1 = .ok (.tableswitch 62 0 4 #[35, 62, 43, 48, 53], 35) := by decide +kernel
theorem dX8_tellYear_36 : decode cX8_tellYear 36 = .ok (.aload_n 0, 1) := by decide +kernel
theorem dX8_tellYear_37 : decode cX8_tellYear 37 = .ok (.getfield 116, 3) := by decide +kernel
theorem dX8_tellYear_40 : decode cX8_tellYear 40 = .ok (.invokestatic 176, 3) := by decide +kernel
theorem dX8_tellYear_43 : decode cX8_tellYear 43 = .ok (.ireturn, 1) := by decide +kernel
theorem dX8_tellYear_44 : decode cX8_tellYear 44 = .ok (.aload_n 0, 1) := by decide +kernel
theorem dX8_tellYear_45 : decode cX8_tellYear 45 = .ok (.getfield 116, 3) := by decide +kernel
theorem dX8_tellYear_48 : decode cX8_tellYear 48 = .ok (.ireturn, 1) := by decide +kernel
theorem dX8_tellYear_49 : decode cX8_tellYear 49 = .ok (.aload_n 0, 1) := by decide +kernel
theorem dX8_tellYear_50 : decode cX8_tellYear 50 = .ok (.getfield 170, 3) := by decide +kernel
theorem dX8_tellYear_53 : decode cX8_tellYear 53 = .ok (.ireturn, 1) := by decide +kernel
theorem dX8_tellYear_54 : decode cX8_tellYear 54 = .ok (.aload_n 0, 1) := by decide +kernel
theorem dX8_tellYear_55 : decode cX8_tellYear 55 = .ok (.aload_n 0, 1) := by decide +kernel
theorem dX8_tellYear_56 : decode cX8_tellYear 56 = .ok (.getfield 116, 3) := by decide +kernel
theorem dX8_tellYear_59 : decode cX8_tellYear 59 = .ok (.invokevirtual 151, 3) := by decide +kernel
theorem dX8_tellYear_62 : decode cX8_tellYear 62 = .ok (.ireturn, 1) := by decide +kernel
theorem dX8_tellYear_63 : decode cX8_tellYear 63 = .ok (.aload_n 0, 1) := by decide +kernel
theorem dX8_tellYear_64 : decode cX8_tellYear 64 = .ok (.getfield 173, 3) := by decide +kernel
theorem dX8_tellYear_67 : decode cX8_tellYear 67 = .ok (.ireturn, 1) := by decide +kernel
set_option maxRecDepth 20000 in
theorem ggX8_holds_X8_isOf : GoodIn wsX8_holds wsX8_isOf := goodIn_r _ [10] (by decide +kernel) (by decide +kernel)
set_option maxRecDepth 20000 in
theorem gX8_holds_X8_isOf : GoodIn wsX8_holds (va_wsS RX8 136 yX8_isOf wsX8_isOf) := goodIn_app (goodIn_of _ (by decide +kernel)) ggX8_holds_X8_isOf
theorem dX8_holds_0 : decode cX8_holds 0 = .ok (.iload_n 2, 1) := by decide +kernel
theorem dX8_holds_1 : decode cX8_holds 1 = .ok (.istore_n 3, 1) := by decide +kernel
theorem dX8_holds_2 : decode cX8_holds 2 = .ok (.iconst 0, 1) := by decide +kernel
theorem dX8_holds_3 : decode cX8_holds 3 = .ok (.istore 4, 2) := by decide +kernel
theorem dX8_holds_5 : decode cX8_holds 5 = .ok (.iload 4, 2) := by decide +kernel
theorem dX8_holds_7 : decode cX8_holds 7 = .ok (.aload_n 0, 1) := by decide +kernel
theorem dX8_holds_8 : decode cX8_holds 8 = .ok (.getfield 77, 3) := by decide +kernel
theorem dX8_holds_11 : decode cX8_holds 11 = .ok (.if_icmp .ge 17, 3) := by decide +kernel
theorem dX8_holds_14 : decode cX8_holds 14 = .ok (.aload_n 0, 1) := by decide +kernel
theorem dX8_holds_15 : decode cX8_holds 15 = .ok (.getfield 55, 3) := by decide +kernel
theorem dX8_holds_18 : decode cX8_holds 18 = .ok (.iload 4, 2) := by decide +kernel
theorem dX8_holds_20 : decode cX8_holds 20 = .ok (.iconst 0, 1) := by decide +kernel
theorem dX8_holds_21 : decode cX8_holds 21 = .ok (.iastore, 1) := by decide +kernel
theorem dX8_holds_22 : decode cX8_holds 22 = .ok (.iinc 4 1, 3) := by decide +kernel
theorem dX8_holds_25 : decode cX8_holds 25 = .ok (.goto (-20), 3) := by decide +kernel
theorem dX8_holds_28 : decode cX8_holds 28 = .ok (.aload_n 0, 1) := by decide +kernel
theorem dX8_holds_29 : decode cX8_holds 29 = .ok (.getfield 74, 3) := by decide +kernel
theorem dX8_holds_32 : decode cX8_holds 32 = .ok (.iconst 1, 1) := by decide +kernel
theorem dX8_holds_33 : decode cX8_holds 33 = .ok (.isub, 1) := by decide +kernel
theorem dX8_holds_34 : decode cX8_holds 34 = .ok (.istore 4, 2) := by decide +kernel
theorem dX8_holds_36 : decode cX8_holds 36 = .ok (.iload 4, 2) := by decide +kernel
theorem dX8_holds_38 : decode cX8_holds 38 = .ok (.ifCond .lt 69, 3) := by decide +kernel
theorem dX8_holds_41 : decode cX8_holds 41 = .ok (.aload_n 0, 1) := by decide +kernel
theorem dX8_holds_42 : decode cX8_holds 42 = .ok (.getfield 49, 3) := by decide +kernel
theorem dX8_holds_45 : decode cX8_holds 45 = .ok (.iload 4, 2) := by decide +kernel
theorem dX8_holds_47 : decode cX8_holds 47 = .ok (.bipush (-9), 2) := by decide +kernel
theorem dX8_holds_49 : decode cX8_holds 49 = .ok (.iastore, 1) := by decide +kernel
theorem dX8_holds_50 : decode cX8_holds 50 = .ok (.iload_n 1, 1) := by decide +kernel
theorem dX8_holds_51 : decode cX8_holds 51 = .ok (.iload 4, 2) := by decide +kernel
theorem dX8_holds_53 : decode cX8_holds 53 = .ok (.invokestatic 136, 3) := by decide +kernel
theorem dX8_holds_56 : decode cX8_holds 56 = .ok (.ifCond .eq 45, 3) := by decide +kernel
theorem dX8_holds_59 : decode cX8_holds 59 = .ok (.aload_n 0, 1) := by decide +kernel
theorem dX8_holds_60 : decode cX8_holds 60 = .ok (.getfield 49, 3) := by decide +kernel
theorem dX8_holds_63 : decode cX8_holds 63 = .ok (.iload 4, 2) := by decide +kernel
theorem dX8_holds_65 : decode cX8_holds 65 = .ok (.iload_n 3, 1) := by decide +kernel
theorem dX8_holds_66 : decode cX8_holds 66 = .ok (.aload_n 0, 1) := by decide +kernel
theorem dX8_holds_67 : decode cX8_holds 67 = .ok (.getfield 77, 3) := by decide +kernel
theorem dX8_holds_70 : decode cX8_holds 70 = .ok (.irem, 1) := by decide +kernel
theorem dX8_holds_71 : decode cX8_holds 71 = .ok (.iastore, 1) := by decide +kernel
theorem dX8_holds_72 : decode cX8_holds 72 = .ok (.iload_n 3, 1) := by decide +kernel
theorem dX8_holds_73 : decode cX8_holds 73 = .ok (.aload_n 0, 1) := by decide +kernel
theorem dX8_holds_74 : decode cX8_holds 74 = .ok (.getfield 77, 3) := by decide +kernel
theorem dX8_holds_77 : decode cX8_holds 77 = .ok (.idiv, 1) := by decide +kernel
theorem dX8_holds_78 : decode cX8_holds 78 = .ok (.istore_n 3, 1) := by decide +kernel
theorem dX8_holds_79 : decode cX8_holds 79 = .ok (.aload_n 0, 1) := by decide +kernel
theorem dX8_holds_80 : decode cX8_holds 80 = .ok (.getfield 55, 3) := by decide +kernel
theorem dX8_holds_83 : decode cX8_holds 83 = .ok (.aload_n 0, 1) := by decide +kernel
theorem dX8_holds_84 : decode cX8_holds 84 = .ok (.getfield 49, 3) := by decide +kernel
theorem dX8_holds_87 : decode cX8_holds 87 = .ok (.iload 4, 2) := by decide +kernel
theorem dX8_holds_89 : decode cX8_holds 89 = .ok (.iaload, 1) := by decide +kernel
theorem dX8_holds_90 : decode cX8_holds 90 = .ok (.dup2, 1) := by decide +kernel
theorem dX8_holds_91 : decode cX8_holds 91 = .ok (.iaload, 1) := by decide +kernel
theorem dX8_holds_92 : decode cX8_holds 92 = .ok (.aload_n 0, 1) := by decide +kernel
theorem dX8_holds_93 : decode cX8_holds 93 = .ok (.getfield 25, 3) := by decide +kernel
theorem dX8_holds_96 : decode cX8_holds 96 = .ok (.iload 4, 2) := by decide +kernel
theorem dX8_holds_98 : decode cX8_holds 98 = .ok (.iaload, 1) := by decide +kernel
theorem dX8_holds_99 : decode cX8_holds 99 = .ok (.iadd, 1) := by decide +kernel
theorem dX8_holds_100 : decode cX8_holds 100 = .ok (.iastore, 1) := by decide +kernel
theorem dX8_holds_101 : decode cX8_holds 101 = .ok (.iinc 4 (-1), 3) := by decide +kernel
theorem dX8_holds_104 : decode cX8_holds 104 = .ok (.goto (-68), 3) := by decide +kernel
theorem dX8_holds_107 : decode cX8_holds 107 = .ok (.iconst 0, 1) := by decide +kernel
theorem dX8_holds_108 : decode cX8_holds 108 = .ok (.istore 4, 2) := by decide +kernel
theorem dX8_holds_110 : decode cX8_holds 110 = .ok (.iload 4, 2) := by decide +kernel
theorem dX8_holds_112 : decode cX8_holds 112 = .ok (.aload_n 0, 1) := by decide +kernel
theorem dX8_holds_113 : decode cX8_holds 113 = .ok (.getfield 77, 3) := by decide +kernel
theorem dX8_holds_116 : decode cX8_holds 116 = .ok (.if_icmp .ge 28, 3) := by decide +kernel
theorem dX8_holds_119 : decode cX8_holds 119 = .ok (.aload_n 0, 1) := by decide +kernel
theorem dX8_holds_120 : decode cX8_holds 120 = .ok (.getfield 55, 3) := by decide +kernel
theorem dX8_holds_123 : decode cX8_holds 123 = .ok (.iload 4, 2) := by decide +kernel
theorem dX8_holds_125 : decode cX8_holds 125 = .ok (.iaload, 1) := by decide +kernel
theorem dX8_holds_126 : decode cX8_holds 126 = .ok (.aload_n 0, 1) := by decide +kernel
theorem dX8_holds_127 : decode cX8_holds 127 = .ok (.getfield 19, 3) := by decide +kernel
theorem dX8_holds_130 : decode cX8_holds 130 = .ok (.iload 4, 2) := by decide +kernel
theorem dX8_holds_132 : decode cX8_holds 132 = .ok (.iaload, 1) := by decide +kernel
theorem dX8_holds_133 : decode cX8_holds 133 = .ok (.if_icmp .le 5, 3) := by decide +kernel
theorem dX8_holds_136 : decode cX8_holds 136 = .ok (.iconst 0, 1) := by decide +kernel
theorem dX8_holds_137 : decode cX8_holds 137 = .ok (.ireturn, 1) := by decide +kernel
theorem dX8_holds_138 : decode cX8_holds 138 = .ok (.iinc 4 1, 3) := by decide +kernel
theorem dX8_holds_141 : decode cX8_holds 141 = .ok (.goto (-31), 3) := by decide +kernel
theorem dX8_holds_144 : decode cX8_holds 144 = .ok (.iconst 1, 1) := by decide +kernel
theorem dX8_holds_145 : decode cX8_holds 145 = .ok (.ireturn, 1) := by decide +kernel
set_option maxRecDepth 20000 in
theorem ggX8_findPacks_X8_size : GoodIn wsX8_findPacks wsX8_size := goodIn_r _ [9] (by decide +kernel) (by decide +kernel)
set_option maxRecDepth 20000 in
theorem gX8_findPacks_X8_size : GoodIn wsX8_findPacks (va_wsS RX8 176 yX8_size wsX8_size) := goodIn_app (goodIn_of _ (by decide +kernel)) ggX8_findPacks_X8_size
set_option maxRecDepth 20000 in
theorem ggX8_findPacks_X8_holds : GoodIn wsX8_findPacks wsX8_holds := goodIn_r _ [13, 2, 14, 3, 5, 15, 16, 17, 18, 8, 19, 20, 21, 22, 23, 24, 25, 26, 27, 28, 29, 30, 31, 32, 33, 34, 35, 36, 37, 38, 39, 40, 41, 42, 43, 44, 45, 46, 47, 48, 49, 50, 51] (by decide +kernel) (by decide +kernel)
set_option maxRecDepth 20000 in
theorem gX8_findPacks_X8_holds : GoodIn wsX8_findPacks (wsV RX8 188 RX8 yX8_holds wsX8_holds) := goodIn_app (goodIn_of _ (by decide +kernel)) ggX8_findPacks_X8_holds
theorem dX8_findPacks_0 : decode cX8_findPacks 0 = .ok (.aload_n 0, 1) := by decide +kernel
theorem dX8_findPacks_1 : decode cX8_findPacks 1 = .ok (.iconst 0, 1) := by decide +kernel
theorem dX8_findPacks_2 : decode cX8_findPacks 2 = .ok (.putfield 185, 3) := by decide +kernel
theorem dX8_findPacks_5 : decode cX8_findPacks 5 = .ok (.iconst 1, 1) := by decide +kernel
theorem dX8_findPacks_6 : decode cX8_findPacks 6 = .ok (.istore_n 2, 1) := by decide +kernel
theorem dX8_findPacks_7 : decode cX8_findPacks 7 = .ok (.iload_n 1, 1) := by decide +kernel
theorem dX8_findPacks_8 : decode cX8_findPacks 8 = .ok (.invokestatic 176, 3) := by decide +kernel
theorem dX8_findPacks_11 : decode cX8_findPacks 11 = .ok (.istore_n 3, 1) := by decide +kernel
theorem dX8_findPacks_12 : decode cX8_findPacks 12 = .ok (.iload_n 3, 1) := by decide +kernel
theorem dX8_findPacks_13 : decode cX8_findPacks 13 = .ok (.ifCond .le 16, 3) := by decide +kernel
theorem dX8_findPacks_16 : decode cX8_findPacks 16 = .ok (.iload_n 2, 1) := by decide +kernel
theorem dX8_findPacks_17 : decode cX8_findPacks 17 = .ok (.aload_n 0, 1) := by decide +kernel
theorem dX8_findPacks_18 : decode cX8_findPacks 18 = .ok (.getfield 77, 3) := by decide +kernel
theorem dX8_findPacks_21 : decode cX8_findPacks 21 = .ok (.imul, 1) := by decide +kernel
theorem dX8_findPacks_22 : decode cX8_findPacks 22 = .ok (.istore_n 2, 1) := by decide +kernel
theorem dX8_findPacks_23 : decode cX8_findPacks 23 = .ok (.iinc 3 (-1), 3) := by decide +kernel
theorem dX8_findPacks_26 : decode cX8_findPacks 26 = .ok (.goto (-14), 3) := by decide +kernel
theorem dX8_findPacks_29 : decode cX8_findPacks 29 = .ok (.iconst 0, 1) := by decide +kernel
theorem dX8_findPacks_30 : decode cX8_findPacks 30 = .ok (.istore_n 3, 1) := by decide +kernel
theorem dX8_findPacks_31 : decode cX8_findPacks 31 = .ok (.iload_n 3, 1) := by decide +kernel
theorem dX8_findPacks_32 : decode cX8_findPacks 32 = .ok (.iload_n 2, 1) := by decide +kernel
theorem dX8_findPacks_33 : decode cX8_findPacks 33 = .ok (.if_icmp .ge 68, 3) := by decide +kernel
theorem dX8_findPacks_36 : decode cX8_findPacks 36 = .ok (.aload_n 0, 1) := by decide +kernel
theorem dX8_findPacks_37 : decode cX8_findPacks 37 = .ok (.iload_n 1, 1) := by decide +kernel
theorem dX8_findPacks_38 : decode cX8_findPacks 38 = .ok (.iload_n 3, 1) := by decide +kernel
theorem dX8_findPacks_39 : decode cX8_findPacks 39 = .ok (.invokevirtual 188, 3) := by decide +kernel
theorem dX8_findPacks_42 : decode cX8_findPacks 42 = .ok (.ifCond .eq 53, 3) := by decide +kernel
theorem dX8_findPacks_45 : decode cX8_findPacks 45 = .ok (.aload_n 0, 1) := by decide +kernel
theorem dX8_findPacks_46 : decode cX8_findPacks 46 = .ok (.dup, 1) := by decide +kernel
theorem dX8_findPacks_47 : decode cX8_findPacks 47 = .ok (.getfield 185, 3) := by decide +kernel
theorem dX8_findPacks_50 : decode cX8_findPacks 50 = .ok (.iconst 1, 1) := by decide +kernel
theorem dX8_findPacks_51 : decode cX8_findPacks 51 = .ok (.iadd, 1) := by decide +kernel
theorem dX8_findPacks_52 : decode cX8_findPacks 52 = .ok (.putfield 185, 3) := by decide +kernel
theorem dX8_findPacks_55 : decode cX8_findPacks 55 = .ok (.iconst 0, 1) := by decide +kernel
theorem dX8_findPacks_56 : decode cX8_findPacks 56 = .ok (.istore 4, 2) := by decide +kernel
theorem dX8_findPacks_58 : decode cX8_findPacks 58 = .ok (.iload 4, 2) := by decide +kernel
theorem dX8_findPacks_60 : decode cX8_findPacks 60 = .ok (.aload_n 0, 1) := by decide +kernel
theorem dX8_findPacks_61 : decode cX8_findPacks 61 = .ok (.getfield 74, 3) := by decide +kernel
theorem dX8_findPacks_64 : decode cX8_findPacks 64 = .ok (.if_icmp .ge 31, 3) := by decide +kernel
theorem dX8_findPacks_67 : decode cX8_findPacks 67 = .ok (.aload_n 0, 1) := by decide +kernel
theorem dX8_findPacks_68 : decode cX8_findPacks 68 = .ok (.getfield 185, 3) := by decide +kernel
theorem dX8_findPacks_71 : decode cX8_findPacks 71 = .ok (.iconst 1, 1) := by decide +kernel
theorem dX8_findPacks_72 : decode cX8_findPacks 72 = .ok (.if_icmp .ne 23, 3) := by decide +kernel
theorem dX8_findPacks_75 : decode cX8_findPacks 75 = .ok (.aload_n 0, 1) := by decide +kernel
theorem dX8_findPacks_76 : decode cX8_findPacks 76 = .ok (.getfield 52, 3) := by decide +kernel
theorem dX8_findPacks_79 : decode cX8_findPacks 79 = .ok (.iload 4, 2) := by decide +kernel
theorem dX8_findPacks_81 : decode cX8_findPacks 81 = .ok (.aload_n 0, 1) := by decide +kernel
theorem dX8_findPacks_82 : decode cX8_findPacks 82 = .ok (.getfield 49, 3) := by decide +kernel
theorem dX8_findPacks_85 : decode cX8_findPacks 85 = .ok (.iload 4, 2) := by decide +kernel
theorem dX8_findPacks_87 : decode cX8_findPacks 87 = .ok (.iaload, 1) := by decide +kernel
theorem dX8_findPacks_88 : decode cX8_findPacks 88 = .ok (.iastore, 1) := by decide +kernel
theorem dX8_findPacks_89 : decode cX8_findPacks 89 = .ok (.iinc 4 1, 3) := by decide +kernel
theorem dX8_findPacks_92 : decode cX8_findPacks 92 = .ok (.goto (-34), 3) := by decide +kernel
theorem dX8_findPacks_95 : decode cX8_findPacks 95 = .ok (.iinc 3 1, 3) := by decide +kernel
theorem dX8_findPacks_98 : decode cX8_findPacks 98 = .ok (.goto (-67), 3) := by decide +kernel
theorem dX8_findPacks_101 : decode cX8_findPacks 101 = .ok (.return_, 1) := by decide +kernel
set_option maxRecDepth 20000 in
theorem ggX8_packs_X8_isSet : GoodIn wsX8_packs wsX8_isSet := goodIn_r _ [8, 1, 35, 36, 37, 38, 39, 40, 41, 42, 43, 44, 45, 46, 47, 48, 49, 50, 51, 52, 53, 54, 55, 56, 57, 58, 59, 60, 61, 62, 63, 64, 65, 66] (by decide +kernel) (by decide +kernel)
set_option maxRecDepth 20000 in
theorem gX8_packs_X8_isSet : GoodIn wsX8_packs (wsV RX8 154 RX8 yX8_isSet wsX8_isSet) := goodIn_app (goodIn_of _ (by decide +kernel)) ggX8_packs_X8_isSet
set_option maxRecDepth 20000 in
theorem ggX8_packs_X8_within : GoodIn wsX8_packs wsX8_within := goodIn_r _ [11] (by decide +kernel) (by decide +kernel)
set_option maxRecDepth 20000 in
theorem gX8_packs_X8_within : GoodIn wsX8_packs (va_wsS RX8 70 yX8_within wsX8_within) := goodIn_app (goodIn_of _ (by decide +kernel)) ggX8_packs_X8_within
set_option maxRecDepth 20000 in
theorem ggX8_packs_X8_findPacks : GoodIn wsX8_packs wsX8_findPacks := goodIn_r _ [15, 2, 16, 1, 3, 17, 18, 19, 7, 20, 21, 22, 23, 24, 25, 26, 27, 28, 29, 30, 35, 36, 37, 38, 39, 40, 41, 42, 43, 44, 45, 46, 47, 48, 49, 50, 51, 52, 53, 54, 55, 56, 57, 58, 59, 60, 61, 62, 63, 64, 65, 66] (by decide +kernel) (by decide +kernel)
set_option maxRecDepth 20000 in
theorem gX8_packs_X8_findPacks : GoodIn wsX8_packs (wsV RX8 191 RX8 yX8_findPacks wsX8_findPacks) := goodIn_app (goodIn_of _ (by decide +kernel)) ggX8_packs_X8_findPacks
set_option maxRecDepth 20000 in
theorem ggX8_packs_X8_isArticle : GoodIn wsX8_packs wsX8_isArticle := goodIn_r _ [34, 1, 35, 36, 37, 38, 39, 40, 41, 42, 43, 44, 45, 46, 47, 48, 49, 50, 51, 52, 53, 54, 55, 56, 57, 58, 59, 60, 61, 62, 63, 64, 65, 66] (by decide +kernel) (by decide +kernel)
set_option maxRecDepth 20000 in
theorem gX8_packs_X8_isArticle : GoodIn wsX8_packs (wsV RX8 142 RX8 yX8_isArticle wsX8_isArticle) := goodIn_app (goodIn_of _ (by decide +kernel)) ggX8_packs_X8_isArticle
theorem dX8_packs_0 : decode cX8_packs 0 = .ok (.aload_n 0, 1) := by decide +kernel
theorem dX8_packs_1 : decode cX8_packs 1 = .ok (.getfield 74, 3) := by decide +kernel
theorem dX8_packs_4 : decode cX8_packs 4 = .ok (.ifCond .ne 6, 3) := by decide +kernel
theorem dX8_packs_7 : decode cX8_packs 7 = .ok (.bipush (-3), 2) := by decide +kernel
theorem dX8_packs_9 : decode cX8_packs 9 = .ok (.ireturn, 1) := by decide +kernel
theorem dX8_packs_10 : decode cX8_packs 10 = .ok (.aload_n 0, 1) := by decide +kernel
theorem dX8_packs_11 : decode cX8_packs 11 = .ok (.iload_n 1, 1) := by decide +kernel
theorem dX8_packs_12 : decode cX8_packs 12 = .ok (.invokevirtual 154, 3) := by decide +kernel
theorem dX8_packs_15 : decode cX8_packs 15 = .ok (.ifCond .eq 12, 3) := by decide +kernel
theorem dX8_packs_18 : decode cX8_packs 18 = .ok (.iload_n 2, 1) := by decide +kernel
theorem dX8_packs_19 : decode cX8_packs 19 = .ok (.iconst (-1), 1) := by decide +kernel
theorem dX8_packs_20 : decode cX8_packs 20 = .ok (.iconst 5, 1) := by decide +kernel
theorem dX8_packs_21 : decode cX8_packs 21 = .ok (.invokestatic 70, 3) := by decide +kernel
theorem dX8_packs_24 : decode cX8_packs 24 = .ok (.ifCond .ne 6, 3) := by decide +kernel
theorem dX8_packs_27 : decode cX8_packs 27 = .ok (.bipush (-2), 2) := by decide +kernel
theorem dX8_packs_29 : decode cX8_packs 29 = .ok (.ireturn, 1) := by decide +kernel
theorem dX8_packs_30 : decode cX8_packs 30 = .ok (.aload_n 0, 1) := by decide +kernel
theorem dX8_packs_31 : decode cX8_packs 31 = .ok (.iload_n 1, 1) := by decide +kernel
theorem dX8_packs_32 : decode cX8_packs 32 = .ok (.invokevirtual 191, 3) := by decide +kernel
theorem dX8_packs_35 : decode cX8_packs 35 = .ok (.iload_n 2, 1) := by decide +kernel
theorem dX8_packs_36 : decode cX8_packs 36 = .ok (.iconst (-1), 1) := by decide +kernel
theorem dX8_packs_37 : decode cX8_packs 37 = .ok (.if_icmp .ne 8, 3) := by decide +kernel
theorem dX8_packs_40 : decode cX8_packs 40 = .ok (.aload_n 0, 1) := by decide +kernel
theorem dX8_packs_41 : decode cX8_packs 41 = .ok (.getfield 185, 3) := by decide +kernel
theorem dX8_packs_44 : decode cX8_packs 44 = .ok (.ireturn, 1) := by decide +kernel
theorem dX8_packs_45 : decode cX8_packs 45 = .ok (.aload_n 0, 1) := by decide +kernel
theorem dX8_packs_46 : decode cX8_packs 46 = .ok (.getfield 185, 3) := by decide +kernel
theorem dX8_packs_49 : decode cX8_packs 49 = .ok (.ifCond .le 20, 3) := by decide +kernel
theorem dX8_packs_52 : decode cX8_packs 52 = .ok (.aload_n 0, 1) := by decide +kernel
theorem dX8_packs_53 : decode cX8_packs 53 = .ok (.iload_n 2, 1) := by decide +kernel
theorem dX8_packs_54 : decode cX8_packs 54 = .ok (.invokevirtual 142, 3) := by decide +kernel
theorem dX8_packs_57 : decode cX8_packs 57 = .ok (.ifCond .eq 12, 3) := by decide +kernel
theorem dX8_packs_60 : decode cX8_packs 60 = .ok (.aload_n 0, 1) := by decide +kernel
theorem dX8_packs_61 : decode cX8_packs 61 = .ok (.getfield 52, 3) := by decide +kernel
theorem dX8_packs_64 : decode cX8_packs 64 = .ok (.iload_n 2, 1) := by decide +kernel
theorem dX8_packs_65 : decode cX8_packs 65 = .ok (.iaload, 1) := by decide +kernel
theorem dX8_packs_66 : decode cX8_packs 66 = .ok (.goto 5, 3) := by decide +kernel
theorem dX8_packs_69 : decode cX8_packs 69 = .ok (.bipush (-9), 2) := by decide +kernel
theorem dX8_packs_71 : decode cX8_packs 71 = .ok (.ireturn, 1) := by decide +kernel
set_option maxRecDepth 20000 in
theorem ggX8_fewestFor_X8_size : GoodIn wsX8_fewestFor wsX8_size := goodIn_r _ [6] (by decide +kernel) (by decide +kernel)
set_option maxRecDepth 20000 in
theorem gX8_fewestFor_X8_size : GoodIn wsX8_fewestFor (va_wsS RX8 176 yX8_size wsX8_size) := goodIn_app (goodIn_of _ (by decide +kernel)) ggX8_fewestFor_X8_size
set_option maxRecDepth 20000 in
theorem ggX8_fewestFor_X8_companyOf : GoodIn wsX8_fewestFor wsX8_companyOf := goodIn_r _ [10, 1, 11, 12, 13, 14, 5, 15, 16, 17, 18, 19, 20, 21, 22, 23, 24, 25, 26, 27, 28, 29, 30, 31, 32, 33, 34, 35, 36, 37, 38, 39, 40, 41, 42, 43, 44, 45, 46, 47, 48, 49, 50, 51, 52, 53, 54, 55, 56] (by decide +kernel) (by decide +kernel)
set_option maxRecDepth 20000 in
theorem gX8_fewestFor_X8_companyOf : GoodIn wsX8_fewestFor (wsV RX8 157 RX8 yX8_companyOf wsX8_companyOf) := goodIn_app (goodIn_of _ (by decide +kernel)) ggX8_fewestFor_X8_companyOf
theorem dX8_fewestFor_0 : decode cX8_fewestFor 0 = .ok (.bipush (-9), 2) := by decide +kernel
theorem dX8_fewestFor_2 : decode cX8_fewestFor 2 = .ok (.istore_n 3, 1) := by decide +kernel
theorem dX8_fewestFor_3 : decode cX8_fewestFor 3 = .ok (.iconst 0, 1) := by decide +kernel
theorem dX8_fewestFor_4 : decode cX8_fewestFor 4 = .ok (.istore 4, 2) := by decide +kernel
theorem dX8_fewestFor_6 : decode cX8_fewestFor 6 = .ok (.iload 4, 2) := by decide +kernel
theorem dX8_fewestFor_8 : decode cX8_fewestFor 8 = .ok (.iconst 1, 1) := by decide +kernel
theorem dX8_fewestFor_9 : decode cX8_fewestFor 9 = .ok (.aload_n 0, 1) := by decide +kernel
theorem dX8_fewestFor_10 : decode cX8_fewestFor 10 = .ok (.getfield 74, 3) := by decide +kernel
theorem dX8_fewestFor_13 : decode cX8_fewestFor 13 = .ok (.ishl, 1) := by decide +kernel
theorem dX8_fewestFor_14 : decode cX8_fewestFor 14 = .ok (.if_icmp .ge 79, 3) := by decide +kernel
theorem dX8_fewestFor_17 : decode cX8_fewestFor 17 = .ok (.iload 4, 2) := by decide +kernel
theorem dX8_fewestFor_19 : decode cX8_fewestFor 19 = .ok (.aload_n 0, 1) := by decide +kernel
theorem dX8_fewestFor_20 : decode cX8_fewestFor 20 = .ok (.getfield 116, 3) := by decide +kernel
theorem dX8_fewestFor_23 : decode cX8_fewestFor 23 = .ok (.iconst (-1), 1) := by decide +kernel
theorem dX8_fewestFor_24 : decode cX8_fewestFor 24 = .ok (.ixor, 1) := by decide +kernel
theorem dX8_fewestFor_25 : decode cX8_fewestFor 25 = .ok (.iand, 1) := by decide +kernel
theorem dX8_fewestFor_26 : decode cX8_fewestFor 26 = .ok (.ifCond .ne 32, 3) := by decide +kernel
theorem dX8_fewestFor_29 : decode cX8_fewestFor 29 = .ok (.iload 4, 2) := by decide +kernel
theorem dX8_fewestFor_31 : decode cX8_fewestFor 31 = .ok (.iload_n 2, 1) := by decide +kernel
theorem dX8_fewestFor_32 : decode cX8_fewestFor 32 = .ok (.iand, 1) := by decide +kernel
theorem dX8_fewestFor_33 : decode cX8_fewestFor 33 = .ok (.ifCond .ne 25, 3) := by decide +kernel
theorem dX8_fewestFor_36 : decode cX8_fewestFor 36 = .ok (.iload_n 3, 1) := by decide +kernel
theorem dX8_fewestFor_37 : decode cX8_fewestFor 37 = .ok (.bipush (-9), 2) := by decide +kernel
theorem dX8_fewestFor_39 : decode cX8_fewestFor 39 = .ok (.if_icmp .eq 15, 3) := by decide +kernel
theorem dX8_fewestFor_42 : decode cX8_fewestFor 42 = .ok (.iload 4, 2) := by decide +kernel
theorem dX8_fewestFor_44 : decode cX8_fewestFor 44 = .ok (.invokestatic 176, 3) := by decide +kernel
theorem dX8_fewestFor_47 : decode cX8_fewestFor 47 = .ok (.iload_n 3, 1) := by decide +kernel
theorem dX8_fewestFor_48 : decode cX8_fewestFor 48 = .ok (.invokestatic 176, 3) := by decide +kernel
theorem dX8_fewestFor_51 : decode cX8_fewestFor 51 = .ok (.if_icmp .ge 7, 3) := by decide +kernel
theorem dX8_fewestFor_54 : decode cX8_fewestFor 54 = .ok (.iconst 1, 1) := by decide +kernel
theorem dX8_fewestFor_55 : decode cX8_fewestFor 55 = .ok (.goto 4, 3) := by decide +kernel
theorem dX8_fewestFor_58 : decode cX8_fewestFor 58 = .ok (.iconst 0, 1) := by decide +kernel
theorem dX8_fewestFor_59 : decode cX8_fewestFor 59 = .ok (.istore 5, 2) := by decide +kernel
theorem dX8_fewestFor_61 : decode cX8_fewestFor 61 = .ok (.iload 5, 2) := by decide +kernel
theorem dX8_fewestFor_63 : decode cX8_fewestFor 63 = .ok (.ifCond .eq 24, 3) := by decide +kernel
theorem dX8_fewestFor_66 : decode cX8_fewestFor 66 = .ok (.aload_n 0, 1) := by decide +kernel
theorem dX8_fewestFor_67 : decode cX8_fewestFor 67 = .ok (.aload_n 0, 1) := by decide +kernel
theorem dX8_fewestFor_68 : decode cX8_fewestFor 68 = .ok (.getfield 116, 3) := by decide +kernel
theorem dX8_fewestFor_71 : decode cX8_fewestFor 71 = .ok (.iload 4, 2) := by decide +kernel
theorem dX8_fewestFor_73 : decode cX8_fewestFor 73 = .ok (.iconst (-1), 1) := by decide +kernel
theorem dX8_fewestFor_74 : decode cX8_fewestFor 74 = .ok (.ixor, 1) := by decide +kernel
theorem dX8_fewestFor_75 : decode cX8_fewestFor 75 = .ok (.iand, 1) := by decide +kernel
theorem dX8_fewestFor_76 : decode cX8_fewestFor 76 = .ok (.invokevirtual 157, 3) := by decide +kernel
theorem dX8_fewestFor_79 : decode cX8_fewestFor 79 = .ok (.iload_n 1, 1) := by decide +kernel
theorem dX8_fewestFor_80 : decode cX8_fewestFor 80 = .ok (.iand, 1) := by decide +kernel
theorem dX8_fewestFor_81 : decode cX8_fewestFor 81 = .ok (.ifCond .ne 6, 3) := by decide +kernel
theorem dX8_fewestFor_84 : decode cX8_fewestFor 84 = .ok (.iload 4, 2) := by decide +kernel
theorem dX8_fewestFor_86 : decode cX8_fewestFor 86 = .ok (.istore_n 3, 1) := by decide +kernel
theorem dX8_fewestFor_87 : decode cX8_fewestFor 87 = .ok (.iinc 4 1, 3) := by decide +kernel
theorem dX8_fewestFor_90 : decode cX8_fewestFor 90 = .ok (.goto (-84), 3) := by decide +kernel
theorem dX8_fewestFor_93 : decode cX8_fewestFor 93 = .ok (.iload_n 3, 1) := by decide +kernel
theorem dX8_fewestFor_94 : decode cX8_fewestFor 94 = .ok (.ireturn, 1) := by decide +kernel
set_option maxRecDepth 20000 in
theorem ggX8_fetch_X8_isSet : GoodIn wsX8_fetch wsX8_isSet := goodIn_r _ [7, 1, 33, 34, 35, 36, 37, 38, 39, 40, 41, 42, 43, 44, 45, 46, 47, 48, 49, 50, 51, 52, 53, 54, 55, 56, 57, 58, 59, 60, 61, 62, 63, 64] (by decide +kernel) (by decide +kernel)
set_option maxRecDepth 20000 in
theorem gX8_fetch_X8_isSet : GoodIn wsX8_fetch (wsV RX8 154 RX8 yX8_isSet wsX8_isSet) := goodIn_app (goodIn_of _ (by decide +kernel)) ggX8_fetch_X8_isSet
set_option maxRecDepth 20000 in
theorem ggX8_fetch_X8_fewestFor : GoodIn wsX8_fetch wsX8_fewestFor := goodIn_r _ [11, 1, 2, 12, 13, 6, 14, 15, 16, 17, 18, 19, 20, 21, 22, 23, 24, 25, 26, 27, 28, 29, 30, 31, 32, 33, 34, 35, 36, 37, 38, 39, 40, 41, 42, 43, 44, 45, 46, 47, 48, 49, 50, 51, 52, 53, 54, 55, 56, 57, 58, 59, 60, 61, 62, 63, 64] (by decide +kernel) (by decide +kernel)
set_option maxRecDepth 20000 in
theorem gX8_fetch_X8_fewestFor : GoodIn wsX8_fetch (wsV RX8 195 RX8 yX8_fewestFor wsX8_fewestFor) := goodIn_app (goodIn_of _ (by decide +kernel)) ggX8_fetch_X8_fewestFor
theorem dX8_fetch_0 : decode cX8_fetch 0 = .ok (.aload_n 0, 1) := by decide +kernel
theorem dX8_fetch_1 : decode cX8_fetch 1 = .ok (.getfield 74, 3) := by decide +kernel
theorem dX8_fetch_4 : decode cX8_fetch 4 = .ok (.ifCond .ne 6, 3) := by decide +kernel
theorem dX8_fetch_7 : decode cX8_fetch 7 = .ok (.bipush (-3), 2) := by decide +kernel
theorem dX8_fetch_9 : decode cX8_fetch 9 = .ok (.ireturn, 1) := by decide +kernel
theorem dX8_fetch_10 : decode cX8_fetch 10 = .ok (.aload_n 0, 1) := by decide +kernel
theorem dX8_fetch_11 : decode cX8_fetch 11 = .ok (.iload_n 1, 1) := by decide +kernel
theorem dX8_fetch_12 : decode cX8_fetch 12 = .ok (.invokevirtual 154, 3) := by decide +kernel
theorem dX8_fetch_15 : decode cX8_fetch 15 = .ok (.ifCond .ne 6, 3) := by decide +kernel
theorem dX8_fetch_18 : decode cX8_fetch 18 = .ok (.bipush (-2), 2) := by decide +kernel
theorem dX8_fetch_20 : decode cX8_fetch 20 = .ok (.ireturn, 1) := by decide +kernel
theorem dX8_fetch_21 : decode cX8_fetch 21 = .ok (.iload_n 1, 1) := by decide +kernel
theorem dX8_fetch_22 : decode cX8_fetch 22 = .ok (.aload_n 0, 1) := by decide +kernel
theorem dX8_fetch_23 : decode cX8_fetch 23 = .ok (.getfield 116, 3) := by decide +kernel
theorem dX8_fetch_26 : decode cX8_fetch 26 = .ok (.iconst (-1), 1) := by decide +kernel
theorem dX8_fetch_27 : decode cX8_fetch 27 = .ok (.ixor, 1) := by decide +kernel
theorem dX8_fetch_28 : decode cX8_fetch 28 = .ok (.iand, 1) := by decide +kernel
theorem dX8_fetch_29 : decode cX8_fetch 29 = .ok (.ifCond .ne 12, 3) := by decide +kernel
theorem dX8_fetch_32 : decode cX8_fetch 32 = .ok (.aload_n 0, 1) := by decide +kernel
theorem dX8_fetch_33 : decode cX8_fetch 33 = .ok (.iload_n 1, 1) := by decide +kernel
theorem dX8_fetch_34 : decode cX8_fetch 34 = .ok (.iconst 0, 1) := by decide +kernel
theorem dX8_fetch_35 : decode cX8_fetch 35 = .ok (.invokevirtual 195, 3) := by decide +kernel
theorem dX8_fetch_38 : decode cX8_fetch 38 = .ok (.goto 5, 3) := by decide +kernel
theorem dX8_fetch_41 : decode cX8_fetch 41 = .ok (.bipush (-3), 2) := by decide +kernel
theorem dX8_fetch_43 : decode cX8_fetch 43 = .ok (.ireturn, 1) := by decide +kernel
set_option maxRecDepth 20000 in
theorem ggX8_lure_X8_isArticle : GoodIn wsX8_lure wsX8_isArticle := goodIn_r _ [6, 7, 33, 34, 35, 36, 37, 38, 39, 40, 41, 42, 43, 44, 45, 46, 47, 48, 49, 50, 51, 52, 53, 54, 55, 56, 57, 58, 59, 60, 61, 62, 63, 64] (by decide +kernel) (by decide +kernel)
set_option maxRecDepth 20000 in
theorem gX8_lure_X8_isArticle : GoodIn wsX8_lure (wsV RX8 142 RX8 yX8_isArticle wsX8_isArticle) := goodIn_app (goodIn_of _ (by decide +kernel)) ggX8_lure_X8_isArticle
set_option maxRecDepth 20000 in
theorem ggX8_lure_X8_isOf : GoodIn wsX8_lure wsX8_isOf := goodIn_r _ [10] (by decide +kernel) (by decide +kernel)
set_option maxRecDepth 20000 in
theorem gX8_lure_X8_isOf : GoodIn wsX8_lure (va_wsS RX8 136 yX8_isOf wsX8_isOf) := goodIn_app (goodIn_of _ (by decide +kernel)) ggX8_lure_X8_isOf
set_option maxRecDepth 20000 in
theorem ggX8_lure_X8_fewestFor : GoodIn wsX8_lure wsX8_fewestFor := goodIn_r _ [14, 7, 1, 15, 16, 5, 17, 18, 19, 20, 21, 22, 23, 24, 25, 26, 8, 9, 10, 27, 28, 29, 30, 31, 32, 33, 34, 35, 36, 37, 38, 39, 40, 41, 42, 43, 44, 45, 46, 47, 48, 49, 50, 51, 52, 53, 54, 55, 56, 57, 58, 59, 60, 61, 62, 63, 64] (by decide +kernel) (by decide +kernel)
set_option maxRecDepth 20000 in
theorem gX8_lure_X8_fewestFor : GoodIn wsX8_lure (wsV RX8 195 RX8 yX8_fewestFor wsX8_fewestFor) := goodIn_app (goodIn_of _ (by decide +kernel)) ggX8_lure_X8_fewestFor
theorem dX8_lure_0 : decode cX8_lure 0 = .ok (.aload_n 0, 1) := by decide +kernel
theorem dX8_lure_1 : decode cX8_lure 1 = .ok (.iload_n 1, 1) := by decide +kernel
theorem dX8_lure_2 : decode cX8_lure 2 = .ok (.invokevirtual 142, 3) := by decide +kernel
theorem dX8_lure_5 : decode cX8_lure 5 = .ok (.ifCond .ne 5, 3) := by decide +kernel
theorem dX8_lure_8 : decode cX8_lure 8 = .ok (.iconst (-1), 1) := by decide +kernel
theorem dX8_lure_9 : decode cX8_lure 9 = .ok (.ireturn, 1) := by decide +kernel
theorem dX8_lure_10 : decode cX8_lure 10 = .ok (.aload_n 0, 1) := by decide +kernel
theorem dX8_lure_11 : decode cX8_lure 11 = .ok (.getfield 116, 3) := by decide +kernel
theorem dX8_lure_14 : decode cX8_lure 14 = .ok (.iload_n 1, 1) := by decide +kernel
theorem dX8_lure_15 : decode cX8_lure 15 = .ok (.invokestatic 136, 3) := by decide +kernel
theorem dX8_lure_18 : decode cX8_lure 18 = .ok (.ifCond .eq 16, 3) := by decide +kernel
theorem dX8_lure_21 : decode cX8_lure 21 = .ok (.aload_n 0, 1) := by decide +kernel
theorem dX8_lure_22 : decode cX8_lure 22 = .ok (.iconst 1, 1) := by decide +kernel
theorem dX8_lure_23 : decode cX8_lure 23 = .ok (.iload_n 1, 1) := by decide +kernel
theorem dX8_lure_24 : decode cX8_lure 24 = .ok (.ishl, 1) := by decide +kernel
theorem dX8_lure_25 : decode cX8_lure 25 = .ok (.iconst 1, 1) := by decide +kernel
theorem dX8_lure_26 : decode cX8_lure 26 = .ok (.iload_n 1, 1) := by decide +kernel
theorem dX8_lure_27 : decode cX8_lure 27 = .ok (.ishl, 1) := by decide +kernel
theorem dX8_lure_28 : decode cX8_lure 28 = .ok (.invokevirtual 195, 3) := by decide +kernel
theorem dX8_lure_31 : decode cX8_lure 31 = .ok (.goto 5, 3) := by decide +kernel
theorem dX8_lure_34 : decode cX8_lure 34 = .ok (.bipush (-3), 2) := by decide +kernel
theorem dX8_lure_36 : decode cX8_lure 36 = .ok (.ireturn, 1) := by decide +kernel
set_option maxRecDepth 20000 in
theorem ggX8_reading_X8_isCorner : GoodIn wsX8_reading wsX8_isCorner := goodIn_r _ [8, 9, 10, 7, 11] (by decide +kernel) (by decide +kernel)
set_option maxRecDepth 20000 in
theorem gX8_reading_X8_isCorner : GoodIn wsX8_reading (va_wsS RX8 148 yX8_isCorner wsX8_isCorner) := goodIn_app (goodIn_of _ (by decide +kernel)) ggX8_reading_X8_isCorner
set_option maxRecDepth 20000 in
theorem ggX8_reading_X8_within : GoodIn wsX8_reading wsX8_within := goodIn_r _ [11] (by decide +kernel) (by decide +kernel)
set_option maxRecDepth 20000 in
theorem gX8_reading_X8_within : GoodIn wsX8_reading (va_wsS RX8 70 yX8_within wsX8_within) := goodIn_app (goodIn_of _ (by decide +kernel)) ggX8_reading_X8_within
theorem dX8_reading_0 : decode cX8_reading 0 = .ok (.iload_n 1, 1) := by decide +kernel
theorem dX8_reading_1 : decode cX8_reading 1 = .ok (.invokestatic 148, 3) := by decide +kernel
theorem dX8_reading_4 : decode cX8_reading 4 = .ok (.ifCond .eq 13, 3) := by decide +kernel
theorem dX8_reading_7 : decode cX8_reading 7 = .ok (.iload_n 2, 1) := by decide +kernel
theorem dX8_reading_8 : decode cX8_reading 8 = .ok (.iconst 0, 1) := by decide +kernel
theorem dX8_reading_9 : decode cX8_reading 9 = .ok (.bipush 99, 2) := by decide +kernel
theorem dX8_reading_11 : decode cX8_reading 11 = .ok (.invokestatic 70, 3) := by decide +kernel
theorem dX8_reading_14 : decode cX8_reading 14 = .ok (.ifCond .ne 6, 3) := by decide +kernel
theorem dX8_reading_17 : decode cX8_reading 17 = .ok (.bipush (-2), 2) := by decide +kernel
theorem dX8_reading_19 : decode cX8_reading 19 = .ok (.ireturn, 1) := by decide +kernel
theorem dX8_reading_20 : decode cX8_reading 20 = .ok (.aload_n 0, 1) := by decide +kernel
theorem dX8_reading_21 : decode cX8_reading 21 = .ok (.getfield 74, 3) := by decide +kernel
theorem dX8_reading_24 : decode cX8_reading 24 = .ok (.ifCond .ne 6, 3) := by decide +kernel
theorem dX8_reading_27 : decode cX8_reading 27 = .ok (.bipush (-3), 2) := by decide +kernel
theorem dX8_reading_29 : decode cX8_reading 29 = .ok (.ireturn, 1) := by decide +kernel
theorem dX8_reading_30 : decode cX8_reading 30 = .ok (.aload_n 0, 1) := by decide +kernel
theorem dX8_reading_31 : decode cX8_reading 31 = .ok (.getfield 119, 3) := by decide +kernel
theorem dX8_reading_34 : decode cX8_reading 34 = .ok (.bipush 8, 2) := by decide +kernel
theorem dX8_reading_36 : decode cX8_reading 36 = .ok (.if_icmp .ne 6, 3) := by decide +kernel
theorem dX8_reading_39 : decode cX8_reading 39 = .ok (.bipush (-4), 2) := by decide +kernel
theorem dX8_reading_41 : decode cX8_reading 41 = .ok (.ireturn, 1) := by decide +kernel
theorem dX8_reading_42 : decode cX8_reading 42 = .ok (.aload_n 0, 1) := by decide +kernel
theorem dX8_reading_43 : decode cX8_reading 43 = .ok (.getfield 58, 3) := by decide +kernel
theorem dX8_reading_46 : decode cX8_reading 46 = .ok (.aload_n 0, 1) := by decide +kernel
theorem dX8_reading_47 : decode cX8_reading 47 = .ok (.getfield 119, 3) := by decide +kernel
theorem dX8_reading_50 : decode cX8_reading 50 = .ok (.iload_n 1, 1) := by decide +kernel
theorem dX8_reading_51 : decode cX8_reading 51 = .ok (.iastore, 1) := by decide +kernel
theorem dX8_reading_52 : decode cX8_reading 52 = .ok (.aload_n 0, 1) := by decide +kernel
theorem dX8_reading_53 : decode cX8_reading 53 = .ok (.getfield 61, 3) := by decide +kernel
theorem dX8_reading_56 : decode cX8_reading 56 = .ok (.aload_n 0, 1) := by decide +kernel
theorem dX8_reading_57 : decode cX8_reading 57 = .ok (.getfield 119, 3) := by decide +kernel
theorem dX8_reading_60 : decode cX8_reading 60 = .ok (.iload_n 2, 1) := by decide +kernel
theorem dX8_reading_61 : decode cX8_reading 61 = .ok (.iastore, 1) := by decide +kernel
theorem dX8_reading_62 : decode cX8_reading 62 = .ok (.aload_n 0, 1) := by decide +kernel
theorem dX8_reading_63 : decode cX8_reading 63 = .ok (.dup, 1) := by decide +kernel
theorem dX8_reading_64 : decode cX8_reading 64 = .ok (.getfield 119, 3) := by decide +kernel
theorem dX8_reading_67 : decode cX8_reading 67 = .ok (.iconst 1, 1) := by decide +kernel
theorem dX8_reading_68 : decode cX8_reading 68 = .ok (.iadd, 1) := by decide +kernel
theorem dX8_reading_69 : decode cX8_reading 69 = .ok (.putfield 119, 3) := by decide +kernel
theorem dX8_reading_72 : decode cX8_reading 72 = .ok (.aload_n 0, 1) := by decide +kernel
theorem dX8_reading_73 : decode cX8_reading 73 = .ok (.getfield 119, 3) := by decide +kernel
theorem dX8_reading_76 : decode cX8_reading 76 = .ok (.iconst 1, 1) := by decide +kernel
theorem dX8_reading_77 : decode cX8_reading 77 = .ok (.isub, 1) := by decide +kernel
theorem dX8_reading_78 : decode cX8_reading 78 = .ok (.ireturn, 1) := by decide +kernel
set_option maxRecDepth 20000 in
theorem ggX8_back_X8_within : GoodIn wsX8_back wsX8_within := goodIn_r _ [5] (by decide +kernel) (by decide +kernel)
set_option maxRecDepth 20000 in
theorem gX8_back_X8_within : GoodIn wsX8_back (va_wsS RX8 70 yX8_within wsX8_within) := goodIn_app (goodIn_of _ (by decide +kernel)) ggX8_back_X8_within
theorem dX8_back_0 : decode cX8_back 0 = .ok (.iload_n 1, 1) := by decide +kernel
theorem dX8_back_1 : decode cX8_back 1 = .ok (.iconst 0, 1) := by decide +kernel
theorem dX8_back_2 : decode cX8_back 2 = .ok (.aload_n 0, 1) := by decide +kernel
theorem dX8_back_3 : decode cX8_back 3 = .ok (.getfield 119, 3) := by decide +kernel
theorem dX8_back_6 : decode cX8_back 6 = .ok (.invokestatic 70, 3) := by decide +kernel
theorem dX8_back_9 : decode cX8_back 9 = .ok (.ifCond .ne 6, 3) := by decide +kernel
theorem dX8_back_12 : decode cX8_back 12 = .ok (.bipush (-2), 2) := by decide +kernel
theorem dX8_back_14 : decode cX8_back 14 = .ok (.ireturn, 1) := by decide +kernel
theorem dX8_back_15 : decode cX8_back 15 = .ok (.aload_n 0, 1) := by decide +kernel
theorem dX8_back_16 : decode cX8_back 16 = .ok (.dup, 1) := by decide +kernel
theorem dX8_back_17 : decode cX8_back 17 = .ok (.getfield 119, 3) := by decide +kernel
theorem dX8_back_20 : decode cX8_back 20 = .ok (.iload_n 1, 1) := by decide +kernel
theorem dX8_back_21 : decode cX8_back 21 = .ok (.isub, 1) := by decide +kernel
theorem dX8_back_22 : decode cX8_back 22 = .ok (.putfield 119, 3) := by decide +kernel
theorem dX8_back_25 : decode cX8_back 25 = .ok (.aload_n 0, 1) := by decide +kernel
theorem dX8_back_26 : decode cX8_back 26 = .ok (.getfield 119, 3) := by decide +kernel
theorem dX8_back_29 : decode cX8_back 29 = .ok (.ireturn, 1) := by decide +kernel
set_option maxRecDepth 20000 in
theorem ggX8_areSo_X8_heardAt : GoodIn wsX8_areSo wsX8_heardAt := goodIn_r _ [8, 9, 10, 11, 12, 7, 13, 14, 15, 16, 17, 18, 19, 20, 21, 22, 23, 24, 25, 26, 27, 28, 29, 30, 31, 32, 33, 34, 35, 36, 37, 38, 39, 40, 41, 42, 43, 44, 45, 46, 47, 48, 49, 50, 51, 52, 53, 54, 55, 56, 57, 58, 59] (by decide +kernel) (by decide +kernel)
set_option maxRecDepth 20000 in
theorem gX8_areSo_X8_heardAt : GoodIn wsX8_areSo (wsV RX8 167 RX8 yX8_heardAt wsX8_heardAt) := goodIn_app (goodIn_of _ (by decide +kernel)) ggX8_areSo_X8_heardAt
theorem dX8_areSo_0 : decode cX8_areSo 0 = .ok (.iconst 0, 1) := by decide +kernel
theorem dX8_areSo_1 : decode cX8_areSo 1 = .ok (.istore_n 1, 1) := by decide +kernel
theorem dX8_areSo_2 : decode cX8_areSo 2 = .ok (.iload_n 1, 1) := by decide +kernel
theorem dX8_areSo_3 : decode cX8_areSo 3 = .ok (.aload_n 0, 1) := by decide +kernel
theorem dX8_areSo_4 : decode cX8_areSo 4 = .ok (.getfield 119, 3) := by decide +kernel
theorem dX8_areSo_7 : decode cX8_areSo 7 = .ok (.if_icmp .ge 30, 3) := by decide +kernel
theorem dX8_areSo_10 : decode cX8_areSo 10 = .ok (.aload_n 0, 1) := by decide +kernel
theorem dX8_areSo_11 : decode cX8_areSo 11 = .ok (.aload_n 0, 1) := by decide +kernel
theorem dX8_areSo_12 : decode cX8_areSo 12 = .ok (.getfield 58, 3) := by decide +kernel
theorem dX8_areSo_15 : decode cX8_areSo 15 = .ok (.iload_n 1, 1) := by decide +kernel
theorem dX8_areSo_16 : decode cX8_areSo 16 = .ok (.iaload, 1) := by decide +kernel
theorem dX8_areSo_17 : decode cX8_areSo 17 = .ok (.invokevirtual 167, 3) := by decide +kernel
theorem dX8_areSo_20 : decode cX8_areSo 20 = .ok (.aload_n 0, 1) := by decide +kernel
theorem dX8_areSo_21 : decode cX8_areSo 21 = .ok (.getfield 61, 3) := by decide +kernel
theorem dX8_areSo_24 : decode cX8_areSo 24 = .ok (.iload_n 1, 1) := by decide +kernel
theorem dX8_areSo_25 : decode cX8_areSo 25 = .ok (.iaload, 1) := by decide +kernel
theorem dX8_areSo_26 : decode cX8_areSo 26 = .ok (.if_icmp .eq 5, 3) := by decide +kernel
theorem dX8_areSo_29 : decode cX8_areSo 29 = .ok (.iconst 0, 1) := by decide +kernel
theorem dX8_areSo_30 : decode cX8_areSo 30 = .ok (.ireturn, 1) := by decide +kernel
theorem dX8_areSo_31 : decode cX8_areSo 31 = .ok (.iinc 1 1, 3) := by decide +kernel
theorem dX8_areSo_34 : decode cX8_areSo 34 = .ok (.goto (-32), 3) := by decide +kernel
theorem dX8_areSo_37 : decode cX8_areSo 37 = .ok (.iconst 1, 1) := by decide +kernel
theorem dX8_areSo_38 : decode cX8_areSo 38 = .ok (.ireturn, 1) := by decide +kernel
set_option maxRecDepth 20000 in
theorem ggX8_gaieties_X8_isArticle : GoodIn wsX8_gaieties wsX8_isArticle := goodIn_r _ [6, 7, 36, 37, 38, 39, 40, 41, 42, 43, 44, 45, 46, 47, 48, 49, 50, 51, 52, 53, 54, 55, 56, 57, 58, 59, 60, 61, 62, 63, 64, 65, 66, 67] (by decide +kernel) (by decide +kernel)
set_option maxRecDepth 20000 in
theorem gX8_gaieties_X8_isArticle : GoodIn wsX8_gaieties (wsV RX8 142 RX8 yX8_isArticle wsX8_isArticle) := goodIn_app (goodIn_of _ (by decide +kernel)) ggX8_gaieties_X8_isArticle
set_option maxRecDepth 20000 in
theorem ggX8_gaieties_X8_areSo : GoodIn wsX8_gaieties wsX8_areSo := goodIn_r _ [11, 12, 13, 14, 15, 16, 17, 5, 18, 19, 20, 21, 22, 23, 24, 25, 26, 27, 7, 28, 29, 30, 31, 32, 33, 34, 35, 1, 36, 37, 38, 39, 40, 41, 42, 43, 44, 45, 46, 47, 48, 49, 50, 51, 52, 53, 54, 55, 56, 57, 58, 59, 60, 61, 62, 63, 64, 65, 66, 67] (by decide +kernel) (by decide +kernel)
set_option maxRecDepth 20000 in
theorem gX8_gaieties_X8_areSo : GoodIn wsX8_gaieties (wsV RX8 198 RX8 yX8_areSo wsX8_areSo) := goodIn_app (goodIn_of _ (by decide +kernel)) ggX8_gaieties_X8_areSo
theorem dX8_gaieties_0 : decode cX8_gaieties 0 = .ok (.aload_n 0, 1) := by decide +kernel
theorem dX8_gaieties_1 : decode cX8_gaieties 1 = .ok (.iload_n 1, 1) := by decide +kernel
theorem dX8_gaieties_2 : decode cX8_gaieties 2 = .ok (.invokevirtual 142, 3) := by decide +kernel
theorem dX8_gaieties_5 : decode cX8_gaieties 5 = .ok (.ifCond .ne 5, 3) := by decide +kernel
theorem dX8_gaieties_8 : decode cX8_gaieties 8 = .ok (.iconst (-1), 1) := by decide +kernel
theorem dX8_gaieties_9 : decode cX8_gaieties 9 = .ok (.ireturn, 1) := by decide +kernel
theorem dX8_gaieties_10 : decode cX8_gaieties 10 = .ok (.aload_n 0, 1) := by decide +kernel
theorem dX8_gaieties_11 : decode cX8_gaieties 11 = .ok (.getfield 28, 3) := by decide +kernel
theorem dX8_gaieties_14 : decode cX8_gaieties 14 = .ok (.iload_n 1, 1) := by decide +kernel
theorem dX8_gaieties_15 : decode cX8_gaieties 15 = .ok (.iaload, 1) := by decide +kernel
theorem dX8_gaieties_16 : decode cX8_gaieties 16 = .ok (.istore_n 2, 1) := by decide +kernel
theorem dX8_gaieties_17 : decode cX8_gaieties 17 = .ok (.iconst 0, 1) := by decide +kernel
theorem dX8_gaieties_18 : decode cX8_gaieties 18 = .ok (.istore_n 3, 1) := by decide +kernel
theorem dX8_gaieties_19 : decode cX8_gaieties 19 = .ok (.iconst 0, 1) := by decide +kernel
theorem dX8_gaieties_20 : decode cX8_gaieties 20 = .ok (.istore 4, 2) := by decide +kernel
theorem dX8_gaieties_22 : decode cX8_gaieties 22 = .ok (.iload 4, 2) := by decide +kernel
theorem dX8_gaieties_24 : decode cX8_gaieties 24 = .ok (.bipush 9, 2) := by decide +kernel
theorem dX8_gaieties_26 : decode cX8_gaieties 26 = .ok (.if_icmp .gt 35, 3) := by decide +kernel
theorem dX8_gaieties_29 : decode cX8_gaieties 29 = .ok (.aload_n 0, 1) := by decide +kernel
theorem dX8_gaieties_30 : decode cX8_gaieties 30 = .ok (.getfield 28, 3) := by decide +kernel
theorem dX8_gaieties_33 : decode cX8_gaieties 33 = .ok (.iload_n 1, 1) := by decide +kernel
theorem dX8_gaieties_34 : decode cX8_gaieties 34 = .ok (.iload 4, 2) := by decide +kernel
theorem dX8_gaieties_36 : decode cX8_gaieties 36 = .ok (.iastore, 1) := by decide +kernel
theorem dX8_gaieties_37 : decode cX8_gaieties 37 = .ok (.iload_n 3, 1) := by decide +kernel
theorem dX8_gaieties_38 : decode cX8_gaieties 38 = .ok (.aload_n 0, 1) := by decide +kernel
theorem dX8_gaieties_39 : decode cX8_gaieties 39 = .ok (.invokevirtual 198, 3) := by decide +kernel
theorem dX8_gaieties_42 : decode cX8_gaieties 42 = .ok (.ifCond .eq 10, 3) := by decide +kernel
theorem dX8_gaieties_45 : decode cX8_gaieties 45 = .ok (.iconst 1, 1) := by decide +kernel
theorem dX8_gaieties_46 : decode cX8_gaieties 46 = .ok (.iload 4, 2) := by decide +kernel
theorem dX8_gaieties_48 : decode cX8_gaieties 48 = .ok (.ishl, 1) := by decide +kernel
theorem dX8_gaieties_49 : decode cX8_gaieties 49 = .ok (.goto 4, 3) := by decide +kernel
theorem dX8_gaieties_52 : decode cX8_gaieties 52 = .ok (.iconst 0, 1) := by decide +kernel
theorem dX8_gaieties_53 : decode cX8_gaieties 53 = .ok (.ior, 1) := by decide +kernel
theorem dX8_gaieties_54 : decode cX8_gaieties 54 = .ok (.istore_n 3, 1) := by decide +kernel
theorem dX8_gaieties_55 : decode cX8_gaieties 55 = .ok (.iinc 4 1, 3) := by decide +kernel
theorem dX8_gaieties_58 : decode cX8_gaieties 58 = .ok (.goto (-36), 3) := by decide +kernel
theorem dX8_gaieties_61 : decode cX8_gaieties 61 = .ok (.aload_n 0, 1) := by decide +kernel
theorem dX8_gaieties_62 : decode cX8_gaieties 62 = .ok (.getfield 28, 3) := by decide +kernel
theorem dX8_gaieties_65 : decode cX8_gaieties 65 = .ok (.iload_n 1, 1) := by decide +kernel
theorem dX8_gaieties_66 : decode cX8_gaieties 66 = .ok (.iload_n 2, 1) := by decide +kernel
theorem dX8_gaieties_67 : decode cX8_gaieties 67 = .ok (.iastore, 1) := by decide +kernel
theorem dX8_gaieties_68 : decode cX8_gaieties 68 = .ok (.iload_n 3, 1) := by decide +kernel
theorem dX8_gaieties_69 : decode cX8_gaieties 69 = .ok (.ireturn, 1) := by decide +kernel
set_option maxRecDepth 20000 in
theorem ggX8_kinds_X8_isArticle : GoodIn wsX8_kinds wsX8_isArticle := goodIn_r _ [6, 7, 36, 37, 38, 39, 40, 41, 42, 43, 44, 45, 46, 47, 48, 49, 50, 51, 52, 53, 54, 55, 56, 57, 58, 59, 60, 61, 62, 63, 64, 65, 66, 67] (by decide +kernel) (by decide +kernel)
set_option maxRecDepth 20000 in
theorem gX8_kinds_X8_isArticle : GoodIn wsX8_kinds (wsV RX8 142 RX8 yX8_isArticle wsX8_isArticle) := goodIn_app (goodIn_of _ (by decide +kernel)) ggX8_kinds_X8_isArticle
set_option maxRecDepth 20000 in
theorem ggX8_kinds_X8_areSo : GoodIn wsX8_kinds wsX8_areSo := goodIn_r _ [11, 12, 13, 14, 15, 16, 17, 5, 18, 19, 20, 21, 22, 23, 24, 25, 26, 27, 7, 28, 29, 30, 31, 32, 33, 34, 1, 35, 36, 37, 38, 39, 40, 41, 42, 43, 44, 45, 46, 47, 48, 49, 50, 51, 52, 53, 54, 55, 56, 57, 58, 59, 60, 61, 62, 63, 64, 65, 66, 67] (by decide +kernel) (by decide +kernel)
set_option maxRecDepth 20000 in
theorem gX8_kinds_X8_areSo : GoodIn wsX8_kinds (wsV RX8 198 RX8 yX8_areSo wsX8_areSo) := goodIn_app (goodIn_of _ (by decide +kernel)) ggX8_kinds_X8_areSo
theorem dX8_kinds_0 : decode cX8_kinds 0 = .ok (.aload_n 0, 1) := by decide +kernel
theorem dX8_kinds_1 : decode cX8_kinds 1 = .ok (.iload_n 1, 1) := by decide +kernel
theorem dX8_kinds_2 : decode cX8_kinds 2 = .ok (.invokevirtual 142, 3) := by decide +kernel
theorem dX8_kinds_5 : decode cX8_kinds 5 = .ok (.ifCond .ne 5, 3) := by decide +kernel
theorem dX8_kinds_8 : decode cX8_kinds 8 = .ok (.iconst (-1), 1) := by decide +kernel
theorem dX8_kinds_9 : decode cX8_kinds 9 = .ok (.ireturn, 1) := by decide +kernel
theorem dX8_kinds_10 : decode cX8_kinds 10 = .ok (.aload_n 0, 1) := by decide +kernel
theorem dX8_kinds_11 : decode cX8_kinds 11 = .ok (.getfield 22, 3) := by decide +kernel
theorem dX8_kinds_14 : decode cX8_kinds 14 = .ok (.iload_n 1, 1) := by decide +kernel
theorem dX8_kinds_15 : decode cX8_kinds 15 = .ok (.iaload, 1) := by decide +kernel
theorem dX8_kinds_16 : decode cX8_kinds 16 = .ok (.istore_n 2, 1) := by decide +kernel
theorem dX8_kinds_17 : decode cX8_kinds 17 = .ok (.iconst 0, 1) := by decide +kernel
theorem dX8_kinds_18 : decode cX8_kinds 18 = .ok (.istore_n 3, 1) := by decide +kernel
theorem dX8_kinds_19 : decode cX8_kinds 19 = .ok (.iconst 0, 1) := by decide +kernel
theorem dX8_kinds_20 : decode cX8_kinds 20 = .ok (.istore 4, 2) := by decide +kernel
theorem dX8_kinds_22 : decode cX8_kinds 22 = .ok (.iload 4, 2) := by decide +kernel
theorem dX8_kinds_24 : decode cX8_kinds 24 = .ok (.iconst 3, 1) := by decide +kernel
theorem dX8_kinds_25 : decode cX8_kinds 25 = .ok (.if_icmp .ge 35, 3) := by decide +kernel
theorem dX8_kinds_28 : decode cX8_kinds 28 = .ok (.aload_n 0, 1) := by decide +kernel
theorem dX8_kinds_29 : decode cX8_kinds 29 = .ok (.getfield 22, 3) := by decide +kernel
theorem dX8_kinds_32 : decode cX8_kinds 32 = .ok (.iload_n 1, 1) := by decide +kernel
theorem dX8_kinds_33 : decode cX8_kinds 33 = .ok (.iload 4, 2) := by decide +kernel
theorem dX8_kinds_35 : decode cX8_kinds 35 = .ok (.iastore, 1) := by decide +kernel
theorem dX8_kinds_36 : decode cX8_kinds 36 = .ok (.iload_n 3, 1) := by decide +kernel
theorem dX8_kinds_37 : decode cX8_kinds 37 = .ok (.aload_n 0, 1) := by decide +kernel
theorem dX8_kinds_38 : decode cX8_kinds 38 = .ok (.invokevirtual 198, 3) := by decide +kernel
theorem dX8_kinds_41 : decode cX8_kinds 41 = .ok (.ifCond .eq 10, 3) := by decide +kernel
theorem dX8_kinds_44 : decode cX8_kinds 44 = .ok (.iconst 1, 1) := by decide +kernel
theorem dX8_kinds_45 : decode cX8_kinds 45 = .ok (.iload 4, 2) := by decide +kernel
theorem dX8_kinds_47 : decode cX8_kinds 47 = .ok (.ishl, 1) := by decide +kernel
theorem dX8_kinds_48 : decode cX8_kinds 48 = .ok (.goto 4, 3) := by decide +kernel
theorem dX8_kinds_51 : decode cX8_kinds 51 = .ok (.iconst 0, 1) := by decide +kernel
theorem dX8_kinds_52 : decode cX8_kinds 52 = .ok (.ior, 1) := by decide +kernel
theorem dX8_kinds_53 : decode cX8_kinds 53 = .ok (.istore_n 3, 1) := by decide +kernel
theorem dX8_kinds_54 : decode cX8_kinds 54 = .ok (.iinc 4 1, 3) := by decide +kernel
theorem dX8_kinds_57 : decode cX8_kinds 57 = .ok (.goto (-35), 3) := by decide +kernel
theorem dX8_kinds_60 : decode cX8_kinds 60 = .ok (.aload_n 0, 1) := by decide +kernel
theorem dX8_kinds_61 : decode cX8_kinds 61 = .ok (.getfield 22, 3) := by decide +kernel
theorem dX8_kinds_64 : decode cX8_kinds 64 = .ok (.iload_n 1, 1) := by decide +kernel
theorem dX8_kinds_65 : decode cX8_kinds 65 = .ok (.iload_n 2, 1) := by decide +kernel
theorem dX8_kinds_66 : decode cX8_kinds 66 = .ok (.iastore, 1) := by decide +kernel
theorem dX8_kinds_67 : decode cX8_kinds 67 = .ok (.iload_n 3, 1) := by decide +kernel
theorem dX8_kinds_68 : decode cX8_kinds 68 = .ok (.ireturn, 1) := by decide +kernel
set_option maxRecDepth 20000 in
theorem ggX8_wheres_X8_within : GoodIn wsX8_wheres wsX8_within := goodIn_r _ [7] (by decide +kernel) (by decide +kernel)
set_option maxRecDepth 20000 in
theorem gX8_wheres_X8_within : GoodIn wsX8_wheres (va_wsS RX8 70 yX8_within wsX8_within) := goodIn_app (goodIn_of _ (by decide +kernel)) ggX8_wheres_X8_within
set_option maxRecDepth 20000 in
theorem ggX8_wheres_X8_areSo : GoodIn wsX8_wheres wsX8_areSo := goodIn_r _ [11, 12, 13, 14, 15, 16, 17, 6, 18, 3, 19, 20, 21, 22, 23, 24, 25, 26, 1, 27, 28, 29, 30, 31, 32, 33, 34, 35, 36, 37, 38, 39, 40, 41, 42, 43, 44, 45, 46, 47, 48, 49, 50, 51, 52, 53, 54, 55, 56, 57, 58, 59, 60, 61, 62, 63, 64, 65, 66, 67] (by decide +kernel) (by decide +kernel)
set_option maxRecDepth 20000 in
theorem gX8_wheres_X8_areSo : GoodIn wsX8_wheres (wsV RX8 198 RX8 yX8_areSo wsX8_areSo) := goodIn_app (goodIn_of _ (by decide +kernel)) ggX8_wheres_X8_areSo
theorem dX8_wheres_0 : decode cX8_wheres 0 = .ok (.iload_n 1, 1) := by decide +kernel
theorem dX8_wheres_1 : decode cX8_wheres 1 = .ok (.iconst 0, 1) := by decide +kernel
theorem dX8_wheres_2 : decode cX8_wheres 2 = .ok (.iconst 1, 1) := by decide +kernel
theorem dX8_wheres_3 : decode cX8_wheres 3 = .ok (.invokestatic 70, 3) := by decide +kernel
theorem dX8_wheres_6 : decode cX8_wheres 6 = .ok (.ifCond .eq 10, 3) := by decide +kernel
theorem dX8_wheres_9 : decode cX8_wheres 9 = .ok (.aload_n 0, 1) := by decide +kernel
theorem dX8_wheres_10 : decode cX8_wheres 10 = .ok (.getfield 74, 3) := by decide +kernel
theorem dX8_wheres_13 : decode cX8_wheres 13 = .ok (.ifCond .ne 7, 3) := by decide +kernel
theorem dX8_wheres_16 : decode cX8_wheres 16 = .ok (.ldc2_w 68, 3) := by decide +kernel
theorem dX8_wheres_19 : decode cX8_wheres 19 = .ok (.lreturn, 1) := by decide +kernel
theorem dX8_wheres_20 : decode cX8_wheres 20 = .ok (.aload_n 0, 1) := by decide +kernel
theorem dX8_wheres_21 : decode cX8_wheres 21 = .ok (.getfield 107, 3) := by decide +kernel
theorem dX8_wheres_24 : decode cX8_wheres 24 = .ok (.istore_n 2, 1) := by decide +kernel
theorem dX8_wheres_25 : decode cX8_wheres 25 = .ok (.lconst 0, 1) := by decide +kernel
theorem dX8_wheres_26 : decode cX8_wheres 26 = .ok (.lstore_n 3, 1) := by decide +kernel
theorem dX8_wheres_27 : decode cX8_wheres 27 = .ok (.iconst 0, 1) := by decide +kernel
theorem dX8_wheres_28 : decode cX8_wheres 28 = .ok (.istore 5, 2) := by decide +kernel
theorem dX8_wheres_30 : decode cX8_wheres 30 = .ok (.iload 5, 2) := by decide +kernel
theorem dX8_wheres_32 : decode cX8_wheres 32 = .ok (.bipush 32, 2) := by decide +kernel
theorem dX8_wheres_34 : decode cX8_wheres 34 = .ok (.if_icmp .ge 38, 3) := by decide +kernel
theorem dX8_wheres_37 : decode cX8_wheres 37 = .ok (.aload_n 0, 1) := by decide +kernel
theorem dX8_wheres_38 : decode cX8_wheres 38 = .ok (.bipush 32, 2) := by decide +kernel
theorem dX8_wheres_40 : decode cX8_wheres 40 = .ok (.iload_n 1, 1) := by decide +kernel
theorem dX8_wheres_41 : decode cX8_wheres 41 = .ok (.imul, 1) := by decide +kernel
theorem dX8_wheres_42 : decode cX8_wheres 42 = .ok (.iload 5, 2) := by decide +kernel
theorem dX8_wheres_44 : decode cX8_wheres 44 = .ok (.iadd, 1) := by decide +kernel
theorem dX8_wheres_45 : decode cX8_wheres 45 = .ok (.putfield 107, 3) := by decide +kernel
theorem dX8_wheres_48 : decode cX8_wheres 48 = .ok (.lload_n 3, 1) := by decide +kernel
theorem dX8_wheres_49 : decode cX8_wheres 49 = .ok (.aload_n 0, 1) := by decide +kernel
theorem dX8_wheres_50 : decode cX8_wheres 50 = .ok (.invokevirtual 198, 3) := by decide +kernel
theorem dX8_wheres_53 : decode cX8_wheres 53 = .ok (.ifCond .eq 10, 3) := by decide +kernel
theorem dX8_wheres_56 : decode cX8_wheres 56 = .ok (.lconst 1, 1) := by decide +kernel
theorem dX8_wheres_57 : decode cX8_wheres 57 = .ok (.iload 5, 2) := by decide +kernel
theorem dX8_wheres_59 : decode cX8_wheres 59 = .ok (.lshl, 1) := by decide +kernel
theorem dX8_wheres_60 : decode cX8_wheres 60 = .ok (.goto 4, 3) := by decide +kernel
theorem dX8_wheres_63 : decode cX8_wheres 63 = .ok (.lconst 0, 1) := by decide +kernel
theorem dX8_wheres_64 : decode cX8_wheres 64 = .ok (.lor, 1) := by decide +kernel
theorem dX8_wheres_65 : decode cX8_wheres 65 = .ok (.lstore_n 3, 1) := by decide +kernel
theorem dX8_wheres_66 : decode cX8_wheres 66 = .ok (.iinc 5 1, 3) := by decide +kernel
theorem dX8_wheres_69 : decode cX8_wheres 69 = .ok (.goto (-39), 3) := by decide +kernel
theorem dX8_wheres_72 : decode cX8_wheres 72 = .ok (.aload_n 0, 1) := by decide +kernel
theorem dX8_wheres_73 : decode cX8_wheres 73 = .ok (.iload_n 2, 1) := by decide +kernel
theorem dX8_wheres_74 : decode cX8_wheres 74 = .ok (.putfield 107, 3) := by decide +kernel
theorem dX8_wheres_77 : decode cX8_wheres 77 = .ok (.lload_n 3, 1) := by decide +kernel
theorem dX8_wheres_78 : decode cX8_wheres 78 = .ok (.lreturn, 1) := by decide +kernel
theorem dX8_inLeastTerms_0 : decode cX8_inLeastTerms 0 = .ok (.lload_n 0, 1) := by decide +kernel
theorem dX8_inLeastTerms_1 : decode cX8_inLeastTerms 1 = .ok (.lstore 5, 2) := by decide +kernel
theorem dX8_inLeastTerms_3 : decode cX8_inLeastTerms 3 = .ok (.lload_n 2, 1) := by decide +kernel
theorem dX8_inLeastTerms_4 : decode cX8_inLeastTerms 4 = .ok (.lstore 7, 2) := by decide +kernel
theorem dX8_inLeastTerms_6 : decode cX8_inLeastTerms 6 = .ok (.lload 7, 2) := by decide +kernel
theorem dX8_inLeastTerms_8 : decode cX8_inLeastTerms 8 = .ok (.lconst 0, 1) := by decide +kernel
theorem dX8_inLeastTerms_9 : decode cX8_inLeastTerms 9 = .ok (.lcmp, 1) := by decide +kernel
theorem dX8_inLeastTerms_10 : decode cX8_inLeastTerms 10 = .ok (.ifCond .eq 21, 3) := by decide +kernel
theorem dX8_inLeastTerms_13 : decode cX8_inLeastTerms 13 = .ok (.lload 5, 2) := by decide +kernel
theorem dX8_inLeastTerms_15 : decode cX8_inLeastTerms 15 = .ok (.lload 7, 2) := by decide +kernel
theorem dX8_inLeastTerms_17 : decode cX8_inLeastTerms 17 = .ok (.lrem, 1) := by decide +kernel
theorem dX8_inLeastTerms_18 : decode cX8_inLeastTerms 18 = .ok (.lstore 9, 2) := by decide +kernel
theorem dX8_inLeastTerms_20 : decode cX8_inLeastTerms 20 = .ok (.lload 7, 2) := by decide +kernel
theorem dX8_inLeastTerms_22 : decode cX8_inLeastTerms 22 = .ok (.lstore 5, 2) := by decide +kernel
theorem dX8_inLeastTerms_24 : decode cX8_inLeastTerms 24 = .ok (.lload 9, 2) := by decide +kernel
theorem dX8_inLeastTerms_26 : decode cX8_inLeastTerms 26 = .ok (.lstore 7, 2) := by decide +kernel
theorem dX8_inLeastTerms_28 : decode cX8_inLeastTerms 28 = .ok (.goto (-22), 3) := by decide +kernel
theorem dX8_inLeastTerms_31 : decode cX8_inLeastTerms 31 = .ok (.iload 4, 2) := by decide +kernel
theorem dX8_inLeastTerms_33 : decode cX8_inLeastTerms 33 = .ok (.ifCond .ne 10, 3) := by decide +kernel
theorem dX8_inLeastTerms_36 : decode cX8_inLeastTerms 36 = .ok (.lload_n 0, 1) := by decide +kernel
theorem dX8_inLeastTerms_37 : decode cX8_inLeastTerms 37 = .ok (.lload 5, 2) := by decide +kernel
theorem dX8_inLeastTerms_39 : decode cX8_inLeastTerms 39 = .ok (.ldiv, 1) := by decide +kernel
theorem dX8_inLeastTerms_40 : decode cX8_inLeastTerms 40 = .ok (.goto 7, 3) := by decide +kernel
theorem dX8_inLeastTerms_43 : decode cX8_inLeastTerms 43 = .ok (.lload_n 2, 1) := by decide +kernel
theorem dX8_inLeastTerms_44 : decode cX8_inLeastTerms 44 = .ok (.lload 5, 2) := by decide +kernel
theorem dX8_inLeastTerms_46 : decode cX8_inLeastTerms 46 = .ok (.ldiv, 1) := by decide +kernel
theorem dX8_inLeastTerms_47 : decode cX8_inLeastTerms 47 = .ok (.lreturn, 1) := by decide +kernel
set_option maxRecDepth 20000 in
theorem ggX8_odds_X8_isArticle : GoodIn wsX8_odds wsX8_isArticle := goodIn_r _ [8, 3, 33, 34, 35, 36, 37, 38, 39, 40, 41, 42, 43, 44, 45, 46, 47, 48, 49, 50, 51, 52, 53, 54, 55, 56, 57, 58, 59, 60, 61, 62, 63, 64] (by decide +kernel) (by decide +kernel)
set_option maxRecDepth 20000 in
theorem gX8_odds_X8_isArticle : GoodIn wsX8_odds (wsV RX8 142 RX8 yX8_isArticle wsX8_isArticle) := goodIn_app (goodIn_of _ (by decide +kernel)) ggX8_odds_X8_isArticle
set_option maxRecDepth 20000 in
theorem ggX8_odds_X8_within : GoodIn wsX8_odds wsX8_within := goodIn_r _ [11] (by decide +kernel) (by decide +kernel)
set_option maxRecDepth 20000 in
theorem gX8_odds_X8_within : GoodIn wsX8_odds (va_wsS RX8 70 yX8_within wsX8_within) := goodIn_app (goodIn_of _ (by decide +kernel)) ggX8_odds_X8_within
set_option maxRecDepth 20000 in
theorem ggX8_odds_X8_isOf : GoodIn wsX8_odds wsX8_isOf := goodIn_r _ [14] (by decide +kernel) (by decide +kernel)
set_option maxRecDepth 20000 in
theorem gX8_odds_X8_isOf : GoodIn wsX8_odds (va_wsS RX8 136 yX8_isOf wsX8_isOf) := goodIn_app (goodIn_of _ (by decide +kernel)) ggX8_odds_X8_isOf
set_option maxRecDepth 20000 in
theorem ggX8_odds_X8_companyOf : GoodIn wsX8_odds wsX8_companyOf := goodIn_r _ [18, 3, 19, 20, 21, 22, 7, 23, 12, 13, 14, 24, 25, 26, 27, 28, 29, 33, 34, 35, 36, 37, 38, 39, 40, 41, 42, 43, 44, 45, 46, 47, 48, 49, 50, 51, 52, 53, 54, 55, 56, 57, 58, 59, 60, 61, 62, 63, 64] (by decide +kernel) (by decide +kernel)
set_option maxRecDepth 20000 in
theorem gX8_odds_X8_companyOf : GoodIn wsX8_odds (wsV RX8 157 RX8 yX8_companyOf wsX8_companyOf) := goodIn_app (goodIn_of _ (by decide +kernel)) ggX8_odds_X8_companyOf
set_option maxRecDepth 20000 in
theorem ggX8_odds_X8_inLeastTerms : GoodIn wsX8_odds wsX8_inLeastTerms := goodIn_r _ [32] (by decide +kernel) (by decide +kernel)
set_option maxRecDepth 20000 in
theorem gX8_odds_X8_inLeastTerms : GoodIn wsX8_odds (va_wsS RX8 202 yX8_inLeastTerms wsX8_inLeastTerms) := goodIn_app (goodIn_of _ (by decide +kernel)) ggX8_odds_X8_inLeastTerms
theorem dX8_odds_0 : decode cX8_odds 0 = .ok (.aload_n 0, 1) := by decide +kernel
theorem dX8_odds_1 : decode cX8_odds 1 = .ok (.iload_n 1, 1) := by decide +kernel
theorem dX8_odds_2 : decode cX8_odds 2 = .ok (.invokevirtual 142, 3) := by decide +kernel
theorem dX8_odds_5 : decode cX8_odds 5 = .ok (.ifCond .eq 23, 3) := by decide +kernel
theorem dX8_odds_8 : decode cX8_odds 8 = .ok (.iload_n 2, 1) := by decide +kernel
theorem dX8_odds_9 : decode cX8_odds 9 = .ok (.iconst 0, 1) := by decide +kernel
theorem dX8_odds_10 : decode cX8_odds 10 = .ok (.iconst 1, 1) := by decide +kernel
theorem dX8_odds_11 : decode cX8_odds 11 = .ok (.invokestatic 70, 3) := by decide +kernel
theorem dX8_odds_14 : decode cX8_odds 14 = .ok (.ifCond .eq 14, 3) := by decide +kernel
theorem dX8_odds_17 : decode cX8_odds 17 = .ok (.aload_n 0, 1) := by decide +kernel
theorem dX8_odds_18 : decode cX8_odds 18 = .ok (.getfield 116, 3) := by decide +kernel
theorem dX8_odds_21 : decode cX8_odds 21 = .ok (.iload_n 1, 1) := by decide +kernel
theorem dX8_odds_22 : decode cX8_odds 22 = .ok (.invokestatic 136, 3) := by decide +kernel
theorem dX8_odds_25 : decode cX8_odds 25 = .ok (.ifCond .ne 7, 3) := by decide +kernel
theorem dX8_odds_28 : decode cX8_odds 28 = .ok (.ldc2_w 68, 3) := by decide +kernel
theorem dX8_odds_31 : decode cX8_odds 31 = .ok (.lreturn, 1) := by decide +kernel
theorem dX8_odds_32 : decode cX8_odds 32 = .ok (.iconst 0, 1) := by decide +kernel
theorem dX8_odds_33 : decode cX8_odds 33 = .ok (.istore_n 3, 1) := by decide +kernel
theorem dX8_odds_34 : decode cX8_odds 34 = .ok (.iconst 0, 1) := by decide +kernel
theorem dX8_odds_35 : decode cX8_odds 35 = .ok (.istore 4, 2) := by decide +kernel
theorem dX8_odds_37 : decode cX8_odds 37 = .ok (.iconst 0, 1) := by decide +kernel
theorem dX8_odds_38 : decode cX8_odds 38 = .ok (.istore 5, 2) := by decide +kernel
theorem dX8_odds_40 : decode cX8_odds 40 = .ok (.iload 5, 2) := by decide +kernel
theorem dX8_odds_42 : decode cX8_odds 42 = .ok (.iconst 1, 1) := by decide +kernel
theorem dX8_odds_43 : decode cX8_odds 43 = .ok (.aload_n 0, 1) := by decide +kernel
theorem dX8_odds_44 : decode cX8_odds 44 = .ok (.getfield 74, 3) := by decide +kernel
theorem dX8_odds_47 : decode cX8_odds 47 = .ok (.ishl, 1) := by decide +kernel
theorem dX8_odds_48 : decode cX8_odds 48 = .ok (.if_icmp .ge 52, 3) := by decide +kernel
theorem dX8_odds_51 : decode cX8_odds 51 = .ok (.iload 5, 2) := by decide +kernel
theorem dX8_odds_53 : decode cX8_odds 53 = .ok (.aload_n 0, 1) := by decide +kernel
theorem dX8_odds_54 : decode cX8_odds 54 = .ok (.getfield 116, 3) := by decide +kernel
theorem dX8_odds_57 : decode cX8_odds 57 = .ok (.iconst (-1), 1) := by decide +kernel
theorem dX8_odds_58 : decode cX8_odds 58 = .ok (.ixor, 1) := by decide +kernel
theorem dX8_odds_59 : decode cX8_odds 59 = .ok (.iand, 1) := by decide +kernel
theorem dX8_odds_60 : decode cX8_odds 60 = .ok (.ifCond .ne 34, 3) := by decide +kernel
theorem dX8_odds_63 : decode cX8_odds 63 = .ok (.iinc 4 1, 3) := by decide +kernel
theorem dX8_odds_66 : decode cX8_odds 66 = .ok (.iload_n 3, 1) := by decide +kernel
theorem dX8_odds_67 : decode cX8_odds 67 = .ok (.aload_n 0, 1) := by decide +kernel
theorem dX8_odds_68 : decode cX8_odds 68 = .ok (.aload_n 0, 1) := by decide +kernel
theorem dX8_odds_69 : decode cX8_odds 69 = .ok (.getfield 116, 3) := by decide +kernel
theorem dX8_odds_72 : decode cX8_odds 72 = .ok (.iload 5, 2) := by decide +kernel
theorem dX8_odds_74 : decode cX8_odds 74 = .ok (.iconst (-1), 1) := by decide +kernel
theorem dX8_odds_75 : decode cX8_odds 75 = .ok (.ixor, 1) := by decide +kernel
theorem dX8_odds_76 : decode cX8_odds 76 = .ok (.iand, 1) := by decide +kernel
theorem dX8_odds_77 : decode cX8_odds 77 = .ok (.invokevirtual 157, 3) := by decide +kernel
theorem dX8_odds_80 : decode cX8_odds 80 = .ok (.iload_n 1, 1) := by decide +kernel
theorem dX8_odds_81 : decode cX8_odds 81 = .ok (.invokestatic 136, 3) := by decide +kernel
theorem dX8_odds_84 : decode cX8_odds 84 = .ok (.ifCond .eq 7, 3) := by decide +kernel
theorem dX8_odds_87 : decode cX8_odds 87 = .ok (.iconst 1, 1) := by decide +kernel
theorem dX8_odds_88 : decode cX8_odds 88 = .ok (.goto 4, 3) := by decide +kernel
theorem dX8_odds_91 : decode cX8_odds 91 = .ok (.iconst 0, 1) := by decide +kernel
theorem dX8_odds_92 : decode cX8_odds 92 = .ok (.iadd, 1) := by decide +kernel
theorem dX8_odds_93 : decode cX8_odds 93 = .ok (.istore_n 3, 1) := by decide +kernel
theorem dX8_odds_94 : decode cX8_odds 94 = .ok (.iinc 5 1, 3) := by decide +kernel
theorem dX8_odds_97 : decode cX8_odds 97 = .ok (.goto (-57), 3) := by decide +kernel
theorem dX8_odds_100 : decode cX8_odds 100 = .ok (.iload_n 3, 1) := by decide +kernel
theorem dX8_odds_101 : decode cX8_odds 101 = .ok (.i2l, 1) := by decide +kernel
theorem dX8_odds_102 : decode cX8_odds 102 = .ok (.iload 4, 2) := by decide +kernel
theorem dX8_odds_104 : decode cX8_odds 104 = .ok (.i2l, 1) := by decide +kernel
theorem dX8_odds_105 : decode cX8_odds 105 = .ok (.iload_n 2, 1) := by decide +kernel
theorem dX8_odds_106 : decode cX8_odds 106 = .ok (.invokestatic 202, 3) := by decide +kernel
theorem dX8_odds_109 : decode cX8_odds 109 = .ok (.lreturn, 1) := by decide +kernel
set_option maxRecDepth 20000 in
theorem ggX8_sheet_X8_isSheet : GoodIn wsX8_sheet wsX8_isSheet := goodIn_r _ [8, 9, 10, 7, 11] (by decide +kernel) (by decide +kernel)
set_option maxRecDepth 20000 in
theorem gX8_sheet_X8_isSheet : GoodIn wsX8_sheet (va_wsS RX8 83 yX8_isSheet wsX8_isSheet) := goodIn_app (goodIn_of _ (by decide +kernel)) ggX8_sheet_X8_isSheet
set_option maxRecDepth 20000 in
theorem ggX8_sheet_X8_isSort : GoodIn wsX8_sheet wsX8_isSort := goodIn_r _ [14, 9, 10, 7, 11] (by decide +kernel) (by decide +kernel)
set_option maxRecDepth 20000 in
theorem gX8_sheet_X8_isSort : GoodIn wsX8_sheet (va_wsS RX8 87 yX8_isSort wsX8_isSort) := goodIn_app (goodIn_of _ (by decide +kernel)) ggX8_sheet_X8_isSort
set_option maxRecDepth 20000 in
theorem ggX8_sheet_X8_fails : GoodIn wsX8_sheet wsX8_fails := goodIn_r _ [18, 1, 19, 20, 21, 22, 23, 24, 25, 26, 27, 28, 29, 30, 31, 32, 33, 34, 35, 36, 37, 38, 39, 40, 41, 42, 43, 44, 45, 46, 47, 48, 49, 50] (by decide +kernel) (by decide +kernel)
set_option maxRecDepth 20000 in
theorem gX8_sheet_X8_fails : GoodIn wsX8_sheet (wsV RX8 94 RX8 yX8_fails wsX8_fails) := goodIn_app (goodIn_of _ (by decide +kernel)) ggX8_sheet_X8_fails
theorem dX8_sheet_0 : decode cX8_sheet 0 = .ok (.aload_n 0, 1) := by decide +kernel
theorem dX8_sheet_1 : decode cX8_sheet 1 = .ok (.iconst 0, 1) := by decide +kernel
theorem dX8_sheet_2 : decode cX8_sheet 2 = .ok (.putfield 64, 3) := by decide +kernel
theorem dX8_sheet_5 : decode cX8_sheet 5 = .ok (.iload_n 1, 1) := by decide +kernel
theorem dX8_sheet_6 : decode cX8_sheet 6 = .ok (.invokestatic 83, 3) := by decide +kernel
theorem dX8_sheet_9 : decode cX8_sheet 9 = .ok (.ifCond .ne 5, 3) := by decide +kernel
theorem dX8_sheet_12 : decode cX8_sheet 12 = .ok (.iconst (-1), 1) := by decide +kernel
theorem dX8_sheet_13 : decode cX8_sheet 13 = .ok (.ireturn, 1) := by decide +kernel
theorem dX8_sheet_14 : decode cX8_sheet 14 = .ok (.iload_n 2, 1) := by decide +kernel
theorem dX8_sheet_15 : decode cX8_sheet 15 = .ok (.invokestatic 87, 3) := by decide +kernel
theorem dX8_sheet_18 : decode cX8_sheet 18 = .ok (.ifCond .eq 9, 3) := by decide +kernel
theorem dX8_sheet_21 : decode cX8_sheet 21 = .ok (.iload_n 3, 1) := by decide +kernel
theorem dX8_sheet_22 : decode cX8_sheet 22 = .ok (.bipush 60, 2) := by decide +kernel
theorem dX8_sheet_24 : decode cX8_sheet 24 = .ok (.if_icmp .le 6, 3) := by decide +kernel
theorem dX8_sheet_27 : decode cX8_sheet 27 = .ok (.bipush (-2), 2) := by decide +kernel
theorem dX8_sheet_29 : decode cX8_sheet 29 = .ok (.ireturn, 1) := by decide +kernel
theorem dX8_sheet_30 : decode cX8_sheet 30 = .ok (.iload_n 3, 1) := by decide +kernel
theorem dX8_sheet_31 : decode cX8_sheet 31 = .ok (.ifCond .ge 9, 3) := by decide +kernel
theorem dX8_sheet_34 : decode cX8_sheet 34 = .ok (.aload_n 0, 1) := by decide +kernel
theorem dX8_sheet_35 : decode cX8_sheet 35 = .ok (.iconst 4, 1) := by decide +kernel
theorem dX8_sheet_36 : decode cX8_sheet 36 = .ok (.invokevirtual 94, 3) := by decide +kernel
theorem dX8_sheet_39 : decode cX8_sheet 39 = .ok (.ireturn, 1) := by decide +kernel
theorem dX8_sheet_40 : decode cX8_sheet 40 = .ok (.aload_n 0, 1) := by decide +kernel
theorem dX8_sheet_41 : decode cX8_sheet 41 = .ok (.getfield 9, 3) := by decide +kernel
theorem dX8_sheet_44 : decode cX8_sheet 44 = .ok (.iload_n 1, 1) := by decide +kernel
theorem dX8_sheet_45 : decode cX8_sheet 45 = .ok (.iload_n 2, 1) := by decide +kernel
theorem dX8_sheet_46 : decode cX8_sheet 46 = .ok (.iastore, 1) := by decide +kernel
theorem dX8_sheet_47 : decode cX8_sheet 47 = .ok (.aload_n 0, 1) := by decide +kernel
theorem dX8_sheet_48 : decode cX8_sheet 48 = .ok (.getfield 13, 3) := by decide +kernel
theorem dX8_sheet_51 : decode cX8_sheet 51 = .ok (.iload_n 1, 1) := by decide +kernel
theorem dX8_sheet_52 : decode cX8_sheet 52 = .ok (.iload_n 3, 1) := by decide +kernel
theorem dX8_sheet_53 : decode cX8_sheet 53 = .ok (.iastore, 1) := by decide +kernel
theorem dX8_sheet_54 : decode cX8_sheet 54 = .ok (.iconst 0, 1) := by decide +kernel
theorem dX8_sheet_55 : decode cX8_sheet 55 = .ok (.istore 4, 2) := by decide +kernel
theorem dX8_sheet_57 : decode cX8_sheet 57 = .ok (.iload 4, 2) := by decide +kernel
theorem dX8_sheet_59 : decode cX8_sheet 59 = .ok (.bipush 60, 2) := by decide +kernel
theorem dX8_sheet_61 : decode cX8_sheet 61 = .ok (.if_icmp .ge 22, 3) := by decide +kernel
theorem dX8_sheet_64 : decode cX8_sheet 64 = .ok (.aload_n 0, 1) := by decide +kernel
theorem dX8_sheet_65 : decode cX8_sheet 65 = .ok (.getfield 16, 3) := by decide +kernel
theorem dX8_sheet_68 : decode cX8_sheet 68 = .ok (.bipush 60, 2) := by decide +kernel
theorem dX8_sheet_70 : decode cX8_sheet 70 = .ok (.iload_n 1, 1) := by decide +kernel
theorem dX8_sheet_71 : decode cX8_sheet 71 = .ok (.imul, 1) := by decide +kernel
theorem dX8_sheet_72 : decode cX8_sheet 72 = .ok (.iload 4, 2) := by decide +kernel
theorem dX8_sheet_74 : decode cX8_sheet 74 = .ok (.iadd, 1) := by decide +kernel
theorem dX8_sheet_75 : decode cX8_sheet 75 = .ok (.iconst 0, 1) := by decide +kernel
theorem dX8_sheet_76 : decode cX8_sheet 76 = .ok (.iastore, 1) := by decide +kernel
theorem dX8_sheet_77 : decode cX8_sheet 77 = .ok (.iinc 4 1, 3) := by decide +kernel
theorem dX8_sheet_80 : decode cX8_sheet 80 = .ok (.goto (-23), 3) := by decide +kernel
theorem dX8_sheet_83 : decode cX8_sheet 83 = .ok (.iconst 1, 1) := by decide +kernel
theorem dX8_sheet_84 : decode cX8_sheet 84 = .ok (.ireturn, 1) := by decide +kernel
set_option maxRecDepth 20000 in
theorem ggX8_lose_X8_isSheet : GoodIn wsX8_lose wsX8_isSheet := goodIn_r _ [5, 6, 7, 4, 8] (by decide +kernel) (by decide +kernel)
set_option maxRecDepth 20000 in
theorem gX8_lose_X8_isSheet : GoodIn wsX8_lose (va_wsS RX8 83 yX8_isSheet wsX8_isSheet) := goodIn_app (goodIn_of _ (by decide +kernel)) ggX8_lose_X8_isSheet
theorem dX8_lose_0 : decode cX8_lose 0 = .ok (.iload_n 1, 1) := by decide +kernel
theorem dX8_lose_1 : decode cX8_lose 1 = .ok (.invokestatic 83, 3) := by decide +kernel
theorem dX8_lose_4 : decode cX8_lose 4 = .ok (.ifCond .ne 5, 3) := by decide +kernel
theorem dX8_lose_7 : decode cX8_lose 7 = .ok (.iconst (-1), 1) := by decide +kernel
theorem dX8_lose_8 : decode cX8_lose 8 = .ok (.ireturn, 1) := by decide +kernel
theorem dX8_lose_9 : decode cX8_lose 9 = .ok (.aload_n 0, 1) := by decide +kernel
theorem dX8_lose_10 : decode cX8_lose 10 = .ok (.getfield 9, 3) := by decide +kernel
theorem dX8_lose_13 : decode cX8_lose 13 = .ok (.iload_n 1, 1) := by decide +kernel
theorem dX8_lose_14 : decode cX8_lose 14 = .ok (.iaload, 1) := by decide +kernel
theorem dX8_lose_15 : decode cX8_lose 15 = .ok (.bipush (-9), 2) := by decide +kernel
theorem dX8_lose_17 : decode cX8_lose 17 = .ok (.if_icmp .ne 7, 3) := by decide +kernel
theorem dX8_lose_20 : decode cX8_lose 20 = .ok (.iconst 0, 1) := by decide +kernel
theorem dX8_lose_21 : decode cX8_lose 21 = .ok (.goto 4, 3) := by decide +kernel
theorem dX8_lose_24 : decode cX8_lose 24 = .ok (.iconst 1, 1) := by decide +kernel
theorem dX8_lose_25 : decode cX8_lose 25 = .ok (.istore_n 2, 1) := by decide +kernel
theorem dX8_lose_26 : decode cX8_lose 26 = .ok (.aload_n 0, 1) := by decide +kernel
theorem dX8_lose_27 : decode cX8_lose 27 = .ok (.getfield 9, 3) := by decide +kernel
theorem dX8_lose_30 : decode cX8_lose 30 = .ok (.iload_n 1, 1) := by decide +kernel
theorem dX8_lose_31 : decode cX8_lose 31 = .ok (.bipush (-9), 2) := by decide +kernel
theorem dX8_lose_33 : decode cX8_lose 33 = .ok (.iastore, 1) := by decide +kernel
theorem dX8_lose_34 : decode cX8_lose 34 = .ok (.iload_n 2, 1) := by decide +kernel
theorem dX8_lose_35 : decode cX8_lose 35 = .ok (.ireturn, 1) := by decide +kernel
set_option maxRecDepth 20000 in
theorem ggX8_put_X8_isSheet : GoodIn wsX8_put wsX8_isSheet := goodIn_r _ [8, 9, 10, 7, 11] (by decide +kernel) (by decide +kernel)
set_option maxRecDepth 20000 in
theorem gX8_put_X8_isSheet : GoodIn wsX8_put (va_wsS RX8 83 yX8_isSheet wsX8_isSheet) := goodIn_app (goodIn_of _ (by decide +kernel)) ggX8_put_X8_isSheet
set_option maxRecDepth 20000 in
theorem ggX8_put_X8_fails : GoodIn wsX8_put wsX8_fails := goodIn_r _ [15, 1, 16, 17, 18, 19, 20, 21, 22, 23, 24, 25, 26, 27, 28, 29, 30, 31, 32, 33, 34, 35, 36, 37, 38, 39, 40, 41, 42, 43, 44, 45, 46, 47] (by decide +kernel) (by decide +kernel)
set_option maxRecDepth 20000 in
theorem gX8_put_X8_fails : GoodIn wsX8_put (wsV RX8 94 RX8 yX8_fails wsX8_fails) := goodIn_app (goodIn_of _ (by decide +kernel)) ggX8_put_X8_fails
set_option maxRecDepth 20000 in
theorem ggX8_put_X8_within : GoodIn wsX8_put wsX8_within := goodIn_r _ [11] (by decide +kernel) (by decide +kernel)
set_option maxRecDepth 20000 in
theorem gX8_put_X8_within : GoodIn wsX8_put (va_wsS RX8 70 yX8_within wsX8_within) := goodIn_app (goodIn_of _ (by decide +kernel)) ggX8_put_X8_within
theorem dX8_put_0 : decode cX8_put 0 = .ok (.aload_n 0, 1) := by decide +kernel
theorem dX8_put_1 : decode cX8_put 1 = .ok (.iconst 0, 1) := by decide +kernel
theorem dX8_put_2 : decode cX8_put 2 = .ok (.putfield 64, 3) := by decide +kernel
theorem dX8_put_5 : decode cX8_put 5 = .ok (.iload_n 1, 1) := by decide +kernel
theorem dX8_put_6 : decode cX8_put 6 = .ok (.invokestatic 83, 3) := by decide +kernel
theorem dX8_put_9 : decode cX8_put 9 = .ok (.ifCond .ne 5, 3) := by decide +kernel
theorem dX8_put_12 : decode cX8_put 12 = .ok (.iconst (-1), 1) := by decide +kernel
theorem dX8_put_13 : decode cX8_put 13 = .ok (.ireturn, 1) := by decide +kernel
theorem dX8_put_14 : decode cX8_put 14 = .ok (.aload_n 0, 1) := by decide +kernel
theorem dX8_put_15 : decode cX8_put 15 = .ok (.getfield 9, 3) := by decide +kernel
theorem dX8_put_18 : decode cX8_put 18 = .ok (.iload_n 1, 1) := by decide +kernel
theorem dX8_put_19 : decode cX8_put 19 = .ok (.iaload, 1) := by decide +kernel
theorem dX8_put_20 : decode cX8_put 20 = .ok (.bipush (-9), 2) := by decide +kernel
theorem dX8_put_22 : decode cX8_put 22 = .ok (.if_icmp .ne 9, 3) := by decide +kernel
theorem dX8_put_25 : decode cX8_put 25 = .ok (.aload_n 0, 1) := by decide +kernel
theorem dX8_put_26 : decode cX8_put 26 = .ok (.iconst 1, 1) := by decide +kernel
theorem dX8_put_27 : decode cX8_put 27 = .ok (.invokevirtual 94, 3) := by decide +kernel
theorem dX8_put_30 : decode cX8_put 30 = .ok (.ireturn, 1) := by decide +kernel
theorem dX8_put_31 : decode cX8_put 31 = .ok (.iload_n 2, 1) := by decide +kernel
theorem dX8_put_32 : decode cX8_put 32 = .ok (.iconst 0, 1) := by decide +kernel
theorem dX8_put_33 : decode cX8_put 33 = .ok (.aload_n 0, 1) := by decide +kernel
theorem dX8_put_34 : decode cX8_put 34 = .ok (.getfield 13, 3) := by decide +kernel
theorem dX8_put_37 : decode cX8_put 37 = .ok (.iload_n 1, 1) := by decide +kernel
theorem dX8_put_38 : decode cX8_put 38 = .ok (.iaload, 1) := by decide +kernel
theorem dX8_put_39 : decode cX8_put 39 = .ok (.iconst 1, 1) := by decide +kernel
theorem dX8_put_40 : decode cX8_put 40 = .ok (.isub, 1) := by decide +kernel
theorem dX8_put_41 : decode cX8_put 41 = .ok (.invokestatic 70, 3) := by decide +kernel
theorem dX8_put_44 : decode cX8_put 44 = .ok (.ifCond .ne 9, 3) := by decide +kernel
theorem dX8_put_47 : decode cX8_put 47 = .ok (.aload_n 0, 1) := by decide +kernel
theorem dX8_put_48 : decode cX8_put 48 = .ok (.iconst 3, 1) := by decide +kernel
theorem dX8_put_49 : decode cX8_put 49 = .ok (.invokevirtual 94, 3) := by decide +kernel
theorem dX8_put_52 : decode cX8_put 52 = .ok (.ireturn, 1) := by decide +kernel
theorem dX8_put_53 : decode cX8_put 53 = .ok (.aload_n 0, 1) := by decide +kernel
theorem dX8_put_54 : decode cX8_put 54 = .ok (.getfield 16, 3) := by decide +kernel
theorem dX8_put_57 : decode cX8_put 57 = .ok (.bipush 60, 2) := by decide +kernel
theorem dX8_put_59 : decode cX8_put 59 = .ok (.iload_n 1, 1) := by decide +kernel
theorem dX8_put_60 : decode cX8_put 60 = .ok (.imul, 1) := by decide +kernel
theorem dX8_put_61 : decode cX8_put 61 = .ok (.iload_n 2, 1) := by decide +kernel
theorem dX8_put_62 : decode cX8_put 62 = .ok (.iadd, 1) := by decide +kernel
theorem dX8_put_63 : decode cX8_put 63 = .ok (.aload_n 0, 1) := by decide +kernel
theorem dX8_put_64 : decode cX8_put 64 = .ok (.getfield 9, 3) := by decide +kernel
theorem dX8_put_67 : decode cX8_put 67 = .ok (.iload_n 1, 1) := by decide +kernel
theorem dX8_put_68 : decode cX8_put 68 = .ok (.iaload, 1) := by decide +kernel
theorem dX8_put_69 : decode cX8_put 69 = .ok (.ifCond .ne 8, 3) := by decide +kernel
theorem dX8_put_72 : decode cX8_put 72 = .ok (.iload_n 3, 1) := by decide +kernel
theorem dX8_put_73 : decode cX8_put 73 = .ok (.i2b, 1) := by decide +kernel
theorem dX8_put_74 : decode cX8_put 74 = .ok (.goto 19, 3) := by decide +kernel
theorem dX8_put_77 : decode cX8_put 77 = .ok (.aload_n 0, 1) := by decide +kernel
theorem dX8_put_78 : decode cX8_put 78 = .ok (.getfield 9, 3) := by decide +kernel
theorem dX8_put_81 : decode cX8_put 81 = .ok (.iload_n 1, 1) := by decide +kernel
theorem dX8_put_82 : decode cX8_put 82 = .ok (.iaload, 1) := by decide +kernel
theorem dX8_put_83 : decode cX8_put 83 = .ok (.iconst 1, 1) := by decide +kernel
theorem dX8_put_84 : decode cX8_put 84 = .ok (.if_icmp .ne 8, 3) := by decide +kernel
theorem dX8_put_87 : decode cX8_put 87 = .ok (.iload_n 3, 1) := by decide +kernel
theorem dX8_put_88 : decode cX8_put 88 = .ok (.i2s, 1) := by decide +kernel
theorem dX8_put_89 : decode cX8_put 89 = .ok (.goto 4, 3) := by decide +kernel
theorem dX8_put_92 : decode cX8_put 92 = .ok (.iload_n 3, 1) := by decide +kernel
theorem dX8_put_93 : decode cX8_put 93 = .ok (.iastore, 1) := by decide +kernel
theorem dX8_put_94 : decode cX8_put 94 = .ok (.iconst 1, 1) := by decide +kernel
theorem dX8_put_95 : decode cX8_put 95 = .ok (.ireturn, 1) := by decide +kernel
set_option maxRecDepth 20000 in
theorem ggX8_cell_X8_isSheet : GoodIn wsX8_cell wsX8_isSheet := goodIn_r _ [9, 10, 11, 8, 12] (by decide +kernel) (by decide +kernel)
set_option maxRecDepth 20000 in
theorem gX8_cell_X8_isSheet : GoodIn wsX8_cell (va_wsS RX8 83 yX8_isSheet wsX8_isSheet) := goodIn_app (goodIn_of _ (by decide +kernel)) ggX8_cell_X8_isSheet
set_option maxRecDepth 20000 in
theorem ggX8_cell_X8_isSort : GoodIn wsX8_cell wsX8_isSort := goodIn_r _ [15, 10, 11, 8, 12] (by decide +kernel) (by decide +kernel)
set_option maxRecDepth 20000 in
theorem gX8_cell_X8_isSort : GoodIn wsX8_cell (va_wsS RX8 87 yX8_isSort wsX8_isSort) := goodIn_app (goodIn_of _ (by decide +kernel)) ggX8_cell_X8_isSort
set_option maxRecDepth 20000 in
theorem ggX8_cell_X8_lost : GoodIn wsX8_cell wsX8_lost := goodIn_r _ [19, 1, 2, 20, 21, 22, 23, 24, 25, 26, 27, 28, 29, 30, 31, 32, 33, 34, 35, 36, 37, 38, 39, 40, 41, 42, 43, 44, 45, 46, 47, 48, 49, 50, 51] (by decide +kernel) (by decide +kernel)
set_option maxRecDepth 20000 in
theorem gX8_cell_X8_lost : GoodIn wsX8_cell (wsV RX8 206 RX8 yX8_lost wsX8_lost) := goodIn_app (goodIn_of _ (by decide +kernel)) ggX8_cell_X8_lost
set_option maxRecDepth 20000 in
theorem ggX8_cell_X8_within : GoodIn wsX8_cell wsX8_within := goodIn_r _ [12] (by decide +kernel) (by decide +kernel)
set_option maxRecDepth 20000 in
theorem gX8_cell_X8_within : GoodIn wsX8_cell (va_wsS RX8 70 yX8_within wsX8_within) := goodIn_app (goodIn_of _ (by decide +kernel)) ggX8_cell_X8_within
theorem dX8_cell_0 : decode cX8_cell 0 = .ok (.aload_n 0, 1) := by decide +kernel
theorem dX8_cell_1 : decode cX8_cell 1 = .ok (.iconst 0, 1) := by decide +kernel
theorem dX8_cell_2 : decode cX8_cell 2 = .ok (.putfield 64, 3) := by decide +kernel
theorem dX8_cell_5 : decode cX8_cell 5 = .ok (.iload_n 1, 1) := by decide +kernel
theorem dX8_cell_6 : decode cX8_cell 6 = .ok (.invokestatic 83, 3) := by decide +kernel
theorem dX8_cell_9 : decode cX8_cell 9 = .ok (.ifCond .eq 10, 3) := by decide +kernel
theorem dX8_cell_12 : decode cX8_cell 12 = .ok (.iload_n 3, 1) := by decide +kernel
theorem dX8_cell_13 : decode cX8_cell 13 = .ok (.invokestatic 87, 3) := by decide +kernel
theorem dX8_cell_16 : decode cX8_cell 16 = .ok (.ifCond .ne 7, 3) := by decide +kernel
theorem dX8_cell_19 : decode cX8_cell 19 = .ok (.ldc2_w 68, 3) := by decide +kernel
theorem dX8_cell_22 : decode cX8_cell 22 = .ok (.lreturn, 1) := by decide +kernel
theorem dX8_cell_23 : decode cX8_cell 23 = .ok (.aload_n 0, 1) := by decide +kernel
theorem dX8_cell_24 : decode cX8_cell 24 = .ok (.getfield 9, 3) := by decide +kernel
theorem dX8_cell_27 : decode cX8_cell 27 = .ok (.iload_n 1, 1) := by decide +kernel
theorem dX8_cell_28 : decode cX8_cell 28 = .ok (.iaload, 1) := by decide +kernel
theorem dX8_cell_29 : decode cX8_cell 29 = .ok (.bipush (-9), 2) := by decide +kernel
theorem dX8_cell_31 : decode cX8_cell 31 = .ok (.if_icmp .eq 19, 3) := by decide +kernel
theorem dX8_cell_34 : decode cX8_cell 34 = .ok (.aload_n 0, 1) := by decide +kernel
theorem dX8_cell_35 : decode cX8_cell 35 = .ok (.getfield 9, 3) := by decide +kernel
theorem dX8_cell_38 : decode cX8_cell 38 = .ok (.iload_n 1, 1) := by decide +kernel
theorem dX8_cell_39 : decode cX8_cell 39 = .ok (.iaload, 1) := by decide +kernel
theorem dX8_cell_40 : decode cX8_cell 40 = .ok (.iload_n 3, 1) := by decide +kernel
theorem dX8_cell_41 : decode cX8_cell 41 = .ok (.if_icmp .eq 9, 3) := by decide +kernel
theorem dX8_cell_44 : decode cX8_cell 44 = .ok (.aload_n 0, 1) := by decide +kernel
theorem dX8_cell_45 : decode cX8_cell 45 = .ok (.iconst 2, 1) := by decide +kernel
theorem dX8_cell_46 : decode cX8_cell 46 = .ok (.invokevirtual 206, 3) := by decide +kernel
theorem dX8_cell_49 : decode cX8_cell 49 = .ok (.lreturn, 1) := by decide +kernel
theorem dX8_cell_50 : decode cX8_cell 50 = .ok (.aload_n 0, 1) := by decide +kernel
theorem dX8_cell_51 : decode cX8_cell 51 = .ok (.getfield 9, 3) := by decide +kernel
theorem dX8_cell_54 : decode cX8_cell 54 = .ok (.iload_n 1, 1) := by decide +kernel
theorem dX8_cell_55 : decode cX8_cell 55 = .ok (.iaload, 1) := by decide +kernel
theorem dX8_cell_56 : decode cX8_cell 56 = .ok (.bipush (-9), 2) := by decide +kernel
theorem dX8_cell_58 : decode cX8_cell 58 = .ok (.if_icmp .ne 9, 3) := by decide +kernel
theorem dX8_cell_61 : decode cX8_cell 61 = .ok (.aload_n 0, 1) := by decide +kernel
theorem dX8_cell_62 : decode cX8_cell 62 = .ok (.iconst 1, 1) := by decide +kernel
theorem dX8_cell_63 : decode cX8_cell 63 = .ok (.invokevirtual 206, 3) := by decide +kernel
theorem dX8_cell_66 : decode cX8_cell 66 = .ok (.lreturn, 1) := by decide +kernel
theorem dX8_cell_67 : decode cX8_cell 67 = .ok (.iload_n 2, 1) := by decide +kernel
theorem dX8_cell_68 : decode cX8_cell 68 = .ok (.iconst 0, 1) := by decide +kernel
theorem dX8_cell_69 : decode cX8_cell 69 = .ok (.aload_n 0, 1) := by decide +kernel
theorem dX8_cell_70 : decode cX8_cell 70 = .ok (.getfield 13, 3) := by decide +kernel
theorem dX8_cell_73 : decode cX8_cell 73 = .ok (.iload_n 1, 1) := by decide +kernel
theorem dX8_cell_74 : decode cX8_cell 74 = .ok (.iaload, 1) := by decide +kernel
theorem dX8_cell_75 : decode cX8_cell 75 = .ok (.iconst 1, 1) := by decide +kernel
theorem dX8_cell_76 : decode cX8_cell 76 = .ok (.isub, 1) := by decide +kernel
theorem dX8_cell_77 : decode cX8_cell 77 = .ok (.invokestatic 70, 3) := by decide +kernel
theorem dX8_cell_80 : decode cX8_cell 80 = .ok (.ifCond .ne 9, 3) := by decide +kernel
theorem dX8_cell_83 : decode cX8_cell 83 = .ok (.aload_n 0, 1) := by decide +kernel
theorem dX8_cell_84 : decode cX8_cell 84 = .ok (.iconst 3, 1) := by decide +kernel
theorem dX8_cell_85 : decode cX8_cell 85 = .ok (.invokevirtual 206, 3) := by decide +kernel
theorem dX8_cell_88 : decode cX8_cell 88 = .ok (.lreturn, 1) := by decide +kernel
theorem dX8_cell_89 : decode cX8_cell 89 = .ok (.aload_n 0, 1) := by decide +kernel
theorem dX8_cell_90 : decode cX8_cell 90 = .ok (.getfield 16, 3) := by decide +kernel
theorem dX8_cell_93 : decode cX8_cell 93 = .ok (.bipush 60, 2) := by decide +kernel
theorem dX8_cell_95 : decode cX8_cell 95 = .ok (.iload_n 1, 1) := by decide +kernel
theorem dX8_cell_96 : decode cX8_cell 96 = .ok (.imul, 1) := by decide +kernel
theorem dX8_cell_97 : decode cX8_cell 97 = .ok (.iload_n 2, 1) := by decide +kernel
theorem dX8_cell_98 : decode cX8_cell 98 = .ok (.iadd, 1) := by decide +kernel
theorem dX8_cell_99 : decode cX8_cell 99 = .ok (.iaload, 1) := by decide +kernel
theorem dX8_cell_100 : decode cX8_cell 100 = .ok (.i2l, 1) := by decide +kernel
theorem dX8_cell_101 : decode cX8_cell 101 = .ok (.lreturn, 1) := by decide +kernel
set_option maxRecDepth 20000 in
theorem ggX8_copy_X8_isSheet : GoodIn wsX8_copy wsX8_isSheet := goodIn_r _ [8, 9, 10, 7, 11] (by decide +kernel) (by decide +kernel)
set_option maxRecDepth 20000 in
theorem gX8_copy_X8_isSheet : GoodIn wsX8_copy (va_wsS RX8 83 yX8_isSheet wsX8_isSheet) := goodIn_app (goodIn_of _ (by decide +kernel)) ggX8_copy_X8_isSheet
set_option maxRecDepth 20000 in
theorem ggX8_copy_X8_fails : GoodIn wsX8_copy wsX8_fails := goodIn_r _ [15, 1, 16, 17, 18, 19, 20, 21, 22, 23, 24, 25, 26, 27, 28, 29, 30, 31, 32, 33, 34, 35, 36, 37, 38, 39, 40, 41, 42, 43, 44, 45, 46, 47] (by decide +kernel) (by decide +kernel)
set_option maxRecDepth 20000 in
theorem gX8_copy_X8_fails : GoodIn wsX8_copy (wsV RX8 94 RX8 yX8_fails wsX8_fails) := goodIn_app (goodIn_of _ (by decide +kernel)) ggX8_copy_X8_fails
theorem dX8_copy_0 : decode cX8_copy 0 = .ok (.aload_n 0, 1) := by decide +kernel
theorem dX8_copy_1 : decode cX8_copy 1 = .ok (.iconst 0, 1) := by decide +kernel
theorem dX8_copy_2 : decode cX8_copy 2 = .ok (.putfield 64, 3) := by decide +kernel
theorem dX8_copy_5 : decode cX8_copy 5 = .ok (.iload_n 1, 1) := by decide +kernel
theorem dX8_copy_6 : decode cX8_copy 6 = .ok (.invokestatic 83, 3) := by decide +kernel
theorem dX8_copy_9 : decode cX8_copy 9 = .ok (.ifCond .eq 10, 3) := by decide +kernel
theorem dX8_copy_12 : decode cX8_copy 12 = .ok (.iload_n 3, 1) := by decide +kernel
theorem dX8_copy_13 : decode cX8_copy 13 = .ok (.invokestatic 83, 3) := by decide +kernel
theorem dX8_copy_16 : decode cX8_copy 16 = .ok (.ifCond .ne 5, 3) := by decide +kernel
theorem dX8_copy_19 : decode cX8_copy 19 = .ok (.iconst (-1), 1) := by decide +kernel
theorem dX8_copy_20 : decode cX8_copy 20 = .ok (.ireturn, 1) := by decide +kernel
theorem dX8_copy_21 : decode cX8_copy 21 = .ok (.aload_n 0, 1) := by decide +kernel
theorem dX8_copy_22 : decode cX8_copy 22 = .ok (.getfield 9, 3) := by decide +kernel
theorem dX8_copy_25 : decode cX8_copy 25 = .ok (.iload_n 1, 1) := by decide +kernel
theorem dX8_copy_26 : decode cX8_copy 26 = .ok (.iaload, 1) := by decide +kernel
theorem dX8_copy_27 : decode cX8_copy 27 = .ok (.bipush (-9), 2) := by decide +kernel
theorem dX8_copy_29 : decode cX8_copy 29 = .ok (.if_icmp .eq 14, 3) := by decide +kernel
theorem dX8_copy_32 : decode cX8_copy 32 = .ok (.aload_n 0, 1) := by decide +kernel
theorem dX8_copy_33 : decode cX8_copy 33 = .ok (.getfield 9, 3) := by decide +kernel
theorem dX8_copy_36 : decode cX8_copy 36 = .ok (.iload_n 3, 1) := by decide +kernel
theorem dX8_copy_37 : decode cX8_copy 37 = .ok (.iaload, 1) := by decide +kernel
theorem dX8_copy_38 : decode cX8_copy 38 = .ok (.bipush (-9), 2) := by decide +kernel
theorem dX8_copy_40 : decode cX8_copy 40 = .ok (.if_icmp .ne 9, 3) := by decide +kernel
theorem dX8_copy_43 : decode cX8_copy 43 = .ok (.aload_n 0, 1) := by decide +kernel
theorem dX8_copy_44 : decode cX8_copy 44 = .ok (.iconst 1, 1) := by decide +kernel
theorem dX8_copy_45 : decode cX8_copy 45 = .ok (.invokevirtual 94, 3) := by decide +kernel
theorem dX8_copy_48 : decode cX8_copy 48 = .ok (.ireturn, 1) := by decide +kernel
theorem dX8_copy_49 : decode cX8_copy 49 = .ok (.aload_n 0, 1) := by decide +kernel
theorem dX8_copy_50 : decode cX8_copy 50 = .ok (.getfield 9, 3) := by decide +kernel
theorem dX8_copy_53 : decode cX8_copy 53 = .ok (.iload_n 1, 1) := by decide +kernel
theorem dX8_copy_54 : decode cX8_copy 54 = .ok (.iaload, 1) := by decide +kernel
theorem dX8_copy_55 : decode cX8_copy 55 = .ok (.aload_n 0, 1) := by decide +kernel
theorem dX8_copy_56 : decode cX8_copy 56 = .ok (.getfield 9, 3) := by decide +kernel
theorem dX8_copy_59 : decode cX8_copy 59 = .ok (.iload_n 3, 1) := by decide +kernel
theorem dX8_copy_60 : decode cX8_copy 60 = .ok (.iaload, 1) := by decide +kernel
theorem dX8_copy_61 : decode cX8_copy 61 = .ok (.if_icmp .eq 9, 3) := by decide +kernel
theorem dX8_copy_64 : decode cX8_copy 64 = .ok (.aload_n 0, 1) := by decide +kernel
theorem dX8_copy_65 : decode cX8_copy 65 = .ok (.iconst 2, 1) := by decide +kernel
theorem dX8_copy_66 : decode cX8_copy 66 = .ok (.invokevirtual 94, 3) := by decide +kernel
theorem dX8_copy_69 : decode cX8_copy 69 = .ok (.ireturn, 1) := by decide +kernel
theorem dX8_copy_70 : decode cX8_copy 70 = .ok (.iload_n 2, 1) := by decide +kernel
theorem dX8_copy_71 : decode cX8_copy 71 = .ok (.ifCond .lt 38, 3) := by decide +kernel
theorem dX8_copy_74 : decode cX8_copy 74 = .ok (.iload 4, 2) := by decide +kernel
theorem dX8_copy_76 : decode cX8_copy 76 = .ok (.ifCond .lt 33, 3) := by decide +kernel
theorem dX8_copy_79 : decode cX8_copy 79 = .ok (.iload 5, 2) := by decide +kernel
theorem dX8_copy_81 : decode cX8_copy 81 = .ok (.ifCond .lt 28, 3) := by decide +kernel
theorem dX8_copy_84 : decode cX8_copy 84 = .ok (.iload_n 2, 1) := by decide +kernel
theorem dX8_copy_85 : decode cX8_copy 85 = .ok (.aload_n 0, 1) := by decide +kernel
theorem dX8_copy_86 : decode cX8_copy 86 = .ok (.getfield 13, 3) := by decide +kernel
theorem dX8_copy_89 : decode cX8_copy 89 = .ok (.iload_n 1, 1) := by decide +kernel
theorem dX8_copy_90 : decode cX8_copy 90 = .ok (.iaload, 1) := by decide +kernel
theorem dX8_copy_91 : decode cX8_copy 91 = .ok (.if_icmp .gt 18, 3) := by decide +kernel
theorem dX8_copy_94 : decode cX8_copy 94 = .ok (.iload 4, 2) := by decide +kernel
theorem dX8_copy_96 : decode cX8_copy 96 = .ok (.aload_n 0, 1) := by decide +kernel
theorem dX8_copy_97 : decode cX8_copy 97 = .ok (.getfield 13, 3) := by decide +kernel
theorem dX8_copy_100 : decode cX8_copy 100 = .ok (.iload_n 3, 1) := by decide +kernel
theorem dX8_copy_101 : decode cX8_copy 101 = .ok (.iaload, 1) := by decide +kernel
theorem dX8_copy_102 : decode cX8_copy 102 = .ok (.if_icmp .gt 7, 3) := by decide +kernel
theorem dX8_copy_105 : decode cX8_copy 105 = .ok (.iconst 1, 1) := by decide +kernel
theorem dX8_copy_106 : decode cX8_copy 106 = .ok (.goto 4, 3) := by decide +kernel
theorem dX8_copy_109 : decode cX8_copy 109 = .ok (.iconst 0, 1) := by decide +kernel
theorem dX8_copy_110 : decode cX8_copy 110 = .ok (.istore 6, 2) := by decide +kernel
theorem dX8_copy_112 : decode cX8_copy 112 = .ok (.iload 6, 2) := by decide +kernel
theorem dX8_copy_114 : decode cX8_copy 114 = .ok (.ifCond .eq 30, 3) := by decide +kernel
theorem dX8_copy_117 : decode cX8_copy 117 = .ok (.iload 5, 2) := by decide +kernel
theorem dX8_copy_119 : decode cX8_copy 119 = .ok (.aload_n 0, 1) := by decide +kernel
theorem dX8_copy_120 : decode cX8_copy 120 = .ok (.getfield 13, 3) := by decide +kernel
theorem dX8_copy_123 : decode cX8_copy 123 = .ok (.iload_n 1, 1) := by decide +kernel
theorem dX8_copy_124 : decode cX8_copy 124 = .ok (.iaload, 1) := by decide +kernel
theorem dX8_copy_125 : decode cX8_copy 125 = .ok (.iload_n 2, 1) := by decide +kernel
theorem dX8_copy_126 : decode cX8_copy 126 = .ok (.isub, 1) := by decide +kernel
theorem dX8_copy_127 : decode cX8_copy 127 = .ok (.if_icmp .gt 17, 3) := by decide +kernel
theorem dX8_copy_130 : decode cX8_copy 130 = .ok (.iload 5, 2) := by decide +kernel
theorem dX8_copy_132 : decode cX8_copy 132 = .ok (.aload_n 0, 1) := by decide +kernel
theorem dX8_copy_133 : decode cX8_copy 133 = .ok (.getfield 13, 3) := by decide +kernel
theorem dX8_copy_136 : decode cX8_copy 136 = .ok (.iload_n 3, 1) := by decide +kernel
theorem dX8_copy_137 : decode cX8_copy 137 = .ok (.iaload, 1) := by decide +kernel
theorem dX8_copy_138 : decode cX8_copy 138 = .ok (.iload 4, 2) := by decide +kernel
theorem dX8_copy_140 : decode cX8_copy 140 = .ok (.isub, 1) := by decide +kernel
theorem dX8_copy_141 : decode cX8_copy 141 = .ok (.if_icmp .le 9, 3) := by decide +kernel
theorem dX8_copy_144 : decode cX8_copy 144 = .ok (.aload_n 0, 1) := by decide +kernel
theorem dX8_copy_145 : decode cX8_copy 145 = .ok (.iconst 3, 1) := by decide +kernel
theorem dX8_copy_146 : decode cX8_copy 146 = .ok (.invokevirtual 94, 3) := by decide +kernel
theorem dX8_copy_149 : decode cX8_copy 149 = .ok (.ireturn, 1) := by decide +kernel
theorem dX8_copy_150 : decode cX8_copy 150 = .ok (.iload_n 2, 1) := by decide +kernel
theorem dX8_copy_151 : decode cX8_copy 151 = .ok (.iload 4, 2) := by decide +kernel
theorem dX8_copy_153 : decode cX8_copy 153 = .ok (.if_icmp .ge 7, 3) := by decide +kernel
theorem dX8_copy_156 : decode cX8_copy 156 = .ok (.iconst 1, 1) := by decide +kernel
theorem dX8_copy_157 : decode cX8_copy 157 = .ok (.goto 4, 3) := by decide +kernel
theorem dX8_copy_160 : decode cX8_copy 160 = .ok (.iconst 0, 1) := by decide +kernel
theorem dX8_copy_161 : decode cX8_copy 161 = .ok (.istore 7, 2) := by decide +kernel
theorem dX8_copy_163 : decode cX8_copy 163 = .ok (.iconst 0, 1) := by decide +kernel
theorem dX8_copy_164 : decode cX8_copy 164 = .ok (.istore 8, 2) := by decide +kernel
theorem dX8_copy_166 : decode cX8_copy 166 = .ok (.iload 8, 2) := by decide +kernel
theorem dX8_copy_168 : decode cX8_copy 168 = .ok (.iload 5, 2) := by decide +kernel
theorem dX8_copy_170 : decode cX8_copy 170 = .ok (.if_icmp .ge 57, 3) := by decide +kernel
theorem dX8_copy_173 : decode cX8_copy 173 = .ok (.iload 7, 2) := by decide +kernel
theorem dX8_copy_175 : decode cX8_copy 175 = .ok (.ifCond .eq 13, 3) := by decide +kernel
theorem dX8_copy_178 : decode cX8_copy 178 = .ok (.iload 5, 2) := by decide +kernel
theorem dX8_copy_180 : decode cX8_copy 180 = .ok (.iconst 1, 1) := by decide +kernel
theorem dX8_copy_181 : decode cX8_copy 181 = .ok (.isub, 1) := by decide +kernel
theorem dX8_copy_182 : decode cX8_copy 182 = .ok (.iload 8, 2) := by decide +kernel
theorem dX8_copy_184 : decode cX8_copy 184 = .ok (.isub, 1) := by decide +kernel
theorem dX8_copy_185 : decode cX8_copy 185 = .ok (.goto 5, 3) := by decide +kernel
theorem dX8_copy_188 : decode cX8_copy 188 = .ok (.iload 8, 2) := by decide +kernel
theorem dX8_copy_190 : decode cX8_copy 190 = .ok (.istore 9, 2) := by decide +kernel
theorem dX8_copy_192 : decode cX8_copy 192 = .ok (.aload_n 0, 1) := by decide +kernel
theorem dX8_copy_193 : decode cX8_copy 193 = .ok (.getfield 16, 3) := by decide +kernel
theorem dX8_copy_196 : decode cX8_copy 196 = .ok (.bipush 60, 2) := by decide +kernel
theorem dX8_copy_198 : decode cX8_copy 198 = .ok (.iload_n 3, 1) := by decide +kernel
theorem dX8_copy_199 : decode cX8_copy 199 = .ok (.imul, 1) := by decide +kernel
theorem dX8_copy_200 : decode cX8_copy 200 = .ok (.iload 4, 2) := by decide +kernel
theorem dX8_copy_202 : decode cX8_copy 202 = .ok (.iadd, 1) := by decide +kernel
theorem dX8_copy_203 : decode cX8_copy 203 = .ok (.iload 9, 2) := by decide +kernel
theorem dX8_copy_205 : decode cX8_copy 205 = .ok (.iadd, 1) := by decide +kernel
theorem dX8_copy_206 : decode cX8_copy 206 = .ok (.aload_n 0, 1) := by decide +kernel
theorem dX8_copy_207 : decode cX8_copy 207 = .ok (.getfield 16, 3) := by decide +kernel
theorem dX8_copy_210 : decode cX8_copy 210 = .ok (.bipush 60, 2) := by decide +kernel
theorem dX8_copy_212 : decode cX8_copy 212 = .ok (.iload_n 1, 1) := by decide +kernel
theorem dX8_copy_213 : decode cX8_copy 213 = .ok (.imul, 1) := by decide +kernel
theorem dX8_copy_214 : decode cX8_copy 214 = .ok (.iload_n 2, 1) := by decide +kernel
theorem dX8_copy_215 : decode cX8_copy 215 = .ok (.iadd, 1) := by decide +kernel
theorem dX8_copy_216 : decode cX8_copy 216 = .ok (.iload 9, 2) := by decide +kernel
theorem dX8_copy_218 : decode cX8_copy 218 = .ok (.iadd, 1) := by decide +kernel
theorem dX8_copy_219 : decode cX8_copy 219 = .ok (.iaload, 1) := by decide +kernel
theorem dX8_copy_220 : decode cX8_copy 220 = .ok (.iastore, 1) := by decide +kernel
theorem dX8_copy_221 : decode cX8_copy 221 = .ok (.iinc 8 1, 3) := by decide +kernel
theorem dX8_copy_224 : decode cX8_copy 224 = .ok (.goto (-58), 3) := by decide +kernel
theorem dX8_copy_227 : decode cX8_copy 227 = .ok (.iload 5, 2) := by decide +kernel
theorem dX8_copy_229 : decode cX8_copy 229 = .ok (.ireturn, 1) := by decide +kernel
theorem dX8_begins_0 : decode cX8_begins 0 = .ok (.aload_n 0, 1) := by decide +kernel
theorem dX8_begins_1 : decode cX8_begins 1 = .ok (.bipush 31, 2) := by decide +kernel
theorem dX8_begins_3 : decode cX8_begins 3 = .ok (.aload_n 0, 1) := by decide +kernel
theorem dX8_begins_4 : decode cX8_begins 4 = .ok (.getfield 210, 3) := by decide +kernel
theorem dX8_begins_7 : decode cX8_begins 7 = .ok (.imul, 1) := by decide +kernel
theorem dX8_begins_8 : decode cX8_begins 8 = .ok (.iload_n 1, 1) := by decide +kernel
theorem dX8_begins_9 : decode cX8_begins 9 = .ok (.iadd, 1) := by decide +kernel
theorem dX8_begins_10 : decode cX8_begins 10 = .ok (.putfield 210, 3) := by decide +kernel
theorem dX8_begins_13 : decode cX8_begins 13 = .ok (.return_, 1) := by decide +kernel
set_option maxRecDepth 20000 in
theorem ggX8_tell_X8_isArticle : GoodIn wsX8_tell wsX8_isArticle := goodIn_r _ [7, 8, 14, 15, 16, 17, 18, 19, 20, 21, 22, 23, 24, 25, 26, 27, 28, 29, 30, 31, 32, 33, 34, 35, 36, 37, 38, 39, 40, 41, 42, 43, 44, 45] (by decide +kernel) (by decide +kernel)
set_option maxRecDepth 20000 in
theorem gX8_tell_X8_isArticle : GoodIn wsX8_tell (wsV RX8 142 RX8 yX8_isArticle wsX8_isArticle) := goodIn_app (goodIn_of _ (by decide +kernel)) ggX8_tell_X8_isArticle
set_option maxRecDepth 20000 in
theorem ggX8_tell_X8_begins : GoodIn wsX8_tell wsX8_begins := goodIn_r _ [12, 13, 14, 15, 16, 17, 18, 19, 20, 21, 22, 23, 24, 25, 26, 27, 28, 29, 30, 31, 32, 33, 34, 35, 36, 37, 38, 39, 40, 41, 42, 43, 44, 45] (by decide +kernel) (by decide +kernel)
set_option maxRecDepth 20000 in
theorem gX8_tell_X8_begins : GoodIn wsX8_tell (wsV RX8 213 RX8 yX8_begins wsX8_begins) := goodIn_app (goodIn_of _ (by decide +kernel)) ggX8_tell_X8_begins
theorem dX8_tell_0 : decode cX8_tell 0 = .ok (.aload_n 0, 1) := by decide +kernel
theorem dX8_tell_1 : decode cX8_tell 1 = .ok (.iload_n 1, 1) := by decide +kernel
theorem dX8_tell_2 : decode cX8_tell 2 = .ok (.invokevirtual 142, 3) := by decide +kernel
theorem dX8_tell_5 : decode cX8_tell 5 = .ok (.ifCond .ne 5, 3) := by decide +kernel
theorem dX8_tell_8 : decode cX8_tell 8 = .ok (.iconst (-1), 1) := by decide +kernel
theorem dX8_tell_9 : decode cX8_tell 9 = .ok (.ireturn, 1) := by decide +kernel
theorem dX8_tell_10 : decode cX8_tell 10 = .ok (.aload_n 0, 1) := by decide +kernel
theorem dX8_tell_11 : decode cX8_tell 11 = .ok (.getfield 28, 3) := by decide +kernel
theorem dX8_tell_14 : decode cX8_tell 14 = .ok (.iload_n 1, 1) := by decide +kernel
theorem dX8_tell_15 : decode cX8_tell 15 = .ok (.iaload, 1) := by decide +kernel
theorem dX8_tell_16 : decode cX8_tell 16 = .ok (.istore_n 2, 1) := by decide +kernel
theorem dX8_tell_17 : decode cX8_tell 17 = .ok (.aload_n 0, 1) := by decide +kernel
theorem dX8_tell_18 : decode cX8_tell 18 = .ok (.getfield 22, 3) := by decide +kernel
theorem dX8_tell_21 : decode cX8_tell 21 = .ok (.iload_n 1, 1) := by decide +kernel
theorem dX8_tell_22 : decode cX8_tell 22 = .ok (.iaload, 1) := by decide +kernel
theorem dX8_tell_23 : decode cX8_tell 23 = .ok (.lookupswitch 67 #[(1, 25), (2, 40)], 25) := by decide +kernel
theorem dX8_tell_48 : decode cX8_tell 48 = .ok (.aload_n 0, 1) := by decide +kernel
theorem dX8_tell_49 : decode cX8_tell 49 = .ok (.iconst 2, 1) := by decide +kernel
theorem dX8_tell_50 : decode cX8_tell 50 = .ok (.invokevirtual 213, 3) := by decide +kernel
theorem dX8_tell_53 : decode cX8_tell 53 = .ok (.aload_n 0, 1) := by decide +kernel
theorem dX8_tell_54 : decode cX8_tell 54 = .ok (.iconst 1, 1) := by decide +kernel
theorem dX8_tell_55 : decode cX8_tell 55 = .ok (.invokevirtual 213, 3) := by decide +kernel
theorem dX8_tell_58 : decode cX8_tell 58 = .ok (.iload_n 2, 1) := by decide +kernel
theorem dX8_tell_59 : decode cX8_tell 59 = .ok (.bipush 100, 2) := by decide +kernel
theorem dX8_tell_61 : decode cX8_tell 61 = .ok (.iadd, 1) := by decide +kernel
theorem dX8_tell_62 : decode cX8_tell 62 = .ok (.ireturn, 1) := by decide +kernel
theorem dX8_tell_63 : decode cX8_tell 63 = .ok (.aload_n 0, 1) := by decide +kernel
theorem dX8_tell_64 : decode cX8_tell 64 = .ok (.iconst 3, 1) := by decide +kernel
theorem dX8_tell_65 : decode cX8_tell 65 = .ok (.invokevirtual 213, 3) := by decide +kernel
theorem dX8_tell_68 : decode cX8_tell 68 = .ok (.aload_n 0, 1) := by decide +kernel
theorem dX8_tell_69 : decode cX8_tell 69 = .ok (.iconst 2, 1) := by decide +kernel
theorem dX8_tell_70 : decode cX8_tell 70 = .ok (.invokevirtual 213, 3) := by decide +kernel
theorem dX8_tell_73 : decode cX8_tell 73 = .ok (.aload_n 0, 1) := by decide +kernel
theorem dX8_tell_74 : decode cX8_tell 74 = .ok (.iconst 1, 1) := by decide +kernel
theorem dX8_tell_75 : decode cX8_tell 75 = .ok (.invokevirtual 213, 3) := by decide +kernel
theorem dX8_tell_78 : decode cX8_tell 78 = .ok (.aload_n 0, 1) := by decide +kernel
theorem dX8_tell_79 : decode cX8_tell 79 = .ok (.iconst 1, 1) := by decide +kernel
theorem dX8_tell_80 : decode cX8_tell 80 = .ok (.invokevirtual 213, 3) := by decide +kernel
theorem dX8_tell_83 : decode cX8_tell 83 = .ok (.iconst 2, 1) := by decide +kernel
theorem dX8_tell_84 : decode cX8_tell 84 = .ok (.iload_n 2, 1) := by decide +kernel
theorem dX8_tell_85 : decode cX8_tell 85 = .ok (.imul, 1) := by decide +kernel
theorem dX8_tell_86 : decode cX8_tell 86 = .ok (.bipush 100, 2) := by decide +kernel
theorem dX8_tell_88 : decode cX8_tell 88 = .ok (.iadd, 1) := by decide +kernel
theorem dX8_tell_89 : decode cX8_tell 89 = .ok (.ireturn, 1) := by decide +kernel
theorem dX8_tell_90 : decode cX8_tell 90 = .ok (.aload_n 0, 1) := by decide +kernel
theorem dX8_tell_91 : decode cX8_tell 91 = .ok (.iconst 1, 1) := by decide +kernel
theorem dX8_tell_92 : decode cX8_tell 92 = .ok (.invokevirtual 213, 3) := by decide +kernel
theorem dX8_tell_95 : decode cX8_tell 95 = .ok (.iload_n 2, 1) := by decide +kernel
theorem dX8_tell_96 : decode cX8_tell 96 = .ok (.ireturn, 1) := by decide +kernel
set_option maxRecDepth 20000 in
theorem ggX8_announce_X8_isArticle : GoodIn wsX8_announce wsX8_isArticle := goodIn_r _ [6, 7, 13, 14, 15, 16, 17, 18, 19, 20, 21, 22, 23, 24, 25, 26, 27, 28, 29, 30, 31, 32, 33, 34, 35, 36, 37, 38, 39, 40, 41, 42, 43, 44] (by decide +kernel) (by decide +kernel)
set_option maxRecDepth 20000 in
theorem gX8_announce_X8_isArticle : GoodIn wsX8_announce (wsV RX8 142 RX8 yX8_isArticle wsX8_isArticle) := goodIn_app (goodIn_of _ (by decide +kernel)) ggX8_announce_X8_isArticle
set_option maxRecDepth 20000 in
theorem ggX8_announce_X8_begins : GoodIn wsX8_announce wsX8_begins := goodIn_r _ [11, 12, 13, 14, 15, 16, 17, 18, 19, 20, 21, 22, 23, 24, 25, 26, 27, 28, 29, 30, 31, 32, 33, 34, 35, 36, 37, 38, 39, 40, 41, 42, 43, 44] (by decide +kernel) (by decide +kernel)
set_option maxRecDepth 20000 in
theorem gX8_announce_X8_begins : GoodIn wsX8_announce (wsV RX8 213 RX8 yX8_begins wsX8_begins) := goodIn_app (goodIn_of _ (by decide +kernel)) ggX8_announce_X8_begins
theorem dX8_announce_0 : decode cX8_announce 0 = .ok (.aload_n 0, 1) := by decide +kernel
theorem dX8_announce_1 : decode cX8_announce 1 = .ok (.iload_n 1, 1) := by decide +kernel
theorem dX8_announce_2 : decode cX8_announce 2 = .ok (.invokevirtual 142, 3) := by decide +kernel
theorem dX8_announce_5 : decode cX8_announce 5 = .ok (.ifCond .ne 5, 3) := by decide +kernel
theorem dX8_announce_8 : decode cX8_announce 8 = .ok (.iconst (-1), 1) := by decide +kernel
theorem dX8_announce_9 : decode cX8_announce 9 = .ok (.ireturn, 1) := by decide +kernel
theorem dX8_announce_10 : decode cX8_announce 10 = .ok (.aload_n 0, 1) := by decide +kernel
theorem dX8_announce_11 : decode cX8_announce 11 = .ok (.aload_n 0, 1) := by decide +kernel
theorem dX8_announce_12 : decode cX8_announce 12 = .ok (.getfield 22, 3) := by decide +kernel
theorem dX8_announce_15 : decode cX8_announce 15 = .ok (.iload_n 1, 1) := by decide +kernel
theorem dX8_announce_16 : decode cX8_announce 16 = .ok (.iaload, 1) := by decide +kernel
theorem dX8_announce_17 : decode cX8_announce 17 = .ok (.iconst 2, 1) := by decide +kernel
theorem dX8_announce_18 : decode cX8_announce 18 = .ok (.if_icmp .ne 7, 3) := by decide +kernel
theorem dX8_announce_21 : decode cX8_announce 21 = .ok (.iconst 5, 1) := by decide +kernel
theorem dX8_announce_22 : decode cX8_announce 22 = .ok (.goto 4, 3) := by decide +kernel
theorem dX8_announce_25 : decode cX8_announce 25 = .ok (.iconst 4, 1) := by decide +kernel
theorem dX8_announce_26 : decode cX8_announce 26 = .ok (.invokevirtual 213, 3) := by decide +kernel
theorem dX8_announce_29 : decode cX8_announce 29 = .ok (.aload_n 0, 1) := by decide +kernel
theorem dX8_announce_30 : decode cX8_announce 30 = .ok (.getfield 22, 3) := by decide +kernel
theorem dX8_announce_33 : decode cX8_announce 33 = .ok (.iload_n 1, 1) := by decide +kernel
theorem dX8_announce_34 : decode cX8_announce 34 = .ok (.iaload, 1) := by decide +kernel
theorem dX8_announce_35 : decode cX8_announce 35 = .ok (.iconst 2, 1) := by decide +kernel
theorem dX8_announce_36 : decode cX8_announce 36 = .ok (.if_icmp .ne 8, 3) := by decide +kernel
theorem dX8_announce_39 : decode cX8_announce 39 = .ok (.bipush 80, 2) := by decide +kernel
theorem dX8_announce_41 : decode cX8_announce 41 = .ok (.goto 4, 3) := by decide +kernel
theorem dX8_announce_44 : decode cX8_announce 44 = .ok (.iload_n 1, 1) := by decide +kernel
theorem dX8_announce_45 : decode cX8_announce 45 = .ok (.ireturn, 1) := by decide +kernel
set_option maxRecDepth 20000 in
theorem ggX8_as_X8_isArticle : GoodIn wsX8_as wsX8_isArticle := goodIn_r _ [7, 8, 16, 17, 18, 19, 20, 21, 22, 23, 24, 25, 26, 27, 28, 29, 30, 31, 32, 33, 34, 35, 36, 37, 38, 39, 40, 41, 42, 43, 44, 45, 46, 47] (by decide +kernel) (by decide +kernel)
set_option maxRecDepth 20000 in
theorem gX8_as_X8_isArticle : GoodIn wsX8_as (wsV RX8 142 RX8 yX8_isArticle wsX8_isArticle) := goodIn_app (goodIn_of _ (by decide +kernel)) ggX8_as_X8_isArticle
set_option maxRecDepth 20000 in
theorem ggX8_as_X8_within : GoodIn wsX8_as wsX8_within := goodIn_r _ [11] (by decide +kernel) (by decide +kernel)
set_option maxRecDepth 20000 in
theorem gX8_as_X8_within : GoodIn wsX8_as (va_wsS RX8 70 yX8_within wsX8_within) := goodIn_app (goodIn_of _ (by decide +kernel)) ggX8_as_X8_within
set_option maxRecDepth 20000 in
theorem ggX8_as_X8_fails : GoodIn wsX8_as wsX8_fails := goodIn_r _ [15, 1, 16, 17, 18, 19, 20, 21, 22, 23, 24, 25, 26, 27, 28, 29, 30, 31, 32, 33, 34, 35, 36, 37, 38, 39, 40, 41, 42, 43, 44, 45, 46, 47] (by decide +kernel) (by decide +kernel)
set_option maxRecDepth 20000 in
theorem gX8_as_X8_fails : GoodIn wsX8_as (wsV RX8 94 RX8 yX8_fails wsX8_fails) := goodIn_app (goodIn_of _ (by decide +kernel)) ggX8_as_X8_fails
theorem dX8_as_0 : decode cX8_as 0 = .ok (.aload_n 0, 1) := by decide +kernel
theorem dX8_as_1 : decode cX8_as 1 = .ok (.iconst 0, 1) := by decide +kernel
theorem dX8_as_2 : decode cX8_as 2 = .ok (.putfield 64, 3) := by decide +kernel
theorem dX8_as_5 : decode cX8_as 5 = .ok (.aload_n 0, 1) := by decide +kernel
theorem dX8_as_6 : decode cX8_as 6 = .ok (.iload_n 1, 1) := by decide +kernel
theorem dX8_as_7 : decode cX8_as 7 = .ok (.invokevirtual 142, 3) := by decide +kernel
theorem dX8_as_10 : decode cX8_as 10 = .ok (.ifCond .ne 5, 3) := by decide +kernel
theorem dX8_as_13 : decode cX8_as 13 = .ok (.iconst (-1), 1) := by decide +kernel
theorem dX8_as_14 : decode cX8_as 14 = .ok (.ireturn, 1) := by decide +kernel
theorem dX8_as_15 : decode cX8_as 15 = .ok (.iload_n 2, 1) := by decide +kernel
theorem dX8_as_16 : decode cX8_as 16 = .ok (.iconst 0, 1) := by decide +kernel
theorem dX8_as_17 : decode cX8_as 17 = .ok (.iconst 2, 1) := by decide +kernel
theorem dX8_as_18 : decode cX8_as 18 = .ok (.invokestatic 70, 3) := by decide +kernel
theorem dX8_as_21 : decode cX8_as 21 = .ok (.ifCond .ne 6, 3) := by decide +kernel
theorem dX8_as_24 : decode cX8_as 24 = .ok (.bipush (-2), 2) := by decide +kernel
theorem dX8_as_26 : decode cX8_as 26 = .ok (.ireturn, 1) := by decide +kernel
theorem dX8_as_27 : decode cX8_as 27 = .ok (.aload_n 0, 1) := by decide +kernel
theorem dX8_as_28 : decode cX8_as 28 = .ok (.getfield 22, 3) := by decide +kernel
theorem dX8_as_31 : decode cX8_as 31 = .ok (.iload_n 1, 1) := by decide +kernel
theorem dX8_as_32 : decode cX8_as 32 = .ok (.iaload, 1) := by decide +kernel
theorem dX8_as_33 : decode cX8_as 33 = .ok (.iload_n 2, 1) := by decide +kernel
theorem dX8_as_34 : decode cX8_as 34 = .ok (.if_icmp .lt 7, 3) := by decide +kernel
theorem dX8_as_37 : decode cX8_as 37 = .ok (.iconst 1, 1) := by decide +kernel
theorem dX8_as_38 : decode cX8_as 38 = .ok (.goto 8, 3) := by decide +kernel
theorem dX8_as_41 : decode cX8_as 41 = .ok (.aload_n 0, 1) := by decide +kernel
theorem dX8_as_42 : decode cX8_as 42 = .ok (.iconst 2, 1) := by decide +kernel
theorem dX8_as_43 : decode cX8_as 43 = .ok (.invokevirtual 94, 3) := by decide +kernel
theorem dX8_as_46 : decode cX8_as 46 = .ok (.ireturn, 1) := by decide +kernel
theorem dX8_trace_0 : decode cX8_trace 0 = .ok (.aload_n 0, 1) := by decide +kernel
theorem dX8_trace_1 : decode cX8_trace 1 = .ok (.getfield 210, 3) := by decide +kernel
theorem dX8_trace_4 : decode cX8_trace 4 = .ok (.ireturn, 1) := by decide +kernel
theorem dX8_fault_0 : decode cX8_fault 0 = .ok (.aload_n 0, 1) := by decide +kernel
theorem dX8_fault_1 : decode cX8_fault 1 = .ok (.getfield 64, 3) := by decide +kernel
theorem dX8_fault_4 : decode cX8_fault 4 = .ok (.ireturn, 1) := by decide +kernel
set_option maxRecDepth 20000 in
theorem ggX8_many_X8_size : GoodIn wsX8_many wsX8_size := goodIn_r _ [9] (by decide +kernel) (by decide +kernel)
set_option maxRecDepth 20000 in
theorem gX8_many_X8_size : GoodIn wsX8_many (va_wsS RX8 176 yX8_size wsX8_size) := goodIn_app (goodIn_of _ (by decide +kernel)) ggX8_many_X8_size
theorem dX8_many_0 : decode cX8_many 0 = .ok (.iload_n 1, 1) := by decide +kernel
theorem dX8_many_1 : decode cX8_many 1 = .ok (.tableswitch 63 0 4 #[35, 40, 45, 53, 58], 35) := by decide +kernel
theorem dX8_many_36 : decode cX8_many 36 = .ok (.aload_n 0, 1) := by decide +kernel
theorem dX8_many_37 : decode cX8_many 37 = .ok (.getfield 74, 3) := by decide +kernel
theorem dX8_many_40 : decode cX8_many 40 = .ok (.ireturn, 1) := by decide +kernel
theorem dX8_many_41 : decode cX8_many 41 = .ok (.aload_n 0, 1) := by decide +kernel
theorem dX8_many_42 : decode cX8_many 42 = .ok (.getfield 77, 3) := by decide +kernel
theorem dX8_many_45 : decode cX8_many 45 = .ok (.ireturn, 1) := by decide +kernel
theorem dX8_many_46 : decode cX8_many 46 = .ok (.aload_n 0, 1) := by decide +kernel
theorem dX8_many_47 : decode cX8_many 47 = .ok (.getfield 116, 3) := by decide +kernel
theorem dX8_many_50 : decode cX8_many 50 = .ok (.invokestatic 176, 3) := by decide +kernel
theorem dX8_many_53 : decode cX8_many 53 = .ok (.ireturn, 1) := by decide +kernel
theorem dX8_many_54 : decode cX8_many 54 = .ok (.aload_n 0, 1) := by decide +kernel
theorem dX8_many_55 : decode cX8_many 55 = .ok (.getfield 107, 3) := by decide +kernel
theorem dX8_many_58 : decode cX8_many 58 = .ok (.ireturn, 1) := by decide +kernel
theorem dX8_many_59 : decode cX8_many 59 = .ok (.aload_n 0, 1) := by decide +kernel
theorem dX8_many_60 : decode cX8_many 60 = .ok (.getfield 119, 3) := by decide +kernel
theorem dX8_many_63 : decode cX8_many 63 = .ok (.ireturn, 1) := by decide +kernel
theorem dX8_many_64 : decode cX8_many 64 = .ok (.bipush (-2), 2) := by decide +kernel
theorem dX8_many_66 : decode cX8_many 66 = .ok (.ireturn, 1) := by decide +kernel
theorem dJ6_bitCount_0f7a4_0 : decode cJ6_bitCount_0f7a4 0 = .ok (.iload_n 0, 1) := by decide +kernel
theorem dJ6_bitCount_0f7a4_1 : decode cJ6_bitCount_0f7a4 1 = .ok (.iload_n 0, 1) := by decide +kernel
theorem dJ6_bitCount_0f7a4_2 : decode cJ6_bitCount_0f7a4 2 = .ok (.iconst 1, 1) := by decide +kernel
theorem dJ6_bitCount_0f7a4_3 : decode cJ6_bitCount_0f7a4 3 = .ok (.iushr, 1) := by decide +kernel
theorem dJ6_bitCount_0f7a4_4 : decode cJ6_bitCount_0f7a4 4 = .ok (.ldc_w 265, 3) := by decide +kernel
theorem dJ6_bitCount_0f7a4_7 : decode cJ6_bitCount_0f7a4 7 = .ok (.iand, 1) := by decide +kernel
theorem dJ6_bitCount_0f7a4_8 : decode cJ6_bitCount_0f7a4 8 = .ok (.isub, 1) := by decide +kernel
theorem dJ6_bitCount_0f7a4_9 : decode cJ6_bitCount_0f7a4 9 = .ok (.istore_n 0, 1) := by decide +kernel
theorem dJ6_bitCount_0f7a4_10 : decode cJ6_bitCount_0f7a4 10 = .ok (.iload_n 0, 1) := by decide +kernel
theorem dJ6_bitCount_0f7a4_11 : decode cJ6_bitCount_0f7a4 11 = .ok (.ldc_w 266, 3) := by decide +kernel
theorem dJ6_bitCount_0f7a4_14 : decode cJ6_bitCount_0f7a4 14 = .ok (.iand, 1) := by decide +kernel
theorem dJ6_bitCount_0f7a4_15 : decode cJ6_bitCount_0f7a4 15 = .ok (.iload_n 0, 1) := by decide +kernel
theorem dJ6_bitCount_0f7a4_16 : decode cJ6_bitCount_0f7a4 16 = .ok (.iconst 2, 1) := by decide +kernel
theorem dJ6_bitCount_0f7a4_17 : decode cJ6_bitCount_0f7a4 17 = .ok (.iushr, 1) := by decide +kernel
theorem dJ6_bitCount_0f7a4_18 : decode cJ6_bitCount_0f7a4 18 = .ok (.ldc_w 266, 3) := by decide +kernel
theorem dJ6_bitCount_0f7a4_21 : decode cJ6_bitCount_0f7a4 21 = .ok (.iand, 1) := by decide +kernel
theorem dJ6_bitCount_0f7a4_22 : decode cJ6_bitCount_0f7a4 22 = .ok (.iadd, 1) := by decide +kernel
theorem dJ6_bitCount_0f7a4_23 : decode cJ6_bitCount_0f7a4 23 = .ok (.istore_n 0, 1) := by decide +kernel
theorem dJ6_bitCount_0f7a4_24 : decode cJ6_bitCount_0f7a4 24 = .ok (.iload_n 0, 1) := by decide +kernel
theorem dJ6_bitCount_0f7a4_25 : decode cJ6_bitCount_0f7a4 25 = .ok (.iload_n 0, 1) := by decide +kernel
theorem dJ6_bitCount_0f7a4_26 : decode cJ6_bitCount_0f7a4 26 = .ok (.iconst 4, 1) := by decide +kernel
theorem dJ6_bitCount_0f7a4_27 : decode cJ6_bitCount_0f7a4 27 = .ok (.iushr, 1) := by decide +kernel
theorem dJ6_bitCount_0f7a4_28 : decode cJ6_bitCount_0f7a4 28 = .ok (.iadd, 1) := by decide +kernel
theorem dJ6_bitCount_0f7a4_29 : decode cJ6_bitCount_0f7a4 29 = .ok (.ldc_w 267, 3) := by decide +kernel
theorem dJ6_bitCount_0f7a4_32 : decode cJ6_bitCount_0f7a4 32 = .ok (.iand, 1) := by decide +kernel
theorem dJ6_bitCount_0f7a4_33 : decode cJ6_bitCount_0f7a4 33 = .ok (.istore_n 0, 1) := by decide +kernel
theorem dJ6_bitCount_0f7a4_34 : decode cJ6_bitCount_0f7a4 34 = .ok (.iload_n 0, 1) := by decide +kernel
theorem dJ6_bitCount_0f7a4_35 : decode cJ6_bitCount_0f7a4 35 = .ok (.iload_n 0, 1) := by decide +kernel
theorem dJ6_bitCount_0f7a4_36 : decode cJ6_bitCount_0f7a4 36 = .ok (.bipush 8, 2) := by decide +kernel
theorem dJ6_bitCount_0f7a4_38 : decode cJ6_bitCount_0f7a4 38 = .ok (.iushr, 1) := by decide +kernel
theorem dJ6_bitCount_0f7a4_39 : decode cJ6_bitCount_0f7a4 39 = .ok (.iadd, 1) := by decide +kernel
theorem dJ6_bitCount_0f7a4_40 : decode cJ6_bitCount_0f7a4 40 = .ok (.istore_n 0, 1) := by decide +kernel
theorem dJ6_bitCount_0f7a4_41 : decode cJ6_bitCount_0f7a4 41 = .ok (.iload_n 0, 1) := by decide +kernel
theorem dJ6_bitCount_0f7a4_42 : decode cJ6_bitCount_0f7a4 42 = .ok (.iload_n 0, 1) := by decide +kernel
theorem dJ6_bitCount_0f7a4_43 : decode cJ6_bitCount_0f7a4 43 = .ok (.bipush 16, 2) := by decide +kernel
theorem dJ6_bitCount_0f7a4_45 : decode cJ6_bitCount_0f7a4 45 = .ok (.iushr, 1) := by decide +kernel
theorem dJ6_bitCount_0f7a4_46 : decode cJ6_bitCount_0f7a4 46 = .ok (.iadd, 1) := by decide +kernel
theorem dJ6_bitCount_0f7a4_47 : decode cJ6_bitCount_0f7a4 47 = .ok (.istore_n 0, 1) := by decide +kernel
theorem dJ6_bitCount_0f7a4_48 : decode cJ6_bitCount_0f7a4 48 = .ok (.iload_n 0, 1) := by decide +kernel
theorem dJ6_bitCount_0f7a4_49 : decode cJ6_bitCount_0f7a4 49 = .ok (.bipush 63, 2) := by decide +kernel
theorem dJ6_bitCount_0f7a4_51 : decode cJ6_bitCount_0f7a4 51 = .ok (.iand, 1) := by decide +kernel
theorem dJ6_bitCount_0f7a4_52 : decode cJ6_bitCount_0f7a4 52 = .ok (.ireturn, 1) := by decide +kernel
theorem dJ9_abs_0f7a4_0 : decode cJ9_abs_0f7a4 0 = .ok (.iload_n 0, 1) := by decide +kernel
theorem dJ9_abs_0f7a4_1 : decode cJ9_abs_0f7a4 1 = .ok (.ifCond .ge 8, 3) := by decide +kernel
theorem dJ9_abs_0f7a4_4 : decode cJ9_abs_0f7a4 4 = .ok (.iload_n 0, 1) := by decide +kernel
theorem dJ9_abs_0f7a4_5 : decode cJ9_abs_0f7a4 5 = .ok (.ineg, 1) := by decide +kernel
theorem dJ9_abs_0f7a4_6 : decode cJ9_abs_0f7a4 6 = .ok (.goto 4, 3) := by decide +kernel
theorem dJ9_abs_0f7a4_9 : decode cJ9_abs_0f7a4 9 = .ok (.iload_n 0, 1) := by decide +kernel
theorem dJ9_abs_0f7a4_10 : decode cJ9_abs_0f7a4 10 = .ok (.ireturn, 1) := by decide +kernel
theorem dJ9_max_7cf53_0 : decode cJ9_max_7cf53 0 = .ok (.iload_n 0, 1) := by decide +kernel
theorem dJ9_max_7cf53_1 : decode cJ9_max_7cf53 1 = .ok (.iload_n 1, 1) := by decide +kernel
theorem dJ9_max_7cf53_2 : decode cJ9_max_7cf53 2 = .ok (.if_icmp .lt 7, 3) := by decide +kernel
theorem dJ9_max_7cf53_5 : decode cJ9_max_7cf53 5 = .ok (.iload_n 0, 1) := by decide +kernel
theorem dJ9_max_7cf53_6 : decode cJ9_max_7cf53 6 = .ok (.goto 4, 3) := by decide +kernel
theorem dJ9_max_7cf53_9 : decode cJ9_max_7cf53 9 = .ok (.iload_n 1, 1) := by decide +kernel
theorem dJ9_max_7cf53_10 : decode cJ9_max_7cf53 10 = .ok (.ireturn, 1) := by decide +kernel
theorem dJ9_min_7cf53_0 : decode cJ9_min_7cf53 0 = .ok (.iload_n 0, 1) := by decide +kernel
theorem dJ9_min_7cf53_1 : decode cJ9_min_7cf53 1 = .ok (.iload_n 1, 1) := by decide +kernel
theorem dJ9_min_7cf53_2 : decode cJ9_min_7cf53 2 = .ok (.if_icmp .gt 7, 3) := by decide +kernel
theorem dJ9_min_7cf53_5 : decode cJ9_min_7cf53 5 = .ok (.iload_n 0, 1) := by decide +kernel
theorem dJ9_min_7cf53_6 : decode cJ9_min_7cf53 6 = .ok (.goto 4, 3) := by decide +kernel
theorem dJ9_min_7cf53_9 : decode cJ9_min_7cf53 9 = .ok (.iload_n 1, 1) := by decide +kernel
theorem dJ9_min_7cf53_10 : decode cJ9_min_7cf53 10 = .ok (.ireturn, 1) := by decide +kernel

set_option maxRecDepth 20000 in
theorem gX7_lure_X1_fewestCalls : GoodIn wsX7_lure (wsV RX7 174 RX1 yX1_fewestCalls wsX1_fewestCalls) := goodIn_app (goodIn_of _ (by decide +kernel)) ggX7_lure_X1_fewestCalls
theorem dX7_lure_0 : decode cX7_lure 0 = .ok (.aload_n 0, 1) := by decide +kernel
theorem dX7_lure_1 : decode cX7_lure 1 = .ok (.getfield 12, 3) := by decide +kernel
theorem dX7_lure_4 : decode cX7_lure 4 = .ok (.iload_n 1, 1) := by decide +kernel
theorem dX7_lure_5 : decode cX7_lure 5 = .ok (.invokevirtual 86, 3) := by decide +kernel
theorem dX7_lure_8 : decode cX7_lure 8 = .ok (.ifCond .ne 5, 3) := by decide +kernel
theorem dX7_lure_11 : decode cX7_lure 11 = .ok (.iconst (-1), 1) := by decide +kernel
theorem dX7_lure_12 : decode cX7_lure 12 = .ok (.ireturn, 1) := by decide +kernel
theorem dX7_lure_13 : decode cX7_lure 13 = .ok (.aload_n 0, 1) := by decide +kernel
theorem dX7_lure_14 : decode cX7_lure 14 = .ok (.getfield 12, 3) := by decide +kernel
theorem dX7_lure_17 : decode cX7_lure 17 = .ok (.getfield 111, 3) := by decide +kernel
theorem dX7_lure_20 : decode cX7_lure 20 = .ok (.iload_n 1, 1) := by decide +kernel
theorem dX7_lure_21 : decode cX7_lure 21 = .ok (.invokestatic 114, 3) := by decide +kernel
theorem dX7_lure_24 : decode cX7_lure 24 = .ok (.ifCond .ne 6, 3) := by decide +kernel
theorem dX7_lure_27 : decode cX7_lure 27 = .ok (.bipush (-3), 2) := by decide +kernel
theorem dX7_lure_29 : decode cX7_lure 29 = .ok (.ireturn, 1) := by decide +kernel
theorem dX7_lure_30 : decode cX7_lure 30 = .ok (.aload_n 0, 1) := by decide +kernel
theorem dX7_lure_31 : decode cX7_lure 31 = .ok (.getfield 12, 3) := by decide +kernel
theorem dX7_lure_34 : decode cX7_lure 34 = .ok (.iconst 1, 1) := by decide +kernel
theorem dX7_lure_35 : decode cX7_lure 35 = .ok (.iload_n 1, 1) := by decide +kernel
theorem dX7_lure_36 : decode cX7_lure 36 = .ok (.ishl, 1) := by decide +kernel
theorem dX7_lure_37 : decode cX7_lure 37 = .ok (.aload_n 0, 1) := by decide +kernel
theorem dX7_lure_38 : decode cX7_lure 38 = .ok (.getfield 12, 3) := by decide +kernel
theorem dX7_lure_41 : decode cX7_lure 41 = .ok (.getfield 111, 3) := by decide +kernel
theorem dX7_lure_44 : decode cX7_lure 44 = .ok (.iconst 1, 1) := by decide +kernel
theorem dX7_lure_45 : decode cX7_lure 45 = .ok (.iload_n 1, 1) := by decide +kernel
theorem dX7_lure_46 : decode cX7_lure 46 = .ok (.ishl, 1) := by decide +kernel
theorem dX7_lure_47 : decode cX7_lure 47 = .ok (.iconst (-1), 1) := by decide +kernel
theorem dX7_lure_48 : decode cX7_lure 48 = .ok (.ixor, 1) := by decide +kernel
theorem dX7_lure_49 : decode cX7_lure 49 = .ok (.iand, 1) := by decide +kernel
theorem dX7_lure_50 : decode cX7_lure 50 = .ok (.invokevirtual 174, 3) := by decide +kernel
theorem dX7_lure_53 : decode cX7_lure 53 = .ok (.ireturn, 1) := by decide +kernel
set_option maxRecDepth 20000 in
theorem ggX7_reading_X7_isCorner : GoodIn wsX7_reading wsX7_isCorner := goodIn_r _ [7, 8, 9, 6, 10] (by decide +kernel) (by decide +kernel)
set_option maxRecDepth 20000 in
theorem gX7_reading_X7_isCorner : GoodIn wsX7_reading (va_wsS RX7 129 yX7_isCorner wsX7_isCorner) := goodIn_app (goodIn_of _ (by decide +kernel)) ggX7_reading_X7_isCorner
set_option maxRecDepth 20000 in
theorem ggX7_reading_X7_within : GoodIn wsX7_reading wsX7_within := goodIn_r _ [10] (by decide +kernel) (by decide +kernel)
set_option maxRecDepth 20000 in
theorem gX7_reading_X7_within : GoodIn wsX7_reading (va_wsS RX7 125 yX7_within wsX7_within) := goodIn_app (goodIn_of _ (by decide +kernel)) ggX7_reading_X7_within
set_option maxRecDepth 20000 in
theorem ggX7_reading_X1_stands : GoodIn wsX7_reading wsX1_stands := goodIn_r _ [15, 16, 35, 36, 37, 38, 39, 40] (by decide +kernel) (by decide +kernel)
set_option maxRecDepth 20000 in
theorem gX7_reading_X1_stands : GoodIn wsX7_reading (wsV RX7 132 RX1 yX1_stands wsX1_stands) := goodIn_app (goodIn_of _ (by decide +kernel)) ggX7_reading_X1_stands
set_option maxRecDepth 20000 in
theorem ggX7_reading_X3_add : GoodIn wsX7_reading wsX3_add := goodIn_r _ [21, 22, 23, 24, 32, 33, 34] (by decide +kernel) (by decide +kernel)
set_option maxRecDepth 20000 in
theorem gX7_reading_X3_add : GoodIn wsX7_reading (wsV RX7 178 RX3 yX3_add wsX3_add) := goodIn_app (goodIn_of _ (by decide +kernel)) ggX7_reading_X3_add
theorem dX7_reading_0 : decode cX7_reading 0 = .ok (.iload_n 1, 1) := by decide +kernel
theorem dX7_reading_1 : decode cX7_reading 1 = .ok (.invokestatic 129, 3) := by decide +kernel
theorem dX7_reading_4 : decode cX7_reading 4 = .ok (.ifCond .eq 13, 3) := by decide +kernel
theorem dX7_reading_7 : decode cX7_reading 7 = .ok (.iload_n 2, 1) := by decide +kernel
theorem dX7_reading_8 : decode cX7_reading 8 = .ok (.iconst 0, 1) := by decide +kernel
theorem dX7_reading_9 : decode cX7_reading 9 = .ok (.bipush 99, 2) := by decide +kernel
theorem dX7_reading_11 : decode cX7_reading 11 = .ok (.invokestatic 125, 3) := by decide +kernel
theorem dX7_reading_14 : decode cX7_reading 14 = .ok (.ifCond .ne 6, 3) := by decide +kernel
theorem dX7_reading_17 : decode cX7_reading 17 = .ok (.bipush (-2), 2) := by decide +kernel
theorem dX7_reading_19 : decode cX7_reading 19 = .ok (.ireturn, 1) := by decide +kernel
theorem dX7_reading_20 : decode cX7_reading 20 = .ok (.aload_n 0, 1) := by decide +kernel
theorem dX7_reading_21 : decode cX7_reading 21 = .ok (.getfield 12, 3) := by decide +kernel
theorem dX7_reading_24 : decode cX7_reading 24 = .ok (.invokevirtual 132, 3) := by decide +kernel
theorem dX7_reading_27 : decode cX7_reading 27 = .ok (.ifCond .ne 6, 3) := by decide +kernel
theorem dX7_reading_30 : decode cX7_reading 30 = .ok (.bipush (-3), 2) := by decide +kernel
theorem dX7_reading_32 : decode cX7_reading 32 = .ok (.ireturn, 1) := by decide +kernel
theorem dX7_reading_33 : decode cX7_reading 33 = .ok (.aload_n 0, 1) := by decide +kernel
theorem dX7_reading_34 : decode cX7_reading 34 = .ok (.getfield 21, 3) := by decide +kernel
theorem dX7_reading_37 : decode cX7_reading 37 = .ok (.getfield 80, 3) := by decide +kernel
theorem dX7_reading_40 : decode cX7_reading 40 = .ok (.bipush 8, 2) := by decide +kernel
theorem dX7_reading_42 : decode cX7_reading 42 = .ok (.if_icmp .lt 6, 3) := by decide +kernel
theorem dX7_reading_45 : decode cX7_reading 45 = .ok (.bipush (-4), 2) := by decide +kernel
theorem dX7_reading_47 : decode cX7_reading 47 = .ok (.ireturn, 1) := by decide +kernel
theorem dX7_reading_48 : decode cX7_reading 48 = .ok (.aload_n 0, 1) := by decide +kernel
theorem dX7_reading_49 : decode cX7_reading 49 = .ok (.getfield 21, 3) := by decide +kernel
theorem dX7_reading_52 : decode cX7_reading 52 = .ok (.iload_n 1, 1) := by decide +kernel
theorem dX7_reading_53 : decode cX7_reading 53 = .ok (.iload_n 2, 1) := by decide +kernel
theorem dX7_reading_54 : decode cX7_reading 54 = .ok (.invokevirtual 178, 3) := by decide +kernel
theorem dX7_reading_57 : decode cX7_reading 57 = .ok (.ireturn, 1) := by decide +kernel
set_option maxRecDepth 20000 in
theorem ggX7_back_X7_within : GoodIn wsX7_back wsX7_within := goodIn_r _ [6] (by decide +kernel) (by decide +kernel)
set_option maxRecDepth 20000 in
theorem gX7_back_X7_within : GoodIn wsX7_back (va_wsS RX7 125 yX7_within wsX7_within) := goodIn_app (goodIn_of _ (by decide +kernel)) ggX7_back_X7_within
theorem dX7_back_0 : decode cX7_back 0 = .ok (.iload_n 1, 1) := by decide +kernel
theorem dX7_back_1 : decode cX7_back 1 = .ok (.iconst 0, 1) := by decide +kernel
theorem dX7_back_2 : decode cX7_back 2 = .ok (.aload_n 0, 1) := by decide +kernel
theorem dX7_back_3 : decode cX7_back 3 = .ok (.getfield 21, 3) := by decide +kernel
theorem dX7_back_6 : decode cX7_back 6 = .ok (.getfield 80, 3) := by decide +kernel
theorem dX7_back_9 : decode cX7_back 9 = .ok (.invokestatic 125, 3) := by decide +kernel
theorem dX7_back_12 : decode cX7_back 12 = .ok (.ifCond .ne 6, 3) := by decide +kernel
theorem dX7_back_15 : decode cX7_back 15 = .ok (.bipush (-2), 2) := by decide +kernel
theorem dX7_back_17 : decode cX7_back 17 = .ok (.ireturn, 1) := by decide +kernel
theorem dX7_back_18 : decode cX7_back 18 = .ok (.aload_n 0, 1) := by decide +kernel
theorem dX7_back_19 : decode cX7_back 19 = .ok (.getfield 21, 3) := by decide +kernel
theorem dX7_back_22 : decode cX7_back 22 = .ok (.dup, 1) := by decide +kernel
theorem dX7_back_23 : decode cX7_back 23 = .ok (.getfield 80, 3) := by decide +kernel
theorem dX7_back_26 : decode cX7_back 26 = .ok (.iload_n 1, 1) := by decide +kernel
theorem dX7_back_27 : decode cX7_back 27 = .ok (.isub, 1) := by decide +kernel
theorem dX7_back_28 : decode cX7_back 28 = .ok (.putfield 80, 3) := by decide +kernel
theorem dX7_back_31 : decode cX7_back 31 = .ok (.aload_n 0, 1) := by decide +kernel
theorem dX7_back_32 : decode cX7_back 32 = .ok (.getfield 21, 3) := by decide +kernel
theorem dX7_back_35 : decode cX7_back 35 = .ok (.getfield 80, 3) := by decide +kernel
theorem dX7_back_38 : decode cX7_back 38 = .ok (.ireturn, 1) := by decide +kernel
set_option maxRecDepth 20000 in
theorem ggX7_gaieties_X1_isArticle : GoodIn wsX7_gaieties wsX1_isArticle := goodIn_r _ [10, 11, 60, 61, 62, 63, 64, 65] (by decide +kernel) (by decide +kernel)
set_option maxRecDepth 20000 in
theorem gX7_gaieties_X1_isArticle : GoodIn wsX7_gaieties (wsV RX7 86 RX1 yX1_isArticle wsX1_isArticle) := goodIn_app (goodIn_of _ (by decide +kernel)) ggX7_gaieties_X1_isArticle
set_option maxRecDepth 20000 in
theorem ggX7_gaieties_X1_laughIf : GoodIn wsX7_gaieties wsX1_laughIf := goodIn_r _ [15, 16, 17, 18, 19, 9, 20, 11, 21, 22, 23, 24, 25, 26, 27, 28, 29, 30, 31, 32, 33, 34, 35, 60, 61, 62, 63, 64, 65, 66, 67, 68, 69] (by decide +kernel) (by decide +kernel)
set_option maxRecDepth 20000 in
theorem gX7_gaieties_X1_laughIf : GoodIn wsX7_gaieties (wsV RX7 181 RX1 yX1_laughIf wsX1_laughIf) := goodIn_app (goodIn_of _ (by decide +kernel)) ggX7_gaieties_X1_laughIf
set_option maxRecDepth 20000 in
theorem ggX7_gaieties_X3_allAreSo : GoodIn wsX7_gaieties wsX3_allAreSo := goodIn_r _ [40, 41, 42, 43, 44, 23, 45, 46, 47, 48, 49, 50, 51, 52, 70, 71, 72] (by decide +kernel) (by decide +kernel)
set_option maxRecDepth 20000 in
theorem gX7_gaieties_X3_allAreSo : GoodIn wsX7_gaieties (wsV RX7 184 RX3 yX3_allAreSo wsX3_allAreSo) := goodIn_app (goodIn_of _ (by decide +kernel)) ggX7_gaieties_X3_allAreSo
theorem dX7_gaieties_0 : decode cX7_gaieties 0 = .ok (.aload_n 0, 1) := by decide +kernel
theorem dX7_gaieties_1 : decode cX7_gaieties 1 = .ok (.getfield 12, 3) := by decide +kernel
theorem dX7_gaieties_4 : decode cX7_gaieties 4 = .ok (.iload_n 1, 1) := by decide +kernel
theorem dX7_gaieties_5 : decode cX7_gaieties 5 = .ok (.invokevirtual 86, 3) := by decide +kernel
theorem dX7_gaieties_8 : decode cX7_gaieties 8 = .ok (.ifCond .ne 5, 3) := by decide +kernel
theorem dX7_gaieties_11 : decode cX7_gaieties 11 = .ok (.iconst (-1), 1) := by decide +kernel
theorem dX7_gaieties_12 : decode cX7_gaieties 12 = .ok (.ireturn, 1) := by decide +kernel
theorem dX7_gaieties_13 : decode cX7_gaieties 13 = .ok (.aload_n 0, 1) := by decide +kernel
theorem dX7_gaieties_14 : decode cX7_gaieties 14 = .ok (.getfield 12, 3) := by decide +kernel
theorem dX7_gaieties_17 : decode cX7_gaieties 17 = .ok (.getfield 89, 3) := by decide +kernel
theorem dX7_gaieties_20 : decode cX7_gaieties 20 = .ok (.iload_n 1, 1) := by decide +kernel
theorem dX7_gaieties_21 : decode cX7_gaieties 21 = .ok (.aaload, 1) := by decide +kernel
theorem dX7_gaieties_22 : decode cX7_gaieties 22 = .ok (.getfield 93, 3) := by decide +kernel
theorem dX7_gaieties_25 : decode cX7_gaieties 25 = .ok (.istore_n 2, 1) := by decide +kernel
theorem dX7_gaieties_26 : decode cX7_gaieties 26 = .ok (.iconst 0, 1) := by decide +kernel
theorem dX7_gaieties_27 : decode cX7_gaieties 27 = .ok (.istore_n 3, 1) := by decide +kernel
theorem dX7_gaieties_28 : decode cX7_gaieties 28 = .ok (.iconst 0, 1) := by decide +kernel
theorem dX7_gaieties_29 : decode cX7_gaieties 29 = .ok (.istore 4, 2) := by decide +kernel
theorem dX7_gaieties_31 : decode cX7_gaieties 31 = .ok (.iload 4, 2) := by decide +kernel
theorem dX7_gaieties_33 : decode cX7_gaieties 33 = .ok (.bipush 9, 2) := by decide +kernel
theorem dX7_gaieties_35 : decode cX7_gaieties 35 = .ok (.if_icmp .gt 44, 3) := by decide +kernel
theorem dX7_gaieties_38 : decode cX7_gaieties 38 = .ok (.aload_n 0, 1) := by decide +kernel
theorem dX7_gaieties_39 : decode cX7_gaieties 39 = .ok (.getfield 21, 3) := by decide +kernel
theorem dX7_gaieties_42 : decode cX7_gaieties 42 = .ok (.aload_n 0, 1) := by decide +kernel
theorem dX7_gaieties_43 : decode cX7_gaieties 43 = .ok (.getfield 12, 3) := by decide +kernel
theorem dX7_gaieties_46 : decode cX7_gaieties 46 = .ok (.getfield 136, 3) := by decide +kernel
theorem dX7_gaieties_49 : decode cX7_gaieties 49 = .ok (.aload_n 0, 1) := by decide +kernel
theorem dX7_gaieties_50 : decode cX7_gaieties 50 = .ok (.getfield 12, 3) := by decide +kernel
theorem dX7_gaieties_53 : decode cX7_gaieties 53 = .ok (.iload_n 1, 1) := by decide +kernel
theorem dX7_gaieties_54 : decode cX7_gaieties 54 = .ok (.iload_n 2, 1) := by decide +kernel
theorem dX7_gaieties_55 : decode cX7_gaieties 55 = .ok (.iload 4, 2) := by decide +kernel
theorem dX7_gaieties_57 : decode cX7_gaieties 57 = .ok (.invokevirtual 181, 3) := by decide +kernel
theorem dX7_gaieties_60 : decode cX7_gaieties 60 = .ok (.invokevirtual 184, 3) := by decide +kernel
theorem dX7_gaieties_63 : decode cX7_gaieties 63 = .ok (.ifCond .eq 10, 3) := by decide +kernel
theorem dX7_gaieties_66 : decode cX7_gaieties 66 = .ok (.iload_n 3, 1) := by decide +kernel
theorem dX7_gaieties_67 : decode cX7_gaieties 67 = .ok (.iconst 1, 1) := by decide +kernel
theorem dX7_gaieties_68 : decode cX7_gaieties 68 = .ok (.iload 4, 2) := by decide +kernel
theorem dX7_gaieties_70 : decode cX7_gaieties 70 = .ok (.ishl, 1) := by decide +kernel
theorem dX7_gaieties_71 : decode cX7_gaieties 71 = .ok (.ior, 1) := by decide +kernel
theorem dX7_gaieties_72 : decode cX7_gaieties 72 = .ok (.istore_n 3, 1) := by decide +kernel
theorem dX7_gaieties_73 : decode cX7_gaieties 73 = .ok (.iinc 4 1, 3) := by decide +kernel
theorem dX7_gaieties_76 : decode cX7_gaieties 76 = .ok (.goto (-45), 3) := by decide +kernel
theorem dX7_gaieties_79 : decode cX7_gaieties 79 = .ok (.iload_n 3, 1) := by decide +kernel
theorem dX7_gaieties_80 : decode cX7_gaieties 80 = .ok (.ireturn, 1) := by decide +kernel
set_option maxRecDepth 20000 in
theorem ggX7_kinds_X1_isArticle : GoodIn wsX7_kinds wsX1_isArticle := goodIn_r _ [10, 11, 60, 61, 62, 63, 64, 65] (by decide +kernel) (by decide +kernel)
set_option maxRecDepth 20000 in
theorem gX7_kinds_X1_isArticle : GoodIn wsX7_kinds (wsV RX7 86 RX1 yX1_isArticle wsX1_isArticle) := goodIn_app (goodIn_of _ (by decide +kernel)) ggX7_kinds_X1_isArticle
set_option maxRecDepth 20000 in
theorem ggX7_kinds_X1_laughIf : GoodIn wsX7_kinds wsX1_laughIf := goodIn_r _ [15, 16, 17, 18, 19, 9, 20, 11, 21, 22, 23, 24, 25, 26, 27, 28, 29, 30, 31, 32, 33, 34, 35, 60, 61, 62, 63, 64, 65, 66, 67, 68, 69] (by decide +kernel) (by decide +kernel)
set_option maxRecDepth 20000 in
theorem gX7_kinds_X1_laughIf : GoodIn wsX7_kinds (wsV RX7 181 RX1 yX1_laughIf wsX1_laughIf) := goodIn_app (goodIn_of _ (by decide +kernel)) ggX7_kinds_X1_laughIf
set_option maxRecDepth 20000 in
theorem ggX7_kinds_X3_allAreSo : GoodIn wsX7_kinds wsX3_allAreSo := goodIn_r _ [40, 41, 42, 43, 44, 23, 45, 46, 47, 48, 49, 50, 51, 52, 70, 71, 72] (by decide +kernel) (by decide +kernel)
set_option maxRecDepth 20000 in
theorem gX7_kinds_X3_allAreSo : GoodIn wsX7_kinds (wsV RX7 184 RX3 yX3_allAreSo wsX3_allAreSo) := goodIn_app (goodIn_of _ (by decide +kernel)) ggX7_kinds_X3_allAreSo
theorem dX7_kinds_0 : decode cX7_kinds 0 = .ok (.aload_n 0, 1) := by decide +kernel
theorem dX7_kinds_1 : decode cX7_kinds 1 = .ok (.getfield 12, 3) := by decide +kernel
theorem dX7_kinds_4 : decode cX7_kinds 4 = .ok (.iload_n 1, 1) := by decide +kernel
theorem dX7_kinds_5 : decode cX7_kinds 5 = .ok (.invokevirtual 86, 3) := by decide +kernel
theorem dX7_kinds_8 : decode cX7_kinds 8 = .ok (.ifCond .ne 5, 3) := by decide +kernel
theorem dX7_kinds_11 : decode cX7_kinds 11 = .ok (.iconst (-1), 1) := by decide +kernel
theorem dX7_kinds_12 : decode cX7_kinds 12 = .ok (.ireturn, 1) := by decide +kernel
theorem dX7_kinds_13 : decode cX7_kinds 13 = .ok (.aload_n 0, 1) := by decide +kernel
theorem dX7_kinds_14 : decode cX7_kinds 14 = .ok (.getfield 12, 3) := by decide +kernel
theorem dX7_kinds_17 : decode cX7_kinds 17 = .ok (.getfield 89, 3) := by decide +kernel
theorem dX7_kinds_20 : decode cX7_kinds 20 = .ok (.iload_n 1, 1) := by decide +kernel
theorem dX7_kinds_21 : decode cX7_kinds 21 = .ok (.aaload, 1) := by decide +kernel
theorem dX7_kinds_22 : decode cX7_kinds 22 = .ok (.getfield 101, 3) := by decide +kernel
theorem dX7_kinds_25 : decode cX7_kinds 25 = .ok (.istore_n 2, 1) := by decide +kernel
theorem dX7_kinds_26 : decode cX7_kinds 26 = .ok (.iconst 0, 1) := by decide +kernel
theorem dX7_kinds_27 : decode cX7_kinds 27 = .ok (.istore_n 3, 1) := by decide +kernel
theorem dX7_kinds_28 : decode cX7_kinds 28 = .ok (.iconst 0, 1) := by decide +kernel
theorem dX7_kinds_29 : decode cX7_kinds 29 = .ok (.istore 4, 2) := by decide +kernel
theorem dX7_kinds_31 : decode cX7_kinds 31 = .ok (.iload 4, 2) := by decide +kernel
theorem dX7_kinds_33 : decode cX7_kinds 33 = .ok (.iconst 3, 1) := by decide +kernel
theorem dX7_kinds_34 : decode cX7_kinds 34 = .ok (.if_icmp .ge 44, 3) := by decide +kernel
theorem dX7_kinds_37 : decode cX7_kinds 37 = .ok (.aload_n 0, 1) := by decide +kernel
theorem dX7_kinds_38 : decode cX7_kinds 38 = .ok (.getfield 21, 3) := by decide +kernel
theorem dX7_kinds_41 : decode cX7_kinds 41 = .ok (.aload_n 0, 1) := by decide +kernel
theorem dX7_kinds_42 : decode cX7_kinds 42 = .ok (.getfield 12, 3) := by decide +kernel
theorem dX7_kinds_45 : decode cX7_kinds 45 = .ok (.getfield 136, 3) := by decide +kernel
theorem dX7_kinds_48 : decode cX7_kinds 48 = .ok (.aload_n 0, 1) := by decide +kernel
theorem dX7_kinds_49 : decode cX7_kinds 49 = .ok (.getfield 12, 3) := by decide +kernel
theorem dX7_kinds_52 : decode cX7_kinds 52 = .ok (.iload_n 1, 1) := by decide +kernel
theorem dX7_kinds_53 : decode cX7_kinds 53 = .ok (.iload 4, 2) := by decide +kernel
theorem dX7_kinds_55 : decode cX7_kinds 55 = .ok (.iload_n 2, 1) := by decide +kernel
theorem dX7_kinds_56 : decode cX7_kinds 56 = .ok (.invokevirtual 181, 3) := by decide +kernel
theorem dX7_kinds_59 : decode cX7_kinds 59 = .ok (.invokevirtual 184, 3) := by decide +kernel
theorem dX7_kinds_62 : decode cX7_kinds 62 = .ok (.ifCond .eq 10, 3) := by decide +kernel
theorem dX7_kinds_65 : decode cX7_kinds 65 = .ok (.iload_n 3, 1) := by decide +kernel
theorem dX7_kinds_66 : decode cX7_kinds 66 = .ok (.iconst 1, 1) := by decide +kernel
theorem dX7_kinds_67 : decode cX7_kinds 67 = .ok (.iload 4, 2) := by decide +kernel
theorem dX7_kinds_69 : decode cX7_kinds 69 = .ok (.ishl, 1) := by decide +kernel
theorem dX7_kinds_70 : decode cX7_kinds 70 = .ok (.ior, 1) := by decide +kernel
theorem dX7_kinds_71 : decode cX7_kinds 71 = .ok (.istore_n 3, 1) := by decide +kernel
theorem dX7_kinds_72 : decode cX7_kinds 72 = .ok (.iinc 4 1, 3) := by decide +kernel
theorem dX7_kinds_75 : decode cX7_kinds 75 = .ok (.goto (-44), 3) := by decide +kernel
theorem dX7_kinds_78 : decode cX7_kinds 78 = .ok (.iload_n 3, 1) := by decide +kernel
theorem dX7_kinds_79 : decode cX7_kinds 79 = .ok (.ireturn, 1) := by decide +kernel
set_option maxRecDepth 20000 in
theorem ggX7_wheres_X7_within : GoodIn wsX7_wheres wsX7_within := goodIn_r _ [8] (by decide +kernel) (by decide +kernel)
set_option maxRecDepth 20000 in
theorem gX7_wheres_X7_within : GoodIn wsX7_wheres (va_wsS RX7 125 yX7_within wsX7_within) := goodIn_app (goodIn_of _ (by decide +kernel)) ggX7_wheres_X7_within
set_option maxRecDepth 20000 in
theorem ggX7_wheres_X1_stands : GoodIn wsX7_wheres wsX1_stands := goodIn_r _ [13, 14, 56, 57, 58, 59, 60, 61] (by decide +kernel) (by decide +kernel)
set_option maxRecDepth 20000 in
theorem gX7_wheres_X1_stands : GoodIn wsX7_wheres (wsV RX7 132 RX1 yX1_stands wsX1_stands) := goodIn_app (goodIn_of _ (by decide +kernel)) ggX7_wheres_X1_stands
set_option maxRecDepth 20000 in
theorem ggX7_wheres_X1_laughOf : GoodIn wsX7_wheres wsX1_laughOf := goodIn_r _ [18, 14, 19, 20, 7, 21, 22, 23, 24, 25, 26, 27, 28, 29, 30, 31, 56, 57, 58, 59, 60, 61, 62, 63, 64, 65] (by decide +kernel) (by decide +kernel)
set_option maxRecDepth 20000 in
theorem gX7_wheres_X1_laughOf : GoodIn wsX7_wheres (wsV RX7 148 RX1 yX1_laughOf wsX1_laughOf) := goodIn_app (goodIn_of _ (by decide +kernel)) ggX7_wheres_X1_laughOf
set_option maxRecDepth 20000 in
theorem ggX7_wheres_X3_allAreSo : GoodIn wsX7_wheres wsX3_allAreSo := goodIn_r _ [36, 37, 38, 39, 40, 7, 41, 42, 43, 44, 45, 46, 47, 48, 66, 67, 68] (by decide +kernel) (by decide +kernel)
set_option maxRecDepth 20000 in
theorem gX7_wheres_X3_allAreSo : GoodIn wsX7_wheres (wsV RX7 184 RX3 yX3_allAreSo wsX3_allAreSo) := goodIn_app (goodIn_of _ (by decide +kernel)) ggX7_wheres_X3_allAreSo
theorem dX7_wheres_0 : decode cX7_wheres 0 = .ok (.iload_n 1, 1) := by decide +kernel
theorem dX7_wheres_1 : decode cX7_wheres 1 = .ok (.iconst 0, 1) := by decide +kernel
theorem dX7_wheres_2 : decode cX7_wheres 2 = .ok (.iconst 1, 1) := by decide +kernel
theorem dX7_wheres_3 : decode cX7_wheres 3 = .ok (.invokestatic 125, 3) := by decide +kernel
theorem dX7_wheres_6 : decode cX7_wheres 6 = .ok (.ifCond .eq 13, 3) := by decide +kernel
theorem dX7_wheres_9 : decode cX7_wheres 9 = .ok (.aload_n 0, 1) := by decide +kernel
theorem dX7_wheres_10 : decode cX7_wheres 10 = .ok (.getfield 12, 3) := by decide +kernel
theorem dX7_wheres_13 : decode cX7_wheres 13 = .ok (.invokevirtual 132, 3) := by decide +kernel
theorem dX7_wheres_16 : decode cX7_wheres 16 = .ok (.ifCond .ne 7, 3) := by decide +kernel
theorem dX7_wheres_19 : decode cX7_wheres 19 = .ok (.ldc2_w 187, 3) := by decide +kernel
theorem dX7_wheres_22 : decode cX7_wheres 22 = .ok (.lreturn, 1) := by decide +kernel
theorem dX7_wheres_23 : decode cX7_wheres 23 = .ok (.aload_n 0, 1) := by decide +kernel
theorem dX7_wheres_24 : decode cX7_wheres 24 = .ok (.getfield 12, 3) := by decide +kernel
theorem dX7_wheres_27 : decode cX7_wheres 27 = .ok (.aload_n 0, 1) := by decide +kernel
theorem dX7_wheres_28 : decode cX7_wheres 28 = .ok (.getfield 12, 3) := by decide +kernel
theorem dX7_wheres_31 : decode cX7_wheres 31 = .ok (.getfield 111, 3) := by decide +kernel
theorem dX7_wheres_34 : decode cX7_wheres 34 = .ok (.invokevirtual 148, 3) := by decide +kernel
theorem dX7_wheres_37 : decode cX7_wheres 37 = .ok (.istore_n 2, 1) := by decide +kernel
theorem dX7_wheres_38 : decode cX7_wheres 38 = .ok (.lconst 0, 1) := by decide +kernel
theorem dX7_wheres_39 : decode cX7_wheres 39 = .ok (.lstore_n 3, 1) := by decide +kernel
theorem dX7_wheres_40 : decode cX7_wheres 40 = .ok (.iconst 0, 1) := by decide +kernel
theorem dX7_wheres_41 : decode cX7_wheres 41 = .ok (.istore 5, 2) := by decide +kernel
theorem dX7_wheres_43 : decode cX7_wheres 43 = .ok (.iload 5, 2) := by decide +kernel
theorem dX7_wheres_45 : decode cX7_wheres 45 = .ok (.bipush 32, 2) := by decide +kernel
theorem dX7_wheres_47 : decode cX7_wheres 47 = .ok (.if_icmp .ge 34, 3) := by decide +kernel
theorem dX7_wheres_50 : decode cX7_wheres 50 = .ok (.aload_n 0, 1) := by decide +kernel
theorem dX7_wheres_51 : decode cX7_wheres 51 = .ok (.getfield 21, 3) := by decide +kernel
theorem dX7_wheres_54 : decode cX7_wheres 54 = .ok (.bipush 32, 2) := by decide +kernel
theorem dX7_wheres_56 : decode cX7_wheres 56 = .ok (.iload_n 1, 1) := by decide +kernel
theorem dX7_wheres_57 : decode cX7_wheres 57 = .ok (.imul, 1) := by decide +kernel
theorem dX7_wheres_58 : decode cX7_wheres 58 = .ok (.iload 5, 2) := by decide +kernel
theorem dX7_wheres_60 : decode cX7_wheres 60 = .ok (.iadd, 1) := by decide +kernel
theorem dX7_wheres_61 : decode cX7_wheres 61 = .ok (.iload_n 2, 1) := by decide +kernel
theorem dX7_wheres_62 : decode cX7_wheres 62 = .ok (.invokevirtual 184, 3) := by decide +kernel
theorem dX7_wheres_65 : decode cX7_wheres 65 = .ok (.ifCond .eq 10, 3) := by decide +kernel
theorem dX7_wheres_68 : decode cX7_wheres 68 = .ok (.lload_n 3, 1) := by decide +kernel
theorem dX7_wheres_69 : decode cX7_wheres 69 = .ok (.lconst 1, 1) := by decide +kernel
theorem dX7_wheres_70 : decode cX7_wheres 70 = .ok (.iload 5, 2) := by decide +kernel
theorem dX7_wheres_72 : decode cX7_wheres 72 = .ok (.lshl, 1) := by decide +kernel
theorem dX7_wheres_73 : decode cX7_wheres 73 = .ok (.lor, 1) := by decide +kernel
theorem dX7_wheres_74 : decode cX7_wheres 74 = .ok (.lstore_n 3, 1) := by decide +kernel
theorem dX7_wheres_75 : decode cX7_wheres 75 = .ok (.iinc 5 1, 3) := by decide +kernel
theorem dX7_wheres_78 : decode cX7_wheres 78 = .ok (.goto (-35), 3) := by decide +kernel
theorem dX7_wheres_81 : decode cX7_wheres 81 = .ok (.lload_n 3, 1) := by decide +kernel
theorem dX7_wheres_82 : decode cX7_wheres 82 = .ok (.lreturn, 1) := by decide +kernel
set_option maxRecDepth 20000 in
theorem ggX7_odds_X1_isArticle : GoodIn wsX7_odds wsX1_isArticle := goodIn_r _ [8, 9, 60, 61, 62, 63, 64, 65] (by decide +kernel) (by decide +kernel)
set_option maxRecDepth 20000 in
theorem gX7_odds_X1_isArticle : GoodIn wsX7_odds (wsV RX7 86 RX1 yX1_isArticle wsX1_isArticle) := goodIn_app (goodIn_of _ (by decide +kernel)) ggX7_odds_X1_isArticle
set_option maxRecDepth 20000 in
theorem ggX7_odds_X7_within : GoodIn wsX7_odds wsX7_within := goodIn_r _ [13] (by decide +kernel) (by decide +kernel)
set_option maxRecDepth 20000 in
theorem gX7_odds_X7_within : GoodIn wsX7_odds (va_wsS RX7 125 yX7_within wsX7_within) := goodIn_app (goodIn_of _ (by decide +kernel)) ggX7_odds_X7_within
set_option maxRecDepth 20000 in
theorem ggX7_odds_X7_has : GoodIn wsX7_odds wsX7_has := goodIn_r _ [16] (by decide +kernel) (by decide +kernel)
set_option maxRecDepth 20000 in
theorem gX7_odds_X7_has : GoodIn wsX7_odds (va_wsS RX7 114 yX7_has wsX7_has) := goodIn_app (goodIn_of _ (by decide +kernel)) ggX7_odds_X7_has
set_option maxRecDepth 20000 in
theorem ggX7_odds_X1_setsThatLeave : GoodIn wsX7_odds wsX1_setsThatLeave := goodIn_r _ [20, 21, 22, 23, 24, 7, 25, 26, 27, 28, 29, 9, 30, 31, 32, 33, 34, 35, 15, 12, 16, 36, 37, 38, 39, 40, 41, 42, 43, 44, 45, 60, 61, 62, 63, 64, 65, 66, 67, 68, 69] (by decide +kernel) (by decide +kernel)
set_option maxRecDepth 20000 in
theorem gX7_odds_X1_setsThatLeave : GoodIn wsX7_odds (wsV RX7 189 RX1 yX1_setsThatLeave wsX1_setsThatLeave) := goodIn_app (goodIn_of _ (by decide +kernel)) ggX7_odds_X1_setsThatLeave
set_option maxRecDepth 20000 in
theorem ggX7_odds_J6_bitCount_0f7a4 : GoodIn wsX7_odds wsJ6_bitCount_0f7a4 := goodIn_r _ [49, 50, 51, 52] (by decide +kernel) (by decide +kernel)
set_option maxRecDepth 20000 in
theorem gX7_odds_J6_bitCount_0f7a4 : GoodIn wsX7_odds (va_wsS RX7 192 yJ6_bitCount_0f7a4 wsJ6_bitCount_0f7a4) := goodIn_app (goodIn_of _ (by decide +kernel)) ggX7_odds_J6_bitCount_0f7a4
theorem dX7_odds_0 : decode cX7_odds 0 = .ok (.aload_n 0, 1) := by decide +kernel
theorem dX7_odds_1 : decode cX7_odds 1 = .ok (.getfield 12, 3) := by decide +kernel
theorem dX7_odds_4 : decode cX7_odds 4 = .ok (.iload_n 1, 1) := by decide +kernel
theorem dX7_odds_5 : decode cX7_odds 5 = .ok (.invokevirtual 86, 3) := by decide +kernel
theorem dX7_odds_8 : decode cX7_odds 8 = .ok (.ifCond .eq 26, 3) := by decide +kernel
theorem dX7_odds_11 : decode cX7_odds 11 = .ok (.iload_n 2, 1) := by decide +kernel
theorem dX7_odds_12 : decode cX7_odds 12 = .ok (.iconst 0, 1) := by decide +kernel
theorem dX7_odds_13 : decode cX7_odds 13 = .ok (.iconst 1, 1) := by decide +kernel
theorem dX7_odds_14 : decode cX7_odds 14 = .ok (.invokestatic 125, 3) := by decide +kernel
theorem dX7_odds_17 : decode cX7_odds 17 = .ok (.ifCond .eq 17, 3) := by decide +kernel
theorem dX7_odds_20 : decode cX7_odds 20 = .ok (.aload_n 0, 1) := by decide +kernel
theorem dX7_odds_21 : decode cX7_odds 21 = .ok (.getfield 12, 3) := by decide +kernel
theorem dX7_odds_24 : decode cX7_odds 24 = .ok (.getfield 111, 3) := by decide +kernel
theorem dX7_odds_27 : decode cX7_odds 27 = .ok (.iload_n 1, 1) := by decide +kernel
theorem dX7_odds_28 : decode cX7_odds 28 = .ok (.invokestatic 114, 3) := by decide +kernel
theorem dX7_odds_31 : decode cX7_odds 31 = .ok (.ifCond .ne 7, 3) := by decide +kernel
theorem dX7_odds_34 : decode cX7_odds 34 = .ok (.ldc2_w 187, 3) := by decide +kernel
theorem dX7_odds_37 : decode cX7_odds 37 = .ok (.lreturn, 1) := by decide +kernel
theorem dX7_odds_38 : decode cX7_odds 38 = .ok (.aload_n 0, 1) := by decide +kernel
theorem dX7_odds_39 : decode cX7_odds 39 = .ok (.getfield 12, 3) := by decide +kernel
theorem dX7_odds_42 : decode cX7_odds 42 = .ok (.iload_n 1, 1) := by decide +kernel
theorem dX7_odds_43 : decode cX7_odds 43 = .ok (.invokevirtual 189, 3) := by decide +kernel
theorem dX7_odds_46 : decode cX7_odds 46 = .ok (.istore_n 3, 1) := by decide +kernel
theorem dX7_odds_47 : decode cX7_odds 47 = .ok (.iconst 1, 1) := by decide +kernel
theorem dX7_odds_48 : decode cX7_odds 48 = .ok (.aload_n 0, 1) := by decide +kernel
theorem dX7_odds_49 : decode cX7_odds 49 = .ok (.getfield 12, 3) := by decide +kernel
theorem dX7_odds_52 : decode cX7_odds 52 = .ok (.getfield 111, 3) := by decide +kernel
theorem dX7_odds_55 : decode cX7_odds 55 = .ok (.invokestatic 192, 3) := by decide +kernel
theorem dX7_odds_58 : decode cX7_odds 58 = .ok (.ishl, 1) := by decide +kernel
theorem dX7_odds_59 : decode cX7_odds 59 = .ok (.istore 4, 2) := by decide +kernel
theorem dX7_odds_61 : decode cX7_odds 61 = .ok (.iconst 0, 1) := by decide +kernel
theorem dX7_odds_62 : decode cX7_odds 62 = .ok (.istore 5, 2) := by decide +kernel
theorem dX7_odds_64 : decode cX7_odds 64 = .ok (.iload 5, 2) := by decide +kernel
theorem dX7_odds_66 : decode cX7_odds 66 = .ok (.bipush 6, 2) := by decide +kernel
theorem dX7_odds_68 : decode cX7_odds 68 = .ok (.if_icmp .ge 31, 3) := by decide +kernel
theorem dX7_odds_71 : decode cX7_odds 71 = .ok (.iload 4, 2) := by decide +kernel
theorem dX7_odds_73 : decode cX7_odds 73 = .ok (.iconst 1, 1) := by decide +kernel
theorem dX7_odds_74 : decode cX7_odds 74 = .ok (.if_icmp .le 25, 3) := by decide +kernel
theorem dX7_odds_77 : decode cX7_odds 77 = .ok (.iload_n 3, 1) := by decide +kernel
theorem dX7_odds_78 : decode cX7_odds 78 = .ok (.iconst 1, 1) := by decide +kernel
theorem dX7_odds_79 : decode cX7_odds 79 = .ok (.iand, 1) := by decide +kernel
theorem dX7_odds_80 : decode cX7_odds 80 = .ok (.ifCond .ne 19, 3) := by decide +kernel
theorem dX7_odds_83 : decode cX7_odds 83 = .ok (.iload_n 3, 1) := by decide +kernel
theorem dX7_odds_84 : decode cX7_odds 84 = .ok (.iconst 1, 1) := by decide +kernel
theorem dX7_odds_85 : decode cX7_odds 85 = .ok (.ishr, 1) := by decide +kernel
theorem dX7_odds_86 : decode cX7_odds 86 = .ok (.istore_n 3, 1) := by decide +kernel
theorem dX7_odds_87 : decode cX7_odds 87 = .ok (.iload 4, 2) := by decide +kernel
theorem dX7_odds_89 : decode cX7_odds 89 = .ok (.iconst 1, 1) := by decide +kernel
theorem dX7_odds_90 : decode cX7_odds 90 = .ok (.ishr, 1) := by decide +kernel
theorem dX7_odds_91 : decode cX7_odds 91 = .ok (.istore 4, 2) := by decide +kernel
theorem dX7_odds_93 : decode cX7_odds 93 = .ok (.iinc 5 1, 3) := by decide +kernel
theorem dX7_odds_96 : decode cX7_odds 96 = .ok (.goto (-32), 3) := by decide +kernel
theorem dX7_odds_99 : decode cX7_odds 99 = .ok (.iload_n 2, 1) := by decide +kernel
theorem dX7_odds_100 : decode cX7_odds 100 = .ok (.ifCond .ne 8, 3) := by decide +kernel
theorem dX7_odds_103 : decode cX7_odds 103 = .ok (.iload_n 3, 1) := by decide +kernel
theorem dX7_odds_104 : decode cX7_odds 104 = .ok (.i2l, 1) := by decide +kernel
theorem dX7_odds_105 : decode cX7_odds 105 = .ok (.goto 6, 3) := by decide +kernel
theorem dX7_odds_108 : decode cX7_odds 108 = .ok (.iload 4, 2) := by decide +kernel
theorem dX7_odds_110 : decode cX7_odds 110 = .ok (.i2l, 1) := by decide +kernel
theorem dX7_odds_111 : decode cX7_odds 111 = .ok (.lreturn, 1) := by decide +kernel
set_option maxRecDepth 20000 in
theorem ggX7_sheet_X7_isSheet : GoodIn wsX7_sheet wsX7_isSheet := goodIn_r _ [6, 7, 8, 5, 9] (by decide +kernel) (by decide +kernel)
set_option maxRecDepth 20000 in
theorem gX7_sheet_X7_isSheet : GoodIn wsX7_sheet (va_wsS RX7 55 yX7_isSheet wsX7_isSheet) := goodIn_app (goodIn_of _ (by decide +kernel)) ggX7_sheet_X7_isSheet
set_option maxRecDepth 20000 in
theorem ggX7_sheet_X7_isLane : GoodIn wsX7_sheet wsX7_isLane := goodIn_r _ [12, 7, 8, 5, 9] (by decide +kernel) (by decide +kernel)
set_option maxRecDepth 20000 in
theorem gX7_sheet_X7_isLane : GoodIn wsX7_sheet (va_wsS RX7 59 yX7_isLane wsX7_isLane) := goodIn_app (goodIn_of _ (by decide +kernel)) ggX7_sheet_X7_isLane
set_option maxRecDepth 20000 in
theorem ggX7_sheet_X7_failed : GoodIn wsX7_sheet wsX7_failed := goodIn_r _ [16, 1, 32, 33, 34, 35, 36, 37, 38] (by decide +kernel) (by decide +kernel)
set_option maxRecDepth 20000 in
theorem gX7_sheet_X7_failed : GoodIn wsX7_sheet (wsV RX7 66 RX7 yX7_failed wsX7_failed) := goodIn_app (goodIn_of _ (by decide +kernel)) ggX7_sheet_X7_failed
set_option maxRecDepth 20000 in
theorem ggX7_sheet_X4_renew : GoodIn wsX7_sheet wsX4_renew := goodIn_r _ [21, 22, 23, 24, 25, 26, 27, 28, 29, 30, 31, 39, 40, 41] (by decide +kernel) (by decide +kernel)
set_option maxRecDepth 20000 in
theorem gX7_sheet_X4_renew : GoodIn wsX7_sheet (wsV RX7 197 RX4 yX4_renew wsX4_renew) := goodIn_app (goodIn_of _ (by decide +kernel)) ggX7_sheet_X4_renew
theorem dX7_sheet_0 : decode cX7_sheet 0 = .ok (.aload_n 0, 1) := by decide +kernel
theorem dX7_sheet_1 : decode cX7_sheet 1 = .ok (.iconst 0, 1) := by decide +kernel
theorem dX7_sheet_2 : decode cX7_sheet 2 = .ok (.putfield 52, 3) := by decide +kernel
theorem dX7_sheet_5 : decode cX7_sheet 5 = .ok (.iload_n 1, 1) := by decide +kernel
theorem dX7_sheet_6 : decode cX7_sheet 6 = .ok (.invokestatic 55, 3) := by decide +kernel
theorem dX7_sheet_9 : decode cX7_sheet 9 = .ok (.ifCond .ne 5, 3) := by decide +kernel
theorem dX7_sheet_12 : decode cX7_sheet 12 = .ok (.iconst (-1), 1) := by decide +kernel
theorem dX7_sheet_13 : decode cX7_sheet 13 = .ok (.ireturn, 1) := by decide +kernel
theorem dX7_sheet_14 : decode cX7_sheet 14 = .ok (.iload_n 2, 1) := by decide +kernel
theorem dX7_sheet_15 : decode cX7_sheet 15 = .ok (.invokestatic 59, 3) := by decide +kernel
theorem dX7_sheet_18 : decode cX7_sheet 18 = .ok (.ifCond .eq 9, 3) := by decide +kernel
theorem dX7_sheet_21 : decode cX7_sheet 21 = .ok (.iload_n 3, 1) := by decide +kernel
theorem dX7_sheet_22 : decode cX7_sheet 22 = .ok (.bipush 60, 2) := by decide +kernel
theorem dX7_sheet_24 : decode cX7_sheet 24 = .ok (.if_icmp .le 6, 3) := by decide +kernel
theorem dX7_sheet_27 : decode cX7_sheet 27 = .ok (.bipush (-2), 2) := by decide +kernel
theorem dX7_sheet_29 : decode cX7_sheet 29 = .ok (.ireturn, 1) := by decide +kernel
theorem dX7_sheet_30 : decode cX7_sheet 30 = .ok (.iload_n 3, 1) := by decide +kernel
theorem dX7_sheet_31 : decode cX7_sheet 31 = .ok (.ifCond .ge 9, 3) := by decide +kernel
theorem dX7_sheet_34 : decode cX7_sheet 34 = .ok (.aload_n 0, 1) := by decide +kernel
theorem dX7_sheet_35 : decode cX7_sheet 35 = .ok (.iconst 4, 1) := by decide +kernel
theorem dX7_sheet_36 : decode cX7_sheet 36 = .ok (.invokevirtual 66, 3) := by decide +kernel
theorem dX7_sheet_39 : decode cX7_sheet 39 = .ok (.ireturn, 1) := by decide +kernel
theorem dX7_sheet_40 : decode cX7_sheet 40 = .ok (.aload_n 0, 1) := by decide +kernel
theorem dX7_sheet_41 : decode cX7_sheet 41 = .ok (.getfield 43, 3) := by decide +kernel
theorem dX7_sheet_44 : decode cX7_sheet 44 = .ok (.iload_n 1, 1) := by decide +kernel
theorem dX7_sheet_45 : decode cX7_sheet 45 = .ok (.aaload, 1) := by decide +kernel
theorem dX7_sheet_46 : decode cX7_sheet 46 = .ok (.iload_n 2, 1) := by decide +kernel
theorem dX7_sheet_47 : decode cX7_sheet 47 = .ok (.iload_n 3, 1) := by decide +kernel
theorem dX7_sheet_48 : decode cX7_sheet 48 = .ok (.invokevirtual 197, 3) := by decide +kernel
theorem dX7_sheet_51 : decode cX7_sheet 51 = .ok (.iconst 1, 1) := by decide +kernel
theorem dX7_sheet_52 : decode cX7_sheet 52 = .ok (.ireturn, 1) := by decide +kernel
set_option maxRecDepth 20000 in
theorem ggX7_lose_X7_isSheet : GoodIn wsX7_lose wsX7_isSheet := goodIn_r _ [5, 6, 7, 4, 8] (by decide +kernel) (by decide +kernel)
set_option maxRecDepth 20000 in
theorem gX7_lose_X7_isSheet : GoodIn wsX7_lose (va_wsS RX7 55 yX7_isSheet wsX7_isSheet) := goodIn_app (goodIn_of _ (by decide +kernel)) ggX7_lose_X7_isSheet
set_option maxRecDepth 20000 in
theorem ggX7_lose_X4_hasNothing : GoodIn wsX7_lose wsX4_hasNothing := goodIn_r _ [13, 14, 27, 28, 29] (by decide +kernel) (by decide +kernel)
set_option maxRecDepth 20000 in
theorem gX7_lose_X4_hasNothing : GoodIn wsX7_lose (wsV RX7 201 RX4 yX4_hasNothing wsX4_hasNothing) := goodIn_app (goodIn_of _ (by decide +kernel)) ggX7_lose_X4_hasNothing
set_option maxRecDepth 20000 in
theorem ggX7_lose_X4_clear : GoodIn wsX7_lose wsX4_clear := goodIn_r _ [18, 14, 19, 27, 28, 29] (by decide +kernel) (by decide +kernel)
set_option maxRecDepth 20000 in
theorem gX7_lose_X4_clear : GoodIn wsX7_lose (wsV RX7 204 RX4 yX4_clear wsX4_clear) := goodIn_app (goodIn_of _ (by decide +kernel)) ggX7_lose_X4_clear
theorem dX7_lose_0 : decode cX7_lose 0 = .ok (.iload_n 1, 1) := by decide +kernel
theorem dX7_lose_1 : decode cX7_lose 1 = .ok (.invokestatic 55, 3) := by decide +kernel
theorem dX7_lose_4 : decode cX7_lose 4 = .ok (.ifCond .ne 5, 3) := by decide +kernel
theorem dX7_lose_7 : decode cX7_lose 7 = .ok (.iconst (-1), 1) := by decide +kernel
theorem dX7_lose_8 : decode cX7_lose 8 = .ok (.ireturn, 1) := by decide +kernel
theorem dX7_lose_9 : decode cX7_lose 9 = .ok (.aload_n 0, 1) := by decide +kernel
theorem dX7_lose_10 : decode cX7_lose 10 = .ok (.getfield 43, 3) := by decide +kernel
theorem dX7_lose_13 : decode cX7_lose 13 = .ok (.iload_n 1, 1) := by decide +kernel
theorem dX7_lose_14 : decode cX7_lose 14 = .ok (.aaload, 1) := by decide +kernel
theorem dX7_lose_15 : decode cX7_lose 15 = .ok (.invokevirtual 201, 3) := by decide +kernel
theorem dX7_lose_18 : decode cX7_lose 18 = .ok (.ifCond .eq 5, 3) := by decide +kernel
theorem dX7_lose_21 : decode cX7_lose 21 = .ok (.iconst 0, 1) := by decide +kernel
theorem dX7_lose_22 : decode cX7_lose 22 = .ok (.ireturn, 1) := by decide +kernel
theorem dX7_lose_23 : decode cX7_lose 23 = .ok (.aload_n 0, 1) := by decide +kernel
theorem dX7_lose_24 : decode cX7_lose 24 = .ok (.getfield 43, 3) := by decide +kernel
theorem dX7_lose_27 : decode cX7_lose 27 = .ok (.iload_n 1, 1) := by decide +kernel
theorem dX7_lose_28 : decode cX7_lose 28 = .ok (.aaload, 1) := by decide +kernel
theorem dX7_lose_29 : decode cX7_lose 29 = .ok (.invokevirtual 204, 3) := by decide +kernel
theorem dX7_lose_32 : decode cX7_lose 32 = .ok (.iconst 1, 1) := by decide +kernel
theorem dX7_lose_33 : decode cX7_lose 33 = .ok (.ireturn, 1) := by decide +kernel
set_option maxRecDepth 20000 in
theorem ggX7_put_X7_isSheet : GoodIn wsX7_put wsX7_isSheet := goodIn_r _ [6, 7, 8, 5, 9] (by decide +kernel) (by decide +kernel)
set_option maxRecDepth 20000 in
theorem gX7_put_X7_isSheet : GoodIn wsX7_put (va_wsS RX7 55 yX7_isSheet wsX7_isSheet) := goodIn_app (goodIn_of _ (by decide +kernel)) ggX7_put_X7_isSheet
set_option maxRecDepth 20000 in
theorem ggX7_put_X4_hasNothing : GoodIn wsX7_put wsX4_hasNothing := goodIn_r _ [14, 15, 41, 42, 43] (by decide +kernel) (by decide +kernel)
set_option maxRecDepth 20000 in
theorem gX7_put_X4_hasNothing : GoodIn wsX7_put (wsV RX7 201 RX4 yX4_hasNothing wsX4_hasNothing) := goodIn_app (goodIn_of _ (by decide +kernel)) ggX7_put_X4_hasNothing
set_option maxRecDepth 20000 in
theorem ggX7_put_X7_failed : GoodIn wsX7_put wsX7_failed := goodIn_r _ [19, 1, 34, 35, 36, 37, 38, 39, 40] (by decide +kernel) (by decide +kernel)
set_option maxRecDepth 20000 in
theorem gX7_put_X7_failed : GoodIn wsX7_put (wsV RX7 66 RX7 yX7_failed wsX7_failed) := goodIn_app (goodIn_of _ (by decide +kernel)) ggX7_put_X7_failed
set_option maxRecDepth 20000 in
theorem ggX7_put_X4_holds : GoodIn wsX7_put wsX4_holds := goodIn_r _ [23, 24, 41, 42, 43] (by decide +kernel) (by decide +kernel)
set_option maxRecDepth 20000 in
theorem gX7_put_X4_holds : GoodIn wsX7_put (wsV RX7 207 RX4 yX4_holds wsX4_holds) := goodIn_app (goodIn_of _ (by decide +kernel)) ggX7_put_X4_holds
set_option maxRecDepth 20000 in
theorem ggX7_put_X4_write : GoodIn wsX7_put wsX4_write := goodIn_r _ [28, 24, 29, 30, 31, 32, 13, 33, 15, 41, 42, 43] (by decide +kernel) (by decide +kernel)
set_option maxRecDepth 20000 in
theorem gX7_put_X4_write : GoodIn wsX7_put (wsV RX7 210 RX4 yX4_write wsX4_write) := goodIn_app (goodIn_of _ (by decide +kernel)) ggX7_put_X4_write
theorem dX7_put_0 : decode cX7_put 0 = .ok (.aload_n 0, 1) := by decide +kernel
theorem dX7_put_1 : decode cX7_put 1 = .ok (.iconst 0, 1) := by decide +kernel
theorem dX7_put_2 : decode cX7_put 2 = .ok (.putfield 52, 3) := by decide +kernel
theorem dX7_put_5 : decode cX7_put 5 = .ok (.iload_n 1, 1) := by decide +kernel
theorem dX7_put_6 : decode cX7_put 6 = .ok (.invokestatic 55, 3) := by decide +kernel
theorem dX7_put_9 : decode cX7_put 9 = .ok (.ifCond .ne 5, 3) := by decide +kernel
theorem dX7_put_12 : decode cX7_put 12 = .ok (.iconst (-1), 1) := by decide +kernel
theorem dX7_put_13 : decode cX7_put 13 = .ok (.ireturn, 1) := by decide +kernel
theorem dX7_put_14 : decode cX7_put 14 = .ok (.aload_n 0, 1) := by decide +kernel
theorem dX7_put_15 : decode cX7_put 15 = .ok (.getfield 43, 3) := by decide +kernel
theorem dX7_put_18 : decode cX7_put 18 = .ok (.iload_n 1, 1) := by decide +kernel
theorem dX7_put_19 : decode cX7_put 19 = .ok (.aaload, 1) := by decide +kernel
theorem dX7_put_20 : decode cX7_put 20 = .ok (.invokevirtual 201, 3) := by decide +kernel
theorem dX7_put_23 : decode cX7_put 23 = .ok (.ifCond .eq 9, 3) := by decide +kernel
theorem dX7_put_26 : decode cX7_put 26 = .ok (.aload_n 0, 1) := by decide +kernel
theorem dX7_put_27 : decode cX7_put 27 = .ok (.iconst 1, 1) := by decide +kernel
theorem dX7_put_28 : decode cX7_put 28 = .ok (.invokevirtual 66, 3) := by decide +kernel
theorem dX7_put_31 : decode cX7_put 31 = .ok (.ireturn, 1) := by decide +kernel
theorem dX7_put_32 : decode cX7_put 32 = .ok (.aload_n 0, 1) := by decide +kernel
theorem dX7_put_33 : decode cX7_put 33 = .ok (.getfield 43, 3) := by decide +kernel
theorem dX7_put_36 : decode cX7_put 36 = .ok (.iload_n 1, 1) := by decide +kernel
theorem dX7_put_37 : decode cX7_put 37 = .ok (.aaload, 1) := by decide +kernel
theorem dX7_put_38 : decode cX7_put 38 = .ok (.iload_n 2, 1) := by decide +kernel
theorem dX7_put_39 : decode cX7_put 39 = .ok (.iconst 1, 1) := by decide +kernel
theorem dX7_put_40 : decode cX7_put 40 = .ok (.invokevirtual 207, 3) := by decide +kernel
theorem dX7_put_43 : decode cX7_put 43 = .ok (.ifCond .ne 9, 3) := by decide +kernel
theorem dX7_put_46 : decode cX7_put 46 = .ok (.aload_n 0, 1) := by decide +kernel
theorem dX7_put_47 : decode cX7_put 47 = .ok (.iconst 3, 1) := by decide +kernel
theorem dX7_put_48 : decode cX7_put 48 = .ok (.invokevirtual 66, 3) := by decide +kernel
theorem dX7_put_51 : decode cX7_put 51 = .ok (.ireturn, 1) := by decide +kernel
theorem dX7_put_52 : decode cX7_put 52 = .ok (.aload_n 0, 1) := by decide +kernel
theorem dX7_put_53 : decode cX7_put 53 = .ok (.getfield 43, 3) := by decide +kernel
theorem dX7_put_56 : decode cX7_put 56 = .ok (.iload_n 1, 1) := by decide +kernel
theorem dX7_put_57 : decode cX7_put 57 = .ok (.aaload, 1) := by decide +kernel
theorem dX7_put_58 : decode cX7_put 58 = .ok (.iload_n 2, 1) := by decide +kernel
theorem dX7_put_59 : decode cX7_put 59 = .ok (.iload_n 3, 1) := by decide +kernel
theorem dX7_put_60 : decode cX7_put 60 = .ok (.invokevirtual 210, 3) := by decide +kernel
theorem dX7_put_63 : decode cX7_put 63 = .ok (.iconst 1, 1) := by decide +kernel
theorem dX7_put_64 : decode cX7_put 64 = .ok (.ireturn, 1) := by decide +kernel
set_option maxRecDepth 20000 in
theorem ggX7_cell_X7_isSheet : GoodIn wsX7_cell wsX7_isSheet := goodIn_r _ [7, 8, 9, 6, 10] (by decide +kernel) (by decide +kernel)
set_option maxRecDepth 20000 in
theorem gX7_cell_X7_isSheet : GoodIn wsX7_cell (va_wsS RX7 55 yX7_isSheet wsX7_isSheet) := goodIn_app (goodIn_of _ (by decide +kernel)) ggX7_cell_X7_isSheet
set_option maxRecDepth 20000 in
theorem ggX7_cell_X7_isLane : GoodIn wsX7_cell wsX7_isLane := goodIn_r _ [13, 8, 9, 6, 10] (by decide +kernel) (by decide +kernel)
set_option maxRecDepth 20000 in
theorem gX7_cell_X7_isLane : GoodIn wsX7_cell (va_wsS RX7 59 yX7_isLane wsX7_isLane) := goodIn_app (goodIn_of _ (by decide +kernel)) ggX7_cell_X7_isLane
set_option maxRecDepth 20000 in
theorem ggX7_cell_X4_faultOfTaking : GoodIn wsX7_cell wsX4_faultOfTaking := goodIn_r _ [18, 19, 20, 21, 22, 17, 23, 24, 25, 26, 27, 28, 41, 42, 43] (by decide +kernel) (by decide +kernel)
set_option maxRecDepth 20000 in
theorem gX7_cell_X4_faultOfTaking : GoodIn wsX7_cell (wsV RX7 62 RX4 yX4_faultOfTaking wsX4_faultOfTaking) := goodIn_app (goodIn_of _ (by decide +kernel)) ggX7_cell_X4_faultOfTaking
set_option maxRecDepth 20000 in
theorem ggX7_cell_X4_at : GoodIn wsX7_cell wsX4_at := goodIn_r _ [32, 28, 33, 41, 42, 43] (by decide +kernel) (by decide +kernel)
set_option maxRecDepth 20000 in
theorem gX7_cell_X4_at : GoodIn wsX7_cell (wsV RX7 213 RX4 yX4_at wsX4_at) := goodIn_app (goodIn_of _ (by decide +kernel)) ggX7_cell_X4_at
theorem dX7_cell_0 : decode cX7_cell 0 = .ok (.aload_n 0, 1) := by decide +kernel
theorem dX7_cell_1 : decode cX7_cell 1 = .ok (.iconst 0, 1) := by decide +kernel
theorem dX7_cell_2 : decode cX7_cell 2 = .ok (.putfield 52, 3) := by decide +kernel
theorem dX7_cell_5 : decode cX7_cell 5 = .ok (.iload_n 1, 1) := by decide +kernel
theorem dX7_cell_6 : decode cX7_cell 6 = .ok (.invokestatic 55, 3) := by decide +kernel
theorem dX7_cell_9 : decode cX7_cell 9 = .ok (.ifCond .eq 10, 3) := by decide +kernel
theorem dX7_cell_12 : decode cX7_cell 12 = .ok (.iload_n 3, 1) := by decide +kernel
theorem dX7_cell_13 : decode cX7_cell 13 = .ok (.invokestatic 59, 3) := by decide +kernel
theorem dX7_cell_16 : decode cX7_cell 16 = .ok (.ifCond .ne 7, 3) := by decide +kernel
theorem dX7_cell_19 : decode cX7_cell 19 = .ok (.ldc2_w 187, 3) := by decide +kernel
theorem dX7_cell_22 : decode cX7_cell 22 = .ok (.lreturn, 1) := by decide +kernel
theorem dX7_cell_23 : decode cX7_cell 23 = .ok (.aload_n 0, 1) := by decide +kernel
theorem dX7_cell_24 : decode cX7_cell 24 = .ok (.aload_n 0, 1) := by decide +kernel
theorem dX7_cell_25 : decode cX7_cell 25 = .ok (.getfield 43, 3) := by decide +kernel
theorem dX7_cell_28 : decode cX7_cell 28 = .ok (.iload_n 1, 1) := by decide +kernel
theorem dX7_cell_29 : decode cX7_cell 29 = .ok (.aaload, 1) := by decide +kernel
theorem dX7_cell_30 : decode cX7_cell 30 = .ok (.iload_n 3, 1) := by decide +kernel
theorem dX7_cell_31 : decode cX7_cell 31 = .ok (.iload_n 2, 1) := by decide +kernel
theorem dX7_cell_32 : decode cX7_cell 32 = .ok (.iconst 1, 1) := by decide +kernel
theorem dX7_cell_33 : decode cX7_cell 33 = .ok (.invokevirtual 62, 3) := by decide +kernel
theorem dX7_cell_36 : decode cX7_cell 36 = .ok (.putfield 52, 3) := by decide +kernel
theorem dX7_cell_39 : decode cX7_cell 39 = .ok (.aload_n 0, 1) := by decide +kernel
theorem dX7_cell_40 : decode cX7_cell 40 = .ok (.getfield 52, 3) := by decide +kernel
theorem dX7_cell_43 : decode cX7_cell 43 = .ok (.ifCond .ne 17, 3) := by decide +kernel
theorem dX7_cell_46 : decode cX7_cell 46 = .ok (.aload_n 0, 1) := by decide +kernel
theorem dX7_cell_47 : decode cX7_cell 47 = .ok (.getfield 43, 3) := by decide +kernel
theorem dX7_cell_50 : decode cX7_cell 50 = .ok (.iload_n 1, 1) := by decide +kernel
theorem dX7_cell_51 : decode cX7_cell 51 = .ok (.aaload, 1) := by decide +kernel
theorem dX7_cell_52 : decode cX7_cell 52 = .ok (.iload_n 2, 1) := by decide +kernel
theorem dX7_cell_53 : decode cX7_cell 53 = .ok (.invokevirtual 213, 3) := by decide +kernel
theorem dX7_cell_56 : decode cX7_cell 56 = .ok (.i2l, 1) := by decide +kernel
theorem dX7_cell_57 : decode cX7_cell 57 = .ok (.goto 6, 3) := by decide +kernel
theorem dX7_cell_60 : decode cX7_cell 60 = .ok (.ldc2_w 187, 3) := by decide +kernel
theorem dX7_cell_63 : decode cX7_cell 63 = .ok (.lreturn, 1) := by decide +kernel
set_option maxRecDepth 20000 in
theorem ggX7_copy_X7_isSheet : GoodIn wsX7_copy wsX7_isSheet := goodIn_r _ [12, 13, 14, 11, 15] (by decide +kernel) (by decide +kernel)
set_option maxRecDepth 20000 in
theorem gX7_copy_X7_isSheet : GoodIn wsX7_copy (va_wsS RX7 55 yX7_isSheet wsX7_isSheet) := goodIn_app (goodIn_of _ (by decide +kernel)) ggX7_copy_X7_isSheet
set_option maxRecDepth 20000 in
theorem ggX7_copy_X4_hasNothing : GoodIn wsX7_copy wsX4_hasNothing := goodIn_r _ [20, 21, 38, 39, 40] (by decide +kernel) (by decide +kernel)
set_option maxRecDepth 20000 in
theorem gX7_copy_X4_hasNothing : GoodIn wsX7_copy (wsV RX7 201 RX4 yX4_hasNothing wsX4_hasNothing) := goodIn_app (goodIn_of _ (by decide +kernel)) ggX7_copy_X4_hasNothing
set_option maxRecDepth 20000 in
theorem ggX7_copy_X7_failed : GoodIn wsX7_copy wsX7_failed := goodIn_r _ [25, 1, 31, 32, 33, 34, 35, 36, 37] (by decide +kernel) (by decide +kernel)
set_option maxRecDepth 20000 in
theorem gX7_copy_X7_failed : GoodIn wsX7_copy (wsV RX7 66 RX7 yX7_failed wsX7_failed) := goodIn_app (goodIn_of _ (by decide +kernel)) ggX7_copy_X7_failed
set_option maxRecDepth 20000 in
theorem ggX7_copy_X4_holds : GoodIn wsX7_copy wsX4_holds := goodIn_r _ [29, 30, 38, 39, 40] (by decide +kernel) (by decide +kernel)
set_option maxRecDepth 20000 in
theorem gX7_copy_X4_holds : GoodIn wsX7_copy (wsV RX7 207 RX4 yX4_holds wsX4_holds) := goodIn_app (goodIn_of _ (by decide +kernel)) ggX7_copy_X4_holds
theorem dX7_copy_0 : decode cX7_copy 0 = .ok (.aload_n 0, 1) := by decide +kernel
theorem dX7_copy_1 : decode cX7_copy 1 = .ok (.iconst 0, 1) := by decide +kernel
theorem dX7_copy_2 : decode cX7_copy 2 = .ok (.putfield 52, 3) := by decide +kernel
theorem dX7_copy_5 : decode cX7_copy 5 = .ok (.iload_n 1, 1) := by decide +kernel
theorem dX7_copy_6 : decode cX7_copy 6 = .ok (.invokestatic 55, 3) := by decide +kernel
theorem dX7_copy_9 : decode cX7_copy 9 = .ok (.ifCond .eq 10, 3) := by decide +kernel
theorem dX7_copy_12 : decode cX7_copy 12 = .ok (.iload_n 3, 1) := by decide +kernel
theorem dX7_copy_13 : decode cX7_copy 13 = .ok (.invokestatic 55, 3) := by decide +kernel
theorem dX7_copy_16 : decode cX7_copy 16 = .ok (.ifCond .ne 5, 3) := by decide +kernel
theorem dX7_copy_19 : decode cX7_copy 19 = .ok (.iconst (-1), 1) := by decide +kernel
theorem dX7_copy_20 : decode cX7_copy 20 = .ok (.ireturn, 1) := by decide +kernel
theorem dX7_copy_21 : decode cX7_copy 21 = .ok (.aload_n 0, 1) := by decide +kernel
theorem dX7_copy_22 : decode cX7_copy 22 = .ok (.getfield 43, 3) := by decide +kernel
theorem dX7_copy_25 : decode cX7_copy 25 = .ok (.iload_n 1, 1) := by decide +kernel
theorem dX7_copy_26 : decode cX7_copy 26 = .ok (.aaload, 1) := by decide +kernel
theorem dX7_copy_27 : decode cX7_copy 27 = .ok (.astore 6, 2) := by decide +kernel
theorem dX7_copy_29 : decode cX7_copy 29 = .ok (.aload_n 0, 1) := by decide +kernel
theorem dX7_copy_30 : decode cX7_copy 30 = .ok (.getfield 43, 3) := by decide +kernel
theorem dX7_copy_33 : decode cX7_copy 33 = .ok (.iload_n 3, 1) := by decide +kernel
theorem dX7_copy_34 : decode cX7_copy 34 = .ok (.aaload, 1) := by decide +kernel
theorem dX7_copy_35 : decode cX7_copy 35 = .ok (.astore 7, 2) := by decide +kernel
theorem dX7_copy_37 : decode cX7_copy 37 = .ok (.aload 6, 2) := by decide +kernel
theorem dX7_copy_39 : decode cX7_copy 39 = .ok (.invokevirtual 201, 3) := by decide +kernel
theorem dX7_copy_42 : decode cX7_copy 42 = .ok (.ifCond .ne 11, 3) := by decide +kernel
theorem dX7_copy_45 : decode cX7_copy 45 = .ok (.aload 7, 2) := by decide +kernel
theorem dX7_copy_47 : decode cX7_copy 47 = .ok (.invokevirtual 201, 3) := by decide +kernel
theorem dX7_copy_50 : decode cX7_copy 50 = .ok (.ifCond .eq 9, 3) := by decide +kernel
theorem dX7_copy_53 : decode cX7_copy 53 = .ok (.aload_n 0, 1) := by decide +kernel
theorem dX7_copy_54 : decode cX7_copy 54 = .ok (.iconst 1, 1) := by decide +kernel
theorem dX7_copy_55 : decode cX7_copy 55 = .ok (.invokevirtual 66, 3) := by decide +kernel
theorem dX7_copy_58 : decode cX7_copy 58 = .ok (.ireturn, 1) := by decide +kernel
theorem dX7_copy_59 : decode cX7_copy 59 = .ok (.aload 6, 2) := by decide +kernel
theorem dX7_copy_61 : decode cX7_copy 61 = .ok (.getfield 216, 3) := by decide +kernel
theorem dX7_copy_64 : decode cX7_copy 64 = .ok (.aload 7, 2) := by decide +kernel
theorem dX7_copy_66 : decode cX7_copy 66 = .ok (.getfield 216, 3) := by decide +kernel
theorem dX7_copy_69 : decode cX7_copy 69 = .ok (.if_icmp .eq 9, 3) := by decide +kernel
theorem dX7_copy_72 : decode cX7_copy 72 = .ok (.aload_n 0, 1) := by decide +kernel
theorem dX7_copy_73 : decode cX7_copy 73 = .ok (.iconst 2, 1) := by decide +kernel
theorem dX7_copy_74 : decode cX7_copy 74 = .ok (.invokevirtual 66, 3) := by decide +kernel
theorem dX7_copy_77 : decode cX7_copy 77 = .ok (.ireturn, 1) := by decide +kernel
theorem dX7_copy_78 : decode cX7_copy 78 = .ok (.aload 6, 2) := by decide +kernel
theorem dX7_copy_80 : decode cX7_copy 80 = .ok (.iload_n 2, 1) := by decide +kernel
theorem dX7_copy_81 : decode cX7_copy 81 = .ok (.iload 5, 2) := by decide +kernel
theorem dX7_copy_83 : decode cX7_copy 83 = .ok (.invokevirtual 207, 3) := by decide +kernel
theorem dX7_copy_86 : decode cX7_copy 86 = .ok (.ifCond .eq 15, 3) := by decide +kernel
theorem dX7_copy_89 : decode cX7_copy 89 = .ok (.aload 7, 2) := by decide +kernel
theorem dX7_copy_91 : decode cX7_copy 91 = .ok (.iload 4, 2) := by decide +kernel
theorem dX7_copy_93 : decode cX7_copy 93 = .ok (.iload 5, 2) := by decide +kernel
theorem dX7_copy_95 : decode cX7_copy 95 = .ok (.invokevirtual 207, 3) := by decide +kernel
theorem dX7_copy_98 : decode cX7_copy 98 = .ok (.ifCond .ne 9, 3) := by decide +kernel
theorem dX7_copy_101 : decode cX7_copy 101 = .ok (.aload_n 0, 1) := by decide +kernel
theorem dX7_copy_102 : decode cX7_copy 102 = .ok (.iconst 3, 1) := by decide +kernel
theorem dX7_copy_103 : decode cX7_copy 103 = .ok (.invokevirtual 66, 3) := by decide +kernel
theorem dX7_copy_106 : decode cX7_copy 106 = .ok (.ireturn, 1) := by decide +kernel
theorem dX7_copy_107 : decode cX7_copy 107 = .ok (.aload 6, 2) := by decide +kernel
theorem dX7_copy_109 : decode cX7_copy 109 = .ok (.getfield 219, 3) := by decide +kernel
theorem dX7_copy_112 : decode cX7_copy 112 = .ok (.iload_n 2, 1) := by decide +kernel
theorem dX7_copy_113 : decode cX7_copy 113 = .ok (.aload 7, 2) := by decide +kernel
theorem dX7_copy_115 : decode cX7_copy 115 = .ok (.getfield 219, 3) := by decide +kernel
theorem dX7_copy_118 : decode cX7_copy 118 = .ok (.iload 4, 2) := by decide +kernel
theorem dX7_copy_120 : decode cX7_copy 120 = .ok (.iload 5, 2) := by decide +kernel
theorem dX7_copy_122 : decode cX7_copy 122 = .ok (.invokestatic 222, 3) := by decide +kernel
theorem dX7_copy_125 : decode cX7_copy 125 = .ok (.iload 5, 2) := by decide +kernel
theorem dX7_copy_127 : decode cX7_copy 127 = .ok (.ireturn, 1) := by decide +kernel
set_option maxRecDepth 20000 in
theorem ggX7_tell_X1_isArticle : GoodIn wsX7_tell wsX1_isArticle := goodIn_r _ [8, 9, 36, 37, 38, 39, 40, 41] (by decide +kernel) (by decide +kernel)
set_option maxRecDepth 20000 in
theorem gX7_tell_X1_isArticle : GoodIn wsX7_tell (wsV RX7 86 RX1 yX1_isArticle wsX1_isArticle) := goodIn_app (goodIn_of _ (by decide +kernel)) ggX7_tell_X1_isArticle
set_option maxRecDepth 20000 in
theorem ggX7_tell_X7_tellAsPerson : GoodIn wsX7_tell wsX7_tellAsPerson := goodIn_r _ [14, 15, 16, 17, 13, 18, 19, 20, 21, 22, 23, 24, 25, 26, 27, 28, 29, 30, 31, 32, 33, 34, 35, 42, 43, 44, 45] (by decide +kernel) (by decide +kernel)
set_option maxRecDepth 20000 in
theorem gX7_tell_X7_tellAsPerson : GoodIn wsX7_tell (wsV RX7 228 RX7 yX7_tellAsPerson wsX7_tellAsPerson) := goodIn_app (goodIn_of _ (by decide +kernel)) ggX7_tell_X7_tellAsPerson
set_option maxRecDepth 20000 in
theorem ggX7_tell_X7_tellAsBeast : GoodIn wsX7_tell wsX7_tellAsBeast := goodIn_r _ [23, 15, 16, 17, 13, 18, 19, 24, 25, 26, 27, 28, 29, 30, 31, 32, 33, 34, 35, 42, 43, 44, 45] (by decide +kernel) (by decide +kernel)
set_option maxRecDepth 20000 in
theorem gX7_tell_X7_tellAsBeast : GoodIn wsX7_tell (wsV RX7 232 RX7 yX7_tellAsBeast wsX7_tellAsBeast) := goodIn_app (goodIn_of _ (by decide +kernel)) ggX7_tell_X7_tellAsBeast
set_option maxRecDepth 20000 in
theorem ggX7_tell_X7_tellAsThing : GoodIn wsX7_tell wsX7_tellAsThing := goodIn_r _ [27, 28, 15, 16, 17, 13, 18, 19, 42, 43, 44, 45, 29, 30, 31, 32, 33, 34, 35] (by decide +kernel) (by decide +kernel)
set_option maxRecDepth 20000 in
theorem gX7_tell_X7_tellAsThing : GoodIn wsX7_tell (wsV RX7 235 RX7 yX7_tellAsThing wsX7_tellAsThing) := goodIn_app (goodIn_of _ (by decide +kernel)) ggX7_tell_X7_tellAsThing
theorem dX7_tell_0 : decode cX7_tell 0 = .ok (.aload_n 0, 1) := by decide +kernel
theorem dX7_tell_1 : decode cX7_tell 1 = .ok (.getfield 12, 3) := by decide +kernel
theorem dX7_tell_4 : decode cX7_tell 4 = .ok (.iload_n 1, 1) := by decide +kernel
theorem dX7_tell_5 : decode cX7_tell 5 = .ok (.invokevirtual 86, 3) := by decide +kernel
theorem dX7_tell_8 : decode cX7_tell 8 = .ok (.ifCond .ne 5, 3) := by decide +kernel
theorem dX7_tell_11 : decode cX7_tell 11 = .ok (.iconst (-1), 1) := by decide +kernel
theorem dX7_tell_12 : decode cX7_tell 12 = .ok (.ireturn, 1) := by decide +kernel
theorem dX7_tell_13 : decode cX7_tell 13 = .ok (.aload_n 0, 1) := by decide +kernel
theorem dX7_tell_14 : decode cX7_tell 14 = .ok (.getfield 12, 3) := by decide +kernel
theorem dX7_tell_17 : decode cX7_tell 17 = .ok (.getfield 89, 3) := by decide +kernel
theorem dX7_tell_20 : decode cX7_tell 20 = .ok (.iload_n 1, 1) := by decide +kernel
theorem dX7_tell_21 : decode cX7_tell 21 = .ok (.aaload, 1) := by decide +kernel
theorem dX7_tell_22 : decode cX7_tell 22 = .ok (.astore_n 2, 1) := by decide +kernel
theorem dX7_tell_23 : decode cX7_tell 23 = .ok (.aload_n 2, 1) := by decide +kernel
theorem dX7_tell_24 : decode cX7_tell 24 = .ok (.getfield 93, 3) := by decide +kernel
theorem dX7_tell_27 : decode cX7_tell 27 = .ok (.lookupswitch 37 #[(1, 31), (2, 25)], 25) := by decide +kernel
theorem dX7_tell_52 : decode cX7_tell 52 = .ok (.aload_n 0, 1) := by decide +kernel
theorem dX7_tell_53 : decode cX7_tell 53 = .ok (.aload_n 2, 1) := by decide +kernel
theorem dX7_tell_54 : decode cX7_tell 54 = .ok (.invokevirtual 228, 3) := by decide +kernel
theorem dX7_tell_57 : decode cX7_tell 57 = .ok (.ireturn, 1) := by decide +kernel
theorem dX7_tell_58 : decode cX7_tell 58 = .ok (.aload_n 0, 1) := by decide +kernel
theorem dX7_tell_59 : decode cX7_tell 59 = .ok (.aload_n 2, 1) := by decide +kernel
theorem dX7_tell_60 : decode cX7_tell 60 = .ok (.invokevirtual 232, 3) := by decide +kernel
theorem dX7_tell_63 : decode cX7_tell 63 = .ok (.ireturn, 1) := by decide +kernel
theorem dX7_tell_64 : decode cX7_tell 64 = .ok (.aload_n 0, 1) := by decide +kernel
theorem dX7_tell_65 : decode cX7_tell 65 = .ok (.aload_n 2, 1) := by decide +kernel
theorem dX7_tell_66 : decode cX7_tell 66 = .ok (.invokevirtual 235, 3) := by decide +kernel
theorem dX7_tell_69 : decode cX7_tell 69 = .ok (.ireturn, 1) := by decide +kernel
set_option maxRecDepth 20000 in
theorem ggX7_announce_X1_isArticle : GoodIn wsX7_announce wsX1_isArticle := goodIn_r _ [8, 9, 23, 24, 25, 26, 27, 28] (by decide +kernel) (by decide +kernel)
set_option maxRecDepth 20000 in
theorem gX7_announce_X1_isArticle : GoodIn wsX7_announce (wsV RX7 86 RX1 yX1_isArticle wsX1_isArticle) := goodIn_app (goodIn_of _ (by decide +kernel)) ggX7_announce_X1_isArticle
set_option maxRecDepth 20000 in
theorem ggX7_announce_X7_begin : GoodIn wsX7_announce wsX7_begin := goodIn_r _ [14, 15, 16, 17, 18, 19, 20, 21, 22] (by decide +kernel) (by decide +kernel)
set_option maxRecDepth 20000 in
theorem gX7_announce_X7_begin : GoodIn wsX7_announce (wsV RX7 238 RX7 yX7_begin wsX7_begin) := goodIn_app (goodIn_of _ (by decide +kernel)) ggX7_announce_X7_begin
theorem dX7_announce_0 : decode cX7_announce 0 = .ok (.aload_n 0, 1) := by decide +kernel
theorem dX7_announce_1 : decode cX7_announce 1 = .ok (.getfield 12, 3) := by decide +kernel
theorem dX7_announce_4 : decode cX7_announce 4 = .ok (.iload_n 1, 1) := by decide +kernel
theorem dX7_announce_5 : decode cX7_announce 5 = .ok (.invokevirtual 86, 3) := by decide +kernel
theorem dX7_announce_8 : decode cX7_announce 8 = .ok (.ifCond .ne 5, 3) := by decide +kernel
theorem dX7_announce_11 : decode cX7_announce 11 = .ok (.iconst (-1), 1) := by decide +kernel
theorem dX7_announce_12 : decode cX7_announce 12 = .ok (.ireturn, 1) := by decide +kernel
theorem dX7_announce_13 : decode cX7_announce 13 = .ok (.aload_n 0, 1) := by decide +kernel
theorem dX7_announce_14 : decode cX7_announce 14 = .ok (.getfield 12, 3) := by decide +kernel
theorem dX7_announce_17 : decode cX7_announce 17 = .ok (.getfield 89, 3) := by decide +kernel
theorem dX7_announce_20 : decode cX7_announce 20 = .ok (.iload_n 1, 1) := by decide +kernel
theorem dX7_announce_21 : decode cX7_announce 21 = .ok (.aaload, 1) := by decide +kernel
theorem dX7_announce_22 : decode cX7_announce 22 = .ok (.getfield 93, 3) := by decide +kernel
theorem dX7_announce_25 : decode cX7_announce 25 = .ok (.iconst 2, 1) := by decide +kernel
theorem dX7_announce_26 : decode cX7_announce 26 = .ok (.if_icmp .ne 11, 3) := by decide +kernel
theorem dX7_announce_29 : decode cX7_announce 29 = .ok (.aload_n 0, 1) := by decide +kernel
theorem dX7_announce_30 : decode cX7_announce 30 = .ok (.iconst 5, 1) := by decide +kernel
theorem dX7_announce_31 : decode cX7_announce 31 = .ok (.invokevirtual 238, 3) := by decide +kernel
theorem dX7_announce_34 : decode cX7_announce 34 = .ok (.bipush 80, 2) := by decide +kernel
theorem dX7_announce_36 : decode cX7_announce 36 = .ok (.ireturn, 1) := by decide +kernel
theorem dX7_announce_37 : decode cX7_announce 37 = .ok (.aload_n 0, 1) := by decide +kernel
theorem dX7_announce_38 : decode cX7_announce 38 = .ok (.iconst 4, 1) := by decide +kernel
theorem dX7_announce_39 : decode cX7_announce 39 = .ok (.invokevirtual 238, 3) := by decide +kernel
theorem dX7_announce_42 : decode cX7_announce 42 = .ok (.iload_n 1, 1) := by decide +kernel
theorem dX7_announce_43 : decode cX7_announce 43 = .ok (.ireturn, 1) := by decide +kernel
set_option maxRecDepth 20000 in
theorem ggX7_as_X1_isArticle : GoodIn wsX7_as wsX1_isArticle := goodIn_r _ [9, 10, 26, 27, 28, 29, 30, 31] (by decide +kernel) (by decide +kernel)
set_option maxRecDepth 20000 in
theorem gX7_as_X1_isArticle : GoodIn wsX7_as (wsV RX7 86 RX1 yX1_isArticle wsX1_isArticle) := goodIn_app (goodIn_of _ (by decide +kernel)) ggX7_as_X1_isArticle
set_option maxRecDepth 20000 in
theorem ggX7_as_X7_within : GoodIn wsX7_as wsX7_within := goodIn_r _ [14] (by decide +kernel) (by decide +kernel)
set_option maxRecDepth 20000 in
theorem gX7_as_X7_within : GoodIn wsX7_as (va_wsS RX7 125 yX7_within wsX7_within) := goodIn_app (goodIn_of _ (by decide +kernel)) ggX7_as_X7_within
set_option maxRecDepth 20000 in
theorem ggX7_as_X7_failed : GoodIn wsX7_as wsX7_failed := goodIn_r _ [18, 1, 19, 20, 21, 22, 23, 24, 25] (by decide +kernel) (by decide +kernel)
set_option maxRecDepth 20000 in
theorem gX7_as_X7_failed : GoodIn wsX7_as (wsV RX7 66 RX7 yX7_failed wsX7_failed) := goodIn_app (goodIn_of _ (by decide +kernel)) ggX7_as_X7_failed
theorem dX7_as_0 : decode cX7_as 0 = .ok (.aload_n 0, 1) := by decide +kernel
theorem dX7_as_1 : decode cX7_as 1 = .ok (.iconst 0, 1) := by decide +kernel
theorem dX7_as_2 : decode cX7_as 2 = .ok (.putfield 52, 3) := by decide +kernel
theorem dX7_as_5 : decode cX7_as 5 = .ok (.aload_n 0, 1) := by decide +kernel
theorem dX7_as_6 : decode cX7_as 6 = .ok (.getfield 12, 3) := by decide +kernel
theorem dX7_as_9 : decode cX7_as 9 = .ok (.iload_n 1, 1) := by decide +kernel
theorem dX7_as_10 : decode cX7_as 10 = .ok (.invokevirtual 86, 3) := by decide +kernel
theorem dX7_as_13 : decode cX7_as 13 = .ok (.ifCond .ne 5, 3) := by decide +kernel
theorem dX7_as_16 : decode cX7_as 16 = .ok (.iconst (-1), 1) := by decide +kernel
theorem dX7_as_17 : decode cX7_as 17 = .ok (.ireturn, 1) := by decide +kernel
theorem dX7_as_18 : decode cX7_as 18 = .ok (.iload_n 2, 1) := by decide +kernel
theorem dX7_as_19 : decode cX7_as 19 = .ok (.iconst 0, 1) := by decide +kernel
theorem dX7_as_20 : decode cX7_as 20 = .ok (.iconst 2, 1) := by decide +kernel
theorem dX7_as_21 : decode cX7_as 21 = .ok (.invokestatic 125, 3) := by decide +kernel
theorem dX7_as_24 : decode cX7_as 24 = .ok (.ifCond .ne 6, 3) := by decide +kernel
theorem dX7_as_27 : decode cX7_as 27 = .ok (.bipush (-2), 2) := by decide +kernel
theorem dX7_as_29 : decode cX7_as 29 = .ok (.ireturn, 1) := by decide +kernel
theorem dX7_as_30 : decode cX7_as 30 = .ok (.iload_n 2, 1) := by decide +kernel
theorem dX7_as_31 : decode cX7_as 31 = .ok (.aload_n 0, 1) := by decide +kernel
theorem dX7_as_32 : decode cX7_as 32 = .ok (.getfield 12, 3) := by decide +kernel
theorem dX7_as_35 : decode cX7_as 35 = .ok (.getfield 89, 3) := by decide +kernel
theorem dX7_as_38 : decode cX7_as 38 = .ok (.iload_n 1, 1) := by decide +kernel
theorem dX7_as_39 : decode cX7_as 39 = .ok (.aaload, 1) := by decide +kernel
theorem dX7_as_40 : decode cX7_as 40 = .ok (.getfield 93, 3) := by decide +kernel
theorem dX7_as_43 : decode cX7_as 43 = .ok (.if_icmp .gt 7, 3) := by decide +kernel
theorem dX7_as_46 : decode cX7_as 46 = .ok (.iconst 1, 1) := by decide +kernel
theorem dX7_as_47 : decode cX7_as 47 = .ok (.goto 8, 3) := by decide +kernel
theorem dX7_as_50 : decode cX7_as 50 = .ok (.aload_n 0, 1) := by decide +kernel
theorem dX7_as_51 : decode cX7_as 51 = .ok (.iconst 2, 1) := by decide +kernel
theorem dX7_as_52 : decode cX7_as 52 = .ok (.invokevirtual 66, 3) := by decide +kernel
theorem dX7_as_55 : decode cX7_as 55 = .ok (.ireturn, 1) := by decide +kernel
theorem dX7_trace_0 : decode cX7_trace 0 = .ok (.aload_n 0, 1) := by decide +kernel
theorem dX7_trace_1 : decode cX7_trace 1 = .ok (.getfield 48, 3) := by decide +kernel
theorem dX7_trace_4 : decode cX7_trace 4 = .ok (.ireturn, 1) := by decide +kernel
theorem dX7_fault_0 : decode cX7_fault 0 = .ok (.aload_n 0, 1) := by decide +kernel
theorem dX7_fault_1 : decode cX7_fault 1 = .ok (.getfield 52, 3) := by decide +kernel
theorem dX7_fault_4 : decode cX7_fault 4 = .ok (.ireturn, 1) := by decide +kernel
set_option maxRecDepth 20000 in
theorem ggX7_many_J6_bitCount_0f7a4 : GoodIn wsX7_many wsJ6_bitCount_0f7a4 := goodIn_r _ [11, 12, 13, 14] (by decide +kernel) (by decide +kernel)
set_option maxRecDepth 20000 in
theorem gX7_many_J6_bitCount_0f7a4 : GoodIn wsX7_many (va_wsS RX7 192 yJ6_bitCount_0f7a4 wsJ6_bitCount_0f7a4) := goodIn_app (goodIn_of _ (by decide +kernel)) ggX7_many_J6_bitCount_0f7a4
theorem dX7_many_0 : decode cX7_many 0 = .ok (.iload_n 1, 1) := by decide +kernel
theorem dX7_many_1 : decode cX7_many 1 = .ok (.tableswitch 78 0 4 #[35, 43, 51, 62, 70], 35) := by decide +kernel
theorem dX7_many_36 : decode cX7_many 36 = .ok (.aload_n 0, 1) := by decide +kernel
theorem dX7_many_37 : decode cX7_many 37 = .ok (.getfield 12, 3) := by decide +kernel
theorem dX7_many_40 : decode cX7_many 40 = .ok (.getfield 83, 3) := by decide +kernel
theorem dX7_many_43 : decode cX7_many 43 = .ok (.ireturn, 1) := by decide +kernel
theorem dX7_many_44 : decode cX7_many 44 = .ok (.aload_n 0, 1) := by decide +kernel
theorem dX7_many_45 : decode cX7_many 45 = .ok (.getfield 12, 3) := by decide +kernel
theorem dX7_many_48 : decode cX7_many 48 = .ok (.getfield 241, 3) := by decide +kernel
theorem dX7_many_51 : decode cX7_many 51 = .ok (.ireturn, 1) := by decide +kernel
theorem dX7_many_52 : decode cX7_many 52 = .ok (.aload_n 0, 1) := by decide +kernel
theorem dX7_many_53 : decode cX7_many 53 = .ok (.getfield 12, 3) := by decide +kernel
theorem dX7_many_56 : decode cX7_many 56 = .ok (.getfield 111, 3) := by decide +kernel
theorem dX7_many_59 : decode cX7_many 59 = .ok (.invokestatic 192, 3) := by decide +kernel
theorem dX7_many_62 : decode cX7_many 62 = .ok (.ireturn, 1) := by decide +kernel
theorem dX7_many_63 : decode cX7_many 63 = .ok (.aload_n 0, 1) := by decide +kernel
theorem dX7_many_64 : decode cX7_many 64 = .ok (.getfield 12, 3) := by decide +kernel
theorem dX7_many_67 : decode cX7_many 67 = .ok (.getfield 136, 3) := by decide +kernel
theorem dX7_many_70 : decode cX7_many 70 = .ok (.ireturn, 1) := by decide +kernel
theorem dX7_many_71 : decode cX7_many 71 = .ok (.aload_n 0, 1) := by decide +kernel
theorem dX7_many_72 : decode cX7_many 72 = .ok (.getfield 21, 3) := by decide +kernel
theorem dX7_many_75 : decode cX7_many 75 = .ok (.getfield 80, 3) := by decide +kernel
theorem dX7_many_78 : decode cX7_many 78 = .ok (.ireturn, 1) := by decide +kernel
theorem dX7_many_79 : decode cX7_many 79 = .ok (.bipush (-2), 2) := by decide +kernel
theorem dX7_many_81 : decode cX7_many 81 = .ok (.ireturn, 1) := by decide +kernel
set_option maxRecDepth 20000 in
theorem ggX7_tellAsThing_X7_begin : GoodIn wsX7_tellAsThing wsX7_begin := goodIn_r _ [6, 7, 12, 13, 14, 15, 16, 17, 18] (by decide +kernel) (by decide +kernel)
set_option maxRecDepth 20000 in
theorem gX7_tellAsThing_X7_begin : GoodIn wsX7_tellAsThing (wsV RX7 238 RX7 yX7_begin wsX7_begin) := goodIn_app (goodIn_of _ (by decide +kernel)) ggX7_tellAsThing_X7_begin
theorem dX7_tellAsThing_0 : decode cX7_tellAsThing 0 = .ok (.aload_n 0, 1) := by decide +kernel
theorem dX7_tellAsThing_1 : decode cX7_tellAsThing 1 = .ok (.iconst 1, 1) := by decide +kernel
theorem dX7_tellAsThing_2 : decode cX7_tellAsThing 2 = .ok (.invokevirtual 238, 3) := by decide +kernel
theorem dX7_tellAsThing_5 : decode cX7_tellAsThing 5 = .ok (.aload_n 1, 1) := by decide +kernel
theorem dX7_tellAsThing_6 : decode cX7_tellAsThing 6 = .ok (.getfield 101, 3) := by decide +kernel
theorem dX7_tellAsThing_9 : decode cX7_tellAsThing 9 = .ok (.ireturn, 1) := by decide +kernel
set_option maxRecDepth 20000 in
theorem ggX7_tellAsBeast_X7_begin : GoodIn wsX7_tellAsBeast wsX7_begin := goodIn_r _ [5, 6, 12, 13, 14, 15, 16, 17, 18] (by decide +kernel) (by decide +kernel)
set_option maxRecDepth 20000 in
theorem gX7_tellAsBeast_X7_begin : GoodIn wsX7_tellAsBeast (wsV RX7 238 RX7 yX7_begin wsX7_begin) := goodIn_app (goodIn_of _ (by decide +kernel)) ggX7_tellAsBeast_X7_begin
set_option maxRecDepth 20000 in
theorem ggX7_tellAsBeast_X7_tellAsThing : GoodIn wsX7_tellAsBeast wsX7_tellAsThing := goodIn_r _ [10, 11, 1, 2, 3, 4, 5, 6, 19, 20, 21, 22, 12, 13, 14, 15, 16, 17, 18] (by decide +kernel) (by decide +kernel)
set_option maxRecDepth 20000 in
theorem gX7_tellAsBeast_X7_tellAsThing : GoodIn wsX7_tellAsBeast (wsV RX7 235 RX7 yX7_tellAsThing wsX7_tellAsThing) := goodIn_app (goodIn_of _ (by decide +kernel)) ggX7_tellAsBeast_X7_tellAsThing
theorem dX7_tellAsBeast_0 : decode cX7_tellAsBeast 0 = .ok (.aload_n 0, 1) := by decide +kernel
theorem dX7_tellAsBeast_1 : decode cX7_tellAsBeast 1 = .ok (.iconst 2, 1) := by decide +kernel
theorem dX7_tellAsBeast_2 : decode cX7_tellAsBeast 2 = .ok (.invokevirtual 238, 3) := by decide +kernel
theorem dX7_tellAsBeast_5 : decode cX7_tellAsBeast 5 = .ok (.aload_n 0, 1) := by decide +kernel
theorem dX7_tellAsBeast_6 : decode cX7_tellAsBeast 6 = .ok (.aload_n 1, 1) := by decide +kernel
theorem dX7_tellAsBeast_7 : decode cX7_tellAsBeast 7 = .ok (.invokevirtual 235, 3) := by decide +kernel
theorem dX7_tellAsBeast_10 : decode cX7_tellAsBeast 10 = .ok (.bipush 100, 2) := by decide +kernel
theorem dX7_tellAsBeast_12 : decode cX7_tellAsBeast 12 = .ok (.iadd, 1) := by decide +kernel
theorem dX7_tellAsBeast_13 : decode cX7_tellAsBeast 13 = .ok (.ireturn, 1) := by decide +kernel
set_option maxRecDepth 20000 in
theorem ggX7_tellAsPerson_X7_begin : GoodIn wsX7_tellAsPerson wsX7_begin := goodIn_r _ [5, 6, 16, 17, 18, 19, 20, 21, 22] (by decide +kernel) (by decide +kernel)
set_option maxRecDepth 20000 in
theorem gX7_tellAsPerson_X7_begin : GoodIn wsX7_tellAsPerson (wsV RX7 238 RX7 yX7_begin wsX7_begin) := goodIn_app (goodIn_of _ (by decide +kernel)) ggX7_tellAsPerson_X7_begin
set_option maxRecDepth 20000 in
theorem ggX7_tellAsPerson_X7_tellAsBeast : GoodIn wsX7_tellAsPerson wsX7_tellAsBeast := goodIn_r _ [10, 1, 2, 3, 4, 5, 6, 11, 12, 13, 14, 15, 16, 17, 18, 19, 20, 21, 22, 23, 24, 25, 26] (by decide +kernel) (by decide +kernel)
set_option maxRecDepth 20000 in
theorem gX7_tellAsPerson_X7_tellAsBeast : GoodIn wsX7_tellAsPerson (wsV RX7 232 RX7 yX7_tellAsBeast wsX7_tellAsBeast) := goodIn_app (goodIn_of _ (by decide +kernel)) ggX7_tellAsPerson_X7_tellAsBeast
set_option maxRecDepth 20000 in
theorem ggX7_tellAsPerson_X7_tellAsThing : GoodIn wsX7_tellAsPerson wsX7_tellAsThing := goodIn_r _ [14, 15, 1, 2, 3, 4, 5, 6, 23, 24, 25, 26, 16, 17, 18, 19, 20, 21, 22] (by decide +kernel) (by decide +kernel)
set_option maxRecDepth 20000 in
theorem gX7_tellAsPerson_X7_tellAsThing : GoodIn wsX7_tellAsPerson (wsV RX7 235 RX7 yX7_tellAsThing wsX7_tellAsThing) := goodIn_app (goodIn_of _ (by decide +kernel)) ggX7_tellAsPerson_X7_tellAsThing
theorem dX7_tellAsPerson_0 : decode cX7_tellAsPerson 0 = .ok (.aload_n 0, 1) := by decide +kernel
theorem dX7_tellAsPerson_1 : decode cX7_tellAsPerson 1 = .ok (.iconst 3, 1) := by decide +kernel
theorem dX7_tellAsPerson_2 : decode cX7_tellAsPerson 2 = .ok (.invokevirtual 238, 3) := by decide +kernel
theorem dX7_tellAsPerson_5 : decode cX7_tellAsPerson 5 = .ok (.aload_n 0, 1) := by decide +kernel
theorem dX7_tellAsPerson_6 : decode cX7_tellAsPerson 6 = .ok (.aload_n 1, 1) := by decide +kernel
theorem dX7_tellAsPerson_7 : decode cX7_tellAsPerson 7 = .ok (.invokevirtual 232, 3) := by decide +kernel
theorem dX7_tellAsPerson_10 : decode cX7_tellAsPerson 10 = .ok (.istore_n 2, 1) := by decide +kernel
theorem dX7_tellAsPerson_11 : decode cX7_tellAsPerson 11 = .ok (.iload_n 2, 1) := by decide +kernel
theorem dX7_tellAsPerson_12 : decode cX7_tellAsPerson 12 = .ok (.aload_n 0, 1) := by decide +kernel
theorem dX7_tellAsPerson_13 : decode cX7_tellAsPerson 13 = .ok (.aload_n 1, 1) := by decide +kernel
theorem dX7_tellAsPerson_14 : decode cX7_tellAsPerson 14 = .ok (.invokevirtual 235, 3) := by decide +kernel
theorem dX7_tellAsPerson_17 : decode cX7_tellAsPerson 17 = .ok (.iadd, 1) := by decide +kernel
theorem dX7_tellAsPerson_18 : decode cX7_tellAsPerson 18 = .ok (.ireturn, 1) := by decide +kernel
theorem dX7_begin_0 : decode cX7_begin 0 = .ok (.aload_n 0, 1) := by decide +kernel
theorem dX7_begin_1 : decode cX7_begin 1 = .ok (.bipush 31, 2) := by decide +kernel
theorem dX7_begin_3 : decode cX7_begin 3 = .ok (.aload_n 0, 1) := by decide +kernel
theorem dX7_begin_4 : decode cX7_begin 4 = .ok (.getfield 48, 3) := by decide +kernel
theorem dX7_begin_7 : decode cX7_begin 7 = .ok (.imul, 1) := by decide +kernel
theorem dX7_begin_8 : decode cX7_begin 8 = .ok (.iload_n 1, 1) := by decide +kernel
theorem dX7_begin_9 : decode cX7_begin 9 = .ok (.iadd, 1) := by decide +kernel
theorem dX7_begin_10 : decode cX7_begin 10 = .ok (.putfield 48, 3) := by decide +kernel
theorem dX7_begin_13 : decode cX7_begin 13 = .ok (.return_, 1) := by decide +kernel
theorem dX7_failed_0 : decode cX7_failed 0 = .ok (.aload_n 0, 1) := by decide +kernel
theorem dX7_failed_1 : decode cX7_failed 1 = .ok (.iload_n 1, 1) := by decide +kernel
theorem dX7_failed_2 : decode cX7_failed 2 = .ok (.putfield 52, 3) := by decide +kernel
theorem dX7_failed_5 : decode cX7_failed 5 = .ok (.bipush (-10), 2) := by decide +kernel
theorem dX7_failed_7 : decode cX7_failed 7 = .ok (.iload_n 1, 1) := by decide +kernel
theorem dX7_failed_8 : decode cX7_failed 8 = .ok (.isub, 1) := by decide +kernel
theorem dX7_failed_9 : decode cX7_failed 9 = .ok (.ireturn, 1) := by decide +kernel
theorem dX7_within_0 : decode cX7_within 0 = .ok (.iload_n 0, 1) := by decide +kernel
theorem dX7_within_1 : decode cX7_within 1 = .ok (.iload_n 1, 1) := by decide +kernel
theorem dX7_within_2 : decode cX7_within 2 = .ok (.if_icmp .lt 12, 3) := by decide +kernel
theorem dX7_within_5 : decode cX7_within 5 = .ok (.iload_n 0, 1) := by decide +kernel
theorem dX7_within_6 : decode cX7_within 6 = .ok (.iload_n 2, 1) := by decide +kernel
theorem dX7_within_7 : decode cX7_within 7 = .ok (.if_icmp .gt 7, 3) := by decide +kernel
theorem dX7_within_10 : decode cX7_within 10 = .ok (.iconst 1, 1) := by decide +kernel
theorem dX7_within_11 : decode cX7_within 11 = .ok (.goto 4, 3) := by decide +kernel
theorem dX7_within_14 : decode cX7_within 14 = .ok (.iconst 0, 1) := by decide +kernel
theorem dX7_within_15 : decode cX7_within 15 = .ok (.ireturn, 1) := by decide +kernel
theorem dX7_has_0 : decode cX7_has 0 = .ok (.iload_n 0, 1) := by decide +kernel
theorem dX7_has_1 : decode cX7_has 1 = .ok (.iload_n 1, 1) := by decide +kernel
theorem dX7_has_2 : decode cX7_has 2 = .ok (.ishr, 1) := by decide +kernel
theorem dX7_has_3 : decode cX7_has 3 = .ok (.iconst 1, 1) := by decide +kernel
theorem dX7_has_4 : decode cX7_has 4 = .ok (.iand, 1) := by decide +kernel
theorem dX7_has_5 : decode cX7_has 5 = .ok (.ifCond .eq 7, 3) := by decide +kernel
theorem dX7_has_8 : decode cX7_has 8 = .ok (.iconst 1, 1) := by decide +kernel
theorem dX7_has_9 : decode cX7_has 9 = .ok (.goto 4, 3) := by decide +kernel
theorem dX7_has_12 : decode cX7_has 12 = .ok (.iconst 0, 1) := by decide +kernel
theorem dX7_has_13 : decode cX7_has 13 = .ok (.ireturn, 1) := by decide +kernel
set_option maxRecDepth 20000 in
theorem ggX7_isSheet_X7_within : GoodIn wsX7_isSheet wsX7_within := goodIn_r _ [4] (by decide +kernel) (by decide +kernel)
set_option maxRecDepth 20000 in
theorem gX7_isSheet_X7_within : GoodIn wsX7_isSheet (va_wsS RX7 125 yX7_within wsX7_within) := goodIn_app (goodIn_of _ (by decide +kernel)) ggX7_isSheet_X7_within
theorem dX7_isSheet_0 : decode cX7_isSheet 0 = .ok (.iload_n 0, 1) := by decide +kernel
theorem dX7_isSheet_1 : decode cX7_isSheet 1 = .ok (.iconst 0, 1) := by decide +kernel
theorem dX7_isSheet_2 : decode cX7_isSheet 2 = .ok (.iconst 3, 1) := by decide +kernel
theorem dX7_isSheet_3 : decode cX7_isSheet 3 = .ok (.invokestatic 125, 3) := by decide +kernel
theorem dX7_isSheet_6 : decode cX7_isSheet 6 = .ok (.ireturn, 1) := by decide +kernel
set_option maxRecDepth 20000 in
theorem ggX7_isLane_X7_within : GoodIn wsX7_isLane wsX7_within := goodIn_r _ [4] (by decide +kernel) (by decide +kernel)
set_option maxRecDepth 20000 in
theorem gX7_isLane_X7_within : GoodIn wsX7_isLane (va_wsS RX7 125 yX7_within wsX7_within) := goodIn_app (goodIn_of _ (by decide +kernel)) ggX7_isLane_X7_within
theorem dX7_isLane_0 : decode cX7_isLane 0 = .ok (.iload_n 0, 1) := by decide +kernel
theorem dX7_isLane_1 : decode cX7_isLane 1 = .ok (.iconst 0, 1) := by decide +kernel
theorem dX7_isLane_2 : decode cX7_isLane 2 = .ok (.iconst 2, 1) := by decide +kernel
theorem dX7_isLane_3 : decode cX7_isLane 3 = .ok (.invokestatic 125, 3) := by decide +kernel
theorem dX7_isLane_6 : decode cX7_isLane 6 = .ok (.ireturn, 1) := by decide +kernel
set_option maxRecDepth 20000 in
theorem ggX7_isCorner_X7_within : GoodIn wsX7_isCorner wsX7_within := goodIn_r _ [4] (by decide +kernel) (by decide +kernel)
set_option maxRecDepth 20000 in
theorem gX7_isCorner_X7_within : GoodIn wsX7_isCorner (va_wsS RX7 125 yX7_within wsX7_within) := goodIn_app (goodIn_of _ (by decide +kernel)) ggX7_isCorner_X7_within
theorem dX7_isCorner_0 : decode cX7_isCorner 0 = .ok (.iload_n 0, 1) := by decide +kernel
theorem dX7_isCorner_1 : decode cX7_isCorner 1 = .ok (.iconst 0, 1) := by decide +kernel
theorem dX7_isCorner_2 : decode cX7_isCorner 2 = .ok (.bipush 63, 2) := by decide +kernel
theorem dX7_isCorner_4 : decode cX7_isCorner 4 = .ok (.invokestatic 125, 3) := by decide +kernel
theorem dX7_isCorner_7 : decode cX7_isCorner 7 = .ok (.ireturn, 1) := by decide +kernel
theorem dX7_carried_0 : decode cX7_carried 0 = .ok (.iload_n 1, 1) := by decide +kernel
theorem dX7_carried_1 : decode cX7_carried 1 = .ok (.bipush 8, 2) := by decide +kernel
theorem dX7_carried_3 : decode cX7_carried 3 = .ok (.irem, 1) := by decide +kernel
theorem dX7_carried_4 : decode cX7_carried 4 = .ok (.iload_n 2, 1) := by decide +kernel
theorem dX7_carried_5 : decode cX7_carried 5 = .ok (.bipush 8, 2) := by decide +kernel
theorem dX7_carried_7 : decode cX7_carried 7 = .ok (.irem, 1) := by decide +kernel
theorem dX7_carried_8 : decode cX7_carried 8 = .ok (.isub, 1) := by decide +kernel
theorem dX7_carried_9 : decode cX7_carried 9 = .ok (.invokestatic 244, 3) := by decide +kernel
theorem dX7_carried_12 : decode cX7_carried 12 = .ok (.istore_n 3, 1) := by decide +kernel
theorem dX7_carried_13 : decode cX7_carried 13 = .ok (.iload_n 1, 1) := by decide +kernel
theorem dX7_carried_14 : decode cX7_carried 14 = .ok (.bipush 8, 2) := by decide +kernel
theorem dX7_carried_16 : decode cX7_carried 16 = .ok (.idiv, 1) := by decide +kernel
theorem dX7_carried_17 : decode cX7_carried 17 = .ok (.iload_n 2, 1) := by decide +kernel
theorem dX7_carried_18 : decode cX7_carried 18 = .ok (.bipush 8, 2) := by decide +kernel
theorem dX7_carried_20 : decode cX7_carried 20 = .ok (.idiv, 1) := by decide +kernel
theorem dX7_carried_21 : decode cX7_carried 21 = .ok (.isub, 1) := by decide +kernel
theorem dX7_carried_22 : decode cX7_carried 22 = .ok (.invokestatic 244, 3) := by decide +kernel
theorem dX7_carried_25 : decode cX7_carried 25 = .ok (.istore 4, 2) := by decide +kernel
theorem dX7_carried_27 : decode cX7_carried 27 = .ok (.iconst 0, 1) := by decide +kernel
theorem dX7_carried_28 : decode cX7_carried 28 = .ok (.iload_n 0, 1) := by decide +kernel
theorem dX7_carried_29 : decode cX7_carried 29 = .ok (.iload_n 3, 1) := by decide +kernel
theorem dX7_carried_30 : decode cX7_carried 30 = .ok (.isub, 1) := by decide +kernel
theorem dX7_carried_31 : decode cX7_carried 31 = .ok (.iload 4, 2) := by decide +kernel
theorem dX7_carried_33 : decode cX7_carried 33 = .ok (.isub, 1) := by decide +kernel
theorem dX7_carried_34 : decode cX7_carried 34 = .ok (.invokestatic 249, 3) := by decide +kernel
theorem dX7_carried_37 : decode cX7_carried 37 = .ok (.ireturn, 1) := by decide +kernel
theorem dX8_init_0 : decode cX8_init 0 = .ok (.aload_n 0, 1) := by decide +kernel
theorem dX8_init_1 : decode cX8_init 1 = .ok (.invokespecial 1, 3) := by decide +kernel
theorem dX8_init_4 : decode cX8_init 4 = .ok (.aload_n 0, 1) := by decide +kernel
theorem dX8_init_5 : decode cX8_init 5 = .ok (.iconst 4, 1) := by decide +kernel
theorem dX8_init_6 : decode cX8_init 6 = .ok (.newarray .int, 2) := by decide +kernel
theorem dX8_init_8 : decode cX8_init 8 = .ok (.dup, 1) := by decide +kernel
theorem dX8_init_9 : decode cX8_init 9 = .ok (.iconst 0, 1) := by decide +kernel
theorem dX8_init_10 : decode cX8_init 10 = .ok (.bipush (-9), 2) := by decide +kernel
theorem dX8_init_12 : decode cX8_init 12 = .ok (.iastore, 1) := by decide +kernel
theorem dX8_init_13 : decode cX8_init 13 = .ok (.dup, 1) := by decide +kernel
theorem dX8_init_14 : decode cX8_init 14 = .ok (.iconst 1, 1) := by decide +kernel
theorem dX8_init_15 : decode cX8_init 15 = .ok (.bipush (-9), 2) := by decide +kernel
theorem dX8_init_17 : decode cX8_init 17 = .ok (.iastore, 1) := by decide +kernel
theorem dX8_init_18 : decode cX8_init 18 = .ok (.dup, 1) := by decide +kernel
theorem dX8_init_19 : decode cX8_init 19 = .ok (.iconst 2, 1) := by decide +kernel
theorem dX8_init_20 : decode cX8_init 20 = .ok (.bipush (-9), 2) := by decide +kernel
theorem dX8_init_22 : decode cX8_init 22 = .ok (.iastore, 1) := by decide +kernel
theorem dX8_init_23 : decode cX8_init 23 = .ok (.dup, 1) := by decide +kernel
theorem dX8_init_24 : decode cX8_init 24 = .ok (.iconst 3, 1) := by decide +kernel
theorem dX8_init_25 : decode cX8_init 25 = .ok (.bipush (-9), 2) := by decide +kernel
theorem dX8_init_27 : decode cX8_init 27 = .ok (.iastore, 1) := by decide +kernel
theorem dX8_init_28 : decode cX8_init 28 = .ok (.putfield 9, 3) := by decide +kernel
theorem dX8_init_31 : decode cX8_init 31 = .ok (.aload_n 0, 1) := by decide +kernel
theorem dX8_init_32 : decode cX8_init 32 = .ok (.iconst 4, 1) := by decide +kernel
theorem dX8_init_33 : decode cX8_init 33 = .ok (.newarray .int, 2) := by decide +kernel
theorem dX8_init_35 : decode cX8_init 35 = .ok (.putfield 13, 3) := by decide +kernel
theorem dX8_init_38 : decode cX8_init 38 = .ok (.aload_n 0, 1) := by decide +kernel
theorem dX8_init_39 : decode cX8_init 39 = .ok (.sipush 240, 3) := by decide +kernel
theorem dX8_init_42 : decode cX8_init 42 = .ok (.newarray .int, 2) := by decide +kernel
theorem dX8_init_44 : decode cX8_init 44 = .ok (.putfield 16, 3) := by decide +kernel
theorem dX8_init_47 : decode cX8_init 47 = .ok (.aload_n 0, 1) := by decide +kernel
theorem dX8_init_48 : decode cX8_init 48 = .ok (.iconst 4, 1) := by decide +kernel
theorem dX8_init_49 : decode cX8_init 49 = .ok (.newarray .int, 2) := by decide +kernel
theorem dX8_init_51 : decode cX8_init 51 = .ok (.putfield 19, 3) := by decide +kernel
theorem dX8_init_54 : decode cX8_init 54 = .ok (.aload_n 0, 1) := by decide +kernel
theorem dX8_init_55 : decode cX8_init 55 = .ok (.bipush 6, 2) := by decide +kernel
theorem dX8_init_57 : decode cX8_init 57 = .ok (.newarray .int, 2) := by decide +kernel
theorem dX8_init_59 : decode cX8_init 59 = .ok (.putfield 22, 3) := by decide +kernel
theorem dX8_init_62 : decode cX8_init 62 = .ok (.aload_n 0, 1) := by decide +kernel
theorem dX8_init_63 : decode cX8_init 63 = .ok (.bipush 6, 2) := by decide +kernel
theorem dX8_init_65 : decode cX8_init 65 = .ok (.newarray .int, 2) := by decide +kernel
theorem dX8_init_67 : decode cX8_init 67 = .ok (.putfield 25, 3) := by decide +kernel
theorem dX8_init_70 : decode cX8_init 70 = .ok (.aload_n 0, 1) := by decide +kernel
theorem dX8_init_71 : decode cX8_init 71 = .ok (.bipush 6, 2) := by decide +kernel
theorem dX8_init_73 : decode cX8_init 73 = .ok (.newarray .int, 2) := by decide +kernel
theorem dX8_init_75 : decode cX8_init 75 = .ok (.putfield 28, 3) := by decide +kernel
theorem dX8_init_78 : decode cX8_init 78 = .ok (.aload_n 0, 1) := by decide +kernel
theorem dX8_init_79 : decode cX8_init 79 = .ok (.bipush 6, 2) := by decide +kernel
theorem dX8_init_81 : decode cX8_init 81 = .ok (.newarray .int, 2) := by decide +kernel
theorem dX8_init_83 : decode cX8_init 83 = .ok (.putfield 31, 3) := by decide +kernel
theorem dX8_init_86 : decode cX8_init 86 = .ok (.aload_n 0, 1) := by decide +kernel
theorem dX8_init_87 : decode cX8_init 87 = .ok (.iconst 4, 1) := by decide +kernel
theorem dX8_init_88 : decode cX8_init 88 = .ok (.newarray .int, 2) := by decide +kernel
theorem dX8_init_90 : decode cX8_init 90 = .ok (.putfield 34, 3) := by decide +kernel
theorem dX8_init_93 : decode cX8_init 93 = .ok (.aload_n 0, 1) := by decide +kernel
theorem dX8_init_94 : decode cX8_init 94 = .ok (.bipush 6, 2) := by decide +kernel
theorem dX8_init_96 : decode cX8_init 96 = .ok (.newarray .int, 2) := by decide +kernel
theorem dX8_init_98 : decode cX8_init 98 = .ok (.putfield 37, 3) := by decide +kernel
theorem dX8_init_101 : decode cX8_init 101 = .ok (.aload_n 0, 1) := by decide +kernel
theorem dX8_init_102 : decode cX8_init 102 = .ok (.bipush 6, 2) := by decide +kernel
theorem dX8_init_104 : decode cX8_init 104 = .ok (.newarray .int, 2) := by decide +kernel
theorem dX8_init_106 : decode cX8_init 106 = .ok (.putfield 40, 3) := by decide +kernel
theorem dX8_init_109 : decode cX8_init 109 = .ok (.aload_n 0, 1) := by decide +kernel
theorem dX8_init_110 : decode cX8_init 110 = .ok (.bipush 6, 2) := by decide +kernel
theorem dX8_init_112 : decode cX8_init 112 = .ok (.newarray .int, 2) := by decide +kernel
theorem dX8_init_114 : decode cX8_init 114 = .ok (.putfield 43, 3) := by decide +kernel
theorem dX8_init_117 : decode cX8_init 117 = .ok (.aload_n 0, 1) := by decide +kernel
theorem dX8_init_118 : decode cX8_init 118 = .ok (.bipush 6, 2) := by decide +kernel
theorem dX8_init_120 : decode cX8_init 120 = .ok (.newarray .int, 2) := by decide +kernel
theorem dX8_init_122 : decode cX8_init 122 = .ok (.putfield 46, 3) := by decide +kernel
theorem dX8_init_125 : decode cX8_init 125 = .ok (.aload_n 0, 1) := by decide +kernel
theorem dX8_init_126 : decode cX8_init 126 = .ok (.bipush 6, 2) := by decide +kernel
theorem dX8_init_128 : decode cX8_init 128 = .ok (.newarray .int, 2) := by decide +kernel
theorem dX8_init_130 : decode cX8_init 130 = .ok (.putfield 49, 3) := by decide +kernel
theorem dX8_init_133 : decode cX8_init 133 = .ok (.aload_n 0, 1) := by decide +kernel
theorem dX8_init_134 : decode cX8_init 134 = .ok (.bipush 6, 2) := by decide +kernel
theorem dX8_init_136 : decode cX8_init 136 = .ok (.newarray .int, 2) := by decide +kernel
theorem dX8_init_138 : decode cX8_init 138 = .ok (.putfield 52, 3) := by decide +kernel
theorem dX8_init_141 : decode cX8_init 141 = .ok (.aload_n 0, 1) := by decide +kernel
theorem dX8_init_142 : decode cX8_init 142 = .ok (.iconst 4, 1) := by decide +kernel
theorem dX8_init_143 : decode cX8_init 143 = .ok (.newarray .int, 2) := by decide +kernel
theorem dX8_init_145 : decode cX8_init 145 = .ok (.putfield 55, 3) := by decide +kernel
theorem dX8_init_148 : decode cX8_init 148 = .ok (.aload_n 0, 1) := by decide +kernel
theorem dX8_init_149 : decode cX8_init 149 = .ok (.bipush 8, 2) := by decide +kernel
theorem dX8_init_151 : decode cX8_init 151 = .ok (.newarray .int, 2) := by decide +kernel
theorem dX8_init_153 : decode cX8_init 153 = .ok (.putfield 58, 3) := by decide +kernel
theorem dX8_init_156 : decode cX8_init 156 = .ok (.aload_n 0, 1) := by decide +kernel
theorem dX8_init_157 : decode cX8_init 157 = .ok (.bipush 8, 2) := by decide +kernel
theorem dX8_init_159 : decode cX8_init 159 = .ok (.newarray .int, 2) := by decide +kernel
theorem dX8_init_161 : decode cX8_init 161 = .ok (.putfield 61, 3) := by decide +kernel
theorem dX8_init_164 : decode cX8_init 164 = .ok (.return_, 1) := by decide +kernel
theorem dX8_fails_0 : decode cX8_fails 0 = .ok (.aload_n 0, 1) := by decide +kernel
theorem dX8_fails_1 : decode cX8_fails 1 = .ok (.iload_n 1, 1) := by decide +kernel
theorem dX8_fails_2 : decode cX8_fails 2 = .ok (.putfield 64, 3) := by decide +kernel
theorem dX8_fails_5 : decode cX8_fails 5 = .ok (.bipush (-10), 2) := by decide +kernel
theorem dX8_fails_7 : decode cX8_fails 7 = .ok (.iload_n 1, 1) := by decide +kernel
theorem dX8_fails_8 : decode cX8_fails 8 = .ok (.isub, 1) := by decide +kernel
theorem dX8_fails_9 : decode cX8_fails 9 = .ok (.ireturn, 1) := by decide +kernel
theorem dX8_lost_0 : decode cX8_lost 0 = .ok (.aload_n 0, 1) := by decide +kernel
theorem dX8_lost_1 : decode cX8_lost 1 = .ok (.iload_n 1, 1) := by decide +kernel
theorem dX8_lost_2 : decode cX8_lost 2 = .ok (.putfield 64, 3) := by decide +kernel
theorem dX8_lost_5 : decode cX8_lost 5 = .ok (.ldc2_w 68, 3) := by decide +kernel
theorem dX8_lost_8 : decode cX8_lost 8 = .ok (.lreturn, 1) := by decide +kernel
theorem dX8_within_0 : decode cX8_within 0 = .ok (.iload_n 0, 1) := by decide +kernel
theorem dX8_within_1 : decode cX8_within 1 = .ok (.iload_n 1, 1) := by decide +kernel
theorem dX8_within_2 : decode cX8_within 2 = .ok (.if_icmp .lt 12, 3) := by decide +kernel
theorem dX8_within_5 : decode cX8_within 5 = .ok (.iload_n 0, 1) := by decide +kernel
theorem dX8_within_6 : decode cX8_within 6 = .ok (.iload_n 2, 1) := by decide +kernel
theorem dX8_within_7 : decode cX8_within 7 = .ok (.if_icmp .gt 7, 3) := by decide +kernel
theorem dX8_within_10 : decode cX8_within 10 = .ok (.iconst 1, 1) := by decide +kernel
theorem dX8_within_11 : decode cX8_within 11 = .ok (.goto 4, 3) := by decide +kernel
theorem dX8_within_14 : decode cX8_within 14 = .ok (.iconst 0, 1) := by decide +kernel
theorem dX8_within_15 : decode cX8_within 15 = .ok (.ireturn, 1) := by decide +kernel
set_option maxRecDepth 20000 in
theorem ggX8_isSheet_X8_within : GoodIn wsX8_isSheet wsX8_within := goodIn_r _ [4] (by decide +kernel) (by decide +kernel)
set_option maxRecDepth 20000 in
theorem gX8_isSheet_X8_within : GoodIn wsX8_isSheet (va_wsS RX8 70 yX8_within wsX8_within) := goodIn_app (goodIn_of _ (by decide +kernel)) ggX8_isSheet_X8_within
theorem dX8_isSheet_0 : decode cX8_isSheet 0 = .ok (.iload_n 0, 1) := by decide +kernel
theorem dX8_isSheet_1 : decode cX8_isSheet 1 = .ok (.iconst 0, 1) := by decide +kernel
theorem dX8_isSheet_2 : decode cX8_isSheet 2 = .ok (.iconst 3, 1) := by decide +kernel
theorem dX8_isSheet_3 : decode cX8_isSheet 3 = .ok (.invokestatic 70, 3) := by decide +kernel
theorem dX8_isSheet_6 : decode cX8_isSheet 6 = .ok (.ireturn, 1) := by decide +kernel
set_option maxRecDepth 20000 in
theorem ggX8_isSort_X8_within : GoodIn wsX8_isSort wsX8_within := goodIn_r _ [4] (by decide +kernel) (by decide +kernel)
set_option maxRecDepth 20000 in
theorem gX8_isSort_X8_within : GoodIn wsX8_isSort (va_wsS RX8 70 yX8_within wsX8_within) := goodIn_app (goodIn_of _ (by decide +kernel)) ggX8_isSort_X8_within
theorem dX8_isSort_0 : decode cX8_isSort 0 = .ok (.iload_n 0, 1) := by decide +kernel
theorem dX8_isSort_1 : decode cX8_isSort 1 = .ok (.iconst 0, 1) := by decide +kernel
theorem dX8_isSort_2 : decode cX8_isSort 2 = .ok (.iconst 2, 1) := by decide +kernel
theorem dX8_isSort_3 : decode cX8_isSort 3 = .ok (.invokestatic 70, 3) := by decide +kernel
theorem dX8_isSort_6 : decode cX8_isSort 6 = .ok (.ireturn, 1) := by decide +kernel
theorem dX8_against_0 : decode cX8_against 0 = .ok (.aload_n 0, 1) := by decide +kernel
theorem dX8_against_1 : decode cX8_against 1 = .ok (.getfield 9, 3) := by decide +kernel
theorem dX8_against_4 : decode cX8_against 4 = .ok (.iload_n 1, 1) := by decide +kernel
theorem dX8_against_5 : decode cX8_against 5 = .ok (.iaload, 1) := by decide +kernel
theorem dX8_against_6 : decode cX8_against 6 = .ok (.bipush (-9), 2) := by decide +kernel
theorem dX8_against_8 : decode cX8_against 8 = .ok (.if_icmp .eq 15, 3) := by decide +kernel
theorem dX8_against_11 : decode cX8_against 11 = .ok (.aload_n 0, 1) := by decide +kernel
theorem dX8_against_12 : decode cX8_against 12 = .ok (.getfield 9, 3) := by decide +kernel
theorem dX8_against_15 : decode cX8_against 15 = .ok (.iload_n 1, 1) := by decide +kernel
theorem dX8_against_16 : decode cX8_against 16 = .ok (.iaload, 1) := by decide +kernel
theorem dX8_against_17 : decode cX8_against 17 = .ok (.iload_n 2, 1) := by decide +kernel
theorem dX8_against_18 : decode cX8_against 18 = .ok (.if_icmp .eq 5, 3) := by decide +kernel
theorem dX8_against_21 : decode cX8_against 21 = .ok (.iconst 2, 1) := by decide +kernel
theorem dX8_against_22 : decode cX8_against 22 = .ok (.ireturn, 1) := by decide +kernel
theorem dX8_against_23 : decode cX8_against 23 = .ok (.aload_n 0, 1) := by decide +kernel
theorem dX8_against_24 : decode cX8_against 24 = .ok (.getfield 9, 3) := by decide +kernel
theorem dX8_against_27 : decode cX8_against 27 = .ok (.iload_n 1, 1) := by decide +kernel
theorem dX8_against_28 : decode cX8_against 28 = .ok (.iaload, 1) := by decide +kernel
theorem dX8_against_29 : decode cX8_against 29 = .ok (.bipush (-9), 2) := by decide +kernel
theorem dX8_against_31 : decode cX8_against 31 = .ok (.if_icmp .ne 5, 3) := by decide +kernel
theorem dX8_against_34 : decode cX8_against 34 = .ok (.iconst 1, 1) := by decide +kernel
theorem dX8_against_35 : decode cX8_against 35 = .ok (.ireturn, 1) := by decide +kernel
theorem dX8_against_36 : decode cX8_against 36 = .ok (.iload 4, 2) := by decide +kernel
theorem dX8_against_38 : decode cX8_against 38 = .ok (.ifCond .ge 5, 3) := by decide +kernel
theorem dX8_against_41 : decode cX8_against 41 = .ok (.iconst 4, 1) := by decide +kernel
theorem dX8_against_42 : decode cX8_against 42 = .ok (.ireturn, 1) := by decide +kernel
theorem dX8_against_43 : decode cX8_against 43 = .ok (.iload_n 3, 1) := by decide +kernel
theorem dX8_against_44 : decode cX8_against 44 = .ok (.ifCond .lt 26, 3) := by decide +kernel
theorem dX8_against_47 : decode cX8_against 47 = .ok (.iload_n 3, 1) := by decide +kernel
theorem dX8_against_48 : decode cX8_against 48 = .ok (.aload_n 0, 1) := by decide +kernel
theorem dX8_against_49 : decode cX8_against 49 = .ok (.getfield 13, 3) := by decide +kernel
theorem dX8_against_52 : decode cX8_against 52 = .ok (.iload_n 1, 1) := by decide +kernel
theorem dX8_against_53 : decode cX8_against 53 = .ok (.iaload, 1) := by decide +kernel
theorem dX8_against_54 : decode cX8_against 54 = .ok (.if_icmp .gt 16, 3) := by decide +kernel
theorem dX8_against_57 : decode cX8_against 57 = .ok (.iload 4, 2) := by decide +kernel
theorem dX8_against_59 : decode cX8_against 59 = .ok (.aload_n 0, 1) := by decide +kernel
theorem dX8_against_60 : decode cX8_against 60 = .ok (.getfield 13, 3) := by decide +kernel
theorem dX8_against_63 : decode cX8_against 63 = .ok (.iload_n 1, 1) := by decide +kernel
theorem dX8_against_64 : decode cX8_against 64 = .ok (.iaload, 1) := by decide +kernel
theorem dX8_against_65 : decode cX8_against 65 = .ok (.iload_n 3, 1) := by decide +kernel
theorem dX8_against_66 : decode cX8_against 66 = .ok (.isub, 1) := by decide +kernel
theorem dX8_against_67 : decode cX8_against 67 = .ok (.if_icmp .le 7, 3) := by decide +kernel
theorem dX8_against_70 : decode cX8_against 70 = .ok (.iconst 3, 1) := by decide +kernel
theorem dX8_against_71 : decode cX8_against 71 = .ok (.goto 4, 3) := by decide +kernel
theorem dX8_against_74 : decode cX8_against 74 = .ok (.iconst 0, 1) := by decide +kernel
theorem dX8_against_75 : decode cX8_against 75 = .ok (.ireturn, 1) := by decide +kernel
theorem dX8_isArticle_0 : decode cX8_isArticle 0 = .ok (.iload_n 1, 1) := by decide +kernel
theorem dX8_isArticle_1 : decode cX8_isArticle 1 = .ok (.ifCond .lt 15, 3) := by decide +kernel
theorem dX8_isArticle_4 : decode cX8_isArticle 4 = .ok (.iload_n 1, 1) := by decide +kernel
theorem dX8_isArticle_5 : decode cX8_isArticle 5 = .ok (.aload_n 0, 1) := by decide +kernel
theorem dX8_isArticle_6 : decode cX8_isArticle 6 = .ok (.getfield 74, 3) := by decide +kernel
theorem dX8_isArticle_9 : decode cX8_isArticle 9 = .ok (.if_icmp .ge 7, 3) := by decide +kernel
theorem dX8_isArticle_12 : decode cX8_isArticle 12 = .ok (.iconst 1, 1) := by decide +kernel
theorem dX8_isArticle_13 : decode cX8_isArticle 13 = .ok (.goto 4, 3) := by decide +kernel
theorem dX8_isArticle_16 : decode cX8_isArticle 16 = .ok (.iconst 0, 1) := by decide +kernel
theorem dX8_isArticle_17 : decode cX8_isArticle 17 = .ok (.ireturn, 1) := by decide +kernel
theorem dX8_isRoom_0 : decode cX8_isRoom 0 = .ok (.iload_n 1, 1) := by decide +kernel
theorem dX8_isRoom_1 : decode cX8_isRoom 1 = .ok (.ifCond .lt 15, 3) := by decide +kernel
theorem dX8_isRoom_4 : decode cX8_isRoom 4 = .ok (.iload_n 1, 1) := by decide +kernel
theorem dX8_isRoom_5 : decode cX8_isRoom 5 = .ok (.aload_n 0, 1) := by decide +kernel
theorem dX8_isRoom_6 : decode cX8_isRoom 6 = .ok (.getfield 77, 3) := by decide +kernel
theorem dX8_isRoom_9 : decode cX8_isRoom 9 = .ok (.if_icmp .ge 7, 3) := by decide +kernel
theorem dX8_isRoom_12 : decode cX8_isRoom 12 = .ok (.iconst 1, 1) := by decide +kernel
theorem dX8_isRoom_13 : decode cX8_isRoom 13 = .ok (.goto 4, 3) := by decide +kernel
theorem dX8_isRoom_16 : decode cX8_isRoom 16 = .ok (.iconst 0, 1) := by decide +kernel
theorem dX8_isRoom_17 : decode cX8_isRoom 17 = .ok (.ireturn, 1) := by decide +kernel
set_option maxRecDepth 20000 in
theorem ggX8_isCorner_X8_within : GoodIn wsX8_isCorner wsX8_within := goodIn_r _ [4] (by decide +kernel) (by decide +kernel)
set_option maxRecDepth 20000 in
theorem gX8_isCorner_X8_within : GoodIn wsX8_isCorner (va_wsS RX8 70 yX8_within wsX8_within) := goodIn_app (goodIn_of _ (by decide +kernel)) ggX8_isCorner_X8_within
theorem dX8_isCorner_0 : decode cX8_isCorner 0 = .ok (.iload_n 0, 1) := by decide +kernel
theorem dX8_isCorner_1 : decode cX8_isCorner 1 = .ok (.iconst 0, 1) := by decide +kernel
theorem dX8_isCorner_2 : decode cX8_isCorner 2 = .ok (.bipush 63, 2) := by decide +kernel
theorem dX8_isCorner_4 : decode cX8_isCorner 4 = .ok (.invokestatic 70, 3) := by decide +kernel
theorem dX8_isCorner_7 : decode cX8_isCorner 7 = .ok (.ireturn, 1) := by decide +kernel
theorem dX8_isSet_0 : decode cX8_isSet 0 = .ok (.iload_n 1, 1) := by decide +kernel
theorem dX8_isSet_1 : decode cX8_isSet 1 = .ok (.ifCond .lt 17, 3) := by decide +kernel
theorem dX8_isSet_4 : decode cX8_isSet 4 = .ok (.iload_n 1, 1) := by decide +kernel
theorem dX8_isSet_5 : decode cX8_isSet 5 = .ok (.iconst 1, 1) := by decide +kernel
theorem dX8_isSet_6 : decode cX8_isSet 6 = .ok (.aload_n 0, 1) := by decide +kernel
theorem dX8_isSet_7 : decode cX8_isSet 7 = .ok (.getfield 74, 3) := by decide +kernel
theorem dX8_isSet_10 : decode cX8_isSet 10 = .ok (.ishl, 1) := by decide +kernel
theorem dX8_isSet_11 : decode cX8_isSet 11 = .ok (.if_icmp .ge 7, 3) := by decide +kernel
theorem dX8_isSet_14 : decode cX8_isSet 14 = .ok (.iconst 1, 1) := by decide +kernel
theorem dX8_isSet_15 : decode cX8_isSet 15 = .ok (.goto 4, 3) := by decide +kernel
theorem dX8_isSet_18 : decode cX8_isSet 18 = .ok (.iconst 0, 1) := by decide +kernel
theorem dX8_isSet_19 : decode cX8_isSet 19 = .ok (.ireturn, 1) := by decide +kernel
theorem dX8_isOf_0 : decode cX8_isOf 0 = .ok (.iload_n 0, 1) := by decide +kernel
theorem dX8_isOf_1 : decode cX8_isOf 1 = .ok (.iload_n 1, 1) := by decide +kernel
theorem dX8_isOf_2 : decode cX8_isOf 2 = .ok (.ishr, 1) := by decide +kernel
theorem dX8_isOf_3 : decode cX8_isOf 3 = .ok (.iconst 1, 1) := by decide +kernel
theorem dX8_isOf_4 : decode cX8_isOf 4 = .ok (.iand, 1) := by decide +kernel
theorem dX8_isOf_5 : decode cX8_isOf 5 = .ok (.iconst 1, 1) := by decide +kernel
theorem dX8_isOf_6 : decode cX8_isOf 6 = .ok (.if_icmp .ne 7, 3) := by decide +kernel
theorem dX8_isOf_9 : decode cX8_isOf 9 = .ok (.iconst 1, 1) := by decide +kernel
theorem dX8_isOf_10 : decode cX8_isOf 10 = .ok (.goto 4, 3) := by decide +kernel
theorem dX8_isOf_13 : decode cX8_isOf 13 = .ok (.iconst 0, 1) := by decide +kernel
theorem dX8_isOf_14 : decode cX8_isOf 14 = .ok (.ireturn, 1) := by decide +kernel
set_option maxRecDepth 20000 in
theorem ggX8_digit_X8_within : GoodIn wsX8_digit wsX8_within := goodIn_r _ [6] (by decide +kernel) (by decide +kernel)
set_option maxRecDepth 20000 in
theorem gX8_digit_X8_within : GoodIn wsX8_digit (va_wsS RX8 70 yX8_within wsX8_within) := goodIn_app (goodIn_of _ (by decide +kernel)) ggX8_digit_X8_within
theorem dX8_digit_0 : decode cX8_digit 0 = .ok (.aload_n 0, 1) := by decide +kernel
theorem dX8_digit_1 : decode cX8_digit 1 = .ok (.getfield 80, 3) := by decide +kernel
theorem dX8_digit_4 : decode cX8_digit 4 = .ok (.iload_n 1, 1) := by decide +kernel
theorem dX8_digit_5 : decode cX8_digit 5 = .ok (.if_icmp .ge 26, 3) := by decide +kernel
theorem dX8_digit_8 : decode cX8_digit 8 = .ok (.aload_n 0, 1) := by decide +kernel
theorem dX8_digit_9 : decode cX8_digit 9 = .ok (.getfield 16, 3) := by decide +kernel
theorem dX8_digit_12 : decode cX8_digit 12 = .ok (.aload_n 0, 1) := by decide +kernel
theorem dX8_digit_13 : decode cX8_digit 13 = .ok (.getfield 80, 3) := by decide +kernel
theorem dX8_digit_16 : decode cX8_digit 16 = .ok (.iaload, 1) := by decide +kernel
theorem dX8_digit_17 : decode cX8_digit 17 = .ok (.bipush 48, 2) := by decide +kernel
theorem dX8_digit_19 : decode cX8_digit 19 = .ok (.iload_n 2, 1) := by decide +kernel
theorem dX8_digit_20 : decode cX8_digit 20 = .ok (.iadd, 1) := by decide +kernel
theorem dX8_digit_21 : decode cX8_digit 21 = .ok (.bipush 48, 2) := by decide +kernel
theorem dX8_digit_23 : decode cX8_digit 23 = .ok (.iload_n 3, 1) := by decide +kernel
theorem dX8_digit_24 : decode cX8_digit 24 = .ok (.iadd, 1) := by decide +kernel
theorem dX8_digit_25 : decode cX8_digit 25 = .ok (.invokestatic 70, 3) := by decide +kernel
theorem dX8_digit_28 : decode cX8_digit 28 = .ok (.ifCond .ne 6, 3) := by decide +kernel
theorem dX8_digit_31 : decode cX8_digit 31 = .ok (.bipush (-9), 2) := by decide +kernel
theorem dX8_digit_33 : decode cX8_digit 33 = .ok (.ireturn, 1) := by decide +kernel
theorem dX8_digit_34 : decode cX8_digit 34 = .ok (.aload_n 0, 1) := by decide +kernel
theorem dX8_digit_35 : decode cX8_digit 35 = .ok (.dup, 1) := by decide +kernel
theorem dX8_digit_36 : decode cX8_digit 36 = .ok (.getfield 80, 3) := by decide +kernel
theorem dX8_digit_39 : decode cX8_digit 39 = .ok (.iconst 1, 1) := by decide +kernel
theorem dX8_digit_40 : decode cX8_digit 40 = .ok (.iadd, 1) := by decide +kernel
theorem dX8_digit_41 : decode cX8_digit 41 = .ok (.putfield 80, 3) := by decide +kernel
theorem dX8_digit_44 : decode cX8_digit 44 = .ok (.aload_n 0, 1) := by decide +kernel
theorem dX8_digit_45 : decode cX8_digit 45 = .ok (.getfield 16, 3) := by decide +kernel
theorem dX8_digit_48 : decode cX8_digit 48 = .ok (.aload_n 0, 1) := by decide +kernel
theorem dX8_digit_49 : decode cX8_digit 49 = .ok (.getfield 80, 3) := by decide +kernel
theorem dX8_digit_52 : decode cX8_digit 52 = .ok (.iconst 1, 1) := by decide +kernel
theorem dX8_digit_53 : decode cX8_digit 53 = .ok (.isub, 1) := by decide +kernel
theorem dX8_digit_54 : decode cX8_digit 54 = .ok (.iaload, 1) := by decide +kernel
theorem dX8_digit_55 : decode cX8_digit 55 = .ok (.bipush 48, 2) := by decide +kernel
theorem dX8_digit_57 : decode cX8_digit 57 = .ok (.isub, 1) := by decide +kernel
theorem dX8_digit_58 : decode cX8_digit 58 = .ok (.ireturn, 1) := by decide +kernel
theorem dX8_isSign_0 : decode cX8_isSign 0 = .ok (.aload_n 0, 1) := by decide +kernel
theorem dX8_isSign_1 : decode cX8_isSign 1 = .ok (.getfield 80, 3) := by decide +kernel
theorem dX8_isSign_4 : decode cX8_isSign 4 = .ok (.iload_n 1, 1) := by decide +kernel
theorem dX8_isSign_5 : decode cX8_isSign 5 = .ok (.if_icmp .ge 16, 3) := by decide +kernel
theorem dX8_isSign_8 : decode cX8_isSign 8 = .ok (.aload_n 0, 1) := by decide +kernel
theorem dX8_isSign_9 : decode cX8_isSign 9 = .ok (.getfield 16, 3) := by decide +kernel
theorem dX8_isSign_12 : decode cX8_isSign 12 = .ok (.aload_n 0, 1) := by decide +kernel
theorem dX8_isSign_13 : decode cX8_isSign 13 = .ok (.getfield 80, 3) := by decide +kernel
theorem dX8_isSign_16 : decode cX8_isSign 16 = .ok (.iaload, 1) := by decide +kernel
theorem dX8_isSign_17 : decode cX8_isSign 17 = .ok (.iload_n 2, 1) := by decide +kernel
theorem dX8_isSign_18 : decode cX8_isSign 18 = .ok (.if_icmp .eq 5, 3) := by decide +kernel
theorem dX8_isSign_21 : decode cX8_isSign 21 = .ok (.iconst 0, 1) := by decide +kernel
theorem dX8_isSign_22 : decode cX8_isSign 22 = .ok (.ireturn, 1) := by decide +kernel
theorem dX8_isSign_23 : decode cX8_isSign 23 = .ok (.aload_n 0, 1) := by decide +kernel
theorem dX8_isSign_24 : decode cX8_isSign 24 = .ok (.dup, 1) := by decide +kernel
theorem dX8_isSign_25 : decode cX8_isSign 25 = .ok (.getfield 80, 3) := by decide +kernel
theorem dX8_isSign_28 : decode cX8_isSign 28 = .ok (.iconst 1, 1) := by decide +kernel
theorem dX8_isSign_29 : decode cX8_isSign 29 = .ok (.iadd, 1) := by decide +kernel
theorem dX8_isSign_30 : decode cX8_isSign 30 = .ok (.putfield 80, 3) := by decide +kernel
theorem dX8_isSign_33 : decode cX8_isSign 33 = .ok (.iconst 1, 1) := by decide +kernel
theorem dX8_isSign_34 : decode cX8_isSign 34 = .ok (.ireturn, 1) := by decide +kernel
set_option maxRecDepth 20000 in
theorem ggX8_city_X8_isSheet : GoodIn wsX8_city wsX8_isSheet := goodIn_r _ [7, 8, 9, 6, 10] (by decide +kernel) (by decide +kernel)
set_option maxRecDepth 20000 in
theorem gX8_city_X8_isSheet : GoodIn wsX8_city (va_wsS RX8 83 yX8_isSheet wsX8_isSheet) := goodIn_app (goodIn_of _ (by decide +kernel)) ggX8_city_X8_isSheet
set_option maxRecDepth 20000 in
theorem ggX8_city_X8_isSort : GoodIn wsX8_city wsX8_isSort := goodIn_r _ [13, 8, 9, 6, 10] (by decide +kernel) (by decide +kernel)
set_option maxRecDepth 20000 in
theorem gX8_city_X8_isSort : GoodIn wsX8_city (va_wsS RX8 87 yX8_isSort wsX8_isSort) := goodIn_app (goodIn_of _ (by decide +kernel)) ggX8_city_X8_isSort
set_option maxRecDepth 20000 in
theorem ggX8_city_X8_against : GoodIn wsX8_city wsX8_against := goodIn_r _ [17, 18, 19, 66, 67, 68, 69, 70, 71, 72, 73, 74, 75, 76, 77, 78, 79, 80, 81, 82, 83, 84, 85, 86, 87, 88, 89, 90, 91, 92, 93, 94, 95, 96, 97] (by decide +kernel) (by decide +kernel)
set_option maxRecDepth 20000 in
theorem gX8_city_X8_against : GoodIn wsX8_city (wsV RX8 90 RX8 yX8_against wsX8_against) := goodIn_app (goodIn_of _ (by decide +kernel)) ggX8_city_X8_against
set_option maxRecDepth 20000 in
theorem ggX8_city_X8_fails : GoodIn wsX8_city wsX8_fails := goodIn_r _ [23, 1, 66, 67, 68, 69, 70, 71, 72, 73, 74, 75, 76, 77, 78, 79, 80, 81, 82, 83, 84, 85, 86, 87, 88, 89, 90, 91, 92, 93, 94, 95, 96, 97] (by decide +kernel) (by decide +kernel)
set_option maxRecDepth 20000 in
theorem gX8_city_X8_fails : GoodIn wsX8_city (wsV RX8 94 RX8 yX8_fails wsX8_fails) := goodIn_app (goodIn_of _ (by decide +kernel)) ggX8_city_X8_fails
set_option maxRecDepth 20000 in
theorem ggX8_city_X8_readCity : GoodIn wsX8_city wsX8_readCity := goodIn_r _ [27, 28, 29, 2, 30, 31, 32, 6, 33, 34, 35, 36, 37, 38, 8, 9, 10, 39, 40, 41, 42, 43, 44, 45, 46, 47, 48, 49, 50, 51, 52, 66, 67, 68, 69, 70, 71, 72, 73, 74, 75, 76, 77, 78, 79, 80, 81, 82, 83, 84, 85, 86, 87, 88, 89, 90, 91, 92, 93, 94, 95, 96, 97] (by decide +kernel) (by decide +kernel)
set_option maxRecDepth 20000 in
theorem gX8_city_X8_readCity : GoodIn wsX8_city (wsV RX8 98 RX8 yX8_readCity wsX8_readCity) := goodIn_app (goodIn_of _ (by decide +kernel)) ggX8_city_X8_readCity
set_option maxRecDepth 20000 in
theorem ggX8_city_X8_takeCity : GoodIn wsX8_city wsX8_takeCity := goodIn_r _ [56, 28, 57, 43, 58, 59, 44, 29, 3, 60, 49, 61, 50, 62, 51, 63, 52, 64, 65, 66, 67, 68, 69, 70, 71, 72, 73, 74, 75, 76, 77, 78, 79, 80, 81, 82, 83, 84, 85, 86, 87, 88, 89, 90, 91, 92, 93, 94, 95, 96, 97] (by decide +kernel) (by decide +kernel)
set_option maxRecDepth 20000 in
theorem gX8_city_X8_takeCity : GoodIn wsX8_city (wsV RX8 101 RX8 yX8_takeCity wsX8_takeCity) := goodIn_app (goodIn_of _ (by decide +kernel)) ggX8_city_X8_takeCity
theorem dX8_city_0 : decode cX8_city 0 = .ok (.aload_n 0, 1) := by decide +kernel
theorem dX8_city_1 : decode cX8_city 1 = .ok (.iconst 0, 1) := by decide +kernel
theorem dX8_city_2 : decode cX8_city 2 = .ok (.putfield 64, 3) := by decide +kernel
theorem dX8_city_5 : decode cX8_city 5 = .ok (.iload_n 1, 1) := by decide +kernel
theorem dX8_city_6 : decode cX8_city 6 = .ok (.invokestatic 83, 3) := by decide +kernel
theorem dX8_city_9 : decode cX8_city 9 = .ok (.ifCond .ne 5, 3) := by decide +kernel
theorem dX8_city_12 : decode cX8_city 12 = .ok (.iconst (-1), 1) := by decide +kernel
theorem dX8_city_13 : decode cX8_city 13 = .ok (.ireturn, 1) := by decide +kernel
theorem dX8_city_14 : decode cX8_city 14 = .ok (.iload_n 2, 1) := by decide +kernel
theorem dX8_city_15 : decode cX8_city 15 = .ok (.invokestatic 87, 3) := by decide +kernel
theorem dX8_city_18 : decode cX8_city 18 = .ok (.ifCond .ne 6, 3) := by decide +kernel
theorem dX8_city_21 : decode cX8_city 21 = .ok (.bipush (-2), 2) := by decide +kernel
theorem dX8_city_23 : decode cX8_city 23 = .ok (.ireturn, 1) := by decide +kernel
theorem dX8_city_24 : decode cX8_city 24 = .ok (.aload_n 0, 1) := by decide +kernel
theorem dX8_city_25 : decode cX8_city 25 = .ok (.iload_n 1, 1) := by decide +kernel
theorem dX8_city_26 : decode cX8_city 26 = .ok (.iload_n 2, 1) := by decide +kernel
theorem dX8_city_27 : decode cX8_city 27 = .ok (.iload_n 3, 1) := by decide +kernel
theorem dX8_city_28 : decode cX8_city 28 = .ok (.iload 4, 2) := by decide +kernel
theorem dX8_city_30 : decode cX8_city 30 = .ok (.invokevirtual 90, 3) := by decide +kernel
theorem dX8_city_33 : decode cX8_city 33 = .ok (.istore 5, 2) := by decide +kernel
theorem dX8_city_35 : decode cX8_city 35 = .ok (.iload 5, 2) := by decide +kernel
theorem dX8_city_37 : decode cX8_city 37 = .ok (.ifCond .eq 10, 3) := by decide +kernel
theorem dX8_city_40 : decode cX8_city 40 = .ok (.aload_n 0, 1) := by decide +kernel
theorem dX8_city_41 : decode cX8_city 41 = .ok (.iload 5, 2) := by decide +kernel
theorem dX8_city_43 : decode cX8_city 43 = .ok (.invokevirtual 94, 3) := by decide +kernel
theorem dX8_city_46 : decode cX8_city 46 = .ok (.ireturn, 1) := by decide +kernel
theorem dX8_city_47 : decode cX8_city 47 = .ok (.bipush 60, 2) := by decide +kernel
theorem dX8_city_49 : decode cX8_city 49 = .ok (.iload_n 1, 1) := by decide +kernel
theorem dX8_city_50 : decode cX8_city 50 = .ok (.imul, 1) := by decide +kernel
theorem dX8_city_51 : decode cX8_city 51 = .ok (.iload_n 3, 1) := by decide +kernel
theorem dX8_city_52 : decode cX8_city 52 = .ok (.iadd, 1) := by decide +kernel
theorem dX8_city_53 : decode cX8_city 53 = .ok (.istore 6, 2) := by decide +kernel
theorem dX8_city_55 : decode cX8_city 55 = .ok (.aload_n 0, 1) := by decide +kernel
theorem dX8_city_56 : decode cX8_city 56 = .ok (.iload 6, 2) := by decide +kernel
theorem dX8_city_58 : decode cX8_city 58 = .ok (.putfield 80, 3) := by decide +kernel
theorem dX8_city_61 : decode cX8_city 61 = .ok (.aload_n 0, 1) := by decide +kernel
theorem dX8_city_62 : decode cX8_city 62 = .ok (.iload 6, 2) := by decide +kernel
theorem dX8_city_64 : decode cX8_city 64 = .ok (.iload 4, 2) := by decide +kernel
theorem dX8_city_66 : decode cX8_city 66 = .ok (.iadd, 1) := by decide +kernel
theorem dX8_city_67 : decode cX8_city 67 = .ok (.invokevirtual 98, 3) := by decide +kernel
theorem dX8_city_70 : decode cX8_city 70 = .ok (.ifCond .ne 14, 3) := by decide +kernel
theorem dX8_city_73 : decode cX8_city 73 = .ok (.bipush (-100), 2) := by decide +kernel
theorem dX8_city_75 : decode cX8_city 75 = .ok (.aload_n 0, 1) := by decide +kernel
theorem dX8_city_76 : decode cX8_city 76 = .ok (.getfield 80, 3) := by decide +kernel
theorem dX8_city_79 : decode cX8_city 79 = .ok (.iload 6, 2) := by decide +kernel
theorem dX8_city_81 : decode cX8_city 81 = .ok (.isub, 1) := by decide +kernel
theorem dX8_city_82 : decode cX8_city 82 = .ok (.isub, 1) := by decide +kernel
theorem dX8_city_83 : decode cX8_city 83 = .ok (.ireturn, 1) := by decide +kernel
theorem dX8_city_84 : decode cX8_city 84 = .ok (.aload_n 0, 1) := by decide +kernel
theorem dX8_city_85 : decode cX8_city 85 = .ok (.invokevirtual 101, 3) := by decide +kernel
theorem dX8_city_88 : decode cX8_city 88 = .ok (.aload_n 0, 1) := by decide +kernel
theorem dX8_city_89 : decode cX8_city 89 = .ok (.getfield 74, 3) := by decide +kernel
theorem dX8_city_92 : decode cX8_city 92 = .ok (.ireturn, 1) := by decide +kernel
theorem dX8_takeCity_0 : decode cX8_takeCity 0 = .ok (.aload_n 0, 1) := by decide +kernel
theorem dX8_takeCity_1 : decode cX8_takeCity 1 = .ok (.aload_n 0, 1) := by decide +kernel
theorem dX8_takeCity_2 : decode cX8_takeCity 2 = .ok (.getfield 104, 3) := by decide +kernel
theorem dX8_takeCity_5 : decode cX8_takeCity 5 = .ok (.putfield 107, 3) := by decide +kernel
theorem dX8_takeCity_8 : decode cX8_takeCity 8 = .ok (.aload_n 0, 1) := by decide +kernel
theorem dX8_takeCity_9 : decode cX8_takeCity 9 = .ok (.aload_n 0, 1) := by decide +kernel
theorem dX8_takeCity_10 : decode cX8_takeCity 10 = .ok (.getfield 110, 3) := by decide +kernel
theorem dX8_takeCity_13 : decode cX8_takeCity 13 = .ok (.putfield 77, 3) := by decide +kernel
theorem dX8_takeCity_16 : decode cX8_takeCity 16 = .ok (.iconst 0, 1) := by decide +kernel
theorem dX8_takeCity_17 : decode cX8_takeCity 17 = .ok (.istore_n 1, 1) := by decide +kernel
theorem dX8_takeCity_18 : decode cX8_takeCity 18 = .ok (.iload_n 1, 1) := by decide +kernel
theorem dX8_takeCity_19 : decode cX8_takeCity 19 = .ok (.aload_n 0, 1) := by decide +kernel
theorem dX8_takeCity_20 : decode cX8_takeCity 20 = .ok (.getfield 77, 3) := by decide +kernel
theorem dX8_takeCity_23 : decode cX8_takeCity 23 = .ok (.if_icmp .ge 21, 3) := by decide +kernel
theorem dX8_takeCity_26 : decode cX8_takeCity 26 = .ok (.aload_n 0, 1) := by decide +kernel
theorem dX8_takeCity_27 : decode cX8_takeCity 27 = .ok (.getfield 19, 3) := by decide +kernel
theorem dX8_takeCity_30 : decode cX8_takeCity 30 = .ok (.iload_n 1, 1) := by decide +kernel
theorem dX8_takeCity_31 : decode cX8_takeCity 31 = .ok (.aload_n 0, 1) := by decide +kernel
theorem dX8_takeCity_32 : decode cX8_takeCity 32 = .ok (.getfield 34, 3) := by decide +kernel
theorem dX8_takeCity_35 : decode cX8_takeCity 35 = .ok (.iload_n 1, 1) := by decide +kernel
theorem dX8_takeCity_36 : decode cX8_takeCity 36 = .ok (.iaload, 1) := by decide +kernel
theorem dX8_takeCity_37 : decode cX8_takeCity 37 = .ok (.iastore, 1) := by decide +kernel
theorem dX8_takeCity_38 : decode cX8_takeCity 38 = .ok (.iinc 1 1, 3) := by decide +kernel
theorem dX8_takeCity_41 : decode cX8_takeCity 41 = .ok (.goto (-23), 3) := by decide +kernel
theorem dX8_takeCity_44 : decode cX8_takeCity 44 = .ok (.aload_n 0, 1) := by decide +kernel
theorem dX8_takeCity_45 : decode cX8_takeCity 45 = .ok (.aload_n 0, 1) := by decide +kernel
theorem dX8_takeCity_46 : decode cX8_takeCity 46 = .ok (.getfield 113, 3) := by decide +kernel
theorem dX8_takeCity_49 : decode cX8_takeCity 49 = .ok (.putfield 74, 3) := by decide +kernel
theorem dX8_takeCity_52 : decode cX8_takeCity 52 = .ok (.iconst 0, 1) := by decide +kernel
theorem dX8_takeCity_53 : decode cX8_takeCity 53 = .ok (.istore_n 1, 1) := by decide +kernel
theorem dX8_takeCity_54 : decode cX8_takeCity 54 = .ok (.iload_n 1, 1) := by decide +kernel
theorem dX8_takeCity_55 : decode cX8_takeCity 55 = .ok (.aload_n 0, 1) := by decide +kernel
theorem dX8_takeCity_56 : decode cX8_takeCity 56 = .ok (.getfield 74, 3) := by decide +kernel
theorem dX8_takeCity_59 : decode cX8_takeCity 59 = .ok (.if_icmp .ge 57, 3) := by decide +kernel
theorem dX8_takeCity_62 : decode cX8_takeCity 62 = .ok (.aload_n 0, 1) := by decide +kernel
theorem dX8_takeCity_63 : decode cX8_takeCity 63 = .ok (.getfield 22, 3) := by decide +kernel
theorem dX8_takeCity_66 : decode cX8_takeCity 66 = .ok (.iload_n 1, 1) := by decide +kernel
theorem dX8_takeCity_67 : decode cX8_takeCity 67 = .ok (.aload_n 0, 1) := by decide +kernel
theorem dX8_takeCity_68 : decode cX8_takeCity 68 = .ok (.getfield 37, 3) := by decide +kernel
theorem dX8_takeCity_71 : decode cX8_takeCity 71 = .ok (.iload_n 1, 1) := by decide +kernel
theorem dX8_takeCity_72 : decode cX8_takeCity 72 = .ok (.iaload, 1) := by decide +kernel
theorem dX8_takeCity_73 : decode cX8_takeCity 73 = .ok (.iastore, 1) := by decide +kernel
theorem dX8_takeCity_74 : decode cX8_takeCity 74 = .ok (.aload_n 0, 1) := by decide +kernel
theorem dX8_takeCity_75 : decode cX8_takeCity 75 = .ok (.getfield 25, 3) := by decide +kernel
theorem dX8_takeCity_78 : decode cX8_takeCity 78 = .ok (.iload_n 1, 1) := by decide +kernel
theorem dX8_takeCity_79 : decode cX8_takeCity 79 = .ok (.aload_n 0, 1) := by decide +kernel
theorem dX8_takeCity_80 : decode cX8_takeCity 80 = .ok (.getfield 40, 3) := by decide +kernel
theorem dX8_takeCity_83 : decode cX8_takeCity 83 = .ok (.iload_n 1, 1) := by decide +kernel
theorem dX8_takeCity_84 : decode cX8_takeCity 84 = .ok (.iaload, 1) := by decide +kernel
theorem dX8_takeCity_85 : decode cX8_takeCity 85 = .ok (.iastore, 1) := by decide +kernel
theorem dX8_takeCity_86 : decode cX8_takeCity 86 = .ok (.aload_n 0, 1) := by decide +kernel
theorem dX8_takeCity_87 : decode cX8_takeCity 87 = .ok (.getfield 28, 3) := by decide +kernel
theorem dX8_takeCity_90 : decode cX8_takeCity 90 = .ok (.iload_n 1, 1) := by decide +kernel
theorem dX8_takeCity_91 : decode cX8_takeCity 91 = .ok (.aload_n 0, 1) := by decide +kernel
theorem dX8_takeCity_92 : decode cX8_takeCity 92 = .ok (.getfield 43, 3) := by decide +kernel
theorem dX8_takeCity_95 : decode cX8_takeCity 95 = .ok (.iload_n 1, 1) := by decide +kernel
theorem dX8_takeCity_96 : decode cX8_takeCity 96 = .ok (.iaload, 1) := by decide +kernel
theorem dX8_takeCity_97 : decode cX8_takeCity 97 = .ok (.iastore, 1) := by decide +kernel
theorem dX8_takeCity_98 : decode cX8_takeCity 98 = .ok (.aload_n 0, 1) := by decide +kernel
theorem dX8_takeCity_99 : decode cX8_takeCity 99 = .ok (.getfield 31, 3) := by decide +kernel
theorem dX8_takeCity_102 : decode cX8_takeCity 102 = .ok (.iload_n 1, 1) := by decide +kernel
theorem dX8_takeCity_103 : decode cX8_takeCity 103 = .ok (.aload_n 0, 1) := by decide +kernel
theorem dX8_takeCity_104 : decode cX8_takeCity 104 = .ok (.getfield 46, 3) := by decide +kernel
theorem dX8_takeCity_107 : decode cX8_takeCity 107 = .ok (.iload_n 1, 1) := by decide +kernel
theorem dX8_takeCity_108 : decode cX8_takeCity 108 = .ok (.iaload, 1) := by decide +kernel
theorem dX8_takeCity_109 : decode cX8_takeCity 109 = .ok (.iastore, 1) := by decide +kernel
theorem dX8_takeCity_110 : decode cX8_takeCity 110 = .ok (.iinc 1 1, 3) := by decide +kernel
theorem dX8_takeCity_113 : decode cX8_takeCity 113 = .ok (.goto (-59), 3) := by decide +kernel
theorem dX8_takeCity_116 : decode cX8_takeCity 116 = .ok (.aload_n 0, 1) := by decide +kernel
theorem dX8_takeCity_117 : decode cX8_takeCity 117 = .ok (.iconst 0, 1) := by decide +kernel
theorem dX8_takeCity_118 : decode cX8_takeCity 118 = .ok (.putfield 116, 3) := by decide +kernel
theorem dX8_takeCity_121 : decode cX8_takeCity 121 = .ok (.aload_n 0, 1) := by decide +kernel
theorem dX8_takeCity_122 : decode cX8_takeCity 122 = .ok (.iconst 0, 1) := by decide +kernel
theorem dX8_takeCity_123 : decode cX8_takeCity 123 = .ok (.putfield 119, 3) := by decide +kernel
theorem dX8_takeCity_126 : decode cX8_takeCity 126 = .ok (.return_, 1) := by decide +kernel
set_option maxRecDepth 20000 in
theorem ggX8_readCity_X8_isSign : GoodIn wsX8_readCity wsX8_isSign := goodIn_r _ [8, 3, 9, 31, 32, 33, 34, 35, 36, 37, 38, 39, 40, 41, 42, 43, 44, 45, 46, 47, 48, 49, 50, 51, 52, 53, 54, 55, 56, 57, 58, 59, 60, 61, 62] (by decide +kernel) (by decide +kernel)
set_option maxRecDepth 20000 in
theorem gX8_readCity_X8_isSign : GoodIn wsX8_readCity (wsV RX8 122 RX8 yX8_isSign wsX8_isSign) := goodIn_app (goodIn_of _ (by decide +kernel)) ggX8_readCity_X8_isSign
set_option maxRecDepth 20000 in
theorem ggX8_readCity_X8_digit : GoodIn wsX8_readCity wsX8_digit := goodIn_r _ [13, 3, 9, 14, 15, 7, 16, 31, 32, 33, 34, 35, 36, 37, 38, 39, 40, 41, 42, 43, 44, 45, 46, 47, 48, 49, 50, 51, 52, 53, 54, 55, 56, 57, 58, 59, 60, 61, 62] (by decide +kernel) (by decide +kernel)
set_option maxRecDepth 20000 in
theorem gX8_readCity_X8_digit : GoodIn wsX8_readCity (wsV RX8 126 RX8 yX8_digit wsX8_digit) := goodIn_app (goodIn_of _ (by decide +kernel)) ggX8_readCity_X8_digit
set_option maxRecDepth 20000 in
theorem ggX8_readCity_X8_readTheRooms : GoodIn wsX8_readCity wsX8_readTheRooms := goodIn_r _ [20, 21, 22, 10, 11, 12, 7, 13, 3, 9, 14, 15, 16, 31, 32, 33, 34, 35, 36, 37, 38, 39, 40, 41, 42, 43, 44, 45, 46, 47, 48, 49, 50, 51, 52, 53, 54, 55, 56, 57, 58, 59, 60, 61, 62] (by decide +kernel) (by decide +kernel)
set_option maxRecDepth 20000 in
theorem gX8_readCity_X8_readTheRooms : GoodIn wsX8_readCity (wsV RX8 130 RX8 yX8_readTheRooms wsX8_readTheRooms) := goodIn_app (goodIn_of _ (by decide +kernel)) ggX8_readCity_X8_readTheRooms
set_option maxRecDepth 20000 in
theorem ggX8_readCity_X8_readArticle : GoodIn wsX8_readCity wsX8_readArticle := goodIn_r _ [26, 2, 3, 9, 27, 28, 29, 30, 10, 11, 12, 7, 13, 14, 15, 16, 31, 32, 33, 34, 35, 36, 37, 38, 39, 40, 41, 42, 43, 44, 45, 46, 47, 48, 49, 50, 51, 52, 53, 54, 55, 56, 57, 58, 59, 60, 61, 62] (by decide +kernel) (by decide +kernel)
set_option maxRecDepth 20000 in
theorem gX8_readCity_X8_readArticle : GoodIn wsX8_readCity (wsV RX8 133 RX8 yX8_readArticle wsX8_readArticle) := goodIn_app (goodIn_of _ (by decide +kernel)) ggX8_readCity_X8_readArticle
theorem dX8_readCity_0 : decode cX8_readCity 0 = .ok (.aload_n 0, 1) := by decide +kernel
theorem dX8_readCity_1 : decode cX8_readCity 1 = .ok (.iload_n 1, 1) := by decide +kernel
theorem dX8_readCity_2 : decode cX8_readCity 2 = .ok (.bipush 118, 2) := by decide +kernel
theorem dX8_readCity_4 : decode cX8_readCity 4 = .ok (.invokevirtual 122, 3) := by decide +kernel
theorem dX8_readCity_7 : decode cX8_readCity 7 = .ok (.ifCond .ne 5, 3) := by decide +kernel
theorem dX8_readCity_10 : decode cX8_readCity 10 = .ok (.iconst 0, 1) := by decide +kernel
theorem dX8_readCity_11 : decode cX8_readCity 11 = .ok (.ireturn, 1) := by decide +kernel
theorem dX8_readCity_12 : decode cX8_readCity 12 = .ok (.aload_n 0, 1) := by decide +kernel
theorem dX8_readCity_13 : decode cX8_readCity 13 = .ok (.iload_n 1, 1) := by decide +kernel
theorem dX8_readCity_14 : decode cX8_readCity 14 = .ok (.iconst 0, 1) := by decide +kernel
theorem dX8_readCity_15 : decode cX8_readCity 15 = .ok (.bipush 7, 2) := by decide +kernel
theorem dX8_readCity_17 : decode cX8_readCity 17 = .ok (.invokevirtual 126, 3) := by decide +kernel
theorem dX8_readCity_20 : decode cX8_readCity 20 = .ok (.istore_n 2, 1) := by decide +kernel
theorem dX8_readCity_21 : decode cX8_readCity 21 = .ok (.iload_n 2, 1) := by decide +kernel
theorem dX8_readCity_22 : decode cX8_readCity 22 = .ok (.bipush (-9), 2) := by decide +kernel
theorem dX8_readCity_24 : decode cX8_readCity 24 = .ok (.if_icmp .ne 5, 3) := by decide +kernel
theorem dX8_readCity_27 : decode cX8_readCity 27 = .ok (.iconst 0, 1) := by decide +kernel
theorem dX8_readCity_28 : decode cX8_readCity 28 = .ok (.ireturn, 1) := by decide +kernel
theorem dX8_readCity_29 : decode cX8_readCity 29 = .ok (.aload_n 0, 1) := by decide +kernel
theorem dX8_readCity_30 : decode cX8_readCity 30 = .ok (.iload_n 1, 1) := by decide +kernel
theorem dX8_readCity_31 : decode cX8_readCity 31 = .ok (.iconst 0, 1) := by decide +kernel
theorem dX8_readCity_32 : decode cX8_readCity 32 = .ok (.bipush 7, 2) := by decide +kernel
theorem dX8_readCity_34 : decode cX8_readCity 34 = .ok (.invokevirtual 126, 3) := by decide +kernel
theorem dX8_readCity_37 : decode cX8_readCity 37 = .ok (.istore_n 3, 1) := by decide +kernel
theorem dX8_readCity_38 : decode cX8_readCity 38 = .ok (.aload_n 0, 1) := by decide +kernel
theorem dX8_readCity_39 : decode cX8_readCity 39 = .ok (.bipush 8, 2) := by decide +kernel
theorem dX8_readCity_41 : decode cX8_readCity 41 = .ok (.iload_n 3, 1) := by decide +kernel
theorem dX8_readCity_42 : decode cX8_readCity 42 = .ok (.imul, 1) := by decide +kernel
theorem dX8_readCity_43 : decode cX8_readCity 43 = .ok (.iload_n 2, 1) := by decide +kernel
theorem dX8_readCity_44 : decode cX8_readCity 44 = .ok (.iadd, 1) := by decide +kernel
theorem dX8_readCity_45 : decode cX8_readCity 45 = .ok (.putfield 104, 3) := by decide +kernel
theorem dX8_readCity_48 : decode cX8_readCity 48 = .ok (.iload_n 3, 1) := by decide +kernel
theorem dX8_readCity_49 : decode cX8_readCity 49 = .ok (.bipush (-9), 2) := by decide +kernel
theorem dX8_readCity_51 : decode cX8_readCity 51 = .ok (.if_icmp .eq 21, 3) := by decide +kernel
theorem dX8_readCity_54 : decode cX8_readCity 54 = .ok (.aload_n 0, 1) := by decide +kernel
theorem dX8_readCity_55 : decode cX8_readCity 55 = .ok (.iload_n 1, 1) := by decide +kernel
theorem dX8_readCity_56 : decode cX8_readCity 56 = .ok (.bipush 47, 2) := by decide +kernel
theorem dX8_readCity_58 : decode cX8_readCity 58 = .ok (.invokevirtual 122, 3) := by decide +kernel
theorem dX8_readCity_61 : decode cX8_readCity 61 = .ok (.ifCond .eq 11, 3) := by decide +kernel
theorem dX8_readCity_64 : decode cX8_readCity 64 = .ok (.aload_n 0, 1) := by decide +kernel
theorem dX8_readCity_65 : decode cX8_readCity 65 = .ok (.iload_n 1, 1) := by decide +kernel
theorem dX8_readCity_66 : decode cX8_readCity 66 = .ok (.invokevirtual 130, 3) := by decide +kernel
theorem dX8_readCity_69 : decode cX8_readCity 69 = .ok (.ifCond .ne 5, 3) := by decide +kernel
theorem dX8_readCity_72 : decode cX8_readCity 72 = .ok (.iconst 0, 1) := by decide +kernel
theorem dX8_readCity_73 : decode cX8_readCity 73 = .ok (.ireturn, 1) := by decide +kernel
theorem dX8_readCity_74 : decode cX8_readCity 74 = .ok (.aload_n 0, 1) := by decide +kernel
theorem dX8_readCity_75 : decode cX8_readCity 75 = .ok (.iconst 0, 1) := by decide +kernel
theorem dX8_readCity_76 : decode cX8_readCity 76 = .ok (.putfield 113, 3) := by decide +kernel
theorem dX8_readCity_79 : decode cX8_readCity 79 = .ok (.aload_n 0, 1) := by decide +kernel
theorem dX8_readCity_80 : decode cX8_readCity 80 = .ok (.getfield 113, 3) := by decide +kernel
theorem dX8_readCity_83 : decode cX8_readCity 83 = .ok (.ifCond .eq 20, 3) := by decide +kernel
theorem dX8_readCity_86 : decode cX8_readCity 86 = .ok (.aload_n 0, 1) := by decide +kernel
theorem dX8_readCity_87 : decode cX8_readCity 87 = .ok (.getfield 113, 3) := by decide +kernel
theorem dX8_readCity_90 : decode cX8_readCity 90 = .ok (.bipush 6, 2) := by decide +kernel
theorem dX8_readCity_92 : decode cX8_readCity 92 = .ok (.if_icmp .ge 31, 3) := by decide +kernel
theorem dX8_readCity_95 : decode cX8_readCity 95 = .ok (.aload_n 0, 1) := by decide +kernel
theorem dX8_readCity_96 : decode cX8_readCity 96 = .ok (.getfield 80, 3) := by decide +kernel
theorem dX8_readCity_99 : decode cX8_readCity 99 = .ok (.iload_n 1, 1) := by decide +kernel
theorem dX8_readCity_100 : decode cX8_readCity 100 = .ok (.if_icmp .ge 23, 3) := by decide +kernel
theorem dX8_readCity_103 : decode cX8_readCity 103 = .ok (.aload_n 0, 1) := by decide +kernel
theorem dX8_readCity_104 : decode cX8_readCity 104 = .ok (.iload_n 1, 1) := by decide +kernel
theorem dX8_readCity_105 : decode cX8_readCity 105 = .ok (.bipush 59, 2) := by decide +kernel
theorem dX8_readCity_107 : decode cX8_readCity 107 = .ok (.invokevirtual 122, 3) := by decide +kernel
theorem dX8_readCity_110 : decode cX8_readCity 110 = .ok (.ifCond .eq 11, 3) := by decide +kernel
theorem dX8_readCity_113 : decode cX8_readCity 113 = .ok (.aload_n 0, 1) := by decide +kernel
theorem dX8_readCity_114 : decode cX8_readCity 114 = .ok (.iload_n 1, 1) := by decide +kernel
theorem dX8_readCity_115 : decode cX8_readCity 115 = .ok (.invokevirtual 133, 3) := by decide +kernel
theorem dX8_readCity_118 : decode cX8_readCity 118 = .ok (.ifCond .ne (-39), 3) := by decide +kernel
theorem dX8_readCity_121 : decode cX8_readCity 121 = .ok (.iconst 0, 1) := by decide +kernel
theorem dX8_readCity_122 : decode cX8_readCity 122 = .ok (.ireturn, 1) := by decide +kernel
theorem dX8_readCity_123 : decode cX8_readCity 123 = .ok (.aload_n 0, 1) := by decide +kernel
theorem dX8_readCity_124 : decode cX8_readCity 124 = .ok (.getfield 80, 3) := by decide +kernel
theorem dX8_readCity_127 : decode cX8_readCity 127 = .ok (.iload_n 1, 1) := by decide +kernel
theorem dX8_readCity_128 : decode cX8_readCity 128 = .ok (.if_icmp .ne 7, 3) := by decide +kernel
theorem dX8_readCity_131 : decode cX8_readCity 131 = .ok (.iconst 1, 1) := by decide +kernel
theorem dX8_readCity_132 : decode cX8_readCity 132 = .ok (.goto 4, 3) := by decide +kernel
theorem dX8_readCity_135 : decode cX8_readCity 135 = .ok (.iconst 0, 1) := by decide +kernel
theorem dX8_readCity_136 : decode cX8_readCity 136 = .ok (.ireturn, 1) := by decide +kernel
set_option maxRecDepth 20000 in
theorem ggX8_readTheRooms_X8_digit : GoodIn wsX8_readTheRooms wsX8_digit := goodIn_r _ [7, 8, 9, 10, 11, 6, 12, 13, 14, 15, 16, 17, 18, 19, 20, 21, 22, 23, 24, 25, 26, 27, 28, 29, 30, 31, 32, 33, 34, 35, 36, 37, 38, 39, 40, 41, 42, 43, 44] (by decide +kernel) (by decide +kernel)
set_option maxRecDepth 20000 in
theorem gX8_readTheRooms_X8_digit : GoodIn wsX8_readTheRooms (wsV RX8 126 RX8 yX8_digit wsX8_digit) := goodIn_app (goodIn_of _ (by decide +kernel)) ggX8_readTheRooms_X8_digit
theorem dX8_readTheRooms_0 : decode cX8_readTheRooms 0 = .ok (.aload_n 0, 1) := by decide +kernel
theorem dX8_readTheRooms_1 : decode cX8_readTheRooms 1 = .ok (.iconst 0, 1) := by decide +kernel
theorem dX8_readTheRooms_2 : decode cX8_readTheRooms 2 = .ok (.putfield 110, 3) := by decide +kernel
theorem dX8_readTheRooms_5 : decode cX8_readTheRooms 5 = .ok (.aload_n 0, 1) := by decide +kernel
theorem dX8_readTheRooms_6 : decode cX8_readTheRooms 6 = .ok (.getfield 110, 3) := by decide +kernel
theorem dX8_readTheRooms_9 : decode cX8_readTheRooms 9 = .ok (.iconst 4, 1) := by decide +kernel
theorem dX8_readTheRooms_10 : decode cX8_readTheRooms 10 = .ok (.if_icmp .ge 54, 3) := by decide +kernel
theorem dX8_readTheRooms_13 : decode cX8_readTheRooms 13 = .ok (.aload_n 0, 1) := by decide +kernel
theorem dX8_readTheRooms_14 : decode cX8_readTheRooms 14 = .ok (.iload_n 1, 1) := by decide +kernel
theorem dX8_readTheRooms_15 : decode cX8_readTheRooms 15 = .ok (.iconst 1, 1) := by decide +kernel
theorem dX8_readTheRooms_16 : decode cX8_readTheRooms 16 = .ok (.bipush 9, 2) := by decide +kernel
theorem dX8_readTheRooms_18 : decode cX8_readTheRooms 18 = .ok (.invokevirtual 126, 3) := by decide +kernel
theorem dX8_readTheRooms_21 : decode cX8_readTheRooms 21 = .ok (.istore_n 2, 1) := by decide +kernel
theorem dX8_readTheRooms_22 : decode cX8_readTheRooms 22 = .ok (.iload_n 2, 1) := by decide +kernel
theorem dX8_readTheRooms_23 : decode cX8_readTheRooms 23 = .ok (.bipush (-9), 2) := by decide +kernel
theorem dX8_readTheRooms_25 : decode cX8_readTheRooms 25 = .ok (.if_icmp .ne 16, 3) := by decide +kernel
theorem dX8_readTheRooms_28 : decode cX8_readTheRooms 28 = .ok (.aload_n 0, 1) := by decide +kernel
theorem dX8_readTheRooms_29 : decode cX8_readTheRooms 29 = .ok (.getfield 110, 3) := by decide +kernel
theorem dX8_readTheRooms_32 : decode cX8_readTheRooms 32 = .ok (.ifCond .le 7, 3) := by decide +kernel
theorem dX8_readTheRooms_35 : decode cX8_readTheRooms 35 = .ok (.iconst 1, 1) := by decide +kernel
theorem dX8_readTheRooms_36 : decode cX8_readTheRooms 36 = .ok (.goto 4, 3) := by decide +kernel
theorem dX8_readTheRooms_39 : decode cX8_readTheRooms 39 = .ok (.iconst 0, 1) := by decide +kernel
theorem dX8_readTheRooms_40 : decode cX8_readTheRooms 40 = .ok (.ireturn, 1) := by decide +kernel
theorem dX8_readTheRooms_41 : decode cX8_readTheRooms 41 = .ok (.aload_n 0, 1) := by decide +kernel
theorem dX8_readTheRooms_42 : decode cX8_readTheRooms 42 = .ok (.getfield 34, 3) := by decide +kernel
theorem dX8_readTheRooms_45 : decode cX8_readTheRooms 45 = .ok (.aload_n 0, 1) := by decide +kernel
theorem dX8_readTheRooms_46 : decode cX8_readTheRooms 46 = .ok (.getfield 110, 3) := by decide +kernel
theorem dX8_readTheRooms_49 : decode cX8_readTheRooms 49 = .ok (.iload_n 2, 1) := by decide +kernel
theorem dX8_readTheRooms_50 : decode cX8_readTheRooms 50 = .ok (.iastore, 1) := by decide +kernel
theorem dX8_readTheRooms_51 : decode cX8_readTheRooms 51 = .ok (.aload_n 0, 1) := by decide +kernel
theorem dX8_readTheRooms_52 : decode cX8_readTheRooms 52 = .ok (.dup, 1) := by decide +kernel
theorem dX8_readTheRooms_53 : decode cX8_readTheRooms 53 = .ok (.getfield 110, 3) := by decide +kernel
theorem dX8_readTheRooms_56 : decode cX8_readTheRooms 56 = .ok (.iconst 1, 1) := by decide +kernel
theorem dX8_readTheRooms_57 : decode cX8_readTheRooms 57 = .ok (.iadd, 1) := by decide +kernel
theorem dX8_readTheRooms_58 : decode cX8_readTheRooms 58 = .ok (.putfield 110, 3) := by decide +kernel
theorem dX8_readTheRooms_61 : decode cX8_readTheRooms 61 = .ok (.goto (-56), 3) := by decide +kernel
theorem dX8_readTheRooms_64 : decode cX8_readTheRooms 64 = .ok (.iconst 1, 1) := by decide +kernel
theorem dX8_readTheRooms_65 : decode cX8_readTheRooms 65 = .ok (.ireturn, 1) := by decide +kernel
set_option maxRecDepth 20000 in
theorem ggX8_readArticle_X8_digit : GoodIn wsX8_readArticle wsX8_digit := goodIn_r _ [12, 2, 3, 13, 14, 11, 15, 16, 17, 18, 19, 20, 21, 22, 23, 24, 25, 26, 27, 28, 29, 30, 31, 32, 33, 34, 35, 36, 37, 38, 39, 40, 41, 42, 43, 44, 45, 46, 47] (by decide +kernel) (by decide +kernel)
set_option maxRecDepth 20000 in
theorem gX8_readArticle_X8_digit : GoodIn wsX8_readArticle (wsV RX8 126 RX8 yX8_digit wsX8_digit) := goodIn_app (goodIn_of _ (by decide +kernel)) ggX8_readArticle_X8_digit
theorem dX8_readArticle_0 : decode cX8_readArticle 0 = .ok (.aload_n 0, 1) := by decide +kernel
theorem dX8_readArticle_1 : decode cX8_readArticle 1 = .ok (.getfield 113, 3) := by decide +kernel
theorem dX8_readArticle_4 : decode cX8_readArticle 4 = .ok (.istore_n 2, 1) := by decide +kernel
theorem dX8_readArticle_5 : decode cX8_readArticle 5 = .ok (.aload_n 0, 1) := by decide +kernel
theorem dX8_readArticle_6 : decode cX8_readArticle 6 = .ok (.getfield 80, 3) := by decide +kernel
theorem dX8_readArticle_9 : decode cX8_readArticle 9 = .ok (.iload_n 1, 1) := by decide +kernel
theorem dX8_readArticle_10 : decode cX8_readArticle 10 = .ok (.if_icmp .ge 15, 3) := by decide +kernel
theorem dX8_readArticle_13 : decode cX8_readArticle 13 = .ok (.aload_n 0, 1) := by decide +kernel
theorem dX8_readArticle_14 : decode cX8_readArticle 14 = .ok (.getfield 16, 3) := by decide +kernel
theorem dX8_readArticle_17 : decode cX8_readArticle 17 = .ok (.aload_n 0, 1) := by decide +kernel
theorem dX8_readArticle_18 : decode cX8_readArticle 18 = .ok (.getfield 80, 3) := by decide +kernel
theorem dX8_readArticle_21 : decode cX8_readArticle 21 = .ok (.iaload, 1) := by decide +kernel
theorem dX8_readArticle_22 : decode cX8_readArticle 22 = .ok (.goto 4, 3) := by decide +kernel
theorem dX8_readArticle_25 : decode cX8_readArticle 25 = .ok (.iconst 0, 1) := by decide +kernel
theorem dX8_readArticle_26 : decode cX8_readArticle 26 = .ok (.istore_n 3, 1) := by decide +kernel
theorem dX8_readArticle_27 : decode cX8_readArticle 27 = .ok (.aload_n 0, 1) := by decide +kernel
theorem dX8_readArticle_28 : decode cX8_readArticle 28 = .ok (.getfield 37, 3) := by decide +kernel
theorem dX8_readArticle_31 : decode cX8_readArticle 31 = .ok (.iload_n 2, 1) := by decide +kernel
theorem dX8_readArticle_32 : decode cX8_readArticle 32 = .ok (.iload_n 3, 1) := by decide +kernel
theorem dX8_readArticle_33 : decode cX8_readArticle 33 = .ok (.bipush 116, 2) := by decide +kernel
theorem dX8_readArticle_35 : decode cX8_readArticle 35 = .ok (.if_icmp .ne 7, 3) := by decide +kernel
theorem dX8_readArticle_38 : decode cX8_readArticle 38 = .ok (.iconst 0, 1) := by decide +kernel
theorem dX8_readArticle_39 : decode cX8_readArticle 39 = .ok (.goto 25, 3) := by decide +kernel
theorem dX8_readArticle_42 : decode cX8_readArticle 42 = .ok (.iload_n 3, 1) := by decide +kernel
theorem dX8_readArticle_43 : decode cX8_readArticle 43 = .ok (.bipush 98, 2) := by decide +kernel
theorem dX8_readArticle_45 : decode cX8_readArticle 45 = .ok (.if_icmp .ne 7, 3) := by decide +kernel
theorem dX8_readArticle_48 : decode cX8_readArticle 48 = .ok (.iconst 1, 1) := by decide +kernel
theorem dX8_readArticle_49 : decode cX8_readArticle 49 = .ok (.goto 15, 3) := by decide +kernel
theorem dX8_readArticle_52 : decode cX8_readArticle 52 = .ok (.iload_n 3, 1) := by decide +kernel
theorem dX8_readArticle_53 : decode cX8_readArticle 53 = .ok (.bipush 112, 2) := by decide +kernel
theorem dX8_readArticle_55 : decode cX8_readArticle 55 = .ok (.if_icmp .ne 7, 3) := by decide +kernel
theorem dX8_readArticle_58 : decode cX8_readArticle 58 = .ok (.iconst 2, 1) := by decide +kernel
theorem dX8_readArticle_59 : decode cX8_readArticle 59 = .ok (.goto 5, 3) := by decide +kernel
theorem dX8_readArticle_62 : decode cX8_readArticle 62 = .ok (.bipush (-9), 2) := by decide +kernel
theorem dX8_readArticle_64 : decode cX8_readArticle 64 = .ok (.iastore, 1) := by decide +kernel
theorem dX8_readArticle_65 : decode cX8_readArticle 65 = .ok (.aload_n 0, 1) := by decide +kernel
theorem dX8_readArticle_66 : decode cX8_readArticle 66 = .ok (.getfield 37, 3) := by decide +kernel
theorem dX8_readArticle_69 : decode cX8_readArticle 69 = .ok (.iload_n 2, 1) := by decide +kernel
theorem dX8_readArticle_70 : decode cX8_readArticle 70 = .ok (.iaload, 1) := by decide +kernel
theorem dX8_readArticle_71 : decode cX8_readArticle 71 = .ok (.bipush (-9), 2) := by decide +kernel
theorem dX8_readArticle_73 : decode cX8_readArticle 73 = .ok (.if_icmp .ne 5, 3) := by decide +kernel
theorem dX8_readArticle_76 : decode cX8_readArticle 76 = .ok (.iconst 0, 1) := by decide +kernel
theorem dX8_readArticle_77 : decode cX8_readArticle 77 = .ok (.ireturn, 1) := by decide +kernel
theorem dX8_readArticle_78 : decode cX8_readArticle 78 = .ok (.aload_n 0, 1) := by decide +kernel
theorem dX8_readArticle_79 : decode cX8_readArticle 79 = .ok (.dup, 1) := by decide +kernel
theorem dX8_readArticle_80 : decode cX8_readArticle 80 = .ok (.getfield 80, 3) := by decide +kernel
theorem dX8_readArticle_83 : decode cX8_readArticle 83 = .ok (.iconst 1, 1) := by decide +kernel
theorem dX8_readArticle_84 : decode cX8_readArticle 84 = .ok (.iadd, 1) := by decide +kernel
theorem dX8_readArticle_85 : decode cX8_readArticle 85 = .ok (.putfield 80, 3) := by decide +kernel
theorem dX8_readArticle_88 : decode cX8_readArticle 88 = .ok (.aload_n 0, 1) := by decide +kernel
theorem dX8_readArticle_89 : decode cX8_readArticle 89 = .ok (.getfield 40, 3) := by decide +kernel
theorem dX8_readArticle_92 : decode cX8_readArticle 92 = .ok (.iload_n 2, 1) := by decide +kernel
theorem dX8_readArticle_93 : decode cX8_readArticle 93 = .ok (.aload_n 0, 1) := by decide +kernel
theorem dX8_readArticle_94 : decode cX8_readArticle 94 = .ok (.iload_n 1, 1) := by decide +kernel
theorem dX8_readArticle_95 : decode cX8_readArticle 95 = .ok (.iconst 1, 1) := by decide +kernel
theorem dX8_readArticle_96 : decode cX8_readArticle 96 = .ok (.bipush 9, 2) := by decide +kernel
theorem dX8_readArticle_98 : decode cX8_readArticle 98 = .ok (.invokevirtual 126, 3) := by decide +kernel
theorem dX8_readArticle_101 : decode cX8_readArticle 101 = .ok (.iastore, 1) := by decide +kernel
theorem dX8_readArticle_102 : decode cX8_readArticle 102 = .ok (.aload_n 0, 1) := by decide +kernel
theorem dX8_readArticle_103 : decode cX8_readArticle 103 = .ok (.getfield 40, 3) := by decide +kernel
theorem dX8_readArticle_106 : decode cX8_readArticle 106 = .ok (.iload_n 2, 1) := by decide +kernel
theorem dX8_readArticle_107 : decode cX8_readArticle 107 = .ok (.iaload, 1) := by decide +kernel
theorem dX8_readArticle_108 : decode cX8_readArticle 108 = .ok (.bipush (-9), 2) := by decide +kernel
theorem dX8_readArticle_110 : decode cX8_readArticle 110 = .ok (.if_icmp .ne 5, 3) := by decide +kernel
theorem dX8_readArticle_113 : decode cX8_readArticle 113 = .ok (.iconst 0, 1) := by decide +kernel
theorem dX8_readArticle_114 : decode cX8_readArticle 114 = .ok (.ireturn, 1) := by decide +kernel
theorem dX8_readArticle_115 : decode cX8_readArticle 115 = .ok (.aload_n 0, 1) := by decide +kernel
theorem dX8_readArticle_116 : decode cX8_readArticle 116 = .ok (.getfield 43, 3) := by decide +kernel
theorem dX8_readArticle_119 : decode cX8_readArticle 119 = .ok (.iload_n 2, 1) := by decide +kernel
theorem dX8_readArticle_120 : decode cX8_readArticle 120 = .ok (.aload_n 0, 1) := by decide +kernel
theorem dX8_readArticle_121 : decode cX8_readArticle 121 = .ok (.iload_n 1, 1) := by decide +kernel
theorem dX8_readArticle_122 : decode cX8_readArticle 122 = .ok (.iconst 0, 1) := by decide +kernel
theorem dX8_readArticle_123 : decode cX8_readArticle 123 = .ok (.bipush 9, 2) := by decide +kernel
theorem dX8_readArticle_125 : decode cX8_readArticle 125 = .ok (.invokevirtual 126, 3) := by decide +kernel
theorem dX8_readArticle_128 : decode cX8_readArticle 128 = .ok (.iastore, 1) := by decide +kernel
theorem dX8_readArticle_129 : decode cX8_readArticle 129 = .ok (.aload_n 0, 1) := by decide +kernel
theorem dX8_readArticle_130 : decode cX8_readArticle 130 = .ok (.getfield 43, 3) := by decide +kernel
theorem dX8_readArticle_133 : decode cX8_readArticle 133 = .ok (.iload_n 2, 1) := by decide +kernel
theorem dX8_readArticle_134 : decode cX8_readArticle 134 = .ok (.iaload, 1) := by decide +kernel
theorem dX8_readArticle_135 : decode cX8_readArticle 135 = .ok (.bipush (-9), 2) := by decide +kernel
theorem dX8_readArticle_137 : decode cX8_readArticle 137 = .ok (.if_icmp .ne 5, 3) := by decide +kernel
theorem dX8_readArticle_140 : decode cX8_readArticle 140 = .ok (.iconst 0, 1) := by decide +kernel
theorem dX8_readArticle_141 : decode cX8_readArticle 141 = .ok (.ireturn, 1) := by decide +kernel
theorem dX8_readArticle_142 : decode cX8_readArticle 142 = .ok (.aload_n 0, 1) := by decide +kernel
theorem dX8_readArticle_143 : decode cX8_readArticle 143 = .ok (.iload_n 1, 1) := by decide +kernel
theorem dX8_readArticle_144 : decode cX8_readArticle 144 = .ok (.iconst 0, 1) := by decide +kernel
theorem dX8_readArticle_145 : decode cX8_readArticle 145 = .ok (.iconst 4, 1) := by decide +kernel
theorem dX8_readArticle_146 : decode cX8_readArticle 146 = .ok (.invokevirtual 126, 3) := by decide +kernel
theorem dX8_readArticle_149 : decode cX8_readArticle 149 = .ok (.istore 4, 2) := by decide +kernel
theorem dX8_readArticle_151 : decode cX8_readArticle 151 = .ok (.iload 4, 2) := by decide +kernel
theorem dX8_readArticle_153 : decode cX8_readArticle 153 = .ok (.bipush (-9), 2) := by decide +kernel
theorem dX8_readArticle_155 : decode cX8_readArticle 155 = .ok (.if_icmp .ne 5, 3) := by decide +kernel
theorem dX8_readArticle_158 : decode cX8_readArticle 158 = .ok (.iconst 0, 1) := by decide +kernel
theorem dX8_readArticle_159 : decode cX8_readArticle 159 = .ok (.ireturn, 1) := by decide +kernel
theorem dX8_readArticle_160 : decode cX8_readArticle 160 = .ok (.aload_n 0, 1) := by decide +kernel
theorem dX8_readArticle_161 : decode cX8_readArticle 161 = .ok (.iload_n 1, 1) := by decide +kernel
theorem dX8_readArticle_162 : decode cX8_readArticle 162 = .ok (.iconst 0, 1) := by decide +kernel
theorem dX8_readArticle_163 : decode cX8_readArticle 163 = .ok (.bipush 9, 2) := by decide +kernel
theorem dX8_readArticle_165 : decode cX8_readArticle 165 = .ok (.invokevirtual 126, 3) := by decide +kernel
theorem dX8_readArticle_168 : decode cX8_readArticle 168 = .ok (.istore 5, 2) := by decide +kernel
theorem dX8_readArticle_170 : decode cX8_readArticle 170 = .ok (.aload_n 0, 1) := by decide +kernel
theorem dX8_readArticle_171 : decode cX8_readArticle 171 = .ok (.getfield 46, 3) := by decide +kernel
theorem dX8_readArticle_174 : decode cX8_readArticle 174 = .ok (.iload_n 2, 1) := by decide +kernel
theorem dX8_readArticle_175 : decode cX8_readArticle 175 = .ok (.bipush 10, 2) := by decide +kernel
theorem dX8_readArticle_177 : decode cX8_readArticle 177 = .ok (.iload 4, 2) := by decide +kernel
theorem dX8_readArticle_179 : decode cX8_readArticle 179 = .ok (.imul, 1) := by decide +kernel
theorem dX8_readArticle_180 : decode cX8_readArticle 180 = .ok (.iload 5, 2) := by decide +kernel
theorem dX8_readArticle_182 : decode cX8_readArticle 182 = .ok (.iadd, 1) := by decide +kernel
theorem dX8_readArticle_183 : decode cX8_readArticle 183 = .ok (.iastore, 1) := by decide +kernel
theorem dX8_readArticle_184 : decode cX8_readArticle 184 = .ok (.aload_n 0, 1) := by decide +kernel
theorem dX8_readArticle_185 : decode cX8_readArticle 185 = .ok (.dup, 1) := by decide +kernel
theorem dX8_readArticle_186 : decode cX8_readArticle 186 = .ok (.getfield 113, 3) := by decide +kernel
theorem dX8_readArticle_189 : decode cX8_readArticle 189 = .ok (.iconst 1, 1) := by decide +kernel
theorem dX8_readArticle_190 : decode cX8_readArticle 190 = .ok (.iadd, 1) := by decide +kernel
theorem dX8_readArticle_191 : decode cX8_readArticle 191 = .ok (.putfield 113, 3) := by decide +kernel
theorem dX8_readArticle_194 : decode cX8_readArticle 194 = .ok (.iload 5, 2) := by decide +kernel
theorem dX8_readArticle_196 : decode cX8_readArticle 196 = .ok (.bipush (-9), 2) := by decide +kernel
theorem dX8_readArticle_198 : decode cX8_readArticle 198 = .ok (.if_icmp .eq 7, 3) := by decide +kernel
theorem dX8_readArticle_201 : decode cX8_readArticle 201 = .ok (.iconst 1, 1) := by decide +kernel
theorem dX8_readArticle_202 : decode cX8_readArticle 202 = .ok (.goto 4, 3) := by decide +kernel
theorem dX8_readArticle_205 : decode cX8_readArticle 205 = .ok (.iconst 0, 1) := by decide +kernel
theorem dX8_readArticle_206 : decode cX8_readArticle 206 = .ok (.ireturn, 1) := by decide +kernel
theorem dX8_laughOf_0 : decode cX8_laughOf 0 = .ok (.aload_n 0, 1) := by decide +kernel
theorem dX8_laughOf_1 : decode cX8_laughOf 1 = .ok (.getfield 22, 3) := by decide +kernel
theorem dX8_laughOf_4 : decode cX8_laughOf 4 = .ok (.iload_n 1, 1) := by decide +kernel
theorem dX8_laughOf_5 : decode cX8_laughOf 5 = .ok (.iaload, 1) := by decide +kernel
theorem dX8_laughOf_6 : decode cX8_laughOf 6 = .ok (.iconst 1, 1) := by decide +kernel
theorem dX8_laughOf_7 : decode cX8_laughOf 7 = .ok (.if_icmp .ne 25, 3) := by decide +kernel
theorem dX8_laughOf_10 : decode cX8_laughOf 10 = .ok (.aload_n 0, 1) := by decide +kernel
theorem dX8_laughOf_11 : decode cX8_laughOf 11 = .ok (.getfield 28, 3) := by decide +kernel
theorem dX8_laughOf_14 : decode cX8_laughOf 14 = .ok (.iload_n 1, 1) := by decide +kernel
theorem dX8_laughOf_15 : decode cX8_laughOf 15 = .ok (.iaload, 1) := by decide +kernel
theorem dX8_laughOf_16 : decode cX8_laughOf 16 = .ok (.ifCond .le 14, 3) := by decide +kernel
theorem dX8_laughOf_19 : decode cX8_laughOf 19 = .ok (.aload_n 0, 1) := by decide +kernel
theorem dX8_laughOf_20 : decode cX8_laughOf 20 = .ok (.getfield 28, 3) := by decide +kernel
theorem dX8_laughOf_23 : decode cX8_laughOf 23 = .ok (.iload_n 1, 1) := by decide +kernel
theorem dX8_laughOf_24 : decode cX8_laughOf 24 = .ok (.iaload, 1) := by decide +kernel
theorem dX8_laughOf_25 : decode cX8_laughOf 25 = .ok (.iconst 1, 1) := by decide +kernel
theorem dX8_laughOf_26 : decode cX8_laughOf 26 = .ok (.isub, 1) := by decide +kernel
theorem dX8_laughOf_27 : decode cX8_laughOf 27 = .ok (.goto 4, 3) := by decide +kernel
theorem dX8_laughOf_30 : decode cX8_laughOf 30 = .ok (.iconst 0, 1) := by decide +kernel
theorem dX8_laughOf_31 : decode cX8_laughOf 31 = .ok (.ireturn, 1) := by decide +kernel
theorem dX8_laughOf_32 : decode cX8_laughOf 32 = .ok (.aload_n 0, 1) := by decide +kernel
theorem dX8_laughOf_33 : decode cX8_laughOf 33 = .ok (.getfield 22, 3) := by decide +kernel
theorem dX8_laughOf_36 : decode cX8_laughOf 36 = .ok (.iload_n 1, 1) := by decide +kernel
theorem dX8_laughOf_37 : decode cX8_laughOf 37 = .ok (.iaload, 1) := by decide +kernel
theorem dX8_laughOf_38 : decode cX8_laughOf 38 = .ok (.ifCond .ne 12, 3) := by decide +kernel
theorem dX8_laughOf_41 : decode cX8_laughOf 41 = .ok (.aload_n 0, 1) := by decide +kernel
theorem dX8_laughOf_42 : decode cX8_laughOf 42 = .ok (.getfield 28, 3) := by decide +kernel
theorem dX8_laughOf_45 : decode cX8_laughOf 45 = .ok (.iload_n 1, 1) := by decide +kernel
theorem dX8_laughOf_46 : decode cX8_laughOf 46 = .ok (.iaload, 1) := by decide +kernel
theorem dX8_laughOf_47 : decode cX8_laughOf 47 = .ok (.goto 11, 3) := by decide +kernel
theorem dX8_laughOf_50 : decode cX8_laughOf 50 = .ok (.iconst 2, 1) := by decide +kernel
theorem dX8_laughOf_51 : decode cX8_laughOf 51 = .ok (.aload_n 0, 1) := by decide +kernel
theorem dX8_laughOf_52 : decode cX8_laughOf 52 = .ok (.getfield 28, 3) := by decide +kernel
theorem dX8_laughOf_55 : decode cX8_laughOf 55 = .ok (.iload_n 1, 1) := by decide +kernel
theorem dX8_laughOf_56 : decode cX8_laughOf 56 = .ok (.iaload, 1) := by decide +kernel
theorem dX8_laughOf_57 : decode cX8_laughOf 57 = .ok (.imul, 1) := by decide +kernel
theorem dX8_laughOf_58 : decode cX8_laughOf 58 = .ok (.ireturn, 1) := by decide +kernel
set_option maxRecDepth 20000 in
theorem ggX8_laughsOf_X8_isOf : GoodIn wsX8_laughsOf wsX8_isOf := goodIn_r _ [5] (by decide +kernel) (by decide +kernel)
set_option maxRecDepth 20000 in
theorem gX8_laughsOf_X8_isOf : GoodIn wsX8_laughsOf (va_wsS RX8 136 yX8_isOf wsX8_isOf) := goodIn_app (goodIn_of _ (by decide +kernel)) ggX8_laughsOf_X8_isOf
set_option maxRecDepth 20000 in
theorem ggX8_laughsOf_X8_laughOf : GoodIn wsX8_laughsOf wsX8_laughOf := goodIn_r _ [9, 10, 11, 12, 13, 14, 15, 16, 17, 18, 19, 20, 21, 22, 23, 24, 25, 26, 27, 28, 29, 30, 31, 32, 33, 34, 35, 36, 37, 38, 39, 40, 41, 42, 43] (by decide +kernel) (by decide +kernel)
set_option maxRecDepth 20000 in
theorem gX8_laughsOf_X8_laughOf : GoodIn wsX8_laughsOf (wsV RX8 139 RX8 yX8_laughOf wsX8_laughOf) := goodIn_app (goodIn_of _ (by decide +kernel)) ggX8_laughsOf_X8_laughOf
theorem dX8_laughsOf_0 : decode cX8_laughsOf 0 = .ok (.iconst 0, 1) := by decide +kernel
theorem dX8_laughsOf_1 : decode cX8_laughsOf 1 = .ok (.istore_n 2, 1) := by decide +kernel
theorem dX8_laughsOf_2 : decode cX8_laughsOf 2 = .ok (.iconst 0, 1) := by decide +kernel
theorem dX8_laughsOf_3 : decode cX8_laughsOf 3 = .ok (.istore_n 3, 1) := by decide +kernel
theorem dX8_laughsOf_4 : decode cX8_laughsOf 4 = .ok (.iload_n 3, 1) := by decide +kernel
theorem dX8_laughsOf_5 : decode cX8_laughsOf 5 = .ok (.aload_n 0, 1) := by decide +kernel
theorem dX8_laughsOf_6 : decode cX8_laughsOf 6 = .ok (.getfield 74, 3) := by decide +kernel
theorem dX8_laughsOf_9 : decode cX8_laughsOf 9 = .ok (.if_icmp .ge 29, 3) := by decide +kernel
theorem dX8_laughsOf_12 : decode cX8_laughsOf 12 = .ok (.iload_n 2, 1) := by decide +kernel
theorem dX8_laughsOf_13 : decode cX8_laughsOf 13 = .ok (.iload_n 1, 1) := by decide +kernel
theorem dX8_laughsOf_14 : decode cX8_laughsOf 14 = .ok (.iload_n 3, 1) := by decide +kernel
theorem dX8_laughsOf_15 : decode cX8_laughsOf 15 = .ok (.invokestatic 136, 3) := by decide +kernel
theorem dX8_laughsOf_18 : decode cX8_laughsOf 18 = .ok (.ifCond .eq 11, 3) := by decide +kernel
theorem dX8_laughsOf_21 : decode cX8_laughsOf 21 = .ok (.aload_n 0, 1) := by decide +kernel
theorem dX8_laughsOf_22 : decode cX8_laughsOf 22 = .ok (.iload_n 3, 1) := by decide +kernel
theorem dX8_laughsOf_23 : decode cX8_laughsOf 23 = .ok (.invokevirtual 139, 3) := by decide +kernel
theorem dX8_laughsOf_26 : decode cX8_laughsOf 26 = .ok (.goto 4, 3) := by decide +kernel
theorem dX8_laughsOf_29 : decode cX8_laughsOf 29 = .ok (.iconst 0, 1) := by decide +kernel
theorem dX8_laughsOf_30 : decode cX8_laughsOf 30 = .ok (.iadd, 1) := by decide +kernel
theorem dX8_laughsOf_31 : decode cX8_laughsOf 31 = .ok (.istore_n 2, 1) := by decide +kernel
theorem dX8_laughsOf_32 : decode cX8_laughsOf 32 = .ok (.iinc 3 1, 3) := by decide +kernel
theorem dX8_laughsOf_35 : decode cX8_laughsOf 35 = .ok (.goto (-31), 3) := by decide +kernel
theorem dX8_laughsOf_38 : decode cX8_laughsOf 38 = .ok (.iload_n 2, 1) := by decide +kernel
theorem dX8_laughsOf_39 : decode cX8_laughsOf 39 = .ok (.ireturn, 1) := by decide +kernel
set_option maxRecDepth 20000 in
theorem ggX8_ofArticle_X8_isArticle : GoodIn wsX8_ofArticle wsX8_isArticle := goodIn_r _ [10, 11, 16, 17, 18, 19, 20, 21, 22, 23, 24, 25, 26, 27, 28, 29, 30, 31, 32, 33, 34, 35, 36, 37, 38, 39, 40, 41, 42, 43, 44, 45, 46, 47] (by decide +kernel) (by decide +kernel)
set_option maxRecDepth 20000 in
theorem gX8_ofArticle_X8_isArticle : GoodIn wsX8_ofArticle (wsV RX8 142 RX8 yX8_isArticle wsX8_isArticle) := goodIn_app (goodIn_of _ (by decide +kernel)) ggX8_ofArticle_X8_isArticle
set_option maxRecDepth 20000 in
theorem ggX8_ofArticle_X8_laughOf : GoodIn wsX8_ofArticle wsX8_laughOf := goodIn_r _ [15, 1, 3, 16, 17, 18, 19, 20, 21, 22, 23, 24, 25, 26, 27, 28, 29, 30, 31, 32, 33, 34, 35, 36, 37, 38, 39, 40, 41, 42, 43, 44, 45, 46, 47] (by decide +kernel) (by decide +kernel)
set_option maxRecDepth 20000 in
theorem gX8_ofArticle_X8_laughOf : GoodIn wsX8_ofArticle (wsV RX8 139 RX8 yX8_laughOf wsX8_laughOf) := goodIn_app (goodIn_of _ (by decide +kernel)) ggX8_ofArticle_X8_laughOf
theorem dX8_ofArticle_0 : decode cX8_ofArticle 0 = .ok (.aload_n 0, 1) := by decide +kernel
theorem dX8_ofArticle_1 : decode cX8_ofArticle 1 = .ok (.iload_n 1, 1) := by decide +kernel
theorem dX8_ofArticle_2 : decode cX8_ofArticle 2 = .ok (.invokevirtual 142, 3) := by decide +kernel
theorem dX8_ofArticle_5 : decode cX8_ofArticle 5 = .ok (.ifCond .ne 5, 3) := by decide +kernel
theorem dX8_ofArticle_8 : decode cX8_ofArticle 8 = .ok (.iconst (-1), 1) := by decide +kernel
theorem dX8_ofArticle_9 : decode cX8_ofArticle 9 = .ok (.ireturn, 1) := by decide +kernel
theorem dX8_ofArticle_10 : decode cX8_ofArticle 10 = .ok (.iload_n 2, 1) := by decide +kernel
theorem dX8_ofArticle_11 : decode cX8_ofArticle 11 = .ok (.tableswitch 80 0 5 #[37, 44, 51, 58, 65, 71], 37) := by decide +kernel
theorem dX8_ofArticle_48 : decode cX8_ofArticle 48 = .ok (.aload_n 0, 1) := by decide +kernel
theorem dX8_ofArticle_49 : decode cX8_ofArticle 49 = .ok (.getfield 22, 3) := by decide +kernel
theorem dX8_ofArticle_52 : decode cX8_ofArticle 52 = .ok (.iload_n 1, 1) := by decide +kernel
theorem dX8_ofArticle_53 : decode cX8_ofArticle 53 = .ok (.iaload, 1) := by decide +kernel
theorem dX8_ofArticle_54 : decode cX8_ofArticle 54 = .ok (.ireturn, 1) := by decide +kernel
theorem dX8_ofArticle_55 : decode cX8_ofArticle 55 = .ok (.aload_n 0, 1) := by decide +kernel
theorem dX8_ofArticle_56 : decode cX8_ofArticle 56 = .ok (.getfield 25, 3) := by decide +kernel
theorem dX8_ofArticle_59 : decode cX8_ofArticle 59 = .ok (.iload_n 1, 1) := by decide +kernel
theorem dX8_ofArticle_60 : decode cX8_ofArticle 60 = .ok (.iaload, 1) := by decide +kernel
theorem dX8_ofArticle_61 : decode cX8_ofArticle 61 = .ok (.ireturn, 1) := by decide +kernel
theorem dX8_ofArticle_62 : decode cX8_ofArticle 62 = .ok (.aload_n 0, 1) := by decide +kernel
theorem dX8_ofArticle_63 : decode cX8_ofArticle 63 = .ok (.getfield 28, 3) := by decide +kernel
theorem dX8_ofArticle_66 : decode cX8_ofArticle 66 = .ok (.iload_n 1, 1) := by decide +kernel
theorem dX8_ofArticle_67 : decode cX8_ofArticle 67 = .ok (.iaload, 1) := by decide +kernel
theorem dX8_ofArticle_68 : decode cX8_ofArticle 68 = .ok (.ireturn, 1) := by decide +kernel
theorem dX8_ofArticle_69 : decode cX8_ofArticle 69 = .ok (.aload_n 0, 1) := by decide +kernel
theorem dX8_ofArticle_70 : decode cX8_ofArticle 70 = .ok (.getfield 31, 3) := by decide +kernel
theorem dX8_ofArticle_73 : decode cX8_ofArticle 73 = .ok (.iload_n 1, 1) := by decide +kernel
theorem dX8_ofArticle_74 : decode cX8_ofArticle 74 = .ok (.iaload, 1) := by decide +kernel
theorem dX8_ofArticle_75 : decode cX8_ofArticle 75 = .ok (.ireturn, 1) := by decide +kernel
theorem dX8_ofArticle_76 : decode cX8_ofArticle 76 = .ok (.aload_n 0, 1) := by decide +kernel
theorem dX8_ofArticle_77 : decode cX8_ofArticle 77 = .ok (.iload_n 1, 1) := by decide +kernel
theorem dX8_ofArticle_78 : decode cX8_ofArticle 78 = .ok (.invokevirtual 139, 3) := by decide +kernel
theorem dX8_ofArticle_81 : decode cX8_ofArticle 81 = .ok (.ireturn, 1) := by decide +kernel
theorem dX8_ofArticle_82 : decode cX8_ofArticle 82 = .ok (.aload_n 0, 1) := by decide +kernel
theorem dX8_ofArticle_83 : decode cX8_ofArticle 83 = .ok (.getfield 116, 3) := by decide +kernel
theorem dX8_ofArticle_86 : decode cX8_ofArticle 86 = .ok (.iload_n 1, 1) := by decide +kernel
theorem dX8_ofArticle_87 : decode cX8_ofArticle 87 = .ok (.ishr, 1) := by decide +kernel
theorem dX8_ofArticle_88 : decode cX8_ofArticle 88 = .ok (.iconst 1, 1) := by decide +kernel
theorem dX8_ofArticle_89 : decode cX8_ofArticle 89 = .ok (.iand, 1) := by decide +kernel
theorem dX8_ofArticle_90 : decode cX8_ofArticle 90 = .ok (.ireturn, 1) := by decide +kernel
theorem dX8_ofArticle_91 : decode cX8_ofArticle 91 = .ok (.bipush (-2), 2) := by decide +kernel
theorem dX8_ofArticle_93 : decode cX8_ofArticle 93 = .ok (.ireturn, 1) := by decide +kernel
set_option maxRecDepth 20000 in
theorem ggX8_space_X8_isRoom : GoodIn wsX8_space wsX8_isRoom := goodIn_r _ [6, 7, 8, 9, 10, 11, 12, 13, 14, 15, 16, 17, 18, 19, 20, 21, 22, 23, 24, 25, 26, 27, 28, 29, 30, 31, 32, 33, 34, 35, 36, 37, 38, 39] (by decide +kernel) (by decide +kernel)
set_option maxRecDepth 20000 in
theorem gX8_space_X8_isRoom : GoodIn wsX8_space (wsV RX8 145 RX8 yX8_isRoom wsX8_isRoom) := goodIn_app (goodIn_of _ (by decide +kernel)) ggX8_space_X8_isRoom
theorem dX8_space_0 : decode cX8_space 0 = .ok (.aload_n 0, 1) := by decide +kernel
theorem dX8_space_1 : decode cX8_space 1 = .ok (.iload_n 1, 1) := by decide +kernel
theorem dX8_space_2 : decode cX8_space 2 = .ok (.invokevirtual 145, 3) := by decide +kernel
theorem dX8_space_5 : decode cX8_space 5 = .ok (.ifCond .eq 12, 3) := by decide +kernel
theorem dX8_space_8 : decode cX8_space 8 = .ok (.aload_n 0, 1) := by decide +kernel
theorem dX8_space_9 : decode cX8_space 9 = .ok (.getfield 19, 3) := by decide +kernel
theorem dX8_space_12 : decode cX8_space 12 = .ok (.iload_n 1, 1) := by decide +kernel
theorem dX8_space_13 : decode cX8_space 13 = .ok (.iaload, 1) := by decide +kernel
theorem dX8_space_14 : decode cX8_space 14 = .ok (.goto 4, 3) := by decide +kernel
theorem dX8_space_17 : decode cX8_space 17 = .ok (.iconst (-1), 1) := by decide +kernel
theorem dX8_space_18 : decode cX8_space 18 = .ok (.ireturn, 1) := by decide +kernel
set_option maxRecDepth 20000 in
theorem ggX8_cheer_X8_isArticle : GoodIn wsX8_cheer wsX8_isArticle := goodIn_r _ [6, 7, 11, 12, 13, 14, 15, 16, 17, 18, 19, 20, 21, 22, 23, 24, 25, 26, 27, 28, 29, 30, 31, 32, 33, 34, 35, 36, 37, 38, 39, 40, 41, 42] (by decide +kernel) (by decide +kernel)
set_option maxRecDepth 20000 in
theorem gX8_cheer_X8_isArticle : GoodIn wsX8_cheer (wsV RX8 142 RX8 yX8_isArticle wsX8_isArticle) := goodIn_app (goodIn_of _ (by decide +kernel)) ggX8_cheer_X8_isArticle
set_option maxRecDepth 20000 in
theorem ggX8_cheer_X8_within : GoodIn wsX8_cheer wsX8_within := goodIn_r _ [10] (by decide +kernel) (by decide +kernel)
set_option maxRecDepth 20000 in
theorem gX8_cheer_X8_within : GoodIn wsX8_cheer (va_wsS RX8 70 yX8_within wsX8_within) := goodIn_app (goodIn_of _ (by decide +kernel)) ggX8_cheer_X8_within
theorem dX8_cheer_0 : decode cX8_cheer 0 = .ok (.aload_n 0, 1) := by decide +kernel
theorem dX8_cheer_1 : decode cX8_cheer 1 = .ok (.iload_n 1, 1) := by decide +kernel
theorem dX8_cheer_2 : decode cX8_cheer 2 = .ok (.invokevirtual 142, 3) := by decide +kernel
theorem dX8_cheer_5 : decode cX8_cheer 5 = .ok (.ifCond .ne 5, 3) := by decide +kernel
theorem dX8_cheer_8 : decode cX8_cheer 8 = .ok (.iconst (-1), 1) := by decide +kernel
theorem dX8_cheer_9 : decode cX8_cheer 9 = .ok (.ireturn, 1) := by decide +kernel
theorem dX8_cheer_10 : decode cX8_cheer 10 = .ok (.iload_n 2, 1) := by decide +kernel
theorem dX8_cheer_11 : decode cX8_cheer 11 = .ok (.iconst 0, 1) := by decide +kernel
theorem dX8_cheer_12 : decode cX8_cheer 12 = .ok (.bipush 9, 2) := by decide +kernel
theorem dX8_cheer_14 : decode cX8_cheer 14 = .ok (.invokestatic 70, 3) := by decide +kernel
theorem dX8_cheer_17 : decode cX8_cheer 17 = .ok (.ifCond .ne 6, 3) := by decide +kernel
theorem dX8_cheer_20 : decode cX8_cheer 20 = .ok (.bipush (-2), 2) := by decide +kernel
theorem dX8_cheer_22 : decode cX8_cheer 22 = .ok (.ireturn, 1) := by decide +kernel
theorem dX8_cheer_23 : decode cX8_cheer 23 = .ok (.aload_n 0, 1) := by decide +kernel
theorem dX8_cheer_24 : decode cX8_cheer 24 = .ok (.getfield 28, 3) := by decide +kernel
theorem dX8_cheer_27 : decode cX8_cheer 27 = .ok (.iload_n 1, 1) := by decide +kernel
theorem dX8_cheer_28 : decode cX8_cheer 28 = .ok (.iaload, 1) := by decide +kernel
theorem dX8_cheer_29 : decode cX8_cheer 29 = .ok (.istore_n 3, 1) := by decide +kernel
theorem dX8_cheer_30 : decode cX8_cheer 30 = .ok (.aload_n 0, 1) := by decide +kernel
theorem dX8_cheer_31 : decode cX8_cheer 31 = .ok (.getfield 28, 3) := by decide +kernel
theorem dX8_cheer_34 : decode cX8_cheer 34 = .ok (.iload_n 1, 1) := by decide +kernel
theorem dX8_cheer_35 : decode cX8_cheer 35 = .ok (.iload_n 2, 1) := by decide +kernel
theorem dX8_cheer_36 : decode cX8_cheer 36 = .ok (.iastore, 1) := by decide +kernel
theorem dX8_cheer_37 : decode cX8_cheer 37 = .ok (.iload_n 3, 1) := by decide +kernel
theorem dX8_cheer_38 : decode cX8_cheer 38 = .ok (.ireturn, 1) := by decide +kernel
set_option maxRecDepth 20000 in
theorem ggX8_miss_X8_isArticle : GoodIn wsX8_miss wsX8_isArticle := goodIn_r _ [6, 7, 11, 12, 13, 14, 15, 16, 17, 18, 19, 20, 21, 22, 23, 24, 25, 26, 27, 28, 29, 30, 31, 32, 33, 34, 35, 36, 37, 38, 39, 40, 41, 42] (by decide +kernel) (by decide +kernel)
set_option maxRecDepth 20000 in
theorem gX8_miss_X8_isArticle : GoodIn wsX8_miss (wsV RX8 142 RX8 yX8_isArticle wsX8_isArticle) := goodIn_app (goodIn_of _ (by decide +kernel)) ggX8_miss_X8_isArticle
set_option maxRecDepth 20000 in
theorem ggX8_miss_X8_within : GoodIn wsX8_miss wsX8_within := goodIn_r _ [10] (by decide +kernel) (by decide +kernel)
set_option maxRecDepth 20000 in
theorem gX8_miss_X8_within : GoodIn wsX8_miss (va_wsS RX8 70 yX8_within wsX8_within) := goodIn_app (goodIn_of _ (by decide +kernel)) ggX8_miss_X8_within
theorem dX8_miss_0 : decode cX8_miss 0 = .ok (.aload_n 0, 1) := by decide +kernel
theorem dX8_miss_1 : decode cX8_miss 1 = .ok (.iload_n 1, 1) := by decide +kernel
theorem dX8_miss_2 : decode cX8_miss 2 = .ok (.invokevirtual 142, 3) := by decide +kernel
theorem dX8_miss_5 : decode cX8_miss 5 = .ok (.ifCond .ne 5, 3) := by decide +kernel
theorem dX8_miss_8 : decode cX8_miss 8 = .ok (.iconst (-1), 1) := by decide +kernel
theorem dX8_miss_9 : decode cX8_miss 9 = .ok (.ireturn, 1) := by decide +kernel
theorem dX8_miss_10 : decode cX8_miss 10 = .ok (.iload_n 2, 1) := by decide +kernel
theorem dX8_miss_11 : decode cX8_miss 11 = .ok (.iconst 0, 1) := by decide +kernel
theorem dX8_miss_12 : decode cX8_miss 12 = .ok (.bipush 49, 2) := by decide +kernel
theorem dX8_miss_14 : decode cX8_miss 14 = .ok (.invokestatic 70, 3) := by decide +kernel
theorem dX8_miss_17 : decode cX8_miss 17 = .ok (.ifCond .ne 6, 3) := by decide +kernel
theorem dX8_miss_20 : decode cX8_miss 20 = .ok (.bipush (-2), 2) := by decide +kernel
theorem dX8_miss_22 : decode cX8_miss 22 = .ok (.ireturn, 1) := by decide +kernel
theorem dX8_miss_23 : decode cX8_miss 23 = .ok (.aload_n 0, 1) := by decide +kernel
theorem dX8_miss_24 : decode cX8_miss 24 = .ok (.getfield 31, 3) := by decide +kernel
theorem dX8_miss_27 : decode cX8_miss 27 = .ok (.iload_n 1, 1) := by decide +kernel
theorem dX8_miss_28 : decode cX8_miss 28 = .ok (.iaload, 1) := by decide +kernel
theorem dX8_miss_29 : decode cX8_miss 29 = .ok (.istore_n 3, 1) := by decide +kernel
theorem dX8_miss_30 : decode cX8_miss 30 = .ok (.aload_n 0, 1) := by decide +kernel
theorem dX8_miss_31 : decode cX8_miss 31 = .ok (.getfield 31, 3) := by decide +kernel
theorem dX8_miss_34 : decode cX8_miss 34 = .ok (.iload_n 1, 1) := by decide +kernel
theorem dX8_miss_35 : decode cX8_miss 35 = .ok (.iload_n 2, 1) := by decide +kernel
theorem dX8_miss_36 : decode cX8_miss 36 = .ok (.iastore, 1) := by decide +kernel
theorem dX8_miss_37 : decode cX8_miss 37 = .ok (.iload_n 3, 1) := by decide +kernel
theorem dX8_miss_38 : decode cX8_miss 38 = .ok (.ireturn, 1) := by decide +kernel
set_option maxRecDepth 20000 in
theorem ggX8_widen_X8_isRoom : GoodIn wsX8_widen wsX8_isRoom := goodIn_r _ [6, 7, 11, 12, 13, 14, 15, 16, 17, 18, 19, 20, 21, 22, 23, 24, 25, 26, 27, 28, 29, 30, 31, 32, 33, 34, 35, 36, 37, 38, 39, 40, 41, 42] (by decide +kernel) (by decide +kernel)
set_option maxRecDepth 20000 in
theorem gX8_widen_X8_isRoom : GoodIn wsX8_widen (wsV RX8 145 RX8 yX8_isRoom wsX8_isRoom) := goodIn_app (goodIn_of _ (by decide +kernel)) ggX8_widen_X8_isRoom
set_option maxRecDepth 20000 in
theorem ggX8_widen_X8_within : GoodIn wsX8_widen wsX8_within := goodIn_r _ [10] (by decide +kernel) (by decide +kernel)
set_option maxRecDepth 20000 in
theorem gX8_widen_X8_within : GoodIn wsX8_widen (va_wsS RX8 70 yX8_within wsX8_within) := goodIn_app (goodIn_of _ (by decide +kernel)) ggX8_widen_X8_within
theorem dX8_widen_0 : decode cX8_widen 0 = .ok (.aload_n 0, 1) := by decide +kernel
theorem dX8_widen_1 : decode cX8_widen 1 = .ok (.iload_n 1, 1) := by decide +kernel
theorem dX8_widen_2 : decode cX8_widen 2 = .ok (.invokevirtual 145, 3) := by decide +kernel
theorem dX8_widen_5 : decode cX8_widen 5 = .ok (.ifCond .ne 5, 3) := by decide +kernel
theorem dX8_widen_8 : decode cX8_widen 8 = .ok (.iconst (-1), 1) := by decide +kernel
theorem dX8_widen_9 : decode cX8_widen 9 = .ok (.ireturn, 1) := by decide +kernel
theorem dX8_widen_10 : decode cX8_widen 10 = .ok (.iload_n 2, 1) := by decide +kernel
theorem dX8_widen_11 : decode cX8_widen 11 = .ok (.iconst 1, 1) := by decide +kernel
theorem dX8_widen_12 : decode cX8_widen 12 = .ok (.bipush 9, 2) := by decide +kernel
theorem dX8_widen_14 : decode cX8_widen 14 = .ok (.invokestatic 70, 3) := by decide +kernel
theorem dX8_widen_17 : decode cX8_widen 17 = .ok (.ifCond .ne 6, 3) := by decide +kernel
theorem dX8_widen_20 : decode cX8_widen 20 = .ok (.bipush (-2), 2) := by decide +kernel
theorem dX8_widen_22 : decode cX8_widen 22 = .ok (.ireturn, 1) := by decide +kernel
theorem dX8_widen_23 : decode cX8_widen 23 = .ok (.aload_n 0, 1) := by decide +kernel
theorem dX8_widen_24 : decode cX8_widen 24 = .ok (.getfield 19, 3) := by decide +kernel
theorem dX8_widen_27 : decode cX8_widen 27 = .ok (.iload_n 1, 1) := by decide +kernel
theorem dX8_widen_28 : decode cX8_widen 28 = .ok (.iaload, 1) := by decide +kernel
theorem dX8_widen_29 : decode cX8_widen 29 = .ok (.istore_n 3, 1) := by decide +kernel
theorem dX8_widen_30 : decode cX8_widen 30 = .ok (.aload_n 0, 1) := by decide +kernel
theorem dX8_widen_31 : decode cX8_widen 31 = .ok (.getfield 19, 3) := by decide +kernel
theorem dX8_widen_34 : decode cX8_widen 34 = .ok (.iload_n 1, 1) := by decide +kernel
theorem dX8_widen_35 : decode cX8_widen 35 = .ok (.iload_n 2, 1) := by decide +kernel
theorem dX8_widen_36 : decode cX8_widen 36 = .ok (.iastore, 1) := by decide +kernel
theorem dX8_widen_37 : decode cX8_widen 37 = .ok (.iload_n 3, 1) := by decide +kernel
theorem dX8_widen_38 : decode cX8_widen 38 = .ok (.ireturn, 1) := by decide +kernel
set_option maxRecDepth 20000 in
theorem ggX8_shift_X8_isCorner : GoodIn wsX8_shift wsX8_isCorner := goodIn_r _ [6, 7, 8, 5, 9] (by decide +kernel) (by decide +kernel)
set_option maxRecDepth 20000 in
theorem gX8_shift_X8_isCorner : GoodIn wsX8_shift (va_wsS RX8 148 yX8_isCorner wsX8_isCorner) := goodIn_app (goodIn_of _ (by decide +kernel)) ggX8_shift_X8_isCorner
theorem dX8_shift_0 : decode cX8_shift 0 = .ok (.iload_n 1, 1) := by decide +kernel
theorem dX8_shift_1 : decode cX8_shift 1 = .ok (.invokestatic 148, 3) := by decide +kernel
theorem dX8_shift_4 : decode cX8_shift 4 = .ok (.ifCond .ne 6, 3) := by decide +kernel
theorem dX8_shift_7 : decode cX8_shift 7 = .ok (.bipush (-2), 2) := by decide +kernel
theorem dX8_shift_9 : decode cX8_shift 9 = .ok (.ireturn, 1) := by decide +kernel
theorem dX8_shift_10 : decode cX8_shift 10 = .ok (.aload_n 0, 1) := by decide +kernel
theorem dX8_shift_11 : decode cX8_shift 11 = .ok (.getfield 74, 3) := by decide +kernel
theorem dX8_shift_14 : decode cX8_shift 14 = .ok (.ifCond .ne 6, 3) := by decide +kernel
theorem dX8_shift_17 : decode cX8_shift 17 = .ok (.bipush (-3), 2) := by decide +kernel
theorem dX8_shift_19 : decode cX8_shift 19 = .ok (.ireturn, 1) := by decide +kernel
theorem dX8_shift_20 : decode cX8_shift 20 = .ok (.aload_n 0, 1) := by decide +kernel
theorem dX8_shift_21 : decode cX8_shift 21 = .ok (.getfield 107, 3) := by decide +kernel
theorem dX8_shift_24 : decode cX8_shift 24 = .ok (.istore_n 2, 1) := by decide +kernel
theorem dX8_shift_25 : decode cX8_shift 25 = .ok (.aload_n 0, 1) := by decide +kernel
theorem dX8_shift_26 : decode cX8_shift 26 = .ok (.iload_n 1, 1) := by decide +kernel
theorem dX8_shift_27 : decode cX8_shift 27 = .ok (.putfield 107, 3) := by decide +kernel
theorem dX8_shift_30 : decode cX8_shift 30 = .ok (.iload_n 2, 1) := by decide +kernel
theorem dX8_shift_31 : decode cX8_shift 31 = .ok (.ireturn, 1) := by decide +kernel
set_option maxRecDepth 20000 in
theorem ggX8_companyOf_X8_laughsOf : GoodIn wsX8_companyOf wsX8_laughsOf := goodIn_r _ [7, 1, 8, 9, 6, 10, 11, 12, 13, 14, 15, 16, 17, 18, 19, 20, 21, 22, 23, 24, 25, 26, 27, 28, 29, 30, 31, 32, 33, 34, 35, 36, 37, 38, 39, 40, 41, 42, 43, 44, 45, 46, 47, 48] (by decide +kernel) (by decide +kernel)
set_option maxRecDepth 20000 in
theorem gX8_companyOf_X8_laughsOf : GoodIn wsX8_companyOf (wsV RX8 151 RX8 yX8_laughsOf wsX8_laughsOf) := goodIn_app (goodIn_of _ (by decide +kernel)) ggX8_companyOf_X8_laughsOf
set_option maxRecDepth 20000 in
theorem ggX8_companyOf_X8_isOf : GoodIn wsX8_companyOf wsX8_isOf := goodIn_r _ [10] (by decide +kernel) (by decide +kernel)
set_option maxRecDepth 20000 in
theorem gX8_companyOf_X8_isOf : GoodIn wsX8_companyOf (va_wsS RX8 136 yX8_isOf wsX8_isOf) := goodIn_app (goodIn_of _ (by decide +kernel)) ggX8_companyOf_X8_isOf
set_option maxRecDepth 20000 in
theorem ggX8_companyOf_X8_laughOf : GoodIn wsX8_companyOf wsX8_laughOf := goodIn_r _ [14, 15, 16, 17, 18, 19, 20, 21, 22, 23, 24, 25, 26, 27, 28, 29, 30, 31, 32, 33, 34, 35, 36, 37, 38, 39, 40, 41, 42, 43, 44, 45, 46, 47, 48] (by decide +kernel) (by decide +kernel)
set_option maxRecDepth 20000 in
theorem gX8_companyOf_X8_laughOf : GoodIn wsX8_companyOf (wsV RX8 139 RX8 yX8_laughOf wsX8_laughOf) := goodIn_app (goodIn_of _ (by decide +kernel)) ggX8_companyOf_X8_laughOf
theorem dX8_companyOf_0 : decode cX8_companyOf 0 = .ok (.iload_n 1, 1) := by decide +kernel
theorem dX8_companyOf_1 : decode cX8_companyOf 1 = .ok (.istore_n 2, 1) := by decide +kernel
theorem dX8_companyOf_2 : decode cX8_companyOf 2 = .ok (.iconst 0, 1) := by decide +kernel
theorem dX8_companyOf_3 : decode cX8_companyOf 3 = .ok (.istore_n 3, 1) := by decide +kernel
theorem dX8_companyOf_4 : decode cX8_companyOf 4 = .ok (.iload_n 3, 1) := by decide +kernel
theorem dX8_companyOf_5 : decode cX8_companyOf 5 = .ok (.bipush 6, 2) := by decide +kernel
theorem dX8_companyOf_7 : decode cX8_companyOf 7 = .ok (.if_icmp .ge 81, 3) := by decide +kernel
theorem dX8_companyOf_10 : decode cX8_companyOf 10 = .ok (.aload_n 0, 1) := by decide +kernel
theorem dX8_companyOf_11 : decode cX8_companyOf 11 = .ok (.iload_n 2, 1) := by decide +kernel
theorem dX8_companyOf_12 : decode cX8_companyOf 12 = .ok (.invokevirtual 151, 3) := by decide +kernel
theorem dX8_companyOf_15 : decode cX8_companyOf 15 = .ok (.istore 4, 2) := by decide +kernel
theorem dX8_companyOf_17 : decode cX8_companyOf 17 = .ok (.iconst 0, 1) := by decide +kernel
theorem dX8_companyOf_18 : decode cX8_companyOf 18 = .ok (.istore 5, 2) := by decide +kernel
theorem dX8_companyOf_20 : decode cX8_companyOf 20 = .ok (.iconst 0, 1) := by decide +kernel
theorem dX8_companyOf_21 : decode cX8_companyOf 21 = .ok (.istore 6, 2) := by decide +kernel
theorem dX8_companyOf_23 : decode cX8_companyOf 23 = .ok (.iload 6, 2) := by decide +kernel
theorem dX8_companyOf_25 : decode cX8_companyOf 25 = .ok (.aload_n 0, 1) := by decide +kernel
theorem dX8_companyOf_26 : decode cX8_companyOf 26 = .ok (.getfield 74, 3) := by decide +kernel
theorem dX8_companyOf_29 : decode cX8_companyOf 29 = .ok (.if_icmp .ge 50, 3) := by decide +kernel
theorem dX8_companyOf_32 : decode cX8_companyOf 32 = .ok (.iload 5, 2) := by decide +kernel
theorem dX8_companyOf_34 : decode cX8_companyOf 34 = .ok (.iload_n 2, 1) := by decide +kernel
theorem dX8_companyOf_35 : decode cX8_companyOf 35 = .ok (.iload 6, 2) := by decide +kernel
theorem dX8_companyOf_37 : decode cX8_companyOf 37 = .ok (.invokestatic 136, 3) := by decide +kernel
theorem dX8_companyOf_40 : decode cX8_companyOf 40 = .ok (.ifCond .eq 29, 3) := by decide +kernel
theorem dX8_companyOf_43 : decode cX8_companyOf 43 = .ok (.iload 4, 2) := by decide +kernel
theorem dX8_companyOf_45 : decode cX8_companyOf 45 = .ok (.aload_n 0, 1) := by decide +kernel
theorem dX8_companyOf_46 : decode cX8_companyOf 46 = .ok (.iload 6, 2) := by decide +kernel
theorem dX8_companyOf_48 : decode cX8_companyOf 48 = .ok (.invokevirtual 139, 3) := by decide +kernel
theorem dX8_companyOf_51 : decode cX8_companyOf 51 = .ok (.isub, 1) := by decide +kernel
theorem dX8_companyOf_52 : decode cX8_companyOf 52 = .ok (.aload_n 0, 1) := by decide +kernel
theorem dX8_companyOf_53 : decode cX8_companyOf 53 = .ok (.getfield 31, 3) := by decide +kernel
theorem dX8_companyOf_56 : decode cX8_companyOf 56 = .ok (.iload 6, 2) := by decide +kernel
theorem dX8_companyOf_58 : decode cX8_companyOf 58 = .ok (.iaload, 1) := by decide +kernel
theorem dX8_companyOf_59 : decode cX8_companyOf 59 = .ok (.if_icmp .lt 10, 3) := by decide +kernel
theorem dX8_companyOf_62 : decode cX8_companyOf 62 = .ok (.iconst 1, 1) := by decide +kernel
theorem dX8_companyOf_63 : decode cX8_companyOf 63 = .ok (.iload 6, 2) := by decide +kernel
theorem dX8_companyOf_65 : decode cX8_companyOf 65 = .ok (.ishl, 1) := by decide +kernel
theorem dX8_companyOf_66 : decode cX8_companyOf 66 = .ok (.goto 4, 3) := by decide +kernel
theorem dX8_companyOf_69 : decode cX8_companyOf 69 = .ok (.iconst 0, 1) := by decide +kernel
theorem dX8_companyOf_70 : decode cX8_companyOf 70 = .ok (.ior, 1) := by decide +kernel
theorem dX8_companyOf_71 : decode cX8_companyOf 71 = .ok (.istore 5, 2) := by decide +kernel
theorem dX8_companyOf_73 : decode cX8_companyOf 73 = .ok (.iinc 6 1, 3) := by decide +kernel
theorem dX8_companyOf_76 : decode cX8_companyOf 76 = .ok (.goto (-53), 3) := by decide +kernel
theorem dX8_companyOf_79 : decode cX8_companyOf 79 = .ok (.iload 5, 2) := by decide +kernel
theorem dX8_companyOf_81 : decode cX8_companyOf 81 = .ok (.istore_n 2, 1) := by decide +kernel
theorem dX8_companyOf_82 : decode cX8_companyOf 82 = .ok (.iinc 3 1, 3) := by decide +kernel
theorem dX8_companyOf_85 : decode cX8_companyOf 85 = .ok (.goto (-81), 3) := by decide +kernel
theorem dX8_companyOf_88 : decode cX8_companyOf 88 = .ok (.iload_n 2, 1) := by decide +kernel
theorem dX8_companyOf_89 : decode cX8_companyOf 89 = .ok (.ireturn, 1) := by decide +kernel
theorem dX8_there_0 : decode cX8_there 0 = .ok (.aload_n 0, 1) := by decide +kernel
theorem dX8_there_1 : decode cX8_there 1 = .ok (.getfield 74, 3) := by decide +kernel
theorem dX8_there_4 : decode cX8_there 4 = .ok (.ifCond .ne 8, 3) := by decide +kernel
theorem dX8_there_7 : decode cX8_there 7 = .ok (.bipush (-3), 2) := by decide +kernel
theorem dX8_there_9 : decode cX8_there 9 = .ok (.goto 7, 3) := by decide +kernel
theorem dX8_there_12 : decode cX8_there 12 = .ok (.aload_n 0, 1) := by decide +kernel
theorem dX8_there_13 : decode cX8_there 13 = .ok (.getfield 116, 3) := by decide +kernel
theorem dX8_there_16 : decode cX8_there 16 = .ok (.ireturn, 1) := by decide +kernel
set_option maxRecDepth 20000 in
theorem ggX8_company_X8_isSet : GoodIn wsX8_company wsX8_isSet := goodIn_r _ [6, 1, 25, 26, 27, 28, 29, 30, 31, 32, 33, 34, 35, 36, 37, 38, 39, 40, 41, 42, 43, 44, 45, 46, 47, 48, 49, 50, 51, 52, 53, 54, 55, 56] (by decide +kernel) (by decide +kernel)
set_option maxRecDepth 20000 in
theorem gX8_company_X8_isSet : GoodIn wsX8_company (wsV RX8 154 RX8 yX8_isSet wsX8_isSet) := goodIn_app (goodIn_of _ (by decide +kernel)) ggX8_company_X8_isSet
set_option maxRecDepth 20000 in
theorem ggX8_company_X8_companyOf : GoodIn wsX8_company wsX8_companyOf := goodIn_r _ [10, 1, 11, 12, 13, 14, 5, 15, 16, 17, 18, 19, 20, 21, 22, 23, 24, 25, 26, 27, 28, 29, 30, 31, 32, 33, 34, 35, 36, 37, 38, 39, 40, 41, 42, 43, 44, 45, 46, 47, 48, 49, 50, 51, 52, 53, 54, 55, 56] (by decide +kernel) (by decide +kernel)
set_option maxRecDepth 20000 in
theorem gX8_company_X8_companyOf : GoodIn wsX8_company (wsV RX8 157 RX8 yX8_companyOf wsX8_companyOf) := goodIn_app (goodIn_of _ (by decide +kernel)) ggX8_company_X8_companyOf
theorem dX8_company_0 : decode cX8_company 0 = .ok (.aload_n 0, 1) := by decide +kernel
theorem dX8_company_1 : decode cX8_company 1 = .ok (.getfield 74, 3) := by decide +kernel
theorem dX8_company_4 : decode cX8_company 4 = .ok (.ifCond .ne 6, 3) := by decide +kernel
theorem dX8_company_7 : decode cX8_company 7 = .ok (.bipush (-3), 2) := by decide +kernel
theorem dX8_company_9 : decode cX8_company 9 = .ok (.ireturn, 1) := by decide +kernel
theorem dX8_company_10 : decode cX8_company 10 = .ok (.aload_n 0, 1) := by decide +kernel
theorem dX8_company_11 : decode cX8_company 11 = .ok (.iload_n 1, 1) := by decide +kernel
theorem dX8_company_12 : decode cX8_company 12 = .ok (.invokevirtual 154, 3) := by decide +kernel
theorem dX8_company_15 : decode cX8_company 15 = .ok (.ifCond .eq 11, 3) := by decide +kernel
theorem dX8_company_18 : decode cX8_company 18 = .ok (.aload_n 0, 1) := by decide +kernel
theorem dX8_company_19 : decode cX8_company 19 = .ok (.iload_n 1, 1) := by decide +kernel
theorem dX8_company_20 : decode cX8_company 20 = .ok (.invokevirtual 157, 3) := by decide +kernel
theorem dX8_company_23 : decode cX8_company 23 = .ok (.goto 5, 3) := by decide +kernel
theorem dX8_company_26 : decode cX8_company 26 = .ok (.bipush (-2), 2) := by decide +kernel
theorem dX8_company_28 : decode cX8_company 28 = .ok (.ireturn, 1) := by decide +kernel
set_option maxRecDepth 20000 in
theorem ggX8_comes_X8_companyOf : GoodIn wsX8_comes wsX8_companyOf := goodIn_r _ [6, 7, 8, 9, 10, 11, 5, 12, 13, 14, 15, 16, 17, 18, 19, 20, 21, 22, 23, 24, 25, 26, 27, 28, 29, 30, 31, 32, 33, 34, 35, 36, 37, 38, 39, 40, 41, 42, 43, 44, 45, 46, 47, 48, 49, 50, 51, 52, 53] (by decide +kernel) (by decide +kernel)
set_option maxRecDepth 20000 in
theorem gX8_comes_X8_companyOf : GoodIn wsX8_comes (wsV RX8 157 RX8 yX8_companyOf wsX8_companyOf) := goodIn_app (goodIn_of _ (by decide +kernel)) ggX8_comes_X8_companyOf
theorem dX8_comes_0 : decode cX8_comes 0 = .ok (.aload_n 0, 1) := by decide +kernel
theorem dX8_comes_1 : decode cX8_comes 1 = .ok (.aload_n 0, 1) := by decide +kernel
theorem dX8_comes_2 : decode cX8_comes 2 = .ok (.iload_n 1, 1) := by decide +kernel
theorem dX8_comes_3 : decode cX8_comes 3 = .ok (.invokevirtual 157, 3) := by decide +kernel
theorem dX8_comes_6 : decode cX8_comes 6 = .ok (.putfield 116, 3) := by decide +kernel
theorem dX8_comes_9 : decode cX8_comes 9 = .ok (.iload_n 1, 1) := by decide +kernel
theorem dX8_comes_10 : decode cX8_comes 10 = .ok (.aload_n 0, 1) := by decide +kernel
theorem dX8_comes_11 : decode cX8_comes 11 = .ok (.getfield 116, 3) := by decide +kernel
theorem dX8_comes_14 : decode cX8_comes 14 = .ok (.iconst (-1), 1) := by decide +kernel
theorem dX8_comes_15 : decode cX8_comes 15 = .ok (.ixor, 1) := by decide +kernel
theorem dX8_comes_16 : decode cX8_comes 16 = .ok (.iand, 1) := by decide +kernel
theorem dX8_comes_17 : decode cX8_comes 17 = .ok (.ireturn, 1) := by decide +kernel
set_option maxRecDepth 20000 in
theorem ggX8_send_X8_isArticle : GoodIn wsX8_send wsX8_isArticle := goodIn_r _ [6, 7, 30, 31, 32, 33, 34, 35, 36, 37, 38, 39, 40, 41, 42, 43, 44, 45, 46, 47, 48, 49, 50, 51, 52, 53, 54, 55, 56, 57, 58, 59, 60, 61] (by decide +kernel) (by decide +kernel)
set_option maxRecDepth 20000 in
theorem gX8_send_X8_isArticle : GoodIn wsX8_send (wsV RX8 142 RX8 yX8_isArticle wsX8_isArticle) := goodIn_app (goodIn_of _ (by decide +kernel)) ggX8_send_X8_isArticle
set_option maxRecDepth 20000 in
theorem ggX8_send_X8_isOf : GoodIn wsX8_send wsX8_isOf := goodIn_r _ [10] (by decide +kernel) (by decide +kernel)
set_option maxRecDepth 20000 in
theorem gX8_send_X8_isOf : GoodIn wsX8_send (va_wsS RX8 136 yX8_isOf wsX8_isOf) := goodIn_app (goodIn_of _ (by decide +kernel)) ggX8_send_X8_isOf
set_option maxRecDepth 20000 in
theorem ggX8_send_X8_comes : GoodIn wsX8_send wsX8_comes := goodIn_r _ [14, 1, 15, 16, 17, 5, 18, 7, 19, 20, 21, 22, 23, 8, 9, 10, 24, 25, 26, 27, 28, 29, 30, 31, 32, 33, 34, 35, 36, 37, 38, 39, 40, 41, 42, 43, 44, 45, 46, 47, 48, 49, 50, 51, 52, 53, 54, 55, 56, 57, 58, 59, 60, 61] (by decide +kernel) (by decide +kernel)
set_option maxRecDepth 20000 in
theorem gX8_send_X8_comes : GoodIn wsX8_send (wsV RX8 160 RX8 yX8_comes wsX8_comes) := goodIn_app (goodIn_of _ (by decide +kernel)) ggX8_send_X8_comes
theorem dX8_send_0 : decode cX8_send 0 = .ok (.aload_n 0, 1) := by decide +kernel
theorem dX8_send_1 : decode cX8_send 1 = .ok (.iload_n 1, 1) := by decide +kernel
theorem dX8_send_2 : decode cX8_send 2 = .ok (.invokevirtual 142, 3) := by decide +kernel
theorem dX8_send_5 : decode cX8_send 5 = .ok (.ifCond .ne 5, 3) := by decide +kernel
theorem dX8_send_8 : decode cX8_send 8 = .ok (.iconst (-1), 1) := by decide +kernel
theorem dX8_send_9 : decode cX8_send 9 = .ok (.ireturn, 1) := by decide +kernel
theorem dX8_send_10 : decode cX8_send 10 = .ok (.aload_n 0, 1) := by decide +kernel
theorem dX8_send_11 : decode cX8_send 11 = .ok (.getfield 116, 3) := by decide +kernel
theorem dX8_send_14 : decode cX8_send 14 = .ok (.iload_n 1, 1) := by decide +kernel
theorem dX8_send_15 : decode cX8_send 15 = .ok (.invokestatic 136, 3) := by decide +kernel
theorem dX8_send_18 : decode cX8_send 18 = .ok (.ifCond .eq 8, 3) := by decide +kernel
theorem dX8_send_21 : decode cX8_send 21 = .ok (.bipush (-3), 2) := by decide +kernel
theorem dX8_send_23 : decode cX8_send 23 = .ok (.goto 15, 3) := by decide +kernel
theorem dX8_send_26 : decode cX8_send 26 = .ok (.aload_n 0, 1) := by decide +kernel
theorem dX8_send_27 : decode cX8_send 27 = .ok (.aload_n 0, 1) := by decide +kernel
theorem dX8_send_28 : decode cX8_send 28 = .ok (.getfield 116, 3) := by decide +kernel
theorem dX8_send_31 : decode cX8_send 31 = .ok (.iconst 1, 1) := by decide +kernel
theorem dX8_send_32 : decode cX8_send 32 = .ok (.iload_n 1, 1) := by decide +kernel
theorem dX8_send_33 : decode cX8_send 33 = .ok (.ishl, 1) := by decide +kernel
theorem dX8_send_34 : decode cX8_send 34 = .ok (.ior, 1) := by decide +kernel
theorem dX8_send_35 : decode cX8_send 35 = .ok (.invokevirtual 160, 3) := by decide +kernel
theorem dX8_send_38 : decode cX8_send 38 = .ok (.ireturn, 1) := by decide +kernel
set_option maxRecDepth 20000 in
theorem ggX8_call_X8_isArticle : GoodIn wsX8_call wsX8_isArticle := goodIn_r _ [6, 7, 30, 31, 32, 33, 34, 35, 36, 37, 38, 39, 40, 41, 42, 43, 44, 45, 46, 47, 48, 49, 50, 51, 52, 53, 54, 55, 56, 57, 58, 59, 60, 61] (by decide +kernel) (by decide +kernel)
set_option maxRecDepth 20000 in
theorem gX8_call_X8_isArticle : GoodIn wsX8_call (wsV RX8 142 RX8 yX8_isArticle wsX8_isArticle) := goodIn_app (goodIn_of _ (by decide +kernel)) ggX8_call_X8_isArticle
set_option maxRecDepth 20000 in
theorem ggX8_call_X8_isOf : GoodIn wsX8_call wsX8_isOf := goodIn_r _ [10] (by decide +kernel) (by decide +kernel)
set_option maxRecDepth 20000 in
theorem gX8_call_X8_isOf : GoodIn wsX8_call (va_wsS RX8 136 yX8_isOf wsX8_isOf) := goodIn_app (goodIn_of _ (by decide +kernel)) ggX8_call_X8_isOf
set_option maxRecDepth 20000 in
theorem ggX8_call_X8_comes : GoodIn wsX8_call wsX8_comes := goodIn_r _ [14, 1, 15, 16, 17, 5, 18, 7, 19, 20, 21, 22, 23, 8, 9, 10, 24, 25, 26, 27, 28, 29, 30, 31, 32, 33, 34, 35, 36, 37, 38, 39, 40, 41, 42, 43, 44, 45, 46, 47, 48, 49, 50, 51, 52, 53, 54, 55, 56, 57, 58, 59, 60, 61] (by decide +kernel) (by decide +kernel)
set_option maxRecDepth 20000 in
theorem gX8_call_X8_comes : GoodIn wsX8_call (wsV RX8 160 RX8 yX8_comes wsX8_comes) := goodIn_app (goodIn_of _ (by decide +kernel)) ggX8_call_X8_comes
theorem dX8_call_0 : decode cX8_call 0 = .ok (.aload_n 0, 1) := by decide +kernel
theorem dX8_call_1 : decode cX8_call 1 = .ok (.iload_n 1, 1) := by decide +kernel
theorem dX8_call_2 : decode cX8_call 2 = .ok (.invokevirtual 142, 3) := by decide +kernel
theorem dX8_call_5 : decode cX8_call 5 = .ok (.ifCond .ne 5, 3) := by decide +kernel
theorem dX8_call_8 : decode cX8_call 8 = .ok (.iconst (-1), 1) := by decide +kernel
theorem dX8_call_9 : decode cX8_call 9 = .ok (.ireturn, 1) := by decide +kernel
theorem dX8_call_10 : decode cX8_call 10 = .ok (.aload_n 0, 1) := by decide +kernel
theorem dX8_call_11 : decode cX8_call 11 = .ok (.getfield 116, 3) := by decide +kernel
theorem dX8_call_14 : decode cX8_call 14 = .ok (.iload_n 1, 1) := by decide +kernel
theorem dX8_call_15 : decode cX8_call 15 = .ok (.invokestatic 136, 3) := by decide +kernel
theorem dX8_call_18 : decode cX8_call 18 = .ok (.ifCond .eq 20, 3) := by decide +kernel
theorem dX8_call_21 : decode cX8_call 21 = .ok (.aload_n 0, 1) := by decide +kernel
theorem dX8_call_22 : decode cX8_call 22 = .ok (.aload_n 0, 1) := by decide +kernel
theorem dX8_call_23 : decode cX8_call 23 = .ok (.getfield 116, 3) := by decide +kernel
theorem dX8_call_26 : decode cX8_call 26 = .ok (.iconst 1, 1) := by decide +kernel
theorem dX8_call_27 : decode cX8_call 27 = .ok (.iload_n 1, 1) := by decide +kernel
theorem dX8_call_28 : decode cX8_call 28 = .ok (.ishl, 1) := by decide +kernel
theorem dX8_call_29 : decode cX8_call 29 = .ok (.iconst (-1), 1) := by decide +kernel
theorem dX8_call_30 : decode cX8_call 30 = .ok (.ixor, 1) := by decide +kernel
theorem dX8_call_31 : decode cX8_call 31 = .ok (.iand, 1) := by decide +kernel
theorem dX8_call_32 : decode cX8_call 32 = .ok (.invokevirtual 160, 3) := by decide +kernel
theorem dX8_call_35 : decode cX8_call 35 = .ok (.goto 5, 3) := by decide +kernel
theorem dX8_call_38 : decode cX8_call 38 = .ok (.bipush (-3), 2) := by decide +kernel
theorem dX8_call_40 : decode cX8_call 40 = .ok (.ireturn, 1) := by decide +kernel
set_option maxRecDepth 20000 in
theorem ggX8_laughter_X8_laughsOf : GoodIn wsX8_laughter wsX8_laughsOf := goodIn_r _ [7, 1, 8, 9, 6, 10, 11, 12, 13, 14, 15, 16, 17, 18, 19, 20, 21, 22, 23, 24, 25, 26, 27, 28, 29, 30, 31, 32, 33, 34, 35, 36, 37, 38, 39, 40, 41, 42, 43, 44, 45, 46, 47, 48] (by decide +kernel) (by decide +kernel)
set_option maxRecDepth 20000 in
theorem gX8_laughter_X8_laughsOf : GoodIn wsX8_laughter (wsV RX8 151 RX8 yX8_laughsOf wsX8_laughsOf) := goodIn_app (goodIn_of _ (by decide +kernel)) ggX8_laughter_X8_laughsOf
theorem dX8_laughter_0 : decode cX8_laughter 0 = .ok (.aload_n 0, 1) := by decide +kernel
theorem dX8_laughter_1 : decode cX8_laughter 1 = .ok (.getfield 74, 3) := by decide +kernel
theorem dX8_laughter_4 : decode cX8_laughter 4 = .ok (.ifCond .ne 8, 3) := by decide +kernel
theorem dX8_laughter_7 : decode cX8_laughter 7 = .ok (.bipush (-3), 2) := by decide +kernel
theorem dX8_laughter_9 : decode cX8_laughter 9 = .ok (.goto 11, 3) := by decide +kernel
theorem dX8_laughter_12 : decode cX8_laughter 12 = .ok (.aload_n 0, 1) := by decide +kernel
theorem dX8_laughter_13 : decode cX8_laughter 13 = .ok (.aload_n 0, 1) := by decide +kernel
theorem dX8_laughter_14 : decode cX8_laughter 14 = .ok (.getfield 116, 3) := by decide +kernel
theorem dX8_laughter_17 : decode cX8_laughter 17 = .ok (.invokevirtual 151, 3) := by decide +kernel
theorem dX8_laughter_20 : decode cX8_laughter 20 = .ok (.ireturn, 1) := by decide +kernel
theorem dX8_apart_0 : decode cX8_apart 0 = .ok (.iload_n 0, 1) := by decide +kernel
theorem dX8_apart_1 : decode cX8_apart 1 = .ok (.iload_n 1, 1) := by decide +kernel
theorem dX8_apart_2 : decode cX8_apart 2 = .ok (.if_icmp .ge 9, 3) := by decide +kernel
theorem dX8_apart_5 : decode cX8_apart 5 = .ok (.iload_n 1, 1) := by decide +kernel
theorem dX8_apart_6 : decode cX8_apart 6 = .ok (.iload_n 0, 1) := by decide +kernel
theorem dX8_apart_7 : decode cX8_apart 7 = .ok (.isub, 1) := by decide +kernel
theorem dX8_apart_8 : decode cX8_apart 8 = .ok (.goto 6, 3) := by decide +kernel
theorem dX8_apart_11 : decode cX8_apart 11 = .ok (.iload_n 0, 1) := by decide +kernel
theorem dX8_apart_12 : decode cX8_apart 12 = .ok (.iload_n 1, 1) := by decide +kernel
theorem dX8_apart_13 : decode cX8_apart 13 = .ok (.isub, 1) := by decide +kernel
theorem dX8_apart_14 : decode cX8_apart 14 = .ok (.ireturn, 1) := by decide +kernel
set_option maxRecDepth 20000 in
theorem ggX8_heardAt_X8_apart : GoodIn wsX8_heardAt wsX8_apart := goodIn_r _ [6] (by decide +kernel) (by decide +kernel)
set_option maxRecDepth 20000 in
theorem gX8_heardAt_X8_apart : GoodIn wsX8_heardAt (va_wsS RX8 163 yX8_apart wsX8_apart) := goodIn_app (goodIn_of _ (by decide +kernel)) ggX8_heardAt_X8_apart
set_option maxRecDepth 20000 in
theorem ggX8_heardAt_X8_laughsOf : GoodIn wsX8_heardAt wsX8_laughsOf := goodIn_r _ [10, 11, 12, 13, 5, 14, 15, 16, 17, 18, 19, 20, 21, 22, 23, 24, 25, 26, 27, 28, 29, 30, 31, 32, 33, 34, 35, 36, 37, 38, 39, 40, 41, 42, 43, 44, 45, 46, 47, 48, 49, 50, 51, 52] (by decide +kernel) (by decide +kernel)
set_option maxRecDepth 20000 in
theorem gX8_heardAt_X8_laughsOf : GoodIn wsX8_heardAt (wsV RX8 151 RX8 yX8_laughsOf wsX8_laughsOf) := goodIn_app (goodIn_of _ (by decide +kernel)) ggX8_heardAt_X8_laughsOf
theorem dX8_heardAt_0 : decode cX8_heardAt 0 = .ok (.iload_n 1, 1) := by decide +kernel
theorem dX8_heardAt_1 : decode cX8_heardAt 1 = .ok (.bipush 8, 2) := by decide +kernel
theorem dX8_heardAt_3 : decode cX8_heardAt 3 = .ok (.irem, 1) := by decide +kernel
theorem dX8_heardAt_4 : decode cX8_heardAt 4 = .ok (.aload_n 0, 1) := by decide +kernel
theorem dX8_heardAt_5 : decode cX8_heardAt 5 = .ok (.getfield 107, 3) := by decide +kernel
theorem dX8_heardAt_8 : decode cX8_heardAt 8 = .ok (.bipush 8, 2) := by decide +kernel
theorem dX8_heardAt_10 : decode cX8_heardAt 10 = .ok (.irem, 1) := by decide +kernel
theorem dX8_heardAt_11 : decode cX8_heardAt 11 = .ok (.invokestatic 163, 3) := by decide +kernel
theorem dX8_heardAt_14 : decode cX8_heardAt 14 = .ok (.iload_n 1, 1) := by decide +kernel
theorem dX8_heardAt_15 : decode cX8_heardAt 15 = .ok (.bipush 8, 2) := by decide +kernel
theorem dX8_heardAt_17 : decode cX8_heardAt 17 = .ok (.idiv, 1) := by decide +kernel
theorem dX8_heardAt_18 : decode cX8_heardAt 18 = .ok (.aload_n 0, 1) := by decide +kernel
theorem dX8_heardAt_19 : decode cX8_heardAt 19 = .ok (.getfield 107, 3) := by decide +kernel

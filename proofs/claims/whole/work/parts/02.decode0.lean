abbrev vwCl : List vw_C := [(RX0, TX0, 4), (RX1, TX1, 6), (RX2, TX2, 5), (RX3, TX3, 3), (RX4, TX4, 3), (RX6, TX6, 5), (RX7, TX7, 7), (RX8, TX8, 32)]
theorem dX0_init_0 : decode cX0_init 0 = .ok (.aload_n 0, 1) := by decide +kernel
theorem dX0_init_1 : decode cX0_init 1 = .ok (.invokespecial 3, 3) := by decide +kernel
theorem dX0_init_4 : decode cX0_init 4 = .ok (.return_, 1) := by decide +kernel
set_option maxRecDepth 20000 in
theorem ggX0_laugh_X0_laughOfKind : GoodIn wsX0_laugh wsX0_laughOfKind := goodIn_r _ [6] (by decide +kernel) (by decide +kernel)
set_option maxRecDepth 20000 in
theorem gX0_laugh_X0_laughOfKind : GoodIn wsX0_laugh (va_wsS RX0 18 yX0_laughOfKind wsX0_laughOfKind) := goodIn_app (goodIn_of _ (by decide +kernel)) ggX0_laugh_X0_laughOfKind
theorem dX0_laugh_0 : decode cX0_laugh 0 = .ok (.aload_n 0, 1) := by decide +kernel
theorem dX0_laugh_1 : decode cX0_laugh 1 = .ok (.getfield 9, 3) := by decide +kernel
theorem dX0_laugh_4 : decode cX0_laugh 4 = .ok (.aload_n 0, 1) := by decide +kernel
theorem dX0_laugh_5 : decode cX0_laugh 5 = .ok (.getfield 15, 3) := by decide +kernel
theorem dX0_laugh_8 : decode cX0_laugh 8 = .ok (.invokestatic 18, 3) := by decide +kernel
theorem dX0_laugh_11 : decode cX0_laugh 11 = .ok (.ireturn, 1) := by decide +kernel
theorem dX0_laughOfKind_0 : decode cX0_laughOfKind 0 = .ok (.iload_n 0, 1) := by decide +kernel
theorem dX0_laughOfKind_1 : decode cX0_laughOfKind 1 = .ok (.lookupswitch 43 #[(1, 31), (2, 27)], 27) := by decide +kernel
theorem dX0_laughOfKind_28 : decode cX0_laughOfKind 28 = .ok (.iconst 2, 1) := by decide +kernel
theorem dX0_laughOfKind_29 : decode cX0_laughOfKind 29 = .ok (.iload_n 1, 1) := by decide +kernel
theorem dX0_laughOfKind_30 : decode cX0_laughOfKind 30 = .ok (.imul, 1) := by decide +kernel
theorem dX0_laughOfKind_31 : decode cX0_laughOfKind 31 = .ok (.ireturn, 1) := by decide +kernel
theorem dX0_laughOfKind_32 : decode cX0_laughOfKind 32 = .ok (.iload_n 1, 1) := by decide +kernel
theorem dX0_laughOfKind_33 : decode cX0_laughOfKind 33 = .ok (.ifCond .le 9, 3) := by decide +kernel
theorem dX0_laughOfKind_36 : decode cX0_laughOfKind 36 = .ok (.iload_n 1, 1) := by decide +kernel
theorem dX0_laughOfKind_37 : decode cX0_laughOfKind 37 = .ok (.iconst 1, 1) := by decide +kernel
theorem dX0_laughOfKind_38 : decode cX0_laughOfKind 38 = .ok (.isub, 1) := by decide +kernel
theorem dX0_laughOfKind_39 : decode cX0_laughOfKind 39 = .ok (.goto 4, 3) := by decide +kernel
theorem dX0_laughOfKind_42 : decode cX0_laughOfKind 42 = .ok (.iconst 0, 1) := by decide +kernel
theorem dX0_laughOfKind_43 : decode cX0_laughOfKind 43 = .ok (.ireturn, 1) := by decide +kernel
theorem dX0_laughOfKind_44 : decode cX0_laughOfKind 44 = .ok (.iload_n 1, 1) := by decide +kernel
theorem dX0_laughOfKind_45 : decode cX0_laughOfKind 45 = .ok (.ireturn, 1) := by decide +kernel
set_option maxRecDepth 20000 in
theorem ggX1_init_X0_init : GoodIn wsX1_init wsX0_init := goodIn_r _ [11, 12, 2, 3] (by decide +kernel) (by decide +kernel)
set_option maxRecDepth 20000 in
theorem gX1_init_X0_init_n17 : GoodIn wsX1_init (wsX0_init) := ggX1_init_X0_init
theorem dX1_init_0 : decode cX1_init 0 = .ok (.aload_n 0, 1) := by decide +kernel
theorem dX1_init_1 : decode cX1_init 1 = .ok (.invokespecial 3, 3) := by decide +kernel
theorem dX1_init_4 : decode cX1_init 4 = .ok (.aload_n 0, 1) := by decide +kernel
theorem dX1_init_5 : decode cX1_init 5 = .ok (.bipush 6, 2) := by decide +kernel
theorem dX1_init_7 : decode cX1_init 7 = .ok (.anewarray 9, 3) := by decide +kernel
theorem dX1_init_10 : decode cX1_init 10 = .ok (.putfield 11, 3) := by decide +kernel
theorem dX1_init_13 : decode cX1_init 13 = .ok (.iconst 0, 1) := by decide +kernel
theorem dX1_init_14 : decode cX1_init 14 = .ok (.istore_n 1, 1) := by decide +kernel
theorem dX1_init_15 : decode cX1_init 15 = .ok (.iload_n 1, 1) := by decide +kernel
theorem dX1_init_16 : decode cX1_init 16 = .ok (.bipush 6, 2) := by decide +kernel
theorem dX1_init_18 : decode cX1_init 18 = .ok (.if_icmp .ge 22, 3) := by decide +kernel
theorem dX1_init_21 : decode cX1_init 21 = .ok (.aload_n 0, 1) := by decide +kernel
theorem dX1_init_22 : decode cX1_init 22 = .ok (.getfield 11, 3) := by decide +kernel
theorem dX1_init_25 : decode cX1_init 25 = .ok (.iload_n 1, 1) := by decide +kernel
theorem dX1_init_26 : decode cX1_init 26 = .ok (.new 9, 3) := by decide +kernel
theorem dX1_init_29 : decode cX1_init 29 = .ok (.dup, 1) := by decide +kernel
theorem dX1_init_30 : decode cX1_init 30 = .ok (.invokespecial 17, 3) := by decide +kernel
theorem dX1_init_33 : decode cX1_init 33 = .ok (.aastore, 1) := by decide +kernel
theorem dX1_init_34 : decode cX1_init 34 = .ok (.iinc 1 1, 3) := by decide +kernel
theorem dX1_init_37 : decode cX1_init 37 = .ok (.goto (-22), 3) := by decide +kernel
theorem dX1_init_40 : decode cX1_init 40 = .ok (.aload_n 0, 1) := by decide +kernel
theorem dX1_init_41 : decode cX1_init 41 = .ok (.iconst 4, 1) := by decide +kernel
theorem dX1_init_42 : decode cX1_init 42 = .ok (.newarray .int, 2) := by decide +kernel
theorem dX1_init_44 : decode cX1_init 44 = .ok (.putfield 18, 3) := by decide +kernel
theorem dX1_init_47 : decode cX1_init 47 = .ok (.return_, 1) := by decide +kernel
theorem dX1_stands_0 : decode cX1_stands 0 = .ok (.aload_n 0, 1) := by decide +kernel
theorem dX1_stands_1 : decode cX1_stands 1 = .ok (.getfield 22, 3) := by decide +kernel
theorem dX1_stands_4 : decode cX1_stands 4 = .ok (.ifCond .le 7, 3) := by decide +kernel
theorem dX1_stands_7 : decode cX1_stands 7 = .ok (.iconst 1, 1) := by decide +kernel
theorem dX1_stands_8 : decode cX1_stands 8 = .ok (.goto 4, 3) := by decide +kernel
theorem dX1_stands_11 : decode cX1_stands 11 = .ok (.iconst 0, 1) := by decide +kernel
theorem dX1_stands_12 : decode cX1_stands 12 = .ok (.ireturn, 1) := by decide +kernel
theorem dX1_isArticle_0 : decode cX1_isArticle 0 = .ok (.iload_n 1, 1) := by decide +kernel
theorem dX1_isArticle_1 : decode cX1_isArticle 1 = .ok (.ifCond .lt 15, 3) := by decide +kernel
theorem dX1_isArticle_4 : decode cX1_isArticle 4 = .ok (.iload_n 1, 1) := by decide +kernel
theorem dX1_isArticle_5 : decode cX1_isArticle 5 = .ok (.aload_n 0, 1) := by decide +kernel
theorem dX1_isArticle_6 : decode cX1_isArticle 6 = .ok (.getfield 22, 3) := by decide +kernel
theorem dX1_isArticle_9 : decode cX1_isArticle 9 = .ok (.if_icmp .ge 7, 3) := by decide +kernel
theorem dX1_isArticle_12 : decode cX1_isArticle 12 = .ok (.iconst 1, 1) := by decide +kernel
theorem dX1_isArticle_13 : decode cX1_isArticle 13 = .ok (.goto 4, 3) := by decide +kernel
theorem dX1_isArticle_16 : decode cX1_isArticle 16 = .ok (.iconst 0, 1) := by decide +kernel
theorem dX1_isArticle_17 : decode cX1_isArticle 17 = .ok (.ireturn, 1) := by decide +kernel
theorem dX1_isRoom_0 : decode cX1_isRoom 0 = .ok (.iload_n 1, 1) := by decide +kernel
theorem dX1_isRoom_1 : decode cX1_isRoom 1 = .ok (.ifCond .lt 15, 3) := by decide +kernel
theorem dX1_isRoom_4 : decode cX1_isRoom 4 = .ok (.iload_n 1, 1) := by decide +kernel
theorem dX1_isRoom_5 : decode cX1_isRoom 5 = .ok (.aload_n 0, 1) := by decide +kernel
theorem dX1_isRoom_6 : decode cX1_isRoom 6 = .ok (.getfield 26, 3) := by decide +kernel
theorem dX1_isRoom_9 : decode cX1_isRoom 9 = .ok (.if_icmp .ge 7, 3) := by decide +kernel
theorem dX1_isRoom_12 : decode cX1_isRoom 12 = .ok (.iconst 1, 1) := by decide +kernel
theorem dX1_isRoom_13 : decode cX1_isRoom 13 = .ok (.goto 4, 3) := by decide +kernel
theorem dX1_isRoom_16 : decode cX1_isRoom 16 = .ok (.iconst 0, 1) := by decide +kernel
theorem dX1_isRoom_17 : decode cX1_isRoom 17 = .ok (.ireturn, 1) := by decide +kernel
theorem dX1_isSet_0 : decode cX1_isSet 0 = .ok (.iload_n 1, 1) := by decide +kernel
theorem dX1_isSet_1 : decode cX1_isSet 1 = .ok (.ifCond .lt 17, 3) := by decide +kernel
theorem dX1_isSet_4 : decode cX1_isSet 4 = .ok (.iload_n 1, 1) := by decide +kernel
theorem dX1_isSet_5 : decode cX1_isSet 5 = .ok (.iconst 1, 1) := by decide +kernel
theorem dX1_isSet_6 : decode cX1_isSet 6 = .ok (.aload_n 0, 1) := by decide +kernel
theorem dX1_isSet_7 : decode cX1_isSet 7 = .ok (.getfield 22, 3) := by decide +kernel
theorem dX1_isSet_10 : decode cX1_isSet 10 = .ok (.ishl, 1) := by decide +kernel
theorem dX1_isSet_11 : decode cX1_isSet 11 = .ok (.if_icmp .ge 7, 3) := by decide +kernel
theorem dX1_isSet_14 : decode cX1_isSet 14 = .ok (.iconst 1, 1) := by decide +kernel
theorem dX1_isSet_15 : decode cX1_isSet 15 = .ok (.goto 4, 3) := by decide +kernel
theorem dX1_isSet_18 : decode cX1_isSet 18 = .ok (.iconst 0, 1) := by decide +kernel
theorem dX1_isSet_19 : decode cX1_isSet 19 = .ok (.ireturn, 1) := by decide +kernel
set_option maxRecDepth 20000 in
theorem ggX1_laughOf_X7_has : GoodIn wsX1_laughOf wsX7_has := goodIn_r _ [5] (by decide +kernel) (by decide +kernel)
set_option maxRecDepth 20000 in
theorem gX1_laughOf_X7_has_n29 : GoodIn wsX1_laughOf (wsX7_has) := ggX1_laughOf_X7_has
set_option maxRecDepth 20000 in
theorem ggX1_laughOf_X0_laugh : GoodIn wsX1_laughOf wsX0_laugh := goodIn_r _ [10, 11, 12, 13, 14, 9, 15, 22, 23, 24, 25] (by decide +kernel) (by decide +kernel)
set_option maxRecDepth 20000 in
theorem gX1_laughOf_X0_laugh : GoodIn wsX1_laughOf (wsV RX1 33 RX0 yX0_laugh wsX0_laugh) := goodIn_app (goodIn_of _ (by decide +kernel)) ggX1_laughOf_X0_laugh
theorem dX1_laughOf_0 : decode cX1_laughOf 0 = .ok (.iconst 0, 1) := by decide +kernel
theorem dX1_laughOf_1 : decode cX1_laughOf 1 = .ok (.istore_n 2, 1) := by decide +kernel
theorem dX1_laughOf_2 : decode cX1_laughOf 2 = .ok (.iconst 0, 1) := by decide +kernel
theorem dX1_laughOf_3 : decode cX1_laughOf 3 = .ok (.istore_n 3, 1) := by decide +kernel
theorem dX1_laughOf_4 : decode cX1_laughOf 4 = .ok (.iload_n 3, 1) := by decide +kernel
theorem dX1_laughOf_5 : decode cX1_laughOf 5 = .ok (.aload_n 0, 1) := by decide +kernel
theorem dX1_laughOf_6 : decode cX1_laughOf 6 = .ok (.getfield 22, 3) := by decide +kernel
theorem dX1_laughOf_9 : decode cX1_laughOf 9 = .ok (.if_icmp .ge 29, 3) := by decide +kernel
theorem dX1_laughOf_12 : decode cX1_laughOf 12 = .ok (.iload_n 1, 1) := by decide +kernel
theorem dX1_laughOf_13 : decode cX1_laughOf 13 = .ok (.iload_n 3, 1) := by decide +kernel
theorem dX1_laughOf_14 : decode cX1_laughOf 14 = .ok (.invokestatic 29, 3) := by decide +kernel
theorem dX1_laughOf_17 : decode cX1_laughOf 17 = .ok (.ifCond .eq 15, 3) := by decide +kernel
theorem dX1_laughOf_20 : decode cX1_laughOf 20 = .ok (.iload_n 2, 1) := by decide +kernel
theorem dX1_laughOf_21 : decode cX1_laughOf 21 = .ok (.aload_n 0, 1) := by decide +kernel
theorem dX1_laughOf_22 : decode cX1_laughOf 22 = .ok (.getfield 11, 3) := by decide +kernel
theorem dX1_laughOf_25 : decode cX1_laughOf 25 = .ok (.iload_n 3, 1) := by decide +kernel
theorem dX1_laughOf_26 : decode cX1_laughOf 26 = .ok (.aaload, 1) := by decide +kernel
theorem dX1_laughOf_27 : decode cX1_laughOf 27 = .ok (.invokevirtual 33, 3) := by decide +kernel
theorem dX1_laughOf_30 : decode cX1_laughOf 30 = .ok (.iadd, 1) := by decide +kernel
theorem dX1_laughOf_31 : decode cX1_laughOf 31 = .ok (.istore_n 2, 1) := by decide +kernel
theorem dX1_laughOf_32 : decode cX1_laughOf 32 = .ok (.iinc 3 1, 3) := by decide +kernel
theorem dX1_laughOf_35 : decode cX1_laughOf 35 = .ok (.goto (-31), 3) := by decide +kernel
theorem dX1_laughOf_38 : decode cX1_laughOf 38 = .ok (.iload_n 2, 1) := by decide +kernel
theorem dX1_laughOf_39 : decode cX1_laughOf 39 = .ok (.ireturn, 1) := by decide +kernel
set_option maxRecDepth 20000 in
theorem ggX1_laughIf_X1_laughOf : GoodIn wsX1_laughIf wsX1_laughOf := goodIn_r _ [6, 7, 8, 9, 10, 11, 12, 13, 14, 15, 16, 17, 18, 19, 20, 21, 23, 24, 25, 26, 27, 28, 29, 30, 31, 32] (by decide +kernel) (by decide +kernel)
set_option maxRecDepth 20000 in
theorem gX1_laughIf_X1_laughOf : GoodIn wsX1_laughIf (wsV RX1 40 RX1 yX1_laughOf wsX1_laughOf) := goodIn_app (goodIn_of _ (by decide +kernel)) ggX1_laughIf_X1_laughOf
set_option maxRecDepth 20000 in
theorem ggX1_laughIf_X7_has : GoodIn wsX1_laughIf wsX7_has := goodIn_r _ [11] (by decide +kernel) (by decide +kernel)
set_option maxRecDepth 20000 in
theorem gX1_laughIf_X7_has_n29 : GoodIn wsX1_laughIf (wsX7_has) := ggX1_laughIf_X7_has
set_option maxRecDepth 20000 in
theorem ggX1_laughIf_X0_laughOfKind : GoodIn wsX1_laughIf wsX0_laughOfKind := goodIn_r _ [21] (by decide +kernel) (by decide +kernel)
set_option maxRecDepth 20000 in
theorem gX1_laughIf_X0_laughOfKind : GoodIn wsX1_laughIf (va_wsS RX1 44 yX0_laughOfKind wsX0_laughOfKind) := goodIn_app (goodIn_of _ (by decide +kernel)) ggX1_laughIf_X0_laughOfKind
theorem dX1_laughIf_0 : decode cX1_laughIf 0 = .ok (.aload_n 0, 1) := by decide +kernel
theorem dX1_laughIf_1 : decode cX1_laughIf 1 = .ok (.aload_n 0, 1) := by decide +kernel
theorem dX1_laughIf_2 : decode cX1_laughIf 2 = .ok (.getfield 37, 3) := by decide +kernel
theorem dX1_laughIf_5 : decode cX1_laughIf 5 = .ok (.iconst 1, 1) := by decide +kernel
theorem dX1_laughIf_6 : decode cX1_laughIf 6 = .ok (.iload_n 1, 1) := by decide +kernel
theorem dX1_laughIf_7 : decode cX1_laughIf 7 = .ok (.ishl, 1) := by decide +kernel
theorem dX1_laughIf_8 : decode cX1_laughIf 8 = .ok (.iconst (-1), 1) := by decide +kernel
theorem dX1_laughIf_9 : decode cX1_laughIf 9 = .ok (.ixor, 1) := by decide +kernel
theorem dX1_laughIf_10 : decode cX1_laughIf 10 = .ok (.iand, 1) := by decide +kernel
theorem dX1_laughIf_11 : decode cX1_laughIf 11 = .ok (.invokevirtual 40, 3) := by decide +kernel
theorem dX1_laughIf_14 : decode cX1_laughIf 14 = .ok (.istore 4, 2) := by decide +kernel
theorem dX1_laughIf_16 : decode cX1_laughIf 16 = .ok (.aload_n 0, 1) := by decide +kernel
theorem dX1_laughIf_17 : decode cX1_laughIf 17 = .ok (.getfield 37, 3) := by decide +kernel
theorem dX1_laughIf_20 : decode cX1_laughIf 20 = .ok (.iload_n 1, 1) := by decide +kernel
theorem dX1_laughIf_21 : decode cX1_laughIf 21 = .ok (.invokestatic 29, 3) := by decide +kernel
theorem dX1_laughIf_24 : decode cX1_laughIf 24 = .ok (.ifCond .eq 14, 3) := by decide +kernel
theorem dX1_laughIf_27 : decode cX1_laughIf 27 = .ok (.iload 4, 2) := by decide +kernel
theorem dX1_laughIf_29 : decode cX1_laughIf 29 = .ok (.iload_n 2, 1) := by decide +kernel
theorem dX1_laughIf_30 : decode cX1_laughIf 30 = .ok (.iload_n 3, 1) := by decide +kernel
theorem dX1_laughIf_31 : decode cX1_laughIf 31 = .ok (.invokestatic 44, 3) := by decide +kernel
theorem dX1_laughIf_34 : decode cX1_laughIf 34 = .ok (.iadd, 1) := by decide +kernel
theorem dX1_laughIf_35 : decode cX1_laughIf 35 = .ok (.goto 5, 3) := by decide +kernel
theorem dX1_laughIf_38 : decode cX1_laughIf 38 = .ok (.iload 4, 2) := by decide +kernel
theorem dX1_laughIf_40 : decode cX1_laughIf 40 = .ok (.ireturn, 1) := by decide +kernel
set_option maxRecDepth 20000 in
theorem ggX1_companyOf_X1_leaversOf : GoodIn wsX1_companyOf wsX1_leaversOf := goodIn_r _ [5, 6, 7, 8, 9, 10, 11, 4, 12, 13, 14, 15, 16, 17, 18, 19, 20, 21, 22, 23, 24, 25, 26, 27, 28, 29, 30, 31, 32, 33, 34, 35] (by decide +kernel) (by decide +kernel)
set_option maxRecDepth 20000 in
theorem gX1_companyOf_X1_leaversOf : GoodIn wsX1_companyOf (wsV RX1 48 RX1 yX1_leaversOf wsX1_leaversOf) := goodIn_app (goodIn_of _ (by decide +kernel)) ggX1_companyOf_X1_leaversOf
theorem dX1_companyOf_0 : decode cX1_companyOf 0 = .ok (.iload_n 1, 1) := by decide +kernel
theorem dX1_companyOf_1 : decode cX1_companyOf 1 = .ok (.istore_n 2, 1) := by decide +kernel
theorem dX1_companyOf_2 : decode cX1_companyOf 2 = .ok (.iconst 0, 1) := by decide +kernel
theorem dX1_companyOf_3 : decode cX1_companyOf 3 = .ok (.istore_n 3, 1) := by decide +kernel
theorem dX1_companyOf_4 : decode cX1_companyOf 4 = .ok (.iload_n 3, 1) := by decide +kernel
theorem dX1_companyOf_5 : decode cX1_companyOf 5 = .ok (.bipush 6, 2) := by decide +kernel
theorem dX1_companyOf_7 : decode cX1_companyOf 7 = .ok (.if_icmp .ge 31, 3) := by decide +kernel
theorem dX1_companyOf_10 : decode cX1_companyOf 10 = .ok (.aload_n 0, 1) := by decide +kernel
theorem dX1_companyOf_11 : decode cX1_companyOf 11 = .ok (.iload_n 2, 1) := by decide +kernel
theorem dX1_companyOf_12 : decode cX1_companyOf 12 = .ok (.invokevirtual 48, 3) := by decide +kernel
theorem dX1_companyOf_15 : decode cX1_companyOf 15 = .ok (.istore 4, 2) := by decide +kernel
theorem dX1_companyOf_17 : decode cX1_companyOf 17 = .ok (.iload 4, 2) := by decide +kernel
theorem dX1_companyOf_19 : decode cX1_companyOf 19 = .ok (.ifCond .ne 6, 3) := by decide +kernel
theorem dX1_companyOf_22 : decode cX1_companyOf 22 = .ok (.goto 16, 3) := by decide +kernel
theorem dX1_companyOf_25 : decode cX1_companyOf 25 = .ok (.iload_n 2, 1) := by decide +kernel
theorem dX1_companyOf_26 : decode cX1_companyOf 26 = .ok (.iload 4, 2) := by decide +kernel
theorem dX1_companyOf_28 : decode cX1_companyOf 28 = .ok (.iconst (-1), 1) := by decide +kernel
theorem dX1_companyOf_29 : decode cX1_companyOf 29 = .ok (.ixor, 1) := by decide +kernel
theorem dX1_companyOf_30 : decode cX1_companyOf 30 = .ok (.iand, 1) := by decide +kernel
theorem dX1_companyOf_31 : decode cX1_companyOf 31 = .ok (.istore_n 2, 1) := by decide +kernel
theorem dX1_companyOf_32 : decode cX1_companyOf 32 = .ok (.iinc 3 1, 3) := by decide +kernel
theorem dX1_companyOf_35 : decode cX1_companyOf 35 = .ok (.goto (-31), 3) := by decide +kernel
theorem dX1_companyOf_38 : decode cX1_companyOf 38 = .ok (.iload_n 2, 1) := by decide +kernel
theorem dX1_companyOf_39 : decode cX1_companyOf 39 = .ok (.ireturn, 1) := by decide +kernel
set_option maxRecDepth 20000 in
theorem ggX1_leaversOf_X1_laughOf : GoodIn wsX1_leaversOf wsX1_laughOf := goodIn_r _ [8, 1, 2, 9, 10, 11, 12, 13, 14, 15, 16, 17, 18, 19, 20, 21, 22, 23, 24, 25, 26, 27, 28, 29, 30, 31] (by decide +kernel) (by decide +kernel)
set_option maxRecDepth 20000 in
theorem gX1_leaversOf_X1_laughOf : GoodIn wsX1_leaversOf (wsV RX1 40 RX1 yX1_laughOf wsX1_laughOf) := goodIn_app (goodIn_of _ (by decide +kernel)) ggX1_leaversOf_X1_laughOf
set_option maxRecDepth 20000 in
theorem ggX1_leaversOf_X7_has : GoodIn wsX1_leaversOf wsX7_has := goodIn_r _ [11] (by decide +kernel) (by decide +kernel)
set_option maxRecDepth 20000 in
theorem gX1_leaversOf_X7_has_n29 : GoodIn wsX1_leaversOf (wsX7_has) := ggX1_leaversOf_X7_has
set_option maxRecDepth 20000 in
theorem ggX1_leaversOf_X0_laugh : GoodIn wsX1_leaversOf wsX0_laugh := goodIn_r _ [16, 17, 18, 19, 20, 15, 21, 28, 29, 30, 31] (by decide +kernel) (by decide +kernel)
set_option maxRecDepth 20000 in
theorem gX1_leaversOf_X0_laugh : GoodIn wsX1_leaversOf (wsV RX1 33 RX0 yX0_laugh wsX0_laugh) := goodIn_app (goodIn_of _ (by decide +kernel)) ggX1_leaversOf_X0_laugh
theorem dX1_leaversOf_0 : decode cX1_leaversOf 0 = .ok (.aload_n 0, 1) := by decide +kernel
theorem dX1_leaversOf_1 : decode cX1_leaversOf 1 = .ok (.iload_n 1, 1) := by decide +kernel
theorem dX1_leaversOf_2 : decode cX1_leaversOf 2 = .ok (.invokevirtual 40, 3) := by decide +kernel
theorem dX1_leaversOf_5 : decode cX1_leaversOf 5 = .ok (.istore_n 2, 1) := by decide +kernel
theorem dX1_leaversOf_6 : decode cX1_leaversOf 6 = .ok (.iconst 0, 1) := by decide +kernel
theorem dX1_leaversOf_7 : decode cX1_leaversOf 7 = .ok (.istore_n 3, 1) := by decide +kernel
theorem dX1_leaversOf_8 : decode cX1_leaversOf 8 = .ok (.iconst 0, 1) := by decide +kernel
theorem dX1_leaversOf_9 : decode cX1_leaversOf 9 = .ok (.istore 4, 2) := by decide +kernel
theorem dX1_leaversOf_11 : decode cX1_leaversOf 11 = .ok (.iload 4, 2) := by decide +kernel
theorem dX1_leaversOf_13 : decode cX1_leaversOf 13 = .ok (.aload_n 0, 1) := by decide +kernel
theorem dX1_leaversOf_14 : decode cX1_leaversOf 14 = .ok (.getfield 22, 3) := by decide +kernel
theorem dX1_leaversOf_17 : decode cX1_leaversOf 17 = .ok (.if_icmp .ge 50, 3) := by decide +kernel
theorem dX1_leaversOf_20 : decode cX1_leaversOf 20 = .ok (.iload_n 1, 1) := by decide +kernel
theorem dX1_leaversOf_21 : decode cX1_leaversOf 21 = .ok (.iload 4, 2) := by decide +kernel
theorem dX1_leaversOf_23 : decode cX1_leaversOf 23 = .ok (.invokestatic 29, 3) := by decide +kernel
theorem dX1_leaversOf_26 : decode cX1_leaversOf 26 = .ok (.ifCond .eq 35, 3) := by decide +kernel
theorem dX1_leaversOf_29 : decode cX1_leaversOf 29 = .ok (.iload_n 2, 1) := by decide +kernel
theorem dX1_leaversOf_30 : decode cX1_leaversOf 30 = .ok (.aload_n 0, 1) := by decide +kernel
theorem dX1_leaversOf_31 : decode cX1_leaversOf 31 = .ok (.getfield 11, 3) := by decide +kernel
theorem dX1_leaversOf_34 : decode cX1_leaversOf 34 = .ok (.iload 4, 2) := by decide +kernel
theorem dX1_leaversOf_36 : decode cX1_leaversOf 36 = .ok (.aaload, 1) := by decide +kernel
theorem dX1_leaversOf_37 : decode cX1_leaversOf 37 = .ok (.invokevirtual 33, 3) := by decide +kernel
theorem dX1_leaversOf_40 : decode cX1_leaversOf 40 = .ok (.isub, 1) := by decide +kernel
theorem dX1_leaversOf_41 : decode cX1_leaversOf 41 = .ok (.aload_n 0, 1) := by decide +kernel
theorem dX1_leaversOf_42 : decode cX1_leaversOf 42 = .ok (.getfield 11, 3) := by decide +kernel
theorem dX1_leaversOf_45 : decode cX1_leaversOf 45 = .ok (.iload 4, 2) := by decide +kernel
theorem dX1_leaversOf_47 : decode cX1_leaversOf 47 = .ok (.aaload, 1) := by decide +kernel
theorem dX1_leaversOf_48 : decode cX1_leaversOf 48 = .ok (.getfield 51, 3) := by decide +kernel
theorem dX1_leaversOf_51 : decode cX1_leaversOf 51 = .ok (.if_icmp .ge 10, 3) := by decide +kernel
theorem dX1_leaversOf_54 : decode cX1_leaversOf 54 = .ok (.iload_n 3, 1) := by decide +kernel
theorem dX1_leaversOf_55 : decode cX1_leaversOf 55 = .ok (.iconst 1, 1) := by decide +kernel
theorem dX1_leaversOf_56 : decode cX1_leaversOf 56 = .ok (.iload 4, 2) := by decide +kernel
theorem dX1_leaversOf_58 : decode cX1_leaversOf 58 = .ok (.ishl, 1) := by decide +kernel
theorem dX1_leaversOf_59 : decode cX1_leaversOf 59 = .ok (.ior, 1) := by decide +kernel
theorem dX1_leaversOf_60 : decode cX1_leaversOf 60 = .ok (.istore_n 3, 1) := by decide +kernel
theorem dX1_leaversOf_61 : decode cX1_leaversOf 61 = .ok (.iinc 4 1, 3) := by decide +kernel
theorem dX1_leaversOf_64 : decode cX1_leaversOf 64 = .ok (.goto (-53), 3) := by decide +kernel
theorem dX1_leaversOf_67 : decode cX1_leaversOf 67 = .ok (.iload_n 3, 1) := by decide +kernel
theorem dX1_leaversOf_68 : decode cX1_leaversOf 68 = .ok (.ireturn, 1) := by decide +kernel
set_option maxRecDepth 20000 in
theorem ggX1_keepCompanyOf_X1_companyOf : GoodIn wsX1_keepCompanyOf wsX1_companyOf := goodIn_r _ [6, 7, 8, 9, 5, 10, 11, 12, 13, 14, 15, 16, 17, 18, 19, 20, 21, 22, 23, 24, 25, 26, 27, 28, 29, 30, 31, 32, 33, 34, 35, 36, 37, 38, 39, 40] (by decide +kernel) (by decide +kernel)
set_option maxRecDepth 20000 in
theorem gX1_keepCompanyOf_X1_companyOf : GoodIn wsX1_keepCompanyOf (wsV RX1 54 RX1 yX1_companyOf wsX1_companyOf) := goodIn_app (goodIn_of _ (by decide +kernel)) ggX1_keepCompanyOf_X1_companyOf
theorem dX1_keepCompanyOf_0 : decode cX1_keepCompanyOf 0 = .ok (.aload_n 0, 1) := by decide +kernel
theorem dX1_keepCompanyOf_1 : decode cX1_keepCompanyOf 1 = .ok (.aload_n 0, 1) := by decide +kernel
theorem dX1_keepCompanyOf_2 : decode cX1_keepCompanyOf 2 = .ok (.iload_n 1, 1) := by decide +kernel
theorem dX1_keepCompanyOf_3 : decode cX1_keepCompanyOf 3 = .ok (.invokevirtual 54, 3) := by decide +kernel
theorem dX1_keepCompanyOf_6 : decode cX1_keepCompanyOf 6 = .ok (.putfield 37, 3) := by decide +kernel
theorem dX1_keepCompanyOf_9 : decode cX1_keepCompanyOf 9 = .ok (.iload_n 1, 1) := by decide +kernel
theorem dX1_keepCompanyOf_10 : decode cX1_keepCompanyOf 10 = .ok (.aload_n 0, 1) := by decide +kernel
theorem dX1_keepCompanyOf_11 : decode cX1_keepCompanyOf 11 = .ok (.getfield 37, 3) := by decide +kernel
theorem dX1_keepCompanyOf_14 : decode cX1_keepCompanyOf 14 = .ok (.iconst (-1), 1) := by decide +kernel
theorem dX1_keepCompanyOf_15 : decode cX1_keepCompanyOf 15 = .ok (.ixor, 1) := by decide +kernel
theorem dX1_keepCompanyOf_16 : decode cX1_keepCompanyOf 16 = .ok (.iand, 1) := by decide +kernel
theorem dX1_keepCompanyOf_17 : decode cX1_keepCompanyOf 17 = .ok (.ireturn, 1) := by decide +kernel
set_option maxRecDepth 20000 in
theorem ggX1_fewestCalls_J6_bitCount_0f7a4 : GoodIn wsX1_fewestCalls wsJ6_bitCount_0f7a4 := goodIn_r _ [5, 6, 7, 8] (by decide +kernel) (by decide +kernel)
set_option maxRecDepth 20000 in
theorem gX1_fewestCalls_J6_bitCount_0f7a4 : GoodIn wsX1_fewestCalls (va_wsS RX1 57 yJ6_bitCount_0f7a4 wsJ6_bitCount_0f7a4) := goodIn_app (goodIn_of _ (by decide +kernel)) ggX1_fewestCalls_J6_bitCount_0f7a4
set_option maxRecDepth 20000 in
theorem ggX1_fewestCalls_X1_companyOf : GoodIn wsX1_fewestCalls wsX1_companyOf := goodIn_r _ [13, 14, 15, 16, 12, 17, 18, 19, 20, 21, 22, 23, 24, 25, 26, 27, 28, 29, 30, 31, 32, 33, 34, 35, 36, 37, 38, 39, 40, 41, 42, 43, 44, 45, 46, 47] (by decide +kernel) (by decide +kernel)
set_option maxRecDepth 20000 in
theorem gX1_fewestCalls_X1_companyOf : GoodIn wsX1_fewestCalls (wsV RX1 54 RX1 yX1_companyOf wsX1_companyOf) := goodIn_app (goodIn_of _ (by decide +kernel)) ggX1_fewestCalls_X1_companyOf
theorem dX1_fewestCalls_0 : decode cX1_fewestCalls 0 = .ok (.bipush (-9), 2) := by decide +kernel
theorem dX1_fewestCalls_2 : decode cX1_fewestCalls 2 = .ok (.istore_n 3, 1) := by decide +kernel
theorem dX1_fewestCalls_3 : decode cX1_fewestCalls 3 = .ok (.bipush 7, 2) := by decide +kernel
theorem dX1_fewestCalls_5 : decode cX1_fewestCalls 5 = .ok (.istore 4, 2) := by decide +kernel
theorem dX1_fewestCalls_7 : decode cX1_fewestCalls 7 = .ok (.iconst 0, 1) := by decide +kernel
theorem dX1_fewestCalls_8 : decode cX1_fewestCalls 8 = .ok (.istore 5, 2) := by decide +kernel
theorem dX1_fewestCalls_10 : decode cX1_fewestCalls 10 = .ok (.iload 5, 2) := by decide +kernel
theorem dX1_fewestCalls_12 : decode cX1_fewestCalls 12 = .ok (.iload_n 2, 1) := by decide +kernel
theorem dX1_fewestCalls_13 : decode cX1_fewestCalls 13 = .ok (.if_icmp .gt 68, 3) := by decide +kernel
theorem dX1_fewestCalls_16 : decode cX1_fewestCalls 16 = .ok (.iload 5, 2) := by decide +kernel
theorem dX1_fewestCalls_18 : decode cX1_fewestCalls 18 = .ok (.iload_n 2, 1) := by decide +kernel
theorem dX1_fewestCalls_19 : decode cX1_fewestCalls 19 = .ok (.iconst (-1), 1) := by decide +kernel
theorem dX1_fewestCalls_20 : decode cX1_fewestCalls 20 = .ok (.ixor, 1) := by decide +kernel
theorem dX1_fewestCalls_21 : decode cX1_fewestCalls 21 = .ok (.iand, 1) := by decide +kernel
theorem dX1_fewestCalls_22 : decode cX1_fewestCalls 22 = .ok (.ifCond .ne 17, 3) := by decide +kernel
theorem dX1_fewestCalls_25 : decode cX1_fewestCalls 25 = .ok (.iload 5, 2) := by decide +kernel
theorem dX1_fewestCalls_27 : decode cX1_fewestCalls 27 = .ok (.invokestatic 57, 3) := by decide +kernel
theorem dX1_fewestCalls_30 : decode cX1_fewestCalls 30 = .ok (.iload 4, 2) := by decide +kernel
theorem dX1_fewestCalls_32 : decode cX1_fewestCalls 32 = .ok (.if_icmp .ge 7, 3) := by decide +kernel
theorem dX1_fewestCalls_35 : decode cX1_fewestCalls 35 = .ok (.iconst 1, 1) := by decide +kernel
theorem dX1_fewestCalls_36 : decode cX1_fewestCalls 36 = .ok (.goto 4, 3) := by decide +kernel
theorem dX1_fewestCalls_39 : decode cX1_fewestCalls 39 = .ok (.iconst 0, 1) := by decide +kernel
theorem dX1_fewestCalls_40 : decode cX1_fewestCalls 40 = .ok (.istore 6, 2) := by decide +kernel
theorem dX1_fewestCalls_42 : decode cX1_fewestCalls 42 = .ok (.iload 6, 2) := by decide +kernel
theorem dX1_fewestCalls_44 : decode cX1_fewestCalls 44 = .ok (.ifCond .eq 31, 3) := by decide +kernel
theorem dX1_fewestCalls_47 : decode cX1_fewestCalls 47 = .ok (.aload_n 0, 1) := by decide +kernel
theorem dX1_fewestCalls_48 : decode cX1_fewestCalls 48 = .ok (.aload_n 0, 1) := by decide +kernel
theorem dX1_fewestCalls_49 : decode cX1_fewestCalls 49 = .ok (.getfield 37, 3) := by decide +kernel
theorem dX1_fewestCalls_52 : decode cX1_fewestCalls 52 = .ok (.iload 5, 2) := by decide +kernel
theorem dX1_fewestCalls_54 : decode cX1_fewestCalls 54 = .ok (.iconst (-1), 1) := by decide +kernel
theorem dX1_fewestCalls_55 : decode cX1_fewestCalls 55 = .ok (.ixor, 1) := by decide +kernel
theorem dX1_fewestCalls_56 : decode cX1_fewestCalls 56 = .ok (.iand, 1) := by decide +kernel
theorem dX1_fewestCalls_57 : decode cX1_fewestCalls 57 = .ok (.invokevirtual 54, 3) := by decide +kernel
theorem dX1_fewestCalls_60 : decode cX1_fewestCalls 60 = .ok (.iload_n 1, 1) := by decide +kernel
theorem dX1_fewestCalls_61 : decode cX1_fewestCalls 61 = .ok (.iand, 1) := by decide +kernel
theorem dX1_fewestCalls_62 : decode cX1_fewestCalls 62 = .ok (.ifCond .ne 13, 3) := by decide +kernel
theorem dX1_fewestCalls_65 : decode cX1_fewestCalls 65 = .ok (.iload 5, 2) := by decide +kernel
theorem dX1_fewestCalls_67 : decode cX1_fewestCalls 67 = .ok (.istore_n 3, 1) := by decide +kernel
theorem dX1_fewestCalls_68 : decode cX1_fewestCalls 68 = .ok (.iload 5, 2) := by decide +kernel
theorem dX1_fewestCalls_70 : decode cX1_fewestCalls 70 = .ok (.invokestatic 57, 3) := by decide +kernel
theorem dX1_fewestCalls_73 : decode cX1_fewestCalls 73 = .ok (.istore 4, 2) := by decide +kernel
theorem dX1_fewestCalls_75 : decode cX1_fewestCalls 75 = .ok (.iinc 5 1, 3) := by decide +kernel
theorem dX1_fewestCalls_78 : decode cX1_fewestCalls 78 = .ok (.goto (-68), 3) := by decide +kernel
theorem dX1_fewestCalls_81 : decode cX1_fewestCalls 81 = .ok (.iload_n 3, 1) := by decide +kernel
theorem dX1_fewestCalls_82 : decode cX1_fewestCalls 82 = .ok (.ireturn, 1) := by decide +kernel
set_option maxRecDepth 20000 in
theorem ggX1_setsThatLeave_X1_companyOf : GoodIn wsX1_setsThatLeave wsX1_companyOf := goodIn_r _ [6, 7, 8, 9, 5, 10, 11, 12, 13, 14, 15, 16, 17, 18, 19, 20, 21, 22, 23, 24, 25, 26, 27, 28, 29, 30, 31, 32, 33, 34, 35, 36, 37, 38, 39, 40] (by decide +kernel) (by decide +kernel)
set_option maxRecDepth 20000 in
theorem gX1_setsThatLeave_X1_companyOf : GoodIn wsX1_setsThatLeave (wsV RX1 54 RX1 yX1_companyOf wsX1_companyOf) := goodIn_app (goodIn_of _ (by decide +kernel)) ggX1_setsThatLeave_X1_companyOf
set_option maxRecDepth 20000 in
theorem ggX1_setsThatLeave_X7_has : GoodIn wsX1_setsThatLeave wsX7_has := goodIn_r _ [20] (by decide +kernel) (by decide +kernel)
set_option maxRecDepth 20000 in
theorem gX1_setsThatLeave_X7_has_n29 : GoodIn wsX1_setsThatLeave (wsX7_has) := ggX1_setsThatLeave_X7_has
theorem dX1_setsThatLeave_0 : decode cX1_setsThatLeave 0 = .ok (.iconst 0, 1) := by decide +kernel
theorem dX1_setsThatLeave_1 : decode cX1_setsThatLeave 1 = .ok (.istore_n 2, 1) := by decide +kernel
theorem dX1_setsThatLeave_2 : decode cX1_setsThatLeave 2 = .ok (.iconst 0, 1) := by decide +kernel
theorem dX1_setsThatLeave_3 : decode cX1_setsThatLeave 3 = .ok (.istore_n 3, 1) := by decide +kernel
theorem dX1_setsThatLeave_4 : decode cX1_setsThatLeave 4 = .ok (.iload_n 3, 1) := by decide +kernel
theorem dX1_setsThatLeave_5 : decode cX1_setsThatLeave 5 = .ok (.aload_n 0, 1) := by decide +kernel
theorem dX1_setsThatLeave_6 : decode cX1_setsThatLeave 6 = .ok (.getfield 37, 3) := by decide +kernel
theorem dX1_setsThatLeave_9 : decode cX1_setsThatLeave 9 = .ok (.if_icmp .gt 42, 3) := by decide +kernel
theorem dX1_setsThatLeave_12 : decode cX1_setsThatLeave 12 = .ok (.iload_n 3, 1) := by decide +kernel
theorem dX1_setsThatLeave_13 : decode cX1_setsThatLeave 13 = .ok (.aload_n 0, 1) := by decide +kernel
theorem dX1_setsThatLeave_14 : decode cX1_setsThatLeave 14 = .ok (.getfield 37, 3) := by decide +kernel
theorem dX1_setsThatLeave_17 : decode cX1_setsThatLeave 17 = .ok (.iconst (-1), 1) := by decide +kernel
theorem dX1_setsThatLeave_18 : decode cX1_setsThatLeave 18 = .ok (.ixor, 1) := by decide +kernel
theorem dX1_setsThatLeave_19 : decode cX1_setsThatLeave 19 = .ok (.iand, 1) := by decide +kernel
theorem dX1_setsThatLeave_20 : decode cX1_setsThatLeave 20 = .ok (.ifCond .ne 25, 3) := by decide +kernel
theorem dX1_setsThatLeave_23 : decode cX1_setsThatLeave 23 = .ok (.aload_n 0, 1) := by decide +kernel
theorem dX1_setsThatLeave_24 : decode cX1_setsThatLeave 24 = .ok (.aload_n 0, 1) := by decide +kernel
theorem dX1_setsThatLeave_25 : decode cX1_setsThatLeave 25 = .ok (.getfield 37, 3) := by decide +kernel
theorem dX1_setsThatLeave_28 : decode cX1_setsThatLeave 28 = .ok (.iload_n 3, 1) := by decide +kernel
theorem dX1_setsThatLeave_29 : decode cX1_setsThatLeave 29 = .ok (.iconst (-1), 1) := by decide +kernel
theorem dX1_setsThatLeave_30 : decode cX1_setsThatLeave 30 = .ok (.ixor, 1) := by decide +kernel
theorem dX1_setsThatLeave_31 : decode cX1_setsThatLeave 31 = .ok (.iand, 1) := by decide +kernel
theorem dX1_setsThatLeave_32 : decode cX1_setsThatLeave 32 = .ok (.invokevirtual 54, 3) := by decide +kernel
theorem dX1_setsThatLeave_35 : decode cX1_setsThatLeave 35 = .ok (.iload_n 1, 1) := by decide +kernel
theorem dX1_setsThatLeave_36 : decode cX1_setsThatLeave 36 = .ok (.invokestatic 29, 3) := by decide +kernel
theorem dX1_setsThatLeave_39 : decode cX1_setsThatLeave 39 = .ok (.ifCond .eq 6, 3) := by decide +kernel
theorem dX1_setsThatLeave_42 : decode cX1_setsThatLeave 42 = .ok (.iinc 2 1, 3) := by decide +kernel
theorem dX1_setsThatLeave_45 : decode cX1_setsThatLeave 45 = .ok (.iinc 3 1, 3) := by decide +kernel
theorem dX1_setsThatLeave_48 : decode cX1_setsThatLeave 48 = .ok (.goto (-44), 3) := by decide +kernel
theorem dX1_setsThatLeave_51 : decode cX1_setsThatLeave 51 = .ok (.iload_n 2, 1) := by decide +kernel
theorem dX1_setsThatLeave_52 : decode cX1_setsThatLeave 52 = .ok (.ireturn, 1) := by decide +kernel
theorem dX2_init_0 : decode cX2_init 0 = .ok (.aload_n 0, 1) := by decide +kernel
theorem dX2_init_1 : decode cX2_init 1 = .ok (.invokespecial 3, 3) := by decide +kernel
theorem dX2_init_4 : decode cX2_init 4 = .ok (.aload_n 0, 1) := by decide +kernel
theorem dX2_init_5 : decode cX2_init 5 = .ok (.aload_n 1, 1) := by decide +kernel
theorem dX2_init_6 : decode cX2_init 6 = .ok (.putfield 9, 3) := by decide +kernel
theorem dX2_init_9 : decode cX2_init 9 = .ok (.aload_n 0, 1) := by decide +kernel
theorem dX2_init_10 : decode cX2_init 10 = .ok (.iconst 4, 1) := by decide +kernel
theorem dX2_init_11 : decode cX2_init 11 = .ok (.newarray .int, 2) := by decide +kernel
theorem dX2_init_13 : decode cX2_init 13 = .ok (.putfield 15, 3) := by decide +kernel
theorem dX2_init_16 : decode cX2_init 16 = .ok (.aload_n 0, 1) := by decide +kernel
theorem dX2_init_17 : decode cX2_init 17 = .ok (.bipush 6, 2) := by decide +kernel
theorem dX2_init_19 : decode cX2_init 19 = .ok (.newarray .int, 2) := by decide +kernel
theorem dX2_init_21 : decode cX2_init 21 = .ok (.putfield 19, 3) := by decide +kernel
theorem dX2_init_24 : decode cX2_init 24 = .ok (.aload_n 0, 1) := by decide +kernel
theorem dX2_init_25 : decode cX2_init 25 = .ok (.bipush 6, 2) := by decide +kernel
theorem dX2_init_27 : decode cX2_init 27 = .ok (.newarray .int, 2) := by decide +kernel
theorem dX2_init_29 : decode cX2_init 29 = .ok (.putfield 22, 3) := by decide +kernel
theorem dX2_init_32 : decode cX2_init 32 = .ok (.return_, 1) := by decide +kernel
set_option maxRecDepth 20000 in
theorem ggX2_pack_X2_placeFrom : GoodIn wsX2_pack wsX2_placeFrom := goodIn_r _ [9, 10, 11, 12, 13, 2, 14, 3, 15, 16, 17, 18, 19, 20, 21, 22, 23, 8, 24, 1, 4, 25, 26, 27, 5, 6, 7, 28, 29, 30, 31, 32, 33, 34, 35, 36, 37, 38, 39, 40, 41, 42] (by decide +kernel) (by decide +kernel)
set_option maxRecDepth 20000 in
theorem gX2_pack_X2_placeFrom : GoodIn wsX2_pack (wsV RX2 29 RX2 yX2_placeFrom wsX2_placeFrom) := goodIn_app (goodIn_of _ (by decide +kernel)) ggX2_pack_X2_placeFrom
theorem dX2_pack_0 : decode cX2_pack 0 = .ok (.aload_n 0, 1) := by decide +kernel
theorem dX2_pack_1 : decode cX2_pack 1 = .ok (.iconst 0, 1) := by decide +kernel
theorem dX2_pack_2 : decode cX2_pack 2 = .ok (.putfield 25, 3) := by decide +kernel
theorem dX2_pack_5 : decode cX2_pack 5 = .ok (.iconst 0, 1) := by decide +kernel
theorem dX2_pack_6 : decode cX2_pack 6 = .ok (.istore_n 2, 1) := by decide +kernel
theorem dX2_pack_7 : decode cX2_pack 7 = .ok (.iload_n 2, 1) := by decide +kernel
theorem dX2_pack_8 : decode cX2_pack 8 = .ok (.iconst 4, 1) := by decide +kernel
theorem dX2_pack_9 : decode cX2_pack 9 = .ok (.if_icmp .ge 16, 3) := by decide +kernel
theorem dX2_pack_12 : decode cX2_pack 12 = .ok (.aload_n 0, 1) := by decide +kernel
theorem dX2_pack_13 : decode cX2_pack 13 = .ok (.getfield 15, 3) := by decide +kernel
theorem dX2_pack_16 : decode cX2_pack 16 = .ok (.iload_n 2, 1) := by decide +kernel
theorem dX2_pack_17 : decode cX2_pack 17 = .ok (.iconst 0, 1) := by decide +kernel
theorem dX2_pack_18 : decode cX2_pack 18 = .ok (.iastore, 1) := by decide +kernel
theorem dX2_pack_19 : decode cX2_pack 19 = .ok (.iinc 2 1, 3) := by decide +kernel
theorem dX2_pack_22 : decode cX2_pack 22 = .ok (.goto (-15), 3) := by decide +kernel
theorem dX2_pack_25 : decode cX2_pack 25 = .ok (.iconst 0, 1) := by decide +kernel
theorem dX2_pack_26 : decode cX2_pack 26 = .ok (.istore_n 2, 1) := by decide +kernel
theorem dX2_pack_27 : decode cX2_pack 27 = .ok (.iload_n 2, 1) := by decide +kernel
theorem dX2_pack_28 : decode cX2_pack 28 = .ok (.bipush 6, 2) := by decide +kernel
theorem dX2_pack_30 : decode cX2_pack 30 = .ok (.if_icmp .ge 25, 3) := by decide +kernel
theorem dX2_pack_33 : decode cX2_pack 33 = .ok (.aload_n 0, 1) := by decide +kernel
theorem dX2_pack_34 : decode cX2_pack 34 = .ok (.getfield 19, 3) := by decide +kernel
theorem dX2_pack_37 : decode cX2_pack 37 = .ok (.iload_n 2, 1) := by decide +kernel
theorem dX2_pack_38 : decode cX2_pack 38 = .ok (.bipush (-9), 2) := by decide +kernel
theorem dX2_pack_40 : decode cX2_pack 40 = .ok (.iastore, 1) := by decide +kernel
theorem dX2_pack_41 : decode cX2_pack 41 = .ok (.aload_n 0, 1) := by decide +kernel
theorem dX2_pack_42 : decode cX2_pack 42 = .ok (.getfield 22, 3) := by decide +kernel
theorem dX2_pack_45 : decode cX2_pack 45 = .ok (.iload_n 2, 1) := by decide +kernel
theorem dX2_pack_46 : decode cX2_pack 46 = .ok (.bipush (-9), 2) := by decide +kernel
theorem dX2_pack_48 : decode cX2_pack 48 = .ok (.iastore, 1) := by decide +kernel
theorem dX2_pack_49 : decode cX2_pack 49 = .ok (.iinc 2 1, 3) := by decide +kernel
theorem dX2_pack_52 : decode cX2_pack 52 = .ok (.goto (-25), 3) := by decide +kernel
theorem dX2_pack_55 : decode cX2_pack 55 = .ok (.aload_n 0, 1) := by decide +kernel
theorem dX2_pack_56 : decode cX2_pack 56 = .ok (.iconst 0, 1) := by decide +kernel
theorem dX2_pack_57 : decode cX2_pack 57 = .ok (.iload_n 1, 1) := by decide +kernel
theorem dX2_pack_58 : decode cX2_pack 58 = .ok (.invokevirtual 29, 3) := by decide +kernel
theorem dX2_pack_61 : decode cX2_pack 61 = .ok (.return_, 1) := by decide +kernel
set_option maxRecDepth 20000 in
theorem ggX2_placeFrom_X1_isArticle : GoodIn wsX2_placeFrom wsX1_isArticle := goodIn_r _ [12, 13, 32, 33, 34, 35, 36, 37] (by decide +kernel) (by decide +kernel)
set_option maxRecDepth 20000 in
theorem gX2_placeFrom_X1_isArticle : GoodIn wsX2_placeFrom (wsV RX2 33 RX1 yX1_isArticle wsX1_isArticle) := goodIn_app (goodIn_of _ (by decide +kernel)) ggX2_placeFrom_X1_isArticle
set_option maxRecDepth 20000 in
theorem ggX2_placeFrom_X2_countWay : GoodIn wsX2_placeFrom wsX2_countWay := goodIn_r _ [18, 19, 20, 7, 27, 28, 29, 30, 31] (by decide +kernel) (by decide +kernel)
set_option maxRecDepth 20000 in
theorem gX2_placeFrom_X2_countWay : GoodIn wsX2_placeFrom (wsV RX2 39 RX2 yX2_countWay wsX2_countWay) := goodIn_app (goodIn_of _ (by decide +kernel)) ggX2_placeFrom_X2_countWay
set_option maxRecDepth 20000 in
theorem ggX2_placeFrom_X7_has : GoodIn wsX2_placeFrom wsX7_has := goodIn_r _ [23] (by decide +kernel) (by decide +kernel)
set_option maxRecDepth 20000 in
theorem gX2_placeFrom_X7_has_n42 : GoodIn wsX2_placeFrom (wsX7_has) := ggX2_placeFrom_X7_has
set_option maxRecDepth 20000 in
theorem ggX2_placeFrom_X2_placeFrom : GoodIn wsX2_placeFrom wsX2_placeFrom := goodIn_r _ [0, 1, 2, 3, 4, 5, 6, 7, 8, 9, 10, 11, 12, 13, 14, 15, 16, 17, 18, 19, 20, 21, 22, 23, 24, 25, 26, 27, 28, 29, 30, 31, 32, 33, 34, 35, 36, 37, 38, 39, 40, 41] (by decide +kernel) (by decide +kernel)
set_option maxRecDepth 20000 in
theorem gX2_placeFrom_X2_placeFrom : GoodIn wsX2_placeFrom (wsV RX2 29 RX2 yX2_placeFrom wsX2_placeFrom) := goodIn_app (goodIn_of _ (by decide +kernel)) ggX2_placeFrom_X2_placeFrom
theorem dX2_placeFrom_0 : decode cX2_placeFrom 0 = .ok (.aload_n 0, 1) := by decide +kernel
theorem dX2_placeFrom_1 : decode cX2_placeFrom 1 = .ok (.getfield 9, 3) := by decide +kernel
theorem dX2_placeFrom_4 : decode cX2_placeFrom 4 = .ok (.iload_n 1, 1) := by decide +kernel
theorem dX2_placeFrom_5 : decode cX2_placeFrom 5 = .ok (.invokevirtual 33, 3) := by decide +kernel
theorem dX2_placeFrom_8 : decode cX2_placeFrom 8 = .ok (.ifCond .ne 8, 3) := by decide +kernel
theorem dX2_placeFrom_11 : decode cX2_placeFrom 11 = .ok (.aload_n 0, 1) := by decide +kernel
theorem dX2_placeFrom_12 : decode cX2_placeFrom 12 = .ok (.invokevirtual 39, 3) := by decide +kernel
theorem dX2_placeFrom_15 : decode cX2_placeFrom 15 = .ok (.return_, 1) := by decide +kernel
theorem dX2_placeFrom_16 : decode cX2_placeFrom 16 = .ok (.iload_n 2, 1) := by decide +kernel
theorem dX2_placeFrom_17 : decode cX2_placeFrom 17 = .ok (.iload_n 1, 1) := by decide +kernel
theorem dX2_placeFrom_18 : decode cX2_placeFrom 18 = .ok (.invokestatic 42, 3) := by decide +kernel
theorem dX2_placeFrom_21 : decode cX2_placeFrom 21 = .ok (.ifCond .ne 12, 3) := by decide +kernel
theorem dX2_placeFrom_24 : decode cX2_placeFrom 24 = .ok (.aload_n 0, 1) := by decide +kernel
theorem dX2_placeFrom_25 : decode cX2_placeFrom 25 = .ok (.iload_n 1, 1) := by decide +kernel
theorem dX2_placeFrom_26 : decode cX2_placeFrom 26 = .ok (.iconst 1, 1) := by decide +kernel
theorem dX2_placeFrom_27 : decode cX2_placeFrom 27 = .ok (.iadd, 1) := by decide +kernel
theorem dX2_placeFrom_28 : decode cX2_placeFrom 28 = .ok (.iload_n 2, 1) := by decide +kernel
theorem dX2_placeFrom_29 : decode cX2_placeFrom 29 = .ok (.invokevirtual 29, 3) := by decide +kernel
theorem dX2_placeFrom_32 : decode cX2_placeFrom 32 = .ok (.return_, 1) := by decide +kernel
theorem dX2_placeFrom_33 : decode cX2_placeFrom 33 = .ok (.aload_n 0, 1) := by decide +kernel
theorem dX2_placeFrom_34 : decode cX2_placeFrom 34 = .ok (.getfield 9, 3) := by decide +kernel
theorem dX2_placeFrom_37 : decode cX2_placeFrom 37 = .ok (.getfield 46, 3) := by decide +kernel
theorem dX2_placeFrom_40 : decode cX2_placeFrom 40 = .ok (.iload_n 1, 1) := by decide +kernel
theorem dX2_placeFrom_41 : decode cX2_placeFrom 41 = .ok (.aaload, 1) := by decide +kernel
theorem dX2_placeFrom_42 : decode cX2_placeFrom 42 = .ok (.getfield 50, 3) := by decide +kernel
theorem dX2_placeFrom_45 : decode cX2_placeFrom 45 = .ok (.istore_n 3, 1) := by decide +kernel
theorem dX2_placeFrom_46 : decode cX2_placeFrom 46 = .ok (.iconst 0, 1) := by decide +kernel
theorem dX2_placeFrom_47 : decode cX2_placeFrom 47 = .ok (.istore 4, 2) := by decide +kernel
theorem dX2_placeFrom_49 : decode cX2_placeFrom 49 = .ok (.iload 4, 2) := by decide +kernel
theorem dX2_placeFrom_51 : decode cX2_placeFrom 51 = .ok (.aload_n 0, 1) := by decide +kernel
theorem dX2_placeFrom_52 : decode cX2_placeFrom 52 = .ok (.getfield 9, 3) := by decide +kernel
theorem dX2_placeFrom_55 : decode cX2_placeFrom 55 = .ok (.getfield 55, 3) := by decide +kernel
theorem dX2_placeFrom_58 : decode cX2_placeFrom 58 = .ok (.if_icmp .ge 69, 3) := by decide +kernel
theorem dX2_placeFrom_61 : decode cX2_placeFrom 61 = .ok (.aload_n 0, 1) := by decide +kernel
theorem dX2_placeFrom_62 : decode cX2_placeFrom 62 = .ok (.getfield 15, 3) := by decide +kernel
theorem dX2_placeFrom_65 : decode cX2_placeFrom 65 = .ok (.iload 4, 2) := by decide +kernel
theorem dX2_placeFrom_67 : decode cX2_placeFrom 67 = .ok (.iaload, 1) := by decide +kernel
theorem dX2_placeFrom_68 : decode cX2_placeFrom 68 = .ok (.iload_n 3, 1) := by decide +kernel
theorem dX2_placeFrom_69 : decode cX2_placeFrom 69 = .ok (.iadd, 1) := by decide +kernel
theorem dX2_placeFrom_70 : decode cX2_placeFrom 70 = .ok (.aload_n 0, 1) := by decide +kernel
theorem dX2_placeFrom_71 : decode cX2_placeFrom 71 = .ok (.getfield 9, 3) := by decide +kernel
theorem dX2_placeFrom_74 : decode cX2_placeFrom 74 = .ok (.getfield 58, 3) := by decide +kernel
theorem dX2_placeFrom_77 : decode cX2_placeFrom 77 = .ok (.iload 4, 2) := by decide +kernel
theorem dX2_placeFrom_79 : decode cX2_placeFrom 79 = .ok (.iaload, 1) := by decide +kernel
theorem dX2_placeFrom_80 : decode cX2_placeFrom 80 = .ok (.if_icmp .gt 41, 3) := by decide +kernel
theorem dX2_placeFrom_83 : decode cX2_placeFrom 83 = .ok (.aload_n 0, 1) := by decide +kernel
theorem dX2_placeFrom_84 : decode cX2_placeFrom 84 = .ok (.getfield 15, 3) := by decide +kernel
theorem dX2_placeFrom_87 : decode cX2_placeFrom 87 = .ok (.iload 4, 2) := by decide +kernel
theorem dX2_placeFrom_89 : decode cX2_placeFrom 89 = .ok (.dup2, 1) := by decide +kernel
theorem dX2_placeFrom_90 : decode cX2_placeFrom 90 = .ok (.iaload, 1) := by decide +kernel
theorem dX2_placeFrom_91 : decode cX2_placeFrom 91 = .ok (.iload_n 3, 1) := by decide +kernel
theorem dX2_placeFrom_92 : decode cX2_placeFrom 92 = .ok (.iadd, 1) := by decide +kernel
theorem dX2_placeFrom_93 : decode cX2_placeFrom 93 = .ok (.iastore, 1) := by decide +kernel
theorem dX2_placeFrom_94 : decode cX2_placeFrom 94 = .ok (.aload_n 0, 1) := by decide +kernel
theorem dX2_placeFrom_95 : decode cX2_placeFrom 95 = .ok (.getfield 19, 3) := by decide +kernel
theorem dX2_placeFrom_98 : decode cX2_placeFrom 98 = .ok (.iload_n 1, 1) := by decide +kernel
theorem dX2_placeFrom_99 : decode cX2_placeFrom 99 = .ok (.iload 4, 2) := by decide +kernel
theorem dX2_placeFrom_101 : decode cX2_placeFrom 101 = .ok (.iastore, 1) := by decide +kernel
theorem dX2_placeFrom_102 : decode cX2_placeFrom 102 = .ok (.aload_n 0, 1) := by decide +kernel
theorem dX2_placeFrom_103 : decode cX2_placeFrom 103 = .ok (.iload_n 1, 1) := by decide +kernel
theorem dX2_placeFrom_104 : decode cX2_placeFrom 104 = .ok (.iconst 1, 1) := by decide +kernel
theorem dX2_placeFrom_105 : decode cX2_placeFrom 105 = .ok (.iadd, 1) := by decide +kernel
theorem dX2_placeFrom_106 : decode cX2_placeFrom 106 = .ok (.iload_n 2, 1) := by decide +kernel
theorem dX2_placeFrom_107 : decode cX2_placeFrom 107 = .ok (.invokevirtual 29, 3) := by decide +kernel
theorem dX2_placeFrom_110 : decode cX2_placeFrom 110 = .ok (.aload_n 0, 1) := by decide +kernel
theorem dX2_placeFrom_111 : decode cX2_placeFrom 111 = .ok (.getfield 15, 3) := by decide +kernel
theorem dX2_placeFrom_114 : decode cX2_placeFrom 114 = .ok (.iload 4, 2) := by decide +kernel
theorem dX2_placeFrom_116 : decode cX2_placeFrom 116 = .ok (.dup2, 1) := by decide +kernel
theorem dX2_placeFrom_117 : decode cX2_placeFrom 117 = .ok (.iaload, 1) := by decide +kernel
theorem dX2_placeFrom_118 : decode cX2_placeFrom 118 = .ok (.iload_n 3, 1) := by decide +kernel
theorem dX2_placeFrom_119 : decode cX2_placeFrom 119 = .ok (.isub, 1) := by decide +kernel
theorem dX2_placeFrom_120 : decode cX2_placeFrom 120 = .ok (.iastore, 1) := by decide +kernel
theorem dX2_placeFrom_121 : decode cX2_placeFrom 121 = .ok (.iinc 4 1, 3) := by decide +kernel
theorem dX2_placeFrom_124 : decode cX2_placeFrom 124 = .ok (.goto (-75), 3) := by decide +kernel
theorem dX2_placeFrom_127 : decode cX2_placeFrom 127 = .ok (.return_, 1) := by decide +kernel
theorem dX2_countWay_0 : decode cX2_countWay 0 = .ok (.aload_n 0, 1) := by decide +kernel
theorem dX2_countWay_1 : decode cX2_countWay 1 = .ok (.getfield 25, 3) := by decide +kernel
theorem dX2_countWay_4 : decode cX2_countWay 4 = .ok (.ifCond .ne 29, 3) := by decide +kernel
theorem dX2_countWay_7 : decode cX2_countWay 7 = .ok (.iconst 0, 1) := by decide +kernel
theorem dX2_countWay_8 : decode cX2_countWay 8 = .ok (.istore_n 1, 1) := by decide +kernel
theorem dX2_countWay_9 : decode cX2_countWay 9 = .ok (.iload_n 1, 1) := by decide +kernel
theorem dX2_countWay_10 : decode cX2_countWay 10 = .ok (.bipush 6, 2) := by decide +kernel
theorem dX2_countWay_12 : decode cX2_countWay 12 = .ok (.if_icmp .ge 21, 3) := by decide +kernel
theorem dX2_countWay_15 : decode cX2_countWay 15 = .ok (.aload_n 0, 1) := by decide +kernel
theorem dX2_countWay_16 : decode cX2_countWay 16 = .ok (.getfield 22, 3) := by decide +kernel
theorem dX2_countWay_19 : decode cX2_countWay 19 = .ok (.iload_n 1, 1) := by decide +kernel
theorem dX2_countWay_20 : decode cX2_countWay 20 = .ok (.aload_n 0, 1) := by decide +kernel
theorem dX2_countWay_21 : decode cX2_countWay 21 = .ok (.getfield 19, 3) := by decide +kernel
theorem dX2_countWay_24 : decode cX2_countWay 24 = .ok (.iload_n 1, 1) := by decide +kernel
theorem dX2_countWay_25 : decode cX2_countWay 25 = .ok (.iaload, 1) := by decide +kernel
theorem dX2_countWay_26 : decode cX2_countWay 26 = .ok (.iastore, 1) := by decide +kernel
theorem dX2_countWay_27 : decode cX2_countWay 27 = .ok (.iinc 1 1, 3) := by decide +kernel
theorem dX2_countWay_30 : decode cX2_countWay 30 = .ok (.goto (-21), 3) := by decide +kernel
theorem dX2_countWay_33 : decode cX2_countWay 33 = .ok (.aload_n 0, 1) := by decide +kernel
theorem dX2_countWay_34 : decode cX2_countWay 34 = .ok (.dup, 1) := by decide +kernel
theorem dX2_countWay_35 : decode cX2_countWay 35 = .ok (.getfield 25, 3) := by decide +kernel
theorem dX2_countWay_38 : decode cX2_countWay 38 = .ok (.iconst 1, 1) := by decide +kernel
theorem dX2_countWay_39 : decode cX2_countWay 39 = .ok (.iadd, 1) := by decide +kernel
theorem dX2_countWay_40 : decode cX2_countWay 40 = .ok (.putfield 25, 3) := by decide +kernel
theorem dX2_countWay_43 : decode cX2_countWay 43 = .ok (.return_, 1) := by decide +kernel
theorem dX3_init_0 : decode cX3_init 0 = .ok (.aload_n 0, 1) := by decide +kernel
theorem dX3_init_1 : decode cX3_init 1 = .ok (.invokespecial 3, 3) := by decide +kernel
theorem dX3_init_4 : decode cX3_init 4 = .ok (.aload_n 0, 1) := by decide +kernel
theorem dX3_init_5 : decode cX3_init 5 = .ok (.bipush 8, 2) := by decide +kernel
theorem dX3_init_7 : decode cX3_init 7 = .ok (.newarray .int, 2) := by decide +kernel
theorem dX3_init_9 : decode cX3_init 9 = .ok (.putfield 9, 3) := by decide +kernel
theorem dX3_init_12 : decode cX3_init 12 = .ok (.aload_n 0, 1) := by decide +kernel
theorem dX3_init_13 : decode cX3_init 13 = .ok (.bipush 8, 2) := by decide +kernel
theorem dX3_init_15 : decode cX3_init 15 = .ok (.newarray .int, 2) := by decide +kernel
theorem dX3_init_17 : decode cX3_init 17 = .ok (.putfield 15, 3) := by decide +kernel
theorem dX3_init_20 : decode cX3_init 20 = .ok (.return_, 1) := by decide +kernel
theorem dX3_add_0 : decode cX3_add 0 = .ok (.aload_n 0, 1) := by decide +kernel
theorem dX3_add_1 : decode cX3_add 1 = .ok (.getfield 18, 3) := by decide +kernel
theorem dX3_add_4 : decode cX3_add 4 = .ok (.bipush 8, 2) := by decide +kernel
theorem dX3_add_6 : decode cX3_add 6 = .ok (.if_icmp .lt 6, 3) := by decide +kernel
theorem dX3_add_9 : decode cX3_add 9 = .ok (.bipush (-4), 2) := by decide +kernel
theorem dX3_add_11 : decode cX3_add 11 = .ok (.ireturn, 1) := by decide +kernel
theorem dX3_add_12 : decode cX3_add 12 = .ok (.aload_n 0, 1) := by decide +kernel
theorem dX3_add_13 : decode cX3_add 13 = .ok (.getfield 9, 3) := by decide +kernel
theorem dX3_add_16 : decode cX3_add 16 = .ok (.aload_n 0, 1) := by decide +kernel
theorem dX3_add_17 : decode cX3_add 17 = .ok (.getfield 18, 3) := by decide +kernel
theorem dX3_add_20 : decode cX3_add 20 = .ok (.iload_n 1, 1) := by decide +kernel
theorem dX3_add_21 : decode cX3_add 21 = .ok (.iastore, 1) := by decide +kernel
theorem dX3_add_22 : decode cX3_add 22 = .ok (.aload_n 0, 1) := by decide +kernel
theorem dX3_add_23 : decode cX3_add 23 = .ok (.getfield 15, 3) := by decide +kernel
theorem dX3_add_26 : decode cX3_add 26 = .ok (.aload_n 0, 1) := by decide +kernel
theorem dX3_add_27 : decode cX3_add 27 = .ok (.getfield 18, 3) := by decide +kernel
theorem dX3_add_30 : decode cX3_add 30 = .ok (.iload_n 2, 1) := by decide +kernel
theorem dX3_add_31 : decode cX3_add 31 = .ok (.iastore, 1) := by decide +kernel
theorem dX3_add_32 : decode cX3_add 32 = .ok (.aload_n 0, 1) := by decide +kernel
theorem dX3_add_33 : decode cX3_add 33 = .ok (.dup, 1) := by decide +kernel
theorem dX3_add_34 : decode cX3_add 34 = .ok (.getfield 18, 3) := by decide +kernel
theorem dX3_add_37 : decode cX3_add 37 = .ok (.iconst 1, 1) := by decide +kernel
theorem dX3_add_38 : decode cX3_add 38 = .ok (.iadd, 1) := by decide +kernel
theorem dX3_add_39 : decode cX3_add 39 = .ok (.putfield 18, 3) := by decide +kernel
theorem dX3_add_42 : decode cX3_add 42 = .ok (.aload_n 0, 1) := by decide +kernel
theorem dX3_add_43 : decode cX3_add 43 = .ok (.getfield 18, 3) := by decide +kernel
theorem dX3_add_46 : decode cX3_add 46 = .ok (.iconst 1, 1) := by decide +kernel
theorem dX3_add_47 : decode cX3_add 47 = .ok (.isub, 1) := by decide +kernel
theorem dX3_add_48 : decode cX3_add 48 = .ok (.ireturn, 1) := by decide +kernel
set_option maxRecDepth 20000 in
theorem ggX3_allAreSo_X7_carried : GoodIn wsX3_allAreSo wsX7_carried := goodIn_r _ [6, 7, 8, 9, 10, 11, 12, 13] (by decide +kernel) (by decide +kernel)
set_option maxRecDepth 20000 in
theorem gX3_allAreSo_X7_carried_n22 : GoodIn wsX3_allAreSo (wsX7_carried) := ggX3_allAreSo_X7_carried
theorem dX3_allAreSo_0 : decode cX3_allAreSo 0 = .ok (.iconst 0, 1) := by decide +kernel
theorem dX3_allAreSo_1 : decode cX3_allAreSo 1 = .ok (.istore_n 3, 1) := by decide +kernel
theorem dX3_allAreSo_2 : decode cX3_allAreSo 2 = .ok (.iload_n 3, 1) := by decide +kernel
theorem dX3_allAreSo_3 : decode cX3_allAreSo 3 = .ok (.aload_n 0, 1) := by decide +kernel
theorem dX3_allAreSo_4 : decode cX3_allAreSo 4 = .ok (.getfield 18, 3) := by decide +kernel
theorem dX3_allAreSo_7 : decode cX3_allAreSo 7 = .ok (.if_icmp .ge 31, 3) := by decide +kernel
theorem dX3_allAreSo_10 : decode cX3_allAreSo 10 = .ok (.iload_n 2, 1) := by decide +kernel
theorem dX3_allAreSo_11 : decode cX3_allAreSo 11 = .ok (.iload_n 1, 1) := by decide +kernel
theorem dX3_allAreSo_12 : decode cX3_allAreSo 12 = .ok (.aload_n 0, 1) := by decide +kernel
theorem dX3_allAreSo_13 : decode cX3_allAreSo 13 = .ok (.getfield 9, 3) := by decide +kernel
theorem dX3_allAreSo_16 : decode cX3_allAreSo 16 = .ok (.iload_n 3, 1) := by decide +kernel
theorem dX3_allAreSo_17 : decode cX3_allAreSo 17 = .ok (.iaload, 1) := by decide +kernel
theorem dX3_allAreSo_18 : decode cX3_allAreSo 18 = .ok (.invokestatic 22, 3) := by decide +kernel
theorem dX3_allAreSo_21 : decode cX3_allAreSo 21 = .ok (.aload_n 0, 1) := by decide +kernel
theorem dX3_allAreSo_22 : decode cX3_allAreSo 22 = .ok (.getfield 15, 3) := by decide +kernel
theorem dX3_allAreSo_25 : decode cX3_allAreSo 25 = .ok (.iload_n 3, 1) := by decide +kernel
theorem dX3_allAreSo_26 : decode cX3_allAreSo 26 = .ok (.iaload, 1) := by decide +kernel
theorem dX3_allAreSo_27 : decode cX3_allAreSo 27 = .ok (.if_icmp .eq 5, 3) := by decide +kernel
theorem dX3_allAreSo_30 : decode cX3_allAreSo 30 = .ok (.iconst 0, 1) := by decide +kernel
theorem dX3_allAreSo_31 : decode cX3_allAreSo 31 = .ok (.ireturn, 1) := by decide +kernel
theorem dX3_allAreSo_32 : decode cX3_allAreSo 32 = .ok (.iinc 3 1, 3) := by decide +kernel
theorem dX3_allAreSo_35 : decode cX3_allAreSo 35 = .ok (.goto (-33), 3) := by decide +kernel
theorem dX3_allAreSo_38 : decode cX3_allAreSo 38 = .ok (.iconst 1, 1) := by decide +kernel
theorem dX3_allAreSo_39 : decode cX3_allAreSo 39 = .ok (.ireturn, 1) := by decide +kernel
theorem dX4_init_0 : decode cX4_init 0 = .ok (.aload_n 0, 1) := by decide +kernel
theorem dX4_init_1 : decode cX4_init 1 = .ok (.invokespecial 3, 3) := by decide +kernel
theorem dX4_init_4 : decode cX4_init 4 = .ok (.aload_n 0, 1) := by decide +kernel
theorem dX4_init_5 : decode cX4_init 5 = .ok (.bipush 60, 2) := by decide +kernel
theorem dX4_init_7 : decode cX4_init 7 = .ok (.newarray .int, 2) := by decide +kernel
theorem dX4_init_9 : decode cX4_init 9 = .ok (.putfield 9, 3) := by decide +kernel
theorem dX4_init_12 : decode cX4_init 12 = .ok (.aload_n 0, 1) := by decide +kernel
theorem dX4_init_13 : decode cX4_init 13 = .ok (.iconst (-1), 1) := by decide +kernel
theorem dX4_init_14 : decode cX4_init 14 = .ok (.putfield 15, 3) := by decide +kernel
theorem dX4_init_17 : decode cX4_init 17 = .ok (.aload_n 0, 1) := by decide +kernel
theorem dX4_init_18 : decode cX4_init 18 = .ok (.iconst 0, 1) := by decide +kernel
theorem dX4_init_19 : decode cX4_init 19 = .ok (.putfield 19, 3) := by decide +kernel
theorem dX4_init_22 : decode cX4_init 22 = .ok (.return_, 1) := by decide +kernel
theorem dX4_hasNothing_0 : decode cX4_hasNothing 0 = .ok (.aload_n 0, 1) := by decide +kernel
theorem dX4_hasNothing_1 : decode cX4_hasNothing 1 = .ok (.getfield 15, 3) := by decide +kernel
theorem dX4_hasNothing_4 : decode cX4_hasNothing 4 = .ok (.iconst (-1), 1) := by decide +kernel
theorem dX4_hasNothing_5 : decode cX4_hasNothing 5 = .ok (.if_icmp .ne 7, 3) := by decide +kernel
theorem dX4_hasNothing_8 : decode cX4_hasNothing 8 = .ok (.iconst 1, 1) := by decide +kernel
theorem dX4_hasNothing_9 : decode cX4_hasNothing 9 = .ok (.goto 4, 3) := by decide +kernel
theorem dX4_hasNothing_12 : decode cX4_hasNothing 12 = .ok (.iconst 0, 1) := by decide +kernel
theorem dX4_hasNothing_13 : decode cX4_hasNothing 13 = .ok (.ireturn, 1) := by decide +kernel
theorem dX4_clear_0 : decode cX4_clear 0 = .ok (.aload_n 0, 1) := by decide +kernel
theorem dX4_clear_1 : decode cX4_clear 1 = .ok (.iconst (-1), 1) := by decide +kernel
theorem dX4_clear_2 : decode cX4_clear 2 = .ok (.putfield 15, 3) := by decide +kernel
theorem dX4_clear_5 : decode cX4_clear 5 = .ok (.aload_n 0, 1) := by decide +kernel
theorem dX4_clear_6 : decode cX4_clear 6 = .ok (.iconst 0, 1) := by decide +kernel
theorem dX4_clear_7 : decode cX4_clear 7 = .ok (.putfield 19, 3) := by decide +kernel
theorem dX4_clear_10 : decode cX4_clear 10 = .ok (.return_, 1) := by decide +kernel
theorem dX4_renew_0 : decode cX4_renew 0 = .ok (.aload_n 0, 1) := by decide +kernel
theorem dX4_renew_1 : decode cX4_renew 1 = .ok (.iload_n 1, 1) := by decide +kernel
theorem dX4_renew_2 : decode cX4_renew 2 = .ok (.putfield 15, 3) := by decide +kernel
theorem dX4_renew_5 : decode cX4_renew 5 = .ok (.aload_n 0, 1) := by decide +kernel
theorem dX4_renew_6 : decode cX4_renew 6 = .ok (.iconst 0, 1) := by decide +kernel
theorem dX4_renew_7 : decode cX4_renew 7 = .ok (.iload_n 2, 1) := by decide +kernel
theorem dX4_renew_8 : decode cX4_renew 8 = .ok (.bipush 60, 2) := by decide +kernel
theorem dX4_renew_10 : decode cX4_renew 10 = .ok (.invokestatic 22, 3) := by decide +kernel
theorem dX4_renew_13 : decode cX4_renew 13 = .ok (.invokestatic 28, 3) := by decide +kernel
theorem dX4_renew_16 : decode cX4_renew 16 = .ok (.putfield 19, 3) := by decide +kernel
theorem dX4_renew_19 : decode cX4_renew 19 = .ok (.iconst 0, 1) := by decide +kernel
theorem dX4_renew_20 : decode cX4_renew 20 = .ok (.istore_n 3, 1) := by decide +kernel
theorem dX4_renew_21 : decode cX4_renew 21 = .ok (.iload_n 3, 1) := by decide +kernel
theorem dX4_renew_22 : decode cX4_renew 22 = .ok (.aload_n 0, 1) := by decide +kernel
theorem dX4_renew_23 : decode cX4_renew 23 = .ok (.getfield 19, 3) := by decide +kernel
theorem dX4_renew_26 : decode cX4_renew 26 = .ok (.if_icmp .ge 16, 3) := by decide +kernel
theorem dX4_renew_29 : decode cX4_renew 29 = .ok (.aload_n 0, 1) := by decide +kernel
theorem dX4_renew_30 : decode cX4_renew 30 = .ok (.getfield 9, 3) := by decide +kernel
theorem dX4_renew_33 : decode cX4_renew 33 = .ok (.iload_n 3, 1) := by decide +kernel
theorem dX4_renew_34 : decode cX4_renew 34 = .ok (.iconst 0, 1) := by decide +kernel
theorem dX4_renew_35 : decode cX4_renew 35 = .ok (.iastore, 1) := by decide +kernel
theorem dX4_renew_36 : decode cX4_renew 36 = .ok (.iinc 3 1, 3) := by decide +kernel
theorem dX4_renew_39 : decode cX4_renew 39 = .ok (.goto (-18), 3) := by decide +kernel
theorem dX4_renew_42 : decode cX4_renew 42 = .ok (.return_, 1) := by decide +kernel
theorem dX4_holds_0 : decode cX4_holds 0 = .ok (.iload_n 1, 1) := by decide +kernel
theorem dX4_holds_1 : decode cX4_holds 1 = .ok (.ifCond .lt 29, 3) := by decide +kernel
theorem dX4_holds_4 : decode cX4_holds 4 = .ok (.iload_n 1, 1) := by decide +kernel
theorem dX4_holds_5 : decode cX4_holds 5 = .ok (.aload_n 0, 1) := by decide +kernel
theorem dX4_holds_6 : decode cX4_holds 6 = .ok (.getfield 19, 3) := by decide +kernel
theorem dX4_holds_9 : decode cX4_holds 9 = .ok (.if_icmp .gt 21, 3) := by decide +kernel
theorem dX4_holds_12 : decode cX4_holds 12 = .ok (.iload_n 2, 1) := by decide +kernel
theorem dX4_holds_13 : decode cX4_holds 13 = .ok (.ifCond .lt 17, 3) := by decide +kernel
theorem dX4_holds_16 : decode cX4_holds 16 = .ok (.iload_n 2, 1) := by decide +kernel
theorem dX4_holds_17 : decode cX4_holds 17 = .ok (.aload_n 0, 1) := by decide +kernel
theorem dX4_holds_18 : decode cX4_holds 18 = .ok (.getfield 19, 3) := by decide +kernel
theorem dX4_holds_21 : decode cX4_holds 21 = .ok (.iload_n 1, 1) := by decide +kernel
theorem dX4_holds_22 : decode cX4_holds 22 = .ok (.isub, 1) := by decide +kernel
theorem dX4_holds_23 : decode cX4_holds 23 = .ok (.if_icmp .gt 7, 3) := by decide +kernel
theorem dX4_holds_26 : decode cX4_holds 26 = .ok (.iconst 1, 1) := by decide +kernel
theorem dX4_holds_27 : decode cX4_holds 27 = .ok (.goto 4, 3) := by decide +kernel
theorem dX4_holds_30 : decode cX4_holds 30 = .ok (.iconst 0, 1) := by decide +kernel
theorem dX4_holds_31 : decode cX4_holds 31 = .ok (.ireturn, 1) := by decide +kernel
set_option maxRecDepth 20000 in
theorem ggX4_faultOfTaking_X4_hasNothing : GoodIn wsX4_faultOfTaking wsX4_hasNothing := goodIn_r _ [6, 1, 12, 13, 14] (by decide +kernel) (by decide +kernel)
set_option maxRecDepth 20000 in
theorem gX4_faultOfTaking_X4_hasNothing : GoodIn wsX4_faultOfTaking (wsV RX4 31 RX4 yX4_hasNothing wsX4_hasNothing) := goodIn_app (goodIn_of _ (by decide +kernel)) ggX4_faultOfTaking_X4_hasNothing
set_option maxRecDepth 20000 in
theorem ggX4_faultOfTaking_X4_holds : GoodIn wsX4_faultOfTaking wsX4_holds := goodIn_r _ [10, 11, 12, 13, 14] (by decide +kernel) (by decide +kernel)
set_option maxRecDepth 20000 in
theorem gX4_faultOfTaking_X4_holds : GoodIn wsX4_faultOfTaking (wsV RX4 35 RX4 yX4_holds wsX4_holds) := goodIn_app (goodIn_of _ (by decide +kernel)) ggX4_faultOfTaking_X4_holds
theorem dX4_faultOfTaking_0 : decode cX4_faultOfTaking 0 = .ok (.aload_n 0, 1) := by decide +kernel
theorem dX4_faultOfTaking_1 : decode cX4_faultOfTaking 1 = .ok (.invokevirtual 31, 3) := by decide +kernel
theorem dX4_faultOfTaking_4 : decode cX4_faultOfTaking 4 = .ok (.ifCond .eq 5, 3) := by decide +kernel
theorem dX4_faultOfTaking_7 : decode cX4_faultOfTaking 7 = .ok (.iconst 1, 1) := by decide +kernel
theorem dX4_faultOfTaking_8 : decode cX4_faultOfTaking 8 = .ok (.ireturn, 1) := by decide +kernel
theorem dX4_faultOfTaking_9 : decode cX4_faultOfTaking 9 = .ok (.aload_n 0, 1) := by decide +kernel
theorem dX4_faultOfTaking_10 : decode cX4_faultOfTaking 10 = .ok (.getfield 15, 3) := by decide +kernel
theorem dX4_faultOfTaking_13 : decode cX4_faultOfTaking 13 = .ok (.iload_n 1, 1) := by decide +kernel
theorem dX4_faultOfTaking_14 : decode cX4_faultOfTaking 14 = .ok (.if_icmp .eq 5, 3) := by decide +kernel
theorem dX4_faultOfTaking_17 : decode cX4_faultOfTaking 17 = .ok (.iconst 2, 1) := by decide +kernel
theorem dX4_faultOfTaking_18 : decode cX4_faultOfTaking 18 = .ok (.ireturn, 1) := by decide +kernel
theorem dX4_faultOfTaking_19 : decode cX4_faultOfTaking 19 = .ok (.iload_n 3, 1) := by decide +kernel
theorem dX4_faultOfTaking_20 : decode cX4_faultOfTaking 20 = .ok (.ifCond .ge 5, 3) := by decide +kernel
theorem dX4_faultOfTaking_23 : decode cX4_faultOfTaking 23 = .ok (.iconst 4, 1) := by decide +kernel
theorem dX4_faultOfTaking_24 : decode cX4_faultOfTaking 24 = .ok (.ireturn, 1) := by decide +kernel
theorem dX4_faultOfTaking_25 : decode cX4_faultOfTaking 25 = .ok (.aload_n 0, 1) := by decide +kernel
theorem dX4_faultOfTaking_26 : decode cX4_faultOfTaking 26 = .ok (.iload_n 2, 1) := by decide +kernel
theorem dX4_faultOfTaking_27 : decode cX4_faultOfTaking 27 = .ok (.iload_n 3, 1) := by decide +kernel
theorem dX4_faultOfTaking_28 : decode cX4_faultOfTaking 28 = .ok (.invokevirtual 35, 3) := by decide +kernel
theorem dX4_faultOfTaking_31 : decode cX4_faultOfTaking 31 = .ok (.ifCond .eq 7, 3) := by decide +kernel
theorem dX4_faultOfTaking_34 : decode cX4_faultOfTaking 34 = .ok (.iconst 0, 1) := by decide +kernel
theorem dX4_faultOfTaking_35 : decode cX4_faultOfTaking 35 = .ok (.goto 4, 3) := by decide +kernel
theorem dX4_faultOfTaking_38 : decode cX4_faultOfTaking 38 = .ok (.iconst 3, 1) := by decide +kernel
theorem dX4_faultOfTaking_39 : decode cX4_faultOfTaking 39 = .ok (.ireturn, 1) := by decide +kernel
theorem dX4_at_0 : decode cX4_at 0 = .ok (.iload_n 1, 1) := by decide +kernel
theorem dX4_at_1 : decode cX4_at 1 = .ok (.ifCond .lt 20, 3) := by decide +kernel
theorem dX4_at_4 : decode cX4_at 4 = .ok (.iload_n 1, 1) := by decide +kernel
theorem dX4_at_5 : decode cX4_at 5 = .ok (.aload_n 0, 1) := by decide +kernel
theorem dX4_at_6 : decode cX4_at 6 = .ok (.getfield 19, 3) := by decide +kernel
theorem dX4_at_9 : decode cX4_at 9 = .ok (.if_icmp .ge 12, 3) := by decide +kernel
theorem dX4_at_12 : decode cX4_at 12 = .ok (.aload_n 0, 1) := by decide +kernel
theorem dX4_at_13 : decode cX4_at 13 = .ok (.getfield 9, 3) := by decide +kernel
theorem dX4_at_16 : decode cX4_at 16 = .ok (.iload_n 1, 1) := by decide +kernel
theorem dX4_at_17 : decode cX4_at 17 = .ok (.iaload, 1) := by decide +kernel
theorem dX4_at_18 : decode cX4_at 18 = .ok (.goto 4, 3) := by decide +kernel
theorem dX4_at_21 : decode cX4_at 21 = .ok (.iconst 0, 1) := by decide +kernel
theorem dX4_at_22 : decode cX4_at 22 = .ok (.ireturn, 1) := by decide +kernel
set_option maxRecDepth 20000 in
theorem ggX4_write_X4_cut : GoodIn wsX4_write wsX4_cut := goodIn_r _ [7, 8, 9, 10, 11] (by decide +kernel) (by decide +kernel)
set_option maxRecDepth 20000 in
theorem gX4_write_X4_cut : GoodIn wsX4_write (wsV RX4 39 RX4 yX4_cut wsX4_cut) := goodIn_app (goodIn_of _ (by decide +kernel)) ggX4_write_X4_cut
theorem dX4_write_0 : decode cX4_write 0 = .ok (.iload_n 1, 1) := by decide +kernel
theorem dX4_write_1 : decode cX4_write 1 = .ok (.ifCond .lt 22, 3) := by decide +kernel
theorem dX4_write_4 : decode cX4_write 4 = .ok (.iload_n 1, 1) := by decide +kernel
theorem dX4_write_5 : decode cX4_write 5 = .ok (.aload_n 0, 1) := by decide +kernel
theorem dX4_write_6 : decode cX4_write 6 = .ok (.getfield 19, 3) := by decide +kernel
theorem dX4_write_9 : decode cX4_write 9 = .ok (.if_icmp .ge 14, 3) := by decide +kernel
theorem dX4_write_12 : decode cX4_write 12 = .ok (.aload_n 0, 1) := by decide +kernel
theorem dX4_write_13 : decode cX4_write 13 = .ok (.getfield 9, 3) := by decide +kernel
theorem dX4_write_16 : decode cX4_write 16 = .ok (.iload_n 1, 1) := by decide +kernel
theorem dX4_write_17 : decode cX4_write 17 = .ok (.aload_n 0, 1) := by decide +kernel
theorem dX4_write_18 : decode cX4_write 18 = .ok (.iload_n 2, 1) := by decide +kernel
theorem dX4_write_19 : decode cX4_write 19 = .ok (.invokevirtual 39, 3) := by decide +kernel
theorem dX4_write_22 : decode cX4_write 22 = .ok (.iastore, 1) := by decide +kernel
theorem dX4_write_23 : decode cX4_write 23 = .ok (.return_, 1) := by decide +kernel
theorem dX4_cut_0 : decode cX4_cut 0 = .ok (.aload_n 0, 1) := by decide +kernel
theorem dX4_cut_1 : decode cX4_cut 1 = .ok (.getfield 15, 3) := by decide +kernel
theorem dX4_cut_4 : decode cX4_cut 4 = .ok (.lookupswitch 34 #[(0, 28), (1, 31)], 28) := by decide +kernel
theorem dX4_cut_32 : decode cX4_cut 32 = .ok (.iload_n 1, 1) := by decide +kernel
theorem dX4_cut_33 : decode cX4_cut 33 = .ok (.i2b, 1) := by decide +kernel
theorem dX4_cut_34 : decode cX4_cut 34 = .ok (.ireturn, 1) := by decide +kernel
theorem dX4_cut_35 : decode cX4_cut 35 = .ok (.iload_n 1, 1) := by decide +kernel
theorem dX4_cut_36 : decode cX4_cut 36 = .ok (.i2s, 1) := by decide +kernel
theorem dX4_cut_37 : decode cX4_cut 37 = .ok (.ireturn, 1) := by decide +kernel
theorem dX4_cut_38 : decode cX4_cut 38 = .ok (.iload_n 1, 1) := by decide +kernel
theorem dX4_cut_39 : decode cX4_cut 39 = .ok (.ireturn, 1) := by decide +kernel
set_option maxRecDepth 20000 in
theorem ggX5_firstFault_X5_roomsIn : GoodIn wsX5_firstFault wsX5_roomsIn := goodIn_r _ [4, 5, 6, 7, 8, 9, 10, 11, 12, 13, 14, 15, 16, 17, 18, 19, 20, 3, 21, 22, 23, 24, 37, 38, 39] (by decide +kernel) (by decide +kernel)
set_option maxRecDepth 20000 in
theorem gX5_firstFault_X5_roomsIn : GoodIn wsX5_firstFault (va_wsS RX5 9 yX5_roomsIn wsX5_roomsIn) := goodIn_app (goodIn_of _ (by decide +kernel)) ggX5_firstFault_X5_roomsIn
set_option maxRecDepth 20000 in
theorem ggX5_firstFault_X4_at : GoodIn wsX5_firstFault wsX4_at := goodIn_r _ [16, 17, 18, 37, 38, 39] (by decide +kernel) (by decide +kernel)
set_option maxRecDepth 20000 in
theorem gX5_firstFault_X4_at : GoodIn wsX5_firstFault (wsV RX5 15 RX4 yX4_at wsX4_at) := goodIn_app (goodIn_of _ (by decide +kernel)) ggX5_firstFault_X4_at
set_option maxRecDepth 20000 in
theorem ggX5_firstFault_X5_goesOn : GoodIn wsX5_firstFault wsX5_goesOn := goodIn_r _ [27, 28, 29, 3, 30, 19, 20, 21, 22, 23, 24, 31, 32, 33, 34, 35, 36] (by decide +kernel) (by decide +kernel)
set_option maxRecDepth 20000 in
theorem gX5_firstFault_X5_goesOn : GoodIn wsX5_firstFault (va_wsS RX5 21 yX5_goesOn wsX5_goesOn) := goodIn_app (goodIn_of _ (by decide +kernel)) ggX5_firstFault_X5_goesOn
theorem dX5_firstFault_0 : decode cX5_firstFault 0 = .ok (.aload_n 0, 1) := by decide +kernel
theorem dX5_firstFault_1 : decode cX5_firstFault 1 = .ok (.iload_n 1, 1) := by decide +kernel
theorem dX5_firstFault_2 : decode cX5_firstFault 2 = .ok (.iload_n 2, 1) := by decide +kernel
theorem dX5_firstFault_3 : decode cX5_firstFault 3 = .ok (.invokestatic 9, 3) := by decide +kernel
theorem dX5_firstFault_6 : decode cX5_firstFault 6 = .ok (.istore_n 3, 1) := by decide +kernel
theorem dX5_firstFault_7 : decode cX5_firstFault 7 = .ok (.iconst 0, 1) := by decide +kernel
theorem dX5_firstFault_8 : decode cX5_firstFault 8 = .ok (.istore 4, 2) := by decide +kernel
theorem dX5_firstFault_10 : decode cX5_firstFault 10 = .ok (.iload 4, 2) := by decide +kernel
theorem dX5_firstFault_12 : decode cX5_firstFault 12 = .ok (.iload_n 2, 1) := by decide +kernel
theorem dX5_firstFault_13 : decode cX5_firstFault 13 = .ok (.if_icmp .ge 29, 3) := by decide +kernel
theorem dX5_firstFault_16 : decode cX5_firstFault 16 = .ok (.iload 4, 2) := by decide +kernel
theorem dX5_firstFault_18 : decode cX5_firstFault 18 = .ok (.iload_n 3, 1) := by decide +kernel
theorem dX5_firstFault_19 : decode cX5_firstFault 19 = .ok (.aload_n 0, 1) := by decide +kernel
theorem dX5_firstFault_20 : decode cX5_firstFault 20 = .ok (.iload_n 1, 1) := by decide +kernel
theorem dX5_firstFault_21 : decode cX5_firstFault 21 = .ok (.iload 4, 2) := by decide +kernel
theorem dX5_firstFault_23 : decode cX5_firstFault 23 = .ok (.iadd, 1) := by decide +kernel
theorem dX5_firstFault_24 : decode cX5_firstFault 24 = .ok (.invokevirtual 15, 3) := by decide +kernel
theorem dX5_firstFault_27 : decode cX5_firstFault 27 = .ok (.invokestatic 21, 3) := by decide +kernel
theorem dX5_firstFault_30 : decode cX5_firstFault 30 = .ok (.ifCond .ne 6, 3) := by decide +kernel
theorem dX5_firstFault_33 : decode cX5_firstFault 33 = .ok (.iload 4, 2) := by decide +kernel
theorem dX5_firstFault_35 : decode cX5_firstFault 35 = .ok (.ireturn, 1) := by decide +kernel
theorem dX5_firstFault_36 : decode cX5_firstFault 36 = .ok (.iinc 4 1, 3) := by decide +kernel
theorem dX5_firstFault_39 : decode cX5_firstFault 39 = .ok (.goto (-29), 3) := by decide +kernel
theorem dX5_firstFault_42 : decode cX5_firstFault 42 = .ok (.iload_n 2, 1) := by decide +kernel
theorem dX5_firstFault_43 : decode cX5_firstFault 43 = .ok (.iconst 4, 1) := by decide +kernel
theorem dX5_firstFault_44 : decode cX5_firstFault 44 = .ok (.isub, 1) := by decide +kernel
theorem dX5_firstFault_45 : decode cX5_firstFault 45 = .ok (.iload_n 3, 1) := by decide +kernel
theorem dX5_firstFault_46 : decode cX5_firstFault 46 = .ok (.isub, 1) := by decide +kernel
theorem dX5_firstFault_47 : decode cX5_firstFault 47 = .ok (.istore 4, 2) := by decide +kernel
theorem dX5_firstFault_49 : decode cX5_firstFault 49 = .ok (.iload 4, 2) := by decide +kernel
theorem dX5_firstFault_51 : decode cX5_firstFault 51 = .ok (.ifCond .le 15, 3) := by decide +kernel
theorem dX5_firstFault_54 : decode cX5_firstFault 54 = .ok (.iload 4, 2) := by decide +kernel
theorem dX5_firstFault_56 : decode cX5_firstFault 56 = .ok (.bipush 6, 2) := by decide +kernel
theorem dX5_firstFault_58 : decode cX5_firstFault 58 = .ok (.irem, 1) := by decide +kernel
theorem dX5_firstFault_59 : decode cX5_firstFault 59 = .ok (.ifCond .ne 7, 3) := by decide +kernel
theorem dX5_firstFault_62 : decode cX5_firstFault 62 = .ok (.iconst 1, 1) := by decide +kernel
theorem dX5_firstFault_63 : decode cX5_firstFault 63 = .ok (.goto 4, 3) := by decide +kernel
theorem dX5_firstFault_66 : decode cX5_firstFault 66 = .ok (.iconst 0, 1) := by decide +kernel
theorem dX5_firstFault_67 : decode cX5_firstFault 67 = .ok (.istore 5, 2) := by decide +kernel
theorem dX5_firstFault_69 : decode cX5_firstFault 69 = .ok (.iload 5, 2) := by decide +kernel
theorem dX5_firstFault_71 : decode cX5_firstFault 71 = .ok (.ifCond .eq 8, 3) := by decide +kernel
theorem dX5_firstFault_74 : decode cX5_firstFault 74 = .ok (.bipush (-9), 2) := by decide +kernel
theorem dX5_firstFault_76 : decode cX5_firstFault 76 = .ok (.goto 4, 3) := by decide +kernel
theorem dX5_firstFault_79 : decode cX5_firstFault 79 = .ok (.iload_n 2, 1) := by decide +kernel
theorem dX5_firstFault_80 : decode cX5_firstFault 80 = .ok (.ireturn, 1) := by decide +kernel
set_option maxRecDepth 20000 in
theorem ggX5_build_X5_roomsIn : GoodIn wsX5_build wsX5_roomsIn := goodIn_r _ [14, 4, 5, 6, 7, 15, 16, 17, 18, 19, 20, 21, 22, 23, 24, 25, 26, 13, 27, 28, 29, 30, 50, 51, 52] (by decide +kernel) (by decide +kernel)
set_option maxRecDepth 20000 in
theorem gX5_build_X5_roomsIn : GoodIn wsX5_build (va_wsS RX5 9 yX5_roomsIn wsX5_roomsIn) := goodIn_app (goodIn_of _ (by decide +kernel)) ggX5_build_X5_roomsIn
set_option maxRecDepth 20000 in
theorem ggX5_build_X5_digit : GoodIn wsX5_build wsX5_digit := goodIn_r _ [33, 18, 19, 20, 21, 22, 23, 24, 50, 51, 52] (by decide +kernel) (by decide +kernel)
set_option maxRecDepth 20000 in
theorem gX5_build_X5_digit : GoodIn wsX5_build (va_wsS RX5 25 yX5_digit wsX5_digit) := goodIn_app (goodIn_of _ (by decide +kernel)) ggX5_build_X5_digit
set_option maxRecDepth 20000 in
theorem ggX5_build_X5_fill : GoodIn wsX5_build wsX5_fill := goodIn_r _ [36, 37, 38, 39, 40, 18, 19, 20, 21, 22, 23, 24, 41, 42, 13, 43, 31, 32, 33, 53, 54, 55, 56, 50, 51, 52] (by decide +kernel) (by decide +kernel)
set_option maxRecDepth 20000 in
theorem gX5_build_X5_fill : GoodIn wsX5_build (va_wsS RX5 55 yX5_fill wsX5_fill) := goodIn_app (goodIn_of _ (by decide +kernel)) ggX5_build_X5_fill
theorem dX5_build_0 : decode cX5_build 0 = .ok (.aload_n 1, 1) := by decide +kernel
theorem dX5_build_1 : decode cX5_build 1 = .ok (.iload_n 2, 1) := by decide +kernel
theorem dX5_build_2 : decode cX5_build 2 = .ok (.iload_n 3, 1) := by decide +kernel
theorem dX5_build_3 : decode cX5_build 3 = .ok (.invokestatic 9, 3) := by decide +kernel
theorem dX5_build_6 : decode cX5_build 6 = .ok (.istore 4, 2) := by decide +kernel
theorem dX5_build_8 : decode cX5_build 8 = .ok (.aload_n 0, 1) := by decide +kernel
theorem dX5_build_9 : decode cX5_build 9 = .ok (.bipush 8, 2) := by decide +kernel
theorem dX5_build_11 : decode cX5_build 11 = .ok (.aload_n 1, 1) := by decide +kernel
theorem dX5_build_12 : decode cX5_build 12 = .ok (.iload_n 2, 1) := by decide +kernel
theorem dX5_build_13 : decode cX5_build 13 = .ok (.iconst 2, 1) := by decide +kernel
theorem dX5_build_14 : decode cX5_build 14 = .ok (.iadd, 1) := by decide +kernel
theorem dX5_build_15 : decode cX5_build 15 = .ok (.invokestatic 25, 3) := by decide +kernel
theorem dX5_build_18 : decode cX5_build 18 = .ok (.imul, 1) := by decide +kernel
theorem dX5_build_19 : decode cX5_build 19 = .ok (.aload_n 1, 1) := by decide +kernel
theorem dX5_build_20 : decode cX5_build 20 = .ok (.iload_n 2, 1) := by decide +kernel
theorem dX5_build_21 : decode cX5_build 21 = .ok (.iconst 1, 1) := by decide +kernel
theorem dX5_build_22 : decode cX5_build 22 = .ok (.iadd, 1) := by decide +kernel
theorem dX5_build_23 : decode cX5_build 23 = .ok (.invokestatic 25, 3) := by decide +kernel
theorem dX5_build_26 : decode cX5_build 26 = .ok (.iadd, 1) := by decide +kernel
theorem dX5_build_27 : decode cX5_build 27 = .ok (.putfield 29, 3) := by decide +kernel
theorem dX5_build_30 : decode cX5_build 30 = .ok (.aload_n 0, 1) := by decide +kernel
theorem dX5_build_31 : decode cX5_build 31 = .ok (.iload 4, 2) := by decide +kernel
theorem dX5_build_33 : decode cX5_build 33 = .ok (.putfield 35, 3) := by decide +kernel
theorem dX5_build_36 : decode cX5_build 36 = .ok (.iconst 0, 1) := by decide +kernel
theorem dX5_build_37 : decode cX5_build 37 = .ok (.istore 5, 2) := by decide +kernel
theorem dX5_build_39 : decode cX5_build 39 = .ok (.iload 5, 2) := by decide +kernel
theorem dX5_build_41 : decode cX5_build 41 = .ok (.iload 4, 2) := by decide +kernel
theorem dX5_build_43 : decode cX5_build 43 = .ok (.if_icmp .ge 26, 3) := by decide +kernel
theorem dX5_build_46 : decode cX5_build 46 = .ok (.aload_n 0, 1) := by decide +kernel
theorem dX5_build_47 : decode cX5_build 47 = .ok (.getfield 38, 3) := by decide +kernel
theorem dX5_build_50 : decode cX5_build 50 = .ok (.iload 5, 2) := by decide +kernel
theorem dX5_build_52 : decode cX5_build 52 = .ok (.aload_n 1, 1) := by decide +kernel
theorem dX5_build_53 : decode cX5_build 53 = .ok (.iload_n 2, 1) := by decide +kernel
theorem dX5_build_54 : decode cX5_build 54 = .ok (.iconst 4, 1) := by decide +kernel
theorem dX5_build_55 : decode cX5_build 55 = .ok (.iadd, 1) := by decide +kernel
theorem dX5_build_56 : decode cX5_build 56 = .ok (.iload 5, 2) := by decide +kernel
theorem dX5_build_58 : decode cX5_build 58 = .ok (.iadd, 1) := by decide +kernel
theorem dX5_build_59 : decode cX5_build 59 = .ok (.invokestatic 25, 3) := by decide +kernel
theorem dX5_build_62 : decode cX5_build 62 = .ok (.iastore, 1) := by decide +kernel
theorem dX5_build_63 : decode cX5_build 63 = .ok (.iinc 5 1, 3) := by decide +kernel
theorem dX5_build_66 : decode cX5_build 66 = .ok (.goto (-27), 3) := by decide +kernel
theorem dX5_build_69 : decode cX5_build 69 = .ok (.iload_n 2, 1) := by decide +kernel
theorem dX5_build_70 : decode cX5_build 70 = .ok (.iconst 4, 1) := by decide +kernel
theorem dX5_build_71 : decode cX5_build 71 = .ok (.iadd, 1) := by decide +kernel
theorem dX5_build_72 : decode cX5_build 72 = .ok (.iload 4, 2) := by decide +kernel
theorem dX5_build_74 : decode cX5_build 74 = .ok (.iadd, 1) := by decide +kernel
theorem dX5_build_75 : decode cX5_build 75 = .ok (.istore 5, 2) := by decide +kernel
theorem dX5_build_77 : decode cX5_build 77 = .ok (.aload_n 0, 1) := by decide +kernel
theorem dX5_build_78 : decode cX5_build 78 = .ok (.iload_n 3, 1) := by decide +kernel
theorem dX5_build_79 : decode cX5_build 79 = .ok (.iconst 4, 1) := by decide +kernel
theorem dX5_build_80 : decode cX5_build 80 = .ok (.isub, 1) := by decide +kernel
theorem dX5_build_81 : decode cX5_build 81 = .ok (.iload 4, 2) := by decide +kernel
theorem dX5_build_83 : decode cX5_build 83 = .ok (.isub, 1) := by decide +kernel
theorem dX5_build_84 : decode cX5_build 84 = .ok (.bipush 6, 2) := by decide +kernel
theorem dX5_build_86 : decode cX5_build 86 = .ok (.idiv, 1) := by decide +kernel
theorem dX5_build_87 : decode cX5_build 87 = .ok (.bipush 6, 2) := by decide +kernel
theorem dX5_build_89 : decode cX5_build 89 = .ok (.invokestatic 42, 3) := by decide +kernel
theorem dX5_build_92 : decode cX5_build 92 = .ok (.putfield 48, 3) := by decide +kernel
theorem dX5_build_95 : decode cX5_build 95 = .ok (.iconst 0, 1) := by decide +kernel
theorem dX5_build_96 : decode cX5_build 96 = .ok (.istore 6, 2) := by decide +kernel
theorem dX5_build_98 : decode cX5_build 98 = .ok (.iload 6, 2) := by decide +kernel
theorem dX5_build_100 : decode cX5_build 100 = .ok (.aload_n 0, 1) := by decide +kernel
theorem dX5_build_101 : decode cX5_build 101 = .ok (.getfield 48, 3) := by decide +kernel
theorem dX5_build_104 : decode cX5_build 104 = .ok (.if_icmp .ge 28, 3) := by decide +kernel
theorem dX5_build_107 : decode cX5_build 107 = .ok (.aload_n 0, 1) := by decide +kernel
theorem dX5_build_108 : decode cX5_build 108 = .ok (.getfield 51, 3) := by decide +kernel
theorem dX5_build_111 : decode cX5_build 111 = .ok (.iload 6, 2) := by decide +kernel
theorem dX5_build_113 : decode cX5_build 113 = .ok (.aaload, 1) := by decide +kernel
theorem dX5_build_114 : decode cX5_build 114 = .ok (.aload_n 1, 1) := by decide +kernel
theorem dX5_build_115 : decode cX5_build 115 = .ok (.iload 5, 2) := by decide +kernel
theorem dX5_build_117 : decode cX5_build 117 = .ok (.iload 6, 2) := by decide +kernel
theorem dX5_build_119 : decode cX5_build 119 = .ok (.bipush 6, 2) := by decide +kernel
theorem dX5_build_121 : decode cX5_build 121 = .ok (.imul, 1) := by decide +kernel
theorem dX5_build_122 : decode cX5_build 122 = .ok (.iadd, 1) := by decide +kernel
theorem dX5_build_123 : decode cX5_build 123 = .ok (.invokestatic 55, 3) := by decide +kernel
theorem dX5_build_126 : decode cX5_build 126 = .ok (.iinc 6 1, 3) := by decide +kernel
theorem dX5_build_129 : decode cX5_build 129 = .ok (.goto (-31), 3) := by decide +kernel
theorem dX5_build_132 : decode cX5_build 132 = .ok (.aload_n 0, 1) := by decide +kernel
theorem dX5_build_133 : decode cX5_build 133 = .ok (.iconst 0, 1) := by decide +kernel
theorem dX5_build_134 : decode cX5_build 134 = .ok (.putfield 59, 3) := by decide +kernel
theorem dX5_build_137 : decode cX5_build 137 = .ok (.return_, 1) := by decide +kernel
set_option maxRecDepth 20000 in
theorem ggX5_fill_X4_at : GoodIn wsX5_fill wsX4_at := goodIn_r _ [9, 10, 11, 23, 24, 25] (by decide +kernel) (by decide +kernel)
set_option maxRecDepth 20000 in
theorem gX5_fill_X4_at : GoodIn wsX5_fill (wsV RX5 15 RX4 yX4_at wsX4_at) := goodIn_app (goodIn_of _ (by decide +kernel)) ggX5_fill_X4_at
set_option maxRecDepth 20000 in
theorem ggX5_fill_X5_kindOf : GoodIn wsX5_fill wsX5_kindOf := goodIn_r _ [15] (by decide +kernel) (by decide +kernel)
set_option maxRecDepth 20000 in
theorem gX5_fill_X5_kindOf : GoodIn wsX5_fill (va_wsS RX5 62 yX5_kindOf wsX5_kindOf) := goodIn_app (goodIn_of _ (by decide +kernel)) ggX5_fill_X5_kindOf
set_option maxRecDepth 20000 in
theorem ggX5_fill_X5_digit : GoodIn wsX5_fill wsX5_digit := goodIn_r _ [18, 5, 6, 7, 8, 9, 10, 11, 23, 24, 25] (by decide +kernel) (by decide +kernel)
set_option maxRecDepth 20000 in
theorem gX5_fill_X5_digit : GoodIn wsX5_fill (va_wsS RX5 25 yX5_digit wsX5_digit) := goodIn_app (goodIn_of _ (by decide +kernel)) ggX5_fill_X5_digit
theorem dX5_fill_0 : decode cX5_fill 0 = .ok (.aload_n 0, 1) := by decide +kernel
theorem dX5_fill_1 : decode cX5_fill 1 = .ok (.aload_n 1, 1) := by decide +kernel
theorem dX5_fill_2 : decode cX5_fill 2 = .ok (.iload_n 2, 1) := by decide +kernel
theorem dX5_fill_3 : decode cX5_fill 3 = .ok (.iconst 1, 1) := by decide +kernel
theorem dX5_fill_4 : decode cX5_fill 4 = .ok (.iadd, 1) := by decide +kernel
theorem dX5_fill_5 : decode cX5_fill 5 = .ok (.invokevirtual 15, 3) := by decide +kernel
theorem dX5_fill_8 : decode cX5_fill 8 = .ok (.invokestatic 62, 3) := by decide +kernel
theorem dX5_fill_11 : decode cX5_fill 11 = .ok (.putfield 65, 3) := by decide +kernel
theorem dX5_fill_14 : decode cX5_fill 14 = .ok (.aload_n 0, 1) := by decide +kernel
theorem dX5_fill_15 : decode cX5_fill 15 = .ok (.aload_n 1, 1) := by decide +kernel
theorem dX5_fill_16 : decode cX5_fill 16 = .ok (.iload_n 2, 1) := by decide +kernel
theorem dX5_fill_17 : decode cX5_fill 17 = .ok (.iconst 2, 1) := by decide +kernel
theorem dX5_fill_18 : decode cX5_fill 18 = .ok (.iadd, 1) := by decide +kernel
theorem dX5_fill_19 : decode cX5_fill 19 = .ok (.invokestatic 25, 3) := by decide +kernel
theorem dX5_fill_22 : decode cX5_fill 22 = .ok (.putfield 70, 3) := by decide +kernel
theorem dX5_fill_25 : decode cX5_fill 25 = .ok (.aload_n 0, 1) := by decide +kernel
theorem dX5_fill_26 : decode cX5_fill 26 = .ok (.aload_n 1, 1) := by decide +kernel
theorem dX5_fill_27 : decode cX5_fill 27 = .ok (.iload_n 2, 1) := by decide +kernel
theorem dX5_fill_28 : decode cX5_fill 28 = .ok (.iconst 3, 1) := by decide +kernel
theorem dX5_fill_29 : decode cX5_fill 29 = .ok (.iadd, 1) := by decide +kernel
theorem dX5_fill_30 : decode cX5_fill 30 = .ok (.invokestatic 25, 3) := by decide +kernel
theorem dX5_fill_33 : decode cX5_fill 33 = .ok (.putfield 73, 3) := by decide +kernel
theorem dX5_fill_36 : decode cX5_fill 36 = .ok (.aload_n 0, 1) := by decide +kernel
theorem dX5_fill_37 : decode cX5_fill 37 = .ok (.bipush 10, 2) := by decide +kernel
theorem dX5_fill_39 : decode cX5_fill 39 = .ok (.aload_n 1, 1) := by decide +kernel
theorem dX5_fill_40 : decode cX5_fill 40 = .ok (.iload_n 2, 1) := by decide +kernel
theorem dX5_fill_41 : decode cX5_fill 41 = .ok (.iconst 4, 1) := by decide +kernel
theorem dX5_fill_42 : decode cX5_fill 42 = .ok (.iadd, 1) := by decide +kernel
theorem dX5_fill_43 : decode cX5_fill 43 = .ok (.invokestatic 25, 3) := by decide +kernel
theorem dX5_fill_46 : decode cX5_fill 46 = .ok (.imul, 1) := by decide +kernel
theorem dX5_fill_47 : decode cX5_fill 47 = .ok (.aload_n 1, 1) := by decide +kernel
theorem dX5_fill_48 : decode cX5_fill 48 = .ok (.iload_n 2, 1) := by decide +kernel
theorem dX5_fill_49 : decode cX5_fill 49 = .ok (.iconst 5, 1) := by decide +kernel
theorem dX5_fill_50 : decode cX5_fill 50 = .ok (.iadd, 1) := by decide +kernel
theorem dX5_fill_51 : decode cX5_fill 51 = .ok (.invokestatic 25, 3) := by decide +kernel
theorem dX5_fill_54 : decode cX5_fill 54 = .ok (.iadd, 1) := by decide +kernel
theorem dX5_fill_55 : decode cX5_fill 55 = .ok (.putfield 76, 3) := by decide +kernel
theorem dX5_fill_58 : decode cX5_fill 58 = .ok (.return_, 1) := by decide +kernel
set_option maxRecDepth 20000 in
theorem ggX5_roomsIn_X4_at : GoodIn wsX5_roomsIn wsX4_at := goodIn_r _ [12, 13, 14, 22, 23, 24] (by decide +kernel) (by decide +kernel)
set_option maxRecDepth 20000 in
theorem gX5_roomsIn_X4_at : GoodIn wsX5_roomsIn (wsV RX5 15 RX4 yX4_at wsX4_at) := goodIn_app (goodIn_of _ (by decide +kernel)) ggX5_roomsIn_X4_at
set_option maxRecDepth 20000 in
theorem ggX5_roomsIn_X5_isDigit : GoodIn wsX5_roomsIn wsX5_isDigit := goodIn_r _ [18, 19, 20, 21] (by decide +kernel) (by decide +kernel)
set_option maxRecDepth 20000 in
theorem gX5_roomsIn_X5_isDigit : GoodIn wsX5_roomsIn (va_wsS RX5 79 yX5_isDigit wsX5_isDigit) := goodIn_app (goodIn_of _ (by decide +kernel)) ggX5_roomsIn_X5_isDigit
theorem dX5_roomsIn_0 : decode cX5_roomsIn 0 = .ok (.iconst 4, 1) := by decide +kernel
theorem dX5_roomsIn_1 : decode cX5_roomsIn 1 = .ok (.iload_n 2, 1) := by decide +kernel
theorem dX5_roomsIn_2 : decode cX5_roomsIn 2 = .ok (.iconst 4, 1) := by decide +kernel
theorem dX5_roomsIn_3 : decode cX5_roomsIn 3 = .ok (.isub, 1) := by decide +kernel
theorem dX5_roomsIn_4 : decode cX5_roomsIn 4 = .ok (.invokestatic 42, 3) := by decide +kernel
theorem dX5_roomsIn_7 : decode cX5_roomsIn 7 = .ok (.istore_n 3, 1) := by decide +kernel
theorem dX5_roomsIn_8 : decode cX5_roomsIn 8 = .ok (.iconst 0, 1) := by decide +kernel
theorem dX5_roomsIn_9 : decode cX5_roomsIn 9 = .ok (.istore 4, 2) := by decide +kernel
theorem dX5_roomsIn_11 : decode cX5_roomsIn 11 = .ok (.iload 4, 2) := by decide +kernel
theorem dX5_roomsIn_13 : decode cX5_roomsIn 13 = .ok (.iload_n 3, 1) := by decide +kernel
theorem dX5_roomsIn_14 : decode cX5_roomsIn 14 = .ok (.if_icmp .ge 31, 3) := by decide +kernel
theorem dX5_roomsIn_17 : decode cX5_roomsIn 17 = .ok (.aload_n 0, 1) := by decide +kernel
theorem dX5_roomsIn_18 : decode cX5_roomsIn 18 = .ok (.iload_n 1, 1) := by decide +kernel
theorem dX5_roomsIn_19 : decode cX5_roomsIn 19 = .ok (.iconst 4, 1) := by decide +kernel
theorem dX5_roomsIn_20 : decode cX5_roomsIn 20 = .ok (.iadd, 1) := by decide +kernel
theorem dX5_roomsIn_21 : decode cX5_roomsIn 21 = .ok (.iload 4, 2) := by decide +kernel
theorem dX5_roomsIn_23 : decode cX5_roomsIn 23 = .ok (.iadd, 1) := by decide +kernel
theorem dX5_roomsIn_24 : decode cX5_roomsIn 24 = .ok (.invokevirtual 15, 3) := by decide +kernel
theorem dX5_roomsIn_27 : decode cX5_roomsIn 27 = .ok (.iconst 1, 1) := by decide +kernel
theorem dX5_roomsIn_28 : decode cX5_roomsIn 28 = .ok (.bipush 9, 2) := by decide +kernel
theorem dX5_roomsIn_30 : decode cX5_roomsIn 30 = .ok (.invokestatic 79, 3) := by decide +kernel
theorem dX5_roomsIn_33 : decode cX5_roomsIn 33 = .ok (.ifCond .ne 6, 3) := by decide +kernel
theorem dX5_roomsIn_36 : decode cX5_roomsIn 36 = .ok (.iload 4, 2) := by decide +kernel
theorem dX5_roomsIn_38 : decode cX5_roomsIn 38 = .ok (.ireturn, 1) := by decide +kernel
theorem dX5_roomsIn_39 : decode cX5_roomsIn 39 = .ok (.iinc 4 1, 3) := by decide +kernel
theorem dX5_roomsIn_42 : decode cX5_roomsIn 42 = .ok (.goto (-31), 3) := by decide +kernel
theorem dX5_roomsIn_45 : decode cX5_roomsIn 45 = .ok (.iconst 0, 1) := by decide +kernel
theorem dX5_roomsIn_46 : decode cX5_roomsIn 46 = .ok (.iload_n 3, 1) := by decide +kernel
theorem dX5_roomsIn_47 : decode cX5_roomsIn 47 = .ok (.invokestatic 82, 3) := by decide +kernel
theorem dX5_roomsIn_50 : decode cX5_roomsIn 50 = .ok (.ireturn, 1) := by decide +kernel
set_option maxRecDepth 20000 in
theorem ggX5_goesOn_X5_headGoesOn : GoodIn wsX5_goesOn wsX5_headGoesOn := goodIn_r _ [4, 5, 6, 3, 7, 8, 9, 10] (by decide +kernel) (by decide +kernel)
set_option maxRecDepth 20000 in
theorem gX5_goesOn_X5_headGoesOn : GoodIn wsX5_goesOn (va_wsS RX5 85 yX5_headGoesOn wsX5_headGoesOn) := goodIn_app (goodIn_of _ (by decide +kernel)) ggX5_goesOn_X5_headGoesOn
set_option maxRecDepth 20000 in
theorem ggX5_goesOn_X5_articleGoesOn : GoodIn wsX5_goesOn wsX5_articleGoesOn := goodIn_r _ [13, 14, 15, 3, 16, 5, 6, 7, 8, 9, 10] (by decide +kernel) (by decide +kernel)
set_option maxRecDepth 20000 in
theorem gX5_goesOn_X5_articleGoesOn : GoodIn wsX5_goesOn (va_wsS RX5 89 yX5_articleGoesOn wsX5_articleGoesOn) := goodIn_app (goodIn_of _ (by decide +kernel)) ggX5_goesOn_X5_articleGoesOn
theorem dX5_goesOn_0 : decode cX5_goesOn 0 = .ok (.iload_n 0, 1) := by decide +kernel
theorem dX5_goesOn_1 : decode cX5_goesOn 1 = .ok (.iconst 4, 1) := by decide +kernel
theorem dX5_goesOn_2 : decode cX5_goesOn 2 = .ok (.if_icmp .ge 9, 3) := by decide +kernel
theorem dX5_goesOn_5 : decode cX5_goesOn 5 = .ok (.iload_n 0, 1) := by decide +kernel
theorem dX5_goesOn_6 : decode cX5_goesOn 6 = .ok (.iload_n 2, 1) := by decide +kernel
theorem dX5_goesOn_7 : decode cX5_goesOn 7 = .ok (.invokestatic 85, 3) := by decide +kernel
theorem dX5_goesOn_10 : decode cX5_goesOn 10 = .ok (.ireturn, 1) := by decide +kernel
theorem dX5_goesOn_11 : decode cX5_goesOn 11 = .ok (.iload_n 0, 1) := by decide +kernel
theorem dX5_goesOn_12 : decode cX5_goesOn 12 = .ok (.iconst 4, 1) := by decide +kernel
theorem dX5_goesOn_13 : decode cX5_goesOn 13 = .ok (.iload_n 1, 1) := by decide +kernel
theorem dX5_goesOn_14 : decode cX5_goesOn 14 = .ok (.iadd, 1) := by decide +kernel
theorem dX5_goesOn_15 : decode cX5_goesOn 15 = .ok (.if_icmp .ge 5, 3) := by decide +kernel
theorem dX5_goesOn_18 : decode cX5_goesOn 18 = .ok (.iconst 1, 1) := by decide +kernel
theorem dX5_goesOn_19 : decode cX5_goesOn 19 = .ok (.ireturn, 1) := by decide +kernel
theorem dX5_goesOn_20 : decode cX5_goesOn 20 = .ok (.iload_n 0, 1) := by decide +kernel
theorem dX5_goesOn_21 : decode cX5_goesOn 21 = .ok (.iconst 4, 1) := by decide +kernel
theorem dX5_goesOn_22 : decode cX5_goesOn 22 = .ok (.isub, 1) := by decide +kernel
theorem dX5_goesOn_23 : decode cX5_goesOn 23 = .ok (.iload_n 1, 1) := by decide +kernel
theorem dX5_goesOn_24 : decode cX5_goesOn 24 = .ok (.isub, 1) := by decide +kernel
theorem dX5_goesOn_25 : decode cX5_goesOn 25 = .ok (.istore_n 3, 1) := by decide +kernel
theorem dX5_goesOn_26 : decode cX5_goesOn 26 = .ok (.iload_n 1, 1) := by decide +kernel
theorem dX5_goesOn_27 : decode cX5_goesOn 27 = .ok (.ifCond .eq 9, 3) := by decide +kernel
theorem dX5_goesOn_30 : decode cX5_goesOn 30 = .ok (.iload_n 3, 1) := by decide +kernel
theorem dX5_goesOn_31 : decode cX5_goesOn 31 = .ok (.bipush 36, 2) := by decide +kernel
theorem dX5_goesOn_33 : decode cX5_goesOn 33 = .ok (.if_icmp .lt 5, 3) := by decide +kernel
theorem dX5_goesOn_36 : decode cX5_goesOn 36 = .ok (.iconst 0, 1) := by decide +kernel
theorem dX5_goesOn_37 : decode cX5_goesOn 37 = .ok (.ireturn, 1) := by decide +kernel
theorem dX5_goesOn_38 : decode cX5_goesOn 38 = .ok (.iload_n 3, 1) := by decide +kernel
theorem dX5_goesOn_39 : decode cX5_goesOn 39 = .ok (.bipush 6, 2) := by decide +kernel
theorem dX5_goesOn_41 : decode cX5_goesOn 41 = .ok (.irem, 1) := by decide +kernel
theorem dX5_goesOn_42 : decode cX5_goesOn 42 = .ok (.iload_n 2, 1) := by decide +kernel
theorem dX5_goesOn_43 : decode cX5_goesOn 43 = .ok (.invokestatic 89, 3) := by decide +kernel
theorem dX5_goesOn_46 : decode cX5_goesOn 46 = .ok (.ireturn, 1) := by decide +kernel
set_option maxRecDepth 20000 in
theorem ggX5_headGoesOn_X5_isDigit : GoodIn wsX5_headGoesOn wsX5_isDigit := goodIn_r _ [4, 5, 6, 7] (by decide +kernel) (by decide +kernel)
set_option maxRecDepth 20000 in
theorem gX5_headGoesOn_X5_isDigit : GoodIn wsX5_headGoesOn (va_wsS RX5 79 yX5_isDigit wsX5_isDigit) := goodIn_app (goodIn_of _ (by decide +kernel)) ggX5_headGoesOn_X5_isDigit
theorem dX5_headGoesOn_0 : decode cX5_headGoesOn 0 = .ok (.iload_n 0, 1) := by decide +kernel
theorem dX5_headGoesOn_1 : decode cX5_headGoesOn 1 = .ok (.lookupswitch 51 #[(0, 27), (3, 39)], 27) := by decide +kernel
theorem dX5_headGoesOn_28 : decode cX5_headGoesOn 28 = .ok (.iload_n 1, 1) := by decide +kernel
theorem dX5_headGoesOn_29 : decode cX5_headGoesOn 29 = .ok (.bipush 118, 2) := by decide +kernel
theorem dX5_headGoesOn_31 : decode cX5_headGoesOn 31 = .ok (.if_icmp .ne 7, 3) := by decide +kernel
theorem dX5_headGoesOn_34 : decode cX5_headGoesOn 34 = .ok (.iconst 1, 1) := by decide +kernel
theorem dX5_headGoesOn_35 : decode cX5_headGoesOn 35 = .ok (.goto 4, 3) := by decide +kernel
theorem dX5_headGoesOn_38 : decode cX5_headGoesOn 38 = .ok (.iconst 0, 1) := by decide +kernel
theorem dX5_headGoesOn_39 : decode cX5_headGoesOn 39 = .ok (.ireturn, 1) := by decide +kernel
theorem dX5_headGoesOn_40 : decode cX5_headGoesOn 40 = .ok (.iload_n 1, 1) := by decide +kernel
theorem dX5_headGoesOn_41 : decode cX5_headGoesOn 41 = .ok (.bipush 47, 2) := by decide +kernel
theorem dX5_headGoesOn_43 : decode cX5_headGoesOn 43 = .ok (.if_icmp .ne 7, 3) := by decide +kernel
theorem dX5_headGoesOn_46 : decode cX5_headGoesOn 46 = .ok (.iconst 1, 1) := by decide +kernel
theorem dX5_headGoesOn_47 : decode cX5_headGoesOn 47 = .ok (.goto 4, 3) := by decide +kernel
theorem dX5_headGoesOn_50 : decode cX5_headGoesOn 50 = .ok (.iconst 0, 1) := by decide +kernel
theorem dX5_headGoesOn_51 : decode cX5_headGoesOn 51 = .ok (.ireturn, 1) := by decide +kernel
theorem dX5_headGoesOn_52 : decode cX5_headGoesOn 52 = .ok (.iload_n 1, 1) := by decide +kernel
theorem dX5_headGoesOn_53 : decode cX5_headGoesOn 53 = .ok (.iconst 0, 1) := by decide +kernel
theorem dX5_headGoesOn_54 : decode cX5_headGoesOn 54 = .ok (.bipush 7, 2) := by decide +kernel
theorem dX5_headGoesOn_56 : decode cX5_headGoesOn 56 = .ok (.invokestatic 79, 3) := by decide +kernel
theorem dX5_headGoesOn_59 : decode cX5_headGoesOn 59 = .ok (.ireturn, 1) := by decide +kernel
set_option maxRecDepth 20000 in
theorem ggX5_articleGoesOn_X5_kindOf : GoodIn wsX5_articleGoesOn wsX5_kindOf := goodIn_r _ [4] (by decide +kernel) (by decide +kernel)
set_option maxRecDepth 20000 in
theorem gX5_articleGoesOn_X5_kindOf : GoodIn wsX5_articleGoesOn (va_wsS RX5 62 yX5_kindOf wsX5_kindOf) := goodIn_app (goodIn_of _ (by decide +kernel)) ggX5_articleGoesOn_X5_kindOf
set_option maxRecDepth 20000 in
theorem ggX5_articleGoesOn_X5_isDigit : GoodIn wsX5_articleGoesOn wsX5_isDigit := goodIn_r _ [7, 8, 9, 10] (by decide +kernel) (by decide +kernel)
set_option maxRecDepth 20000 in
theorem gX5_articleGoesOn_X5_isDigit : GoodIn wsX5_articleGoesOn (va_wsS RX5 79 yX5_isDigit wsX5_isDigit) := goodIn_app (goodIn_of _ (by decide +kernel)) ggX5_articleGoesOn_X5_isDigit
theorem dX5_articleGoesOn_0 : decode cX5_articleGoesOn 0 = .ok (.iload_n 0, 1) := by decide +kernel
theorem dX5_articleGoesOn_1 : decode cX5_articleGoesOn 1 = .ok (.tableswitch 77 0 4 #[35, 47, 62, 77, 70], 35) := by decide +kernel
theorem dX5_articleGoesOn_36 : decode cX5_articleGoesOn 36 = .ok (.iload_n 1, 1) := by decide +kernel
theorem dX5_articleGoesOn_37 : decode cX5_articleGoesOn 37 = .ok (.bipush 59, 2) := by decide +kernel
theorem dX5_articleGoesOn_39 : decode cX5_articleGoesOn 39 = .ok (.if_icmp .ne 7, 3) := by decide +kernel
theorem dX5_articleGoesOn_42 : decode cX5_articleGoesOn 42 = .ok (.iconst 1, 1) := by decide +kernel
theorem dX5_articleGoesOn_43 : decode cX5_articleGoesOn 43 = .ok (.goto 4, 3) := by decide +kernel
theorem dX5_articleGoesOn_46 : decode cX5_articleGoesOn 46 = .ok (.iconst 0, 1) := by decide +kernel
theorem dX5_articleGoesOn_47 : decode cX5_articleGoesOn 47 = .ok (.ireturn, 1) := by decide +kernel
theorem dX5_articleGoesOn_48 : decode cX5_articleGoesOn 48 = .ok (.iload_n 1, 1) := by decide +kernel
theorem dX5_articleGoesOn_49 : decode cX5_articleGoesOn 49 = .ok (.invokestatic 62, 3) := by decide +kernel
theorem dX5_articleGoesOn_52 : decode cX5_articleGoesOn 52 = .ok (.bipush (-9), 2) := by decide +kernel
theorem dX5_articleGoesOn_54 : decode cX5_articleGoesOn 54 = .ok (.if_icmp .eq 7, 3) := by decide +kernel
theorem dX5_articleGoesOn_57 : decode cX5_articleGoesOn 57 = .ok (.iconst 1, 1) := by decide +kernel
theorem dX5_articleGoesOn_58 : decode cX5_articleGoesOn 58 = .ok (.goto 4, 3) := by decide +kernel
theorem dX5_articleGoesOn_61 : decode cX5_articleGoesOn 61 = .ok (.iconst 0, 1) := by decide +kernel
theorem dX5_articleGoesOn_62 : decode cX5_articleGoesOn 62 = .ok (.ireturn, 1) := by decide +kernel
theorem dX5_articleGoesOn_63 : decode cX5_articleGoesOn 63 = .ok (.iload_n 1, 1) := by decide +kernel
theorem dX5_articleGoesOn_64 : decode cX5_articleGoesOn 64 = .ok (.iconst 1, 1) := by decide +kernel
theorem dX5_articleGoesOn_65 : decode cX5_articleGoesOn 65 = .ok (.bipush 9, 2) := by decide +kernel
theorem dX5_articleGoesOn_67 : decode cX5_articleGoesOn 67 = .ok (.invokestatic 79, 3) := by decide +kernel
theorem dX5_articleGoesOn_70 : decode cX5_articleGoesOn 70 = .ok (.ireturn, 1) := by decide +kernel
theorem dX5_articleGoesOn_71 : decode cX5_articleGoesOn 71 = .ok (.iload_n 1, 1) := by decide +kernel
theorem dX5_articleGoesOn_72 : decode cX5_articleGoesOn 72 = .ok (.iconst 0, 1) := by decide +kernel
theorem dX5_articleGoesOn_73 : decode cX5_articleGoesOn 73 = .ok (.iconst 4, 1) := by decide +kernel
theorem dX5_articleGoesOn_74 : decode cX5_articleGoesOn 74 = .ok (.invokestatic 79, 3) := by decide +kernel
theorem dX5_articleGoesOn_77 : decode cX5_articleGoesOn 77 = .ok (.ireturn, 1) := by decide +kernel
theorem dX5_articleGoesOn_78 : decode cX5_articleGoesOn 78 = .ok (.iload_n 1, 1) := by decide +kernel
theorem dX5_articleGoesOn_79 : decode cX5_articleGoesOn 79 = .ok (.iconst 0, 1) := by decide +kernel
theorem dX5_articleGoesOn_80 : decode cX5_articleGoesOn 80 = .ok (.bipush 9, 2) := by decide +kernel
theorem dX5_articleGoesOn_82 : decode cX5_articleGoesOn 82 = .ok (.invokestatic 79, 3) := by decide +kernel
theorem dX5_articleGoesOn_85 : decode cX5_articleGoesOn 85 = .ok (.ireturn, 1) := by decide +kernel
theorem dX5_kindOf_0 : decode cX5_kindOf 0 = .ok (.iload_n 0, 1) := by decide +kernel
theorem dX5_kindOf_1 : decode cX5_kindOf 1 = .ok (.lookupswitch 41 #[(98, 37), (112, 39), (116, 35)], 35) := by decide +kernel
theorem dX5_kindOf_36 : decode cX5_kindOf 36 = .ok (.iconst 0, 1) := by decide +kernel
theorem dX5_kindOf_37 : decode cX5_kindOf 37 = .ok (.ireturn, 1) := by decide +kernel
theorem dX5_kindOf_38 : decode cX5_kindOf 38 = .ok (.iconst 1, 1) := by decide +kernel
theorem dX5_kindOf_39 : decode cX5_kindOf 39 = .ok (.ireturn, 1) := by decide +kernel
theorem dX5_kindOf_40 : decode cX5_kindOf 40 = .ok (.iconst 2, 1) := by decide +kernel
theorem dX5_kindOf_41 : decode cX5_kindOf 41 = .ok (.ireturn, 1) := by decide +kernel
theorem dX5_kindOf_42 : decode cX5_kindOf 42 = .ok (.bipush (-9), 2) := by decide +kernel
theorem dX5_kindOf_44 : decode cX5_kindOf 44 = .ok (.ireturn, 1) := by decide +kernel
set_option maxRecDepth 20000 in
theorem ggX5_isDigit_X7_within : GoodIn wsX5_isDigit wsX7_within := goodIn_r _ [3] (by decide +kernel) (by decide +kernel)
set_option maxRecDepth 20000 in
theorem gX5_isDigit_X7_within_n92 : GoodIn wsX5_isDigit (wsX7_within) := ggX5_isDigit_X7_within
theorem dX5_isDigit_0 : decode cX5_isDigit 0 = .ok (.iload_n 0, 1) := by decide +kernel
theorem dX5_isDigit_1 : decode cX5_isDigit 1 = .ok (.bipush 48, 2) := by decide +kernel
theorem dX5_isDigit_3 : decode cX5_isDigit 3 = .ok (.iload_n 1, 1) := by decide +kernel
theorem dX5_isDigit_4 : decode cX5_isDigit 4 = .ok (.iadd, 1) := by decide +kernel
theorem dX5_isDigit_5 : decode cX5_isDigit 5 = .ok (.bipush 48, 2) := by decide +kernel
theorem dX5_isDigit_7 : decode cX5_isDigit 7 = .ok (.iload_n 2, 1) := by decide +kernel
theorem dX5_isDigit_8 : decode cX5_isDigit 8 = .ok (.iadd, 1) := by decide +kernel
theorem dX5_isDigit_9 : decode cX5_isDigit 9 = .ok (.invokestatic 92, 3) := by decide +kernel
theorem dX5_isDigit_12 : decode cX5_isDigit 12 = .ok (.ireturn, 1) := by decide +kernel
set_option maxRecDepth 20000 in
theorem ggX5_digit_X4_at : GoodIn wsX5_digit wsX4_at := goodIn_r _ [5, 6, 7, 8, 9, 10] (by decide +kernel) (by decide +kernel)
set_option maxRecDepth 20000 in
theorem gX5_digit_X4_at : GoodIn wsX5_digit (wsV RX5 15 RX4 yX4_at wsX4_at) := goodIn_app (goodIn_of _ (by decide +kernel)) ggX5_digit_X4_at
theorem dX5_digit_0 : decode cX5_digit 0 = .ok (.aload_n 0, 1) := by decide +kernel
theorem dX5_digit_1 : decode cX5_digit 1 = .ok (.iload_n 1, 1) := by decide +kernel
theorem dX5_digit_2 : decode cX5_digit 2 = .ok (.invokevirtual 15, 3) := by decide +kernel
theorem dX5_digit_5 : decode cX5_digit 5 = .ok (.bipush 48, 2) := by decide +kernel
theorem dX5_digit_7 : decode cX5_digit 7 = .ok (.isub, 1) := by decide +kernel
theorem dX5_digit_8 : decode cX5_digit 8 = .ok (.ireturn, 1) := by decide +kernel
theorem dX6_init_0 : decode cX6_init 0 = .ok (.aload_n 0, 1) := by decide +kernel
theorem dX6_init_1 : decode cX6_init 1 = .ok (.invokespecial 3, 3) := by decide +kernel
theorem dX6_init_4 : decode cX6_init 4 = .ok (.aload_n 0, 1) := by decide +kernel
theorem dX6_init_5 : decode cX6_init 5 = .ok (.aload_n 1, 1) := by decide +kernel
theorem dX6_init_6 : decode cX6_init 6 = .ok (.putfield 9, 3) := by decide +kernel
theorem dX6_init_9 : decode cX6_init 9 = .ok (.return_, 1) := by decide +kernel
set_option maxRecDepth 20000 in
theorem ggX6_refusalOf_X4_at : GoodIn wsX6_refusalOf wsX4_at := goodIn_r _ [6, 7, 8, 23, 24, 25] (by decide +kernel) (by decide +kernel)
set_option maxRecDepth 20000 in
theorem gX6_refusalOf_X4_at : GoodIn wsX6_refusalOf (wsV RX6 15 RX4 yX4_at wsX4_at) := goodIn_app (goodIn_of _ (by decide +kernel)) ggX6_refusalOf_X4_at
set_option maxRecDepth 20000 in
theorem ggX6_refusalOf_X1_isArticle : GoodIn wsX6_refusalOf wsX1_isArticle := goodIn_r _ [13, 14, 26, 27, 28, 29, 30, 31] (by decide +kernel) (by decide +kernel)
set_option maxRecDepth 20000 in
theorem gX6_refusalOf_X1_isArticle : GoodIn wsX6_refusalOf (wsV RX6 21 RX1 yX1_isArticle wsX1_isArticle) := goodIn_app (goodIn_of _ (by decide +kernel)) ggX6_refusalOf_X1_isArticle
set_option maxRecDepth 20000 in
theorem ggX6_refusalOf_X7_within : GoodIn wsX6_refusalOf wsX7_within := goodIn_r _ [17] (by decide +kernel) (by decide +kernel)
set_option maxRecDepth 20000 in
theorem gX6_refusalOf_X7_within_n27 : GoodIn wsX6_refusalOf (wsX7_within) := ggX6_refusalOf_X7_within
theorem dX6_refusalOf_0 : decode cX6_refusalOf 0 = .ok (.iconst 0, 1) := by decide +kernel
theorem dX6_refusalOf_1 : decode cX6_refusalOf 1 = .ok (.istore 4, 2) := by decide +kernel
theorem dX6_refusalOf_3 : decode cX6_refusalOf 3 = .ok (.iload 4, 2) := by decide +kernel
theorem dX6_refusalOf_5 : decode cX6_refusalOf 5 = .ok (.iload_n 3, 1) := by decide +kernel
theorem dX6_refusalOf_6 : decode cX6_refusalOf 6 = .ok (.if_icmp .ge 54, 3) := by decide +kernel
theorem dX6_refusalOf_9 : decode cX6_refusalOf 9 = .ok (.aload_n 0, 1) := by decide +kernel
theorem dX6_refusalOf_10 : decode cX6_refusalOf 10 = .ok (.getfield 9, 3) := by decide +kernel
theorem dX6_refusalOf_13 : decode cX6_refusalOf 13 = .ok (.aload_n 1, 1) := by decide +kernel
theorem dX6_refusalOf_14 : decode cX6_refusalOf 14 = .ok (.iload_n 2, 1) := by decide +kernel
theorem dX6_refusalOf_15 : decode cX6_refusalOf 15 = .ok (.iconst 2, 1) := by decide +kernel
theorem dX6_refusalOf_16 : decode cX6_refusalOf 16 = .ok (.iload 4, 2) := by decide +kernel
theorem dX6_refusalOf_18 : decode cX6_refusalOf 18 = .ok (.imul, 1) := by decide +kernel
theorem dX6_refusalOf_19 : decode cX6_refusalOf 19 = .ok (.iadd, 1) := by decide +kernel
theorem dX6_refusalOf_20 : decode cX6_refusalOf 20 = .ok (.invokevirtual 15, 3) := by decide +kernel
theorem dX6_refusalOf_23 : decode cX6_refusalOf 23 = .ok (.invokevirtual 21, 3) := by decide +kernel
theorem dX6_refusalOf_26 : decode cX6_refusalOf 26 = .ok (.ifCond .ne 5, 3) := by decide +kernel
theorem dX6_refusalOf_29 : decode cX6_refusalOf 29 = .ok (.iconst (-1), 1) := by decide +kernel
theorem dX6_refusalOf_30 : decode cX6_refusalOf 30 = .ok (.ireturn, 1) := by decide +kernel
theorem dX6_refusalOf_31 : decode cX6_refusalOf 31 = .ok (.aload_n 1, 1) := by decide +kernel
theorem dX6_refusalOf_32 : decode cX6_refusalOf 32 = .ok (.iload_n 2, 1) := by decide +kernel
theorem dX6_refusalOf_33 : decode cX6_refusalOf 33 = .ok (.iconst 2, 1) := by decide +kernel
theorem dX6_refusalOf_34 : decode cX6_refusalOf 34 = .ok (.iload 4, 2) := by decide +kernel
theorem dX6_refusalOf_36 : decode cX6_refusalOf 36 = .ok (.imul, 1) := by decide +kernel
theorem dX6_refusalOf_37 : decode cX6_refusalOf 37 = .ok (.iadd, 1) := by decide +kernel
theorem dX6_refusalOf_38 : decode cX6_refusalOf 38 = .ok (.iconst 1, 1) := by decide +kernel
theorem dX6_refusalOf_39 : decode cX6_refusalOf 39 = .ok (.iadd, 1) := by decide +kernel
theorem dX6_refusalOf_40 : decode cX6_refusalOf 40 = .ok (.invokevirtual 15, 3) := by decide +kernel
theorem dX6_refusalOf_43 : decode cX6_refusalOf 43 = .ok (.iconst 0, 1) := by decide +kernel
theorem dX6_refusalOf_44 : decode cX6_refusalOf 44 = .ok (.iconst 1, 1) := by decide +kernel
theorem dX6_refusalOf_45 : decode cX6_refusalOf 45 = .ok (.invokestatic 27, 3) := by decide +kernel
theorem dX6_refusalOf_48 : decode cX6_refusalOf 48 = .ok (.ifCond .ne 6, 3) := by decide +kernel
theorem dX6_refusalOf_51 : decode cX6_refusalOf 51 = .ok (.bipush (-2), 2) := by decide +kernel
theorem dX6_refusalOf_53 : decode cX6_refusalOf 53 = .ok (.ireturn, 1) := by decide +kernel
theorem dX6_refusalOf_54 : decode cX6_refusalOf 54 = .ok (.iinc 4 1, 3) := by decide +kernel
theorem dX6_refusalOf_57 : decode cX6_refusalOf 57 = .ok (.goto (-54), 3) := by decide +kernel
theorem dX6_refusalOf_60 : decode cX6_refusalOf 60 = .ok (.iconst 0, 1) := by decide +kernel
theorem dX6_refusalOf_61 : decode cX6_refusalOf 61 = .ok (.ireturn, 1) := by decide +kernel
set_option maxRecDepth 20000 in
theorem ggX6_run_X4_at : GoodIn wsX6_run wsX4_at := goodIn_r _ [11, 12, 13, 71, 72, 73] (by decide +kernel) (by decide +kernel)
set_option maxRecDepth 20000 in
theorem gX6_run_X4_at : GoodIn wsX6_run (wsV RX6 15 RX4 yX4_at wsX4_at) := goodIn_app (goodIn_of _ (by decide +kernel)) ggX6_run_X4_at
set_option maxRecDepth 20000 in
theorem ggX6_run_X7_has : GoodIn wsX6_run wsX7_has := goodIn_r _ [16] (by decide +kernel) (by decide +kernel)
set_option maxRecDepth 20000 in
theorem gX6_run_X7_has_n45 : GoodIn wsX6_run (wsX7_has) := ggX6_run_X7_has
set_option maxRecDepth 20000 in
theorem ggX6_run_X6_go : GoodIn wsX6_run wsX6_go := goodIn_r _ [21, 1, 3, 4, 5, 22, 23, 24, 25, 26, 27, 28, 29, 30, 31, 32, 33, 34, 35, 36, 37, 38, 39, 40, 41, 14, 15, 16, 42, 43, 44, 45, 46, 47, 48, 49, 50, 51, 52, 53, 54, 55, 56, 57, 58, 59, 60, 61, 62, 63, 64, 65, 66, 67, 68, 69, 70, 74, 75, 76, 77] (by decide +kernel) (by decide +kernel)
set_option maxRecDepth 20000 in
theorem gX6_run_X6_go : GoodIn wsX6_run (wsV RX6 49 RX6 yX6_go wsX6_go) := goodIn_app (goodIn_of _ (by decide +kernel)) ggX6_run_X6_go
theorem dX6_run_0 : decode cX6_run 0 = .ok (.aload_n 0, 1) := by decide +kernel
theorem dX6_run_1 : decode cX6_run 1 = .ok (.aload_n 0, 1) := by decide +kernel
theorem dX6_run_2 : decode cX6_run 2 = .ok (.getfield 9, 3) := by decide +kernel
theorem dX6_run_5 : decode cX6_run 5 = .ok (.getfield 31, 3) := by decide +kernel
theorem dX6_run_8 : decode cX6_run 8 = .ok (.putfield 35, 3) := by decide +kernel
theorem dX6_run_11 : decode cX6_run 11 = .ok (.aload_n 0, 1) := by decide +kernel
theorem dX6_run_12 : decode cX6_run 12 = .ok (.iconst 0, 1) := by decide +kernel
theorem dX6_run_13 : decode cX6_run 13 = .ok (.putfield 36, 3) := by decide +kernel
theorem dX6_run_16 : decode cX6_run 16 = .ok (.aload_n 0, 1) := by decide +kernel
theorem dX6_run_17 : decode cX6_run 17 = .ok (.iconst 0, 1) := by decide +kernel
theorem dX6_run_18 : decode cX6_run 18 = .ok (.putfield 39, 3) := by decide +kernel
theorem dX6_run_21 : decode cX6_run 21 = .ok (.aload_n 0, 1) := by decide +kernel
theorem dX6_run_22 : decode cX6_run 22 = .ok (.bipush (-9), 2) := by decide +kernel
theorem dX6_run_24 : decode cX6_run 24 = .ok (.putfield 42, 3) := by decide +kernel
theorem dX6_run_27 : decode cX6_run 27 = .ok (.iconst 0, 1) := by decide +kernel
theorem dX6_run_28 : decode cX6_run 28 = .ok (.istore 4, 2) := by decide +kernel
theorem dX6_run_30 : decode cX6_run 30 = .ok (.iload 4, 2) := by decide +kernel
theorem dX6_run_32 : decode cX6_run 32 = .ok (.iload_n 3, 1) := by decide +kernel
theorem dX6_run_33 : decode cX6_run 33 = .ok (.if_icmp .ge 108, 3) := by decide +kernel
theorem dX6_run_36 : decode cX6_run 36 = .ok (.aload_n 0, 1) := by decide +kernel
theorem dX6_run_37 : decode cX6_run 37 = .ok (.getfield 42, 3) := by decide +kernel
theorem dX6_run_40 : decode cX6_run 40 = .ok (.bipush (-9), 2) := by decide +kernel
theorem dX6_run_42 : decode cX6_run 42 = .ok (.if_icmp .ne 99, 3) := by decide +kernel
theorem dX6_run_45 : decode cX6_run 45 = .ok (.aload_n 1, 1) := by decide +kernel
theorem dX6_run_46 : decode cX6_run 46 = .ok (.iload_n 2, 1) := by decide +kernel
theorem dX6_run_47 : decode cX6_run 47 = .ok (.iconst 2, 1) := by decide +kernel
theorem dX6_run_48 : decode cX6_run 48 = .ok (.iload 4, 2) := by decide +kernel
theorem dX6_run_50 : decode cX6_run 50 = .ok (.imul, 1) := by decide +kernel
theorem dX6_run_51 : decode cX6_run 51 = .ok (.iadd, 1) := by decide +kernel
theorem dX6_run_52 : decode cX6_run 52 = .ok (.invokevirtual 15, 3) := by decide +kernel
theorem dX6_run_55 : decode cX6_run 55 = .ok (.istore 5, 2) := by decide +kernel
theorem dX6_run_57 : decode cX6_run 57 = .ok (.aload_n 1, 1) := by decide +kernel
theorem dX6_run_58 : decode cX6_run 58 = .ok (.iload_n 2, 1) := by decide +kernel
theorem dX6_run_59 : decode cX6_run 59 = .ok (.iconst 2, 1) := by decide +kernel
theorem dX6_run_60 : decode cX6_run 60 = .ok (.iload 4, 2) := by decide +kernel
theorem dX6_run_62 : decode cX6_run 62 = .ok (.imul, 1) := by decide +kernel
theorem dX6_run_63 : decode cX6_run 63 = .ok (.iadd, 1) := by decide +kernel
theorem dX6_run_64 : decode cX6_run 64 = .ok (.iconst 1, 1) := by decide +kernel
theorem dX6_run_65 : decode cX6_run 65 = .ok (.iadd, 1) := by decide +kernel
theorem dX6_run_66 : decode cX6_run 66 = .ok (.invokevirtual 15, 3) := by decide +kernel
theorem dX6_run_69 : decode cX6_run 69 = .ok (.iconst 1, 1) := by decide +kernel
theorem dX6_run_70 : decode cX6_run 70 = .ok (.if_icmp .ne 7, 3) := by decide +kernel
theorem dX6_run_73 : decode cX6_run 73 = .ok (.iconst 1, 1) := by decide +kernel
theorem dX6_run_74 : decode cX6_run 74 = .ok (.goto 4, 3) := by decide +kernel
theorem dX6_run_77 : decode cX6_run 77 = .ok (.iconst 0, 1) := by decide +kernel
theorem dX6_run_78 : decode cX6_run 78 = .ok (.istore 6, 2) := by decide +kernel
theorem dX6_run_80 : decode cX6_run 80 = .ok (.aload_n 0, 1) := by decide +kernel
theorem dX6_run_81 : decode cX6_run 81 = .ok (.getfield 35, 3) := by decide +kernel
theorem dX6_run_84 : decode cX6_run 84 = .ok (.iload 5, 2) := by decide +kernel
theorem dX6_run_86 : decode cX6_run 86 = .ok (.invokestatic 45, 3) := by decide +kernel
theorem dX6_run_89 : decode cX6_run 89 = .ok (.iload 6, 2) := by decide +kernel
theorem dX6_run_91 : decode cX6_run 91 = .ok (.if_icmp .ne 38, 3) := by decide +kernel
theorem dX6_run_94 : decode cX6_run 94 = .ok (.aload_n 0, 1) := by decide +kernel
theorem dX6_run_95 : decode cX6_run 95 = .ok (.iload 6, 2) := by decide +kernel
theorem dX6_run_97 : decode cX6_run 97 = .ok (.ifCond .eq 17, 3) := by decide +kernel
theorem dX6_run_100 : decode cX6_run 100 = .ok (.aload_n 0, 1) := by decide +kernel
theorem dX6_run_101 : decode cX6_run 101 = .ok (.getfield 35, 3) := by decide +kernel
theorem dX6_run_104 : decode cX6_run 104 = .ok (.iconst 1, 1) := by decide +kernel
theorem dX6_run_105 : decode cX6_run 105 = .ok (.iload 5, 2) := by decide +kernel
theorem dX6_run_107 : decode cX6_run 107 = .ok (.ishl, 1) := by decide +kernel
theorem dX6_run_108 : decode cX6_run 108 = .ok (.iconst (-1), 1) := by decide +kernel
theorem dX6_run_109 : decode cX6_run 109 = .ok (.ixor, 1) := by decide +kernel
theorem dX6_run_110 : decode cX6_run 110 = .ok (.iand, 1) := by decide +kernel
theorem dX6_run_111 : decode cX6_run 111 = .ok (.goto 12, 3) := by decide +kernel
theorem dX6_run_114 : decode cX6_run 114 = .ok (.aload_n 0, 1) := by decide +kernel
theorem dX6_run_115 : decode cX6_run 115 = .ok (.getfield 35, 3) := by decide +kernel
theorem dX6_run_118 : decode cX6_run 118 = .ok (.iconst 1, 1) := by decide +kernel
theorem dX6_run_119 : decode cX6_run 119 = .ok (.iload 5, 2) := by decide +kernel
theorem dX6_run_121 : decode cX6_run 121 = .ok (.ishl, 1) := by decide +kernel
theorem dX6_run_122 : decode cX6_run 122 = .ok (.ior, 1) := by decide +kernel
theorem dX6_run_123 : decode cX6_run 123 = .ok (.invokevirtual 49, 3) := by decide +kernel
theorem dX6_run_126 : decode cX6_run 126 = .ok (.goto 9, 3) := by decide +kernel
theorem dX6_run_129 : decode cX6_run 129 = .ok (.aload_n 0, 1) := by decide +kernel
theorem dX6_run_130 : decode cX6_run 130 = .ok (.iload 4, 2) := by decide +kernel
theorem dX6_run_132 : decode cX6_run 132 = .ok (.putfield 42, 3) := by decide +kernel
theorem dX6_run_135 : decode cX6_run 135 = .ok (.iinc 4 1, 3) := by decide +kernel
theorem dX6_run_138 : decode cX6_run 138 = .ok (.goto (-108), 3) := by decide +kernel
theorem dX6_run_141 : decode cX6_run 141 = .ok (.return_, 1) := by decide +kernel
set_option maxRecDepth 20000 in
theorem ggX6_go_X1_companyOf : GoodIn wsX6_go wsX1_companyOf := goodIn_r _ [13, 14, 15, 16, 12, 17, 18, 19, 20, 21, 22, 23, 24, 25, 26, 27, 28, 29, 30, 31, 32, 33, 34, 35, 36, 37, 51, 52, 53, 54, 55, 56, 57, 58, 59, 60] (by decide +kernel) (by decide +kernel)
set_option maxRecDepth 20000 in
theorem gX6_go_X1_companyOf : GoodIn wsX6_go (wsV RX6 53 RX1 yX1_companyOf wsX1_companyOf) := goodIn_app (goodIn_of _ (by decide +kernel)) ggX6_go_X1_companyOf
set_option maxRecDepth 20000 in
theorem ggX6_go_J6_bitCount_0f7a4 : GoodIn wsX6_go wsJ6_bitCount_0f7a4 := goodIn_r _ [41, 42, 43, 44] (by decide +kernel) (by decide +kernel)
set_option maxRecDepth 20000 in
theorem gX6_go_J6_bitCount_0f7a4 : GoodIn wsX6_go (va_wsS RX6 56 yJ6_bitCount_0f7a4 wsJ6_bitCount_0f7a4) := goodIn_app (goodIn_of _ (by decide +kernel)) ggX6_go_J6_bitCount_0f7a4
set_option maxRecDepth 20000 in
theorem ggX6_go_X1_laughOf : GoodIn wsX6_go wsX1_laughOf := goodIn_r _ [24, 18, 19, 25, 26, 27, 28, 29, 30, 31, 32, 33, 34, 35, 36, 37, 51, 52, 53, 54, 55, 56, 57, 58, 59, 60] (by decide +kernel) (by decide +kernel)
set_option maxRecDepth 20000 in
theorem gX6_go_X1_laughOf : GoodIn wsX6_go (wsV RX6 61 RX1 yX1_laughOf wsX1_laughOf) := goodIn_app (goodIn_of _ (by decide +kernel)) ggX6_go_X1_laughOf
theorem dX6_go_0 : decode cX6_go 0 = .ok (.aload_n 0, 1) := by decide +kernel
theorem dX6_go_1 : decode cX6_go 1 = .ok (.aload_n 0, 1) := by decide +kernel
theorem dX6_go_2 : decode cX6_go 2 = .ok (.getfield 9, 3) := by decide +kernel
theorem dX6_go_5 : decode cX6_go 5 = .ok (.iload_n 1, 1) := by decide +kernel
theorem dX6_go_6 : decode cX6_go 6 = .ok (.invokevirtual 53, 3) := by decide +kernel
theorem dX6_go_9 : decode cX6_go 9 = .ok (.putfield 35, 3) := by decide +kernel
theorem dX6_go_12 : decode cX6_go 12 = .ok (.aload_n 0, 1) := by decide +kernel
theorem dX6_go_13 : decode cX6_go 13 = .ok (.dup, 1) := by decide +kernel
theorem dX6_go_14 : decode cX6_go 14 = .ok (.getfield 36, 3) := by decide +kernel
theorem dX6_go_17 : decode cX6_go 17 = .ok (.iload_n 1, 1) := by decide +kernel
theorem dX6_go_18 : decode cX6_go 18 = .ok (.aload_n 0, 1) := by decide +kernel
theorem dX6_go_19 : decode cX6_go 19 = .ok (.getfield 35, 3) := by decide +kernel
theorem dX6_go_22 : decode cX6_go 22 = .ok (.iconst (-1), 1) := by decide +kernel
theorem dX6_go_23 : decode cX6_go 23 = .ok (.ixor, 1) := by decide +kernel
theorem dX6_go_24 : decode cX6_go 24 = .ok (.iand, 1) := by decide +kernel
theorem dX6_go_25 : decode cX6_go 25 = .ok (.invokestatic 56, 3) := by decide +kernel
theorem dX6_go_28 : decode cX6_go 28 = .ok (.iadd, 1) := by decide +kernel
theorem dX6_go_29 : decode cX6_go 29 = .ok (.putfield 36, 3) := by decide +kernel
theorem dX6_go_32 : decode cX6_go 32 = .ok (.aload_n 0, 1) := by decide +kernel
theorem dX6_go_33 : decode cX6_go 33 = .ok (.aload_n 0, 1) := by decide +kernel
theorem dX6_go_34 : decode cX6_go 34 = .ok (.getfield 39, 3) := by decide +kernel
theorem dX6_go_37 : decode cX6_go 37 = .ok (.aload_n 0, 1) := by decide +kernel
theorem dX6_go_38 : decode cX6_go 38 = .ok (.getfield 9, 3) := by decide +kernel
theorem dX6_go_41 : decode cX6_go 41 = .ok (.aload_n 0, 1) := by decide +kernel
theorem dX6_go_42 : decode cX6_go 42 = .ok (.getfield 35, 3) := by decide +kernel
theorem dX6_go_45 : decode cX6_go 45 = .ok (.invokevirtual 61, 3) := by decide +kernel
theorem dX6_go_48 : decode cX6_go 48 = .ok (.invokestatic 64, 3) := by decide +kernel
theorem dX6_go_51 : decode cX6_go 51 = .ok (.putfield 39, 3) := by decide +kernel
theorem dX6_go_54 : decode cX6_go 54 = .ok (.return_, 1) := by decide +kernel
set_option maxRecDepth 20000 in
theorem ggX6_answer_J6_bitCount_0f7a4 : GoodIn wsX6_answer wsJ6_bitCount_0f7a4 := goodIn_r _ [9, 10, 11, 12] (by decide +kernel) (by decide +kernel)
set_option maxRecDepth 20000 in
theorem gX6_answer_J6_bitCount_0f7a4 : GoodIn wsX6_answer (va_wsS RX6 56 yJ6_bitCount_0f7a4 wsJ6_bitCount_0f7a4) := goodIn_app (goodIn_of _ (by decide +kernel)) ggX6_answer_J6_bitCount_0f7a4
set_option maxRecDepth 20000 in
theorem ggX6_answer_X1_laughOf : GoodIn wsX6_answer wsX1_laughOf := goodIn_r _ [17, 18, 19, 20, 21, 22, 23, 24, 25, 26, 27, 28, 29, 30, 31, 32, 38, 39, 40, 41, 42, 43, 44, 45, 46, 47] (by decide +kernel) (by decide +kernel)
set_option maxRecDepth 20000 in
theorem gX6_answer_X1_laughOf : GoodIn wsX6_answer (wsV RX6 61 RX1 yX1_laughOf wsX1_laughOf) := goodIn_app (goodIn_of _ (by decide +kernel)) ggX6_answer_X1_laughOf
theorem dX6_answer_0 : decode cX6_answer 0 = .ok (.iload_n 1, 1) := by decide +kernel
theorem dX6_answer_1 : decode cX6_answer 1 = .ok (.iconst 1, 1) := by decide +kernel
theorem dX6_answer_2 : decode cX6_answer 2 = .ok (.if_icmp .ne 8, 3) := by decide +kernel
theorem dX6_answer_5 : decode cX6_answer 5 = .ok (.aload_n 0, 1) := by decide +kernel
theorem dX6_answer_6 : decode cX6_answer 6 = .ok (.getfield 42, 3) := by decide +kernel
theorem dX6_answer_9 : decode cX6_answer 9 = .ok (.ireturn, 1) := by decide +kernel
theorem dX6_answer_10 : decode cX6_answer 10 = .ok (.aload_n 0, 1) := by decide +kernel
theorem dX6_answer_11 : decode cX6_answer 11 = .ok (.getfield 42, 3) := by decide +kernel
theorem dX6_answer_14 : decode cX6_answer 14 = .ok (.bipush (-9), 2) := by decide +kernel
theorem dX6_answer_16 : decode cX6_answer 16 = .ok (.if_icmp .eq 11, 3) := by decide +kernel
theorem dX6_answer_19 : decode cX6_answer 19 = .ok (.bipush (-100), 2) := by decide +kernel
theorem dX6_answer_21 : decode cX6_answer 21 = .ok (.aload_n 0, 1) := by decide +kernel
theorem dX6_answer_22 : decode cX6_answer 22 = .ok (.getfield 42, 3) := by decide +kernel
theorem dX6_answer_25 : decode cX6_answer 25 = .ok (.isub, 1) := by decide +kernel
theorem dX6_answer_26 : decode cX6_answer 26 = .ok (.ireturn, 1) := by decide +kernel
theorem dX6_answer_27 : decode cX6_answer 27 = .ok (.iload_n 1, 1) := by decide +kernel
theorem dX6_answer_28 : decode cX6_answer 28 = .ok (.tableswitch 66 0 4 #[36, 66, 44, 49, 54], 36) := by decide +kernel
theorem dX6_answer_64 : decode cX6_answer 64 = .ok (.aload_n 0, 1) := by decide +kernel
theorem dX6_answer_65 : decode cX6_answer 65 = .ok (.getfield 35, 3) := by decide +kernel
theorem dX6_answer_68 : decode cX6_answer 68 = .ok (.invokestatic 56, 3) := by decide +kernel
theorem dX6_answer_71 : decode cX6_answer 71 = .ok (.ireturn, 1) := by decide +kernel
theorem dX6_answer_72 : decode cX6_answer 72 = .ok (.aload_n 0, 1) := by decide +kernel
theorem dX6_answer_73 : decode cX6_answer 73 = .ok (.getfield 35, 3) := by decide +kernel
theorem dX6_answer_76 : decode cX6_answer 76 = .ok (.ireturn, 1) := by decide +kernel
theorem dX6_answer_77 : decode cX6_answer 77 = .ok (.aload_n 0, 1) := by decide +kernel
theorem dX6_answer_78 : decode cX6_answer 78 = .ok (.getfield 36, 3) := by decide +kernel
theorem dX6_answer_81 : decode cX6_answer 81 = .ok (.ireturn, 1) := by decide +kernel
theorem dX6_answer_82 : decode cX6_answer 82 = .ok (.aload_n 0, 1) := by decide +kernel
theorem dX6_answer_83 : decode cX6_answer 83 = .ok (.getfield 9, 3) := by decide +kernel
theorem dX6_answer_86 : decode cX6_answer 86 = .ok (.aload_n 0, 1) := by decide +kernel
theorem dX6_answer_87 : decode cX6_answer 87 = .ok (.getfield 35, 3) := by decide +kernel
theorem dX6_answer_90 : decode cX6_answer 90 = .ok (.invokevirtual 61, 3) := by decide +kernel
theorem dX6_answer_93 : decode cX6_answer 93 = .ok (.ireturn, 1) := by decide +kernel
theorem dX6_answer_94 : decode cX6_answer 94 = .ok (.aload_n 0, 1) := by decide +kernel
theorem dX6_answer_95 : decode cX6_answer 95 = .ok (.getfield 39, 3) := by decide +kernel
theorem dX6_answer_98 : decode cX6_answer 98 = .ok (.ireturn, 1) := by decide +kernel
set_option maxRecDepth 20000 in
theorem ggX7_init_X1_init : GoodIn wsX7_init wsX1_init := goodIn_r _ [28, 29, 2, 3, 30, 31, 32, 33, 34, 35, 36, 37, 38, 65, 66, 67, 68, 69, 70, 94, 95, 96, 97] (by decide +kernel) (by decide +kernel)
set_option maxRecDepth 20000 in
theorem gX7_init_X1_init : GoodIn wsX7_init (wsX1_init) := ggX7_init_X1_init
set_option maxRecDepth 20000 in
theorem ggX7_init_X3_init : GoodIn wsX7_init wsX3_init := goodIn_r _ [41, 42, 2, 3, 34, 43, 44, 78, 79, 80] (by decide +kernel) (by decide +kernel)
set_option maxRecDepth 20000 in
theorem gX7_init_X3_init : GoodIn wsX7_init (wsX3_init) := ggX7_init_X3_init
set_option maxRecDepth 20000 in
theorem ggX7_init_X2_init : GoodIn wsX7_init wsX2_init := goodIn_r _ [47, 48, 2, 3, 49, 34, 50, 51, 52, 81, 82, 83, 84, 85] (by decide +kernel) (by decide +kernel)
set_option maxRecDepth 20000 in
theorem gX7_init_X2_init : GoodIn wsX7_init (wsX2_init) := ggX7_init_X2_init
set_option maxRecDepth 20000 in
theorem ggX7_init_X6_init : GoodIn wsX7_init wsX6_init := goodIn_r _ [55, 56, 2, 3, 57, 86, 87, 88, 89, 90] (by decide +kernel) (by decide +kernel)
set_option maxRecDepth 20000 in
theorem gX7_init_X6_init : GoodIn wsX7_init (wsX6_init) := ggX7_init_X6_init
set_option maxRecDepth 20000 in
theorem ggX7_init_X4_init : GoodIn wsX7_init wsX4_init := goodIn_r _ [60, 61, 2, 3, 34, 62, 63, 64, 91, 92, 93] (by decide +kernel) (by decide +kernel)
set_option maxRecDepth 20000 in
theorem gX7_init_X4_init : GoodIn wsX7_init (wsX4_init) := ggX7_init_X4_init
theorem dX7_init_0 : decode cX7_init 0 = .ok (.aload_n 0, 1) := by decide +kernel
theorem dX7_init_1 : decode cX7_init 1 = .ok (.invokespecial 3, 3) := by decide +kernel
theorem dX7_init_4 : decode cX7_init 4 = .ok (.aload_n 0, 1) := by decide +kernel
theorem dX7_init_5 : decode cX7_init 5 = .ok (.new 9, 3) := by decide +kernel
theorem dX7_init_8 : decode cX7_init 8 = .ok (.dup, 1) := by decide +kernel
theorem dX7_init_9 : decode cX7_init 9 = .ok (.invokespecial 11, 3) := by decide +kernel
theorem dX7_init_12 : decode cX7_init 12 = .ok (.putfield 12, 3) := by decide +kernel
theorem dX7_init_15 : decode cX7_init 15 = .ok (.aload_n 0, 1) := by decide +kernel
theorem dX7_init_16 : decode cX7_init 16 = .ok (.new 18, 3) := by decide +kernel
theorem dX7_init_19 : decode cX7_init 19 = .ok (.dup, 1) := by decide +kernel
theorem dX7_init_20 : decode cX7_init 20 = .ok (.invokespecial 20, 3) := by decide +kernel
theorem dX7_init_23 : decode cX7_init 23 = .ok (.putfield 21, 3) := by decide +kernel
theorem dX7_init_26 : decode cX7_init 26 = .ok (.aload_n 0, 1) := by decide +kernel
theorem dX7_init_27 : decode cX7_init 27 = .ok (.new 25, 3) := by decide +kernel
theorem dX7_init_30 : decode cX7_init 30 = .ok (.dup, 1) := by decide +kernel
theorem dX7_init_31 : decode cX7_init 31 = .ok (.aload_n 0, 1) := by decide +kernel
theorem dX7_init_32 : decode cX7_init 32 = .ok (.getfield 12, 3) := by decide +kernel
theorem dX7_init_35 : decode cX7_init 35 = .ok (.invokespecial 27, 3) := by decide +kernel
theorem dX7_init_38 : decode cX7_init 38 = .ok (.putfield 30, 3) := by decide +kernel
theorem dX7_init_41 : decode cX7_init 41 = .ok (.aload_n 0, 1) := by decide +kernel
theorem dX7_init_42 : decode cX7_init 42 = .ok (.new 34, 3) := by decide +kernel
theorem dX7_init_45 : decode cX7_init 45 = .ok (.dup, 1) := by decide +kernel
theorem dX7_init_46 : decode cX7_init 46 = .ok (.aload_n 0, 1) := by decide +kernel
theorem dX7_init_47 : decode cX7_init 47 = .ok (.getfield 12, 3) := by decide +kernel
theorem dX7_init_50 : decode cX7_init 50 = .ok (.invokespecial 36, 3) := by decide +kernel
theorem dX7_init_53 : decode cX7_init 53 = .ok (.putfield 37, 3) := by decide +kernel
theorem dX7_init_56 : decode cX7_init 56 = .ok (.aload_n 0, 1) := by decide +kernel
theorem dX7_init_57 : decode cX7_init 57 = .ok (.iconst 4, 1) := by decide +kernel
theorem dX7_init_58 : decode cX7_init 58 = .ok (.anewarray 41, 3) := by decide +kernel
theorem dX7_init_61 : decode cX7_init 61 = .ok (.putfield 43, 3) := by decide +kernel
theorem dX7_init_64 : decode cX7_init 64 = .ok (.iconst 0, 1) := by decide +kernel
theorem dX7_init_65 : decode cX7_init 65 = .ok (.istore_n 1, 1) := by decide +kernel
theorem dX7_init_66 : decode cX7_init 66 = .ok (.iload_n 1, 1) := by decide +kernel
theorem dX7_init_67 : decode cX7_init 67 = .ok (.iconst 4, 1) := by decide +kernel
theorem dX7_init_68 : decode cX7_init 68 = .ok (.if_icmp .ge 22, 3) := by decide +kernel
theorem dX7_init_71 : decode cX7_init 71 = .ok (.aload_n 0, 1) := by decide +kernel
theorem dX7_init_72 : decode cX7_init 72 = .ok (.getfield 43, 3) := by decide +kernel
theorem dX7_init_75 : decode cX7_init 75 = .ok (.iload_n 1, 1) := by decide +kernel
theorem dX7_init_76 : decode cX7_init 76 = .ok (.new 41, 3) := by decide +kernel
theorem dX7_init_79 : decode cX7_init 79 = .ok (.dup, 1) := by decide +kernel
theorem dX7_init_80 : decode cX7_init 80 = .ok (.invokespecial 47, 3) := by decide +kernel
theorem dX7_init_83 : decode cX7_init 83 = .ok (.aastore, 1) := by decide +kernel
theorem dX7_init_84 : decode cX7_init 84 = .ok (.iinc 1 1, 3) := by decide +kernel
theorem dX7_init_87 : decode cX7_init 87 = .ok (.goto (-21), 3) := by decide +kernel
theorem dX7_init_90 : decode cX7_init 90 = .ok (.aload_n 0, 1) := by decide +kernel
theorem dX7_init_91 : decode cX7_init 91 = .ok (.iconst 0, 1) := by decide +kernel
theorem dX7_init_92 : decode cX7_init 92 = .ok (.putfield 48, 3) := by decide +kernel
theorem dX7_init_95 : decode cX7_init 95 = .ok (.aload_n 0, 1) := by decide +kernel
theorem dX7_init_96 : decode cX7_init 96 = .ok (.iconst 0, 1) := by decide +kernel
theorem dX7_init_97 : decode cX7_init 97 = .ok (.putfield 52, 3) := by decide +kernel
theorem dX7_init_100 : decode cX7_init 100 = .ok (.return_, 1) := by decide +kernel
set_option maxRecDepth 20000 in
theorem ggX7_city_X7_isSheet : GoodIn wsX7_city wsX7_isSheet := goodIn_r _ [10, 11, 12, 9, 13] (by decide +kernel) (by decide +kernel)
set_option maxRecDepth 20000 in
theorem gX7_city_X7_isSheet : GoodIn wsX7_city (va_wsS RX7 55 yX7_isSheet wsX7_isSheet) := goodIn_app (goodIn_of _ (by decide +kernel)) ggX7_city_X7_isSheet
set_option maxRecDepth 20000 in
theorem ggX7_city_X7_isLane : GoodIn wsX7_city wsX7_isLane := goodIn_r _ [16, 11, 12, 9, 13] (by decide +kernel) (by decide +kernel)
set_option maxRecDepth 20000 in
theorem gX7_city_X7_isLane : GoodIn wsX7_city (va_wsS RX7 59 yX7_isLane wsX7_isLane) := goodIn_app (goodIn_of _ (by decide +kernel)) ggX7_city_X7_isLane
set_option maxRecDepth 20000 in
theorem ggX7_city_X4_faultOfTaking : GoodIn wsX7_city wsX4_faultOfTaking := goodIn_r _ [21, 22, 23, 24, 25, 20, 26, 27, 28, 29, 30, 31, 105, 106, 107] (by decide +kernel) (by decide +kernel)
set_option maxRecDepth 20000 in
theorem gX7_city_X4_faultOfTaking : GoodIn wsX7_city (wsV RX7 62 RX4 yX4_faultOfTaking wsX4_faultOfTaking) := goodIn_app (goodIn_of _ (by decide +kernel)) ggX7_city_X4_faultOfTaking
set_option maxRecDepth 20000 in
theorem ggX7_city_X7_failed : GoodIn wsX7_city wsX7_failed := goodIn_r _ [35, 1, 89, 90, 91, 92, 93, 94, 95] (by decide +kernel) (by decide +kernel)
set_option maxRecDepth 20000 in
theorem gX7_city_X7_failed : GoodIn wsX7_city (wsV RX7 66 RX7 yX7_failed wsX7_failed) := goodIn_app (goodIn_of _ (by decide +kernel)) ggX7_city_X7_failed
set_option maxRecDepth 20000 in
theorem ggX7_city_X5_firstFault : GoodIn wsX7_city wsX5_firstFault := goodIn_r _ [39, 40, 41, 38, 42, 43, 44, 45, 46, 47, 48, 49, 50, 51, 52, 20, 53, 31, 54, 55, 56, 57, 12, 9, 13, 58, 59, 60, 61, 62, 63, 64, 65, 66, 67, 68, 69, 105, 106, 107] (by decide +kernel) (by decide +kernel)
set_option maxRecDepth 20000 in
theorem gX7_city_X5_firstFault : GoodIn wsX7_city (va_wsS RX7 70 yX5_firstFault wsX5_firstFault) := goodIn_app (goodIn_of _ (by decide +kernel)) ggX7_city_X5_firstFault
set_option maxRecDepth 20000 in
theorem ggX7_city_X5_build : GoodIn wsX7_city wsX5_build := goodIn_r _ [72, 73, 74, 75, 43, 44, 45, 46, 76, 77, 78, 40, 41, 38, 42, 47, 48, 49, 50, 51, 52, 20, 53, 31, 54, 55, 56, 57, 12, 9, 13, 79, 80, 81, 82, 83, 84, 85, 86, 87, 88, 67, 68, 69, 99, 100, 101, 102, 103, 104, 105, 106, 107, 108, 109, 110, 111] (by decide +kernel) (by decide +kernel)
set_option maxRecDepth 20000 in
theorem gX7_city_X5_build : GoodIn wsX7_city (va_wsS RX7 76 yX5_build wsX5_build) := goodIn_app (goodIn_of _ (by decide +kernel)) ggX7_city_X5_build
theorem dX7_city_0 : decode cX7_city 0 = .ok (.aload_n 0, 1) := by decide +kernel
theorem dX7_city_1 : decode cX7_city 1 = .ok (.iconst 0, 1) := by decide +kernel
theorem dX7_city_2 : decode cX7_city 2 = .ok (.putfield 52, 3) := by decide +kernel
theorem dX7_city_5 : decode cX7_city 5 = .ok (.iload_n 1, 1) := by decide +kernel
theorem dX7_city_6 : decode cX7_city 6 = .ok (.invokestatic 55, 3) := by decide +kernel
theorem dX7_city_9 : decode cX7_city 9 = .ok (.ifCond .ne 5, 3) := by decide +kernel
theorem dX7_city_12 : decode cX7_city 12 = .ok (.iconst (-1), 1) := by decide +kernel
theorem dX7_city_13 : decode cX7_city 13 = .ok (.ireturn, 1) := by decide +kernel
theorem dX7_city_14 : decode cX7_city 14 = .ok (.iload_n 2, 1) := by decide +kernel
theorem dX7_city_15 : decode cX7_city 15 = .ok (.invokestatic 59, 3) := by decide +kernel
theorem dX7_city_18 : decode cX7_city 18 = .ok (.ifCond .ne 6, 3) := by decide +kernel
theorem dX7_city_21 : decode cX7_city 21 = .ok (.bipush (-2), 2) := by decide +kernel
theorem dX7_city_23 : decode cX7_city 23 = .ok (.ireturn, 1) := by decide +kernel
theorem dX7_city_24 : decode cX7_city 24 = .ok (.aload_n 0, 1) := by decide +kernel
theorem dX7_city_25 : decode cX7_city 25 = .ok (.getfield 43, 3) := by decide +kernel
theorem dX7_city_28 : decode cX7_city 28 = .ok (.iload_n 1, 1) := by decide +kernel
theorem dX7_city_29 : decode cX7_city 29 = .ok (.aaload, 1) := by decide +kernel
theorem dX7_city_30 : decode cX7_city 30 = .ok (.astore 5, 2) := by decide +kernel
theorem dX7_city_32 : decode cX7_city 32 = .ok (.aload 5, 2) := by decide +kernel
theorem dX7_city_34 : decode cX7_city 34 = .ok (.iload_n 2, 1) := by decide +kernel
theorem dX7_city_35 : decode cX7_city 35 = .ok (.iload_n 3, 1) := by decide +kernel
theorem dX7_city_36 : decode cX7_city 36 = .ok (.iload 4, 2) := by decide +kernel
theorem dX7_city_38 : decode cX7_city 38 = .ok (.invokevirtual 62, 3) := by decide +kernel
theorem dX7_city_41 : decode cX7_city 41 = .ok (.istore 6, 2) := by decide +kernel
theorem dX7_city_43 : decode cX7_city 43 = .ok (.iload 6, 2) := by decide +kernel
theorem dX7_city_45 : decode cX7_city 45 = .ok (.ifCond .eq 10, 3) := by decide +kernel
theorem dX7_city_48 : decode cX7_city 48 = .ok (.aload_n 0, 1) := by decide +kernel
theorem dX7_city_49 : decode cX7_city 49 = .ok (.iload 6, 2) := by decide +kernel
theorem dX7_city_51 : decode cX7_city 51 = .ok (.invokevirtual 66, 3) := by decide +kernel
theorem dX7_city_54 : decode cX7_city 54 = .ok (.ireturn, 1) := by decide +kernel
theorem dX7_city_55 : decode cX7_city 55 = .ok (.aload 5, 2) := by decide +kernel
theorem dX7_city_57 : decode cX7_city 57 = .ok (.iload_n 3, 1) := by decide +kernel
theorem dX7_city_58 : decode cX7_city 58 = .ok (.iload 4, 2) := by decide +kernel
theorem dX7_city_60 : decode cX7_city 60 = .ok (.invokestatic 70, 3) := by decide +kernel
theorem dX7_city_63 : decode cX7_city 63 = .ok (.istore 7, 2) := by decide +kernel
theorem dX7_city_65 : decode cX7_city 65 = .ok (.iload 7, 2) := by decide +kernel
theorem dX7_city_67 : decode cX7_city 67 = .ok (.bipush (-9), 2) := by decide +kernel
theorem dX7_city_69 : decode cX7_city 69 = .ok (.if_icmp .eq 9, 3) := by decide +kernel
theorem dX7_city_72 : decode cX7_city 72 = .ok (.bipush (-100), 2) := by decide +kernel
theorem dX7_city_74 : decode cX7_city 74 = .ok (.iload 7, 2) := by decide +kernel
theorem dX7_city_76 : decode cX7_city 76 = .ok (.isub, 1) := by decide +kernel
theorem dX7_city_77 : decode cX7_city 77 = .ok (.ireturn, 1) := by decide +kernel
theorem dX7_city_78 : decode cX7_city 78 = .ok (.aload_n 0, 1) := by decide +kernel
theorem dX7_city_79 : decode cX7_city 79 = .ok (.getfield 12, 3) := by decide +kernel
theorem dX7_city_82 : decode cX7_city 82 = .ok (.aload 5, 2) := by decide +kernel
theorem dX7_city_84 : decode cX7_city 84 = .ok (.iload_n 3, 1) := by decide +kernel
theorem dX7_city_85 : decode cX7_city 85 = .ok (.iload 4, 2) := by decide +kernel
theorem dX7_city_87 : decode cX7_city 87 = .ok (.invokestatic 76, 3) := by decide +kernel
theorem dX7_city_90 : decode cX7_city 90 = .ok (.aload_n 0, 1) := by decide +kernel
theorem dX7_city_91 : decode cX7_city 91 = .ok (.getfield 21, 3) := by decide +kernel
theorem dX7_city_94 : decode cX7_city 94 = .ok (.iconst 0, 1) := by decide +kernel
theorem dX7_city_95 : decode cX7_city 95 = .ok (.putfield 80, 3) := by decide +kernel
theorem dX7_city_98 : decode cX7_city 98 = .ok (.aload_n 0, 1) := by decide +kernel
theorem dX7_city_99 : decode cX7_city 99 = .ok (.getfield 12, 3) := by decide +kernel
theorem dX7_city_102 : decode cX7_city 102 = .ok (.getfield 83, 3) := by decide +kernel
theorem dX7_city_105 : decode cX7_city 105 = .ok (.ireturn, 1) := by decide +kernel
set_option maxRecDepth 20000 in
theorem ggX7_ofArticle_X1_isArticle : GoodIn wsX7_ofArticle wsX1_isArticle := goodIn_r _ [12, 13, 35, 36, 37, 38, 39, 40] (by decide +kernel) (by decide +kernel)
set_option maxRecDepth 20000 in
theorem gX7_ofArticle_X1_isArticle : GoodIn wsX7_ofArticle (wsV RX7 86 RX1 yX1_isArticle wsX1_isArticle) := goodIn_app (goodIn_of _ (by decide +kernel)) ggX7_ofArticle_X1_isArticle
set_option maxRecDepth 20000 in
theorem ggX7_ofArticle_X0_laugh : GoodIn wsX7_ofArticle wsX0_laugh := goodIn_r _ [18, 19, 20, 21, 22, 17, 23, 41, 42, 43, 44] (by decide +kernel) (by decide +kernel)
set_option maxRecDepth 20000 in
theorem gX7_ofArticle_X0_laugh : GoodIn wsX7_ofArticle (wsV RX7 107 RX0 yX0_laugh wsX0_laugh) := goodIn_app (goodIn_of _ (by decide +kernel)) ggX7_ofArticle_X0_laugh
set_option maxRecDepth 20000 in
theorem ggX7_ofArticle_X7_has : GoodIn wsX7_ofArticle wsX7_has := goodIn_r _ [27] (by decide +kernel) (by decide +kernel)
set_option maxRecDepth 20000 in
theorem gX7_ofArticle_X7_has : GoodIn wsX7_ofArticle (va_wsS RX7 114 yX7_has wsX7_has) := goodIn_app (goodIn_of _ (by decide +kernel)) ggX7_ofArticle_X7_has
theorem dX7_ofArticle_0 : decode cX7_ofArticle 0 = .ok (.aload_n 0, 1) := by decide +kernel
theorem dX7_ofArticle_1 : decode cX7_ofArticle 1 = .ok (.getfield 12, 3) := by decide +kernel
theorem dX7_ofArticle_4 : decode cX7_ofArticle 4 = .ok (.iload_n 1, 1) := by decide +kernel
theorem dX7_ofArticle_5 : decode cX7_ofArticle 5 = .ok (.invokevirtual 86, 3) := by decide +kernel
theorem dX7_ofArticle_8 : decode cX7_ofArticle 8 = .ok (.ifCond .ne 5, 3) := by decide +kernel
theorem dX7_ofArticle_11 : decode cX7_ofArticle 11 = .ok (.iconst (-1), 1) := by decide +kernel
theorem dX7_ofArticle_12 : decode cX7_ofArticle 12 = .ok (.ireturn, 1) := by decide +kernel
theorem dX7_ofArticle_13 : decode cX7_ofArticle 13 = .ok (.aload_n 0, 1) := by decide +kernel
theorem dX7_ofArticle_14 : decode cX7_ofArticle 14 = .ok (.getfield 12, 3) := by decide +kernel
theorem dX7_ofArticle_17 : decode cX7_ofArticle 17 = .ok (.getfield 89, 3) := by decide +kernel
theorem dX7_ofArticle_20 : decode cX7_ofArticle 20 = .ok (.iload_n 1, 1) := by decide +kernel
theorem dX7_ofArticle_21 : decode cX7_ofArticle 21 = .ok (.aaload, 1) := by decide +kernel
theorem dX7_ofArticle_22 : decode cX7_ofArticle 22 = .ok (.astore_n 3, 1) := by decide +kernel
theorem dX7_ofArticle_23 : decode cX7_ofArticle 23 = .ok (.iload_n 2, 1) := by decide +kernel
theorem dX7_ofArticle_24 : decode cX7_ofArticle 24 = .ok (.tableswitch 85 0 5 #[40, 45, 50, 55, 60, 65], 40) := by decide +kernel
theorem dX7_ofArticle_64 : decode cX7_ofArticle 64 = .ok (.aload_n 3, 1) := by decide +kernel
theorem dX7_ofArticle_65 : decode cX7_ofArticle 65 = .ok (.getfield 93, 3) := by decide +kernel
theorem dX7_ofArticle_68 : decode cX7_ofArticle 68 = .ok (.ireturn, 1) := by decide +kernel
theorem dX7_ofArticle_69 : decode cX7_ofArticle 69 = .ok (.aload_n 3, 1) := by decide +kernel
theorem dX7_ofArticle_70 : decode cX7_ofArticle 70 = .ok (.getfield 98, 3) := by decide +kernel
theorem dX7_ofArticle_73 : decode cX7_ofArticle 73 = .ok (.ireturn, 1) := by decide +kernel
theorem dX7_ofArticle_74 : decode cX7_ofArticle 74 = .ok (.aload_n 3, 1) := by decide +kernel
theorem dX7_ofArticle_75 : decode cX7_ofArticle 75 = .ok (.getfield 101, 3) := by decide +kernel
theorem dX7_ofArticle_78 : decode cX7_ofArticle 78 = .ok (.ireturn, 1) := by decide +kernel
theorem dX7_ofArticle_79 : decode cX7_ofArticle 79 = .ok (.aload_n 3, 1) := by decide +kernel
theorem dX7_ofArticle_80 : decode cX7_ofArticle 80 = .ok (.getfield 104, 3) := by decide +kernel
theorem dX7_ofArticle_83 : decode cX7_ofArticle 83 = .ok (.ireturn, 1) := by decide +kernel
theorem dX7_ofArticle_84 : decode cX7_ofArticle 84 = .ok (.aload_n 3, 1) := by decide +kernel
theorem dX7_ofArticle_85 : decode cX7_ofArticle 85 = .ok (.invokevirtual 107, 3) := by decide +kernel
theorem dX7_ofArticle_88 : decode cX7_ofArticle 88 = .ok (.ireturn, 1) := by decide +kernel
theorem dX7_ofArticle_89 : decode cX7_ofArticle 89 = .ok (.aload_n 0, 1) := by decide +kernel
theorem dX7_ofArticle_90 : decode cX7_ofArticle 90 = .ok (.getfield 12, 3) := by decide +kernel
theorem dX7_ofArticle_93 : decode cX7_ofArticle 93 = .ok (.getfield 111, 3) := by decide +kernel
theorem dX7_ofArticle_96 : decode cX7_ofArticle 96 = .ok (.iload_n 1, 1) := by decide +kernel
theorem dX7_ofArticle_97 : decode cX7_ofArticle 97 = .ok (.invokestatic 114, 3) := by decide +kernel
theorem dX7_ofArticle_100 : decode cX7_ofArticle 100 = .ok (.ifCond .eq 7, 3) := by decide +kernel
theorem dX7_ofArticle_103 : decode cX7_ofArticle 103 = .ok (.iconst 1, 1) := by decide +kernel
theorem dX7_ofArticle_104 : decode cX7_ofArticle 104 = .ok (.goto 4, 3) := by decide +kernel
theorem dX7_ofArticle_107 : decode cX7_ofArticle 107 = .ok (.iconst 0, 1) := by decide +kernel
theorem dX7_ofArticle_108 : decode cX7_ofArticle 108 = .ok (.ireturn, 1) := by decide +kernel
theorem dX7_ofArticle_109 : decode cX7_ofArticle 109 = .ok (.bipush (-2), 2) := by decide +kernel
theorem dX7_ofArticle_111 : decode cX7_ofArticle 111 = .ok (.ireturn, 1) := by decide +kernel
set_option maxRecDepth 20000 in
theorem ggX7_space_X1_isRoom : GoodIn wsX7_space wsX1_isRoom := goodIn_r _ [7, 8, 16, 17, 18, 19, 20, 21] (by decide +kernel) (by decide +kernel)
set_option maxRecDepth 20000 in
theorem gX7_space_X1_isRoom : GoodIn wsX7_space (wsV RX7 118 RX1 yX1_isRoom wsX1_isRoom) := goodIn_app (goodIn_of _ (by decide +kernel)) ggX7_space_X1_isRoom
theorem dX7_space_0 : decode cX7_space 0 = .ok (.aload_n 0, 1) := by decide +kernel
theorem dX7_space_1 : decode cX7_space 1 = .ok (.getfield 12, 3) := by decide +kernel
theorem dX7_space_4 : decode cX7_space 4 = .ok (.iload_n 1, 1) := by decide +kernel
theorem dX7_space_5 : decode cX7_space 5 = .ok (.invokevirtual 118, 3) := by decide +kernel
theorem dX7_space_8 : decode cX7_space 8 = .ok (.ifCond .eq 15, 3) := by decide +kernel
theorem dX7_space_11 : decode cX7_space 11 = .ok (.aload_n 0, 1) := by decide +kernel
theorem dX7_space_12 : decode cX7_space 12 = .ok (.getfield 12, 3) := by decide +kernel
theorem dX7_space_15 : decode cX7_space 15 = .ok (.getfield 121, 3) := by decide +kernel
theorem dX7_space_18 : decode cX7_space 18 = .ok (.iload_n 1, 1) := by decide +kernel
theorem dX7_space_19 : decode cX7_space 19 = .ok (.iaload, 1) := by decide +kernel
theorem dX7_space_20 : decode cX7_space 20 = .ok (.goto 4, 3) := by decide +kernel
theorem dX7_space_23 : decode cX7_space 23 = .ok (.iconst (-1), 1) := by decide +kernel
theorem dX7_space_24 : decode cX7_space 24 = .ok (.ireturn, 1) := by decide +kernel
set_option maxRecDepth 20000 in
theorem ggX7_cheer_X1_isArticle : GoodIn wsX7_cheer wsX1_isArticle := goodIn_r _ [8, 9, 21, 22, 23, 24, 25, 26] (by decide +kernel) (by decide +kernel)
set_option maxRecDepth 20000 in
theorem gX7_cheer_X1_isArticle : GoodIn wsX7_cheer (wsV RX7 86 RX1 yX1_isArticle wsX1_isArticle) := goodIn_app (goodIn_of _ (by decide +kernel)) ggX7_cheer_X1_isArticle
set_option maxRecDepth 20000 in
theorem ggX7_cheer_X7_within : GoodIn wsX7_cheer wsX7_within := goodIn_r _ [13] (by decide +kernel) (by decide +kernel)
set_option maxRecDepth 20000 in
theorem gX7_cheer_X7_within : GoodIn wsX7_cheer (va_wsS RX7 125 yX7_within wsX7_within) := goodIn_app (goodIn_of _ (by decide +kernel)) ggX7_cheer_X7_within
theorem dX7_cheer_0 : decode cX7_cheer 0 = .ok (.aload_n 0, 1) := by decide +kernel
theorem dX7_cheer_1 : decode cX7_cheer 1 = .ok (.getfield 12, 3) := by decide +kernel
theorem dX7_cheer_4 : decode cX7_cheer 4 = .ok (.iload_n 1, 1) := by decide +kernel
theorem dX7_cheer_5 : decode cX7_cheer 5 = .ok (.invokevirtual 86, 3) := by decide +kernel
theorem dX7_cheer_8 : decode cX7_cheer 8 = .ok (.ifCond .ne 5, 3) := by decide +kernel
theorem dX7_cheer_11 : decode cX7_cheer 11 = .ok (.iconst (-1), 1) := by decide +kernel
theorem dX7_cheer_12 : decode cX7_cheer 12 = .ok (.ireturn, 1) := by decide +kernel
theorem dX7_cheer_13 : decode cX7_cheer 13 = .ok (.iload_n 2, 1) := by decide +kernel
theorem dX7_cheer_14 : decode cX7_cheer 14 = .ok (.iconst 0, 1) := by decide +kernel
theorem dX7_cheer_15 : decode cX7_cheer 15 = .ok (.bipush 9, 2) := by decide +kernel
theorem dX7_cheer_17 : decode cX7_cheer 17 = .ok (.invokestatic 125, 3) := by decide +kernel
theorem dX7_cheer_20 : decode cX7_cheer 20 = .ok (.ifCond .ne 6, 3) := by decide +kernel
theorem dX7_cheer_23 : decode cX7_cheer 23 = .ok (.bipush (-2), 2) := by decide +kernel
theorem dX7_cheer_25 : decode cX7_cheer 25 = .ok (.ireturn, 1) := by decide +kernel
theorem dX7_cheer_26 : decode cX7_cheer 26 = .ok (.aload_n 0, 1) := by decide +kernel
theorem dX7_cheer_27 : decode cX7_cheer 27 = .ok (.getfield 12, 3) := by decide +kernel
theorem dX7_cheer_30 : decode cX7_cheer 30 = .ok (.getfield 89, 3) := by decide +kernel
theorem dX7_cheer_33 : decode cX7_cheer 33 = .ok (.iload_n 1, 1) := by decide +kernel
theorem dX7_cheer_34 : decode cX7_cheer 34 = .ok (.aaload, 1) := by decide +kernel
theorem dX7_cheer_35 : decode cX7_cheer 35 = .ok (.getfield 101, 3) := by decide +kernel
theorem dX7_cheer_38 : decode cX7_cheer 38 = .ok (.istore_n 3, 1) := by decide +kernel
theorem dX7_cheer_39 : decode cX7_cheer 39 = .ok (.aload_n 0, 1) := by decide +kernel
theorem dX7_cheer_40 : decode cX7_cheer 40 = .ok (.getfield 12, 3) := by decide +kernel
theorem dX7_cheer_43 : decode cX7_cheer 43 = .ok (.getfield 89, 3) := by decide +kernel
theorem dX7_cheer_46 : decode cX7_cheer 46 = .ok (.iload_n 1, 1) := by decide +kernel
theorem dX7_cheer_47 : decode cX7_cheer 47 = .ok (.aaload, 1) := by decide +kernel
theorem dX7_cheer_48 : decode cX7_cheer 48 = .ok (.iload_n 2, 1) := by decide +kernel
theorem dX7_cheer_49 : decode cX7_cheer 49 = .ok (.putfield 101, 3) := by decide +kernel
theorem dX7_cheer_52 : decode cX7_cheer 52 = .ok (.iload_n 3, 1) := by decide +kernel
theorem dX7_cheer_53 : decode cX7_cheer 53 = .ok (.ireturn, 1) := by decide +kernel
set_option maxRecDepth 20000 in
theorem ggX7_miss_X1_isArticle : GoodIn wsX7_miss wsX1_isArticle := goodIn_r _ [8, 9, 21, 22, 23, 24, 25, 26] (by decide +kernel) (by decide +kernel)
set_option maxRecDepth 20000 in
theorem gX7_miss_X1_isArticle : GoodIn wsX7_miss (wsV RX7 86 RX1 yX1_isArticle wsX1_isArticle) := goodIn_app (goodIn_of _ (by decide +kernel)) ggX7_miss_X1_isArticle
set_option maxRecDepth 20000 in
theorem ggX7_miss_X7_within : GoodIn wsX7_miss wsX7_within := goodIn_r _ [13] (by decide +kernel) (by decide +kernel)
set_option maxRecDepth 20000 in
theorem gX7_miss_X7_within : GoodIn wsX7_miss (va_wsS RX7 125 yX7_within wsX7_within) := goodIn_app (goodIn_of _ (by decide +kernel)) ggX7_miss_X7_within
theorem dX7_miss_0 : decode cX7_miss 0 = .ok (.aload_n 0, 1) := by decide +kernel
theorem dX7_miss_1 : decode cX7_miss 1 = .ok (.getfield 12, 3) := by decide +kernel
theorem dX7_miss_4 : decode cX7_miss 4 = .ok (.iload_n 1, 1) := by decide +kernel
theorem dX7_miss_5 : decode cX7_miss 5 = .ok (.invokevirtual 86, 3) := by decide +kernel
theorem dX7_miss_8 : decode cX7_miss 8 = .ok (.ifCond .ne 5, 3) := by decide +kernel
theorem dX7_miss_11 : decode cX7_miss 11 = .ok (.iconst (-1), 1) := by decide +kernel
theorem dX7_miss_12 : decode cX7_miss 12 = .ok (.ireturn, 1) := by decide +kernel
theorem dX7_miss_13 : decode cX7_miss 13 = .ok (.iload_n 2, 1) := by decide +kernel
theorem dX7_miss_14 : decode cX7_miss 14 = .ok (.iconst 0, 1) := by decide +kernel
theorem dX7_miss_15 : decode cX7_miss 15 = .ok (.bipush 49, 2) := by decide +kernel
theorem dX7_miss_17 : decode cX7_miss 17 = .ok (.invokestatic 125, 3) := by decide +kernel
theorem dX7_miss_20 : decode cX7_miss 20 = .ok (.ifCond .ne 6, 3) := by decide +kernel
theorem dX7_miss_23 : decode cX7_miss 23 = .ok (.bipush (-2), 2) := by decide +kernel
theorem dX7_miss_25 : decode cX7_miss 25 = .ok (.ireturn, 1) := by decide +kernel
theorem dX7_miss_26 : decode cX7_miss 26 = .ok (.aload_n 0, 1) := by decide +kernel
theorem dX7_miss_27 : decode cX7_miss 27 = .ok (.getfield 12, 3) := by decide +kernel
theorem dX7_miss_30 : decode cX7_miss 30 = .ok (.getfield 89, 3) := by decide +kernel
theorem dX7_miss_33 : decode cX7_miss 33 = .ok (.iload_n 1, 1) := by decide +kernel
theorem dX7_miss_34 : decode cX7_miss 34 = .ok (.aaload, 1) := by decide +kernel
theorem dX7_miss_35 : decode cX7_miss 35 = .ok (.getfield 104, 3) := by decide +kernel
theorem dX7_miss_38 : decode cX7_miss 38 = .ok (.istore_n 3, 1) := by decide +kernel
theorem dX7_miss_39 : decode cX7_miss 39 = .ok (.aload_n 0, 1) := by decide +kernel
theorem dX7_miss_40 : decode cX7_miss 40 = .ok (.getfield 12, 3) := by decide +kernel
theorem dX7_miss_43 : decode cX7_miss 43 = .ok (.getfield 89, 3) := by decide +kernel
theorem dX7_miss_46 : decode cX7_miss 46 = .ok (.iload_n 1, 1) := by decide +kernel
theorem dX7_miss_47 : decode cX7_miss 47 = .ok (.aaload, 1) := by decide +kernel
theorem dX7_miss_48 : decode cX7_miss 48 = .ok (.iload_n 2, 1) := by decide +kernel
theorem dX7_miss_49 : decode cX7_miss 49 = .ok (.putfield 104, 3) := by decide +kernel
theorem dX7_miss_52 : decode cX7_miss 52 = .ok (.iload_n 3, 1) := by decide +kernel
theorem dX7_miss_53 : decode cX7_miss 53 = .ok (.ireturn, 1) := by decide +kernel
set_option maxRecDepth 20000 in
theorem ggX7_widen_X1_isRoom : GoodIn wsX7_widen wsX1_isRoom := goodIn_r _ [7, 8, 20, 21, 22, 23, 24, 25] (by decide +kernel) (by decide +kernel)
set_option maxRecDepth 20000 in
theorem gX7_widen_X1_isRoom : GoodIn wsX7_widen (wsV RX7 118 RX1 yX1_isRoom wsX1_isRoom) := goodIn_app (goodIn_of _ (by decide +kernel)) ggX7_widen_X1_isRoom
set_option maxRecDepth 20000 in
theorem ggX7_widen_X7_within : GoodIn wsX7_widen wsX7_within := goodIn_r _ [12] (by decide +kernel) (by decide +kernel)
set_option maxRecDepth 20000 in
theorem gX7_widen_X7_within : GoodIn wsX7_widen (va_wsS RX7 125 yX7_within wsX7_within) := goodIn_app (goodIn_of _ (by decide +kernel)) ggX7_widen_X7_within
theorem dX7_widen_0 : decode cX7_widen 0 = .ok (.aload_n 0, 1) := by decide +kernel
theorem dX7_widen_1 : decode cX7_widen 1 = .ok (.getfield 12, 3) := by decide +kernel
theorem dX7_widen_4 : decode cX7_widen 4 = .ok (.iload_n 1, 1) := by decide +kernel
theorem dX7_widen_5 : decode cX7_widen 5 = .ok (.invokevirtual 118, 3) := by decide +kernel
theorem dX7_widen_8 : decode cX7_widen 8 = .ok (.ifCond .ne 5, 3) := by decide +kernel
theorem dX7_widen_11 : decode cX7_widen 11 = .ok (.iconst (-1), 1) := by decide +kernel
theorem dX7_widen_12 : decode cX7_widen 12 = .ok (.ireturn, 1) := by decide +kernel
theorem dX7_widen_13 : decode cX7_widen 13 = .ok (.iload_n 2, 1) := by decide +kernel
theorem dX7_widen_14 : decode cX7_widen 14 = .ok (.iconst 1, 1) := by decide +kernel
theorem dX7_widen_15 : decode cX7_widen 15 = .ok (.bipush 9, 2) := by decide +kernel
theorem dX7_widen_17 : decode cX7_widen 17 = .ok (.invokestatic 125, 3) := by decide +kernel
theorem dX7_widen_20 : decode cX7_widen 20 = .ok (.ifCond .ne 6, 3) := by decide +kernel
theorem dX7_widen_23 : decode cX7_widen 23 = .ok (.bipush (-2), 2) := by decide +kernel
theorem dX7_widen_25 : decode cX7_widen 25 = .ok (.ireturn, 1) := by decide +kernel
theorem dX7_widen_26 : decode cX7_widen 26 = .ok (.aload_n 0, 1) := by decide +kernel
theorem dX7_widen_27 : decode cX7_widen 27 = .ok (.getfield 12, 3) := by decide +kernel
theorem dX7_widen_30 : decode cX7_widen 30 = .ok (.getfield 121, 3) := by decide +kernel
theorem dX7_widen_33 : decode cX7_widen 33 = .ok (.iload_n 1, 1) := by decide +kernel
theorem dX7_widen_34 : decode cX7_widen 34 = .ok (.iaload, 1) := by decide +kernel
theorem dX7_widen_35 : decode cX7_widen 35 = .ok (.istore_n 3, 1) := by decide +kernel
theorem dX7_widen_36 : decode cX7_widen 36 = .ok (.aload_n 0, 1) := by decide +kernel
theorem dX7_widen_37 : decode cX7_widen 37 = .ok (.getfield 12, 3) := by decide +kernel
theorem dX7_widen_40 : decode cX7_widen 40 = .ok (.getfield 121, 3) := by decide +kernel
theorem dX7_widen_43 : decode cX7_widen 43 = .ok (.iload_n 1, 1) := by decide +kernel
theorem dX7_widen_44 : decode cX7_widen 44 = .ok (.iload_n 2, 1) := by decide +kernel
theorem dX7_widen_45 : decode cX7_widen 45 = .ok (.iastore, 1) := by decide +kernel
theorem dX7_widen_46 : decode cX7_widen 46 = .ok (.iload_n 3, 1) := by decide +kernel
theorem dX7_widen_47 : decode cX7_widen 47 = .ok (.ireturn, 1) := by decide +kernel
set_option maxRecDepth 20000 in
theorem ggX7_shift_X7_isCorner : GoodIn wsX7_shift wsX7_isCorner := goodIn_r _ [6, 7, 8, 5, 9] (by decide +kernel) (by decide +kernel)
set_option maxRecDepth 20000 in
theorem gX7_shift_X7_isCorner : GoodIn wsX7_shift (va_wsS RX7 129 yX7_isCorner wsX7_isCorner) := goodIn_app (goodIn_of _ (by decide +kernel)) ggX7_shift_X7_isCorner
set_option maxRecDepth 20000 in
theorem ggX7_shift_X1_stands : GoodIn wsX7_shift wsX1_stands := goodIn_r _ [14, 15, 23, 24, 25, 26, 27, 28] (by decide +kernel) (by decide +kernel)
set_option maxRecDepth 20000 in
theorem gX7_shift_X1_stands : GoodIn wsX7_shift (wsV RX7 132 RX1 yX1_stands wsX1_stands) := goodIn_app (goodIn_of _ (by decide +kernel)) ggX7_shift_X1_stands
theorem dX7_shift_0 : decode cX7_shift 0 = .ok (.iload_n 1, 1) := by decide +kernel
theorem dX7_shift_1 : decode cX7_shift 1 = .ok (.invokestatic 129, 3) := by decide +kernel
theorem dX7_shift_4 : decode cX7_shift 4 = .ok (.ifCond .ne 6, 3) := by decide +kernel
theorem dX7_shift_7 : decode cX7_shift 7 = .ok (.bipush (-2), 2) := by decide +kernel
theorem dX7_shift_9 : decode cX7_shift 9 = .ok (.ireturn, 1) := by decide +kernel
theorem dX7_shift_10 : decode cX7_shift 10 = .ok (.aload_n 0, 1) := by decide +kernel
theorem dX7_shift_11 : decode cX7_shift 11 = .ok (.getfield 12, 3) := by decide +kernel
theorem dX7_shift_14 : decode cX7_shift 14 = .ok (.invokevirtual 132, 3) := by decide +kernel
theorem dX7_shift_17 : decode cX7_shift 17 = .ok (.ifCond .ne 6, 3) := by decide +kernel
theorem dX7_shift_20 : decode cX7_shift 20 = .ok (.bipush (-3), 2) := by decide +kernel
theorem dX7_shift_22 : decode cX7_shift 22 = .ok (.ireturn, 1) := by decide +kernel
theorem dX7_shift_23 : decode cX7_shift 23 = .ok (.aload_n 0, 1) := by decide +kernel
theorem dX7_shift_24 : decode cX7_shift 24 = .ok (.getfield 12, 3) := by decide +kernel
theorem dX7_shift_27 : decode cX7_shift 27 = .ok (.getfield 136, 3) := by decide +kernel
theorem dX7_shift_30 : decode cX7_shift 30 = .ok (.istore_n 2, 1) := by decide +kernel
theorem dX7_shift_31 : decode cX7_shift 31 = .ok (.aload_n 0, 1) := by decide +kernel
theorem dX7_shift_32 : decode cX7_shift 32 = .ok (.getfield 12, 3) := by decide +kernel
theorem dX7_shift_35 : decode cX7_shift 35 = .ok (.iload_n 1, 1) := by decide +kernel
theorem dX7_shift_36 : decode cX7_shift 36 = .ok (.putfield 136, 3) := by decide +kernel
theorem dX7_shift_39 : decode cX7_shift 39 = .ok (.iload_n 2, 1) := by decide +kernel
theorem dX7_shift_40 : decode cX7_shift 40 = .ok (.ireturn, 1) := by decide +kernel
set_option maxRecDepth 20000 in
theorem ggX7_there_X1_stands : GoodIn wsX7_there wsX1_stands := goodIn_r _ [7, 8, 16, 17, 18, 19, 20, 21] (by decide +kernel) (by decide +kernel)
set_option maxRecDepth 20000 in
theorem gX7_there_X1_stands : GoodIn wsX7_there (wsV RX7 132 RX1 yX1_stands wsX1_stands) := goodIn_app (goodIn_of _ (by decide +kernel)) ggX7_there_X1_stands
theorem dX7_there_0 : decode cX7_there 0 = .ok (.aload_n 0, 1) := by decide +kernel
theorem dX7_there_1 : decode cX7_there 1 = .ok (.getfield 12, 3) := by decide +kernel
theorem dX7_there_4 : decode cX7_there 4 = .ok (.invokevirtual 132, 3) := by decide +kernel
theorem dX7_there_7 : decode cX7_there 7 = .ok (.ifCond .eq 13, 3) := by decide +kernel
theorem dX7_there_10 : decode cX7_there 10 = .ok (.aload_n 0, 1) := by decide +kernel
theorem dX7_there_11 : decode cX7_there 11 = .ok (.getfield 12, 3) := by decide +kernel
theorem dX7_there_14 : decode cX7_there 14 = .ok (.getfield 111, 3) := by decide +kernel
theorem dX7_there_17 : decode cX7_there 17 = .ok (.goto 5, 3) := by decide +kernel
theorem dX7_there_20 : decode cX7_there 20 = .ok (.bipush (-3), 2) := by decide +kernel
theorem dX7_there_22 : decode cX7_there 22 = .ok (.ireturn, 1) := by decide +kernel
set_option maxRecDepth 20000 in
theorem ggX7_company_X1_stands : GoodIn wsX7_company wsX1_stands := goodIn_r _ [6, 7, 46, 47, 48, 49, 50, 51] (by decide +kernel) (by decide +kernel)
set_option maxRecDepth 20000 in
theorem gX7_company_X1_stands : GoodIn wsX7_company (wsV RX7 132 RX1 yX1_stands wsX1_stands) := goodIn_app (goodIn_of _ (by decide +kernel)) ggX7_company_X1_stands
set_option maxRecDepth 20000 in
theorem ggX7_company_X1_isSet : GoodIn wsX7_company wsX1_isSet := goodIn_r _ [11, 7, 46, 47, 48, 49, 50, 51] (by decide +kernel) (by decide +kernel)
set_option maxRecDepth 20000 in
theorem gX7_company_X1_isSet : GoodIn wsX7_company (wsV RX7 139 RX1 yX1_isSet wsX1_isSet) := goodIn_app (goodIn_of _ (by decide +kernel)) ggX7_company_X1_isSet
set_option maxRecDepth 20000 in
theorem ggX7_company_X1_companyOf : GoodIn wsX7_company wsX1_companyOf := goodIn_r _ [15, 16, 17, 18, 5, 19, 7, 20, 21, 22, 23, 24, 25, 26, 27, 28, 29, 30, 31, 32, 33, 34, 35, 36, 37, 38, 46, 47, 48, 49, 50, 51, 52, 53, 54, 55] (by decide +kernel) (by decide +kernel)
set_option maxRecDepth 20000 in
theorem gX7_company_X1_companyOf : GoodIn wsX7_company (wsV RX7 142 RX1 yX1_companyOf wsX1_companyOf) := goodIn_app (goodIn_of _ (by decide +kernel)) ggX7_company_X1_companyOf
theorem dX7_company_0 : decode cX7_company 0 = .ok (.aload_n 0, 1) := by decide +kernel
theorem dX7_company_1 : decode cX7_company 1 = .ok (.getfield 12, 3) := by decide +kernel
theorem dX7_company_4 : decode cX7_company 4 = .ok (.invokevirtual 132, 3) := by decide +kernel
theorem dX7_company_7 : decode cX7_company 7 = .ok (.ifCond .ne 6, 3) := by decide +kernel
theorem dX7_company_10 : decode cX7_company 10 = .ok (.bipush (-3), 2) := by decide +kernel
theorem dX7_company_12 : decode cX7_company 12 = .ok (.ireturn, 1) := by decide +kernel
theorem dX7_company_13 : decode cX7_company 13 = .ok (.aload_n 0, 1) := by decide +kernel
theorem dX7_company_14 : decode cX7_company 14 = .ok (.getfield 12, 3) := by decide +kernel
theorem dX7_company_17 : decode cX7_company 17 = .ok (.iload_n 1, 1) := by decide +kernel
theorem dX7_company_18 : decode cX7_company 18 = .ok (.invokevirtual 139, 3) := by decide +kernel
theorem dX7_company_21 : decode cX7_company 21 = .ok (.ifCond .eq 14, 3) := by decide +kernel
theorem dX7_company_24 : decode cX7_company 24 = .ok (.aload_n 0, 1) := by decide +kernel
theorem dX7_company_25 : decode cX7_company 25 = .ok (.getfield 12, 3) := by decide +kernel
theorem dX7_company_28 : decode cX7_company 28 = .ok (.iload_n 1, 1) := by decide +kernel
theorem dX7_company_29 : decode cX7_company 29 = .ok (.invokevirtual 142, 3) := by decide +kernel
theorem dX7_company_32 : decode cX7_company 32 = .ok (.goto 5, 3) := by decide +kernel
theorem dX7_company_35 : decode cX7_company 35 = .ok (.bipush (-2), 2) := by decide +kernel
theorem dX7_company_37 : decode cX7_company 37 = .ok (.ireturn, 1) := by decide +kernel
set_option maxRecDepth 20000 in
theorem ggX7_send_X1_isArticle : GoodIn wsX7_send wsX1_isArticle := goodIn_r _ [7, 8, 49, 50, 51, 52, 53, 54] (by decide +kernel) (by decide +kernel)
set_option maxRecDepth 20000 in
theorem gX7_send_X1_isArticle : GoodIn wsX7_send (wsV RX7 86 RX1 yX1_isArticle wsX1_isArticle) := goodIn_app (goodIn_of _ (by decide +kernel)) ggX7_send_X1_isArticle
set_option maxRecDepth 20000 in
theorem ggX7_send_X7_has : GoodIn wsX7_send wsX7_has := goodIn_r _ [12] (by decide +kernel) (by decide +kernel)
set_option maxRecDepth 20000 in
theorem gX7_send_X7_has : GoodIn wsX7_send (va_wsS RX7 114 yX7_has wsX7_has) := goodIn_app (goodIn_of _ (by decide +kernel)) ggX7_send_X7_has
set_option maxRecDepth 20000 in
theorem ggX7_send_X1_keepCompanyOf : GoodIn wsX7_send wsX1_keepCompanyOf := goodIn_r _ [16, 17, 18, 19, 20, 6, 21, 22, 23, 24, 25, 8, 26, 27, 28, 29, 30, 31, 10, 11, 12, 32, 33, 34, 35, 36, 37, 38, 39, 40, 41, 49, 50, 51, 52, 53, 54, 55, 56, 57, 58] (by decide +kernel) (by decide +kernel)
set_option maxRecDepth 20000 in
theorem gX7_send_X1_keepCompanyOf : GoodIn wsX7_send (wsV RX7 145 RX1 yX1_keepCompanyOf wsX1_keepCompanyOf) := goodIn_app (goodIn_of _ (by decide +kernel)) ggX7_send_X1_keepCompanyOf
theorem dX7_send_0 : decode cX7_send 0 = .ok (.aload_n 0, 1) := by decide +kernel
theorem dX7_send_1 : decode cX7_send 1 = .ok (.getfield 12, 3) := by decide +kernel
theorem dX7_send_4 : decode cX7_send 4 = .ok (.iload_n 1, 1) := by decide +kernel
theorem dX7_send_5 : decode cX7_send 5 = .ok (.invokevirtual 86, 3) := by decide +kernel
theorem dX7_send_8 : decode cX7_send 8 = .ok (.ifCond .ne 5, 3) := by decide +kernel
theorem dX7_send_11 : decode cX7_send 11 = .ok (.iconst (-1), 1) := by decide +kernel
theorem dX7_send_12 : decode cX7_send 12 = .ok (.ireturn, 1) := by decide +kernel
theorem dX7_send_13 : decode cX7_send 13 = .ok (.aload_n 0, 1) := by decide +kernel
theorem dX7_send_14 : decode cX7_send 14 = .ok (.getfield 12, 3) := by decide +kernel
theorem dX7_send_17 : decode cX7_send 17 = .ok (.getfield 111, 3) := by decide +kernel
theorem dX7_send_20 : decode cX7_send 20 = .ok (.iload_n 1, 1) := by decide +kernel
theorem dX7_send_21 : decode cX7_send 21 = .ok (.invokestatic 114, 3) := by decide +kernel
theorem dX7_send_24 : decode cX7_send 24 = .ok (.ifCond .eq 6, 3) := by decide +kernel
theorem dX7_send_27 : decode cX7_send 27 = .ok (.bipush (-3), 2) := by decide +kernel
theorem dX7_send_29 : decode cX7_send 29 = .ok (.ireturn, 1) := by decide +kernel
theorem dX7_send_30 : decode cX7_send 30 = .ok (.aload_n 0, 1) := by decide +kernel
theorem dX7_send_31 : decode cX7_send 31 = .ok (.getfield 12, 3) := by decide +kernel
theorem dX7_send_34 : decode cX7_send 34 = .ok (.aload_n 0, 1) := by decide +kernel
theorem dX7_send_35 : decode cX7_send 35 = .ok (.getfield 12, 3) := by decide +kernel
theorem dX7_send_38 : decode cX7_send 38 = .ok (.getfield 111, 3) := by decide +kernel
theorem dX7_send_41 : decode cX7_send 41 = .ok (.iconst 1, 1) := by decide +kernel
theorem dX7_send_42 : decode cX7_send 42 = .ok (.iload_n 1, 1) := by decide +kernel
theorem dX7_send_43 : decode cX7_send 43 = .ok (.ishl, 1) := by decide +kernel
theorem dX7_send_44 : decode cX7_send 44 = .ok (.ior, 1) := by decide +kernel
theorem dX7_send_45 : decode cX7_send 45 = .ok (.invokevirtual 145, 3) := by decide +kernel
theorem dX7_send_48 : decode cX7_send 48 = .ok (.ireturn, 1) := by decide +kernel
set_option maxRecDepth 20000 in
theorem ggX7_call_X1_isArticle : GoodIn wsX7_call wsX1_isArticle := goodIn_r _ [7, 8, 49, 50, 51, 52, 53, 54] (by decide +kernel) (by decide +kernel)
set_option maxRecDepth 20000 in
theorem gX7_call_X1_isArticle : GoodIn wsX7_call (wsV RX7 86 RX1 yX1_isArticle wsX1_isArticle) := goodIn_app (goodIn_of _ (by decide +kernel)) ggX7_call_X1_isArticle
set_option maxRecDepth 20000 in
theorem ggX7_call_X7_has : GoodIn wsX7_call wsX7_has := goodIn_r _ [12] (by decide +kernel) (by decide +kernel)
set_option maxRecDepth 20000 in
theorem gX7_call_X7_has : GoodIn wsX7_call (va_wsS RX7 114 yX7_has wsX7_has) := goodIn_app (goodIn_of _ (by decide +kernel)) ggX7_call_X7_has
set_option maxRecDepth 20000 in
theorem ggX7_call_X1_keepCompanyOf : GoodIn wsX7_call wsX1_keepCompanyOf := goodIn_r _ [16, 17, 18, 19, 20, 6, 21, 22, 23, 24, 25, 8, 26, 27, 28, 29, 30, 31, 10, 11, 12, 32, 33, 34, 35, 36, 37, 38, 39, 40, 41, 49, 50, 51, 52, 53, 54, 55, 56, 57, 58] (by decide +kernel) (by decide +kernel)
set_option maxRecDepth 20000 in
theorem gX7_call_X1_keepCompanyOf : GoodIn wsX7_call (wsV RX7 145 RX1 yX1_keepCompanyOf wsX1_keepCompanyOf) := goodIn_app (goodIn_of _ (by decide +kernel)) ggX7_call_X1_keepCompanyOf
theorem dX7_call_0 : decode cX7_call 0 = .ok (.aload_n 0, 1) := by decide +kernel
theorem dX7_call_1 : decode cX7_call 1 = .ok (.getfield 12, 3) := by decide +kernel
theorem dX7_call_4 : decode cX7_call 4 = .ok (.iload_n 1, 1) := by decide +kernel
theorem dX7_call_5 : decode cX7_call 5 = .ok (.invokevirtual 86, 3) := by decide +kernel
theorem dX7_call_8 : decode cX7_call 8 = .ok (.ifCond .ne 5, 3) := by decide +kernel
theorem dX7_call_11 : decode cX7_call 11 = .ok (.iconst (-1), 1) := by decide +kernel
theorem dX7_call_12 : decode cX7_call 12 = .ok (.ireturn, 1) := by decide +kernel
theorem dX7_call_13 : decode cX7_call 13 = .ok (.aload_n 0, 1) := by decide +kernel
theorem dX7_call_14 : decode cX7_call 14 = .ok (.getfield 12, 3) := by decide +kernel
theorem dX7_call_17 : decode cX7_call 17 = .ok (.getfield 111, 3) := by decide +kernel
theorem dX7_call_20 : decode cX7_call 20 = .ok (.iload_n 1, 1) := by decide +kernel
theorem dX7_call_21 : decode cX7_call 21 = .ok (.invokestatic 114, 3) := by decide +kernel
theorem dX7_call_24 : decode cX7_call 24 = .ok (.ifCond .ne 6, 3) := by decide +kernel
theorem dX7_call_27 : decode cX7_call 27 = .ok (.bipush (-3), 2) := by decide +kernel
theorem dX7_call_29 : decode cX7_call 29 = .ok (.ireturn, 1) := by decide +kernel
theorem dX7_call_30 : decode cX7_call 30 = .ok (.aload_n 0, 1) := by decide +kernel
theorem dX7_call_31 : decode cX7_call 31 = .ok (.getfield 12, 3) := by decide +kernel
theorem dX7_call_34 : decode cX7_call 34 = .ok (.aload_n 0, 1) := by decide +kernel
theorem dX7_call_35 : decode cX7_call 35 = .ok (.getfield 12, 3) := by decide +kernel
theorem dX7_call_38 : decode cX7_call 38 = .ok (.getfield 111, 3) := by decide +kernel
theorem dX7_call_41 : decode cX7_call 41 = .ok (.iconst 1, 1) := by decide +kernel
theorem dX7_call_42 : decode cX7_call 42 = .ok (.iload_n 1, 1) := by decide +kernel
theorem dX7_call_43 : decode cX7_call 43 = .ok (.ishl, 1) := by decide +kernel
theorem dX7_call_44 : decode cX7_call 44 = .ok (.iconst (-1), 1) := by decide +kernel
theorem dX7_call_45 : decode cX7_call 45 = .ok (.ixor, 1) := by decide +kernel
theorem dX7_call_46 : decode cX7_call 46 = .ok (.iand, 1) := by decide +kernel
theorem dX7_call_47 : decode cX7_call 47 = .ok (.invokevirtual 145, 3) := by decide +kernel
theorem dX7_call_50 : decode cX7_call 50 = .ok (.ireturn, 1) := by decide +kernel
set_option maxRecDepth 20000 in
theorem ggX7_laughter_X1_stands : GoodIn wsX7_laughter wsX1_stands := goodIn_r _ [7, 8, 34, 35, 36, 37, 38, 39] (by decide +kernel) (by decide +kernel)
set_option maxRecDepth 20000 in
theorem gX7_laughter_X1_stands : GoodIn wsX7_laughter (wsV RX7 132 RX1 yX1_stands wsX1_stands) := goodIn_app (goodIn_of _ (by decide +kernel)) ggX7_laughter_X1_stands
set_option maxRecDepth 20000 in
theorem ggX7_laughter_X1_laughOf : GoodIn wsX7_laughter wsX1_laughOf := goodIn_r _ [12, 8, 13, 14, 15, 16, 17, 18, 19, 20, 21, 22, 23, 24, 25, 26, 34, 35, 36, 37, 38, 39, 40, 41, 42, 43] (by decide +kernel) (by decide +kernel)
set_option maxRecDepth 20000 in
theorem gX7_laughter_X1_laughOf : GoodIn wsX7_laughter (wsV RX7 148 RX1 yX1_laughOf wsX1_laughOf) := goodIn_app (goodIn_of _ (by decide +kernel)) ggX7_laughter_X1_laughOf
theorem dX7_laughter_0 : decode cX7_laughter 0 = .ok (.aload_n 0, 1) := by decide +kernel
theorem dX7_laughter_1 : decode cX7_laughter 1 = .ok (.getfield 12, 3) := by decide +kernel
theorem dX7_laughter_4 : decode cX7_laughter 4 = .ok (.invokevirtual 132, 3) := by decide +kernel
theorem dX7_laughter_7 : decode cX7_laughter 7 = .ok (.ifCond .eq 20, 3) := by decide +kernel
theorem dX7_laughter_10 : decode cX7_laughter 10 = .ok (.aload_n 0, 1) := by decide +kernel
theorem dX7_laughter_11 : decode cX7_laughter 11 = .ok (.getfield 12, 3) := by decide +kernel
theorem dX7_laughter_14 : decode cX7_laughter 14 = .ok (.aload_n 0, 1) := by decide +kernel
theorem dX7_laughter_15 : decode cX7_laughter 15 = .ok (.getfield 12, 3) := by decide +kernel
theorem dX7_laughter_18 : decode cX7_laughter 18 = .ok (.getfield 111, 3) := by decide +kernel
theorem dX7_laughter_21 : decode cX7_laughter 21 = .ok (.invokevirtual 148, 3) := by decide +kernel
theorem dX7_laughter_24 : decode cX7_laughter 24 = .ok (.goto 5, 3) := by decide +kernel
theorem dX7_laughter_27 : decode cX7_laughter 27 = .ok (.bipush (-3), 2) := by decide +kernel
theorem dX7_laughter_29 : decode cX7_laughter 29 = .ok (.ireturn, 1) := by decide +kernel
set_option maxRecDepth 20000 in
theorem ggX7_heard_X7_isCorner : GoodIn wsX7_heard wsX7_isCorner := goodIn_r _ [7, 8, 9, 6, 10] (by decide +kernel) (by decide +kernel)
set_option maxRecDepth 20000 in
theorem gX7_heard_X7_isCorner : GoodIn wsX7_heard (va_wsS RX7 129 yX7_isCorner wsX7_isCorner) := goodIn_app (goodIn_of _ (by decide +kernel)) ggX7_heard_X7_isCorner
set_option maxRecDepth 20000 in
theorem ggX7_heard_X1_stands : GoodIn wsX7_heard wsX1_stands := goodIn_r _ [15, 16, 51, 52, 53, 54, 55, 56] (by decide +kernel) (by decide +kernel)
set_option maxRecDepth 20000 in
theorem gX7_heard_X1_stands : GoodIn wsX7_heard (wsV RX7 132 RX1 yX1_stands wsX1_stands) := goodIn_app (goodIn_of _ (by decide +kernel)) ggX7_heard_X1_stands
set_option maxRecDepth 20000 in
theorem ggX7_heard_X1_laughOf : GoodIn wsX7_heard wsX1_laughOf := goodIn_r _ [20, 16, 21, 22, 6, 23, 24, 25, 26, 27, 28, 29, 30, 31, 32, 33, 51, 52, 53, 54, 55, 56, 57, 58, 59, 60] (by decide +kernel) (by decide +kernel)
set_option maxRecDepth 20000 in
theorem gX7_heard_X1_laughOf : GoodIn wsX7_heard (wsV RX7 148 RX1 yX1_laughOf wsX1_laughOf) := goodIn_app (goodIn_of _ (by decide +kernel)) ggX7_heard_X1_laughOf
set_option maxRecDepth 20000 in
theorem ggX7_heard_X7_carried : GoodIn wsX7_heard wsX7_carried := goodIn_r _ [36, 37, 38, 39, 40, 41, 42, 43] (by decide +kernel) (by decide +kernel)
set_option maxRecDepth 20000 in
theorem gX7_heard_X7_carried : GoodIn wsX7_heard (va_wsS RX7 151 yX7_carried wsX7_carried) := goodIn_app (goodIn_of _ (by decide +kernel)) ggX7_heard_X7_carried
theorem dX7_heard_0 : decode cX7_heard 0 = .ok (.iload_n 1, 1) := by decide +kernel
theorem dX7_heard_1 : decode cX7_heard 1 = .ok (.invokestatic 129, 3) := by decide +kernel
theorem dX7_heard_4 : decode cX7_heard 4 = .ok (.ifCond .ne 6, 3) := by decide +kernel
theorem dX7_heard_7 : decode cX7_heard 7 = .ok (.bipush (-2), 2) := by decide +kernel
theorem dX7_heard_9 : decode cX7_heard 9 = .ok (.ireturn, 1) := by decide +kernel
theorem dX7_heard_10 : decode cX7_heard 10 = .ok (.aload_n 0, 1) := by decide +kernel
theorem dX7_heard_11 : decode cX7_heard 11 = .ok (.getfield 12, 3) := by decide +kernel
theorem dX7_heard_14 : decode cX7_heard 14 = .ok (.invokevirtual 132, 3) := by decide +kernel
theorem dX7_heard_17 : decode cX7_heard 17 = .ok (.ifCond .ne 6, 3) := by decide +kernel
theorem dX7_heard_20 : decode cX7_heard 20 = .ok (.bipush (-3), 2) := by decide +kernel
theorem dX7_heard_22 : decode cX7_heard 22 = .ok (.ireturn, 1) := by decide +kernel
theorem dX7_heard_23 : decode cX7_heard 23 = .ok (.aload_n 0, 1) := by decide +kernel
theorem dX7_heard_24 : decode cX7_heard 24 = .ok (.getfield 12, 3) := by decide +kernel
theorem dX7_heard_27 : decode cX7_heard 27 = .ok (.aload_n 0, 1) := by decide +kernel
theorem dX7_heard_28 : decode cX7_heard 28 = .ok (.getfield 12, 3) := by decide +kernel
theorem dX7_heard_31 : decode cX7_heard 31 = .ok (.getfield 111, 3) := by decide +kernel
theorem dX7_heard_34 : decode cX7_heard 34 = .ok (.invokevirtual 148, 3) := by decide +kernel
theorem dX7_heard_37 : decode cX7_heard 37 = .ok (.aload_n 0, 1) := by decide +kernel
theorem dX7_heard_38 : decode cX7_heard 38 = .ok (.getfield 12, 3) := by decide +kernel
theorem dX7_heard_41 : decode cX7_heard 41 = .ok (.getfield 136, 3) := by decide +kernel
theorem dX7_heard_44 : decode cX7_heard 44 = .ok (.iload_n 1, 1) := by decide +kernel
theorem dX7_heard_45 : decode cX7_heard 45 = .ok (.invokestatic 151, 3) := by decide +kernel
theorem dX7_heard_48 : decode cX7_heard 48 = .ok (.ireturn, 1) := by decide +kernel
set_option maxRecDepth 20000 in
theorem ggX7_year_X7_isSheet : GoodIn wsX7_year wsX7_isSheet := goodIn_r _ [8, 9, 10, 7, 11] (by decide +kernel) (by decide +kernel)
set_option maxRecDepth 20000 in
theorem gX7_year_X7_isSheet : GoodIn wsX7_year (va_wsS RX7 55 yX7_isSheet wsX7_isSheet) := goodIn_app (goodIn_of _ (by decide +kernel)) ggX7_year_X7_isSheet
set_option maxRecDepth 20000 in
theorem ggX7_year_X7_isLane : GoodIn wsX7_year wsX7_isLane := goodIn_r _ [14, 9, 10, 7, 11] (by decide +kernel) (by decide +kernel)
set_option maxRecDepth 20000 in
theorem gX7_year_X7_isLane : GoodIn wsX7_year (va_wsS RX7 59 yX7_isLane wsX7_isLane) := goodIn_app (goodIn_of _ (by decide +kernel)) ggX7_year_X7_isLane
set_option maxRecDepth 20000 in
theorem ggX7_year_X7_within : GoodIn wsX7_year wsX7_within := goodIn_r _ [11] (by decide +kernel) (by decide +kernel)
set_option maxRecDepth 20000 in
theorem gX7_year_X7_within : GoodIn wsX7_year (va_wsS RX7 125 yX7_within wsX7_within) := goodIn_app (goodIn_of _ (by decide +kernel)) ggX7_year_X7_within
set_option maxRecDepth 20000 in
theorem ggX7_year_X4_faultOfTaking : GoodIn wsX7_year wsX4_faultOfTaking := goodIn_r _ [19, 20, 21, 22, 23, 18, 24, 25, 26, 27, 28, 29, 117, 118, 119] (by decide +kernel) (by decide +kernel)
set_option maxRecDepth 20000 in
theorem gX7_year_X4_faultOfTaking : GoodIn wsX7_year (wsV RX7 62 RX4 yX4_faultOfTaking wsX4_faultOfTaking) := goodIn_app (goodIn_of _ (by decide +kernel)) ggX7_year_X4_faultOfTaking
set_option maxRecDepth 20000 in
theorem ggX7_year_X7_failed : GoodIn wsX7_year wsX7_failed := goodIn_r _ [33, 1, 110, 111, 112, 113, 114, 115, 116] (by decide +kernel) (by decide +kernel)
set_option maxRecDepth 20000 in
theorem gX7_year_X7_failed : GoodIn wsX7_year (wsV RX7 66 RX7 yX7_failed wsX7_failed) := goodIn_app (goodIn_of _ (by decide +kernel)) ggX7_year_X7_failed
set_option maxRecDepth 20000 in
theorem ggX7_year_X1_stands : GoodIn wsX7_year wsX1_stands := goodIn_r _ [38, 39, 120, 121, 122, 123, 124, 125] (by decide +kernel) (by decide +kernel)
set_option maxRecDepth 20000 in
theorem gX7_year_X1_stands : GoodIn wsX7_year (wsV RX7 132 RX1 yX1_stands wsX1_stands) := goodIn_app (goodIn_of _ (by decide +kernel)) ggX7_year_X1_stands
set_option maxRecDepth 20000 in
theorem ggX7_year_X6_refusalOf : GoodIn wsX7_year wsX6_refusalOf := goodIn_r _ [44, 45, 46, 47, 48, 18, 49, 29, 50, 51, 52, 53, 37, 54, 39, 10, 7, 11, 126, 127, 128, 129, 130, 117, 118, 119, 120, 121, 122, 123, 124, 125] (by decide +kernel) (by decide +kernel)
set_option maxRecDepth 20000 in
theorem gX7_year_X6_refusalOf : GoodIn wsX7_year (wsV RX7 154 RX6 yX6_refusalOf wsX6_refusalOf) := goodIn_app (goodIn_of _ (by decide +kernel)) ggX7_year_X6_refusalOf
set_option maxRecDepth 20000 in
theorem ggX7_year_X6_run : GoodIn wsX7_year wsX6_run := goodIn_r _ [58, 45, 59, 60, 61, 62, 63, 46, 47, 48, 18, 49, 29, 50, 64, 7, 65, 66, 67, 68, 43, 69, 70, 71, 72, 73, 74, 75, 76, 37, 77, 78, 79, 80, 81, 39, 82, 83, 84, 85, 86, 87, 88, 89, 90, 91, 92, 93, 94, 95, 96, 97, 98, 99, 100, 101, 102, 103, 104, 105, 126, 127, 128, 129, 130, 120, 121, 122, 123, 124, 125, 117, 118, 119, 131, 132, 133, 134] (by decide +kernel) (by decide +kernel)
set_option maxRecDepth 20000 in
theorem gX7_year_X6_run : GoodIn wsX7_year (wsV RX7 157 RX6 yX6_run wsX6_run) := goodIn_app (goodIn_of _ (by decide +kernel)) ggX7_year_X6_run
set_option maxRecDepth 20000 in
theorem ggX7_year_X6_answer : GoodIn wsX7_year wsX6_answer := goodIn_r _ [109, 63, 60, 61, 45, 62, 98, 99, 100, 101, 102, 103, 104, 105, 85, 86, 37, 87, 39, 82, 64, 7, 65, 88, 89, 90, 91, 92, 93, 94, 95, 96, 97, 126, 127, 128, 129, 130, 120, 121, 122, 123, 124, 125, 131, 132, 133, 134] (by decide +kernel) (by decide +kernel)
set_option maxRecDepth 20000 in
theorem gX7_year_X6_answer : GoodIn wsX7_year (wsV RX7 161 RX6 yX6_answer wsX6_answer) := goodIn_app (goodIn_of _ (by decide +kernel)) ggX7_year_X6_answer
theorem dX7_year_0 : decode cX7_year 0 = .ok (.aload_n 0, 1) := by decide +kernel
theorem dX7_year_1 : decode cX7_year 1 = .ok (.iconst 0, 1) := by decide +kernel
theorem dX7_year_2 : decode cX7_year 2 = .ok (.putfield 52, 3) := by decide +kernel
theorem dX7_year_5 : decode cX7_year 5 = .ok (.iload_n 1, 1) := by decide +kernel
theorem dX7_year_6 : decode cX7_year 6 = .ok (.invokestatic 55, 3) := by decide +kernel
theorem dX7_year_9 : decode cX7_year 9 = .ok (.ifCond .ne 5, 3) := by decide +kernel
theorem dX7_year_12 : decode cX7_year 12 = .ok (.iconst (-1), 1) := by decide +kernel
theorem dX7_year_13 : decode cX7_year 13 = .ok (.ireturn, 1) := by decide +kernel
theorem dX7_year_14 : decode cX7_year 14 = .ok (.iload_n 2, 1) := by decide +kernel
theorem dX7_year_15 : decode cX7_year 15 = .ok (.invokestatic 59, 3) := by decide +kernel
theorem dX7_year_18 : decode cX7_year 18 = .ok (.ifCond .eq 24, 3) := by decide +kernel
theorem dX7_year_21 : decode cX7_year 21 = .ok (.iload 4, 2) := by decide +kernel
theorem dX7_year_23 : decode cX7_year 23 = .ok (.iconst 0, 1) := by decide +kernel
theorem dX7_year_24 : decode cX7_year 24 = .ok (.bipush 20, 2) := by decide +kernel
theorem dX7_year_26 : decode cX7_year 26 = .ok (.invokestatic 125, 3) := by decide +kernel
theorem dX7_year_29 : decode cX7_year 29 = .ok (.ifCond .eq 13, 3) := by decide +kernel
theorem dX7_year_32 : decode cX7_year 32 = .ok (.iload 5, 2) := by decide +kernel
theorem dX7_year_34 : decode cX7_year 34 = .ok (.iconst 0, 1) := by decide +kernel
theorem dX7_year_35 : decode cX7_year 35 = .ok (.iconst 5, 1) := by decide +kernel
theorem dX7_year_36 : decode cX7_year 36 = .ok (.invokestatic 125, 3) := by decide +kernel
theorem dX7_year_39 : decode cX7_year 39 = .ok (.ifCond .ne 6, 3) := by decide +kernel
theorem dX7_year_42 : decode cX7_year 42 = .ok (.bipush (-2), 2) := by decide +kernel
theorem dX7_year_44 : decode cX7_year 44 = .ok (.ireturn, 1) := by decide +kernel
theorem dX7_year_45 : decode cX7_year 45 = .ok (.aload_n 0, 1) := by decide +kernel
theorem dX7_year_46 : decode cX7_year 46 = .ok (.getfield 43, 3) := by decide +kernel
theorem dX7_year_49 : decode cX7_year 49 = .ok (.iload_n 1, 1) := by decide +kernel
theorem dX7_year_50 : decode cX7_year 50 = .ok (.aaload, 1) := by decide +kernel
theorem dX7_year_51 : decode cX7_year 51 = .ok (.astore 6, 2) := by decide +kernel
theorem dX7_year_53 : decode cX7_year 53 = .ok (.aload 6, 2) := by decide +kernel
theorem dX7_year_55 : decode cX7_year 55 = .ok (.iload_n 2, 1) := by decide +kernel
theorem dX7_year_56 : decode cX7_year 56 = .ok (.iload_n 3, 1) := by decide +kernel
theorem dX7_year_57 : decode cX7_year 57 = .ok (.iconst 2, 1) := by decide +kernel
theorem dX7_year_58 : decode cX7_year 58 = .ok (.iload 4, 2) := by decide +kernel
theorem dX7_year_60 : decode cX7_year 60 = .ok (.imul, 1) := by decide +kernel
theorem dX7_year_61 : decode cX7_year 61 = .ok (.invokevirtual 62, 3) := by decide +kernel
theorem dX7_year_64 : decode cX7_year 64 = .ok (.istore 7, 2) := by decide +kernel
theorem dX7_year_66 : decode cX7_year 66 = .ok (.iload 7, 2) := by decide +kernel
theorem dX7_year_68 : decode cX7_year 68 = .ok (.ifCond .eq 10, 3) := by decide +kernel
theorem dX7_year_71 : decode cX7_year 71 = .ok (.aload_n 0, 1) := by decide +kernel
theorem dX7_year_72 : decode cX7_year 72 = .ok (.iload 7, 2) := by decide +kernel
theorem dX7_year_74 : decode cX7_year 74 = .ok (.invokevirtual 66, 3) := by decide +kernel
theorem dX7_year_77 : decode cX7_year 77 = .ok (.ireturn, 1) := by decide +kernel
theorem dX7_year_78 : decode cX7_year 78 = .ok (.aload_n 0, 1) := by decide +kernel
theorem dX7_year_79 : decode cX7_year 79 = .ok (.getfield 12, 3) := by decide +kernel
theorem dX7_year_82 : decode cX7_year 82 = .ok (.invokevirtual 132, 3) := by decide +kernel
theorem dX7_year_85 : decode cX7_year 85 = .ok (.ifCond .ne 6, 3) := by decide +kernel
theorem dX7_year_88 : decode cX7_year 88 = .ok (.bipush (-3), 2) := by decide +kernel
theorem dX7_year_90 : decode cX7_year 90 = .ok (.ireturn, 1) := by decide +kernel
theorem dX7_year_91 : decode cX7_year 91 = .ok (.aload_n 0, 1) := by decide +kernel
theorem dX7_year_92 : decode cX7_year 92 = .ok (.getfield 37, 3) := by decide +kernel
theorem dX7_year_95 : decode cX7_year 95 = .ok (.aload 6, 2) := by decide +kernel
theorem dX7_year_97 : decode cX7_year 97 = .ok (.iload_n 3, 1) := by decide +kernel
theorem dX7_year_98 : decode cX7_year 98 = .ok (.iload 4, 2) := by decide +kernel
theorem dX7_year_100 : decode cX7_year 100 = .ok (.invokevirtual 154, 3) := by decide +kernel
theorem dX7_year_103 : decode cX7_year 103 = .ok (.istore 8, 2) := by decide +kernel
theorem dX7_year_105 : decode cX7_year 105 = .ok (.iload 8, 2) := by decide +kernel
theorem dX7_year_107 : decode cX7_year 107 = .ok (.ifCond .eq 6, 3) := by decide +kernel
theorem dX7_year_110 : decode cX7_year 110 = .ok (.iload 8, 2) := by decide +kernel
theorem dX7_year_112 : decode cX7_year 112 = .ok (.ireturn, 1) := by decide +kernel
theorem dX7_year_113 : decode cX7_year 113 = .ok (.aload_n 0, 1) := by decide +kernel
theorem dX7_year_114 : decode cX7_year 114 = .ok (.getfield 37, 3) := by decide +kernel
theorem dX7_year_117 : decode cX7_year 117 = .ok (.aload 6, 2) := by decide +kernel
theorem dX7_year_119 : decode cX7_year 119 = .ok (.iload_n 3, 1) := by decide +kernel
theorem dX7_year_120 : decode cX7_year 120 = .ok (.iload 4, 2) := by decide +kernel
theorem dX7_year_122 : decode cX7_year 122 = .ok (.invokevirtual 157, 3) := by decide +kernel
theorem dX7_year_125 : decode cX7_year 125 = .ok (.aload_n 0, 1) := by decide +kernel
theorem dX7_year_126 : decode cX7_year 126 = .ok (.getfield 37, 3) := by decide +kernel
theorem dX7_year_129 : decode cX7_year 129 = .ok (.iload 5, 2) := by decide +kernel
theorem dX7_year_131 : decode cX7_year 131 = .ok (.invokevirtual 161, 3) := by decide +kernel
theorem dX7_year_134 : decode cX7_year 134 = .ok (.ireturn, 1) := by decide +kernel
set_option maxRecDepth 20000 in
theorem ggX7_packs_X1_stands : GoodIn wsX7_packs wsX1_stands := goodIn_r _ [9, 10, 59, 60, 61, 62, 63, 64] (by decide +kernel) (by decide +kernel)
set_option maxRecDepth 20000 in
theorem gX7_packs_X1_stands : GoodIn wsX7_packs (wsV RX7 132 RX1 yX1_stands wsX1_stands) := goodIn_app (goodIn_of _ (by decide +kernel)) ggX7_packs_X1_stands
set_option maxRecDepth 20000 in
theorem ggX7_packs_X1_isSet : GoodIn wsX7_packs wsX1_isSet := goodIn_r _ [14, 10, 59, 60, 61, 62, 63, 64] (by decide +kernel) (by decide +kernel)
set_option maxRecDepth 20000 in
theorem gX7_packs_X1_isSet : GoodIn wsX7_packs (wsV RX7 139 RX1 yX1_isSet wsX1_isSet) := goodIn_app (goodIn_of _ (by decide +kernel)) ggX7_packs_X1_isSet
set_option maxRecDepth 20000 in
theorem ggX7_packs_X7_within : GoodIn wsX7_packs wsX7_within := goodIn_r _ [18] (by decide +kernel) (by decide +kernel)
set_option maxRecDepth 20000 in
theorem gX7_packs_X7_within : GoodIn wsX7_packs (va_wsS RX7 125 yX7_within wsX7_within) := goodIn_app (goodIn_of _ (by decide +kernel)) ggX7_packs_X7_within
set_option maxRecDepth 20000 in
theorem ggX7_packs_X2_pack : GoodIn wsX7_packs wsX2_pack := goodIn_r _ [23, 24, 25, 26, 27, 28, 29, 30, 22, 31, 32, 33, 34, 35, 36, 37, 38, 39, 8, 40, 10, 41, 42, 43, 44, 45, 17, 46, 54, 55, 56, 57, 58, 59, 60, 61, 62, 63, 64, 65, 66, 67, 68] (by decide +kernel) (by decide +kernel)
set_option maxRecDepth 20000 in
theorem gX7_packs_X2_pack : GoodIn wsX7_packs (wsV RX7 164 RX2 yX2_pack wsX2_pack) := goodIn_app (goodIn_of _ (by decide +kernel)) ggX7_packs_X2_pack
theorem dX7_packs_0 : decode cX7_packs 0 = .ok (.aload_n 0, 1) := by decide +kernel
theorem dX7_packs_1 : decode cX7_packs 1 = .ok (.getfield 12, 3) := by decide +kernel
theorem dX7_packs_4 : decode cX7_packs 4 = .ok (.invokevirtual 132, 3) := by decide +kernel
theorem dX7_packs_7 : decode cX7_packs 7 = .ok (.ifCond .ne 6, 3) := by decide +kernel
theorem dX7_packs_10 : decode cX7_packs 10 = .ok (.bipush (-3), 2) := by decide +kernel
theorem dX7_packs_12 : decode cX7_packs 12 = .ok (.ireturn, 1) := by decide +kernel
theorem dX7_packs_13 : decode cX7_packs 13 = .ok (.aload_n 0, 1) := by decide +kernel
theorem dX7_packs_14 : decode cX7_packs 14 = .ok (.getfield 12, 3) := by decide +kernel
theorem dX7_packs_17 : decode cX7_packs 17 = .ok (.iload_n 1, 1) := by decide +kernel
theorem dX7_packs_18 : decode cX7_packs 18 = .ok (.invokevirtual 139, 3) := by decide +kernel
theorem dX7_packs_21 : decode cX7_packs 21 = .ok (.ifCond .eq 12, 3) := by decide +kernel
theorem dX7_packs_24 : decode cX7_packs 24 = .ok (.iload_n 2, 1) := by decide +kernel
theorem dX7_packs_25 : decode cX7_packs 25 = .ok (.iconst (-1), 1) := by decide +kernel
theorem dX7_packs_26 : decode cX7_packs 26 = .ok (.iconst 5, 1) := by decide +kernel
theorem dX7_packs_27 : decode cX7_packs 27 = .ok (.invokestatic 125, 3) := by decide +kernel
theorem dX7_packs_30 : decode cX7_packs 30 = .ok (.ifCond .ne 6, 3) := by decide +kernel
theorem dX7_packs_33 : decode cX7_packs 33 = .ok (.bipush (-2), 2) := by decide +kernel
theorem dX7_packs_35 : decode cX7_packs 35 = .ok (.ireturn, 1) := by decide +kernel
theorem dX7_packs_36 : decode cX7_packs 36 = .ok (.aload_n 0, 1) := by decide +kernel
theorem dX7_packs_37 : decode cX7_packs 37 = .ok (.getfield 30, 3) := by decide +kernel
theorem dX7_packs_40 : decode cX7_packs 40 = .ok (.iload_n 1, 1) := by decide +kernel
theorem dX7_packs_41 : decode cX7_packs 41 = .ok (.invokevirtual 164, 3) := by decide +kernel
theorem dX7_packs_44 : decode cX7_packs 44 = .ok (.iload_n 2, 1) := by decide +kernel
theorem dX7_packs_45 : decode cX7_packs 45 = .ok (.ifCond .ge 13, 3) := by decide +kernel
theorem dX7_packs_48 : decode cX7_packs 48 = .ok (.aload_n 0, 1) := by decide +kernel
theorem dX7_packs_49 : decode cX7_packs 49 = .ok (.getfield 30, 3) := by decide +kernel
theorem dX7_packs_52 : decode cX7_packs 52 = .ok (.getfield 168, 3) := by decide +kernel
theorem dX7_packs_55 : decode cX7_packs 55 = .ok (.goto 12, 3) := by decide +kernel
theorem dX7_packs_58 : decode cX7_packs 58 = .ok (.aload_n 0, 1) := by decide +kernel
theorem dX7_packs_59 : decode cX7_packs 59 = .ok (.getfield 30, 3) := by decide +kernel
theorem dX7_packs_62 : decode cX7_packs 62 = .ok (.getfield 171, 3) := by decide +kernel
theorem dX7_packs_65 : decode cX7_packs 65 = .ok (.iload_n 2, 1) := by decide +kernel
theorem dX7_packs_66 : decode cX7_packs 66 = .ok (.iaload, 1) := by decide +kernel
theorem dX7_packs_67 : decode cX7_packs 67 = .ok (.ireturn, 1) := by decide +kernel
set_option maxRecDepth 20000 in
theorem ggX7_fetch_X1_stands : GoodIn wsX7_fetch wsX1_stands := goodIn_r _ [7, 8, 59, 60, 61, 62, 63, 64] (by decide +kernel) (by decide +kernel)
set_option maxRecDepth 20000 in
theorem gX7_fetch_X1_stands : GoodIn wsX7_fetch (wsV RX7 132 RX1 yX1_stands wsX1_stands) := goodIn_app (goodIn_of _ (by decide +kernel)) ggX7_fetch_X1_stands
set_option maxRecDepth 20000 in
theorem ggX7_fetch_X1_isSet : GoodIn wsX7_fetch wsX1_isSet := goodIn_r _ [12, 8, 59, 60, 61, 62, 63, 64] (by decide +kernel) (by decide +kernel)
set_option maxRecDepth 20000 in
theorem gX7_fetch_X1_isSet : GoodIn wsX7_fetch (wsV RX7 139 RX1 yX1_isSet wsX1_isSet) := goodIn_app (goodIn_of _ (by decide +kernel)) ggX7_fetch_X1_isSet
set_option maxRecDepth 20000 in
theorem ggX7_fetch_X1_fewestCalls : GoodIn wsX7_fetch wsX1_fewestCalls := goodIn_r _ [16, 17, 18, 19, 20, 21, 22, 23, 24, 25, 26, 27, 6, 28, 29, 30, 31, 32, 8, 33, 34, 35, 36, 37, 38, 39, 40, 41, 42, 43, 44, 45, 46, 47, 48, 49, 50, 51, 59, 60, 61, 62, 63, 64, 65, 66, 67, 68] (by decide +kernel) (by decide +kernel)
set_option maxRecDepth 20000 in
theorem gX7_fetch_X1_fewestCalls : GoodIn wsX7_fetch (wsV RX7 174 RX1 yX1_fewestCalls wsX1_fewestCalls) := goodIn_app (goodIn_of _ (by decide +kernel)) ggX7_fetch_X1_fewestCalls
theorem dX7_fetch_0 : decode cX7_fetch 0 = .ok (.aload_n 0, 1) := by decide +kernel
theorem dX7_fetch_1 : decode cX7_fetch 1 = .ok (.getfield 12, 3) := by decide +kernel
theorem dX7_fetch_4 : decode cX7_fetch 4 = .ok (.invokevirtual 132, 3) := by decide +kernel
theorem dX7_fetch_7 : decode cX7_fetch 7 = .ok (.ifCond .ne 6, 3) := by decide +kernel
theorem dX7_fetch_10 : decode cX7_fetch 10 = .ok (.bipush (-3), 2) := by decide +kernel
theorem dX7_fetch_12 : decode cX7_fetch 12 = .ok (.ireturn, 1) := by decide +kernel
theorem dX7_fetch_13 : decode cX7_fetch 13 = .ok (.aload_n 0, 1) := by decide +kernel
theorem dX7_fetch_14 : decode cX7_fetch 14 = .ok (.getfield 12, 3) := by decide +kernel
theorem dX7_fetch_17 : decode cX7_fetch 17 = .ok (.iload_n 1, 1) := by decide +kernel
theorem dX7_fetch_18 : decode cX7_fetch 18 = .ok (.invokevirtual 139, 3) := by decide +kernel
theorem dX7_fetch_21 : decode cX7_fetch 21 = .ok (.ifCond .ne 6, 3) := by decide +kernel
theorem dX7_fetch_24 : decode cX7_fetch 24 = .ok (.bipush (-2), 2) := by decide +kernel
theorem dX7_fetch_26 : decode cX7_fetch 26 = .ok (.ireturn, 1) := by decide +kernel
theorem dX7_fetch_27 : decode cX7_fetch 27 = .ok (.iload_n 1, 1) := by decide +kernel
theorem dX7_fetch_28 : decode cX7_fetch 28 = .ok (.aload_n 0, 1) := by decide +kernel
theorem dX7_fetch_29 : decode cX7_fetch 29 = .ok (.getfield 12, 3) := by decide +kernel
theorem dX7_fetch_32 : decode cX7_fetch 32 = .ok (.getfield 111, 3) := by decide +kernel
theorem dX7_fetch_35 : decode cX7_fetch 35 = .ok (.iconst (-1), 1) := by decide +kernel
theorem dX7_fetch_36 : decode cX7_fetch 36 = .ok (.ixor, 1) := by decide +kernel
theorem dX7_fetch_37 : decode cX7_fetch 37 = .ok (.iand, 1) := by decide +kernel
theorem dX7_fetch_38 : decode cX7_fetch 38 = .ok (.ifCond .eq 6, 3) := by decide +kernel
theorem dX7_fetch_41 : decode cX7_fetch 41 = .ok (.bipush (-3), 2) := by decide +kernel
theorem dX7_fetch_43 : decode cX7_fetch 43 = .ok (.ireturn, 1) := by decide +kernel
theorem dX7_fetch_44 : decode cX7_fetch 44 = .ok (.aload_n 0, 1) := by decide +kernel
theorem dX7_fetch_45 : decode cX7_fetch 45 = .ok (.getfield 12, 3) := by decide +kernel
theorem dX7_fetch_48 : decode cX7_fetch 48 = .ok (.iload_n 1, 1) := by decide +kernel
theorem dX7_fetch_49 : decode cX7_fetch 49 = .ok (.aload_n 0, 1) := by decide +kernel
theorem dX7_fetch_50 : decode cX7_fetch 50 = .ok (.getfield 12, 3) := by decide +kernel
theorem dX7_fetch_53 : decode cX7_fetch 53 = .ok (.getfield 111, 3) := by decide +kernel
theorem dX7_fetch_56 : decode cX7_fetch 56 = .ok (.invokevirtual 174, 3) := by decide +kernel
theorem dX7_fetch_59 : decode cX7_fetch 59 = .ok (.ireturn, 1) := by decide +kernel
set_option maxRecDepth 20000 in
theorem ggX7_lure_X1_isArticle : GoodIn wsX7_lure wsX1_isArticle := goodIn_r _ [7, 8, 56, 57, 58, 59, 60, 61] (by decide +kernel) (by decide +kernel)
set_option maxRecDepth 20000 in
theorem gX7_lure_X1_isArticle : GoodIn wsX7_lure (wsV RX7 86 RX1 yX1_isArticle wsX1_isArticle) := goodIn_app (goodIn_of _ (by decide +kernel)) ggX7_lure_X1_isArticle
set_option maxRecDepth 20000 in
theorem ggX7_lure_X7_has : GoodIn wsX7_lure wsX7_has := goodIn_r _ [12] (by decide +kernel) (by decide +kernel)
set_option maxRecDepth 20000 in
theorem gX7_lure_X7_has : GoodIn wsX7_lure (va_wsS RX7 114 yX7_has wsX7_has) := goodIn_app (goodIn_of _ (by decide +kernel)) ggX7_lure_X7_has
set_option maxRecDepth 20000 in
theorem ggX7_lure_X1_fewestCalls : GoodIn wsX7_lure wsX1_fewestCalls := goodIn_r _ [16, 17, 18, 19, 20, 21, 22, 23, 24, 25, 26, 27, 6, 28, 29, 30, 31, 32, 8, 33, 34, 35, 36, 37, 38, 10, 11, 12, 39, 40, 41, 42, 43, 44, 45, 46, 47, 48, 56, 57, 58, 59, 60, 61, 62, 63, 64, 65] (by decide +kernel) (by decide +kernel)

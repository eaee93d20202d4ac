theorem dX0_init_0 : decode cX0_init 0 = .ok (.aload_n 0, 1) := by decide +kernel
theorem dX0_init_1 : decode cX0_init 1 = .ok (.invokespecial 3, 3) := by decide +kernel
theorem dX0_init_4 : decode cX0_init 4 = .ok (.aload_n 0, 1) := by decide +kernel
theorem dX0_init_5 : decode cX0_init 5 = .ok (.bipush 36, 2) := by decide +kernel
theorem dX0_init_7 : decode cX0_init 7 = .ok (.newarray .int, 2) := by decide +kernel
theorem dX0_init_9 : decode cX0_init 9 = .ok (.putfield 9, 3) := by decide +kernel
theorem dX0_init_12 : decode cX0_init 12 = .ok (.return_, 1) := by decide +kernel
set_option maxRecDepth 20000 in
theorem ggX0_joinAllParts_X0_findParts : GoodIn wsX0_joinAllParts wsX0_findParts := goodIn_r _ [5, 6, 7, 8, 9, 10, 11, 12, 13, 14, 15, 16, 17, 18, 19, 20, 21, 22, 23, 24, 25, 26, 27, 28, 29, 30, 31, 32, 33, 34, 35, 36, 37, 38, 39, 40, 41, 42, 43, 44, 45, 46, 47, 48, 4, 49, 69, 70, 71, 72, 73, 74, 75] (by decide +kernel) (by decide +kernel)
set_option maxRecDepth 20000 in
theorem gX0_joinAllParts_X0_findParts : GoodIn wsX0_joinAllParts (wsV RX0 15 RX0 yX0_findParts wsX0_findParts) := goodIn_app (goodIn_of _ (by decide +kernel)) ggX0_joinAllParts_X0_findParts
set_option maxRecDepth 20000 in
theorem ggX0_joinAllParts_X0_darkestPlace : GoodIn wsX0_joinAllParts wsX0_darkestPlace := goodIn_r _ [53, 6, 54, 7, 8, 9, 10, 11, 12, 13, 14, 15, 16, 17, 37, 23, 24, 25, 38, 39, 40, 41, 22, 26, 27, 28, 42, 43, 44, 45, 34, 35, 36, 69, 70, 71, 72, 73, 74, 75] (by decide +kernel) (by decide +kernel)
set_option maxRecDepth 20000 in
theorem gX0_joinAllParts_X0_darkestPlace : GoodIn wsX0_joinAllParts (wsV RX0 19 RX0 yX0_darkestPlace wsX0_darkestPlace) := goodIn_app (goodIn_of _ (by decide +kernel)) ggX0_joinAllParts_X0_darkestPlace
set_option maxRecDepth 20000 in
theorem ggX0_joinAllParts_X3_setPlace : GoodIn wsX0_joinAllParts wsX3_setPlace := goodIn_r _ [58, 22, 23, 24, 10, 25, 26, 27, 28, 59, 60, 61, 62, 42, 43, 44, 45, 16, 17, 63, 64, 65, 66, 33, 34, 35, 36, 67, 68, 70, 71, 72, 73, 74, 75] (by decide +kernel) (by decide +kernel)
set_option maxRecDepth 20000 in
theorem gX0_joinAllParts_X3_setPlace : GoodIn wsX0_joinAllParts (wsV RX0 23 RX3 yX3_setPlace wsX3_setPlace) := goodIn_app (goodIn_of _ (by decide +kernel)) ggX0_joinAllParts_X3_setPlace
set_option maxRecDepth 20000 in
theorem ggX0_joinAllParts_X3_lowEnd : GoodIn wsX0_joinAllParts wsX3_lowEnd := goodIn_r _ [25] (by decide +kernel) (by decide +kernel)
set_option maxRecDepth 20000 in
theorem gX0_joinAllParts_X3_lowEnd : GoodIn wsX0_joinAllParts (wsV RX0 29 RX3 yX3_lowEnd wsX3_lowEnd) := goodIn_app (goodIn_of _ (by decide +kernel)) ggX0_joinAllParts_X3_lowEnd
set_option maxRecDepth 20000 in
theorem ggX0_joinAllParts_X3_highEnd : GoodIn wsX0_joinAllParts wsX3_highEnd := goodIn_r _ [41, 22, 23, 24, 10, 25, 26, 27, 28, 42, 43, 44, 45, 16, 17, 70, 71, 72, 73, 74, 75] (by decide +kernel) (by decide +kernel)
set_option maxRecDepth 20000 in
theorem gX0_joinAllParts_X3_highEnd : GoodIn wsX0_joinAllParts (wsV RX0 33 RX3 yX3_highEnd wsX3_highEnd) := goodIn_app (goodIn_of _ (by decide +kernel)) ggX0_joinAllParts_X3_highEnd
set_option maxRecDepth 20000 in
theorem ggX0_joinAllParts_X0_join : GoodIn wsX0_joinAllParts wsX0_join := goodIn_r _ [49, 6, 34, 35, 36, 69] (by decide +kernel) (by decide +kernel)
set_option maxRecDepth 20000 in
theorem gX0_joinAllParts_X0_join : GoodIn wsX0_joinAllParts (wsV RX0 36 RX0 yX0_join wsX0_join) := goodIn_app (goodIn_of _ (by decide +kernel)) ggX0_joinAllParts_X0_join
theorem dX0_joinAllParts_0 : decode cX0_joinAllParts 0 = .ok (.aload_n 0, 1) := by decide +kernel
theorem dX0_joinAllParts_1 : decode cX0_joinAllParts 1 = .ok (.aload_n 1, 1) := by decide +kernel
theorem dX0_joinAllParts_2 : decode cX0_joinAllParts 2 = .ok (.invokevirtual 15, 3) := by decide +kernel
theorem dX0_joinAllParts_5 : decode cX0_joinAllParts 5 = .ok (.iconst 0, 1) := by decide +kernel
theorem dX0_joinAllParts_6 : decode cX0_joinAllParts 6 = .ok (.istore_n 2, 1) := by decide +kernel
theorem dX0_joinAllParts_7 : decode cX0_joinAllParts 7 = .ok (.iconst 0, 1) := by decide +kernel
theorem dX0_joinAllParts_8 : decode cX0_joinAllParts 8 = .ok (.istore_n 3, 1) := by decide +kernel
theorem dX0_joinAllParts_9 : decode cX0_joinAllParts 9 = .ok (.iload_n 3, 1) := by decide +kernel
theorem dX0_joinAllParts_10 : decode cX0_joinAllParts 10 = .ok (.bipush 36, 2) := by decide +kernel
theorem dX0_joinAllParts_12 : decode cX0_joinAllParts 12 = .ok (.if_icmp .ge 51, 3) := by decide +kernel
theorem dX0_joinAllParts_15 : decode cX0_joinAllParts 15 = .ok (.aload_n 0, 1) := by decide +kernel
theorem dX0_joinAllParts_16 : decode cX0_joinAllParts 16 = .ok (.aload_n 1, 1) := by decide +kernel
theorem dX0_joinAllParts_17 : decode cX0_joinAllParts 17 = .ok (.invokevirtual 19, 3) := by decide +kernel
theorem dX0_joinAllParts_20 : decode cX0_joinAllParts 20 = .ok (.istore 4, 2) := by decide +kernel
theorem dX0_joinAllParts_22 : decode cX0_joinAllParts 22 = .ok (.iload 4, 2) := by decide +kernel
theorem dX0_joinAllParts_24 : decode cX0_joinAllParts 24 = .ok (.iconst (-1), 1) := by decide +kernel
theorem dX0_joinAllParts_25 : decode cX0_joinAllParts 25 = .ok (.if_icmp .ne 6, 3) := by decide +kernel
theorem dX0_joinAllParts_28 : decode cX0_joinAllParts 28 = .ok (.goto 35, 3) := by decide +kernel
theorem dX0_joinAllParts_31 : decode cX0_joinAllParts 31 = .ok (.aload_n 1, 1) := by decide +kernel
theorem dX0_joinAllParts_32 : decode cX0_joinAllParts 32 = .ok (.iload 4, 2) := by decide +kernel
theorem dX0_joinAllParts_34 : decode cX0_joinAllParts 34 = .ok (.iconst 1, 1) := by decide +kernel
theorem dX0_joinAllParts_35 : decode cX0_joinAllParts 35 = .ok (.invokevirtual 23, 3) := by decide +kernel
theorem dX0_joinAllParts_38 : decode cX0_joinAllParts 38 = .ok (.aload_n 0, 1) := by decide +kernel
theorem dX0_joinAllParts_39 : decode cX0_joinAllParts 39 = .ok (.aload_n 1, 1) := by decide +kernel
theorem dX0_joinAllParts_40 : decode cX0_joinAllParts 40 = .ok (.iload 4, 2) := by decide +kernel
theorem dX0_joinAllParts_42 : decode cX0_joinAllParts 42 = .ok (.invokevirtual 29, 3) := by decide +kernel
theorem dX0_joinAllParts_45 : decode cX0_joinAllParts 45 = .ok (.aload_n 1, 1) := by decide +kernel
theorem dX0_joinAllParts_46 : decode cX0_joinAllParts 46 = .ok (.iload 4, 2) := by decide +kernel
theorem dX0_joinAllParts_48 : decode cX0_joinAllParts 48 = .ok (.invokevirtual 33, 3) := by decide +kernel
theorem dX0_joinAllParts_51 : decode cX0_joinAllParts 51 = .ok (.invokevirtual 36, 3) := by decide +kernel
theorem dX0_joinAllParts_54 : decode cX0_joinAllParts 54 = .ok (.iinc 2 1, 3) := by decide +kernel
theorem dX0_joinAllParts_57 : decode cX0_joinAllParts 57 = .ok (.iinc 3 1, 3) := by decide +kernel
theorem dX0_joinAllParts_60 : decode cX0_joinAllParts 60 = .ok (.goto (-51), 3) := by decide +kernel
theorem dX0_joinAllParts_63 : decode cX0_joinAllParts 63 = .ok (.iload_n 2, 1) := by decide +kernel
theorem dX0_joinAllParts_64 : decode cX0_joinAllParts 64 = .ok (.ireturn, 1) := by decide +kernel
set_option maxRecDepth 20000 in
theorem ggX0_findParts_X3_places : GoodIn wsX0_findParts wsX3_places := goodIn_r _ [6, 7, 8, 9, 5, 10, 11, 12, 47, 48, 49, 50, 51, 52] (by decide +kernel) (by decide +kernel)
set_option maxRecDepth 20000 in
theorem gX0_findParts_X3_places : GoodIn wsX0_findParts (wsV RX0 40 RX3 yX3_places wsX3_places) := goodIn_app (goodIn_of _ (by decide +kernel)) ggX0_findParts_X3_places
set_option maxRecDepth 20000 in
theorem ggX0_findParts_X3_isOpenPlace : GoodIn wsX0_findParts wsX3_isOpenPlace := goodIn_r _ [16, 17, 18, 19, 5, 20, 21, 22, 23, 24, 25, 26, 27, 28, 29, 30, 31, 47, 48, 49, 50, 51, 52] (by decide +kernel) (by decide +kernel)
set_option maxRecDepth 20000 in
theorem gX0_findParts_X3_isOpenPlace : GoodIn wsX0_findParts (wsV RX0 44 RX3 yX3_isOpenPlace wsX3_isOpenPlace) := goodIn_app (goodIn_of _ (by decide +kernel)) ggX0_findParts_X3_isOpenPlace
set_option maxRecDepth 20000 in
theorem ggX0_findParts_X3_lowEnd : GoodIn wsX0_findParts wsX3_lowEnd := goodIn_r _ [20] (by decide +kernel) (by decide +kernel)
set_option maxRecDepth 20000 in
theorem gX0_findParts_X3_lowEnd : GoodIn wsX0_findParts (wsV RX0 29 RX3 yX3_lowEnd wsX3_lowEnd) := goodIn_app (goodIn_of _ (by decide +kernel)) ggX0_findParts_X3_lowEnd
set_option maxRecDepth 20000 in
theorem ggX0_findParts_X3_highEnd : GoodIn wsX0_findParts wsX3_highEnd := goodIn_r _ [36, 17, 18, 19, 5, 20, 21, 22, 23, 37, 38, 39, 40, 11, 12, 47, 48, 49, 50, 51, 52] (by decide +kernel) (by decide +kernel)
set_option maxRecDepth 20000 in
theorem gX0_findParts_X3_highEnd : GoodIn wsX0_findParts (wsV RX0 33 RX3 yX3_highEnd wsX3_highEnd) := goodIn_app (goodIn_of _ (by decide +kernel)) ggX0_findParts_X3_highEnd
set_option maxRecDepth 20000 in
theorem ggX0_findParts_X0_join : GoodIn wsX0_findParts wsX0_join := goodIn_r _ [45, 1, 29, 30, 31, 46] (by decide +kernel) (by decide +kernel)
set_option maxRecDepth 20000 in
theorem gX0_findParts_X0_join : GoodIn wsX0_findParts (wsV RX0 36 RX0 yX0_join wsX0_join) := goodIn_app (goodIn_of _ (by decide +kernel)) ggX0_findParts_X0_join
theorem dX0_findParts_0 : decode cX0_findParts 0 = .ok (.iconst 0, 1) := by decide +kernel
theorem dX0_findParts_1 : decode cX0_findParts 1 = .ok (.istore_n 2, 1) := by decide +kernel
theorem dX0_findParts_2 : decode cX0_findParts 2 = .ok (.iload_n 2, 1) := by decide +kernel
theorem dX0_findParts_3 : decode cX0_findParts 3 = .ok (.aload_n 0, 1) := by decide +kernel
theorem dX0_findParts_4 : decode cX0_findParts 4 = .ok (.getfield 9, 3) := by decide +kernel
theorem dX0_findParts_7 : decode cX0_findParts 7 = .ok (.arraylength, 1) := by decide +kernel
theorem dX0_findParts_8 : decode cX0_findParts 8 = .ok (.if_icmp .ge 16, 3) := by decide +kernel
theorem dX0_findParts_11 : decode cX0_findParts 11 = .ok (.aload_n 0, 1) := by decide +kernel
theorem dX0_findParts_12 : decode cX0_findParts 12 = .ok (.getfield 9, 3) := by decide +kernel
theorem dX0_findParts_15 : decode cX0_findParts 15 = .ok (.iload_n 2, 1) := by decide +kernel
theorem dX0_findParts_16 : decode cX0_findParts 16 = .ok (.iload_n 2, 1) := by decide +kernel
theorem dX0_findParts_17 : decode cX0_findParts 17 = .ok (.iastore, 1) := by decide +kernel
theorem dX0_findParts_18 : decode cX0_findParts 18 = .ok (.iinc 2 1, 3) := by decide +kernel
theorem dX0_findParts_21 : decode cX0_findParts 21 = .ok (.goto (-19), 3) := by decide +kernel
theorem dX0_findParts_24 : decode cX0_findParts 24 = .ok (.iconst 0, 1) := by decide +kernel
theorem dX0_findParts_25 : decode cX0_findParts 25 = .ok (.istore_n 2, 1) := by decide +kernel
theorem dX0_findParts_26 : decode cX0_findParts 26 = .ok (.iload_n 2, 1) := by decide +kernel
theorem dX0_findParts_27 : decode cX0_findParts 27 = .ok (.aload_n 1, 1) := by decide +kernel
theorem dX0_findParts_28 : decode cX0_findParts 28 = .ok (.invokevirtual 40, 3) := by decide +kernel
theorem dX0_findParts_31 : decode cX0_findParts 31 = .ok (.if_icmp .ge 31, 3) := by decide +kernel
theorem dX0_findParts_34 : decode cX0_findParts 34 = .ok (.aload_n 1, 1) := by decide +kernel
theorem dX0_findParts_35 : decode cX0_findParts 35 = .ok (.iload_n 2, 1) := by decide +kernel
theorem dX0_findParts_36 : decode cX0_findParts 36 = .ok (.invokevirtual 44, 3) := by decide +kernel
theorem dX0_findParts_39 : decode cX0_findParts 39 = .ok (.ifCond .eq 17, 3) := by decide +kernel
theorem dX0_findParts_42 : decode cX0_findParts 42 = .ok (.aload_n 0, 1) := by decide +kernel
theorem dX0_findParts_43 : decode cX0_findParts 43 = .ok (.aload_n 1, 1) := by decide +kernel
theorem dX0_findParts_44 : decode cX0_findParts 44 = .ok (.iload_n 2, 1) := by decide +kernel
theorem dX0_findParts_45 : decode cX0_findParts 45 = .ok (.invokevirtual 29, 3) := by decide +kernel
theorem dX0_findParts_48 : decode cX0_findParts 48 = .ok (.aload_n 1, 1) := by decide +kernel
theorem dX0_findParts_49 : decode cX0_findParts 49 = .ok (.iload_n 2, 1) := by decide +kernel
theorem dX0_findParts_50 : decode cX0_findParts 50 = .ok (.invokevirtual 33, 3) := by decide +kernel
theorem dX0_findParts_53 : decode cX0_findParts 53 = .ok (.invokevirtual 36, 3) := by decide +kernel
theorem dX0_findParts_56 : decode cX0_findParts 56 = .ok (.iinc 2 1, 3) := by decide +kernel
theorem dX0_findParts_59 : decode cX0_findParts 59 = .ok (.goto (-33), 3) := by decide +kernel
theorem dX0_findParts_62 : decode cX0_findParts 62 = .ok (.return_, 1) := by decide +kernel
set_option maxRecDepth 20000 in
theorem ggX0_join_X7_at : GoodIn wsX0_join wsX7_at := goodIn_r _ [4] (by decide +kernel) (by decide +kernel)
set_option maxRecDepth 20000 in
theorem gX0_join_X7_at_n48 : GoodIn wsX0_join (wsX7_at) := ggX0_join_X7_at
theorem dX0_join_0 : decode cX0_join 0 = .ok (.aload_n 0, 1) := by decide +kernel
theorem dX0_join_1 : decode cX0_join 1 = .ok (.getfield 9, 3) := by decide +kernel
theorem dX0_join_4 : decode cX0_join 4 = .ok (.iload_n 1, 1) := by decide +kernel
theorem dX0_join_5 : decode cX0_join 5 = .ok (.invokestatic 48, 3) := by decide +kernel
theorem dX0_join_8 : decode cX0_join 8 = .ok (.istore_n 3, 1) := by decide +kernel
theorem dX0_join_9 : decode cX0_join 9 = .ok (.aload_n 0, 1) := by decide +kernel
theorem dX0_join_10 : decode cX0_join 10 = .ok (.getfield 9, 3) := by decide +kernel
theorem dX0_join_13 : decode cX0_join 13 = .ok (.iload_n 2, 1) := by decide +kernel
theorem dX0_join_14 : decode cX0_join 14 = .ok (.invokestatic 48, 3) := by decide +kernel
theorem dX0_join_17 : decode cX0_join 17 = .ok (.istore 4, 2) := by decide +kernel
theorem dX0_join_19 : decode cX0_join 19 = .ok (.iconst 0, 1) := by decide +kernel
theorem dX0_join_20 : decode cX0_join 20 = .ok (.istore 5, 2) := by decide +kernel
theorem dX0_join_22 : decode cX0_join 22 = .ok (.iload 5, 2) := by decide +kernel
theorem dX0_join_24 : decode cX0_join 24 = .ok (.aload_n 0, 1) := by decide +kernel
theorem dX0_join_25 : decode cX0_join 25 = .ok (.getfield 9, 3) := by decide +kernel
theorem dX0_join_28 : decode cX0_join 28 = .ok (.arraylength, 1) := by decide +kernel
theorem dX0_join_29 : decode cX0_join 29 = .ok (.if_icmp .ge 29, 3) := by decide +kernel
theorem dX0_join_32 : decode cX0_join 32 = .ok (.aload_n 0, 1) := by decide +kernel
theorem dX0_join_33 : decode cX0_join 33 = .ok (.getfield 9, 3) := by decide +kernel
theorem dX0_join_36 : decode cX0_join 36 = .ok (.iload 5, 2) := by decide +kernel
theorem dX0_join_38 : decode cX0_join 38 = .ok (.iaload, 1) := by decide +kernel
theorem dX0_join_39 : decode cX0_join 39 = .ok (.iload 4, 2) := by decide +kernel
theorem dX0_join_41 : decode cX0_join 41 = .ok (.if_icmp .ne 11, 3) := by decide +kernel
theorem dX0_join_44 : decode cX0_join 44 = .ok (.aload_n 0, 1) := by decide +kernel
theorem dX0_join_45 : decode cX0_join 45 = .ok (.getfield 9, 3) := by decide +kernel
theorem dX0_join_48 : decode cX0_join 48 = .ok (.iload 5, 2) := by decide +kernel
theorem dX0_join_50 : decode cX0_join 50 = .ok (.iload_n 3, 1) := by decide +kernel
theorem dX0_join_51 : decode cX0_join 51 = .ok (.iastore, 1) := by decide +kernel
theorem dX0_join_52 : decode cX0_join 52 = .ok (.iinc 5 1, 3) := by decide +kernel
theorem dX0_join_55 : decode cX0_join 55 = .ok (.goto (-33), 3) := by decide +kernel
theorem dX0_join_58 : decode cX0_join 58 = .ok (.return_, 1) := by decide +kernel
set_option maxRecDepth 20000 in
theorem ggX0_darkestPlace_X3_places : GoodIn wsX0_darkestPlace wsX3_places := goodIn_r _ [7, 8, 9, 10, 6, 11, 12, 13, 34, 35, 36, 37, 38, 39] (by decide +kernel) (by decide +kernel)
set_option maxRecDepth 20000 in
theorem gX0_darkestPlace_X3_places : GoodIn wsX0_darkestPlace (wsV RX0 40 RX3 yX3_places wsX3_places) := goodIn_app (goodIn_of _ (by decide +kernel)) ggX0_darkestPlace_X3_places
set_option maxRecDepth 20000 in
theorem ggX0_darkestPlace_X3_lowEnd : GoodIn wsX0_darkestPlace wsX3_lowEnd := goodIn_r _ [17] (by decide +kernel) (by decide +kernel)
set_option maxRecDepth 20000 in
theorem gX0_darkestPlace_X3_lowEnd : GoodIn wsX0_darkestPlace (wsV RX0 29 RX3 yX3_lowEnd wsX3_lowEnd) := goodIn_app (goodIn_of _ (by decide +kernel)) ggX0_darkestPlace_X3_lowEnd
set_option maxRecDepth 20000 in
theorem ggX0_darkestPlace_X3_highEnd : GoodIn wsX0_darkestPlace wsX3_highEnd := goodIn_r _ [21, 22, 15, 16, 6, 17, 23, 24, 25, 26, 27, 28, 29, 12, 13, 34, 35, 36, 37, 38, 39] (by decide +kernel) (by decide +kernel)
set_option maxRecDepth 20000 in
theorem gX0_darkestPlace_X3_highEnd : GoodIn wsX0_darkestPlace (wsV RX0 33 RX3 yX3_highEnd wsX3_highEnd) := goodIn_app (goodIn_of _ (by decide +kernel)) ggX0_darkestPlace_X3_highEnd
set_option maxRecDepth 20000 in
theorem ggX0_darkestPlace_X7_at : GoodIn wsX0_darkestPlace wsX7_at := goodIn_r _ [32] (by decide +kernel) (by decide +kernel)
set_option maxRecDepth 20000 in
theorem gX0_darkestPlace_X7_at_n48 : GoodIn wsX0_darkestPlace (wsX7_at) := ggX0_darkestPlace_X7_at
theorem dX0_darkestPlace_0 : decode cX0_darkestPlace 0 = .ok (.iconst (-1), 1) := by decide +kernel
theorem dX0_darkestPlace_1 : decode cX0_darkestPlace 1 = .ok (.istore_n 2, 1) := by decide +kernel
theorem dX0_darkestPlace_2 : decode cX0_darkestPlace 2 = .ok (.iconst (-1), 1) := by decide +kernel
theorem dX0_darkestPlace_3 : decode cX0_darkestPlace 3 = .ok (.istore_n 3, 1) := by decide +kernel
theorem dX0_darkestPlace_4 : decode cX0_darkestPlace 4 = .ok (.iconst 0, 1) := by decide +kernel
theorem dX0_darkestPlace_5 : decode cX0_darkestPlace 5 = .ok (.istore 4, 2) := by decide +kernel
theorem dX0_darkestPlace_7 : decode cX0_darkestPlace 7 = .ok (.iload 4, 2) := by decide +kernel
theorem dX0_darkestPlace_9 : decode cX0_darkestPlace 9 = .ok (.aload_n 1, 1) := by decide +kernel
theorem dX0_darkestPlace_10 : decode cX0_darkestPlace 10 = .ok (.invokevirtual 40, 3) := by decide +kernel
theorem dX0_darkestPlace_13 : decode cX0_darkestPlace 13 = .ok (.if_icmp .ge 85, 3) := by decide +kernel
theorem dX0_darkestPlace_16 : decode cX0_darkestPlace 16 = .ok (.aload_n 1, 1) := by decide +kernel
theorem dX0_darkestPlace_17 : decode cX0_darkestPlace 17 = .ok (.iload 4, 2) := by decide +kernel
theorem dX0_darkestPlace_19 : decode cX0_darkestPlace 19 = .ok (.invokevirtual 29, 3) := by decide +kernel
theorem dX0_darkestPlace_22 : decode cX0_darkestPlace 22 = .ok (.istore 5, 2) := by decide +kernel
theorem dX0_darkestPlace_24 : decode cX0_darkestPlace 24 = .ok (.aload_n 1, 1) := by decide +kernel
theorem dX0_darkestPlace_25 : decode cX0_darkestPlace 25 = .ok (.iload 4, 2) := by decide +kernel
theorem dX0_darkestPlace_27 : decode cX0_darkestPlace 27 = .ok (.invokevirtual 33, 3) := by decide +kernel
theorem dX0_darkestPlace_30 : decode cX0_darkestPlace 30 = .ok (.istore 6, 2) := by decide +kernel
theorem dX0_darkestPlace_32 : decode cX0_darkestPlace 32 = .ok (.iload 6, 2) := by decide +kernel
theorem dX0_darkestPlace_34 : decode cX0_darkestPlace 34 = .ok (.iconst (-1), 1) := by decide +kernel
theorem dX0_darkestPlace_35 : decode cX0_darkestPlace 35 = .ok (.if_icmp .eq 57, 3) := by decide +kernel
theorem dX0_darkestPlace_38 : decode cX0_darkestPlace 38 = .ok (.aload_n 0, 1) := by decide +kernel
theorem dX0_darkestPlace_39 : decode cX0_darkestPlace 39 = .ok (.getfield 9, 3) := by decide +kernel
theorem dX0_darkestPlace_42 : decode cX0_darkestPlace 42 = .ok (.iload 5, 2) := by decide +kernel
theorem dX0_darkestPlace_44 : decode cX0_darkestPlace 44 = .ok (.invokestatic 48, 3) := by decide +kernel
theorem dX0_darkestPlace_47 : decode cX0_darkestPlace 47 = .ok (.aload_n 0, 1) := by decide +kernel
theorem dX0_darkestPlace_48 : decode cX0_darkestPlace 48 = .ok (.getfield 9, 3) := by decide +kernel
theorem dX0_darkestPlace_51 : decode cX0_darkestPlace 51 = .ok (.iload 6, 2) := by decide +kernel
theorem dX0_darkestPlace_53 : decode cX0_darkestPlace 53 = .ok (.invokestatic 48, 3) := by decide +kernel
theorem dX0_darkestPlace_56 : decode cX0_darkestPlace 56 = .ok (.if_icmp .eq 36, 3) := by decide +kernel
theorem dX0_darkestPlace_59 : decode cX0_darkestPlace 59 = .ok (.aload_n 1, 1) := by decide +kernel
theorem dX0_darkestPlace_60 : decode cX0_darkestPlace 60 = .ok (.getfield 52, 3) := by decide +kernel
theorem dX0_darkestPlace_63 : decode cX0_darkestPlace 63 = .ok (.iload 5, 2) := by decide +kernel
theorem dX0_darkestPlace_65 : decode cX0_darkestPlace 65 = .ok (.invokestatic 48, 3) := by decide +kernel
theorem dX0_darkestPlace_68 : decode cX0_darkestPlace 68 = .ok (.aload_n 1, 1) := by decide +kernel
theorem dX0_darkestPlace_69 : decode cX0_darkestPlace 69 = .ok (.getfield 52, 3) := by decide +kernel
theorem dX0_darkestPlace_72 : decode cX0_darkestPlace 72 = .ok (.iload 6, 2) := by decide +kernel
theorem dX0_darkestPlace_74 : decode cX0_darkestPlace 74 = .ok (.invokestatic 48, 3) := by decide +kernel
theorem dX0_darkestPlace_77 : decode cX0_darkestPlace 77 = .ok (.iadd, 1) := by decide +kernel
theorem dX0_darkestPlace_78 : decode cX0_darkestPlace 78 = .ok (.istore 7, 2) := by decide +kernel
theorem dX0_darkestPlace_80 : decode cX0_darkestPlace 80 = .ok (.iload 7, 2) := by decide +kernel
theorem dX0_darkestPlace_82 : decode cX0_darkestPlace 82 = .ok (.iload_n 3, 1) := by decide +kernel
theorem dX0_darkestPlace_83 : decode cX0_darkestPlace 83 = .ok (.if_icmp .le 9, 3) := by decide +kernel
theorem dX0_darkestPlace_86 : decode cX0_darkestPlace 86 = .ok (.iload 4, 2) := by decide +kernel
theorem dX0_darkestPlace_88 : decode cX0_darkestPlace 88 = .ok (.istore_n 2, 1) := by decide +kernel
theorem dX0_darkestPlace_89 : decode cX0_darkestPlace 89 = .ok (.iload 7, 2) := by decide +kernel
theorem dX0_darkestPlace_91 : decode cX0_darkestPlace 91 = .ok (.istore_n 3, 1) := by decide +kernel
theorem dX0_darkestPlace_92 : decode cX0_darkestPlace 92 = .ok (.iinc 4 1, 3) := by decide +kernel
theorem dX0_darkestPlace_95 : decode cX0_darkestPlace 95 = .ok (.goto (-88), 3) := by decide +kernel
theorem dX0_darkestPlace_98 : decode cX0_darkestPlace 98 = .ok (.iload_n 2, 1) := by decide +kernel
theorem dX0_darkestPlace_99 : decode cX0_darkestPlace 99 = .ok (.ireturn, 1) := by decide +kernel
theorem dX1_init_0 : decode cX1_init 0 = .ok (.aload_n 0, 1) := by decide +kernel
theorem dX1_init_1 : decode cX1_init 1 = .ok (.invokespecial 3, 3) := by decide +kernel
theorem dX1_init_4 : decode cX1_init 4 = .ok (.aload_n 0, 1) := by decide +kernel
theorem dX1_init_5 : decode cX1_init 5 = .ok (.bipush 36, 2) := by decide +kernel
theorem dX1_init_7 : decode cX1_init 7 = .ok (.newarray .int, 2) := by decide +kernel
theorem dX1_init_9 : decode cX1_init 9 = .ok (.putfield 9, 3) := by decide +kernel
theorem dX1_init_12 : decode cX1_init 12 = .ok (.return_, 1) := by decide +kernel
set_option maxRecDepth 20000 in
theorem ggX1_find_X3_entryCell : GoodIn wsX1_find wsX3_entryCell := goodIn_r _ [11, 12, 13, 14, 15, 117, 118, 119, 120, 121, 122] (by decide +kernel) (by decide +kernel)
set_option maxRecDepth 20000 in
theorem gX1_find_X3_entryCell : GoodIn wsX1_find (wsV RX1 15 RX3 yX3_entryCell wsX3_entryCell) := goodIn_app (goodIn_of _ (by decide +kernel)) ggX1_find_X3_entryCell
set_option maxRecDepth 20000 in
theorem ggX1_find_X6_findFrom : GoodIn wsX1_find wsX6_findFrom := goodIn_r _ [20, 21, 22, 23, 24, 25, 26, 27, 28, 29, 30, 19, 31, 32, 33, 34, 13, 14, 15, 35, 36, 37, 38, 39, 40, 41, 42, 43, 10, 44, 45, 46, 47, 48, 49, 50, 51, 52, 53, 54, 55, 112, 113, 114, 115, 116, 117, 118, 119, 120, 121, 122] (by decide +kernel) (by decide +kernel)
set_option maxRecDepth 20000 in
theorem gX1_find_X6_findFrom : GoodIn wsX1_find (wsV RX1 21 RX6 yX6_findFrom wsX6_findFrom) := goodIn_app (goodIn_of _ (by decide +kernel)) ggX1_find_X6_findFrom
set_option maxRecDepth 20000 in
theorem ggX1_find_X3_exitCell : GoodIn wsX1_find wsX3_exitCell := goodIn_r _ [59, 12, 13, 14, 15, 117, 118, 119, 120, 121, 122] (by decide +kernel) (by decide +kernel)
set_option maxRecDepth 20000 in
theorem gX1_find_X3_exitCell : GoodIn wsX1_find (wsV RX1 27 RX3 yX3_exitCell wsX3_exitCell) := goodIn_app (goodIn_of _ (by decide +kernel)) ggX1_find_X3_exitCell
set_option maxRecDepth 20000 in
theorem ggX1_find_X3_toneSum : GoodIn wsX1_find wsX3_toneSum := goodIn_r _ [63, 64, 65, 66, 67, 10, 68, 45, 46, 13, 14, 15, 117, 118, 119, 120, 121, 122] (by decide +kernel) (by decide +kernel)
set_option maxRecDepth 20000 in
theorem gX1_find_X3_toneSum : GoodIn wsX1_find (wsV RX1 30 RX3 yX3_toneSum wsX3_toneSum) := goodIn_app (goodIn_of _ (by decide +kernel)) ggX1_find_X3_toneSum
set_option maxRecDepth 20000 in
theorem ggX1_find_X7_at : GoodIn wsX1_find wsX7_at := goodIn_r _ [15] (by decide +kernel) (by decide +kernel)
set_option maxRecDepth 20000 in
theorem gX1_find_X7_at_n46 : GoodIn wsX1_find (wsX7_at) := ggX1_find_X7_at
set_option maxRecDepth 20000 in
theorem ggX1_find_X3_places : GoodIn wsX1_find wsX3_places := goodIn_r _ [72, 65, 66, 67, 10, 68, 45, 46, 117, 118, 119, 120, 121, 122] (by decide +kernel) (by decide +kernel)
set_option maxRecDepth 20000 in
theorem gX1_find_X3_places : GoodIn wsX1_find (wsV RX1 56 RX3 yX3_places wsX3_places) := goodIn_app (goodIn_of _ (by decide +kernel)) ggX1_find_X3_places
set_option maxRecDepth 20000 in
theorem ggX1_find_X3_isOpenPlace : GoodIn wsX1_find wsX3_isOpenPlace := goodIn_r _ [76, 77, 78, 79, 10, 80, 81, 82, 83, 84, 48, 49, 50, 51, 13, 14, 15, 117, 118, 119, 120, 121, 122] (by decide +kernel) (by decide +kernel)
set_option maxRecDepth 20000 in
theorem gX1_find_X3_isOpenPlace : GoodIn wsX1_find (wsV RX1 59 RX3 yX3_isOpenPlace wsX3_isOpenPlace) := goodIn_app (goodIn_of _ (by decide +kernel)) ggX1_find_X3_isOpenPlace
set_option maxRecDepth 20000 in
theorem ggX1_find_X1_cut : GoodIn wsX1_find wsX1_cut := goodIn_r _ [89, 90, 91, 92, 93, 94, 78, 79, 10, 80, 95, 96, 97, 98, 77, 81, 82, 83, 99, 42, 43, 44, 45, 46, 100, 38, 39, 19, 40, 21, 101, 25, 26, 27, 35, 14, 36, 13, 15, 106, 107, 108, 109, 110, 111, 112, 113, 114, 115, 116, 117, 118, 119, 120, 121, 122] (by decide +kernel) (by decide +kernel)
set_option maxRecDepth 20000 in
theorem gX1_find_X1_cut : GoodIn wsX1_find (wsV RX1 63 RX1 yX1_cut wsX1_cut) := goodIn_app (goodIn_of _ (by decide +kernel)) ggX1_find_X1_cut
set_option maxRecDepth 20000 in
theorem ggX1_find_X1_findMade : GoodIn wsX1_find wsX1_findMade := goodIn_r _ [105, 90, 1, 4, 5, 3, 6, 2, 56, 57, 58, 10, 59, 12, 13, 14, 15, 69, 70, 71, 72, 65, 66, 67, 68, 45, 46, 94, 78, 79, 80, 95, 96, 97, 98, 77, 81, 82, 83, 99, 42, 43, 44, 73, 74, 75, 76, 84, 48, 49, 50, 51, 106, 107, 108, 109, 110, 111, 112, 113, 114, 115, 116, 117, 118, 119, 120, 121, 122] (by decide +kernel) (by decide +kernel)
set_option maxRecDepth 20000 in
theorem gX1_find_X1_findMade : GoodIn wsX1_find (wsV RX1 67 RX1 yX1_findMade wsX1_findMade) := goodIn_app (goodIn_of _ (by decide +kernel)) ggX1_find_X1_findMade
theorem dX1_find_0 : decode cX1_find 0 = .ok (.aload_n 2, 1) := by decide +kernel
theorem dX1_find_1 : decode cX1_find 1 = .ok (.aload_n 1, 1) := by decide +kernel
theorem dX1_find_2 : decode cX1_find 2 = .ok (.aload_n 1, 1) := by decide +kernel
theorem dX1_find_3 : decode cX1_find 3 = .ok (.invokevirtual 15, 3) := by decide +kernel
theorem dX1_find_6 : decode cX1_find 6 = .ok (.invokevirtual 21, 3) := by decide +kernel
theorem dX1_find_9 : decode cX1_find 9 = .ok (.aload_n 3, 1) := by decide +kernel
theorem dX1_find_10 : decode cX1_find 10 = .ok (.aload_n 1, 1) := by decide +kernel
theorem dX1_find_11 : decode cX1_find 11 = .ok (.aload_n 1, 1) := by decide +kernel
theorem dX1_find_12 : decode cX1_find 12 = .ok (.invokevirtual 27, 3) := by decide +kernel
theorem dX1_find_15 : decode cX1_find 15 = .ok (.invokevirtual 21, 3) := by decide +kernel
theorem dX1_find_18 : decode cX1_find 18 = .ok (.aload_n 0, 1) := by decide +kernel
theorem dX1_find_19 : decode cX1_find 19 = .ok (.aload_n 1, 1) := by decide +kernel
theorem dX1_find_20 : decode cX1_find 20 = .ok (.invokevirtual 30, 3) := by decide +kernel
theorem dX1_find_23 : decode cX1_find 23 = .ok (.putfield 33, 3) := by decide +kernel
theorem dX1_find_26 : decode cX1_find 26 = .ok (.aload_n 0, 1) := by decide +kernel
theorem dX1_find_27 : decode cX1_find 27 = .ok (.iconst (-1), 1) := by decide +kernel
theorem dX1_find_28 : decode cX1_find 28 = .ok (.putfield 37, 3) := by decide +kernel
theorem dX1_find_31 : decode cX1_find 31 = .ok (.aload_n 0, 1) := by decide +kernel
theorem dX1_find_32 : decode cX1_find 32 = .ok (.iconst (-1), 1) := by decide +kernel
theorem dX1_find_33 : decode cX1_find 33 = .ok (.putfield 40, 3) := by decide +kernel
theorem dX1_find_36 : decode cX1_find 36 = .ok (.aload_n 0, 1) := by decide +kernel
theorem dX1_find_37 : decode cX1_find 37 = .ok (.aload_n 0, 1) := by decide +kernel
theorem dX1_find_38 : decode cX1_find 38 = .ok (.getfield 33, 3) := by decide +kernel
theorem dX1_find_41 : decode cX1_find 41 = .ok (.aload_n 2, 1) := by decide +kernel
theorem dX1_find_42 : decode cX1_find 42 = .ok (.getfield 43, 3) := by decide +kernel
theorem dX1_find_45 : decode cX1_find 45 = .ok (.aload_n 1, 1) := by decide +kernel
theorem dX1_find_46 : decode cX1_find 46 = .ok (.invokevirtual 27, 3) := by decide +kernel
theorem dX1_find_49 : decode cX1_find 49 = .ok (.invokestatic 46, 3) := by decide +kernel
theorem dX1_find_52 : decode cX1_find 52 = .ok (.iadd, 1) := by decide +kernel
theorem dX1_find_53 : decode cX1_find 53 = .ok (.putfield 50, 3) := by decide +kernel
theorem dX1_find_56 : decode cX1_find 56 = .ok (.aload_n 0, 1) := by decide +kernel
theorem dX1_find_57 : decode cX1_find 57 = .ok (.aload_n 0, 1) := by decide +kernel
theorem dX1_find_58 : decode cX1_find 58 = .ok (.getfield 50, 3) := by decide +kernel
theorem dX1_find_61 : decode cX1_find 61 = .ok (.putfield 53, 3) := by decide +kernel
theorem dX1_find_64 : decode cX1_find 64 = .ok (.iconst 0, 1) := by decide +kernel
theorem dX1_find_65 : decode cX1_find 65 = .ok (.istore 4, 2) := by decide +kernel
theorem dX1_find_67 : decode cX1_find 67 = .ok (.iload 4, 2) := by decide +kernel
theorem dX1_find_69 : decode cX1_find 69 = .ok (.aload_n 1, 1) := by decide +kernel
theorem dX1_find_70 : decode cX1_find 70 = .ok (.invokevirtual 56, 3) := by decide +kernel
theorem dX1_find_73 : decode cX1_find 73 = .ok (.if_icmp .ge 35, 3) := by decide +kernel
theorem dX1_find_76 : decode cX1_find 76 = .ok (.aload_n 1, 1) := by decide +kernel
theorem dX1_find_77 : decode cX1_find 77 = .ok (.iload 4, 2) := by decide +kernel
theorem dX1_find_79 : decode cX1_find 79 = .ok (.invokevirtual 59, 3) := by decide +kernel
theorem dX1_find_82 : decode cX1_find 82 = .ok (.ifCond .eq 20, 3) := by decide +kernel
theorem dX1_find_85 : decode cX1_find 85 = .ok (.aload_n 0, 1) := by decide +kernel
theorem dX1_find_86 : decode cX1_find 86 = .ok (.aload_n 1, 1) := by decide +kernel
theorem dX1_find_87 : decode cX1_find 87 = .ok (.iload 4, 2) := by decide +kernel
theorem dX1_find_89 : decode cX1_find 89 = .ok (.aload_n 2, 1) := by decide +kernel
theorem dX1_find_90 : decode cX1_find 90 = .ok (.invokevirtual 63, 3) := by decide +kernel
theorem dX1_find_93 : decode cX1_find 93 = .ok (.aload_n 0, 1) := by decide +kernel
theorem dX1_find_94 : decode cX1_find 94 = .ok (.aload_n 1, 1) := by decide +kernel
theorem dX1_find_95 : decode cX1_find 95 = .ok (.iload 4, 2) := by decide +kernel
theorem dX1_find_97 : decode cX1_find 97 = .ok (.aload_n 2, 1) := by decide +kernel
theorem dX1_find_98 : decode cX1_find 98 = .ok (.aload_n 3, 1) := by decide +kernel
theorem dX1_find_99 : decode cX1_find 99 = .ok (.invokevirtual 67, 3) := by decide +kernel
theorem dX1_find_102 : decode cX1_find 102 = .ok (.iinc 4 1, 3) := by decide +kernel
theorem dX1_find_105 : decode cX1_find 105 = .ok (.goto (-38), 3) := by decide +kernel
theorem dX1_find_108 : decode cX1_find 108 = .ok (.return_, 1) := by decide +kernel
set_option maxRecDepth 20000 in
theorem ggX1_apply_X3_setPlace : GoodIn wsX1_apply wsX3_setPlace := goodIn_r _ [7, 8, 9, 10, 6, 11, 12, 13, 14, 15, 16, 17, 18, 19, 20, 21, 22, 23, 24, 25, 26, 27, 28, 29, 30, 31, 32, 33, 34, 41, 42, 43, 44, 45, 46] (by decide +kernel) (by decide +kernel)
set_option maxRecDepth 20000 in
theorem gX1_apply_X3_setPlace : GoodIn wsX1_apply (wsV RX1 71 RX3 yX3_setPlace wsX3_setPlace) := goodIn_app (goodIn_of _ (by decide +kernel)) ggX1_apply_X3_setPlace
theorem dX1_apply_0 : decode cX1_apply 0 = .ok (.aload_n 1, 1) := by decide +kernel
theorem dX1_apply_1 : decode cX1_apply 1 = .ok (.aload_n 0, 1) := by decide +kernel
theorem dX1_apply_2 : decode cX1_apply 2 = .ok (.getfield 37, 3) := by decide +kernel
theorem dX1_apply_5 : decode cX1_apply 5 = .ok (.iconst 0, 1) := by decide +kernel
theorem dX1_apply_6 : decode cX1_apply 6 = .ok (.invokevirtual 71, 3) := by decide +kernel
theorem dX1_apply_9 : decode cX1_apply 9 = .ok (.aload_n 1, 1) := by decide +kernel
theorem dX1_apply_10 : decode cX1_apply 10 = .ok (.aload_n 0, 1) := by decide +kernel
theorem dX1_apply_11 : decode cX1_apply 11 = .ok (.getfield 40, 3) := by decide +kernel
theorem dX1_apply_14 : decode cX1_apply 14 = .ok (.iconst 1, 1) := by decide +kernel
theorem dX1_apply_15 : decode cX1_apply 15 = .ok (.invokevirtual 71, 3) := by decide +kernel
theorem dX1_apply_18 : decode cX1_apply 18 = .ok (.return_, 1) := by decide +kernel
set_option maxRecDepth 20000 in
theorem ggX1_cut_X3_lowEnd : GoodIn wsX1_cut wsX3_lowEnd := goodIn_r _ [9] (by decide +kernel) (by decide +kernel)
set_option maxRecDepth 20000 in
theorem gX1_cut_X3_lowEnd : GoodIn wsX1_cut (wsV RX1 75 RX3 yX3_lowEnd wsX3_lowEnd) := goodIn_app (goodIn_of _ (by decide +kernel)) ggX1_cut_X3_lowEnd
set_option maxRecDepth 20000 in
theorem ggX1_cut_X3_highEnd : GoodIn wsX1_cut wsX3_highEnd := goodIn_r _ [13, 14, 6, 7, 8, 9, 15, 16, 17, 18, 19, 20, 21, 22, 23, 50, 51, 52, 53, 54, 55] (by decide +kernel) (by decide +kernel)
set_option maxRecDepth 20000 in
theorem gX1_cut_X3_highEnd : GoodIn wsX1_cut (wsV RX1 79 RX3 yX3_highEnd wsX3_highEnd) := goodIn_app (goodIn_of _ (by decide +kernel)) ggX1_cut_X3_highEnd
set_option maxRecDepth 20000 in
theorem ggX1_cut_X6_lengthTo : GoodIn wsX1_cut wsX6_lengthTo := goodIn_r _ [28, 29, 45, 46, 47, 48, 49] (by decide +kernel) (by decide +kernel)
set_option maxRecDepth 20000 in
theorem gX1_cut_X6_lengthTo : GoodIn wsX1_cut (wsV RX1 82 RX6 yX6_lengthTo wsX6_lengthTo) := goodIn_app (goodIn_of _ (by decide +kernel)) ggX1_cut_X6_lengthTo
set_option maxRecDepth 20000 in
theorem ggX1_cut_J7_fill_53178 : GoodIn wsX1_cut wsJ7_fill_53178 := goodIn_r _ [33] (by decide +kernel) (by decide +kernel)
set_option maxRecDepth 20000 in
theorem gX1_cut_J7_fill_53178 : GoodIn wsX1_cut (va_wsS RX1 85 yJ7_fill_53178 wsJ7_fill_53178) := goodIn_app (goodIn_of _ (by decide +kernel)) ggX1_cut_J7_fill_53178
set_option maxRecDepth 20000 in
theorem ggX1_cut_X7_put : GoodIn wsX1_cut wsX7_put := goodIn_r _ [36] (by decide +kernel) (by decide +kernel)
set_option maxRecDepth 20000 in
theorem gX1_cut_X7_put_n91 : GoodIn wsX1_cut (wsX7_put) := ggX1_cut_X7_put
set_option maxRecDepth 20000 in
theorem ggX1_cut_X7_at : GoodIn wsX1_cut wsX7_at := goodIn_r _ [38] (by decide +kernel) (by decide +kernel)
set_option maxRecDepth 20000 in
theorem gX1_cut_X7_at_n46 : GoodIn wsX1_cut (wsX7_at) := ggX1_cut_X7_at
theorem dX1_cut_0 : decode cX1_cut 0 = .ok (.aload_n 1, 1) := by decide +kernel
theorem dX1_cut_1 : decode cX1_cut 1 = .ok (.iload_n 2, 1) := by decide +kernel
theorem dX1_cut_2 : decode cX1_cut 2 = .ok (.invokevirtual 75, 3) := by decide +kernel
theorem dX1_cut_5 : decode cX1_cut 5 = .ok (.istore 4, 2) := by decide +kernel
theorem dX1_cut_7 : decode cX1_cut 7 = .ok (.aload_n 1, 1) := by decide +kernel
theorem dX1_cut_8 : decode cX1_cut 8 = .ok (.iload_n 2, 1) := by decide +kernel
theorem dX1_cut_9 : decode cX1_cut 9 = .ok (.invokevirtual 79, 3) := by decide +kernel
theorem dX1_cut_12 : decode cX1_cut 12 = .ok (.istore 5, 2) := by decide +kernel
theorem dX1_cut_14 : decode cX1_cut 14 = .ok (.aload_n 3, 1) := by decide +kernel
theorem dX1_cut_15 : decode cX1_cut 15 = .ok (.iload 4, 2) := by decide +kernel
theorem dX1_cut_17 : decode cX1_cut 17 = .ok (.invokevirtual 82, 3) := by decide +kernel
theorem dX1_cut_20 : decode cX1_cut 20 = .ok (.aload_n 3, 1) := by decide +kernel
theorem dX1_cut_21 : decode cX1_cut 21 = .ok (.iload 5, 2) := by decide +kernel
theorem dX1_cut_23 : decode cX1_cut 23 = .ok (.invokevirtual 82, 3) := by decide +kernel
theorem dX1_cut_26 : decode cX1_cut 26 = .ok (.if_icmp .le 8, 3) := by decide +kernel
theorem dX1_cut_29 : decode cX1_cut 29 = .ok (.iload 4, 2) := by decide +kernel
theorem dX1_cut_31 : decode cX1_cut 31 = .ok (.goto 5, 3) := by decide +kernel
theorem dX1_cut_34 : decode cX1_cut 34 = .ok (.iload 5, 2) := by decide +kernel
theorem dX1_cut_36 : decode cX1_cut 36 = .ok (.istore 6, 2) := by decide +kernel
theorem dX1_cut_38 : decode cX1_cut 38 = .ok (.aload_n 0, 1) := by decide +kernel
theorem dX1_cut_39 : decode cX1_cut 39 = .ok (.getfield 9, 3) := by decide +kernel
theorem dX1_cut_42 : decode cX1_cut 42 = .ok (.iconst 0, 1) := by decide +kernel
theorem dX1_cut_43 : decode cX1_cut 43 = .ok (.invokestatic 85, 3) := by decide +kernel
theorem dX1_cut_46 : decode cX1_cut 46 = .ok (.aload_n 0, 1) := by decide +kernel
theorem dX1_cut_47 : decode cX1_cut 47 = .ok (.getfield 9, 3) := by decide +kernel
theorem dX1_cut_50 : decode cX1_cut 50 = .ok (.iload 6, 2) := by decide +kernel
theorem dX1_cut_52 : decode cX1_cut 52 = .ok (.iconst 1, 1) := by decide +kernel
theorem dX1_cut_53 : decode cX1_cut 53 = .ok (.invokestatic 91, 3) := by decide +kernel
theorem dX1_cut_56 : decode cX1_cut 56 = .ok (.iconst 1, 1) := by decide +kernel
theorem dX1_cut_57 : decode cX1_cut 57 = .ok (.istore 7, 2) := by decide +kernel
theorem dX1_cut_59 : decode cX1_cut 59 = .ok (.iload 7, 2) := by decide +kernel
theorem dX1_cut_61 : decode cX1_cut 61 = .ok (.aload_n 3, 1) := by decide +kernel
theorem dX1_cut_62 : decode cX1_cut 62 = .ok (.getfield 95, 3) := by decide +kernel
theorem dX1_cut_65 : decode cX1_cut 65 = .ok (.if_icmp .ge 50, 3) := by decide +kernel
theorem dX1_cut_68 : decode cX1_cut 68 = .ok (.aload_n 3, 1) := by decide +kernel
theorem dX1_cut_69 : decode cX1_cut 69 = .ok (.getfield 98, 3) := by decide +kernel
theorem dX1_cut_72 : decode cX1_cut 72 = .ok (.iload 7, 2) := by decide +kernel
theorem dX1_cut_74 : decode cX1_cut 74 = .ok (.invokestatic 46, 3) := by decide +kernel
theorem dX1_cut_77 : decode cX1_cut 77 = .ok (.istore 8, 2) := by decide +kernel
theorem dX1_cut_79 : decode cX1_cut 79 = .ok (.aload_n 0, 1) := by decide +kernel
theorem dX1_cut_80 : decode cX1_cut 80 = .ok (.getfield 9, 3) := by decide +kernel
theorem dX1_cut_83 : decode cX1_cut 83 = .ok (.aload_n 3, 1) := by decide +kernel
theorem dX1_cut_84 : decode cX1_cut 84 = .ok (.getfield 101, 3) := by decide +kernel
theorem dX1_cut_87 : decode cX1_cut 87 = .ok (.iload 8, 2) := by decide +kernel
theorem dX1_cut_89 : decode cX1_cut 89 = .ok (.invokestatic 46, 3) := by decide +kernel
theorem dX1_cut_92 : decode cX1_cut 92 = .ok (.invokestatic 46, 3) := by decide +kernel
theorem dX1_cut_95 : decode cX1_cut 95 = .ok (.iconst 1, 1) := by decide +kernel
theorem dX1_cut_96 : decode cX1_cut 96 = .ok (.if_icmp .ne 13, 3) := by decide +kernel
theorem dX1_cut_99 : decode cX1_cut 99 = .ok (.aload_n 0, 1) := by decide +kernel
theorem dX1_cut_100 : decode cX1_cut 100 = .ok (.getfield 9, 3) := by decide +kernel
theorem dX1_cut_103 : decode cX1_cut 103 = .ok (.iload 8, 2) := by decide +kernel
theorem dX1_cut_105 : decode cX1_cut 105 = .ok (.iconst 1, 1) := by decide +kernel
theorem dX1_cut_106 : decode cX1_cut 106 = .ok (.invokestatic 91, 3) := by decide +kernel
theorem dX1_cut_109 : decode cX1_cut 109 = .ok (.iinc 7 1, 3) := by decide +kernel
theorem dX1_cut_112 : decode cX1_cut 112 = .ok (.goto (-53), 3) := by decide +kernel
theorem dX1_cut_115 : decode cX1_cut 115 = .ok (.return_, 1) := by decide +kernel
set_option maxRecDepth 20000 in
theorem ggX1_findMade_X3_exitCell : GoodIn wsX1_findMade wsX3_exitCell := goodIn_r _ [12, 13, 14, 15, 16, 63, 64, 65, 66, 67, 68] (by decide +kernel) (by decide +kernel)
set_option maxRecDepth 20000 in
theorem gX1_findMade_X3_exitCell : GoodIn wsX1_findMade (wsV RX1 27 RX3 yX3_exitCell wsX3_exitCell) := goodIn_app (goodIn_of _ (by decide +kernel)) ggX1_findMade_X3_exitCell
set_option maxRecDepth 20000 in
theorem ggX1_findMade_X7_at : GoodIn wsX1_findMade wsX7_at := goodIn_r _ [16] (by decide +kernel) (by decide +kernel)
set_option maxRecDepth 20000 in
theorem gX1_findMade_X7_at_n46 : GoodIn wsX1_findMade (wsX7_at) := ggX1_findMade_X7_at
set_option maxRecDepth 20000 in
theorem ggX1_findMade_X3_places : GoodIn wsX1_findMade wsX3_places := goodIn_r _ [20, 21, 22, 23, 11, 24, 25, 26, 63, 64, 65, 66, 67, 68] (by decide +kernel) (by decide +kernel)
set_option maxRecDepth 20000 in
theorem gX1_findMade_X3_places : GoodIn wsX1_findMade (wsV RX1 56 RX3 yX3_places wsX3_places) := goodIn_app (goodIn_of _ (by decide +kernel)) ggX1_findMade_X3_places
set_option maxRecDepth 20000 in
theorem ggX1_findMade_X3_lowEnd : GoodIn wsX1_findMade wsX3_lowEnd := goodIn_r _ [30] (by decide +kernel) (by decide +kernel)
set_option maxRecDepth 20000 in
theorem gX1_findMade_X3_lowEnd : GoodIn wsX1_findMade (wsV RX1 75 RX3 yX3_lowEnd wsX3_lowEnd) := goodIn_app (goodIn_of _ (by decide +kernel)) ggX1_findMade_X3_lowEnd
set_option maxRecDepth 20000 in
theorem ggX1_findMade_X3_highEnd : GoodIn wsX1_findMade wsX3_highEnd := goodIn_r _ [34, 35, 28, 29, 11, 30, 36, 37, 38, 39, 40, 41, 42, 25, 26, 63, 64, 65, 66, 67, 68] (by decide +kernel) (by decide +kernel)
set_option maxRecDepth 20000 in
theorem gX1_findMade_X3_highEnd : GoodIn wsX1_findMade (wsV RX1 79 RX3 yX3_highEnd wsX3_highEnd) := goodIn_app (goodIn_of _ (by decide +kernel)) ggX1_findMade_X3_highEnd
set_option maxRecDepth 20000 in
theorem ggX1_findMade_X3_isOpenPlace : GoodIn wsX1_findMade wsX3_isOpenPlace := goodIn_r _ [46, 35, 28, 29, 11, 30, 36, 37, 38, 47, 48, 49, 50, 51, 14, 15, 16, 63, 64, 65, 66, 67, 68] (by decide +kernel) (by decide +kernel)
set_option maxRecDepth 20000 in
theorem gX1_findMade_X3_isOpenPlace : GoodIn wsX1_findMade (wsV RX1 59 RX3 yX3_isOpenPlace wsX3_isOpenPlace) := goodIn_app (goodIn_of _ (by decide +kernel)) ggX1_findMade_X3_isOpenPlace
theorem dX1_findMade_0 : decode cX1_findMade 0 = .ok (.aload_n 0, 1) := by decide +kernel
theorem dX1_findMade_1 : decode cX1_findMade 1 = .ok (.getfield 9, 3) := by decide +kernel
theorem dX1_findMade_4 : decode cX1_findMade 4 = .ok (.aload_n 1, 1) := by decide +kernel
theorem dX1_findMade_5 : decode cX1_findMade 5 = .ok (.invokevirtual 27, 3) := by decide +kernel
theorem dX1_findMade_8 : decode cX1_findMade 8 = .ok (.invokestatic 46, 3) := by decide +kernel
theorem dX1_findMade_11 : decode cX1_findMade 11 = .ok (.iconst 1, 1) := by decide +kernel
theorem dX1_findMade_12 : decode cX1_findMade 12 = .ok (.if_icmp .ne 7, 3) := by decide +kernel
theorem dX1_findMade_15 : decode cX1_findMade 15 = .ok (.iconst 1, 1) := by decide +kernel
theorem dX1_findMade_16 : decode cX1_findMade 16 = .ok (.goto 4, 3) := by decide +kernel
theorem dX1_findMade_19 : decode cX1_findMade 19 = .ok (.iconst 0, 1) := by decide +kernel
theorem dX1_findMade_20 : decode cX1_findMade 20 = .ok (.istore 5, 2) := by decide +kernel
theorem dX1_findMade_22 : decode cX1_findMade 22 = .ok (.iconst 0, 1) := by decide +kernel
theorem dX1_findMade_23 : decode cX1_findMade 23 = .ok (.istore 6, 2) := by decide +kernel
theorem dX1_findMade_25 : decode cX1_findMade 25 = .ok (.iload 6, 2) := by decide +kernel
theorem dX1_findMade_27 : decode cX1_findMade 27 = .ok (.aload_n 1, 1) := by decide +kernel
theorem dX1_findMade_28 : decode cX1_findMade 28 = .ok (.invokevirtual 56, 3) := by decide +kernel
theorem dX1_findMade_31 : decode cX1_findMade 31 = .ok (.if_icmp .ge 174, 3) := by decide +kernel
theorem dX1_findMade_34 : decode cX1_findMade 34 = .ok (.aload_n 1, 1) := by decide +kernel
theorem dX1_findMade_35 : decode cX1_findMade 35 = .ok (.iload 6, 2) := by decide +kernel
theorem dX1_findMade_37 : decode cX1_findMade 37 = .ok (.invokevirtual 75, 3) := by decide +kernel
theorem dX1_findMade_40 : decode cX1_findMade 40 = .ok (.istore 7, 2) := by decide +kernel
theorem dX1_findMade_42 : decode cX1_findMade 42 = .ok (.aload_n 1, 1) := by decide +kernel
theorem dX1_findMade_43 : decode cX1_findMade 43 = .ok (.iload 6, 2) := by decide +kernel
theorem dX1_findMade_45 : decode cX1_findMade 45 = .ok (.invokevirtual 79, 3) := by decide +kernel
theorem dX1_findMade_48 : decode cX1_findMade 48 = .ok (.istore 8, 2) := by decide +kernel
theorem dX1_findMade_50 : decode cX1_findMade 50 = .ok (.iload 8, 2) := by decide +kernel
theorem dX1_findMade_52 : decode cX1_findMade 52 = .ok (.iconst (-1), 1) := by decide +kernel
theorem dX1_findMade_53 : decode cX1_findMade 53 = .ok (.if_icmp .eq 146, 3) := by decide +kernel
theorem dX1_findMade_56 : decode cX1_findMade 56 = .ok (.aload_n 1, 1) := by decide +kernel
theorem dX1_findMade_57 : decode cX1_findMade 57 = .ok (.iload 6, 2) := by decide +kernel
theorem dX1_findMade_59 : decode cX1_findMade 59 = .ok (.invokevirtual 59, 3) := by decide +kernel
theorem dX1_findMade_62 : decode cX1_findMade 62 = .ok (.ifCond .ne 137, 3) := by decide +kernel
theorem dX1_findMade_65 : decode cX1_findMade 65 = .ok (.aload_n 0, 1) := by decide +kernel
theorem dX1_findMade_66 : decode cX1_findMade 66 = .ok (.getfield 9, 3) := by decide +kernel
theorem dX1_findMade_69 : decode cX1_findMade 69 = .ok (.iload 7, 2) := by decide +kernel
theorem dX1_findMade_71 : decode cX1_findMade 71 = .ok (.invokestatic 46, 3) := by decide +kernel
theorem dX1_findMade_74 : decode cX1_findMade 74 = .ok (.aload_n 0, 1) := by decide +kernel
theorem dX1_findMade_75 : decode cX1_findMade 75 = .ok (.getfield 9, 3) := by decide +kernel
theorem dX1_findMade_78 : decode cX1_findMade 78 = .ok (.iload 8, 2) := by decide +kernel
theorem dX1_findMade_80 : decode cX1_findMade 80 = .ok (.invokestatic 46, 3) := by decide +kernel
theorem dX1_findMade_83 : decode cX1_findMade 83 = .ok (.if_icmp .ne 6, 3) := by decide +kernel
theorem dX1_findMade_86 : decode cX1_findMade 86 = .ok (.goto 113, 3) := by decide +kernel
theorem dX1_findMade_89 : decode cX1_findMade 89 = .ok (.aload_n 0, 1) := by decide +kernel
theorem dX1_findMade_90 : decode cX1_findMade 90 = .ok (.getfield 9, 3) := by decide +kernel
theorem dX1_findMade_93 : decode cX1_findMade 93 = .ok (.iload 7, 2) := by decide +kernel
theorem dX1_findMade_95 : decode cX1_findMade 95 = .ok (.invokestatic 46, 3) := by decide +kernel
theorem dX1_findMade_98 : decode cX1_findMade 98 = .ok (.ifCond .ne 8, 3) := by decide +kernel
theorem dX1_findMade_101 : decode cX1_findMade 101 = .ok (.iload 7, 2) := by decide +kernel
theorem dX1_findMade_103 : decode cX1_findMade 103 = .ok (.goto 5, 3) := by decide +kernel
theorem dX1_findMade_106 : decode cX1_findMade 106 = .ok (.iload 8, 2) := by decide +kernel
theorem dX1_findMade_108 : decode cX1_findMade 108 = .ok (.istore 9, 2) := by decide +kernel
theorem dX1_findMade_110 : decode cX1_findMade 110 = .ok (.iload 9, 2) := by decide +kernel
theorem dX1_findMade_112 : decode cX1_findMade 112 = .ok (.iload 7, 2) := by decide +kernel
theorem dX1_findMade_114 : decode cX1_findMade 114 = .ok (.if_icmp .ne 8, 3) := by decide +kernel
theorem dX1_findMade_117 : decode cX1_findMade 117 = .ok (.iload 8, 2) := by decide +kernel
theorem dX1_findMade_119 : decode cX1_findMade 119 = .ok (.goto 5, 3) := by decide +kernel
theorem dX1_findMade_122 : decode cX1_findMade 122 = .ok (.iload 7, 2) := by decide +kernel
theorem dX1_findMade_124 : decode cX1_findMade 124 = .ok (.istore 10, 2) := by decide +kernel
theorem dX1_findMade_126 : decode cX1_findMade 126 = .ok (.iload 5, 2) := by decide +kernel
theorem dX1_findMade_128 : decode cX1_findMade 128 = .ok (.ifCond .eq 31, 3) := by decide +kernel
theorem dX1_findMade_131 : decode cX1_findMade 131 = .ok (.aload_n 0, 1) := by decide +kernel
theorem dX1_findMade_132 : decode cX1_findMade 132 = .ok (.getfield 33, 3) := by decide +kernel
theorem dX1_findMade_135 : decode cX1_findMade 135 = .ok (.aload_n 3, 1) := by decide +kernel
theorem dX1_findMade_136 : decode cX1_findMade 136 = .ok (.getfield 43, 3) := by decide +kernel
theorem dX1_findMade_139 : decode cX1_findMade 139 = .ok (.iload 9, 2) := by decide +kernel
theorem dX1_findMade_141 : decode cX1_findMade 141 = .ok (.invokestatic 46, 3) := by decide +kernel
theorem dX1_findMade_144 : decode cX1_findMade 144 = .ok (.iadd, 1) := by decide +kernel
theorem dX1_findMade_145 : decode cX1_findMade 145 = .ok (.aload 4, 2) := by decide +kernel
theorem dX1_findMade_147 : decode cX1_findMade 147 = .ok (.getfield 43, 3) := by decide +kernel
theorem dX1_findMade_150 : decode cX1_findMade 150 = .ok (.iload 10, 2) := by decide +kernel
theorem dX1_findMade_152 : decode cX1_findMade 152 = .ok (.invokestatic 46, 3) := by decide +kernel
theorem dX1_findMade_155 : decode cX1_findMade 155 = .ok (.iadd, 1) := by decide +kernel
theorem dX1_findMade_156 : decode cX1_findMade 156 = .ok (.goto 7, 3) := by decide +kernel
theorem dX1_findMade_159 : decode cX1_findMade 159 = .ok (.aload_n 0, 1) := by decide +kernel
theorem dX1_findMade_160 : decode cX1_findMade 160 = .ok (.getfield 50, 3) := by decide +kernel
theorem dX1_findMade_163 : decode cX1_findMade 163 = .ok (.istore 11, 2) := by decide +kernel
theorem dX1_findMade_165 : decode cX1_findMade 165 = .ok (.aload_n 0, 1) := by decide +kernel
theorem dX1_findMade_166 : decode cX1_findMade 166 = .ok (.getfield 40, 3) := by decide +kernel
theorem dX1_findMade_169 : decode cX1_findMade 169 = .ok (.iconst (-1), 1) := by decide +kernel
theorem dX1_findMade_170 : decode cX1_findMade 170 = .ok (.if_icmp .eq 12, 3) := by decide +kernel
theorem dX1_findMade_173 : decode cX1_findMade 173 = .ok (.iload 11, 2) := by decide +kernel
theorem dX1_findMade_175 : decode cX1_findMade 175 = .ok (.aload_n 0, 1) := by decide +kernel
theorem dX1_findMade_176 : decode cX1_findMade 176 = .ok (.getfield 53, 3) := by decide +kernel
theorem dX1_findMade_179 : decode cX1_findMade 179 = .ok (.if_icmp .ge 20, 3) := by decide +kernel
theorem dX1_findMade_182 : decode cX1_findMade 182 = .ok (.aload_n 0, 1) := by decide +kernel
theorem dX1_findMade_183 : decode cX1_findMade 183 = .ok (.iload_n 2, 1) := by decide +kernel
theorem dX1_findMade_184 : decode cX1_findMade 184 = .ok (.putfield 37, 3) := by decide +kernel
theorem dX1_findMade_187 : decode cX1_findMade 187 = .ok (.aload_n 0, 1) := by decide +kernel
theorem dX1_findMade_188 : decode cX1_findMade 188 = .ok (.iload 6, 2) := by decide +kernel
theorem dX1_findMade_190 : decode cX1_findMade 190 = .ok (.putfield 40, 3) := by decide +kernel
theorem dX1_findMade_193 : decode cX1_findMade 193 = .ok (.aload_n 0, 1) := by decide +kernel
theorem dX1_findMade_194 : decode cX1_findMade 194 = .ok (.iload 11, 2) := by decide +kernel
theorem dX1_findMade_196 : decode cX1_findMade 196 = .ok (.putfield 53, 3) := by decide +kernel
theorem dX1_findMade_199 : decode cX1_findMade 199 = .ok (.iinc 6 1, 3) := by decide +kernel
theorem dX1_findMade_202 : decode cX1_findMade 202 = .ok (.goto (-177), 3) := by decide +kernel
theorem dX1_findMade_205 : decode cX1_findMade 205 = .ok (.return_, 1) := by decide +kernel
set_option maxRecDepth 20000 in
theorem ggX2_init_X3_init : GoodIn wsX2_init wsX3_init := goodIn_r _ [11, 12, 2, 3, 13, 14, 15, 16, 17, 18, 19, 20, 7, 21, 22, 23, 24, 25, 26, 27, 28, 29, 30, 31, 32, 33, 34, 37, 38, 39, 40, 41, 42] (by decide +kernel) (by decide +kernel)
set_option maxRecDepth 20000 in
theorem gX2_init_X3_init : GoodIn wsX2_init (wsX3_init) := ggX2_init_X3_init
theorem dX2_init_0 : decode cX2_init 0 = .ok (.aload_n 0, 1) := by decide +kernel
theorem dX2_init_1 : decode cX2_init 1 = .ok (.invokespecial 3, 3) := by decide +kernel
theorem dX2_init_4 : decode cX2_init 4 = .ok (.aload_n 0, 1) := by decide +kernel
theorem dX2_init_5 : decode cX2_init 5 = .ok (.iconst 4, 1) := by decide +kernel
theorem dX2_init_6 : decode cX2_init 6 = .ok (.anewarray 9, 3) := by decide +kernel
theorem dX2_init_9 : decode cX2_init 9 = .ok (.putfield 11, 3) := by decide +kernel
theorem dX2_init_12 : decode cX2_init 12 = .ok (.iconst 0, 1) := by decide +kernel
theorem dX2_init_13 : decode cX2_init 13 = .ok (.istore_n 1, 1) := by decide +kernel
theorem dX2_init_14 : decode cX2_init 14 = .ok (.iload_n 1, 1) := by decide +kernel
theorem dX2_init_15 : decode cX2_init 15 = .ok (.aload_n 0, 1) := by decide +kernel
theorem dX2_init_16 : decode cX2_init 16 = .ok (.getfield 11, 3) := by decide +kernel
theorem dX2_init_19 : decode cX2_init 19 = .ok (.arraylength, 1) := by decide +kernel
theorem dX2_init_20 : decode cX2_init 20 = .ok (.if_icmp .ge 22, 3) := by decide +kernel
theorem dX2_init_23 : decode cX2_init 23 = .ok (.aload_n 0, 1) := by decide +kernel
theorem dX2_init_24 : decode cX2_init 24 = .ok (.getfield 11, 3) := by decide +kernel
theorem dX2_init_27 : decode cX2_init 27 = .ok (.iload_n 1, 1) := by decide +kernel
theorem dX2_init_28 : decode cX2_init 28 = .ok (.new 9, 3) := by decide +kernel
theorem dX2_init_31 : decode cX2_init 31 = .ok (.dup, 1) := by decide +kernel
theorem dX2_init_32 : decode cX2_init 32 = .ok (.invokespecial 17, 3) := by decide +kernel
theorem dX2_init_35 : decode cX2_init 35 = .ok (.aastore, 1) := by decide +kernel
theorem dX2_init_36 : decode cX2_init 36 = .ok (.iinc 1 1, 3) := by decide +kernel
theorem dX2_init_39 : decode cX2_init 39 = .ok (.goto (-25), 3) := by decide +kernel
theorem dX2_init_42 : decode cX2_init 42 = .ok (.aload_n 0, 1) := by decide +kernel
theorem dX2_init_43 : decode cX2_init 43 = .ok (.iconst 0, 1) := by decide +kernel
theorem dX2_init_44 : decode cX2_init 44 = .ok (.putfield 18, 3) := by decide +kernel
theorem dX2_init_47 : decode cX2_init 47 = .ok (.return_, 1) := by decide +kernel
set_option maxRecDepth 20000 in
theorem ggX2_push_X2_dropOldest : GoodIn wsX2_push wsX2_dropOldest := goodIn_r _ [6, 7, 1, 8, 9, 10, 5, 11, 26, 27] (by decide +kernel) (by decide +kernel)
set_option maxRecDepth 20000 in
theorem gX2_push_X2_dropOldest : GoodIn wsX2_push (wsV RX2 22 RX2 yX2_dropOldest wsX2_dropOldest) := goodIn_app (goodIn_of _ (by decide +kernel)) ggX2_push_X2_dropOldest
set_option maxRecDepth 20000 in
theorem ggX2_push_X2_stateAt : GoodIn wsX2_push wsX2_stateAt := goodIn_r _ [11, 7, 26, 27] (by decide +kernel) (by decide +kernel)
set_option maxRecDepth 20000 in
theorem gX2_push_X2_stateAt : GoodIn wsX2_push (wsV RX2 25 RX2 yX2_stateAt wsX2_stateAt) := goodIn_app (goodIn_of _ (by decide +kernel)) ggX2_push_X2_stateAt
set_option maxRecDepth 20000 in
theorem ggX2_push_X3_copyFrom : GoodIn wsX2_push wsX3_copyFrom := goodIn_r _ [16, 17, 18, 19, 20, 21, 22, 23, 24, 15, 25, 28, 29, 30, 31, 32, 33] (by decide +kernel) (by decide +kernel)
set_option maxRecDepth 20000 in
theorem gX2_push_X3_copyFrom : GoodIn wsX2_push (wsV RX2 29 RX3 yX3_copyFrom wsX3_copyFrom) := goodIn_app (goodIn_of _ (by decide +kernel)) ggX2_push_X3_copyFrom
theorem dX2_push_0 : decode cX2_push 0 = .ok (.aload_n 0, 1) := by decide +kernel
theorem dX2_push_1 : decode cX2_push 1 = .ok (.getfield 18, 3) := by decide +kernel
theorem dX2_push_4 : decode cX2_push 4 = .ok (.iconst 4, 1) := by decide +kernel
theorem dX2_push_5 : decode cX2_push 5 = .ok (.if_icmp .lt 7, 3) := by decide +kernel
theorem dX2_push_8 : decode cX2_push 8 = .ok (.aload_n 0, 1) := by decide +kernel
theorem dX2_push_9 : decode cX2_push 9 = .ok (.invokevirtual 22, 3) := by decide +kernel
theorem dX2_push_12 : decode cX2_push 12 = .ok (.aload_n 0, 1) := by decide +kernel
theorem dX2_push_13 : decode cX2_push 13 = .ok (.aload_n 0, 1) := by decide +kernel
theorem dX2_push_14 : decode cX2_push 14 = .ok (.getfield 18, 3) := by decide +kernel
theorem dX2_push_17 : decode cX2_push 17 = .ok (.invokevirtual 25, 3) := by decide +kernel
theorem dX2_push_20 : decode cX2_push 20 = .ok (.astore_n 2, 1) := by decide +kernel
theorem dX2_push_21 : decode cX2_push 21 = .ok (.aload_n 2, 1) := by decide +kernel
theorem dX2_push_22 : decode cX2_push 22 = .ok (.ifnull 18, 3) := by decide +kernel
theorem dX2_push_25 : decode cX2_push 25 = .ok (.aload_n 2, 1) := by decide +kernel
theorem dX2_push_26 : decode cX2_push 26 = .ok (.aload_n 1, 1) := by decide +kernel
theorem dX2_push_27 : decode cX2_push 27 = .ok (.invokevirtual 29, 3) := by decide +kernel
theorem dX2_push_30 : decode cX2_push 30 = .ok (.aload_n 0, 1) := by decide +kernel
theorem dX2_push_31 : decode cX2_push 31 = .ok (.dup, 1) := by decide +kernel
theorem dX2_push_32 : decode cX2_push 32 = .ok (.getfield 18, 3) := by decide +kernel
theorem dX2_push_35 : decode cX2_push 35 = .ok (.iconst 1, 1) := by decide +kernel
theorem dX2_push_36 : decode cX2_push 36 = .ok (.iadd, 1) := by decide +kernel
theorem dX2_push_37 : decode cX2_push 37 = .ok (.putfield 18, 3) := by decide +kernel
theorem dX2_push_40 : decode cX2_push 40 = .ok (.return_, 1) := by decide +kernel
set_option maxRecDepth 20000 in
theorem ggX2_pop_X2_stateAt : GoodIn wsX2_pop wsX2_stateAt := goodIn_r _ [6, 7, 22, 23] (by decide +kernel) (by decide +kernel)
set_option maxRecDepth 20000 in
theorem gX2_pop_X2_stateAt : GoodIn wsX2_pop (wsV RX2 25 RX2 yX2_stateAt wsX2_stateAt) := goodIn_app (goodIn_of _ (by decide +kernel)) ggX2_pop_X2_stateAt
set_option maxRecDepth 20000 in
theorem ggX2_pop_X3_copyFrom : GoodIn wsX2_pop wsX3_copyFrom := goodIn_r _ [12, 13, 14, 15, 16, 17, 18, 19, 20, 11, 21, 24, 25, 26, 27, 28, 29] (by decide +kernel) (by decide +kernel)
set_option maxRecDepth 20000 in
theorem gX2_pop_X3_copyFrom : GoodIn wsX2_pop (wsV RX2 29 RX3 yX3_copyFrom wsX3_copyFrom) := goodIn_app (goodIn_of _ (by decide +kernel)) ggX2_pop_X3_copyFrom
theorem dX2_pop_0 : decode cX2_pop 0 = .ok (.aload_n 0, 1) := by decide +kernel
theorem dX2_pop_1 : decode cX2_pop 1 = .ok (.aload_n 0, 1) := by decide +kernel
theorem dX2_pop_2 : decode cX2_pop 2 = .ok (.getfield 18, 3) := by decide +kernel
theorem dX2_pop_5 : decode cX2_pop 5 = .ok (.iconst 1, 1) := by decide +kernel
theorem dX2_pop_6 : decode cX2_pop 6 = .ok (.isub, 1) := by decide +kernel
theorem dX2_pop_7 : decode cX2_pop 7 = .ok (.invokevirtual 25, 3) := by decide +kernel
theorem dX2_pop_10 : decode cX2_pop 10 = .ok (.astore_n 2, 1) := by decide +kernel
theorem dX2_pop_11 : decode cX2_pop 11 = .ok (.aload_n 2, 1) := by decide +kernel
theorem dX2_pop_12 : decode cX2_pop 12 = .ok (.ifnonnull 5, 3) := by decide +kernel
theorem dX2_pop_15 : decode cX2_pop 15 = .ok (.iconst 0, 1) := by decide +kernel
theorem dX2_pop_16 : decode cX2_pop 16 = .ok (.ireturn, 1) := by decide +kernel
theorem dX2_pop_17 : decode cX2_pop 17 = .ok (.aload_n 1, 1) := by decide +kernel
theorem dX2_pop_18 : decode cX2_pop 18 = .ok (.aload_n 2, 1) := by decide +kernel
theorem dX2_pop_19 : decode cX2_pop 19 = .ok (.invokevirtual 29, 3) := by decide +kernel
theorem dX2_pop_22 : decode cX2_pop 22 = .ok (.aload_n 0, 1) := by decide +kernel
theorem dX2_pop_23 : decode cX2_pop 23 = .ok (.dup, 1) := by decide +kernel
theorem dX2_pop_24 : decode cX2_pop 24 = .ok (.getfield 18, 3) := by decide +kernel
theorem dX2_pop_27 : decode cX2_pop 27 = .ok (.iconst 1, 1) := by decide +kernel
theorem dX2_pop_28 : decode cX2_pop 28 = .ok (.isub, 1) := by decide +kernel
theorem dX2_pop_29 : decode cX2_pop 29 = .ok (.putfield 18, 3) := by decide +kernel
theorem dX2_pop_32 : decode cX2_pop 32 = .ok (.iconst 1, 1) := by decide +kernel
theorem dX2_pop_33 : decode cX2_pop 33 = .ok (.ireturn, 1) := by decide +kernel
theorem dX2_stateAt_0 : decode cX2_stateAt 0 = .ok (.iload_n 1, 1) := by decide +kernel
theorem dX2_stateAt_1 : decode cX2_stateAt 1 = .ok (.ifCond .lt 21, 3) := by decide +kernel
theorem dX2_stateAt_4 : decode cX2_stateAt 4 = .ok (.iload_n 1, 1) := by decide +kernel
theorem dX2_stateAt_5 : decode cX2_stateAt 5 = .ok (.aload_n 0, 1) := by decide +kernel
theorem dX2_stateAt_6 : decode cX2_stateAt 6 = .ok (.getfield 11, 3) := by decide +kernel
theorem dX2_stateAt_9 : decode cX2_stateAt 9 = .ok (.arraylength, 1) := by decide +kernel
theorem dX2_stateAt_10 : decode cX2_stateAt 10 = .ok (.if_icmp .ge 12, 3) := by decide +kernel
theorem dX2_stateAt_13 : decode cX2_stateAt 13 = .ok (.aload_n 0, 1) := by decide +kernel
theorem dX2_stateAt_14 : decode cX2_stateAt 14 = .ok (.getfield 11, 3) := by decide +kernel
theorem dX2_stateAt_17 : decode cX2_stateAt 17 = .ok (.iload_n 1, 1) := by decide +kernel
theorem dX2_stateAt_18 : decode cX2_stateAt 18 = .ok (.aaload, 1) := by decide +kernel
theorem dX2_stateAt_19 : decode cX2_stateAt 19 = .ok (.goto 4, 3) := by decide +kernel
theorem dX2_stateAt_22 : decode cX2_stateAt 22 = .ok (.aconst_null, 1) := by decide +kernel
theorem dX2_stateAt_23 : decode cX2_stateAt 23 = .ok (.areturn, 1) := by decide +kernel
set_option maxRecDepth 20000 in
theorem ggX2_dropOldest_X2_stateAt : GoodIn wsX2_dropOldest wsX2_stateAt := goodIn_r _ [7, 1, 8, 9] (by decide +kernel) (by decide +kernel)
set_option maxRecDepth 20000 in
theorem gX2_dropOldest_X2_stateAt : GoodIn wsX2_dropOldest (wsV RX2 25 RX2 yX2_stateAt wsX2_stateAt) := goodIn_app (goodIn_of _ (by decide +kernel)) ggX2_dropOldest_X2_stateAt
theorem dX2_dropOldest_0 : decode cX2_dropOldest 0 = .ok (.aload_n 0, 1) := by decide +kernel
theorem dX2_dropOldest_1 : decode cX2_dropOldest 1 = .ok (.iconst 0, 1) := by decide +kernel
theorem dX2_dropOldest_2 : decode cX2_dropOldest 2 = .ok (.invokevirtual 25, 3) := by decide +kernel
theorem dX2_dropOldest_5 : decode cX2_dropOldest 5 = .ok (.astore_n 1, 1) := by decide +kernel
theorem dX2_dropOldest_6 : decode cX2_dropOldest 6 = .ok (.iconst 0, 1) := by decide +kernel
theorem dX2_dropOldest_7 : decode cX2_dropOldest 7 = .ok (.istore_n 2, 1) := by decide +kernel
theorem dX2_dropOldest_8 : decode cX2_dropOldest 8 = .ok (.iload_n 2, 1) := by decide +kernel
theorem dX2_dropOldest_9 : decode cX2_dropOldest 9 = .ok (.aload_n 0, 1) := by decide +kernel
theorem dX2_dropOldest_10 : decode cX2_dropOldest 10 = .ok (.getfield 11, 3) := by decide +kernel
theorem dX2_dropOldest_13 : decode cX2_dropOldest 13 = .ok (.arraylength, 1) := by decide +kernel
theorem dX2_dropOldest_14 : decode cX2_dropOldest 14 = .ok (.if_icmp .ge 38, 3) := by decide +kernel
theorem dX2_dropOldest_17 : decode cX2_dropOldest 17 = .ok (.aload_n 0, 1) := by decide +kernel
theorem dX2_dropOldest_18 : decode cX2_dropOldest 18 = .ok (.getfield 11, 3) := by decide +kernel
theorem dX2_dropOldest_21 : decode cX2_dropOldest 21 = .ok (.iload_n 2, 1) := by decide +kernel
theorem dX2_dropOldest_22 : decode cX2_dropOldest 22 = .ok (.iload_n 2, 1) := by decide +kernel
theorem dX2_dropOldest_23 : decode cX2_dropOldest 23 = .ok (.iconst 1, 1) := by decide +kernel
theorem dX2_dropOldest_24 : decode cX2_dropOldest 24 = .ok (.iadd, 1) := by decide +kernel
theorem dX2_dropOldest_25 : decode cX2_dropOldest 25 = .ok (.aload_n 0, 1) := by decide +kernel
theorem dX2_dropOldest_26 : decode cX2_dropOldest 26 = .ok (.getfield 11, 3) := by decide +kernel
theorem dX2_dropOldest_29 : decode cX2_dropOldest 29 = .ok (.arraylength, 1) := by decide +kernel
theorem dX2_dropOldest_30 : decode cX2_dropOldest 30 = .ok (.if_icmp .ge 14, 3) := by decide +kernel
theorem dX2_dropOldest_33 : decode cX2_dropOldest 33 = .ok (.aload_n 0, 1) := by decide +kernel
theorem dX2_dropOldest_34 : decode cX2_dropOldest 34 = .ok (.getfield 11, 3) := by decide +kernel
theorem dX2_dropOldest_37 : decode cX2_dropOldest 37 = .ok (.iload_n 2, 1) := by decide +kernel
theorem dX2_dropOldest_38 : decode cX2_dropOldest 38 = .ok (.iconst 1, 1) := by decide +kernel
theorem dX2_dropOldest_39 : decode cX2_dropOldest 39 = .ok (.iadd, 1) := by decide +kernel
theorem dX2_dropOldest_40 : decode cX2_dropOldest 40 = .ok (.aaload, 1) := by decide +kernel
theorem dX2_dropOldest_41 : decode cX2_dropOldest 41 = .ok (.goto 4, 3) := by decide +kernel
theorem dX2_dropOldest_44 : decode cX2_dropOldest 44 = .ok (.aload_n 1, 1) := by decide +kernel
theorem dX2_dropOldest_45 : decode cX2_dropOldest 45 = .ok (.aastore, 1) := by decide +kernel
theorem dX2_dropOldest_46 : decode cX2_dropOldest 46 = .ok (.iinc 2 1, 3) := by decide +kernel
theorem dX2_dropOldest_49 : decode cX2_dropOldest 49 = .ok (.goto (-41), 3) := by decide +kernel
theorem dX2_dropOldest_52 : decode cX2_dropOldest 52 = .ok (.aload_n 0, 1) := by decide +kernel
theorem dX2_dropOldest_53 : decode cX2_dropOldest 53 = .ok (.dup, 1) := by decide +kernel
theorem dX2_dropOldest_54 : decode cX2_dropOldest 54 = .ok (.getfield 18, 3) := by decide +kernel
theorem dX2_dropOldest_57 : decode cX2_dropOldest 57 = .ok (.iconst 1, 1) := by decide +kernel
theorem dX2_dropOldest_58 : decode cX2_dropOldest 58 = .ok (.isub, 1) := by decide +kernel
theorem dX2_dropOldest_59 : decode cX2_dropOldest 59 = .ok (.putfield 18, 3) := by decide +kernel
theorem dX2_dropOldest_62 : decode cX2_dropOldest 62 = .ok (.return_, 1) := by decide +kernel
set_option maxRecDepth 20000 in
theorem ggX3_init_X3_clear : GoodIn wsX3_init wsX3_clear := goodIn_r _ [13, 14, 15, 5, 6, 7, 8, 16, 17, 18, 19, 20, 21, 22, 23, 24, 25, 12, 26, 27, 28, 29, 30, 31, 32] (by decide +kernel) (by decide +kernel)
set_option maxRecDepth 20000 in
theorem gX3_init_X3_clear : GoodIn wsX3_init (wsV RX3 24 RX3 yX3_clear wsX3_clear) := goodIn_app (goodIn_of _ (by decide +kernel)) ggX3_init_X3_clear

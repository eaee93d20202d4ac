theorem dX7_init_0 : decode cX7_init 0 = .ok (.aload_n 0, 1) := by decide +kernel
theorem dX7_init_1 : decode cX7_init 1 = .ok (.invokespecial 1, 3) := by decide +kernel
theorem dX7_init_4 : decode cX7_init 4 = .ok (.aload_n 0, 1) := by decide +kernel
theorem dX7_init_5 : decode cX7_init 5 = .ok (.new 7, 3) := by decide +kernel
theorem dX7_init_8 : decode cX7_init 8 = .ok (.dup, 1) := by decide +kernel
theorem dX7_init_9 : decode cX7_init 9 = .ok (.invokespecial 9, 3) := by decide +kernel
theorem dX7_init_12 : decode cX7_init 12 = .ok (.putfield 10, 3) := by decide +kernel
theorem dX7_init_15 : decode cX7_init 15 = .ok (.aload_n 0, 1) := by decide +kernel
theorem dX7_init_16 : decode cX7_init 16 = .ok (.new 7, 3) := by decide +kernel
theorem dX7_init_19 : decode cX7_init 19 = .ok (.dup, 1) := by decide +kernel
theorem dX7_init_20 : decode cX7_init 20 = .ok (.invokespecial 9, 3) := by decide +kernel
theorem dX7_init_23 : decode cX7_init 23 = .ok (.putfield 16, 3) := by decide +kernel
theorem dX7_init_26 : decode cX7_init 26 = .ok (.aload_n 0, 1) := by decide +kernel
theorem dX7_init_27 : decode cX7_init 27 = .ok (.new 19, 3) := by decide +kernel
theorem dX7_init_30 : decode cX7_init 30 = .ok (.dup, 1) := by decide +kernel
theorem dX7_init_31 : decode cX7_init 31 = .ok (.invokespecial 21, 3) := by decide +kernel
theorem dX7_init_34 : decode cX7_init 34 = .ok (.putfield 22, 3) := by decide +kernel
theorem dX7_init_37 : decode cX7_init 37 = .ok (.aload_n 0, 1) := by decide +kernel
theorem dX7_init_38 : decode cX7_init 38 = .ok (.new 26, 3) := by decide +kernel
theorem dX7_init_41 : decode cX7_init 41 = .ok (.dup, 1) := by decide +kernel
theorem dX7_init_42 : decode cX7_init 42 = .ok (.invokespecial 28, 3) := by decide +kernel
theorem dX7_init_45 : decode cX7_init 45 = .ok (.putfield 29, 3) := by decide +kernel
theorem dX7_init_48 : decode cX7_init 48 = .ok (.aload_n 0, 1) := by decide +kernel
theorem dX7_init_49 : decode cX7_init 49 = .ok (.new 33, 3) := by decide +kernel
theorem dX7_init_52 : decode cX7_init 52 = .ok (.dup, 1) := by decide +kernel
theorem dX7_init_53 : decode cX7_init 53 = .ok (.invokespecial 35, 3) := by decide +kernel
theorem dX7_init_56 : decode cX7_init 56 = .ok (.putfield 36, 3) := by decide +kernel
theorem dX7_init_59 : decode cX7_init 59 = .ok (.aload_n 0, 1) := by decide +kernel
theorem dX7_init_60 : decode cX7_init 60 = .ok (.new 33, 3) := by decide +kernel
theorem dX7_init_63 : decode cX7_init 63 = .ok (.dup, 1) := by decide +kernel
theorem dX7_init_64 : decode cX7_init 64 = .ok (.invokespecial 35, 3) := by decide +kernel
theorem dX7_init_67 : decode cX7_init 67 = .ok (.putfield 40, 3) := by decide +kernel
theorem dX7_init_70 : decode cX7_init 70 = .ok (.aload_n 0, 1) := by decide +kernel
theorem dX7_init_71 : decode cX7_init 71 = .ok (.new 33, 3) := by decide +kernel
theorem dX7_init_74 : decode cX7_init 74 = .ok (.dup, 1) := by decide +kernel
theorem dX7_init_75 : decode cX7_init 75 = .ok (.invokespecial 35, 3) := by decide +kernel
theorem dX7_init_78 : decode cX7_init 78 = .ok (.putfield 43, 3) := by decide +kernel
theorem dX7_init_81 : decode cX7_init 81 = .ok (.aload_n 0, 1) := by decide +kernel
theorem dX7_init_82 : decode cX7_init 82 = .ok (.new 46, 3) := by decide +kernel
theorem dX7_init_85 : decode cX7_init 85 = .ok (.dup, 1) := by decide +kernel
theorem dX7_init_86 : decode cX7_init 86 = .ok (.invokespecial 48, 3) := by decide +kernel
theorem dX7_init_89 : decode cX7_init 89 = .ok (.putfield 49, 3) := by decide +kernel
theorem dX7_init_92 : decode cX7_init 92 = .ok (.aload_n 0, 1) := by decide +kernel
theorem dX7_init_93 : decode cX7_init 93 = .ok (.new 53, 3) := by decide +kernel
theorem dX7_init_96 : decode cX7_init 96 = .ok (.dup, 1) := by decide +kernel
theorem dX7_init_97 : decode cX7_init 97 = .ok (.invokespecial 55, 3) := by decide +kernel
theorem dX7_init_100 : decode cX7_init 100 = .ok (.putfield 56, 3) := by decide +kernel
theorem dX7_init_103 : decode cX7_init 103 = .ok (.aload_n 0, 1) := by decide +kernel
theorem dX7_init_104 : decode cX7_init 104 = .ok (.new 60, 3) := by decide +kernel
theorem dX7_init_107 : decode cX7_init 107 = .ok (.dup, 1) := by decide +kernel
theorem dX7_init_108 : decode cX7_init 108 = .ok (.invokespecial 62, 3) := by decide +kernel
theorem dX7_init_111 : decode cX7_init 111 = .ok (.putfield 63, 3) := by decide +kernel
theorem dX7_init_114 : decode cX7_init 114 = .ok (.aload_n 0, 1) := by decide +kernel
theorem dX7_init_115 : decode cX7_init 115 = .ok (.iconst 0, 1) := by decide +kernel
theorem dX7_init_116 : decode cX7_init 116 = .ok (.putfield 67, 3) := by decide +kernel
theorem dX7_init_119 : decode cX7_init 119 = .ok (.return_, 1) := by decide +kernel
set_option maxRecDepth 20000 in
theorem ggX7_tone_X3_hasCell : GoodIn wsX7_tone wsX3_hasCell := goodIn_r _ [8, 9, 10, 11, 7, 12, 13, 14, 59, 60, 61, 62, 63, 64] (by decide +kernel) (by decide +kernel)
set_option maxRecDepth 20000 in
theorem gX7_tone_X3_hasCell : GoodIn wsX7_tone (wsV RX7 71 RX3 yX3_hasCell wsX3_hasCell) := goodIn_app (goodIn_of _ (by decide +kernel)) ggX7_tone_X3_hasCell
set_option maxRecDepth 20000 in
theorem ggX7_tone_X7_at : GoodIn wsX7_tone wsX7_at := goodIn_r _ [18] (by decide +kernel) (by decide +kernel)
set_option maxRecDepth 20000 in
theorem gX7_tone_X7_at : GoodIn wsX7_tone (va_wsS RX7 79 yX7_at wsX7_at) := goodIn_app (goodIn_of _ (by decide +kernel)) ggX7_tone_X7_at
set_option maxRecDepth 20000 in
theorem ggX7_tone_X2_push : GoodIn wsX7_tone wsX2_push := goodIn_r _ [23, 24, 25, 26, 27, 22, 28, 29, 30, 31, 32, 33, 34, 35, 36, 7, 37, 13, 14, 38, 39, 40, 41, 42, 43, 44, 65, 66, 59, 60, 61, 62, 63, 64] (by decide +kernel) (by decide +kernel)
set_option maxRecDepth 20000 in
theorem gX7_tone_X2_push : GoodIn wsX7_tone (wsV RX7 83 RX2 yX2_push wsX2_push) := goodIn_app (goodIn_of _ (by decide +kernel)) ggX7_tone_X2_push
set_option maxRecDepth 20000 in
theorem ggX7_tone_X7_put : GoodIn wsX7_tone wsX7_put := goodIn_r _ [47] (by decide +kernel) (by decide +kernel)
set_option maxRecDepth 20000 in
theorem gX7_tone_X7_put : GoodIn wsX7_tone (va_wsS RX7 87 yX7_put wsX7_put) := goodIn_app (goodIn_of _ (by decide +kernel)) ggX7_tone_X7_put
theorem dX7_tone_0 : decode cX7_tone 0 = .ok (.aload_n 0, 1) := by decide +kernel
theorem dX7_tone_1 : decode cX7_tone 1 = .ok (.getfield 10, 3) := by decide +kernel
theorem dX7_tone_4 : decode cX7_tone 4 = .ok (.iload_n 1, 1) := by decide +kernel
theorem dX7_tone_5 : decode cX7_tone 5 = .ok (.invokevirtual 71, 3) := by decide +kernel
theorem dX7_tone_8 : decode cX7_tone 8 = .ok (.ifCond .eq 13, 3) := by decide +kernel
theorem dX7_tone_11 : decode cX7_tone 11 = .ok (.iload_n 2, 1) := by decide +kernel
theorem dX7_tone_12 : decode cX7_tone 12 = .ok (.ifCond .lt 9, 3) := by decide +kernel
theorem dX7_tone_15 : decode cX7_tone 15 = .ok (.iload_n 2, 1) := by decide +kernel
theorem dX7_tone_16 : decode cX7_tone 16 = .ok (.bipush 9, 2) := by decide +kernel
theorem dX7_tone_18 : decode cX7_tone 18 = .ok (.if_icmp .le 5, 3) := by decide +kernel
theorem dX7_tone_21 : decode cX7_tone 21 = .ok (.iconst (-1), 1) := by decide +kernel
theorem dX7_tone_22 : decode cX7_tone 22 = .ok (.ireturn, 1) := by decide +kernel
theorem dX7_tone_23 : decode cX7_tone 23 = .ok (.aload_n 0, 1) := by decide +kernel
theorem dX7_tone_24 : decode cX7_tone 24 = .ok (.getfield 10, 3) := by decide +kernel
theorem dX7_tone_27 : decode cX7_tone 27 = .ok (.getfield 75, 3) := by decide +kernel
theorem dX7_tone_30 : decode cX7_tone 30 = .ok (.iload_n 1, 1) := by decide +kernel
theorem dX7_tone_31 : decode cX7_tone 31 = .ok (.invokestatic 79, 3) := by decide +kernel
theorem dX7_tone_34 : decode cX7_tone 34 = .ok (.istore_n 3, 1) := by decide +kernel
theorem dX7_tone_35 : decode cX7_tone 35 = .ok (.aload_n 0, 1) := by decide +kernel
theorem dX7_tone_36 : decode cX7_tone 36 = .ok (.getfield 22, 3) := by decide +kernel
theorem dX7_tone_39 : decode cX7_tone 39 = .ok (.aload_n 0, 1) := by decide +kernel
theorem dX7_tone_40 : decode cX7_tone 40 = .ok (.getfield 10, 3) := by decide +kernel
theorem dX7_tone_43 : decode cX7_tone 43 = .ok (.invokevirtual 83, 3) := by decide +kernel
theorem dX7_tone_46 : decode cX7_tone 46 = .ok (.aload_n 0, 1) := by decide +kernel
theorem dX7_tone_47 : decode cX7_tone 47 = .ok (.getfield 10, 3) := by decide +kernel
theorem dX7_tone_50 : decode cX7_tone 50 = .ok (.getfield 75, 3) := by decide +kernel
theorem dX7_tone_53 : decode cX7_tone 53 = .ok (.iload_n 1, 1) := by decide +kernel
theorem dX7_tone_54 : decode cX7_tone 54 = .ok (.iload_n 2, 1) := by decide +kernel
theorem dX7_tone_55 : decode cX7_tone 55 = .ok (.invokestatic 87, 3) := by decide +kernel
theorem dX7_tone_58 : decode cX7_tone 58 = .ok (.iload_n 3, 1) := by decide +kernel
theorem dX7_tone_59 : decode cX7_tone 59 = .ok (.ireturn, 1) := by decide +kernel
set_option maxRecDepth 20000 in
theorem ggX7_carve_X3_hasCell : GoodIn wsX7_carve wsX3_hasCell := goodIn_r _ [8, 9, 10, 11, 7, 12, 13, 14, 121, 122, 123, 124, 125, 126] (by decide +kernel) (by decide +kernel)
set_option maxRecDepth 20000 in
theorem gX7_carve_X3_hasCell : GoodIn wsX7_carve (wsV RX7 71 RX3 yX3_hasCell wsX3_hasCell) := goodIn_app (goodIn_of _ (by decide +kernel)) ggX7_carve_X3_hasCell
set_option maxRecDepth 20000 in
theorem ggX7_carve_X7_isDirection : GoodIn wsX7_carve wsX7_isDirection := goodIn_r _ [18] (by decide +kernel) (by decide +kernel)
set_option maxRecDepth 20000 in
theorem gX7_carve_X7_isDirection : GoodIn wsX7_carve (va_wsS RX7 91 yX7_isDirection wsX7_isDirection) := goodIn_app (goodIn_of _ (by decide +kernel)) ggX7_carve_X7_isDirection
set_option maxRecDepth 20000 in
theorem ggX7_carve_X3_beside : GoodIn wsX7_carve wsX3_beside := goodIn_r _ [22, 13, 14, 121, 122, 123, 124, 125, 126] (by decide +kernel) (by decide +kernel)
set_option maxRecDepth 20000 in
theorem gX7_carve_X3_beside : GoodIn wsX7_carve (wsV RX7 94 RX3 yX3_beside wsX3_beside) := goodIn_app (goodIn_of _ (by decide +kernel)) ggX7_carve_X3_beside
set_option maxRecDepth 20000 in
theorem ggX7_carve_X6_findFrom : GoodIn wsX7_carve wsX6_findFrom := goodIn_r _ [27, 28, 29, 30, 31, 32, 33, 34, 35, 36, 37, 26, 38, 39, 40, 41, 42, 17, 43, 44, 45, 46, 47, 48, 49, 50, 20, 21, 7, 22, 13, 14, 51, 52, 53, 54, 55, 56, 57, 58, 59, 127, 128, 129, 130, 131, 121, 122, 123, 124, 125, 126] (by decide +kernel) (by decide +kernel)
set_option maxRecDepth 20000 in
theorem gX7_carve_X6_findFrom : GoodIn wsX7_carve (wsV RX7 98 RX6 yX6_findFrom wsX6_findFrom) := goodIn_app (goodIn_of _ (by decide +kernel)) ggX7_carve_X6_findFrom
set_option maxRecDepth 20000 in
theorem ggX7_carve_X6_reach : GoodIn wsX7_carve wsX6_reach := goodIn_r _ [59, 46, 47, 48, 26, 49, 28, 127, 128, 129, 130, 131] (by decide +kernel) (by decide +kernel)
set_option maxRecDepth 20000 in
theorem gX7_carve_X6_reach : GoodIn wsX7_carve (wsV RX7 102 RX6 yX6_reach wsX6_reach) := goodIn_app (goodIn_of _ (by decide +kernel)) ggX7_carve_X6_reach
set_option maxRecDepth 20000 in
theorem ggX7_carve_X2_push : GoodIn wsX7_carve wsX2_push := goodIn_r _ [65, 66, 67, 68, 69, 64, 70, 71, 72, 73, 74, 75, 76, 77, 78, 7, 79, 13, 14, 80, 55, 81, 82, 83, 84, 85, 132, 133, 121, 122, 123, 124, 125, 126] (by decide +kernel) (by decide +kernel)
set_option maxRecDepth 20000 in
theorem gX7_carve_X2_push : GoodIn wsX7_carve (wsV RX7 83 RX2 yX2_push wsX2_push) := goodIn_app (goodIn_of _ (by decide +kernel)) ggX7_carve_X2_push
set_option maxRecDepth 20000 in
theorem ggX7_carve_X3_setPassage : GoodIn wsX7_carve wsX3_setPassage := goodIn_r _ [89, 90, 20, 21, 7, 22, 13, 14, 91, 92, 93, 94, 55, 42, 17, 43, 44, 45, 121, 122, 123, 124, 125, 126] (by decide +kernel) (by decide +kernel)
set_option maxRecDepth 20000 in
theorem gX7_carve_X3_setPassage : GoodIn wsX7_carve (wsV RX7 105 RX3 yX3_setPassage wsX3_setPassage) := goodIn_app (goodIn_of _ (by decide +kernel)) ggX7_carve_X3_setPassage
set_option maxRecDepth 20000 in
theorem ggX7_carve_X3_parts : GoodIn wsX7_carve wsX3_parts := goodIn_r _ [98, 9, 10, 11, 7, 12, 13, 14, 99, 100, 101, 102, 55, 42, 17, 43, 103, 104, 105, 106, 107, 108, 109, 121, 122, 123, 124, 125, 126] (by decide +kernel) (by decide +kernel)
set_option maxRecDepth 20000 in
theorem gX7_carve_X3_parts : GoodIn wsX7_carve (wsV RX7 109 RX3 yX3_parts wsX3_parts) := goodIn_app (goodIn_of _ (by decide +kernel)) ggX7_carve_X3_parts
theorem dX7_carve_0 : decode cX7_carve 0 = .ok (.aload_n 0, 1) := by decide +kernel
theorem dX7_carve_1 : decode cX7_carve 1 = .ok (.getfield 10, 3) := by decide +kernel
theorem dX7_carve_4 : decode cX7_carve 4 = .ok (.iload_n 1, 1) := by decide +kernel
theorem dX7_carve_5 : decode cX7_carve 5 = .ok (.invokevirtual 71, 3) := by decide +kernel
theorem dX7_carve_8 : decode cX7_carve 8 = .ok (.ifCond .eq 10, 3) := by decide +kernel
theorem dX7_carve_11 : decode cX7_carve 11 = .ok (.iload_n 2, 1) := by decide +kernel
theorem dX7_carve_12 : decode cX7_carve 12 = .ok (.invokestatic 91, 3) := by decide +kernel
theorem dX7_carve_15 : decode cX7_carve 15 = .ok (.ifCond .ne 5, 3) := by decide +kernel
theorem dX7_carve_18 : decode cX7_carve 18 = .ok (.iconst (-1), 1) := by decide +kernel
theorem dX7_carve_19 : decode cX7_carve 19 = .ok (.ireturn, 1) := by decide +kernel
theorem dX7_carve_20 : decode cX7_carve 20 = .ok (.aload_n 0, 1) := by decide +kernel
theorem dX7_carve_21 : decode cX7_carve 21 = .ok (.getfield 10, 3) := by decide +kernel
theorem dX7_carve_24 : decode cX7_carve 24 = .ok (.iload_n 1, 1) := by decide +kernel
theorem dX7_carve_25 : decode cX7_carve 25 = .ok (.iload_n 2, 1) := by decide +kernel
theorem dX7_carve_26 : decode cX7_carve 26 = .ok (.invokevirtual 94, 3) := by decide +kernel
theorem dX7_carve_29 : decode cX7_carve 29 = .ok (.istore_n 3, 1) := by decide +kernel
theorem dX7_carve_30 : decode cX7_carve 30 = .ok (.iload_n 3, 1) := by decide +kernel
theorem dX7_carve_31 : decode cX7_carve 31 = .ok (.iconst (-1), 1) := by decide +kernel
theorem dX7_carve_32 : decode cX7_carve 32 = .ok (.if_icmp .ne 6, 3) := by decide +kernel
theorem dX7_carve_35 : decode cX7_carve 35 = .ok (.bipush (-2), 2) := by decide +kernel
theorem dX7_carve_37 : decode cX7_carve 37 = .ok (.ireturn, 1) := by decide +kernel
theorem dX7_carve_38 : decode cX7_carve 38 = .ok (.aload_n 0, 1) := by decide +kernel
theorem dX7_carve_39 : decode cX7_carve 39 = .ok (.getfield 36, 3) := by decide +kernel
theorem dX7_carve_42 : decode cX7_carve 42 = .ok (.aload_n 0, 1) := by decide +kernel
theorem dX7_carve_43 : decode cX7_carve 43 = .ok (.getfield 10, 3) := by decide +kernel
theorem dX7_carve_46 : decode cX7_carve 46 = .ok (.iload_n 1, 1) := by decide +kernel
theorem dX7_carve_47 : decode cX7_carve 47 = .ok (.invokevirtual 98, 3) := by decide +kernel
theorem dX7_carve_50 : decode cX7_carve 50 = .ok (.aload_n 0, 1) := by decide +kernel
theorem dX7_carve_51 : decode cX7_carve 51 = .ok (.getfield 36, 3) := by decide +kernel
theorem dX7_carve_54 : decode cX7_carve 54 = .ok (.iload_n 3, 1) := by decide +kernel
theorem dX7_carve_55 : decode cX7_carve 55 = .ok (.invokevirtual 102, 3) := by decide +kernel
theorem dX7_carve_58 : decode cX7_carve 58 = .ok (.ifCond .eq 6, 3) := by decide +kernel
theorem dX7_carve_61 : decode cX7_carve 61 = .ok (.bipush (-2), 2) := by decide +kernel
theorem dX7_carve_63 : decode cX7_carve 63 = .ok (.ireturn, 1) := by decide +kernel
theorem dX7_carve_64 : decode cX7_carve 64 = .ok (.aload_n 0, 1) := by decide +kernel
theorem dX7_carve_65 : decode cX7_carve 65 = .ok (.getfield 22, 3) := by decide +kernel
theorem dX7_carve_68 : decode cX7_carve 68 = .ok (.aload_n 0, 1) := by decide +kernel
theorem dX7_carve_69 : decode cX7_carve 69 = .ok (.getfield 10, 3) := by decide +kernel
theorem dX7_carve_72 : decode cX7_carve 72 = .ok (.invokevirtual 83, 3) := by decide +kernel
theorem dX7_carve_75 : decode cX7_carve 75 = .ok (.aload_n 0, 1) := by decide +kernel
theorem dX7_carve_76 : decode cX7_carve 76 = .ok (.getfield 10, 3) := by decide +kernel
theorem dX7_carve_79 : decode cX7_carve 79 = .ok (.iload_n 1, 1) := by decide +kernel
theorem dX7_carve_80 : decode cX7_carve 80 = .ok (.iload_n 2, 1) := by decide +kernel
theorem dX7_carve_81 : decode cX7_carve 81 = .ok (.iconst 1, 1) := by decide +kernel
theorem dX7_carve_82 : decode cX7_carve 82 = .ok (.invokevirtual 105, 3) := by decide +kernel
theorem dX7_carve_85 : decode cX7_carve 85 = .ok (.aload_n 0, 1) := by decide +kernel
theorem dX7_carve_86 : decode cX7_carve 86 = .ok (.getfield 10, 3) := by decide +kernel
theorem dX7_carve_89 : decode cX7_carve 89 = .ok (.invokevirtual 109, 3) := by decide +kernel
theorem dX7_carve_92 : decode cX7_carve 92 = .ok (.ireturn, 1) := by decide +kernel
set_option maxRecDepth 20000 in
theorem ggX7_wall_X3_hasCell : GoodIn wsX7_wall wsX3_hasCell := goodIn_r _ [7, 8, 9, 10, 6, 11, 12, 13, 90, 91, 92, 93, 94, 95] (by decide +kernel) (by decide +kernel)
set_option maxRecDepth 20000 in
theorem gX7_wall_X3_hasCell : GoodIn wsX7_wall (wsV RX7 71 RX3 yX3_hasCell wsX3_hasCell) := goodIn_app (goodIn_of _ (by decide +kernel)) ggX7_wall_X3_hasCell
set_option maxRecDepth 20000 in
theorem ggX7_wall_X7_isDirection : GoodIn wsX7_wall wsX7_isDirection := goodIn_r _ [17] (by decide +kernel) (by decide +kernel)
set_option maxRecDepth 20000 in
theorem gX7_wall_X7_isDirection : GoodIn wsX7_wall (va_wsS RX7 91 yX7_isDirection wsX7_isDirection) := goodIn_app (goodIn_of _ (by decide +kernel)) ggX7_wall_X7_isDirection
set_option maxRecDepth 20000 in
theorem ggX7_wall_X3_hasPassage : GoodIn wsX7_wall wsX3_hasPassage := goodIn_r _ [21, 22, 23, 16, 24, 90, 91, 92, 93, 94, 95] (by decide +kernel) (by decide +kernel)
set_option maxRecDepth 20000 in
theorem gX7_wall_X3_hasPassage : GoodIn wsX7_wall (wsV RX7 113 RX3 yX3_hasPassage wsX3_hasPassage) := goodIn_app (goodIn_of _ (by decide +kernel)) ggX7_wall_X3_hasPassage
set_option maxRecDepth 20000 in
theorem ggX7_wall_X2_push : GoodIn wsX7_wall wsX2_push := goodIn_r _ [29, 30, 31, 32, 33, 28, 34, 35, 36, 37, 38, 39, 40, 41, 42, 6, 43, 12, 13, 44, 22, 45, 46, 47, 48, 49, 96, 97, 90, 91, 92, 93, 94, 95] (by decide +kernel) (by decide +kernel)
set_option maxRecDepth 20000 in
theorem gX7_wall_X2_push : GoodIn wsX7_wall (wsV RX7 83 RX2 yX2_push wsX2_push) := goodIn_app (goodIn_of _ (by decide +kernel)) ggX7_wall_X2_push
set_option maxRecDepth 20000 in
theorem ggX7_wall_X3_setPassage : GoodIn wsX7_wall wsX3_setPassage := goodIn_r _ [53, 54, 55, 56, 6, 57, 12, 13, 58, 59, 60, 61, 22, 23, 16, 24, 62, 63, 90, 91, 92, 93, 94, 95] (by decide +kernel) (by decide +kernel)
set_option maxRecDepth 20000 in
theorem gX7_wall_X3_setPassage : GoodIn wsX7_wall (wsV RX7 105 RX3 yX3_setPassage wsX3_setPassage) := goodIn_app (goodIn_of _ (by decide +kernel)) ggX7_wall_X3_setPassage
set_option maxRecDepth 20000 in
theorem ggX7_wall_X3_parts : GoodIn wsX7_wall wsX3_parts := goodIn_r _ [67, 8, 9, 10, 6, 11, 12, 13, 68, 69, 70, 71, 22, 23, 16, 24, 72, 73, 74, 75, 76, 77, 78, 90, 91, 92, 93, 94, 95] (by decide +kernel) (by decide +kernel)
set_option maxRecDepth 20000 in
theorem gX7_wall_X3_parts : GoodIn wsX7_wall (wsV RX7 109 RX3 yX3_parts wsX3_parts) := goodIn_app (goodIn_of _ (by decide +kernel)) ggX7_wall_X3_parts
theorem dX7_wall_0 : decode cX7_wall 0 = .ok (.aload_n 0, 1) := by decide +kernel
theorem dX7_wall_1 : decode cX7_wall 1 = .ok (.getfield 10, 3) := by decide +kernel
theorem dX7_wall_4 : decode cX7_wall 4 = .ok (.iload_n 1, 1) := by decide +kernel
theorem dX7_wall_5 : decode cX7_wall 5 = .ok (.invokevirtual 71, 3) := by decide +kernel
theorem dX7_wall_8 : decode cX7_wall 8 = .ok (.ifCond .eq 10, 3) := by decide +kernel
theorem dX7_wall_11 : decode cX7_wall 11 = .ok (.iload_n 2, 1) := by decide +kernel
theorem dX7_wall_12 : decode cX7_wall 12 = .ok (.invokestatic 91, 3) := by decide +kernel
theorem dX7_wall_15 : decode cX7_wall 15 = .ok (.ifCond .ne 5, 3) := by decide +kernel
theorem dX7_wall_18 : decode cX7_wall 18 = .ok (.iconst (-1), 1) := by decide +kernel
theorem dX7_wall_19 : decode cX7_wall 19 = .ok (.ireturn, 1) := by decide +kernel
theorem dX7_wall_20 : decode cX7_wall 20 = .ok (.aload_n 0, 1) := by decide +kernel
theorem dX7_wall_21 : decode cX7_wall 21 = .ok (.getfield 10, 3) := by decide +kernel
theorem dX7_wall_24 : decode cX7_wall 24 = .ok (.iload_n 1, 1) := by decide +kernel
theorem dX7_wall_25 : decode cX7_wall 25 = .ok (.iload_n 2, 1) := by decide +kernel
theorem dX7_wall_26 : decode cX7_wall 26 = .ok (.invokevirtual 113, 3) := by decide +kernel
theorem dX7_wall_29 : decode cX7_wall 29 = .ok (.ifCond .ne 6, 3) := by decide +kernel
theorem dX7_wall_32 : decode cX7_wall 32 = .ok (.bipush (-2), 2) := by decide +kernel
theorem dX7_wall_34 : decode cX7_wall 34 = .ok (.ireturn, 1) := by decide +kernel
theorem dX7_wall_35 : decode cX7_wall 35 = .ok (.aload_n 0, 1) := by decide +kernel
theorem dX7_wall_36 : decode cX7_wall 36 = .ok (.getfield 22, 3) := by decide +kernel
theorem dX7_wall_39 : decode cX7_wall 39 = .ok (.aload_n 0, 1) := by decide +kernel
theorem dX7_wall_40 : decode cX7_wall 40 = .ok (.getfield 10, 3) := by decide +kernel
theorem dX7_wall_43 : decode cX7_wall 43 = .ok (.invokevirtual 83, 3) := by decide +kernel
theorem dX7_wall_46 : decode cX7_wall 46 = .ok (.aload_n 0, 1) := by decide +kernel
theorem dX7_wall_47 : decode cX7_wall 47 = .ok (.getfield 10, 3) := by decide +kernel
theorem dX7_wall_50 : decode cX7_wall 50 = .ok (.iload_n 1, 1) := by decide +kernel
theorem dX7_wall_51 : decode cX7_wall 51 = .ok (.iload_n 2, 1) := by decide +kernel
theorem dX7_wall_52 : decode cX7_wall 52 = .ok (.iconst 0, 1) := by decide +kernel
theorem dX7_wall_53 : decode cX7_wall 53 = .ok (.invokevirtual 105, 3) := by decide +kernel
theorem dX7_wall_56 : decode cX7_wall 56 = .ok (.aload_n 0, 1) := by decide +kernel
theorem dX7_wall_57 : decode cX7_wall 57 = .ok (.getfield 10, 3) := by decide +kernel
theorem dX7_wall_60 : decode cX7_wall 60 = .ok (.invokevirtual 109, 3) := by decide +kernel
theorem dX7_wall_63 : decode cX7_wall 63 = .ok (.ireturn, 1) := by decide +kernel
set_option maxRecDepth 20000 in
theorem ggX7_door_X7_isDoor : GoodIn wsX7_door wsX7_isDoor := goodIn_r _ [8] (by decide +kernel) (by decide +kernel)
set_option maxRecDepth 20000 in
theorem gX7_door_X7_isDoor : GoodIn wsX7_door (va_wsS RX7 117 yX7_isDoor wsX7_isDoor) := goodIn_app (goodIn_of _ (by decide +kernel)) ggX7_door_X7_isDoor
set_option maxRecDepth 20000 in
theorem ggX7_door_X3_hasCell : GoodIn wsX7_door wsX3_hasCell := goodIn_r _ [13, 14, 15, 16, 12, 17, 18, 19, 74, 75, 76, 77, 78, 79] (by decide +kernel) (by decide +kernel)
set_option maxRecDepth 20000 in
theorem gX7_door_X3_hasCell : GoodIn wsX7_door (wsV RX7 71 RX3 yX3_hasCell wsX3_hasCell) := goodIn_app (goodIn_of _ (by decide +kernel)) ggX7_door_X3_hasCell
set_option maxRecDepth 20000 in
theorem ggX7_door_X7_isDirection : GoodIn wsX7_door wsX7_isDirection := goodIn_r _ [22] (by decide +kernel) (by decide +kernel)
set_option maxRecDepth 20000 in
theorem gX7_door_X7_isDirection : GoodIn wsX7_door (va_wsS RX7 91 yX7_isDirection wsX7_isDirection) := goodIn_app (goodIn_of _ (by decide +kernel)) ggX7_door_X7_isDirection
set_option maxRecDepth 20000 in
theorem ggX7_door_X3_beside : GoodIn wsX7_door wsX3_beside := goodIn_r _ [26, 18, 19, 74, 75, 76, 77, 78, 79] (by decide +kernel) (by decide +kernel)
set_option maxRecDepth 20000 in
theorem gX7_door_X3_beside : GoodIn wsX7_door (wsV RX7 94 RX3 yX3_beside wsX3_beside) := goodIn_app (goodIn_of _ (by decide +kernel)) ggX7_door_X3_beside
set_option maxRecDepth 20000 in
theorem ggX7_door_X3_isDoorAt : GoodIn wsX7_door wsX3_isDoorAt := goodIn_r _ [30, 31, 32, 33, 7, 34, 74, 75, 76, 77, 78, 79] (by decide +kernel) (by decide +kernel)
set_option maxRecDepth 20000 in
theorem gX7_door_X3_isDoorAt : GoodIn wsX7_door (wsV RX7 120 RX3 yX3_isDoorAt wsX3_isDoorAt) := goodIn_app (goodIn_of _ (by decide +kernel)) ggX7_door_X3_isDoorAt
set_option maxRecDepth 20000 in
theorem ggX7_door_X7_at : GoodIn wsX7_door wsX7_at := goodIn_r _ [34] (by decide +kernel) (by decide +kernel)
set_option maxRecDepth 20000 in
theorem gX7_door_X7_at : GoodIn wsX7_door (va_wsS RX7 79 yX7_at wsX7_at) := goodIn_app (goodIn_of _ (by decide +kernel)) ggX7_door_X7_at
set_option maxRecDepth 20000 in
theorem ggX7_door_X2_push : GoodIn wsX7_door wsX2_push := goodIn_r _ [40, 41, 42, 43, 44, 39, 45, 46, 47, 48, 49, 50, 51, 52, 53, 12, 54, 18, 19, 55, 56, 31, 32, 57, 58, 59, 80, 81, 74, 75, 76, 77, 78, 79] (by decide +kernel) (by decide +kernel)
set_option maxRecDepth 20000 in
theorem gX7_door_X2_push : GoodIn wsX7_door (wsV RX7 83 RX2 yX2_push wsX2_push) := goodIn_app (goodIn_of _ (by decide +kernel)) ggX7_door_X2_push
set_option maxRecDepth 20000 in
theorem ggX7_door_X7_put : GoodIn wsX7_door wsX7_put := goodIn_r _ [62] (by decide +kernel) (by decide +kernel)
set_option maxRecDepth 20000 in
theorem gX7_door_X7_put : GoodIn wsX7_door (va_wsS RX7 87 yX7_put wsX7_put) := goodIn_app (goodIn_of _ (by decide +kernel)) ggX7_door_X7_put
theorem dX7_door_0 : decode cX7_door 0 = .ok (.iload_n 1, 1) := by decide +kernel
theorem dX7_door_1 : decode cX7_door 1 = .ok (.invokestatic 117, 3) := by decide +kernel
theorem dX7_door_4 : decode cX7_door 4 = .ok (.ifCond .eq 21, 3) := by decide +kernel
theorem dX7_door_7 : decode cX7_door 7 = .ok (.aload_n 0, 1) := by decide +kernel
theorem dX7_door_8 : decode cX7_door 8 = .ok (.getfield 10, 3) := by decide +kernel
theorem dX7_door_11 : decode cX7_door 11 = .ok (.iload_n 2, 1) := by decide +kernel
theorem dX7_door_12 : decode cX7_door 12 = .ok (.invokevirtual 71, 3) := by decide +kernel
theorem dX7_door_15 : decode cX7_door 15 = .ok (.ifCond .eq 10, 3) := by decide +kernel
theorem dX7_door_18 : decode cX7_door 18 = .ok (.iload_n 3, 1) := by decide +kernel
theorem dX7_door_19 : decode cX7_door 19 = .ok (.invokestatic 91, 3) := by decide +kernel
theorem dX7_door_22 : decode cX7_door 22 = .ok (.ifCond .ne 5, 3) := by decide +kernel
theorem dX7_door_25 : decode cX7_door 25 = .ok (.iconst (-1), 1) := by decide +kernel
theorem dX7_door_26 : decode cX7_door 26 = .ok (.ireturn, 1) := by decide +kernel
theorem dX7_door_27 : decode cX7_door 27 = .ok (.iload_n 1, 1) := by decide +kernel
theorem dX7_door_28 : decode cX7_door 28 = .ok (.ifCond .ne 7, 3) := by decide +kernel
theorem dX7_door_31 : decode cX7_door 31 = .ok (.iconst 1, 1) := by decide +kernel
theorem dX7_door_32 : decode cX7_door 32 = .ok (.goto 4, 3) := by decide +kernel
theorem dX7_door_35 : decode cX7_door 35 = .ok (.iconst 0, 1) := by decide +kernel
theorem dX7_door_36 : decode cX7_door 36 = .ok (.istore 4, 2) := by decide +kernel
theorem dX7_door_38 : decode cX7_door 38 = .ok (.aload_n 0, 1) := by decide +kernel
theorem dX7_door_39 : decode cX7_door 39 = .ok (.getfield 10, 3) := by decide +kernel
theorem dX7_door_42 : decode cX7_door 42 = .ok (.iload_n 2, 1) := by decide +kernel
theorem dX7_door_43 : decode cX7_door 43 = .ok (.iload_n 3, 1) := by decide +kernel
theorem dX7_door_44 : decode cX7_door 44 = .ok (.invokevirtual 94, 3) := by decide +kernel
theorem dX7_door_47 : decode cX7_door 47 = .ok (.iconst (-1), 1) := by decide +kernel
theorem dX7_door_48 : decode cX7_door 48 = .ok (.if_icmp .ne 17, 3) := by decide +kernel
theorem dX7_door_51 : decode cX7_door 51 = .ok (.aload_n 0, 1) := by decide +kernel
theorem dX7_door_52 : decode cX7_door 52 = .ok (.getfield 10, 3) := by decide +kernel
theorem dX7_door_55 : decode cX7_door 55 = .ok (.iload 4, 2) := by decide +kernel
theorem dX7_door_57 : decode cX7_door 57 = .ok (.iload_n 2, 1) := by decide +kernel
theorem dX7_door_58 : decode cX7_door 58 = .ok (.iload_n 3, 1) := by decide +kernel
theorem dX7_door_59 : decode cX7_door 59 = .ok (.invokevirtual 120, 3) := by decide +kernel
theorem dX7_door_62 : decode cX7_door 62 = .ok (.ifCond .eq 6, 3) := by decide +kernel
theorem dX7_door_65 : decode cX7_door 65 = .ok (.bipush (-2), 2) := by decide +kernel
theorem dX7_door_67 : decode cX7_door 67 = .ok (.ireturn, 1) := by decide +kernel
theorem dX7_door_68 : decode cX7_door 68 = .ok (.aload_n 0, 1) := by decide +kernel
theorem dX7_door_69 : decode cX7_door 69 = .ok (.getfield 10, 3) := by decide +kernel
theorem dX7_door_72 : decode cX7_door 72 = .ok (.getfield 124, 3) := by decide +kernel
theorem dX7_door_75 : decode cX7_door 75 = .ok (.iload_n 1, 1) := by decide +kernel
theorem dX7_door_76 : decode cX7_door 76 = .ok (.invokestatic 79, 3) := by decide +kernel
theorem dX7_door_79 : decode cX7_door 79 = .ok (.istore 5, 2) := by decide +kernel
theorem dX7_door_81 : decode cX7_door 81 = .ok (.aload_n 0, 1) := by decide +kernel
theorem dX7_door_82 : decode cX7_door 82 = .ok (.getfield 22, 3) := by decide +kernel
theorem dX7_door_85 : decode cX7_door 85 = .ok (.aload_n 0, 1) := by decide +kernel
theorem dX7_door_86 : decode cX7_door 86 = .ok (.getfield 10, 3) := by decide +kernel
theorem dX7_door_89 : decode cX7_door 89 = .ok (.invokevirtual 83, 3) := by decide +kernel
theorem dX7_door_92 : decode cX7_door 92 = .ok (.aload_n 0, 1) := by decide +kernel
theorem dX7_door_93 : decode cX7_door 93 = .ok (.getfield 10, 3) := by decide +kernel
theorem dX7_door_96 : decode cX7_door 96 = .ok (.getfield 124, 3) := by decide +kernel
theorem dX7_door_99 : decode cX7_door 99 = .ok (.iload_n 1, 1) := by decide +kernel
theorem dX7_door_100 : decode cX7_door 100 = .ok (.iload_n 2, 1) := by decide +kernel
theorem dX7_door_101 : decode cX7_door 101 = .ok (.invokestatic 87, 3) := by decide +kernel
theorem dX7_door_104 : decode cX7_door 104 = .ok (.aload_n 0, 1) := by decide +kernel
theorem dX7_door_105 : decode cX7_door 105 = .ok (.getfield 10, 3) := by decide +kernel
theorem dX7_door_108 : decode cX7_door 108 = .ok (.getfield 127, 3) := by decide +kernel
theorem dX7_door_111 : decode cX7_door 111 = .ok (.iload_n 1, 1) := by decide +kernel
theorem dX7_door_112 : decode cX7_door 112 = .ok (.iload_n 3, 1) := by decide +kernel
theorem dX7_door_113 : decode cX7_door 113 = .ok (.invokestatic 87, 3) := by decide +kernel
theorem dX7_door_116 : decode cX7_door 116 = .ok (.iload 5, 2) := by decide +kernel
theorem dX7_door_118 : decode cX7_door 118 = .ok (.ireturn, 1) := by decide +kernel
set_option maxRecDepth 20000 in
theorem ggX7_build_X3_isWhole : GoodIn wsX7_build wsX3_isWhole := goodIn_r _ [8, 9, 10, 11, 7, 12, 13, 14, 15, 16, 17, 18, 19, 20, 21, 22, 23, 24, 25, 26, 27, 28, 29, 30, 31, 32, 33, 131, 132, 133, 134, 135, 136] (by decide +kernel) (by decide +kernel)
set_option maxRecDepth 20000 in
theorem gX7_build_X3_isWhole : GoodIn wsX7_build (wsV RX7 130 RX3 yX3_isWhole wsX3_isWhole) := goodIn_app (goodIn_of _ (by decide +kernel)) ggX7_build_X3_isWhole
set_option maxRecDepth 20000 in
theorem ggX7_build_X2_push : GoodIn wsX7_build wsX2_push := goodIn_r _ [38, 39, 40, 41, 42, 37, 43, 44, 45, 46, 47, 48, 49, 50, 51, 7, 52, 17, 18, 53, 23, 54, 55, 56, 57, 58, 137, 138, 131, 132, 133, 134, 135, 136] (by decide +kernel) (by decide +kernel)
set_option maxRecDepth 20000 in
theorem gX7_build_X2_push : GoodIn wsX7_build (wsV RX7 83 RX2 yX2_push wsX2_push) := goodIn_app (goodIn_of _ (by decide +kernel)) ggX7_build_X2_push
set_option maxRecDepth 20000 in
theorem ggX7_build_X0_joinAllParts : GoodIn wsX7_build wsX0_joinAllParts := goodIn_r _ [63, 64, 65, 66, 62, 67, 68, 69, 70, 71, 7, 72, 13, 14, 15, 16, 17, 18, 73, 74, 75, 76, 77, 78, 79, 80, 81, 82, 83, 84, 85, 86, 87, 23, 24, 25, 26, 88, 89, 90, 91, 92, 93, 94, 95, 96, 97, 98, 99, 100, 101, 102, 103, 104, 105, 106, 107, 108, 109, 110, 111, 112, 113, 114, 115, 116, 117, 118, 119, 139, 131, 132, 133, 134, 135, 136] (by decide +kernel) (by decide +kernel)
set_option maxRecDepth 20000 in
theorem gX7_build_X0_joinAllParts : GoodIn wsX7_build (wsV RX7 134 RX0 yX0_joinAllParts wsX0_joinAllParts) := goodIn_app (goodIn_of _ (by decide +kernel)) ggX7_build_X0_joinAllParts
theorem dX7_build_0 : decode cX7_build 0 = .ok (.aload_n 0, 1) := by decide +kernel
theorem dX7_build_1 : decode cX7_build 1 = .ok (.getfield 10, 3) := by decide +kernel
theorem dX7_build_4 : decode cX7_build 4 = .ok (.invokevirtual 130, 3) := by decide +kernel
theorem dX7_build_7 : decode cX7_build 7 = .ok (.ifCond .eq 6, 3) := by decide +kernel
theorem dX7_build_10 : decode cX7_build 10 = .ok (.bipush (-2), 2) := by decide +kernel
theorem dX7_build_12 : decode cX7_build 12 = .ok (.ireturn, 1) := by decide +kernel
theorem dX7_build_13 : decode cX7_build 13 = .ok (.aload_n 0, 1) := by decide +kernel
theorem dX7_build_14 : decode cX7_build 14 = .ok (.getfield 22, 3) := by decide +kernel
theorem dX7_build_17 : decode cX7_build 17 = .ok (.aload_n 0, 1) := by decide +kernel
theorem dX7_build_18 : decode cX7_build 18 = .ok (.getfield 10, 3) := by decide +kernel
theorem dX7_build_21 : decode cX7_build 21 = .ok (.invokevirtual 83, 3) := by decide +kernel
theorem dX7_build_24 : decode cX7_build 24 = .ok (.aload_n 0, 1) := by decide +kernel
theorem dX7_build_25 : decode cX7_build 25 = .ok (.getfield 56, 3) := by decide +kernel
theorem dX7_build_28 : decode cX7_build 28 = .ok (.aload_n 0, 1) := by decide +kernel
theorem dX7_build_29 : decode cX7_build 29 = .ok (.getfield 10, 3) := by decide +kernel
theorem dX7_build_32 : decode cX7_build 32 = .ok (.invokevirtual 134, 3) := by decide +kernel
theorem dX7_build_35 : decode cX7_build 35 = .ok (.ireturn, 1) := by decide +kernel
set_option maxRecDepth 20000 in
theorem ggX7_exchange_X3_isWhole : GoodIn wsX7_exchange wsX3_isWhole := goodIn_r _ [9, 10, 11, 12, 8, 13, 14, 15, 16, 17, 18, 19, 20, 21, 22, 23, 24, 25, 26, 27, 28, 29, 30, 31, 32, 33, 34, 197, 198, 199, 200, 201, 202] (by decide +kernel) (by decide +kernel)
set_option maxRecDepth 20000 in
theorem gX7_exchange_X3_isWhole : GoodIn wsX7_exchange (wsV RX7 130 RX3 yX3_isWhole wsX3_isWhole) := goodIn_app (goodIn_of _ (by decide +kernel)) ggX7_exchange_X3_isWhole
set_option maxRecDepth 20000 in
theorem ggX7_exchange_X7_findBetterExchange : GoodIn wsX7_exchange wsX7_findBetterExchange := goodIn_r _ [38, 3, 1, 39, 40, 41, 4, 42, 43, 44, 45, 46, 47, 48, 49, 50, 51, 52, 53, 54, 55, 56, 8, 57, 58, 25, 26, 27, 59, 60, 61, 62, 63, 64, 65, 66, 67, 68, 69, 70, 71, 72, 73, 74, 75, 76, 77, 78, 79, 80, 81, 82, 83, 84, 85, 86, 87, 18, 19, 88, 89, 90, 91, 24, 92, 93, 94, 95, 96, 97, 98, 99, 100, 101, 102, 103, 104, 14, 15, 16, 17, 105, 106, 107, 108, 109, 110, 111, 112, 113, 114, 115, 116, 117, 118, 119, 120, 121, 122, 123, 124, 125, 126, 127, 128, 129, 130, 131, 132, 133, 134, 135, 136, 137, 138, 139, 140, 180, 181, 182, 183, 184, 185, 186, 187, 188, 189, 190, 191, 192, 193, 194, 195, 196, 203, 204, 205, 206, 207, 197, 198, 199, 200, 201, 202] (by decide +kernel) (by decide +kernel)
set_option maxRecDepth 20000 in
theorem gX7_exchange_X7_findBetterExchange : GoodIn wsX7_exchange (wsV RX7 138 RX7 yX7_findBetterExchange wsX7_findBetterExchange) := goodIn_app (goodIn_of _ (by decide +kernel)) ggX7_exchange_X7_findBetterExchange
set_option maxRecDepth 20000 in
theorem ggX7_exchange_X2_push : GoodIn wsX7_exchange wsX2_push := goodIn_r _ [145, 146, 147, 148, 149, 144, 150, 151, 152, 153, 154, 155, 156, 157, 158, 8, 159, 18, 19, 104, 24, 58, 160, 161, 162, 163, 208, 209, 197, 198, 199, 200, 201, 202] (by decide +kernel) (by decide +kernel)
set_option maxRecDepth 20000 in
theorem gX7_exchange_X2_push : GoodIn wsX7_exchange (wsV RX7 83 RX2 yX2_push wsX2_push) := goodIn_app (goodIn_of _ (by decide +kernel)) ggX7_exchange_X2_push
set_option maxRecDepth 20000 in
theorem ggX7_exchange_X1_apply : GoodIn wsX7_exchange wsX1_apply := goodIn_r _ [167, 49, 50, 168, 169, 170, 8, 171, 113, 114, 115, 116, 117, 118, 119, 172, 173, 174, 175, 134, 85, 86, 87, 18, 19, 176, 177, 178, 179, 24, 25, 26, 27, 78, 79, 191, 192, 193, 194, 195, 196, 197, 198, 199, 200, 201, 202] (by decide +kernel) (by decide +kernel)
set_option maxRecDepth 20000 in
theorem gX7_exchange_X1_apply : GoodIn wsX7_exchange (wsV RX7 141 RX1 yX1_apply wsX1_apply) := goodIn_app (goodIn_of _ (by decide +kernel)) ggX7_exchange_X1_apply
theorem dX7_exchange_0 : decode cX7_exchange 0 = .ok (.aload_n 0, 1) := by decide +kernel
theorem dX7_exchange_1 : decode cX7_exchange 1 = .ok (.getfield 10, 3) := by decide +kernel
theorem dX7_exchange_4 : decode cX7_exchange 4 = .ok (.invokevirtual 130, 3) := by decide +kernel
theorem dX7_exchange_7 : decode cX7_exchange 7 = .ok (.ifCond .eq 10, 3) := by decide +kernel
theorem dX7_exchange_10 : decode cX7_exchange 10 = .ok (.aload_n 0, 1) := by decide +kernel
theorem dX7_exchange_11 : decode cX7_exchange 11 = .ok (.invokevirtual 138, 3) := by decide +kernel
theorem dX7_exchange_14 : decode cX7_exchange 14 = .ok (.ifCond .ne 6, 3) := by decide +kernel
theorem dX7_exchange_17 : decode cX7_exchange 17 = .ok (.bipush (-2), 2) := by decide +kernel
theorem dX7_exchange_19 : decode cX7_exchange 19 = .ok (.ireturn, 1) := by decide +kernel
theorem dX7_exchange_20 : decode cX7_exchange 20 = .ok (.aload_n 0, 1) := by decide +kernel
theorem dX7_exchange_21 : decode cX7_exchange 21 = .ok (.getfield 22, 3) := by decide +kernel
theorem dX7_exchange_24 : decode cX7_exchange 24 = .ok (.aload_n 0, 1) := by decide +kernel
theorem dX7_exchange_25 : decode cX7_exchange 25 = .ok (.getfield 10, 3) := by decide +kernel
theorem dX7_exchange_28 : decode cX7_exchange 28 = .ok (.invokevirtual 83, 3) := by decide +kernel
theorem dX7_exchange_31 : decode cX7_exchange 31 = .ok (.aload_n 0, 1) := by decide +kernel
theorem dX7_exchange_32 : decode cX7_exchange 32 = .ok (.getfield 63, 3) := by decide +kernel
theorem dX7_exchange_35 : decode cX7_exchange 35 = .ok (.aload_n 0, 1) := by decide +kernel
theorem dX7_exchange_36 : decode cX7_exchange 36 = .ok (.getfield 10, 3) := by decide +kernel
theorem dX7_exchange_39 : decode cX7_exchange 39 = .ok (.invokevirtual 141, 3) := by decide +kernel
theorem dX7_exchange_42 : decode cX7_exchange 42 = .ok (.aload_n 0, 1) := by decide +kernel
theorem dX7_exchange_43 : decode cX7_exchange 43 = .ok (.getfield 63, 3) := by decide +kernel
theorem dX7_exchange_46 : decode cX7_exchange 46 = .ok (.getfield 144, 3) := by decide +kernel
theorem dX7_exchange_49 : decode cX7_exchange 49 = .ok (.ireturn, 1) := by decide +kernel
set_option maxRecDepth 20000 in
theorem ggX7_improve_X3_isWhole : GoodIn wsX7_improve wsX3_isWhole := goodIn_r _ [8, 9, 10, 11, 7, 12, 13, 14, 15, 16, 17, 18, 19, 20, 21, 22, 23, 24, 25, 26, 27, 28, 29, 30, 31, 32, 33, 191, 192, 193, 194, 195, 196] (by decide +kernel) (by decide +kernel)
set_option maxRecDepth 20000 in
theorem gX7_improve_X3_isWhole : GoodIn wsX7_improve (wsV RX7 130 RX3 yX3_isWhole wsX3_isWhole) := goodIn_app (goodIn_of _ (by decide +kernel)) ggX7_improve_X3_isWhole
set_option maxRecDepth 20000 in
theorem ggX7_improve_X2_push : GoodIn wsX7_improve wsX2_push := goodIn_r _ [38, 39, 40, 41, 42, 37, 43, 44, 45, 46, 47, 48, 49, 50, 51, 7, 52, 17, 18, 53, 23, 54, 55, 56, 57, 58, 197, 198, 191, 192, 193, 194, 195, 196] (by decide +kernel) (by decide +kernel)
set_option maxRecDepth 20000 in
theorem gX7_improve_X2_push : GoodIn wsX7_improve (wsV RX7 83 RX2 yX2_push wsX2_push) := goodIn_app (goodIn_of _ (by decide +kernel)) ggX7_improve_X2_push
set_option maxRecDepth 20000 in
theorem ggX7_improve_X7_findBetterExchange : GoodIn wsX7_improve wsX7_findBetterExchange := goodIn_r _ [62, 3, 1, 63, 64, 65, 66, 67, 68, 69, 70, 71, 72, 73, 74, 75, 76, 77, 78, 79, 80, 81, 7, 82, 54, 24, 25, 26, 83, 84, 85, 86, 87, 88, 89, 90, 91, 92, 93, 94, 95, 96, 97, 98, 99, 100, 101, 102, 103, 104, 105, 106, 107, 108, 109, 110, 111, 17, 18, 112, 113, 114, 115, 23, 116, 117, 118, 119, 120, 121, 122, 123, 124, 125, 126, 127, 53, 13, 14, 15, 16, 128, 129, 130, 131, 132, 133, 134, 135, 136, 137, 138, 139, 140, 141, 142, 143, 144, 145, 146, 147, 148, 149, 150, 151, 152, 153, 154, 155, 156, 157, 158, 159, 160, 161, 162, 163, 180, 181, 182, 183, 184, 185, 186, 187, 188, 189, 190, 199, 200, 201, 202, 203, 204, 205, 206, 207, 208, 209, 191, 192, 193, 194, 195, 196] (by decide +kernel) (by decide +kernel)
set_option maxRecDepth 20000 in
theorem gX7_improve_X7_findBetterExchange : GoodIn wsX7_improve (wsV RX7 138 RX7 yX7_findBetterExchange wsX7_findBetterExchange) := goodIn_app (goodIn_of _ (by decide +kernel)) ggX7_improve_X7_findBetterExchange
set_option maxRecDepth 20000 in
theorem ggX7_improve_X1_apply : GoodIn wsX7_improve wsX1_apply := goodIn_r _ [167, 74, 75, 168, 169, 170, 7, 171, 136, 137, 138, 139, 140, 141, 142, 172, 173, 174, 175, 157, 109, 110, 111, 17, 18, 176, 177, 178, 179, 23, 24, 25, 26, 102, 103, 199, 200, 201, 202, 203, 204, 191, 192, 193, 194, 195, 196] (by decide +kernel) (by decide +kernel)
set_option maxRecDepth 20000 in
theorem gX7_improve_X1_apply : GoodIn wsX7_improve (wsV RX7 141 RX1 yX1_apply wsX1_apply) := goodIn_app (goodIn_of _ (by decide +kernel)) ggX7_improve_X1_apply
theorem dX7_improve_0 : decode cX7_improve 0 = .ok (.aload_n 0, 1) := by decide +kernel
theorem dX7_improve_1 : decode cX7_improve 1 = .ok (.getfield 10, 3) := by decide +kernel
theorem dX7_improve_4 : decode cX7_improve 4 = .ok (.invokevirtual 130, 3) := by decide +kernel
theorem dX7_improve_7 : decode cX7_improve 7 = .ok (.ifCond .ne 6, 3) := by decide +kernel
theorem dX7_improve_10 : decode cX7_improve 10 = .ok (.bipush (-2), 2) := by decide +kernel
theorem dX7_improve_12 : decode cX7_improve 12 = .ok (.ireturn, 1) := by decide +kernel
theorem dX7_improve_13 : decode cX7_improve 13 = .ok (.aload_n 0, 1) := by decide +kernel
theorem dX7_improve_14 : decode cX7_improve 14 = .ok (.getfield 22, 3) := by decide +kernel
theorem dX7_improve_17 : decode cX7_improve 17 = .ok (.aload_n 0, 1) := by decide +kernel
theorem dX7_improve_18 : decode cX7_improve 18 = .ok (.getfield 10, 3) := by decide +kernel
theorem dX7_improve_21 : decode cX7_improve 21 = .ok (.invokevirtual 83, 3) := by decide +kernel
theorem dX7_improve_24 : decode cX7_improve 24 = .ok (.sipush 324, 3) := by decide +kernel
theorem dX7_improve_27 : decode cX7_improve 27 = .ok (.istore_n 1, 1) := by decide +kernel
theorem dX7_improve_28 : decode cX7_improve 28 = .ok (.iconst 0, 1) := by decide +kernel
theorem dX7_improve_29 : decode cX7_improve 29 = .ok (.istore_n 2, 1) := by decide +kernel
theorem dX7_improve_30 : decode cX7_improve 30 = .ok (.iload_n 2, 1) := by decide +kernel
theorem dX7_improve_31 : decode cX7_improve 31 = .ok (.iload_n 1, 1) := by decide +kernel
theorem dX7_improve_32 : decode cX7_improve 32 = .ok (.if_icmp .ge 27, 3) := by decide +kernel
theorem dX7_improve_35 : decode cX7_improve 35 = .ok (.aload_n 0, 1) := by decide +kernel
theorem dX7_improve_36 : decode cX7_improve 36 = .ok (.invokevirtual 138, 3) := by decide +kernel
theorem dX7_improve_39 : decode cX7_improve 39 = .ok (.ifCond .eq 20, 3) := by decide +kernel
theorem dX7_improve_42 : decode cX7_improve 42 = .ok (.aload_n 0, 1) := by decide +kernel
theorem dX7_improve_43 : decode cX7_improve 43 = .ok (.getfield 63, 3) := by decide +kernel
theorem dX7_improve_46 : decode cX7_improve 46 = .ok (.aload_n 0, 1) := by decide +kernel
theorem dX7_improve_47 : decode cX7_improve 47 = .ok (.getfield 10, 3) := by decide +kernel
theorem dX7_improve_50 : decode cX7_improve 50 = .ok (.invokevirtual 141, 3) := by decide +kernel
theorem dX7_improve_53 : decode cX7_improve 53 = .ok (.iinc 2 1, 3) := by decide +kernel
theorem dX7_improve_56 : decode cX7_improve 56 = .ok (.goto (-26), 3) := by decide +kernel
theorem dX7_improve_59 : decode cX7_improve 59 = .ok (.iload_n 2, 1) := by decide +kernel
theorem dX7_improve_60 : decode cX7_improve 60 = .ok (.ireturn, 1) := by decide +kernel
set_option maxRecDepth 20000 in
theorem ggX7_cellOf_X3_hasCell : GoodIn wsX7_cellOf wsX3_hasCell := goodIn_r _ [13, 14, 15, 16, 12, 17, 18, 19, 135, 136, 137, 138, 139, 140] (by decide +kernel) (by decide +kernel)
set_option maxRecDepth 20000 in
theorem gX7_cellOf_X3_hasCell : GoodIn wsX7_cellOf (wsV RX7 71 RX3 yX3_hasCell wsX3_hasCell) := goodIn_app (goodIn_of _ (by decide +kernel)) ggX7_cellOf_X3_hasCell
set_option maxRecDepth 20000 in
theorem ggX7_cellOf_X7_at : GoodIn wsX7_cellOf wsX7_at := goodIn_r _ [23] (by decide +kernel) (by decide +kernel)
set_option maxRecDepth 20000 in
theorem gX7_cellOf_X7_at : GoodIn wsX7_cellOf (va_wsS RX7 79 yX7_at wsX7_at) := goodIn_app (goodIn_of _ (by decide +kernel)) ggX7_cellOf_X7_at
set_option maxRecDepth 20000 in
theorem ggX7_cellOf_X6_findFrom : GoodIn wsX7_cellOf wsX6_findFrom := goodIn_r _ [28, 29, 30, 31, 32, 33, 34, 35, 36, 37, 38, 27, 39, 40, 41, 42, 21, 22, 23, 43, 44, 45, 46, 47, 48, 49, 50, 51, 12, 52, 18, 19, 53, 54, 55, 56, 57, 58, 59, 60, 61, 141, 142, 143, 144, 145, 135, 136, 137, 138, 139, 140] (by decide +kernel) (by decide +kernel)
set_option maxRecDepth 20000 in
theorem gX7_cellOf_X6_findFrom : GoodIn wsX7_cellOf (wsV RX7 98 RX6 yX6_findFrom wsX6_findFrom) := goodIn_app (goodIn_of _ (by decide +kernel)) ggX7_cellOf_X6_findFrom
set_option maxRecDepth 20000 in
theorem ggX7_cellOf_X6_lowestCell : GoodIn wsX7_cellOf wsX6_lowestCell := goodIn_r _ [65, 31, 30, 66, 67, 68, 69, 21, 22, 23, 141, 142, 143, 144, 145] (by decide +kernel) (by decide +kernel)
set_option maxRecDepth 20000 in
theorem gX7_cellOf_X6_lowestCell : GoodIn wsX7_cellOf (wsV RX7 151 RX6 yX6_lowestCell wsX6_lowestCell) := goodIn_app (goodIn_of _ (by decide +kernel)) ggX7_cellOf_X6_lowestCell
set_option maxRecDepth 20000 in
theorem ggX7_cellOf_X3_entryCell : GoodIn wsX7_cellOf wsX3_entryCell := goodIn_r _ [73, 74, 21, 22, 23, 135, 136, 137, 138, 139, 140] (by decide +kernel) (by decide +kernel)
set_option maxRecDepth 20000 in
theorem gX7_cellOf_X3_entryCell : GoodIn wsX7_cellOf (wsV RX7 157 RX3 yX3_entryCell wsX3_entryCell) := goodIn_app (goodIn_of _ (by decide +kernel)) ggX7_cellOf_X3_entryCell
set_option maxRecDepth 20000 in
theorem ggX7_cellOf_X7_between : GoodIn wsX7_cellOf wsX7_between := goodIn_r _ [78, 1, 4, 9, 10, 11, 12, 13, 14, 15, 16, 17, 18, 19, 24, 25, 26, 27, 28, 29, 30, 31, 32, 33, 34, 35, 36, 37, 38, 39, 40, 41, 42, 21, 22, 23, 43, 44, 45, 46, 47, 48, 49, 50, 51, 52, 53, 54, 55, 56, 57, 58, 59, 60, 61, 79, 80, 124, 125, 126, 127, 128, 129, 130, 131, 132, 133, 134, 135, 136, 137, 138, 139, 140, 141, 142, 143, 144, 145] (by decide +kernel) (by decide +kernel)
set_option maxRecDepth 20000 in
theorem gX7_cellOf_X7_between : GoodIn wsX7_cellOf (wsV RX7 160 RX7 yX7_between wsX7_between) := goodIn_app (goodIn_of _ (by decide +kernel)) ggX7_cellOf_X7_between
set_option maxRecDepth 20000 in
theorem ggX7_cellOf_X7_isOnWay : GoodIn wsX7_cellOf wsX7_isOnWay := goodIn_r _ [84, 85, 86, 1, 87, 88, 89, 22, 90, 91, 92, 93, 12, 94, 74, 21, 23, 24, 25, 26, 27, 28, 29, 30, 31, 32, 33, 34, 35, 36, 37, 38, 39, 40, 41, 42, 43, 44, 45, 46, 47, 48, 49, 50, 51, 52, 18, 19, 53, 54, 55, 56, 57, 58, 59, 60, 61, 70, 71, 72, 73, 79, 80, 124, 125, 126, 127, 128, 129, 130, 131, 132, 133, 134, 135, 136, 137, 138, 139, 140, 141, 142, 143, 144, 145] (by decide +kernel) (by decide +kernel)
set_option maxRecDepth 20000 in
theorem gX7_cellOf_X7_isOnWay : GoodIn wsX7_cellOf (wsV RX7 163 RX7 yX7_isOnWay wsX7_isOnWay) := goodIn_app (goodIn_of _ (by decide +kernel)) ggX7_cellOf_X7_isOnWay
set_option maxRecDepth 20000 in
theorem ggX7_cellOf_X5_take : GoodIn wsX7_cellOf wsX5_take := goodIn_r _ [99, 100, 101, 102, 103, 104, 105, 33, 34, 35, 106, 71, 72, 12, 73, 74, 21, 22, 23, 107, 108, 98, 109, 110, 111, 112, 113, 43, 44, 114, 115, 116, 117, 54, 55, 56, 57, 118, 119, 120, 121, 122, 123, 50, 51, 52, 18, 19, 146, 147, 148, 149, 135, 136, 137, 138, 139, 140] (by decide +kernel) (by decide +kernel)
set_option maxRecDepth 20000 in
theorem gX7_cellOf_X5_take : GoodIn wsX7_cellOf (wsV RX7 166 RX5 yX5_take wsX5_take) := goodIn_app (goodIn_of _ (by decide +kernel)) ggX7_cellOf_X5_take
theorem dX7_cellOf_0 : decode cX7_cellOf 0 = .ok (.aload_n 0, 1) := by decide +kernel
theorem dX7_cellOf_1 : decode cX7_cellOf 1 = .ok (.getfield 10, 3) := by decide +kernel
theorem dX7_cellOf_4 : decode cX7_cellOf 4 = .ok (.iload_n 1, 1) := by decide +kernel
theorem dX7_cellOf_5 : decode cX7_cellOf 5 = .ok (.invokevirtual 71, 3) := by decide +kernel
theorem dX7_cellOf_8 : decode cX7_cellOf 8 = .ok (.ifCond .ne 5, 3) := by decide +kernel
theorem dX7_cellOf_11 : decode cX7_cellOf 11 = .ok (.iconst (-1), 1) := by decide +kernel
theorem dX7_cellOf_12 : decode cX7_cellOf 12 = .ok (.ireturn, 1) := by decide +kernel
theorem dX7_cellOf_13 : decode cX7_cellOf 13 = .ok (.iload_n 2, 1) := by decide +kernel
theorem dX7_cellOf_14 : decode cX7_cellOf 14 = .ok (.tableswitch 171 0 6 #[42, 54, 66, 86, 106, 119, 133], 42) := by decide +kernel
theorem dX7_cellOf_56 : decode cX7_cellOf 56 = .ok (.aload_n 0, 1) := by decide +kernel
theorem dX7_cellOf_57 : decode cX7_cellOf 57 = .ok (.getfield 10, 3) := by decide +kernel
theorem dX7_cellOf_60 : decode cX7_cellOf 60 = .ok (.getfield 75, 3) := by decide +kernel
theorem dX7_cellOf_63 : decode cX7_cellOf 63 = .ok (.iload_n 1, 1) := by decide +kernel
theorem dX7_cellOf_64 : decode cX7_cellOf 64 = .ok (.invokestatic 79, 3) := by decide +kernel
theorem dX7_cellOf_67 : decode cX7_cellOf 67 = .ok (.ireturn, 1) := by decide +kernel
theorem dX7_cellOf_68 : decode cX7_cellOf 68 = .ok (.aload_n 0, 1) := by decide +kernel
theorem dX7_cellOf_69 : decode cX7_cellOf 69 = .ok (.getfield 10, 3) := by decide +kernel
theorem dX7_cellOf_72 : decode cX7_cellOf 72 = .ok (.getfield 148, 3) := by decide +kernel
theorem dX7_cellOf_75 : decode cX7_cellOf 75 = .ok (.iload_n 1, 1) := by decide +kernel
theorem dX7_cellOf_76 : decode cX7_cellOf 76 = .ok (.invokestatic 79, 3) := by decide +kernel
theorem dX7_cellOf_79 : decode cX7_cellOf 79 = .ok (.ireturn, 1) := by decide +kernel
theorem dX7_cellOf_80 : decode cX7_cellOf 80 = .ok (.aload_n 0, 1) := by decide +kernel
theorem dX7_cellOf_81 : decode cX7_cellOf 81 = .ok (.getfield 36, 3) := by decide +kernel
theorem dX7_cellOf_84 : decode cX7_cellOf 84 = .ok (.aload_n 0, 1) := by decide +kernel
theorem dX7_cellOf_85 : decode cX7_cellOf 85 = .ok (.getfield 10, 3) := by decide +kernel
theorem dX7_cellOf_88 : decode cX7_cellOf 88 = .ok (.iload_n 1, 1) := by decide +kernel
theorem dX7_cellOf_89 : decode cX7_cellOf 89 = .ok (.invokevirtual 98, 3) := by decide +kernel
theorem dX7_cellOf_92 : decode cX7_cellOf 92 = .ok (.aload_n 0, 1) := by decide +kernel
theorem dX7_cellOf_93 : decode cX7_cellOf 93 = .ok (.getfield 36, 3) := by decide +kernel
theorem dX7_cellOf_96 : decode cX7_cellOf 96 = .ok (.invokevirtual 151, 3) := by decide +kernel
theorem dX7_cellOf_99 : decode cX7_cellOf 99 = .ok (.ireturn, 1) := by decide +kernel
theorem dX7_cellOf_100 : decode cX7_cellOf 100 = .ok (.aload_n 0, 1) := by decide +kernel
theorem dX7_cellOf_101 : decode cX7_cellOf 101 = .ok (.getfield 36, 3) := by decide +kernel
theorem dX7_cellOf_104 : decode cX7_cellOf 104 = .ok (.aload_n 0, 1) := by decide +kernel
theorem dX7_cellOf_105 : decode cX7_cellOf 105 = .ok (.getfield 10, 3) := by decide +kernel
theorem dX7_cellOf_108 : decode cX7_cellOf 108 = .ok (.iload_n 1, 1) := by decide +kernel
theorem dX7_cellOf_109 : decode cX7_cellOf 109 = .ok (.invokevirtual 98, 3) := by decide +kernel
theorem dX7_cellOf_112 : decode cX7_cellOf 112 = .ok (.aload_n 0, 1) := by decide +kernel
theorem dX7_cellOf_113 : decode cX7_cellOf 113 = .ok (.getfield 36, 3) := by decide +kernel
theorem dX7_cellOf_116 : decode cX7_cellOf 116 = .ok (.getfield 154, 3) := by decide +kernel
theorem dX7_cellOf_119 : decode cX7_cellOf 119 = .ok (.ireturn, 1) := by decide +kernel
theorem dX7_cellOf_120 : decode cX7_cellOf 120 = .ok (.aload_n 0, 1) := by decide +kernel
theorem dX7_cellOf_121 : decode cX7_cellOf 121 = .ok (.aload_n 0, 1) := by decide +kernel
theorem dX7_cellOf_122 : decode cX7_cellOf 122 = .ok (.getfield 10, 3) := by decide +kernel
theorem dX7_cellOf_125 : decode cX7_cellOf 125 = .ok (.invokevirtual 157, 3) := by decide +kernel
theorem dX7_cellOf_128 : decode cX7_cellOf 128 = .ok (.iload_n 1, 1) := by decide +kernel
theorem dX7_cellOf_129 : decode cX7_cellOf 129 = .ok (.invokevirtual 160, 3) := by decide +kernel
theorem dX7_cellOf_132 : decode cX7_cellOf 132 = .ok (.ireturn, 1) := by decide +kernel
theorem dX7_cellOf_133 : decode cX7_cellOf 133 = .ok (.aload_n 0, 1) := by decide +kernel
theorem dX7_cellOf_134 : decode cX7_cellOf 134 = .ok (.iload_n 1, 1) := by decide +kernel
theorem dX7_cellOf_135 : decode cX7_cellOf 135 = .ok (.invokevirtual 163, 3) := by decide +kernel
theorem dX7_cellOf_138 : decode cX7_cellOf 138 = .ok (.ifCond .eq 7, 3) := by decide +kernel
theorem dX7_cellOf_141 : decode cX7_cellOf 141 = .ok (.iconst 1, 1) := by decide +kernel
theorem dX7_cellOf_142 : decode cX7_cellOf 142 = .ok (.goto 4, 3) := by decide +kernel
theorem dX7_cellOf_145 : decode cX7_cellOf 145 = .ok (.iconst 0, 1) := by decide +kernel
theorem dX7_cellOf_146 : decode cX7_cellOf 146 = .ok (.ireturn, 1) := by decide +kernel
theorem dX7_cellOf_147 : decode cX7_cellOf 147 = .ok (.aload_n 0, 1) := by decide +kernel
theorem dX7_cellOf_148 : decode cX7_cellOf 148 = .ok (.getfield 49, 3) := by decide +kernel
theorem dX7_cellOf_151 : decode cX7_cellOf 151 = .ok (.aload_n 0, 1) := by decide +kernel
theorem dX7_cellOf_152 : decode cX7_cellOf 152 = .ok (.getfield 10, 3) := by decide +kernel
theorem dX7_cellOf_155 : decode cX7_cellOf 155 = .ok (.invokevirtual 166, 3) := by decide +kernel
theorem dX7_cellOf_158 : decode cX7_cellOf 158 = .ok (.aload_n 0, 1) := by decide +kernel
theorem dX7_cellOf_159 : decode cX7_cellOf 159 = .ok (.getfield 49, 3) := by decide +kernel
theorem dX7_cellOf_162 : decode cX7_cellOf 162 = .ok (.getfield 169, 3) := by decide +kernel
theorem dX7_cellOf_165 : decode cX7_cellOf 165 = .ok (.ifCond .eq 8, 3) := by decide +kernel
theorem dX7_cellOf_168 : decode cX7_cellOf 168 = .ok (.bipush (-4), 2) := by decide +kernel
theorem dX7_cellOf_170 : decode cX7_cellOf 170 = .ok (.goto 14, 3) := by decide +kernel
theorem dX7_cellOf_173 : decode cX7_cellOf 173 = .ok (.aload_n 0, 1) := by decide +kernel
theorem dX7_cellOf_174 : decode cX7_cellOf 174 = .ok (.getfield 49, 3) := by decide +kernel
theorem dX7_cellOf_177 : decode cX7_cellOf 177 = .ok (.getfield 172, 3) := by decide +kernel
theorem dX7_cellOf_180 : decode cX7_cellOf 180 = .ok (.iload_n 1, 1) := by decide +kernel
theorem dX7_cellOf_181 : decode cX7_cellOf 181 = .ok (.invokestatic 79, 3) := by decide +kernel
theorem dX7_cellOf_184 : decode cX7_cellOf 184 = .ok (.ireturn, 1) := by decide +kernel
theorem dX7_cellOf_185 : decode cX7_cellOf 185 = .ok (.iconst (-1), 1) := by decide +kernel
theorem dX7_cellOf_186 : decode cX7_cellOf 186 = .ok (.ireturn, 1) := by decide +kernel
set_option maxRecDepth 20000 in
theorem ggX7_doorOf_X7_isDoor : GoodIn wsX7_doorOf wsX7_isDoor := goodIn_r _ [7] (by decide +kernel) (by decide +kernel)
set_option maxRecDepth 20000 in
theorem gX7_doorOf_X7_isDoor : GoodIn wsX7_doorOf (va_wsS RX7 117 yX7_isDoor wsX7_isDoor) := goodIn_app (goodIn_of _ (by decide +kernel)) ggX7_doorOf_X7_isDoor
set_option maxRecDepth 20000 in
theorem ggX7_doorOf_X7_at : GoodIn wsX7_doorOf wsX7_at := goodIn_r _ [10] (by decide +kernel) (by decide +kernel)
set_option maxRecDepth 20000 in
theorem gX7_doorOf_X7_at : GoodIn wsX7_doorOf (va_wsS RX7 79 yX7_at wsX7_at) := goodIn_app (goodIn_of _ (by decide +kernel)) ggX7_doorOf_X7_at
theorem dX7_doorOf_0 : decode cX7_doorOf 0 = .ok (.iload_n 1, 1) := by decide +kernel
theorem dX7_doorOf_1 : decode cX7_doorOf 1 = .ok (.invokestatic 117, 3) := by decide +kernel
theorem dX7_doorOf_4 : decode cX7_doorOf 4 = .ok (.ifCond .ne 5, 3) := by decide +kernel
theorem dX7_doorOf_7 : decode cX7_doorOf 7 = .ok (.iconst (-1), 1) := by decide +kernel
theorem dX7_doorOf_8 : decode cX7_doorOf 8 = .ok (.ireturn, 1) := by decide +kernel
theorem dX7_doorOf_9 : decode cX7_doorOf 9 = .ok (.iload_n 2, 1) := by decide +kernel
theorem dX7_doorOf_10 : decode cX7_doorOf 10 = .ok (.lookupswitch 50 #[(0, 26), (1, 38)], 26) := by decide +kernel
theorem dX7_doorOf_36 : decode cX7_doorOf 36 = .ok (.aload_n 0, 1) := by decide +kernel
theorem dX7_doorOf_37 : decode cX7_doorOf 37 = .ok (.getfield 10, 3) := by decide +kernel
theorem dX7_doorOf_40 : decode cX7_doorOf 40 = .ok (.getfield 124, 3) := by decide +kernel
theorem dX7_doorOf_43 : decode cX7_doorOf 43 = .ok (.iload_n 1, 1) := by decide +kernel
theorem dX7_doorOf_44 : decode cX7_doorOf 44 = .ok (.invokestatic 79, 3) := by decide +kernel
theorem dX7_doorOf_47 : decode cX7_doorOf 47 = .ok (.ireturn, 1) := by decide +kernel
theorem dX7_doorOf_48 : decode cX7_doorOf 48 = .ok (.aload_n 0, 1) := by decide +kernel
theorem dX7_doorOf_49 : decode cX7_doorOf 49 = .ok (.getfield 10, 3) := by decide +kernel
theorem dX7_doorOf_52 : decode cX7_doorOf 52 = .ok (.getfield 127, 3) := by decide +kernel
theorem dX7_doorOf_55 : decode cX7_doorOf 55 = .ok (.iload_n 1, 1) := by decide +kernel
theorem dX7_doorOf_56 : decode cX7_doorOf 56 = .ok (.invokestatic 79, 3) := by decide +kernel
theorem dX7_doorOf_59 : decode cX7_doorOf 59 = .ok (.ireturn, 1) := by decide +kernel
theorem dX7_doorOf_60 : decode cX7_doorOf 60 = .ok (.iconst (-1), 1) := by decide +kernel
theorem dX7_doorOf_61 : decode cX7_doorOf 61 = .ok (.ireturn, 1) := by decide +kernel
set_option maxRecDepth 20000 in
theorem ggX7_count_X3_passageCount : GoodIn wsX7_count wsX3_passageCount := goodIn_r _ [13, 14, 15, 16, 17, 12, 18, 19, 20, 21, 22, 23, 24, 25, 26, 27, 28, 29, 30, 61, 62, 63, 64, 65, 66] (by decide +kernel) (by decide +kernel)
set_option maxRecDepth 20000 in
theorem gX7_count_X3_passageCount : GoodIn wsX7_count (wsV RX7 181 RX3 yX3_passageCount wsX3_passageCount) := goodIn_app (goodIn_of _ (by decide +kernel)) ggX7_count_X3_passageCount
set_option maxRecDepth 20000 in
theorem ggX7_count_X3_parts : GoodIn wsX7_count wsX3_parts := goodIn_r _ [34, 15, 16, 17, 12, 18, 19, 20, 35, 10, 11, 13, 14, 21, 22, 23, 24, 25, 26, 27, 28, 29, 30, 61, 62, 63, 64, 65, 66] (by decide +kernel) (by decide +kernel)
set_option maxRecDepth 20000 in
theorem gX7_count_X3_parts : GoodIn wsX7_count (wsV RX7 109 RX3 yX3_parts wsX3_parts) := goodIn_app (goodIn_of _ (by decide +kernel)) ggX7_count_X3_parts
set_option maxRecDepth 20000 in
theorem ggX7_count_X3_isWhole : GoodIn wsX7_count wsX3_isWhole := goodIn_r _ [39, 40, 32, 33, 12, 34, 15, 16, 17, 18, 19, 20, 35, 10, 11, 13, 14, 21, 22, 23, 24, 25, 26, 27, 28, 29, 30, 61, 62, 63, 64, 65, 66] (by decide +kernel) (by decide +kernel)
set_option maxRecDepth 20000 in
theorem gX7_count_X3_isWhole : GoodIn wsX7_count (wsV RX7 130 RX3 yX3_isWhole wsX3_isWhole) := goodIn_app (goodIn_of _ (by decide +kernel)) ggX7_count_X3_isWhole
set_option maxRecDepth 20000 in
theorem ggX7_count_X3_deadEnds : GoodIn wsX7_count wsX3_deadEnds := goodIn_r _ [44, 14, 15, 16, 17, 12, 18, 19, 20, 21, 22, 23, 24, 25, 26, 27, 28, 29, 30, 61, 62, 63, 64, 65, 66] (by decide +kernel) (by decide +kernel)
set_option maxRecDepth 20000 in
theorem gX7_count_X3_deadEnds : GoodIn wsX7_count (wsV RX7 184 RX3 yX3_deadEnds wsX3_deadEnds) := goodIn_app (goodIn_of _ (by decide +kernel)) ggX7_count_X3_deadEnds
set_option maxRecDepth 20000 in
theorem ggX7_count_X3_toneSum : GoodIn wsX7_count wsX3_toneSum := goodIn_r _ [48, 49, 15, 16, 17, 12, 18, 19, 20, 21, 22, 23, 61, 62, 63, 64, 65, 66] (by decide +kernel) (by decide +kernel)
set_option maxRecDepth 20000 in
theorem gX7_count_X3_toneSum : GoodIn wsX7_count (wsV RX7 187 RX3 yX3_toneSum wsX3_toneSum) := goodIn_app (goodIn_of _ (by decide +kernel)) ggX7_count_X3_toneSum
theorem dX7_count_0 : decode cX7_count 0 = .ok (.iload_n 1, 1) := by decide +kernel
theorem dX7_count_1 : decode cX7_count 1 = .ok (.tableswitch 148 0 9 #[55, 63, 71, 79, 87, 103, 111, 119, 127, 135], 55) := by decide +kernel
theorem dX7_count_56 : decode cX7_count 56 = .ok (.aload_n 0, 1) := by decide +kernel
theorem dX7_count_57 : decode cX7_count 57 = .ok (.getfield 10, 3) := by decide +kernel
theorem dX7_count_60 : decode cX7_count 60 = .ok (.getfield 175, 3) := by decide +kernel
theorem dX7_count_63 : decode cX7_count 63 = .ok (.ireturn, 1) := by decide +kernel
theorem dX7_count_64 : decode cX7_count 64 = .ok (.aload_n 0, 1) := by decide +kernel
theorem dX7_count_65 : decode cX7_count 65 = .ok (.getfield 10, 3) := by decide +kernel
theorem dX7_count_68 : decode cX7_count 68 = .ok (.getfield 178, 3) := by decide +kernel
theorem dX7_count_71 : decode cX7_count 71 = .ok (.ireturn, 1) := by decide +kernel
theorem dX7_count_72 : decode cX7_count 72 = .ok (.aload_n 0, 1) := by decide +kernel
theorem dX7_count_73 : decode cX7_count 73 = .ok (.getfield 10, 3) := by decide +kernel
theorem dX7_count_76 : decode cX7_count 76 = .ok (.invokevirtual 181, 3) := by decide +kernel
theorem dX7_count_79 : decode cX7_count 79 = .ok (.ireturn, 1) := by decide +kernel
theorem dX7_count_80 : decode cX7_count 80 = .ok (.aload_n 0, 1) := by decide +kernel
theorem dX7_count_81 : decode cX7_count 81 = .ok (.getfield 10, 3) := by decide +kernel
theorem dX7_count_84 : decode cX7_count 84 = .ok (.invokevirtual 109, 3) := by decide +kernel
theorem dX7_count_87 : decode cX7_count 87 = .ok (.ireturn, 1) := by decide +kernel
theorem dX7_count_88 : decode cX7_count 88 = .ok (.aload_n 0, 1) := by decide +kernel
theorem dX7_count_89 : decode cX7_count 89 = .ok (.getfield 10, 3) := by decide +kernel
theorem dX7_count_92 : decode cX7_count 92 = .ok (.invokevirtual 130, 3) := by decide +kernel
theorem dX7_count_95 : decode cX7_count 95 = .ok (.ifCond .eq 7, 3) := by decide +kernel
theorem dX7_count_98 : decode cX7_count 98 = .ok (.iconst 1, 1) := by decide +kernel
theorem dX7_count_99 : decode cX7_count 99 = .ok (.goto 4, 3) := by decide +kernel
theorem dX7_count_102 : decode cX7_count 102 = .ok (.iconst 0, 1) := by decide +kernel
theorem dX7_count_103 : decode cX7_count 103 = .ok (.ireturn, 1) := by decide +kernel
theorem dX7_count_104 : decode cX7_count 104 = .ok (.aload_n 0, 1) := by decide +kernel
theorem dX7_count_105 : decode cX7_count 105 = .ok (.getfield 10, 3) := by decide +kernel
theorem dX7_count_108 : decode cX7_count 108 = .ok (.invokevirtual 184, 3) := by decide +kernel
theorem dX7_count_111 : decode cX7_count 111 = .ok (.ireturn, 1) := by decide +kernel
theorem dX7_count_112 : decode cX7_count 112 = .ok (.aload_n 0, 1) := by decide +kernel
theorem dX7_count_113 : decode cX7_count 113 = .ok (.getfield 10, 3) := by decide +kernel
theorem dX7_count_116 : decode cX7_count 116 = .ok (.invokevirtual 187, 3) := by decide +kernel
theorem dX7_count_119 : decode cX7_count 119 = .ok (.ireturn, 1) := by decide +kernel
theorem dX7_count_120 : decode cX7_count 120 = .ok (.aload_n 0, 1) := by decide +kernel
theorem dX7_count_121 : decode cX7_count 121 = .ok (.getfield 22, 3) := by decide +kernel
theorem dX7_count_124 : decode cX7_count 124 = .ok (.getfield 190, 3) := by decide +kernel
theorem dX7_count_127 : decode cX7_count 127 = .ok (.ireturn, 1) := by decide +kernel
theorem dX7_count_128 : decode cX7_count 128 = .ok (.aload_n 0, 1) := by decide +kernel
theorem dX7_count_129 : decode cX7_count 129 = .ok (.getfield 29, 3) := by decide +kernel
theorem dX7_count_132 : decode cX7_count 132 = .ok (.getfield 193, 3) := by decide +kernel
theorem dX7_count_135 : decode cX7_count 135 = .ok (.ireturn, 1) := by decide +kernel
theorem dX7_count_136 : decode cX7_count 136 = .ok (.aload_n 0, 1) := by decide +kernel
theorem dX7_count_137 : decode cX7_count 137 = .ok (.getfield 67, 3) := by decide +kernel
theorem dX7_count_140 : decode cX7_count 140 = .ok (.ifCond .eq 7, 3) := by decide +kernel
theorem dX7_count_143 : decode cX7_count 143 = .ok (.iconst 1, 1) := by decide +kernel
theorem dX7_count_144 : decode cX7_count 144 = .ok (.goto 4, 3) := by decide +kernel
theorem dX7_count_147 : decode cX7_count 147 = .ok (.iconst 0, 1) := by decide +kernel
theorem dX7_count_148 : decode cX7_count 148 = .ok (.ireturn, 1) := by decide +kernel
theorem dX7_count_149 : decode cX7_count 149 = .ok (.iconst (-1), 1) := by decide +kernel
theorem dX7_count_150 : decode cX7_count 150 = .ok (.ireturn, 1) := by decide +kernel
set_option maxRecDepth 20000 in
theorem ggX7_way_X3_exitCell : GoodIn wsX7_way wsX3_exitCell := goodIn_r _ [8, 9, 10, 11, 12, 75, 76, 77, 78, 79, 80] (by decide +kernel) (by decide +kernel)
set_option maxRecDepth 20000 in
theorem gX7_way_X3_exitCell : GoodIn wsX7_way (wsV RX7 196 RX3 yX3_exitCell wsX3_exitCell) := goodIn_app (goodIn_of _ (by decide +kernel)) ggX7_way_X3_exitCell
set_option maxRecDepth 20000 in
theorem ggX7_way_X6_findFrom : GoodIn wsX7_way wsX6_findFrom := goodIn_r _ [17, 18, 19, 20, 21, 22, 23, 24, 25, 26, 27, 16, 28, 29, 30, 31, 10, 11, 12, 32, 33, 34, 35, 36, 37, 38, 39, 40, 7, 41, 42, 43, 44, 45, 46, 47, 48, 49, 50, 51, 52, 70, 71, 72, 73, 74, 75, 76, 77, 78, 79, 80] (by decide +kernel) (by decide +kernel)
set_option maxRecDepth 20000 in
theorem gX7_way_X6_findFrom : GoodIn wsX7_way (wsV RX7 98 RX6 yX6_findFrom wsX6_findFrom) := goodIn_app (goodIn_of _ (by decide +kernel)) ggX7_way_X6_findFrom
set_option maxRecDepth 20000 in
theorem ggX7_way_X3_entryCell : GoodIn wsX7_way wsX3_entryCell := goodIn_r _ [56, 9, 10, 11, 12, 75, 76, 77, 78, 79, 80] (by decide +kernel) (by decide +kernel)
set_option maxRecDepth 20000 in
theorem gX7_way_X3_entryCell : GoodIn wsX7_way (wsV RX7 157 RX3 yX3_entryCell wsX3_entryCell) := goodIn_app (goodIn_of _ (by decide +kernel)) ggX7_way_X3_entryCell
set_option maxRecDepth 20000 in
theorem ggX7_way_X6_lengthTo : GoodIn wsX7_way wsX6_lengthTo := goodIn_r _ [37, 18, 70, 71, 72, 73, 74] (by decide +kernel) (by decide +kernel)
set_option maxRecDepth 20000 in
theorem gX7_way_X6_lengthTo : GoodIn wsX7_way (wsV RX7 199 RX6 yX6_lengthTo wsX6_lengthTo) := goodIn_app (goodIn_of _ (by decide +kernel)) ggX7_way_X6_lengthTo
set_option maxRecDepth 20000 in
theorem ggX7_way_X7_at : GoodIn wsX7_way wsX7_at := goodIn_r _ [12] (by decide +kernel) (by decide +kernel)
set_option maxRecDepth 20000 in
theorem gX7_way_X7_at : GoodIn wsX7_way (va_wsS RX7 79 yX7_at wsX7_at) := goodIn_app (goodIn_of _ (by decide +kernel)) ggX7_way_X7_at
theorem dX7_way_0 : decode cX7_way 0 = .ok (.iload_n 1, 1) := by decide +kernel
theorem dX7_way_1 : decode cX7_way 1 = .ok (.ifCond .ge 5, 3) := by decide +kernel
theorem dX7_way_4 : decode cX7_way 4 = .ok (.iconst (-1), 1) := by decide +kernel
theorem dX7_way_5 : decode cX7_way 5 = .ok (.ireturn, 1) := by decide +kernel
theorem dX7_way_6 : decode cX7_way 6 = .ok (.aload_n 0, 1) := by decide +kernel
theorem dX7_way_7 : decode cX7_way 7 = .ok (.getfield 43, 3) := by decide +kernel
theorem dX7_way_10 : decode cX7_way 10 = .ok (.aload_n 0, 1) := by decide +kernel
theorem dX7_way_11 : decode cX7_way 11 = .ok (.getfield 10, 3) := by decide +kernel
theorem dX7_way_14 : decode cX7_way 14 = .ok (.aload_n 0, 1) := by decide +kernel
theorem dX7_way_15 : decode cX7_way 15 = .ok (.getfield 10, 3) := by decide +kernel
theorem dX7_way_18 : decode cX7_way 18 = .ok (.invokevirtual 196, 3) := by decide +kernel
theorem dX7_way_21 : decode cX7_way 21 = .ok (.invokevirtual 98, 3) := by decide +kernel
theorem dX7_way_24 : decode cX7_way 24 = .ok (.iload_n 1, 1) := by decide +kernel
theorem dX7_way_25 : decode cX7_way 25 = .ok (.aload_n 0, 1) := by decide +kernel
theorem dX7_way_26 : decode cX7_way 26 = .ok (.getfield 43, 3) := by decide +kernel
theorem dX7_way_29 : decode cX7_way 29 = .ok (.aload_n 0, 1) := by decide +kernel
theorem dX7_way_30 : decode cX7_way 30 = .ok (.getfield 10, 3) := by decide +kernel
theorem dX7_way_33 : decode cX7_way 33 = .ok (.invokevirtual 157, 3) := by decide +kernel
theorem dX7_way_36 : decode cX7_way 36 = .ok (.invokevirtual 199, 3) := by decide +kernel
theorem dX7_way_39 : decode cX7_way 39 = .ok (.if_icmp .le 6, 3) := by decide +kernel
theorem dX7_way_42 : decode cX7_way 42 = .ok (.bipush (-4), 2) := by decide +kernel
theorem dX7_way_44 : decode cX7_way 44 = .ok (.ireturn, 1) := by decide +kernel
theorem dX7_way_45 : decode cX7_way 45 = .ok (.aload_n 0, 1) := by decide +kernel
theorem dX7_way_46 : decode cX7_way 46 = .ok (.getfield 10, 3) := by decide +kernel
theorem dX7_way_49 : decode cX7_way 49 = .ok (.invokevirtual 157, 3) := by decide +kernel
theorem dX7_way_52 : decode cX7_way 52 = .ok (.istore_n 2, 1) := by decide +kernel
theorem dX7_way_53 : decode cX7_way 53 = .ok (.iconst 0, 1) := by decide +kernel
theorem dX7_way_54 : decode cX7_way 54 = .ok (.istore_n 3, 1) := by decide +kernel
theorem dX7_way_55 : decode cX7_way 55 = .ok (.iload_n 3, 1) := by decide +kernel
theorem dX7_way_56 : decode cX7_way 56 = .ok (.iload_n 1, 1) := by decide +kernel
theorem dX7_way_57 : decode cX7_way 57 = .ok (.if_icmp .ge 21, 3) := by decide +kernel
theorem dX7_way_60 : decode cX7_way 60 = .ok (.aload_n 0, 1) := by decide +kernel
theorem dX7_way_61 : decode cX7_way 61 = .ok (.getfield 43, 3) := by decide +kernel
theorem dX7_way_64 : decode cX7_way 64 = .ok (.getfield 203, 3) := by decide +kernel
theorem dX7_way_67 : decode cX7_way 67 = .ok (.iload_n 2, 1) := by decide +kernel
theorem dX7_way_68 : decode cX7_way 68 = .ok (.invokestatic 79, 3) := by decide +kernel
theorem dX7_way_71 : decode cX7_way 71 = .ok (.istore_n 2, 1) := by decide +kernel
theorem dX7_way_72 : decode cX7_way 72 = .ok (.iinc 3 1, 3) := by decide +kernel
theorem dX7_way_75 : decode cX7_way 75 = .ok (.goto (-20), 3) := by decide +kernel
theorem dX7_way_78 : decode cX7_way 78 = .ok (.iload_n 2, 1) := by decide +kernel
theorem dX7_way_79 : decode cX7_way 79 = .ok (.ireturn, 1) := by decide +kernel
set_option maxRecDepth 20000 in
theorem ggX7_drawn_X7_hasWay : GoodIn wsX7_drawn wsX7_hasWay := goodIn_r _ [10, 1, 2, 11, 12, 13, 14, 15, 16, 17, 9, 18, 19, 20, 21, 22, 23, 24, 25, 26, 27, 28, 29, 30, 31, 32, 33, 34, 35, 36, 37, 38, 39, 40, 41, 42, 43, 44, 45, 46, 47, 48, 49, 50, 51, 52, 53, 54, 55, 56, 57, 58, 59, 60, 61, 62, 63, 127, 128, 129, 130, 131, 132, 133, 134, 135, 136, 137, 142, 143, 144, 145, 146, 147, 148, 149, 150, 151, 152] (by decide +kernel) (by decide +kernel)
set_option maxRecDepth 20000 in
theorem gX7_drawn_X7_hasWay : GoodIn wsX7_drawn (wsV RX7 206 RX7 yX7_hasWay wsX7_hasWay) := goodIn_app (goodIn_of _ (by decide +kernel)) ggX7_drawn_X7_hasWay
set_option maxRecDepth 20000 in
theorem ggX7_drawn_X3_entryCell : GoodIn wsX7_drawn wsX3_entryCell := goodIn_r _ [62, 16, 17, 9, 18, 142, 143, 144, 145, 146, 147] (by decide +kernel) (by decide +kernel)
set_option maxRecDepth 20000 in
theorem gX7_drawn_X3_entryCell : GoodIn wsX7_drawn (wsV RX7 157 RX3 yX3_entryCell wsX3_entryCell) := goodIn_app (goodIn_of _ (by decide +kernel)) ggX7_drawn_X3_entryCell
set_option maxRecDepth 20000 in
theorem ggX7_drawn_X6_lengthTo : GoodIn wsX7_drawn wsX6_lengthTo := goodIn_r _ [43, 24, 148, 149, 150, 151, 152] (by decide +kernel) (by decide +kernel)
set_option maxRecDepth 20000 in
theorem gX7_drawn_X6_lengthTo : GoodIn wsX7_drawn (wsV RX7 199 RX6 yX6_lengthTo wsX6_lengthTo) := goodIn_app (goodIn_of _ (by decide +kernel)) ggX7_drawn_X6_lengthTo
set_option maxRecDepth 20000 in
theorem ggX7_drawn_X7_wayFault : GoodIn wsX7_drawn wsX7_wayFault := goodIn_r _ [68, 2, 1, 69, 70, 71, 72, 14, 73, 74, 75, 76, 77, 78, 48, 49, 17, 9, 18, 6, 7, 8, 10, 11, 12, 13, 15, 16, 19, 20, 21, 22, 23, 24, 25, 26, 27, 28, 29, 30, 31, 32, 33, 34, 35, 36, 37, 38, 39, 40, 41, 42, 43, 44, 45, 46, 47, 50, 51, 52, 53, 54, 55, 56, 57, 58, 59, 60, 61, 62, 63, 79, 127, 128, 129, 130, 131, 132, 133, 134, 135, 136, 137, 148, 149, 150, 151, 152, 142, 143, 144, 145, 146, 147] (by decide +kernel) (by decide +kernel)
set_option maxRecDepth 20000 in
theorem gX7_drawn_X7_wayFault : GoodIn wsX7_drawn (wsV RX7 209 RX7 yX7_wayFault wsX7_wayFault) := goodIn_app (goodIn_of _ (by decide +kernel)) ggX7_drawn_X7_wayFault
set_option maxRecDepth 20000 in
theorem ggX7_drawn_X5_take : GoodIn wsX7_drawn wsX5_take := goodIn_r _ [84, 85, 86, 87, 88, 89, 90, 28, 29, 30, 91, 60, 61, 14, 62, 16, 17, 9, 18, 92, 93, 83, 94, 95, 96, 97, 98, 38, 39, 99, 100, 101, 102, 51, 52, 53, 54, 103, 104, 105, 106, 107, 108, 45, 46, 47, 48, 49, 138, 139, 140, 141, 142, 143, 144, 145, 146, 147] (by decide +kernel) (by decide +kernel)
set_option maxRecDepth 20000 in
theorem gX7_drawn_X5_take : GoodIn wsX7_drawn (wsV RX7 166 RX5 yX5_take wsX5_take) := goodIn_app (goodIn_of _ (by decide +kernel)) ggX7_drawn_X5_take
set_option maxRecDepth 20000 in
theorem ggX7_drawn_X5_faultOn : GoodIn wsX7_drawn wsX5_faultOn := goodIn_r _ [112, 85, 113, 114, 115, 116, 117, 118, 119, 120, 121, 76, 77, 14, 78, 48, 49, 17, 9, 18, 138, 139, 140, 141, 142, 143, 144, 145, 146, 147] (by decide +kernel) (by decide +kernel)
set_option maxRecDepth 20000 in
theorem gX7_drawn_X5_faultOn : GoodIn wsX7_drawn (wsV RX7 215 RX5 yX5_faultOn wsX5_faultOn) := goodIn_app (goodIn_of _ (by decide +kernel)) ggX7_drawn_X5_faultOn
set_option maxRecDepth 20000 in
theorem ggX7_drawn_X7_wayTurns : GoodIn wsX7_drawn wsX7_wayTurns := goodIn_r _ [125, 2, 1, 126, 59, 60, 61, 14, 62, 16, 17, 9, 18, 64, 41, 42, 22, 43, 24, 79, 127, 128, 129, 130, 131, 132, 133, 134, 135, 136, 137, 148, 149, 150, 151, 152, 142, 143, 144, 145, 146, 147] (by decide +kernel) (by decide +kernel)
set_option maxRecDepth 20000 in
theorem gX7_drawn_X7_wayTurns : GoodIn wsX7_drawn (wsV RX7 218 RX7 yX7_wayTurns wsX7_wayTurns) := goodIn_app (goodIn_of _ (by decide +kernel)) ggX7_drawn_X7_wayTurns
theorem dX7_drawn_0 : decode cX7_drawn 0 = .ok (.iload_n 1, 1) := by decide +kernel
theorem dX7_drawn_1 : decode cX7_drawn 1 = .ok (.tableswitch 158 0 4 #[35, 64, 69, 103, 141], 35) := by decide +kernel
theorem dX7_drawn_36 : decode cX7_drawn 36 = .ok (.aload_n 0, 1) := by decide +kernel
theorem dX7_drawn_37 : decode cX7_drawn 37 = .ok (.invokevirtual 206, 3) := by decide +kernel
theorem dX7_drawn_40 : decode cX7_drawn 40 = .ok (.ifCond .eq 22, 3) := by decide +kernel
theorem dX7_drawn_43 : decode cX7_drawn 43 = .ok (.aload_n 0, 1) := by decide +kernel
theorem dX7_drawn_44 : decode cX7_drawn 44 = .ok (.getfield 43, 3) := by decide +kernel
theorem dX7_drawn_47 : decode cX7_drawn 47 = .ok (.aload_n 0, 1) := by decide +kernel
theorem dX7_drawn_48 : decode cX7_drawn 48 = .ok (.getfield 10, 3) := by decide +kernel
theorem dX7_drawn_51 : decode cX7_drawn 51 = .ok (.invokevirtual 157, 3) := by decide +kernel
theorem dX7_drawn_54 : decode cX7_drawn 54 = .ok (.invokevirtual 199, 3) := by decide +kernel
theorem dX7_drawn_57 : decode cX7_drawn 57 = .ok (.iconst 1, 1) := by decide +kernel
theorem dX7_drawn_58 : decode cX7_drawn 58 = .ok (.iadd, 1) := by decide +kernel
theorem dX7_drawn_59 : decode cX7_drawn 59 = .ok (.goto 5, 3) := by decide +kernel
theorem dX7_drawn_62 : decode cX7_drawn 62 = .ok (.bipush (-4), 2) := by decide +kernel
theorem dX7_drawn_64 : decode cX7_drawn 64 = .ok (.ireturn, 1) := by decide +kernel
theorem dX7_drawn_65 : decode cX7_drawn 65 = .ok (.aload_n 0, 1) := by decide +kernel
theorem dX7_drawn_66 : decode cX7_drawn 66 = .ok (.invokevirtual 209, 3) := by decide +kernel
theorem dX7_drawn_69 : decode cX7_drawn 69 = .ok (.ireturn, 1) := by decide +kernel
theorem dX7_drawn_70 : decode cX7_drawn 70 = .ok (.aload_n 0, 1) := by decide +kernel
theorem dX7_drawn_71 : decode cX7_drawn 71 = .ok (.getfield 49, 3) := by decide +kernel
theorem dX7_drawn_74 : decode cX7_drawn 74 = .ok (.aload_n 0, 1) := by decide +kernel
theorem dX7_drawn_75 : decode cX7_drawn 75 = .ok (.getfield 10, 3) := by decide +kernel
theorem dX7_drawn_78 : decode cX7_drawn 78 = .ok (.invokevirtual 166, 3) := by decide +kernel
theorem dX7_drawn_81 : decode cX7_drawn 81 = .ok (.aload_n 0, 1) := by decide +kernel
theorem dX7_drawn_82 : decode cX7_drawn 82 = .ok (.getfield 49, 3) := by decide +kernel
theorem dX7_drawn_85 : decode cX7_drawn 85 = .ok (.getfield 169, 3) := by decide +kernel
theorem dX7_drawn_88 : decode cX7_drawn 88 = .ok (.ifCond .eq 8, 3) := by decide +kernel
theorem dX7_drawn_91 : decode cX7_drawn 91 = .ok (.bipush (-4), 2) := by decide +kernel
theorem dX7_drawn_93 : decode cX7_drawn 93 = .ok (.goto 10, 3) := by decide +kernel
theorem dX7_drawn_96 : decode cX7_drawn 96 = .ok (.aload_n 0, 1) := by decide +kernel
theorem dX7_drawn_97 : decode cX7_drawn 97 = .ok (.getfield 49, 3) := by decide +kernel
theorem dX7_drawn_100 : decode cX7_drawn 100 = .ok (.getfield 212, 3) := by decide +kernel
theorem dX7_drawn_103 : decode cX7_drawn 103 = .ok (.ireturn, 1) := by decide +kernel
theorem dX7_drawn_104 : decode cX7_drawn 104 = .ok (.aload_n 0, 1) := by decide +kernel
theorem dX7_drawn_105 : decode cX7_drawn 105 = .ok (.getfield 49, 3) := by decide +kernel
theorem dX7_drawn_108 : decode cX7_drawn 108 = .ok (.aload_n 0, 1) := by decide +kernel
theorem dX7_drawn_109 : decode cX7_drawn 109 = .ok (.getfield 10, 3) := by decide +kernel
theorem dX7_drawn_112 : decode cX7_drawn 112 = .ok (.invokevirtual 166, 3) := by decide +kernel
theorem dX7_drawn_115 : decode cX7_drawn 115 = .ok (.aload_n 0, 1) := by decide +kernel
theorem dX7_drawn_116 : decode cX7_drawn 116 = .ok (.getfield 49, 3) := by decide +kernel
theorem dX7_drawn_119 : decode cX7_drawn 119 = .ok (.getfield 169, 3) := by decide +kernel
theorem dX7_drawn_122 : decode cX7_drawn 122 = .ok (.ifCond .eq 8, 3) := by decide +kernel
theorem dX7_drawn_125 : decode cX7_drawn 125 = .ok (.bipush (-4), 2) := by decide +kernel
theorem dX7_drawn_127 : decode cX7_drawn 127 = .ok (.goto 14, 3) := by decide +kernel
theorem dX7_drawn_130 : decode cX7_drawn 130 = .ok (.aload_n 0, 1) := by decide +kernel
theorem dX7_drawn_131 : decode cX7_drawn 131 = .ok (.getfield 49, 3) := by decide +kernel
theorem dX7_drawn_134 : decode cX7_drawn 134 = .ok (.aload_n 0, 1) := by decide +kernel
theorem dX7_drawn_135 : decode cX7_drawn 135 = .ok (.getfield 10, 3) := by decide +kernel
theorem dX7_drawn_138 : decode cX7_drawn 138 = .ok (.invokevirtual 215, 3) := by decide +kernel
theorem dX7_drawn_141 : decode cX7_drawn 141 = .ok (.ireturn, 1) := by decide +kernel
theorem dX7_drawn_142 : decode cX7_drawn 142 = .ok (.aload_n 0, 1) := by decide +kernel
theorem dX7_drawn_143 : decode cX7_drawn 143 = .ok (.invokevirtual 206, 3) := by decide +kernel
theorem dX7_drawn_146 : decode cX7_drawn 146 = .ok (.ifCond .eq 10, 3) := by decide +kernel
theorem dX7_drawn_149 : decode cX7_drawn 149 = .ok (.aload_n 0, 1) := by decide +kernel
theorem dX7_drawn_150 : decode cX7_drawn 150 = .ok (.invokevirtual 218, 3) := by decide +kernel
theorem dX7_drawn_153 : decode cX7_drawn 153 = .ok (.goto 5, 3) := by decide +kernel
theorem dX7_drawn_156 : decode cX7_drawn 156 = .ok (.bipush (-4), 2) := by decide +kernel
theorem dX7_drawn_158 : decode cX7_drawn 158 = .ok (.ireturn, 1) := by decide +kernel
theorem dX7_drawn_159 : decode cX7_drawn 159 = .ok (.iconst (-1), 1) := by decide +kernel
theorem dX7_drawn_160 : decode cX7_drawn 160 = .ok (.ireturn, 1) := by decide +kernel
set_option maxRecDepth 20000 in
theorem ggX7_between_X3_hasCell : GoodIn wsX7_between wsX3_hasCell := goodIn_r _ [7, 8, 9, 10, 6, 11, 12, 13, 68, 69, 70, 71, 72, 73] (by decide +kernel) (by decide +kernel)
set_option maxRecDepth 20000 in
theorem gX7_between_X3_hasCell : GoodIn wsX7_between (wsV RX7 71 RX3 yX3_hasCell wsX3_hasCell) := goodIn_app (goodIn_of _ (by decide +kernel)) ggX7_between_X3_hasCell
set_option maxRecDepth 20000 in
theorem ggX7_between_X6_findFrom : GoodIn wsX7_between wsX6_findFrom := goodIn_r _ [18, 19, 20, 21, 22, 23, 24, 25, 26, 27, 28, 17, 29, 30, 31, 32, 33, 34, 35, 36, 37, 38, 39, 40, 41, 42, 43, 44, 6, 45, 12, 13, 46, 47, 48, 49, 50, 51, 52, 53, 54, 74, 75, 76, 77, 78, 68, 69, 70, 71, 72, 73] (by decide +kernel) (by decide +kernel)
set_option maxRecDepth 20000 in
theorem gX7_between_X6_findFrom : GoodIn wsX7_between (wsV RX7 98 RX6 yX6_findFrom wsX6_findFrom) := goodIn_app (goodIn_of _ (by decide +kernel)) ggX7_between_X6_findFrom
set_option maxRecDepth 20000 in
theorem ggX7_between_X6_reach : GoodIn wsX7_between wsX6_reach := goodIn_r _ [54, 38, 39, 40, 17, 41, 19, 74, 75, 76, 77, 78] (by decide +kernel) (by decide +kernel)
set_option maxRecDepth 20000 in
theorem gX7_between_X6_reach : GoodIn wsX7_between (wsV RX7 102 RX6 yX6_reach wsX6_reach) := goodIn_app (goodIn_of _ (by decide +kernel)) ggX7_between_X6_reach
set_option maxRecDepth 20000 in
theorem ggX7_between_X6_lengthTo : GoodIn wsX7_between wsX6_lengthTo := goodIn_r _ [41, 19, 74, 75, 76, 77, 78] (by decide +kernel) (by decide +kernel)
set_option maxRecDepth 20000 in
theorem gX7_between_X6_lengthTo : GoodIn wsX7_between (wsV RX7 199 RX6 yX6_lengthTo wsX6_lengthTo) := goodIn_app (goodIn_of _ (by decide +kernel)) ggX7_between_X6_lengthTo
theorem dX7_between_0 : decode cX7_between 0 = .ok (.aload_n 0, 1) := by decide +kernel
theorem dX7_between_1 : decode cX7_between 1 = .ok (.getfield 10, 3) := by decide +kernel
theorem dX7_between_4 : decode cX7_between 4 = .ok (.iload_n 1, 1) := by decide +kernel
theorem dX7_between_5 : decode cX7_between 5 = .ok (.invokevirtual 71, 3) := by decide +kernel
theorem dX7_between_8 : decode cX7_between 8 = .ok (.ifCond .eq 14, 3) := by decide +kernel
theorem dX7_between_11 : decode cX7_between 11 = .ok (.aload_n 0, 1) := by decide +kernel
theorem dX7_between_12 : decode cX7_between 12 = .ok (.getfield 10, 3) := by decide +kernel
theorem dX7_between_15 : decode cX7_between 15 = .ok (.iload_n 2, 1) := by decide +kernel
theorem dX7_between_16 : decode cX7_between 16 = .ok (.invokevirtual 71, 3) := by decide +kernel
theorem dX7_between_19 : decode cX7_between 19 = .ok (.ifCond .ne 5, 3) := by decide +kernel
theorem dX7_between_22 : decode cX7_between 22 = .ok (.iconst (-1), 1) := by decide +kernel
theorem dX7_between_23 : decode cX7_between 23 = .ok (.ireturn, 1) := by decide +kernel
theorem dX7_between_24 : decode cX7_between 24 = .ok (.aload_n 0, 1) := by decide +kernel
theorem dX7_between_25 : decode cX7_between 25 = .ok (.getfield 36, 3) := by decide +kernel
theorem dX7_between_28 : decode cX7_between 28 = .ok (.aload_n 0, 1) := by decide +kernel
theorem dX7_between_29 : decode cX7_between 29 = .ok (.getfield 10, 3) := by decide +kernel
theorem dX7_between_32 : decode cX7_between 32 = .ok (.iload_n 1, 1) := by decide +kernel
theorem dX7_between_33 : decode cX7_between 33 = .ok (.invokevirtual 98, 3) := by decide +kernel
theorem dX7_between_36 : decode cX7_between 36 = .ok (.aload_n 0, 1) := by decide +kernel
theorem dX7_between_37 : decode cX7_between 37 = .ok (.getfield 36, 3) := by decide +kernel
theorem dX7_between_40 : decode cX7_between 40 = .ok (.iload_n 2, 1) := by decide +kernel
theorem dX7_between_41 : decode cX7_between 41 = .ok (.invokevirtual 102, 3) := by decide +kernel
theorem dX7_between_44 : decode cX7_between 44 = .ok (.ifCond .eq 14, 3) := by decide +kernel
theorem dX7_between_47 : decode cX7_between 47 = .ok (.aload_n 0, 1) := by decide +kernel
theorem dX7_between_48 : decode cX7_between 48 = .ok (.getfield 36, 3) := by decide +kernel
theorem dX7_between_51 : decode cX7_between 51 = .ok (.iload_n 2, 1) := by decide +kernel
theorem dX7_between_52 : decode cX7_between 52 = .ok (.invokevirtual 199, 3) := by decide +kernel
theorem dX7_between_55 : decode cX7_between 55 = .ok (.goto 5, 3) := by decide +kernel
theorem dX7_between_58 : decode cX7_between 58 = .ok (.bipush (-4), 2) := by decide +kernel
theorem dX7_between_60 : decode cX7_between 60 = .ok (.ireturn, 1) := by decide +kernel
set_option maxRecDepth 20000 in
theorem ggX7_farthest_X3_cells : GoodIn wsX7_farthest wsX3_cells := goodIn_r _ [7, 8, 9, 66, 67, 68, 69, 70, 71] (by decide +kernel) (by decide +kernel)
set_option maxRecDepth 20000 in
theorem gX7_farthest_X3_cells : GoodIn wsX7_farthest (wsV RX7 221 RX3 yX3_cells wsX3_cells) := goodIn_app (goodIn_of _ (by decide +kernel)) ggX7_farthest_X3_cells
set_option maxRecDepth 20000 in
theorem ggX7_farthest_X6_findFrom : GoodIn wsX7_farthest wsX6_findFrom := goodIn_r _ [14, 15, 16, 17, 18, 19, 20, 21, 22, 23, 24, 13, 25, 26, 27, 28, 29, 30, 31, 32, 33, 34, 35, 36, 37, 38, 39, 40, 6, 41, 8, 9, 42, 43, 44, 45, 46, 47, 48, 49, 50, 72, 73, 74, 75, 76, 66, 67, 68, 69, 70, 71] (by decide +kernel) (by decide +kernel)
set_option maxRecDepth 20000 in
theorem gX7_farthest_X6_findFrom : GoodIn wsX7_farthest (wsV RX7 98 RX6 yX6_findFrom wsX6_findFrom) := goodIn_app (goodIn_of _ (by decide +kernel)) ggX7_farthest_X6_findFrom
set_option maxRecDepth 20000 in
theorem ggX7_farthest_X6_lengthTo : GoodIn wsX7_farthest wsX6_lengthTo := goodIn_r _ [37, 15, 72, 73, 74, 75, 76] (by decide +kernel) (by decide +kernel)
set_option maxRecDepth 20000 in
theorem gX7_farthest_X6_lengthTo : GoodIn wsX7_farthest (wsV RX7 199 RX6 yX6_lengthTo wsX6_lengthTo) := goodIn_app (goodIn_of _ (by decide +kernel)) ggX7_farthest_X6_lengthTo
set_option maxRecDepth 20000 in
theorem ggX7_farthest_X7_choose : GoodIn wsX7_farthest wsX7_choose := goodIn_r _ [54] (by decide +kernel) (by decide +kernel)
set_option maxRecDepth 20000 in
theorem gX7_farthest_X7_choose : GoodIn wsX7_farthest (va_wsS RX7 223 yX7_choose wsX7_choose) := goodIn_app (goodIn_of _ (by decide +kernel)) ggX7_farthest_X7_choose
theorem dX7_farthest_0 : decode cX7_farthest 0 = .ok (.iload_n 1, 1) := by decide +kernel
theorem dX7_farthest_1 : decode cX7_farthest 1 = .ok (.ifCond .lt 8, 3) := by decide +kernel
theorem dX7_farthest_4 : decode cX7_farthest 4 = .ok (.iload_n 1, 1) := by decide +kernel
theorem dX7_farthest_5 : decode cX7_farthest 5 = .ok (.iconst 2, 1) := by decide +kernel
theorem dX7_farthest_6 : decode cX7_farthest 6 = .ok (.if_icmp .le 5, 3) := by decide +kernel
theorem dX7_farthest_9 : decode cX7_farthest 9 = .ok (.iconst (-1), 1) := by decide +kernel
theorem dX7_farthest_10 : decode cX7_farthest 10 = .ok (.ireturn, 1) := by decide +kernel
theorem dX7_farthest_11 : decode cX7_farthest 11 = .ok (.iconst (-1), 1) := by decide +kernel
theorem dX7_farthest_12 : decode cX7_farthest 12 = .ok (.istore_n 2, 1) := by decide +kernel
theorem dX7_farthest_13 : decode cX7_farthest 13 = .ok (.iconst (-1), 1) := by decide +kernel
theorem dX7_farthest_14 : decode cX7_farthest 14 = .ok (.istore_n 3, 1) := by decide +kernel
theorem dX7_farthest_15 : decode cX7_farthest 15 = .ok (.iconst 0, 1) := by decide +kernel
theorem dX7_farthest_16 : decode cX7_farthest 16 = .ok (.istore 4, 2) := by decide +kernel
theorem dX7_farthest_18 : decode cX7_farthest 18 = .ok (.iconst 0, 1) := by decide +kernel
theorem dX7_farthest_19 : decode cX7_farthest 19 = .ok (.istore 5, 2) := by decide +kernel
theorem dX7_farthest_21 : decode cX7_farthest 21 = .ok (.iload 5, 2) := by decide +kernel
theorem dX7_farthest_23 : decode cX7_farthest 23 = .ok (.aload_n 0, 1) := by decide +kernel
theorem dX7_farthest_24 : decode cX7_farthest 24 = .ok (.getfield 10, 3) := by decide +kernel
theorem dX7_farthest_27 : decode cX7_farthest 27 = .ok (.invokevirtual 221, 3) := by decide +kernel
theorem dX7_farthest_30 : decode cX7_farthest 30 = .ok (.if_icmp .ge 77, 3) := by decide +kernel
theorem dX7_farthest_33 : decode cX7_farthest 33 = .ok (.aload_n 0, 1) := by decide +kernel
theorem dX7_farthest_34 : decode cX7_farthest 34 = .ok (.getfield 36, 3) := by decide +kernel
theorem dX7_farthest_37 : decode cX7_farthest 37 = .ok (.aload_n 0, 1) := by decide +kernel
theorem dX7_farthest_38 : decode cX7_farthest 38 = .ok (.getfield 10, 3) := by decide +kernel
theorem dX7_farthest_41 : decode cX7_farthest 41 = .ok (.iload 5, 2) := by decide +kernel
theorem dX7_farthest_43 : decode cX7_farthest 43 = .ok (.invokevirtual 98, 3) := by decide +kernel
theorem dX7_farthest_46 : decode cX7_farthest 46 = .ok (.iload 5, 2) := by decide +kernel
theorem dX7_farthest_48 : decode cX7_farthest 48 = .ok (.iconst 1, 1) := by decide +kernel
theorem dX7_farthest_49 : decode cX7_farthest 49 = .ok (.iadd, 1) := by decide +kernel
theorem dX7_farthest_50 : decode cX7_farthest 50 = .ok (.istore 6, 2) := by decide +kernel
theorem dX7_farthest_52 : decode cX7_farthest 52 = .ok (.iload 6, 2) := by decide +kernel
theorem dX7_farthest_54 : decode cX7_farthest 54 = .ok (.aload_n 0, 1) := by decide +kernel
theorem dX7_farthest_55 : decode cX7_farthest 55 = .ok (.getfield 10, 3) := by decide +kernel
theorem dX7_farthest_58 : decode cX7_farthest 58 = .ok (.invokevirtual 221, 3) := by decide +kernel
theorem dX7_farthest_61 : decode cX7_farthest 61 = .ok (.if_icmp .ge 40, 3) := by decide +kernel
theorem dX7_farthest_64 : decode cX7_farthest 64 = .ok (.aload_n 0, 1) := by decide +kernel
theorem dX7_farthest_65 : decode cX7_farthest 65 = .ok (.getfield 36, 3) := by decide +kernel
theorem dX7_farthest_68 : decode cX7_farthest 68 = .ok (.iload 6, 2) := by decide +kernel
theorem dX7_farthest_70 : decode cX7_farthest 70 = .ok (.invokevirtual 199, 3) := by decide +kernel
theorem dX7_farthest_73 : decode cX7_farthest 73 = .ok (.iload 4, 2) := by decide +kernel
theorem dX7_farthest_75 : decode cX7_farthest 75 = .ok (.if_icmp .le 20, 3) := by decide +kernel
theorem dX7_farthest_78 : decode cX7_farthest 78 = .ok (.iload 5, 2) := by decide +kernel
theorem dX7_farthest_80 : decode cX7_farthest 80 = .ok (.istore_n 2, 1) := by decide +kernel
theorem dX7_farthest_81 : decode cX7_farthest 81 = .ok (.iload 6, 2) := by decide +kernel
theorem dX7_farthest_83 : decode cX7_farthest 83 = .ok (.istore_n 3, 1) := by decide +kernel
theorem dX7_farthest_84 : decode cX7_farthest 84 = .ok (.aload_n 0, 1) := by decide +kernel
theorem dX7_farthest_85 : decode cX7_farthest 85 = .ok (.getfield 36, 3) := by decide +kernel
theorem dX7_farthest_88 : decode cX7_farthest 88 = .ok (.iload 6, 2) := by decide +kernel
theorem dX7_farthest_90 : decode cX7_farthest 90 = .ok (.invokevirtual 199, 3) := by decide +kernel
theorem dX7_farthest_93 : decode cX7_farthest 93 = .ok (.istore 4, 2) := by decide +kernel
theorem dX7_farthest_95 : decode cX7_farthest 95 = .ok (.iinc 6 1, 3) := by decide +kernel
theorem dX7_farthest_98 : decode cX7_farthest 98 = .ok (.goto (-46), 3) := by decide +kernel
theorem dX7_farthest_101 : decode cX7_farthest 101 = .ok (.iinc 5 1, 3) := by decide +kernel
theorem dX7_farthest_104 : decode cX7_farthest 104 = .ok (.goto (-83), 3) := by decide +kernel
theorem dX7_farthest_107 : decode cX7_farthest 107 = .ok (.iload 4, 2) := by decide +kernel
theorem dX7_farthest_109 : decode cX7_farthest 109 = .ok (.ifCond .ne 8, 3) := by decide +kernel
theorem dX7_farthest_112 : decode cX7_farthest 112 = .ok (.bipush (-4), 2) := by decide +kernel
theorem dX7_farthest_114 : decode cX7_farthest 114 = .ok (.goto 11, 3) := by decide +kernel
theorem dX7_farthest_117 : decode cX7_farthest 117 = .ok (.iload_n 1, 1) := by decide +kernel
theorem dX7_farthest_118 : decode cX7_farthest 118 = .ok (.iload_n 2, 1) := by decide +kernel
theorem dX7_farthest_119 : decode cX7_farthest 119 = .ok (.iload_n 3, 1) := by decide +kernel
theorem dX7_farthest_120 : decode cX7_farthest 120 = .ok (.iload 4, 2) := by decide +kernel
theorem dX7_farthest_122 : decode cX7_farthest 122 = .ok (.invokestatic 223, 3) := by decide +kernel
theorem dX7_farthest_125 : decode cX7_farthest 125 = .ok (.ireturn, 1) := by decide +kernel
set_option maxRecDepth 20000 in
theorem ggX7_best_X3_isWhole : GoodIn wsX7_best wsX3_isWhole := goodIn_r _ [12, 13, 14, 15, 11, 16, 17, 18, 19, 20, 21, 22, 23, 24, 25, 26, 27, 28, 29, 30, 31, 32, 33, 34, 35, 36, 37, 156, 157, 158, 159, 160, 161] (by decide +kernel) (by decide +kernel)
set_option maxRecDepth 20000 in
theorem gX7_best_X3_isWhole : GoodIn wsX7_best (wsV RX7 130 RX3 yX3_isWhole wsX3_isWhole) := goodIn_app (goodIn_of _ (by decide +kernel)) ggX7_best_X3_isWhole
set_option maxRecDepth 20000 in
theorem ggX7_best_X1_find : GoodIn wsX7_best wsX1_find := goodIn_r _ [42, 43, 44, 45, 46, 47, 48, 49, 50, 51, 11, 52, 53, 28, 29, 30, 54, 55, 56, 57, 58, 59, 60, 61, 62, 63, 64, 65, 66, 67, 68, 69, 70, 71, 72, 73, 74, 75, 76, 77, 78, 79, 80, 81, 82, 21, 22, 83, 84, 85, 86, 27, 87, 88, 89, 90, 91, 92, 93, 94, 95, 96, 97, 98, 99, 17, 18, 19, 20, 100, 101, 102, 103, 104, 105, 106, 107, 108, 109, 110, 111, 112, 113, 114, 115, 116, 117, 118, 41, 119, 120, 121, 122, 123, 124, 125, 126, 127, 128, 129, 130, 131, 132, 133, 134, 135, 150, 151, 152, 153, 154, 155, 162, 163, 164, 165, 166, 156, 157, 158, 159, 160, 161] (by decide +kernel) (by decide +kernel)
set_option maxRecDepth 20000 in
theorem gX7_best_X1_find : GoodIn wsX7_best (wsV RX7 227 RX1 yX1_find wsX1_find) := goodIn_app (goodIn_of _ (by decide +kernel)) ggX7_best_X1_find
set_option maxRecDepth 20000 in
theorem ggX7_best_X7_choose : GoodIn wsX7_best wsX7_choose := goodIn_r _ [138] (by decide +kernel) (by decide +kernel)
set_option maxRecDepth 20000 in
theorem gX7_best_X7_choose : GoodIn wsX7_best (va_wsS RX7 223 yX7_choose wsX7_choose) := goodIn_app (goodIn_of _ (by decide +kernel)) ggX7_best_X7_choose
theorem dX7_best_0 : decode cX7_best 0 = .ok (.iload_n 1, 1) := by decide +kernel
theorem dX7_best_1 : decode cX7_best 1 = .ok (.ifCond .lt 8, 3) := by decide +kernel
theorem dX7_best_4 : decode cX7_best 4 = .ok (.iload_n 1, 1) := by decide +kernel
theorem dX7_best_5 : decode cX7_best 5 = .ok (.iconst 2, 1) := by decide +kernel
theorem dX7_best_6 : decode cX7_best 6 = .ok (.if_icmp .le 5, 3) := by decide +kernel
theorem dX7_best_9 : decode cX7_best 9 = .ok (.iconst (-1), 1) := by decide +kernel
theorem dX7_best_10 : decode cX7_best 10 = .ok (.ireturn, 1) := by decide +kernel
theorem dX7_best_11 : decode cX7_best 11 = .ok (.aload_n 0, 1) := by decide +kernel
theorem dX7_best_12 : decode cX7_best 12 = .ok (.getfield 10, 3) := by decide +kernel
theorem dX7_best_15 : decode cX7_best 15 = .ok (.invokevirtual 130, 3) := by decide +kernel
theorem dX7_best_18 : decode cX7_best 18 = .ok (.ifCond .ne 6, 3) := by decide +kernel
theorem dX7_best_21 : decode cX7_best 21 = .ok (.bipush (-2), 2) := by decide +kernel
theorem dX7_best_23 : decode cX7_best 23 = .ok (.ireturn, 1) := by decide +kernel
theorem dX7_best_24 : decode cX7_best 24 = .ok (.aload_n 0, 1) := by decide +kernel
theorem dX7_best_25 : decode cX7_best 25 = .ok (.getfield 63, 3) := by decide +kernel
theorem dX7_best_28 : decode cX7_best 28 = .ok (.aload_n 0, 1) := by decide +kernel
theorem dX7_best_29 : decode cX7_best 29 = .ok (.getfield 10, 3) := by decide +kernel
theorem dX7_best_32 : decode cX7_best 32 = .ok (.aload_n 0, 1) := by decide +kernel
theorem dX7_best_33 : decode cX7_best 33 = .ok (.getfield 40, 3) := by decide +kernel
theorem dX7_best_36 : decode cX7_best 36 = .ok (.aload_n 0, 1) := by decide +kernel
theorem dX7_best_37 : decode cX7_best 37 = .ok (.getfield 43, 3) := by decide +kernel
theorem dX7_best_40 : decode cX7_best 40 = .ok (.invokevirtual 227, 3) := by decide +kernel
theorem dX7_best_43 : decode cX7_best 43 = .ok (.iload_n 1, 1) := by decide +kernel
theorem dX7_best_44 : decode cX7_best 44 = .ok (.aload_n 0, 1) := by decide +kernel
theorem dX7_best_45 : decode cX7_best 45 = .ok (.getfield 63, 3) := by decide +kernel
theorem dX7_best_48 : decode cX7_best 48 = .ok (.getfield 231, 3) := by decide +kernel
theorem dX7_best_51 : decode cX7_best 51 = .ok (.aload_n 0, 1) := by decide +kernel
theorem dX7_best_52 : decode cX7_best 52 = .ok (.getfield 63, 3) := by decide +kernel
theorem dX7_best_55 : decode cX7_best 55 = .ok (.getfield 234, 3) := by decide +kernel
theorem dX7_best_58 : decode cX7_best 58 = .ok (.aload_n 0, 1) := by decide +kernel
theorem dX7_best_59 : decode cX7_best 59 = .ok (.getfield 63, 3) := by decide +kernel
theorem dX7_best_62 : decode cX7_best 62 = .ok (.getfield 144, 3) := by decide +kernel
theorem dX7_best_65 : decode cX7_best 65 = .ok (.invokestatic 223, 3) := by decide +kernel
theorem dX7_best_68 : decode cX7_best 68 = .ok (.ireturn, 1) := by decide +kernel
set_option maxRecDepth 20000 in
theorem ggX7_bestExit_X3_entryCell : GoodIn wsX7_bestExit wsX3_entryCell := goodIn_r _ [8, 9, 10, 11, 12, 94, 95, 96, 97, 98, 99] (by decide +kernel) (by decide +kernel)
set_option maxRecDepth 20000 in
theorem gX7_bestExit_X3_entryCell : GoodIn wsX7_bestExit (wsV RX7 157 RX3 yX3_entryCell wsX3_entryCell) := goodIn_app (goodIn_of _ (by decide +kernel)) ggX7_bestExit_X3_entryCell
set_option maxRecDepth 20000 in
theorem ggX7_bestExit_X6_findFrom : GoodIn wsX7_bestExit wsX6_findFrom := goodIn_r _ [17, 18, 19, 20, 21, 22, 23, 24, 25, 26, 27, 16, 28, 29, 30, 31, 10, 11, 12, 32, 33, 34, 35, 36, 37, 38, 39, 40, 7, 41, 42, 43, 44, 45, 46, 47, 48, 49, 50, 51, 52, 89, 90, 91, 92, 93, 94, 95, 96, 97, 98, 99] (by decide +kernel) (by decide +kernel)
set_option maxRecDepth 20000 in
theorem gX7_bestExit_X6_findFrom : GoodIn wsX7_bestExit (wsV RX7 98 RX6 yX6_findFrom wsX6_findFrom) := goodIn_app (goodIn_of _ (by decide +kernel)) ggX7_bestExit_X6_findFrom
set_option maxRecDepth 20000 in
theorem ggX7_bestExit_X3_toneSum : GoodIn wsX7_bestExit wsX3_toneSum := goodIn_r _ [56, 57, 58, 59, 60, 7, 61, 42, 43, 10, 11, 12, 94, 95, 96, 97, 98, 99] (by decide +kernel) (by decide +kernel)
set_option maxRecDepth 20000 in
theorem gX7_bestExit_X3_toneSum : GoodIn wsX7_bestExit (wsV RX7 187 RX3 yX3_toneSum wsX3_toneSum) := goodIn_app (goodIn_of _ (by decide +kernel)) ggX7_bestExit_X3_toneSum
set_option maxRecDepth 20000 in
theorem ggX7_bestExit_X3_cells : GoodIn wsX7_bestExit wsX3_cells := goodIn_r _ [61, 42, 43, 94, 95, 96, 97, 98, 99] (by decide +kernel) (by decide +kernel)
set_option maxRecDepth 20000 in
theorem gX7_bestExit_X3_cells : GoodIn wsX7_bestExit (wsV RX7 221 RX3 yX3_cells wsX3_cells) := goodIn_app (goodIn_of _ (by decide +kernel)) ggX7_bestExit_X3_cells
set_option maxRecDepth 20000 in
theorem ggX7_bestExit_X7_freeSide : GoodIn wsX7_bestExit wsX7_freeSide := goodIn_r _ [66, 2, 67, 39, 40, 7, 41, 42, 43, 68, 69, 70, 71, 9, 72, 10, 11, 12, 78, 79, 80, 81, 82, 83, 84, 85, 86, 87, 88, 94, 95, 96, 97, 98, 99] (by decide +kernel) (by decide +kernel)
set_option maxRecDepth 20000 in
theorem gX7_bestExit_X7_freeSide : GoodIn wsX7_bestExit (wsV RX7 237 RX7 yX7_freeSide wsX7_freeSide) := goodIn_app (goodIn_of _ (by decide +kernel)) ggX7_bestExit_X7_freeSide
set_option maxRecDepth 20000 in
theorem ggX7_bestExit_X6_reach : GoodIn wsX7_bestExit wsX6_reach := goodIn_r _ [52, 34, 35, 36, 16, 37, 18, 89, 90, 91, 92, 93] (by decide +kernel) (by decide +kernel)
set_option maxRecDepth 20000 in
theorem gX7_bestExit_X6_reach : GoodIn wsX7_bestExit (wsV RX7 102 RX6 yX6_reach wsX6_reach) := goodIn_app (goodIn_of _ (by decide +kernel)) ggX7_bestExit_X6_reach
set_option maxRecDepth 20000 in
theorem ggX7_bestExit_X7_at : GoodIn wsX7_bestExit wsX7_at := goodIn_r _ [12] (by decide +kernel) (by decide +kernel)
set_option maxRecDepth 20000 in
theorem gX7_bestExit_X7_at : GoodIn wsX7_bestExit (va_wsS RX7 79 yX7_at wsX7_at) := goodIn_app (goodIn_of _ (by decide +kernel)) ggX7_bestExit_X7_at
set_option maxRecDepth 20000 in
theorem ggX7_bestExit_X7_choose : GoodIn wsX7_bestExit wsX7_choose := goodIn_r _ [77] (by decide +kernel) (by decide +kernel)
set_option maxRecDepth 20000 in
theorem gX7_bestExit_X7_choose : GoodIn wsX7_bestExit (va_wsS RX7 223 yX7_choose wsX7_choose) := goodIn_app (goodIn_of _ (by decide +kernel)) ggX7_bestExit_X7_choose
theorem dX7_bestExit_0 : decode cX7_bestExit 0 = .ok (.iload_n 1, 1) := by decide +kernel
theorem dX7_bestExit_1 : decode cX7_bestExit 1 = .ok (.ifCond .lt 8, 3) := by decide +kernel
theorem dX7_bestExit_4 : decode cX7_bestExit 4 = .ok (.iload_n 1, 1) := by decide +kernel
theorem dX7_bestExit_5 : decode cX7_bestExit 5 = .ok (.iconst 2, 1) := by decide +kernel
theorem dX7_bestExit_6 : decode cX7_bestExit 6 = .ok (.if_icmp .le 5, 3) := by decide +kernel
theorem dX7_bestExit_9 : decode cX7_bestExit 9 = .ok (.iconst (-1), 1) := by decide +kernel
theorem dX7_bestExit_10 : decode cX7_bestExit 10 = .ok (.ireturn, 1) := by decide +kernel
theorem dX7_bestExit_11 : decode cX7_bestExit 11 = .ok (.aload_n 0, 1) := by decide +kernel
theorem dX7_bestExit_12 : decode cX7_bestExit 12 = .ok (.getfield 40, 3) := by decide +kernel
theorem dX7_bestExit_15 : decode cX7_bestExit 15 = .ok (.aload_n 0, 1) := by decide +kernel
theorem dX7_bestExit_16 : decode cX7_bestExit 16 = .ok (.getfield 10, 3) := by decide +kernel
theorem dX7_bestExit_19 : decode cX7_bestExit 19 = .ok (.aload_n 0, 1) := by decide +kernel
theorem dX7_bestExit_20 : decode cX7_bestExit 20 = .ok (.getfield 10, 3) := by decide +kernel
theorem dX7_bestExit_23 : decode cX7_bestExit 23 = .ok (.invokevirtual 157, 3) := by decide +kernel
theorem dX7_bestExit_26 : decode cX7_bestExit 26 = .ok (.invokevirtual 98, 3) := by decide +kernel
theorem dX7_bestExit_29 : decode cX7_bestExit 29 = .ok (.aload_n 0, 1) := by decide +kernel
theorem dX7_bestExit_30 : decode cX7_bestExit 30 = .ok (.getfield 10, 3) := by decide +kernel
theorem dX7_bestExit_33 : decode cX7_bestExit 33 = .ok (.invokevirtual 187, 3) := by decide +kernel
theorem dX7_bestExit_36 : decode cX7_bestExit 36 = .ok (.istore_n 2, 1) := by decide +kernel
theorem dX7_bestExit_37 : decode cX7_bestExit 37 = .ok (.iconst (-1), 1) := by decide +kernel
theorem dX7_bestExit_38 : decode cX7_bestExit 38 = .ok (.istore_n 3, 1) := by decide +kernel
theorem dX7_bestExit_39 : decode cX7_bestExit 39 = .ok (.iconst (-1), 1) := by decide +kernel
theorem dX7_bestExit_40 : decode cX7_bestExit 40 = .ok (.istore 4, 2) := by decide +kernel
theorem dX7_bestExit_42 : decode cX7_bestExit 42 = .ok (.iconst 0, 1) := by decide +kernel
theorem dX7_bestExit_43 : decode cX7_bestExit 43 = .ok (.istore 5, 2) := by decide +kernel
theorem dX7_bestExit_45 : decode cX7_bestExit 45 = .ok (.iconst 0, 1) := by decide +kernel
theorem dX7_bestExit_46 : decode cX7_bestExit 46 = .ok (.istore 6, 2) := by decide +kernel
theorem dX7_bestExit_48 : decode cX7_bestExit 48 = .ok (.iload 6, 2) := by decide +kernel
theorem dX7_bestExit_50 : decode cX7_bestExit 50 = .ok (.aload_n 0, 1) := by decide +kernel
theorem dX7_bestExit_51 : decode cX7_bestExit 51 = .ok (.getfield 10, 3) := by decide +kernel
theorem dX7_bestExit_54 : decode cX7_bestExit 54 = .ok (.invokevirtual 221, 3) := by decide +kernel
theorem dX7_bestExit_57 : decode cX7_bestExit 57 = .ok (.if_icmp .ge 74, 3) := by decide +kernel
theorem dX7_bestExit_60 : decode cX7_bestExit 60 = .ok (.aload_n 0, 1) := by decide +kernel
theorem dX7_bestExit_61 : decode cX7_bestExit 61 = .ok (.iload 6, 2) := by decide +kernel
theorem dX7_bestExit_63 : decode cX7_bestExit 63 = .ok (.invokevirtual 237, 3) := by decide +kernel
theorem dX7_bestExit_66 : decode cX7_bestExit 66 = .ok (.istore 7, 2) := by decide +kernel
theorem dX7_bestExit_68 : decode cX7_bestExit 68 = .ok (.iload 7, 2) := by decide +kernel
theorem dX7_bestExit_70 : decode cX7_bestExit 70 = .ok (.iconst (-1), 1) := by decide +kernel
theorem dX7_bestExit_71 : decode cX7_bestExit 71 = .ok (.if_icmp .eq 54, 3) := by decide +kernel
theorem dX7_bestExit_74 : decode cX7_bestExit 74 = .ok (.aload_n 0, 1) := by decide +kernel
theorem dX7_bestExit_75 : decode cX7_bestExit 75 = .ok (.getfield 40, 3) := by decide +kernel
theorem dX7_bestExit_78 : decode cX7_bestExit 78 = .ok (.iload 6, 2) := by decide +kernel
theorem dX7_bestExit_80 : decode cX7_bestExit 80 = .ok (.invokevirtual 102, 3) := by decide +kernel
theorem dX7_bestExit_83 : decode cX7_bestExit 83 = .ok (.ifCond .eq 42, 3) := by decide +kernel
theorem dX7_bestExit_86 : decode cX7_bestExit 86 = .ok (.iload_n 2, 1) := by decide +kernel
theorem dX7_bestExit_87 : decode cX7_bestExit 87 = .ok (.aload_n 0, 1) := by decide +kernel
theorem dX7_bestExit_88 : decode cX7_bestExit 88 = .ok (.getfield 40, 3) := by decide +kernel
theorem dX7_bestExit_91 : decode cX7_bestExit 91 = .ok (.getfield 240, 3) := by decide +kernel
theorem dX7_bestExit_94 : decode cX7_bestExit 94 = .ok (.iload 6, 2) := by decide +kernel
theorem dX7_bestExit_96 : decode cX7_bestExit 96 = .ok (.invokestatic 79, 3) := by decide +kernel
theorem dX7_bestExit_99 : decode cX7_bestExit 99 = .ok (.iadd, 1) := by decide +kernel
theorem dX7_bestExit_100 : decode cX7_bestExit 100 = .ok (.istore 8, 2) := by decide +kernel
theorem dX7_bestExit_102 : decode cX7_bestExit 102 = .ok (.iload_n 3, 1) := by decide +kernel
theorem dX7_bestExit_103 : decode cX7_bestExit 103 = .ok (.iconst (-1), 1) := by decide +kernel
theorem dX7_bestExit_104 : decode cX7_bestExit 104 = .ok (.if_icmp .eq 10, 3) := by decide +kernel
theorem dX7_bestExit_107 : decode cX7_bestExit 107 = .ok (.iload 8, 2) := by decide +kernel
theorem dX7_bestExit_109 : decode cX7_bestExit 109 = .ok (.iload 5, 2) := by decide +kernel
theorem dX7_bestExit_111 : decode cX7_bestExit 111 = .ok (.if_icmp .ge 14, 3) := by decide +kernel
theorem dX7_bestExit_114 : decode cX7_bestExit 114 = .ok (.iload 6, 2) := by decide +kernel
theorem dX7_bestExit_116 : decode cX7_bestExit 116 = .ok (.istore_n 3, 1) := by decide +kernel
theorem dX7_bestExit_117 : decode cX7_bestExit 117 = .ok (.iload 7, 2) := by decide +kernel
theorem dX7_bestExit_119 : decode cX7_bestExit 119 = .ok (.istore 4, 2) := by decide +kernel
theorem dX7_bestExit_121 : decode cX7_bestExit 121 = .ok (.iload 8, 2) := by decide +kernel
theorem dX7_bestExit_123 : decode cX7_bestExit 123 = .ok (.istore 5, 2) := by decide +kernel
theorem dX7_bestExit_125 : decode cX7_bestExit 125 = .ok (.iinc 6 1, 3) := by decide +kernel
theorem dX7_bestExit_128 : decode cX7_bestExit 128 = .ok (.goto (-80), 3) := by decide +kernel
theorem dX7_bestExit_131 : decode cX7_bestExit 131 = .ok (.iload_n 3, 1) := by decide +kernel
theorem dX7_bestExit_132 : decode cX7_bestExit 132 = .ok (.iconst (-1), 1) := by decide +kernel
theorem dX7_bestExit_133 : decode cX7_bestExit 133 = .ok (.if_icmp .ne 8, 3) := by decide +kernel
theorem dX7_bestExit_136 : decode cX7_bestExit 136 = .ok (.bipush (-4), 2) := by decide +kernel
theorem dX7_bestExit_138 : decode cX7_bestExit 138 = .ok (.goto 12, 3) := by decide +kernel
theorem dX7_bestExit_141 : decode cX7_bestExit 141 = .ok (.iload_n 1, 1) := by decide +kernel
theorem dX7_bestExit_142 : decode cX7_bestExit 142 = .ok (.iload_n 3, 1) := by decide +kernel
theorem dX7_bestExit_143 : decode cX7_bestExit 143 = .ok (.iload 4, 2) := by decide +kernel
theorem dX7_bestExit_145 : decode cX7_bestExit 145 = .ok (.iload 5, 2) := by decide +kernel
theorem dX7_bestExit_147 : decode cX7_bestExit 147 = .ok (.invokestatic 223, 3) := by decide +kernel
theorem dX7_bestExit_150 : decode cX7_bestExit 150 = .ok (.ireturn, 1) := by decide +kernel
set_option maxRecDepth 20000 in
theorem ggX7_keep_X3_copyFrom : GoodIn wsX7_keep wsX3_copyFrom := goodIn_r _ [8, 9, 10, 11, 12, 13, 14, 15, 16, 7, 17, 47, 48, 49, 50, 51, 52] (by decide +kernel) (by decide +kernel)
set_option maxRecDepth 20000 in
theorem gX7_keep_X3_copyFrom : GoodIn wsX7_keep (wsV RX7 243 RX3 yX3_copyFrom wsX3_copyFrom) := goodIn_app (goodIn_of _ (by decide +kernel)) ggX7_keep_X3_copyFrom
set_option maxRecDepth 20000 in
theorem ggX7_keep_X3_passageCount : GoodIn wsX7_keep wsX3_passageCount := goodIn_r _ [21, 12, 22, 23, 24, 7, 25, 9, 10, 26, 27, 28, 29, 30, 31, 32, 33, 34, 35, 47, 48, 49, 50, 51, 52] (by decide +kernel) (by decide +kernel)
set_option maxRecDepth 20000 in
theorem gX7_keep_X3_passageCount : GoodIn wsX7_keep (wsV RX7 181 RX3 yX3_passageCount wsX3_passageCount) := goodIn_app (goodIn_of _ (by decide +kernel)) ggX7_keep_X3_passageCount
theorem dX7_keep_0 : decode cX7_keep 0 = .ok (.aload_n 0, 1) := by decide +kernel
theorem dX7_keep_1 : decode cX7_keep 1 = .ok (.getfield 16, 3) := by decide +kernel
theorem dX7_keep_4 : decode cX7_keep 4 = .ok (.aload_n 0, 1) := by decide +kernel
theorem dX7_keep_5 : decode cX7_keep 5 = .ok (.getfield 10, 3) := by decide +kernel
theorem dX7_keep_8 : decode cX7_keep 8 = .ok (.invokevirtual 243, 3) := by decide +kernel
theorem dX7_keep_11 : decode cX7_keep 11 = .ok (.aload_n 0, 1) := by decide +kernel
theorem dX7_keep_12 : decode cX7_keep 12 = .ok (.iconst 1, 1) := by decide +kernel
theorem dX7_keep_13 : decode cX7_keep 13 = .ok (.putfield 67, 3) := by decide +kernel
theorem dX7_keep_16 : decode cX7_keep 16 = .ok (.aload_n 0, 1) := by decide +kernel
theorem dX7_keep_17 : decode cX7_keep 17 = .ok (.getfield 10, 3) := by decide +kernel
theorem dX7_keep_20 : decode cX7_keep 20 = .ok (.invokevirtual 181, 3) := by decide +kernel
theorem dX7_keep_23 : decode cX7_keep 23 = .ok (.ireturn, 1) := by decide +kernel
set_option maxRecDepth 20000 in
theorem ggX7_restore_X2_push : GoodIn wsX7_restore wsX2_push := goodIn_r _ [9, 10, 11, 12, 13, 8, 14, 15, 16, 17, 18, 19, 20, 21, 22, 23, 24, 25, 26, 27, 28, 29, 30, 31, 32, 33, 64, 65, 66, 67, 68, 69, 70, 71] (by decide +kernel) (by decide +kernel)
set_option maxRecDepth 20000 in
theorem gX7_restore_X2_push : GoodIn wsX7_restore (wsV RX7 83 RX2 yX2_push wsX2_push) := goodIn_app (goodIn_of _ (by decide +kernel)) ggX7_restore_X2_push
set_option maxRecDepth 20000 in
theorem ggX7_restore_X3_copyFrom : GoodIn wsX7_restore wsX3_copyFrom := goodIn_r _ [24, 25, 26, 27, 28, 29, 30, 31, 32, 23, 33, 66, 67, 68, 69, 70, 71] (by decide +kernel) (by decide +kernel)
set_option maxRecDepth 20000 in
theorem gX7_restore_X3_copyFrom : GoodIn wsX7_restore (wsV RX7 243 RX3 yX3_copyFrom wsX3_copyFrom) := goodIn_app (goodIn_of _ (by decide +kernel)) ggX7_restore_X3_copyFrom
set_option maxRecDepth 20000 in
theorem ggX7_restore_X3_passageCount : GoodIn wsX7_restore wsX3_passageCount := goodIn_r _ [38, 28, 39, 40, 41, 23, 42, 25, 26, 43, 44, 45, 46, 47, 48, 49, 50, 51, 52, 66, 67, 68, 69, 70, 71] (by decide +kernel) (by decide +kernel)
set_option maxRecDepth 20000 in
theorem gX7_restore_X3_passageCount : GoodIn wsX7_restore (wsV RX7 181 RX3 yX3_passageCount wsX3_passageCount) := goodIn_app (goodIn_of _ (by decide +kernel)) ggX7_restore_X3_passageCount
theorem dX7_restore_0 : decode cX7_restore 0 = .ok (.aload_n 0, 1) := by decide +kernel
theorem dX7_restore_1 : decode cX7_restore 1 = .ok (.getfield 67, 3) := by decide +kernel
theorem dX7_restore_4 : decode cX7_restore 4 = .ok (.ifCond .ne 6, 3) := by decide +kernel
theorem dX7_restore_7 : decode cX7_restore 7 = .ok (.bipush (-2), 2) := by decide +kernel
theorem dX7_restore_9 : decode cX7_restore 9 = .ok (.ireturn, 1) := by decide +kernel
theorem dX7_restore_10 : decode cX7_restore 10 = .ok (.aload_n 0, 1) := by decide +kernel
theorem dX7_restore_11 : decode cX7_restore 11 = .ok (.getfield 22, 3) := by decide +kernel
theorem dX7_restore_14 : decode cX7_restore 14 = .ok (.aload_n 0, 1) := by decide +kernel
theorem dX7_restore_15 : decode cX7_restore 15 = .ok (.getfield 10, 3) := by decide +kernel
theorem dX7_restore_18 : decode cX7_restore 18 = .ok (.invokevirtual 83, 3) := by decide +kernel
theorem dX7_restore_21 : decode cX7_restore 21 = .ok (.aload_n 0, 1) := by decide +kernel
theorem dX7_restore_22 : decode cX7_restore 22 = .ok (.getfield 10, 3) := by decide +kernel
theorem dX7_restore_25 : decode cX7_restore 25 = .ok (.aload_n 0, 1) := by decide +kernel
theorem dX7_restore_26 : decode cX7_restore 26 = .ok (.getfield 16, 3) := by decide +kernel
theorem dX7_restore_29 : decode cX7_restore 29 = .ok (.invokevirtual 243, 3) := by decide +kernel
theorem dX7_restore_32 : decode cX7_restore 32 = .ok (.aload_n 0, 1) := by decide +kernel
theorem dX7_restore_33 : decode cX7_restore 33 = .ok (.getfield 10, 3) := by decide +kernel
theorem dX7_restore_36 : decode cX7_restore 36 = .ok (.invokevirtual 181, 3) := by decide +kernel
theorem dX7_restore_39 : decode cX7_restore 39 = .ok (.ireturn, 1) := by decide +kernel
set_option maxRecDepth 20000 in
theorem ggX7_undo_X2_pop : GoodIn wsX7_undo wsX2_pop := goodIn_r _ [8, 9, 10, 11, 12, 7, 13, 14, 15, 16, 17, 18, 19, 20, 21, 22, 23, 24, 25, 26, 27, 28, 40, 41, 42, 43, 44, 45, 46, 47] (by decide +kernel) (by decide +kernel)
set_option maxRecDepth 20000 in
theorem gX7_undo_X2_pop : GoodIn wsX7_undo (wsV RX7 246 RX2 yX2_pop wsX2_pop) := goodIn_app (goodIn_of _ (by decide +kernel)) ggX7_undo_X2_pop
theorem dX7_undo_0 : decode cX7_undo 0 = .ok (.aload_n 0, 1) := by decide +kernel
theorem dX7_undo_1 : decode cX7_undo 1 = .ok (.getfield 22, 3) := by decide +kernel
theorem dX7_undo_4 : decode cX7_undo 4 = .ok (.aload_n 0, 1) := by decide +kernel
theorem dX7_undo_5 : decode cX7_undo 5 = .ok (.getfield 10, 3) := by decide +kernel
theorem dX7_undo_8 : decode cX7_undo 8 = .ok (.invokevirtual 246, 3) := by decide +kernel
theorem dX7_undo_11 : decode cX7_undo 11 = .ok (.ifCond .ne 6, 3) := by decide +kernel
theorem dX7_undo_14 : decode cX7_undo 14 = .ok (.bipush (-2), 2) := by decide +kernel
theorem dX7_undo_16 : decode cX7_undo 16 = .ok (.ireturn, 1) := by decide +kernel
theorem dX7_undo_17 : decode cX7_undo 17 = .ok (.aload_n 0, 1) := by decide +kernel
theorem dX7_undo_18 : decode cX7_undo 18 = .ok (.getfield 22, 3) := by decide +kernel
theorem dX7_undo_21 : decode cX7_undo 21 = .ok (.getfield 190, 3) := by decide +kernel
theorem dX7_undo_24 : decode cX7_undo 24 = .ok (.ireturn, 1) := by decide +kernel
set_option maxRecDepth 20000 in
theorem ggX7_type_X7_put : GoodIn wsX7_type wsX7_put := goodIn_r _ [7] (by decide +kernel) (by decide +kernel)
set_option maxRecDepth 20000 in
theorem gX7_type_X7_put : GoodIn wsX7_type (va_wsS RX7 87 yX7_put wsX7_put) := goodIn_app (goodIn_of _ (by decide +kernel)) ggX7_type_X7_put
theorem dX7_type_0 : decode cX7_type 0 = .ok (.iload_n 1, 1) := by decide +kernel
theorem dX7_type_1 : decode cX7_type 1 = .ok (.bipush 32, 2) := by decide +kernel
theorem dX7_type_3 : decode cX7_type 3 = .ok (.if_icmp .lt 9, 3) := by decide +kernel
theorem dX7_type_6 : decode cX7_type 6 = .ok (.iload_n 1, 1) := by decide +kernel
theorem dX7_type_7 : decode cX7_type 7 = .ok (.bipush 126, 2) := by decide +kernel
theorem dX7_type_9 : decode cX7_type 9 = .ok (.if_icmp .le 5, 3) := by decide +kernel
theorem dX7_type_12 : decode cX7_type 12 = .ok (.iconst (-1), 1) := by decide +kernel
theorem dX7_type_13 : decode cX7_type 13 = .ok (.ireturn, 1) := by decide +kernel
theorem dX7_type_14 : decode cX7_type 14 = .ok (.aload_n 0, 1) := by decide +kernel
theorem dX7_type_15 : decode cX7_type 15 = .ok (.getfield 29, 3) := by decide +kernel
theorem dX7_type_18 : decode cX7_type 18 = .ok (.getfield 193, 3) := by decide +kernel
theorem dX7_type_21 : decode cX7_type 21 = .ok (.bipush 60, 2) := by decide +kernel
theorem dX7_type_23 : decode cX7_type 23 = .ok (.if_icmp .lt 6, 3) := by decide +kernel
theorem dX7_type_26 : decode cX7_type 26 = .ok (.bipush (-3), 2) := by decide +kernel
theorem dX7_type_28 : decode cX7_type 28 = .ok (.ireturn, 1) := by decide +kernel
theorem dX7_type_29 : decode cX7_type 29 = .ok (.aload_n 0, 1) := by decide +kernel
theorem dX7_type_30 : decode cX7_type 30 = .ok (.getfield 29, 3) := by decide +kernel
theorem dX7_type_33 : decode cX7_type 33 = .ok (.getfield 250, 3) := by decide +kernel
theorem dX7_type_36 : decode cX7_type 36 = .ok (.aload_n 0, 1) := by decide +kernel
theorem dX7_type_37 : decode cX7_type 37 = .ok (.getfield 29, 3) := by decide +kernel
theorem dX7_type_40 : decode cX7_type 40 = .ok (.getfield 193, 3) := by decide +kernel
theorem dX7_type_43 : decode cX7_type 43 = .ok (.iload_n 1, 1) := by decide +kernel
theorem dX7_type_44 : decode cX7_type 44 = .ok (.invokestatic 87, 3) := by decide +kernel
theorem dX7_type_47 : decode cX7_type 47 = .ok (.aload_n 0, 1) := by decide +kernel
theorem dX7_type_48 : decode cX7_type 48 = .ok (.getfield 29, 3) := by decide +kernel
theorem dX7_type_51 : decode cX7_type 51 = .ok (.dup, 1) := by decide +kernel
theorem dX7_type_52 : decode cX7_type 52 = .ok (.getfield 193, 3) := by decide +kernel
theorem dX7_type_55 : decode cX7_type 55 = .ok (.iconst 1, 1) := by decide +kernel
theorem dX7_type_56 : decode cX7_type 56 = .ok (.iadd, 1) := by decide +kernel
theorem dX7_type_57 : decode cX7_type 57 = .ok (.putfield 193, 3) := by decide +kernel
theorem dX7_type_60 : decode cX7_type 60 = .ok (.aload_n 0, 1) := by decide +kernel
theorem dX7_type_61 : decode cX7_type 61 = .ok (.getfield 29, 3) := by decide +kernel
theorem dX7_type_64 : decode cX7_type 64 = .ok (.getfield 193, 3) := by decide +kernel
theorem dX7_type_67 : decode cX7_type 67 = .ok (.ireturn, 1) := by decide +kernel
theorem dX7_clearText_0 : decode cX7_clearText 0 = .ok (.aload_n 0, 1) := by decide +kernel
theorem dX7_clearText_1 : decode cX7_clearText 1 = .ok (.getfield 29, 3) := by decide +kernel
theorem dX7_clearText_4 : decode cX7_clearText 4 = .ok (.getfield 193, 3) := by decide +kernel
theorem dX7_clearText_7 : decode cX7_clearText 7 = .ok (.istore_n 1, 1) := by decide +kernel
theorem dX7_clearText_8 : decode cX7_clearText 8 = .ok (.aload_n 0, 1) := by decide +kernel
theorem dX7_clearText_9 : decode cX7_clearText 9 = .ok (.getfield 29, 3) := by decide +kernel
theorem dX7_clearText_12 : decode cX7_clearText 12 = .ok (.iconst 0, 1) := by decide +kernel
theorem dX7_clearText_13 : decode cX7_clearText 13 = .ok (.putfield 193, 3) := by decide +kernel
theorem dX7_clearText_16 : decode cX7_clearText 16 = .ok (.iload_n 1, 1) := by decide +kernel
theorem dX7_clearText_17 : decode cX7_clearText 17 = .ok (.ireturn, 1) := by decide +kernel
set_option maxRecDepth 20000 in
theorem ggX7_fault_X4_look : GoodIn wsX7_fault wsX4_look := goodIn_r _ [8, 9, 10, 11, 12, 13, 14, 15, 16, 17, 18, 19, 20, 21, 7, 22, 23, 24, 25, 26, 27, 28, 29, 30, 31, 32, 33, 34, 35, 36, 37, 38, 39, 40, 41, 42, 54, 55, 56, 57, 58, 59, 60] (by decide +kernel) (by decide +kernel)
set_option maxRecDepth 20000 in
theorem gX7_fault_X4_look : GoodIn wsX7_fault (wsV RX7 253 RX4 yX4_look wsX4_look) := goodIn_app (goodIn_of _ (by decide +kernel)) ggX7_fault_X4_look
theorem dX7_fault_0 : decode cX7_fault 0 = .ok (.iload_n 1, 1) := by decide +kernel
theorem dX7_fault_1 : decode cX7_fault 1 = .ok (.ifCond .lt 8, 3) := by decide +kernel
theorem dX7_fault_4 : decode cX7_fault 4 = .ok (.iload_n 1, 1) := by decide +kernel
theorem dX7_fault_5 : decode cX7_fault 5 = .ok (.iconst 1, 1) := by decide +kernel
theorem dX7_fault_6 : decode cX7_fault 6 = .ok (.if_icmp .le 5, 3) := by decide +kernel
theorem dX7_fault_9 : decode cX7_fault 9 = .ok (.iconst (-1), 1) := by decide +kernel
theorem dX7_fault_10 : decode cX7_fault 10 = .ok (.ireturn, 1) := by decide +kernel
theorem dX7_fault_11 : decode cX7_fault 11 = .ok (.aload_n 0, 1) := by decide +kernel
theorem dX7_fault_12 : decode cX7_fault 12 = .ok (.getfield 29, 3) := by decide +kernel
theorem dX7_fault_15 : decode cX7_fault 15 = .ok (.invokevirtual 253, 3) := by decide +kernel
theorem dX7_fault_18 : decode cX7_fault 18 = .ok (.aload_n 0, 1) := by decide +kernel
theorem dX7_fault_19 : decode cX7_fault 19 = .ok (.getfield 29, 3) := by decide +kernel
theorem dX7_fault_22 : decode cX7_fault 22 = .ok (.getfield 256, 3) := by decide +kernel
theorem dX7_fault_25 : decode cX7_fault 25 = .ok (.ifCond .ne 6, 3) := by decide +kernel
theorem dX7_fault_28 : decode cX7_fault 28 = .ok (.bipush (-4), 2) := by decide +kernel
theorem dX7_fault_30 : decode cX7_fault 30 = .ok (.ireturn, 1) := by decide +kernel
theorem dX7_fault_31 : decode cX7_fault 31 = .ok (.iload_n 1, 1) := by decide +kernel
theorem dX7_fault_32 : decode cX7_fault 32 = .ok (.ifCond .ne 13, 3) := by decide +kernel
theorem dX7_fault_35 : decode cX7_fault 35 = .ok (.aload_n 0, 1) := by decide +kernel
theorem dX7_fault_36 : decode cX7_fault 36 = .ok (.getfield 29, 3) := by decide +kernel
theorem dX7_fault_39 : decode cX7_fault 39 = .ok (.getfield 259, 3) := by decide +kernel
theorem dX7_fault_42 : decode cX7_fault 42 = .ok (.goto 10, 3) := by decide +kernel
theorem dX7_fault_45 : decode cX7_fault 45 = .ok (.aload_n 0, 1) := by decide +kernel
theorem dX7_fault_46 : decode cX7_fault 46 = .ok (.getfield 29, 3) := by decide +kernel
theorem dX7_fault_49 : decode cX7_fault 49 = .ok (.getfield 256, 3) := by decide +kernel
theorem dX7_fault_52 : decode cX7_fault 52 = .ok (.ireturn, 1) := by decide +kernel
set_option maxRecDepth 20000 in
theorem ggX7_read_X4_look : GoodIn wsX7_read wsX4_look := goodIn_r _ [9, 10, 11, 12, 13, 14, 15, 16, 17, 18, 19, 20, 21, 22, 8, 23, 24, 25, 26, 27, 28, 29, 30, 31, 32, 33, 34, 35, 36, 37, 38, 39, 40, 41, 42, 43, 104, 105, 106, 107, 108, 109, 110] (by decide +kernel) (by decide +kernel)
set_option maxRecDepth 20000 in
theorem gX7_read_X4_look : GoodIn wsX7_read (wsV RX7 253 RX4 yX4_look wsX4_look) := goodIn_app (goodIn_of _ (by decide +kernel)) ggX7_read_X4_look
set_option maxRecDepth 20000 in
theorem ggX7_read_X2_push : GoodIn wsX7_read wsX2_push := goodIn_r _ [48, 49, 50, 51, 52, 47, 53, 54, 55, 56, 57, 58, 59, 60, 61, 62, 63, 64, 65, 66, 67, 68, 69, 70, 71, 72, 111, 112, 113, 114, 115, 116, 117, 118] (by decide +kernel) (by decide +kernel)
set_option maxRecDepth 20000 in
theorem gX7_read_X2_push : GoodIn wsX7_read (wsV RX7 83 RX2 yX2_push wsX2_push) := goodIn_app (goodIn_of _ (by decide +kernel)) ggX7_read_X2_push
set_option maxRecDepth 20000 in
theorem ggX7_read_X4_paint : GoodIn wsX7_read wsX4_paint := goodIn_r _ [76, 12, 13, 15, 16, 77, 78, 79, 80, 62, 81, 64, 65, 66, 67, 68, 69, 82, 83, 84, 85, 86, 18, 87, 88, 89, 90, 91, 17, 19, 104, 105, 106, 107, 108, 109, 110, 113, 114, 115, 116, 117, 118] (by decide +kernel) (by decide +kernel)
set_option maxRecDepth 20000 in
theorem gX7_read_X4_paint : GoodIn wsX7_read (wsV RX7 262 RX4 yX4_paint wsX4_paint) := goodIn_app (goodIn_of _ (by decide +kernel)) ggX7_read_X4_paint
set_option maxRecDepth 20000 in
theorem ggX7_read_X3_cells : GoodIn wsX7_read wsX3_cells := goodIn_r _ [91, 64, 65, 113, 114, 115, 116, 117, 118] (by decide +kernel) (by decide +kernel)
set_option maxRecDepth 20000 in
theorem gX7_read_X3_cells : GoodIn wsX7_read (wsV RX7 221 RX3 yX3_cells wsX3_cells) := goodIn_app (goodIn_of _ (by decide +kernel)) ggX7_read_X3_cells
theorem dX7_read_0 : decode cX7_read 0 = .ok (.aload_n 0, 1) := by decide +kernel
theorem dX7_read_1 : decode cX7_read 1 = .ok (.getfield 29, 3) := by decide +kernel
theorem dX7_read_4 : decode cX7_read 4 = .ok (.invokevirtual 253, 3) := by decide +kernel
theorem dX7_read_7 : decode cX7_read 7 = .ok (.aload_n 0, 1) := by decide +kernel
theorem dX7_read_8 : decode cX7_read 8 = .ok (.getfield 29, 3) := by decide +kernel
theorem dX7_read_11 : decode cX7_read 11 = .ok (.getfield 256, 3) := by decide +kernel
theorem dX7_read_14 : decode cX7_read 14 = .ok (.ifCond .eq 6, 3) := by decide +kernel
theorem dX7_read_17 : decode cX7_read 17 = .ok (.bipush (-2), 2) := by decide +kernel
theorem dX7_read_19 : decode cX7_read 19 = .ok (.ireturn, 1) := by decide +kernel
theorem dX7_read_20 : decode cX7_read 20 = .ok (.aload_n 0, 1) := by decide +kernel
theorem dX7_read_21 : decode cX7_read 21 = .ok (.getfield 22, 3) := by decide +kernel
theorem dX7_read_24 : decode cX7_read 24 = .ok (.aload_n 0, 1) := by decide +kernel
theorem dX7_read_25 : decode cX7_read 25 = .ok (.getfield 10, 3) := by decide +kernel
theorem dX7_read_28 : decode cX7_read 28 = .ok (.invokevirtual 83, 3) := by decide +kernel
theorem dX7_read_31 : decode cX7_read 31 = .ok (.aload_n 0, 1) := by decide +kernel
theorem dX7_read_32 : decode cX7_read 32 = .ok (.getfield 29, 3) := by decide +kernel
theorem dX7_read_35 : decode cX7_read 35 = .ok (.aload_n 0, 1) := by decide +kernel
theorem dX7_read_36 : decode cX7_read 36 = .ok (.getfield 10, 3) := by decide +kernel
theorem dX7_read_39 : decode cX7_read 39 = .ok (.invokevirtual 262, 3) := by decide +kernel
theorem dX7_read_42 : decode cX7_read 42 = .ok (.aload_n 0, 1) := by decide +kernel
theorem dX7_read_43 : decode cX7_read 43 = .ok (.getfield 10, 3) := by decide +kernel
theorem dX7_read_46 : decode cX7_read 46 = .ok (.invokevirtual 221, 3) := by decide +kernel
theorem dX7_read_49 : decode cX7_read 49 = .ok (.ireturn, 1) := by decide +kernel
theorem dX7_isDirection_0 : decode cX7_isDirection 0 = .ok (.iload_n 0, 1) := by decide +kernel
theorem dX7_isDirection_1 : decode cX7_isDirection 1 = .ok (.ifCond .lt 12, 3) := by decide +kernel
theorem dX7_isDirection_4 : decode cX7_isDirection 4 = .ok (.iload_n 0, 1) := by decide +kernel
theorem dX7_isDirection_5 : decode cX7_isDirection 5 = .ok (.iconst 4, 1) := by decide +kernel
theorem dX7_isDirection_6 : decode cX7_isDirection 6 = .ok (.if_icmp .ge 7, 3) := by decide +kernel
theorem dX7_isDirection_9 : decode cX7_isDirection 9 = .ok (.iconst 1, 1) := by decide +kernel
theorem dX7_isDirection_10 : decode cX7_isDirection 10 = .ok (.goto 4, 3) := by decide +kernel
theorem dX7_isDirection_13 : decode cX7_isDirection 13 = .ok (.iconst 0, 1) := by decide +kernel
theorem dX7_isDirection_14 : decode cX7_isDirection 14 = .ok (.ireturn, 1) := by decide +kernel
theorem dX7_isDoor_0 : decode cX7_isDoor 0 = .ok (.iload_n 0, 1) := by decide +kernel
theorem dX7_isDoor_1 : decode cX7_isDoor 1 = .ok (.ifCond .lt 12, 3) := by decide +kernel
theorem dX7_isDoor_4 : decode cX7_isDoor 4 = .ok (.iload_n 0, 1) := by decide +kernel
theorem dX7_isDoor_5 : decode cX7_isDoor 5 = .ok (.iconst 2, 1) := by decide +kernel
theorem dX7_isDoor_6 : decode cX7_isDoor 6 = .ok (.if_icmp .ge 7, 3) := by decide +kernel
theorem dX7_isDoor_9 : decode cX7_isDoor 9 = .ok (.iconst 1, 1) := by decide +kernel
theorem dX7_isDoor_10 : decode cX7_isDoor 10 = .ok (.goto 4, 3) := by decide +kernel
theorem dX7_isDoor_13 : decode cX7_isDoor 13 = .ok (.iconst 0, 1) := by decide +kernel
theorem dX7_isDoor_14 : decode cX7_isDoor 14 = .ok (.ireturn, 1) := by decide +kernel
theorem dX7_choose_0 : decode cX7_choose 0 = .ok (.iload_n 0, 1) := by decide +kernel
theorem dX7_choose_1 : decode cX7_choose 1 = .ok (.ifCond .ne 5, 3) := by decide +kernel
theorem dX7_choose_4 : decode cX7_choose 4 = .ok (.iload_n 1, 1) := by decide +kernel
theorem dX7_choose_5 : decode cX7_choose 5 = .ok (.ireturn, 1) := by decide +kernel
theorem dX7_choose_6 : decode cX7_choose 6 = .ok (.iload_n 0, 1) := by decide +kernel
theorem dX7_choose_7 : decode cX7_choose 7 = .ok (.iconst 1, 1) := by decide +kernel
theorem dX7_choose_8 : decode cX7_choose 8 = .ok (.if_icmp .ne 7, 3) := by decide +kernel
theorem dX7_choose_11 : decode cX7_choose 11 = .ok (.iload_n 2, 1) := by decide +kernel
theorem dX7_choose_12 : decode cX7_choose 12 = .ok (.goto 4, 3) := by decide +kernel
theorem dX7_choose_15 : decode cX7_choose 15 = .ok (.iload_n 3, 1) := by decide +kernel
theorem dX7_choose_16 : decode cX7_choose 16 = .ok (.ireturn, 1) := by decide +kernel
set_option maxRecDepth 20000 in
theorem ggX7_hasWay_X3_exitCell : GoodIn wsX7_hasWay wsX3_exitCell := goodIn_r _ [7, 8, 9, 10, 11, 68, 69, 70, 71, 72, 73] (by decide +kernel) (by decide +kernel)
set_option maxRecDepth 20000 in
theorem gX7_hasWay_X3_exitCell : GoodIn wsX7_hasWay (wsV RX7 196 RX3 yX3_exitCell wsX3_exitCell) := goodIn_app (goodIn_of _ (by decide +kernel)) ggX7_hasWay_X3_exitCell
set_option maxRecDepth 20000 in
theorem ggX7_hasWay_X6_findFrom : GoodIn wsX7_hasWay wsX6_findFrom := goodIn_r _ [16, 17, 18, 19, 20, 21, 22, 23, 24, 25, 26, 15, 27, 28, 29, 30, 9, 10, 11, 31, 32, 33, 34, 35, 36, 37, 38, 39, 6, 40, 41, 42, 43, 44, 45, 46, 47, 48, 49, 50, 51, 74, 75, 76, 77, 78, 68, 69, 70, 71, 72, 73] (by decide +kernel) (by decide +kernel)
set_option maxRecDepth 20000 in
theorem gX7_hasWay_X6_findFrom : GoodIn wsX7_hasWay (wsV RX7 98 RX6 yX6_findFrom wsX6_findFrom) := goodIn_app (goodIn_of _ (by decide +kernel)) ggX7_hasWay_X6_findFrom
set_option maxRecDepth 20000 in
theorem ggX7_hasWay_X3_entryCell : GoodIn wsX7_hasWay wsX3_entryCell := goodIn_r _ [55, 8, 9, 10, 11, 68, 69, 70, 71, 72, 73] (by decide +kernel) (by decide +kernel)
set_option maxRecDepth 20000 in
theorem gX7_hasWay_X3_entryCell : GoodIn wsX7_hasWay (wsV RX7 157 RX3 yX3_entryCell wsX3_entryCell) := goodIn_app (goodIn_of _ (by decide +kernel)) ggX7_hasWay_X3_entryCell
set_option maxRecDepth 20000 in
theorem ggX7_hasWay_X6_reach : GoodIn wsX7_hasWay wsX6_reach := goodIn_r _ [51, 33, 34, 35, 15, 36, 17, 74, 75, 76, 77, 78] (by decide +kernel) (by decide +kernel)
set_option maxRecDepth 20000 in
theorem gX7_hasWay_X6_reach : GoodIn wsX7_hasWay (wsV RX7 102 RX6 yX6_reach wsX6_reach) := goodIn_app (goodIn_of _ (by decide +kernel)) ggX7_hasWay_X6_reach
theorem dX7_hasWay_0 : decode cX7_hasWay 0 = .ok (.aload_n 0, 1) := by decide +kernel
theorem dX7_hasWay_1 : decode cX7_hasWay 1 = .ok (.getfield 43, 3) := by decide +kernel
theorem dX7_hasWay_4 : decode cX7_hasWay 4 = .ok (.aload_n 0, 1) := by decide +kernel
theorem dX7_hasWay_5 : decode cX7_hasWay 5 = .ok (.getfield 10, 3) := by decide +kernel
theorem dX7_hasWay_8 : decode cX7_hasWay 8 = .ok (.aload_n 0, 1) := by decide +kernel
theorem dX7_hasWay_9 : decode cX7_hasWay 9 = .ok (.getfield 10, 3) := by decide +kernel
theorem dX7_hasWay_12 : decode cX7_hasWay 12 = .ok (.invokevirtual 196, 3) := by decide +kernel
theorem dX7_hasWay_15 : decode cX7_hasWay 15 = .ok (.invokevirtual 98, 3) := by decide +kernel
theorem dX7_hasWay_18 : decode cX7_hasWay 18 = .ok (.aload_n 0, 1) := by decide +kernel
theorem dX7_hasWay_19 : decode cX7_hasWay 19 = .ok (.getfield 43, 3) := by decide +kernel
theorem dX7_hasWay_22 : decode cX7_hasWay 22 = .ok (.aload_n 0, 1) := by decide +kernel
theorem dX7_hasWay_23 : decode cX7_hasWay 23 = .ok (.getfield 10, 3) := by decide +kernel
theorem dX7_hasWay_26 : decode cX7_hasWay 26 = .ok (.invokevirtual 157, 3) := by decide +kernel
theorem dX7_hasWay_29 : decode cX7_hasWay 29 = .ok (.invokevirtual 102, 3) := by decide +kernel
theorem dX7_hasWay_32 : decode cX7_hasWay 32 = .ok (.ireturn, 1) := by decide +kernel
set_option maxRecDepth 20000 in
theorem ggX7_isOnWay_X7_hasWay : GoodIn wsX7_isOnWay wsX7_hasWay := goodIn_r _ [8, 1, 3, 9, 10, 11, 12, 13, 14, 15, 7, 16, 17, 18, 19, 20, 21, 22, 23, 24, 25, 26, 27, 28, 29, 30, 31, 32, 33, 34, 35, 36, 37, 38, 39, 40, 41, 42, 43, 44, 45, 46, 47, 48, 49, 50, 51, 52, 53, 54, 55, 56, 57, 58, 59, 60, 61, 63, 64, 65, 66, 67, 68, 69, 70, 71, 72, 73, 74, 75, 76, 77, 78, 79, 80, 81, 82, 83, 84] (by decide +kernel) (by decide +kernel)
set_option maxRecDepth 20000 in
theorem gX7_isOnWay_X7_hasWay : GoodIn wsX7_isOnWay (wsV RX7 206 RX7 yX7_hasWay wsX7_hasWay) := goodIn_app (goodIn_of _ (by decide +kernel)) ggX7_isOnWay_X7_hasWay
set_option maxRecDepth 20000 in
theorem ggX7_isOnWay_X6_reach : GoodIn wsX7_isOnWay wsX6_reach := goodIn_r _ [56, 38, 39, 40, 20, 41, 22, 80, 81, 82, 83, 84] (by decide +kernel) (by decide +kernel)
set_option maxRecDepth 20000 in
theorem gX7_isOnWay_X6_reach : GoodIn wsX7_isOnWay (wsV RX7 102 RX6 yX6_reach wsX6_reach) := goodIn_app (goodIn_of _ (by decide +kernel)) ggX7_isOnWay_X6_reach
set_option maxRecDepth 20000 in
theorem ggX7_isOnWay_X3_entryCell : GoodIn wsX7_isOnWay wsX3_entryCell := goodIn_r _ [60, 14, 15, 7, 16, 74, 75, 76, 77, 78, 79] (by decide +kernel) (by decide +kernel)
set_option maxRecDepth 20000 in
theorem gX7_isOnWay_X3_entryCell : GoodIn wsX7_isOnWay (wsV RX7 157 RX3 yX3_entryCell wsX3_entryCell) := goodIn_app (goodIn_of _ (by decide +kernel)) ggX7_isOnWay_X3_entryCell
set_option maxRecDepth 20000 in
theorem ggX7_isOnWay_X6_findFrom : GoodIn wsX7_isOnWay wsX6_findFrom := goodIn_r _ [21, 22, 23, 24, 25, 26, 27, 28, 29, 30, 31, 20, 32, 33, 34, 35, 15, 7, 16, 36, 37, 38, 39, 40, 41, 42, 43, 44, 12, 45, 46, 47, 48, 49, 50, 51, 52, 53, 54, 55, 56, 80, 81, 82, 83, 84, 74, 75, 76, 77, 78, 79] (by decide +kernel) (by decide +kernel)
set_option maxRecDepth 20000 in
theorem gX7_isOnWay_X6_findFrom : GoodIn wsX7_isOnWay (wsV RX7 98 RX6 yX6_findFrom wsX6_findFrom) := goodIn_app (goodIn_of _ (by decide +kernel)) ggX7_isOnWay_X6_findFrom
set_option maxRecDepth 20000 in
theorem ggX7_isOnWay_X6_lengthTo : GoodIn wsX7_isOnWay wsX6_lengthTo := goodIn_r _ [41, 22, 80, 81, 82, 83, 84] (by decide +kernel) (by decide +kernel)
set_option maxRecDepth 20000 in
theorem gX7_isOnWay_X6_lengthTo : GoodIn wsX7_isOnWay (wsV RX7 199 RX6 yX6_lengthTo wsX6_lengthTo) := goodIn_app (goodIn_of _ (by decide +kernel)) ggX7_isOnWay_X6_lengthTo
theorem dX7_isOnWay_0 : decode cX7_isOnWay 0 = .ok (.aload_n 0, 1) := by decide +kernel
theorem dX7_isOnWay_1 : decode cX7_isOnWay 1 = .ok (.invokevirtual 206, 3) := by decide +kernel
theorem dX7_isOnWay_4 : decode cX7_isOnWay 4 = .ok (.ifCond .eq 14, 3) := by decide +kernel
theorem dX7_isOnWay_7 : decode cX7_isOnWay 7 = .ok (.aload_n 0, 1) := by decide +kernel
theorem dX7_isOnWay_8 : decode cX7_isOnWay 8 = .ok (.getfield 43, 3) := by decide +kernel
theorem dX7_isOnWay_11 : decode cX7_isOnWay 11 = .ok (.iload_n 1, 1) := by decide +kernel
theorem dX7_isOnWay_12 : decode cX7_isOnWay 12 = .ok (.invokevirtual 102, 3) := by decide +kernel
theorem dX7_isOnWay_15 : decode cX7_isOnWay 15 = .ok (.ifCond .ne 5, 3) := by decide +kernel
theorem dX7_isOnWay_18 : decode cX7_isOnWay 18 = .ok (.iconst 0, 1) := by decide +kernel
theorem dX7_isOnWay_19 : decode cX7_isOnWay 19 = .ok (.ireturn, 1) := by decide +kernel
theorem dX7_isOnWay_20 : decode cX7_isOnWay 20 = .ok (.aload_n 0, 1) := by decide +kernel
theorem dX7_isOnWay_21 : decode cX7_isOnWay 21 = .ok (.getfield 40, 3) := by decide +kernel
theorem dX7_isOnWay_24 : decode cX7_isOnWay 24 = .ok (.aload_n 0, 1) := by decide +kernel
theorem dX7_isOnWay_25 : decode cX7_isOnWay 25 = .ok (.getfield 10, 3) := by decide +kernel
theorem dX7_isOnWay_28 : decode cX7_isOnWay 28 = .ok (.aload_n 0, 1) := by decide +kernel
theorem dX7_isOnWay_29 : decode cX7_isOnWay 29 = .ok (.getfield 10, 3) := by decide +kernel
theorem dX7_isOnWay_32 : decode cX7_isOnWay 32 = .ok (.invokevirtual 157, 3) := by decide +kernel
theorem dX7_isOnWay_35 : decode cX7_isOnWay 35 = .ok (.invokevirtual 98, 3) := by decide +kernel
theorem dX7_isOnWay_38 : decode cX7_isOnWay 38 = .ok (.aload_n 0, 1) := by decide +kernel
theorem dX7_isOnWay_39 : decode cX7_isOnWay 39 = .ok (.getfield 40, 3) := by decide +kernel
theorem dX7_isOnWay_42 : decode cX7_isOnWay 42 = .ok (.iload_n 1, 1) := by decide +kernel
theorem dX7_isOnWay_43 : decode cX7_isOnWay 43 = .ok (.invokevirtual 199, 3) := by decide +kernel
theorem dX7_isOnWay_46 : decode cX7_isOnWay 46 = .ok (.aload_n 0, 1) := by decide +kernel
theorem dX7_isOnWay_47 : decode cX7_isOnWay 47 = .ok (.getfield 43, 3) := by decide +kernel
theorem dX7_isOnWay_50 : decode cX7_isOnWay 50 = .ok (.iload_n 1, 1) := by decide +kernel
theorem dX7_isOnWay_51 : decode cX7_isOnWay 51 = .ok (.invokevirtual 199, 3) := by decide +kernel
theorem dX7_isOnWay_54 : decode cX7_isOnWay 54 = .ok (.iadd, 1) := by decide +kernel
theorem dX7_isOnWay_55 : decode cX7_isOnWay 55 = .ok (.istore_n 2, 1) := by decide +kernel
theorem dX7_isOnWay_56 : decode cX7_isOnWay 56 = .ok (.iload_n 2, 1) := by decide +kernel
theorem dX7_isOnWay_57 : decode cX7_isOnWay 57 = .ok (.aload_n 0, 1) := by decide +kernel
theorem dX7_isOnWay_58 : decode cX7_isOnWay 58 = .ok (.getfield 43, 3) := by decide +kernel
theorem dX7_isOnWay_61 : decode cX7_isOnWay 61 = .ok (.aload_n 0, 1) := by decide +kernel
theorem dX7_isOnWay_62 : decode cX7_isOnWay 62 = .ok (.getfield 10, 3) := by decide +kernel
theorem dX7_isOnWay_65 : decode cX7_isOnWay 65 = .ok (.invokevirtual 157, 3) := by decide +kernel
theorem dX7_isOnWay_68 : decode cX7_isOnWay 68 = .ok (.invokevirtual 199, 3) := by decide +kernel
theorem dX7_isOnWay_71 : decode cX7_isOnWay 71 = .ok (.if_icmp .ne 7, 3) := by decide +kernel
theorem dX7_isOnWay_74 : decode cX7_isOnWay 74 = .ok (.iconst 1, 1) := by decide +kernel
theorem dX7_isOnWay_75 : decode cX7_isOnWay 75 = .ok (.goto 4, 3) := by decide +kernel
theorem dX7_isOnWay_78 : decode cX7_isOnWay 78 = .ok (.iconst 0, 1) := by decide +kernel
theorem dX7_isOnWay_79 : decode cX7_isOnWay 79 = .ok (.ireturn, 1) := by decide +kernel
set_option maxRecDepth 20000 in
theorem ggX7_wayFault_X3_toneSum : GoodIn wsX7_wayFault wsX3_toneSum := goodIn_r _ [8, 9, 10, 11, 12, 7, 13, 14, 15, 16, 17, 18, 88, 89, 90, 91, 92, 93] (by decide +kernel) (by decide +kernel)
set_option maxRecDepth 20000 in
theorem gX7_wayFault_X3_toneSum : GoodIn wsX7_wayFault (wsV RX7 187 RX3 yX3_toneSum wsX3_toneSum) := goodIn_app (goodIn_of _ (by decide +kernel)) ggX7_wayFault_X3_toneSum
set_option maxRecDepth 20000 in
theorem ggX7_wayFault_X7_hasWay : GoodIn wsX7_wayFault wsX7_hasWay := goodIn_r _ [22, 2, 1, 23, 24, 25, 7, 26, 27, 16, 17, 18, 28, 29, 30, 31, 32, 33, 34, 35, 36, 37, 38, 39, 40, 41, 42, 43, 44, 45, 46, 47, 48, 49, 50, 51, 52, 53, 54, 55, 56, 14, 15, 57, 58, 59, 60, 61, 62, 63, 64, 65, 66, 67, 68, 69, 70, 72, 73, 74, 75, 76, 77, 78, 79, 80, 81, 82, 88, 89, 90, 91, 92, 93, 83, 84, 85, 86, 87] (by decide +kernel) (by decide +kernel)
set_option maxRecDepth 20000 in
theorem gX7_wayFault_X7_hasWay : GoodIn wsX7_wayFault (wsV RX7 206 RX7 yX7_hasWay wsX7_hasWay) := goodIn_app (goodIn_of _ (by decide +kernel)) ggX7_wayFault_X7_hasWay
set_option maxRecDepth 20000 in
theorem ggX7_wayFault_X3_entryCell : GoodIn wsX7_wayFault wsX3_entryCell := goodIn_r _ [69, 27, 16, 17, 18, 88, 89, 90, 91, 92, 93] (by decide +kernel) (by decide +kernel)
set_option maxRecDepth 20000 in
theorem gX7_wayFault_X3_entryCell : GoodIn wsX7_wayFault (wsV RX7 157 RX3 yX3_entryCell wsX3_entryCell) := goodIn_app (goodIn_of _ (by decide +kernel)) ggX7_wayFault_X3_entryCell
set_option maxRecDepth 20000 in
theorem ggX7_wayFault_X7_at : GoodIn wsX7_wayFault wsX7_at := goodIn_r _ [18] (by decide +kernel) (by decide +kernel)
set_option maxRecDepth 20000 in
theorem gX7_wayFault_X7_at : GoodIn wsX7_wayFault (va_wsS RX7 79 yX7_at wsX7_at) := goodIn_app (goodIn_of _ (by decide +kernel)) ggX7_wayFault_X7_at
theorem dX7_wayFault_0 : decode cX7_wayFault 0 = .ok (.aload_n 0, 1) := by decide +kernel
theorem dX7_wayFault_1 : decode cX7_wayFault 1 = .ok (.getfield 10, 3) := by decide +kernel
theorem dX7_wayFault_4 : decode cX7_wayFault 4 = .ok (.invokevirtual 187, 3) := by decide +kernel
theorem dX7_wayFault_7 : decode cX7_wayFault 7 = .ok (.istore_n 1, 1) := by decide +kernel
theorem dX7_wayFault_8 : decode cX7_wayFault 8 = .ok (.aload_n 0, 1) := by decide +kernel
theorem dX7_wayFault_9 : decode cX7_wayFault 9 = .ok (.invokevirtual 206, 3) := by decide +kernel
theorem dX7_wayFault_12 : decode cX7_wayFault 12 = .ok (.ifCond .eq 25, 3) := by decide +kernel
theorem dX7_wayFault_15 : decode cX7_wayFault 15 = .ok (.iload_n 1, 1) := by decide +kernel
theorem dX7_wayFault_16 : decode cX7_wayFault 16 = .ok (.aload_n 0, 1) := by decide +kernel
theorem dX7_wayFault_17 : decode cX7_wayFault 17 = .ok (.getfield 43, 3) := by decide +kernel
theorem dX7_wayFault_20 : decode cX7_wayFault 20 = .ok (.getfield 240, 3) := by decide +kernel
theorem dX7_wayFault_23 : decode cX7_wayFault 23 = .ok (.aload_n 0, 1) := by decide +kernel
theorem dX7_wayFault_24 : decode cX7_wayFault 24 = .ok (.getfield 10, 3) := by decide +kernel
theorem dX7_wayFault_27 : decode cX7_wayFault 27 = .ok (.invokevirtual 157, 3) := by decide +kernel
theorem dX7_wayFault_30 : decode cX7_wayFault 30 = .ok (.invokestatic 79, 3) := by decide +kernel
theorem dX7_wayFault_33 : decode cX7_wayFault 33 = .ok (.iadd, 1) := by decide +kernel
theorem dX7_wayFault_34 : decode cX7_wayFault 34 = .ok (.goto 4, 3) := by decide +kernel
theorem dX7_wayFault_37 : decode cX7_wayFault 37 = .ok (.iload_n 1, 1) := by decide +kernel
theorem dX7_wayFault_38 : decode cX7_wayFault 38 = .ok (.ireturn, 1) := by decide +kernel
set_option maxRecDepth 20000 in
theorem ggX7_wayTurns_X3_entryCell : GoodIn wsX7_wayTurns wsX3_entryCell := goodIn_r _ [8, 9, 10, 11, 12, 36, 37, 38, 39, 40, 41] (by decide +kernel) (by decide +kernel)
set_option maxRecDepth 20000 in
theorem gX7_wayTurns_X3_entryCell : GoodIn wsX7_wayTurns (wsV RX7 157 RX3 yX3_entryCell wsX3_entryCell) := goodIn_app (goodIn_of _ (by decide +kernel)) ggX7_wayTurns_X3_entryCell
set_option maxRecDepth 20000 in
theorem ggX7_wayTurns_X6_lengthTo : GoodIn wsX7_wayTurns wsX6_lengthTo := goodIn_r _ [17, 18, 31, 32, 33, 34, 35] (by decide +kernel) (by decide +kernel)
set_option maxRecDepth 20000 in
theorem gX7_wayTurns_X6_lengthTo : GoodIn wsX7_wayTurns (wsV RX7 199 RX6 yX6_lengthTo wsX6_lengthTo) := goodIn_app (goodIn_of _ (by decide +kernel)) ggX7_wayTurns_X6_lengthTo
set_option maxRecDepth 20000 in
theorem ggX7_wayTurns_X7_at : GoodIn wsX7_wayTurns wsX7_at := goodIn_r _ [12] (by decide +kernel) (by decide +kernel)
set_option maxRecDepth 20000 in
theorem gX7_wayTurns_X7_at : GoodIn wsX7_wayTurns (va_wsS RX7 79 yX7_at wsX7_at) := goodIn_app (goodIn_of _ (by decide +kernel)) ggX7_wayTurns_X7_at
theorem dX7_wayTurns_0 : decode cX7_wayTurns 0 = .ok (.aload_n 0, 1) := by decide +kernel
theorem dX7_wayTurns_1 : decode cX7_wayTurns 1 = .ok (.getfield 10, 3) := by decide +kernel
theorem dX7_wayTurns_4 : decode cX7_wayTurns 4 = .ok (.invokevirtual 157, 3) := by decide +kernel
theorem dX7_wayTurns_7 : decode cX7_wayTurns 7 = .ok (.istore_n 1, 1) := by decide +kernel
theorem dX7_wayTurns_8 : decode cX7_wayTurns 8 = .ok (.aload_n 0, 1) := by decide +kernel
theorem dX7_wayTurns_9 : decode cX7_wayTurns 9 = .ok (.getfield 43, 3) := by decide +kernel
theorem dX7_wayTurns_12 : decode cX7_wayTurns 12 = .ok (.iload_n 1, 1) := by decide +kernel
theorem dX7_wayTurns_13 : decode cX7_wayTurns 13 = .ok (.invokevirtual 199, 3) := by decide +kernel
theorem dX7_wayTurns_16 : decode cX7_wayTurns 16 = .ok (.istore_n 2, 1) := by decide +kernel
theorem dX7_wayTurns_17 : decode cX7_wayTurns 17 = .ok (.iconst 0, 1) := by decide +kernel
theorem dX7_wayTurns_18 : decode cX7_wayTurns 18 = .ok (.istore_n 3, 1) := by decide +kernel
theorem dX7_wayTurns_19 : decode cX7_wayTurns 19 = .ok (.iconst 0, 1) := by decide +kernel
theorem dX7_wayTurns_20 : decode cX7_wayTurns 20 = .ok (.istore 4, 2) := by decide +kernel
theorem dX7_wayTurns_22 : decode cX7_wayTurns 22 = .ok (.iconst 0, 1) := by decide +kernel
theorem dX7_wayTurns_23 : decode cX7_wayTurns 23 = .ok (.istore 5, 2) := by decide +kernel
theorem dX7_wayTurns_25 : decode cX7_wayTurns 25 = .ok (.iload 5, 2) := by decide +kernel
theorem dX7_wayTurns_27 : decode cX7_wayTurns 27 = .ok (.iload_n 2, 1) := by decide +kernel
theorem dX7_wayTurns_28 : decode cX7_wayTurns 28 = .ok (.if_icmp .ge 50, 3) := by decide +kernel
theorem dX7_wayTurns_31 : decode cX7_wayTurns 31 = .ok (.aload_n 0, 1) := by decide +kernel
theorem dX7_wayTurns_32 : decode cX7_wayTurns 32 = .ok (.getfield 43, 3) := by decide +kernel
theorem dX7_wayTurns_35 : decode cX7_wayTurns 35 = .ok (.getfield 203, 3) := by decide +kernel
theorem dX7_wayTurns_38 : decode cX7_wayTurns 38 = .ok (.iload_n 1, 1) := by decide +kernel
theorem dX7_wayTurns_39 : decode cX7_wayTurns 39 = .ok (.invokestatic 79, 3) := by decide +kernel
theorem dX7_wayTurns_42 : decode cX7_wayTurns 42 = .ok (.istore 6, 2) := by decide +kernel
theorem dX7_wayTurns_44 : decode cX7_wayTurns 44 = .ok (.iload 6, 2) := by decide +kernel
theorem dX7_wayTurns_46 : decode cX7_wayTurns 46 = .ok (.iload_n 1, 1) := by decide +kernel
theorem dX7_wayTurns_47 : decode cX7_wayTurns 47 = .ok (.isub, 1) := by decide +kernel
theorem dX7_wayTurns_48 : decode cX7_wayTurns 48 = .ok (.istore 7, 2) := by decide +kernel
theorem dX7_wayTurns_50 : decode cX7_wayTurns 50 = .ok (.iload 5, 2) := by decide +kernel
theorem dX7_wayTurns_52 : decode cX7_wayTurns 52 = .ok (.ifCond .le 13, 3) := by decide +kernel
theorem dX7_wayTurns_55 : decode cX7_wayTurns 55 = .ok (.iload 7, 2) := by decide +kernel
theorem dX7_wayTurns_57 : decode cX7_wayTurns 57 = .ok (.iload 4, 2) := by decide +kernel
theorem dX7_wayTurns_59 : decode cX7_wayTurns 59 = .ok (.if_icmp .eq 6, 3) := by decide +kernel
theorem dX7_wayTurns_62 : decode cX7_wayTurns 62 = .ok (.iinc 3 1, 3) := by decide +kernel
theorem dX7_wayTurns_65 : decode cX7_wayTurns 65 = .ok (.iload 7, 2) := by decide +kernel
theorem dX7_wayTurns_67 : decode cX7_wayTurns 67 = .ok (.istore 4, 2) := by decide +kernel
theorem dX7_wayTurns_69 : decode cX7_wayTurns 69 = .ok (.iload 6, 2) := by decide +kernel
theorem dX7_wayTurns_71 : decode cX7_wayTurns 71 = .ok (.istore_n 1, 1) := by decide +kernel
theorem dX7_wayTurns_72 : decode cX7_wayTurns 72 = .ok (.iinc 5 1, 3) := by decide +kernel
theorem dX7_wayTurns_75 : decode cX7_wayTurns 75 = .ok (.goto (-50), 3) := by decide +kernel
theorem dX7_wayTurns_78 : decode cX7_wayTurns 78 = .ok (.iload_n 3, 1) := by decide +kernel
theorem dX7_wayTurns_79 : decode cX7_wayTurns 79 = .ok (.ireturn, 1) := by decide +kernel
set_option maxRecDepth 20000 in
theorem ggX7_findBetterExchange_X1_find : GoodIn wsX7_findBetterExchange wsX1_find := goodIn_r _ [12, 13, 14, 15, 16, 17, 18, 19, 20, 21, 22, 23, 24, 25, 26, 27, 28, 29, 30, 31, 32, 33, 34, 35, 36, 37, 38, 39, 40, 41, 42, 43, 44, 45, 46, 47, 48, 49, 50, 51, 52, 53, 54, 55, 56, 57, 58, 59, 60, 61, 62, 63, 64, 65, 66, 67, 68, 69, 70, 71, 72, 73, 74, 75, 76, 77, 78, 79, 80, 81, 82, 83, 84, 85, 86, 87, 88, 89, 90, 91, 92, 93, 94, 95, 96, 97, 98, 99, 11, 100, 101, 102, 103, 104, 105, 106, 107, 108, 109, 110, 111, 112, 113, 114, 115, 116, 128, 129, 130, 131, 132, 133, 134, 135, 136, 137, 138, 139, 140, 141, 142, 143, 144] (by decide +kernel) (by decide +kernel)
set_option maxRecDepth 20000 in
theorem gX7_findBetterExchange_X1_find : GoodIn wsX7_findBetterExchange (wsV RX7 227 RX1 yX1_find wsX1_find) := goodIn_app (goodIn_of _ (by decide +kernel)) ggX7_findBetterExchange_X1_find
theorem dX7_findBetterExchange_0 : decode cX7_findBetterExchange 0 = .ok (.aload_n 0, 1) := by decide +kernel
theorem dX7_findBetterExchange_1 : decode cX7_findBetterExchange 1 = .ok (.getfield 63, 3) := by decide +kernel
theorem dX7_findBetterExchange_4 : decode cX7_findBetterExchange 4 = .ok (.aload_n 0, 1) := by decide +kernel
theorem dX7_findBetterExchange_5 : decode cX7_findBetterExchange 5 = .ok (.getfield 10, 3) := by decide +kernel
theorem dX7_findBetterExchange_8 : decode cX7_findBetterExchange 8 = .ok (.aload_n 0, 1) := by decide +kernel
theorem dX7_findBetterExchange_9 : decode cX7_findBetterExchange 9 = .ok (.getfield 40, 3) := by decide +kernel
theorem dX7_findBetterExchange_12 : decode cX7_findBetterExchange 12 = .ok (.aload_n 0, 1) := by decide +kernel
theorem dX7_findBetterExchange_13 : decode cX7_findBetterExchange 13 = .ok (.getfield 43, 3) := by decide +kernel
theorem dX7_findBetterExchange_16 : decode cX7_findBetterExchange 16 = .ok (.invokevirtual 227, 3) := by decide +kernel
theorem dX7_findBetterExchange_19 : decode cX7_findBetterExchange 19 = .ok (.aload_n 0, 1) := by decide +kernel
theorem dX7_findBetterExchange_20 : decode cX7_findBetterExchange 20 = .ok (.getfield 63, 3) := by decide +kernel
theorem dX7_findBetterExchange_23 : decode cX7_findBetterExchange 23 = .ok (.getfield 234, 3) := by decide +kernel
theorem dX7_findBetterExchange_26 : decode cX7_findBetterExchange 26 = .ok (.iconst (-1), 1) := by decide +kernel
theorem dX7_findBetterExchange_27 : decode cX7_findBetterExchange 27 = .ok (.if_icmp .eq 24, 3) := by decide +kernel
theorem dX7_findBetterExchange_30 : decode cX7_findBetterExchange 30 = .ok (.aload_n 0, 1) := by decide +kernel
theorem dX7_findBetterExchange_31 : decode cX7_findBetterExchange 31 = .ok (.getfield 63, 3) := by decide +kernel
theorem dX7_findBetterExchange_34 : decode cX7_findBetterExchange 34 = .ok (.getfield 144, 3) := by decide +kernel
theorem dX7_findBetterExchange_37 : decode cX7_findBetterExchange 37 = .ok (.aload_n 0, 1) := by decide +kernel
theorem dX7_findBetterExchange_38 : decode cX7_findBetterExchange 38 = .ok (.getfield 63, 3) := by decide +kernel
theorem dX7_findBetterExchange_41 : decode cX7_findBetterExchange 41 = .ok (.getfield 265, 3) := by decide +kernel
theorem dX7_findBetterExchange_44 : decode cX7_findBetterExchange 44 = .ok (.if_icmp .ge 7, 3) := by decide +kernel
theorem dX7_findBetterExchange_47 : decode cX7_findBetterExchange 47 = .ok (.iconst 1, 1) := by decide +kernel
theorem dX7_findBetterExchange_48 : decode cX7_findBetterExchange 48 = .ok (.goto 4, 3) := by decide +kernel
theorem dX7_findBetterExchange_51 : decode cX7_findBetterExchange 51 = .ok (.iconst 0, 1) := by decide +kernel
theorem dX7_findBetterExchange_52 : decode cX7_findBetterExchange 52 = .ok (.ireturn, 1) := by decide +kernel
set_option maxRecDepth 20000 in
theorem ggX7_freeSide_X3_beside : GoodIn wsX7_freeSide wsX3_beside := goodIn_r _ [6, 7, 8, 29, 30, 31, 32, 33, 34] (by decide +kernel) (by decide +kernel)
set_option maxRecDepth 20000 in
theorem gX7_freeSide_X3_beside : GoodIn wsX7_freeSide (wsV RX7 94 RX3 yX3_beside wsX3_beside) := goodIn_app (goodIn_of _ (by decide +kernel)) ggX7_freeSide_X3_beside
set_option maxRecDepth 20000 in
theorem ggX7_freeSide_X3_isDoorAt : GoodIn wsX7_freeSide wsX3_isDoorAt := goodIn_r _ [12, 13, 14, 15, 16, 17, 29, 30, 31, 32, 33, 34] (by decide +kernel) (by decide +kernel)
set_option maxRecDepth 20000 in
theorem gX7_freeSide_X3_isDoorAt : GoodIn wsX7_freeSide (wsV RX7 120 RX3 yX3_isDoorAt wsX3_isDoorAt) := goodIn_app (goodIn_of _ (by decide +kernel)) ggX7_freeSide_X3_isDoorAt
theorem dX7_freeSide_0 : decode cX7_freeSide 0 = .ok (.iconst 0, 1) := by decide +kernel
theorem dX7_freeSide_1 : decode cX7_freeSide 1 = .ok (.istore_n 2, 1) := by decide +kernel
theorem dX7_freeSide_2 : decode cX7_freeSide 2 = .ok (.iload_n 2, 1) := by decide +kernel
theorem dX7_freeSide_3 : decode cX7_freeSide 3 = .ok (.iconst 4, 1) := by decide +kernel
theorem dX7_freeSide_4 : decode cX7_freeSide 4 = .ok (.if_icmp .ge 37, 3) := by decide +kernel
theorem dX7_freeSide_7 : decode cX7_freeSide 7 = .ok (.aload_n 0, 1) := by decide +kernel
theorem dX7_freeSide_8 : decode cX7_freeSide 8 = .ok (.getfield 10, 3) := by decide +kernel
theorem dX7_freeSide_11 : decode cX7_freeSide 11 = .ok (.iload_n 1, 1) := by decide +kernel
theorem dX7_freeSide_12 : decode cX7_freeSide 12 = .ok (.iload_n 2, 1) := by decide +kernel
theorem dX7_freeSide_13 : decode cX7_freeSide 13 = .ok (.invokevirtual 94, 3) := by decide +kernel
theorem dX7_freeSide_16 : decode cX7_freeSide 16 = .ok (.iconst (-1), 1) := by decide +kernel
theorem dX7_freeSide_17 : decode cX7_freeSide 17 = .ok (.if_icmp .ne 18, 3) := by decide +kernel
theorem dX7_freeSide_20 : decode cX7_freeSide 20 = .ok (.aload_n 0, 1) := by decide +kernel
theorem dX7_freeSide_21 : decode cX7_freeSide 21 = .ok (.getfield 10, 3) := by decide +kernel
theorem dX7_freeSide_24 : decode cX7_freeSide 24 = .ok (.iconst 0, 1) := by decide +kernel
theorem dX7_freeSide_25 : decode cX7_freeSide 25 = .ok (.iload_n 1, 1) := by decide +kernel
theorem dX7_freeSide_26 : decode cX7_freeSide 26 = .ok (.iload_n 2, 1) := by decide +kernel
theorem dX7_freeSide_27 : decode cX7_freeSide 27 = .ok (.invokevirtual 120, 3) := by decide +kernel
theorem dX7_freeSide_30 : decode cX7_freeSide 30 = .ok (.ifCond .ne 5, 3) := by decide +kernel
theorem dX7_freeSide_33 : decode cX7_freeSide 33 = .ok (.iload_n 2, 1) := by decide +kernel
theorem dX7_freeSide_34 : decode cX7_freeSide 34 = .ok (.ireturn, 1) := by decide +kernel
theorem dX7_freeSide_35 : decode cX7_freeSide 35 = .ok (.iinc 2 1, 3) := by decide +kernel
theorem dX7_freeSide_38 : decode cX7_freeSide 38 = .ok (.goto (-36), 3) := by decide +kernel
theorem dX7_freeSide_41 : decode cX7_freeSide 41 = .ok (.iconst (-1), 1) := by decide +kernel
theorem dX7_freeSide_42 : decode cX7_freeSide 42 = .ok (.ireturn, 1) := by decide +kernel
theorem dX7_at_0 : decode cX7_at 0 = .ok (.iload_n 1, 1) := by decide +kernel
theorem dX7_at_1 : decode cX7_at 1 = .ok (.ifCond .lt 15, 3) := by decide +kernel
theorem dX7_at_4 : decode cX7_at 4 = .ok (.iload_n 1, 1) := by decide +kernel
theorem dX7_at_5 : decode cX7_at 5 = .ok (.aload_n 0, 1) := by decide +kernel
theorem dX7_at_6 : decode cX7_at 6 = .ok (.arraylength, 1) := by decide +kernel
theorem dX7_at_7 : decode cX7_at 7 = .ok (.if_icmp .ge 9, 3) := by decide +kernel
theorem dX7_at_10 : decode cX7_at 10 = .ok (.aload_n 0, 1) := by decide +kernel
theorem dX7_at_11 : decode cX7_at 11 = .ok (.iload_n 1, 1) := by decide +kernel
theorem dX7_at_12 : decode cX7_at 12 = .ok (.iaload, 1) := by decide +kernel
theorem dX7_at_13 : decode cX7_at 13 = .ok (.goto 4, 3) := by decide +kernel
theorem dX7_at_16 : decode cX7_at 16 = .ok (.iconst 0, 1) := by decide +kernel
theorem dX7_at_17 : decode cX7_at 17 = .ok (.ireturn, 1) := by decide +kernel
theorem dX7_put_0 : decode cX7_put 0 = .ok (.iload_n 1, 1) := by decide +kernel
theorem dX7_put_1 : decode cX7_put 1 = .ok (.ifCond .lt 13, 3) := by decide +kernel
theorem dX7_put_4 : decode cX7_put 4 = .ok (.iload_n 1, 1) := by decide +kernel
theorem dX7_put_5 : decode cX7_put 5 = .ok (.aload_n 0, 1) := by decide +kernel
theorem dX7_put_6 : decode cX7_put 6 = .ok (.arraylength, 1) := by decide +kernel
theorem dX7_put_7 : decode cX7_put 7 = .ok (.if_icmp .ge 7, 3) := by decide +kernel
theorem dX7_put_10 : decode cX7_put 10 = .ok (.aload_n 0, 1) := by decide +kernel
theorem dX7_put_11 : decode cX7_put 11 = .ok (.iload_n 1, 1) := by decide +kernel
theorem dX7_put_12 : decode cX7_put 12 = .ok (.iload_n 2, 1) := by decide +kernel
theorem dX7_put_13 : decode cX7_put 13 = .ok (.iastore, 1) := by decide +kernel
theorem dX7_put_14 : decode cX7_put 14 = .ok (.return_, 1) := by decide +kernel
set_option maxRecDepth 20000 in
theorem ggX8_init_X8_lightens : GoodIn wsX8_init wsX8_lightens := goodIn_r _ [22, 5, 23, 24, 25, 26, 27, 28, 29, 30, 31, 32, 33, 34, 35, 36, 37, 38, 39, 40, 41, 42, 43, 44, 45, 46] (by decide +kernel) (by decide +kernel)
set_option maxRecDepth 20000 in
theorem gX8_init_X8_lightens : GoodIn wsX8_init (wsV RX8 47 RX8 yX8_lightens wsX8_lightens) := goodIn_app (goodIn_of _ (by decide +kernel)) ggX8_init_X8_lightens

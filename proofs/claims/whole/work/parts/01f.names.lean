theorem dX8_carve_0 : decode cX8_carve 0 = .ok (.aload_n 0, 1) := by decide +kernel
theorem dX8_carve_1 : decode cX8_carve 1 = .ok (.invokevirtual 117, 3) := by decide +kernel
theorem dX8_carve_4 : decode cX8_carve 4 = .ok (.aload_n 0, 1) := by decide +kernel
theorem dX8_carve_5 : decode cX8_carve 5 = .ok (.iload_n 1, 1) := by decide +kernel
theorem dX8_carve_6 : decode cX8_carve 6 = .ok (.invokevirtual 136, 3) := by decide +kernel
theorem dX8_carve_9 : decode cX8_carve 9 = .ok (.ifCond .eq 12, 3) := by decide +kernel
theorem dX8_carve_12 : decode cX8_carve 12 = .ok (.iload_n 2, 1) := by decide +kernel
theorem dX8_carve_13 : decode cX8_carve 13 = .ok (.iconst 0, 1) := by decide +kernel
theorem dX8_carve_14 : decode cX8_carve 14 = .ok (.iconst 3, 1) := by decide +kernel
theorem dX8_carve_15 : decode cX8_carve 15 = .ok (.invokestatic 59, 3) := by decide +kernel
theorem dX8_carve_18 : decode cX8_carve 18 = .ok (.ifCond .ne 5, 3) := by decide +kernel
theorem dX8_carve_21 : decode cX8_carve 21 = .ok (.iconst (-1), 1) := by decide +kernel
theorem dX8_carve_22 : decode cX8_carve 22 = .ok (.ireturn, 1) := by decide +kernel
theorem dX8_carve_23 : decode cX8_carve 23 = .ok (.aload_n 0, 1) := by decide +kernel
theorem dX8_carve_24 : decode cX8_carve 24 = .ok (.iload_n 1, 1) := by decide +kernel
theorem dX8_carve_25 : decode cX8_carve 25 = .ok (.iload_n 2, 1) := by decide +kernel
theorem dX8_carve_26 : decode cX8_carve 26 = .ok (.invokevirtual 63, 3) := by decide +kernel
theorem dX8_carve_29 : decode cX8_carve 29 = .ok (.istore_n 3, 1) := by decide +kernel
theorem dX8_carve_30 : decode cX8_carve 30 = .ok (.iload_n 3, 1) := by decide +kernel
theorem dX8_carve_31 : decode cX8_carve 31 = .ok (.ifCond .lt 12, 3) := by decide +kernel
theorem dX8_carve_34 : decode cX8_carve 34 = .ok (.aload_n 0, 1) := by decide +kernel
theorem dX8_carve_35 : decode cX8_carve 35 = .ok (.iload_n 1, 1) := by decide +kernel
theorem dX8_carve_36 : decode cX8_carve 36 = .ok (.iload_n 3, 1) := by decide +kernel
theorem dX8_carve_37 : decode cX8_carve 37 = .ok (.invokevirtual 124, 3) := by decide +kernel
theorem dX8_carve_40 : decode cX8_carve 40 = .ok (.ifCond .eq 6, 3) := by decide +kernel
theorem dX8_carve_43 : decode cX8_carve 43 = .ok (.bipush (-2), 2) := by decide +kernel
theorem dX8_carve_45 : decode cX8_carve 45 = .ok (.ireturn, 1) := by decide +kernel
theorem dX8_carve_46 : decode cX8_carve 46 = .ok (.aload_n 0, 1) := by decide +kernel
theorem dX8_carve_47 : decode cX8_carve 47 = .ok (.getfield 7, 3) := by decide +kernel
theorem dX8_carve_50 : decode cX8_carve 50 = .ok (.bipush 42, 2) := by decide +kernel
theorem dX8_carve_52 : decode cX8_carve 52 = .ok (.aload_n 0, 1) := by decide +kernel
theorem dX8_carve_53 : decode cX8_carve 53 = .ok (.iload_n 1, 1) := by decide +kernel
theorem dX8_carve_54 : decode cX8_carve 54 = .ok (.iload_n 2, 1) := by decide +kernel
theorem dX8_carve_55 : decode cX8_carve 55 = .ok (.invokevirtual 67, 3) := by decide +kernel
theorem dX8_carve_58 : decode cX8_carve 58 = .ok (.iadd, 1) := by decide +kernel
theorem dX8_carve_59 : decode cX8_carve 59 = .ok (.iconst 1, 1) := by decide +kernel
theorem dX8_carve_60 : decode cX8_carve 60 = .ok (.iastore, 1) := by decide +kernel
theorem dX8_carve_61 : decode cX8_carve 61 = .ok (.aload_n 0, 1) := by decide +kernel
theorem dX8_carve_62 : decode cX8_carve 62 = .ok (.aload_n 0, 1) := by decide +kernel
theorem dX8_carve_63 : decode cX8_carve 63 = .ok (.invokevirtual 81, 3) := by decide +kernel
theorem dX8_carve_66 : decode cX8_carve 66 = .ok (.invokevirtual 127, 3) := by decide +kernel
theorem dX8_carve_69 : decode cX8_carve 69 = .ok (.ireturn, 1) := by decide +kernel
set_option maxRecDepth 20000 in
theorem ggX8_wall_X8_begins : GoodIn wsX8_wall wsX8_begins := goodIn_r _ [6, 7, 1, 45, 46, 47, 48, 49, 50, 51, 52, 53, 54, 55, 56, 57, 58, 59, 60, 61, 62, 63, 64, 65, 66, 67, 68] (by decide +kernel) (by decide +kernel)
set_option maxRecDepth 20000 in
theorem gX8_wall_X8_begins : GoodIn wsX8_wall (wsV RX8 117 RX8 yX8_begins wsX8_begins) := goodIn_app (goodIn_of _ (by decide +kernel)) ggX8_wall_X8_begins
set_option maxRecDepth 20000 in
theorem ggX8_wall_X8_isCell : GoodIn wsX8_wall wsX8_isCell := goodIn_r _ [11, 12, 13, 14, 5, 15, 1, 16, 17, 18, 45, 46, 47, 48, 49, 50, 51, 52, 53, 54, 55, 56, 57, 58, 59, 60, 61, 62, 63, 64, 65, 66, 67, 68] (by decide +kernel) (by decide +kernel)
set_option maxRecDepth 20000 in
theorem gX8_wall_X8_isCell : GoodIn wsX8_wall (wsV RX8 136 RX8 yX8_isCell wsX8_isCell) := goodIn_app (goodIn_of _ (by decide +kernel)) ggX8_wall_X8_isCell
set_option maxRecDepth 20000 in
theorem ggX8_wall_X8_in : GoodIn wsX8_wall wsX8_in := goodIn_r _ [18] (by decide +kernel) (by decide +kernel)
set_option maxRecDepth 20000 in
theorem gX8_wall_X8_in : GoodIn wsX8_wall (va_wsS RX8 59 yX8_in wsX8_in) := goodIn_app (goodIn_of _ (by decide +kernel)) ggX8_wall_X8_in
set_option maxRecDepth 20000 in
theorem ggX8_wall_X8_isOpen : GoodIn wsX8_wall wsX8_isOpen := goodIn_r _ [22, 1, 23, 24, 25, 5, 26, 27, 28, 29, 30, 45, 46, 47, 48, 49, 50, 51, 52, 53, 54, 55, 56, 57, 58, 59, 60, 61, 62, 63, 64, 65, 66, 67, 68] (by decide +kernel) (by decide +kernel)
set_option maxRecDepth 20000 in
theorem gX8_wall_X8_isOpen : GoodIn wsX8_wall (wsV RX8 70 RX8 yX8_isOpen wsX8_isOpen) := goodIn_app (goodIn_of _ (by decide +kernel)) ggX8_wall_X8_isOpen
set_option maxRecDepth 20000 in
theorem ggX8_wall_X8_numberOf : GoodIn wsX8_wall wsX8_numberOf := goodIn_r _ [30, 23, 24, 25, 5, 26, 1, 45, 46, 47, 48, 49, 50, 51, 52, 53, 54, 55, 56, 57, 58, 59, 60, 61, 62, 63, 64, 65, 66, 67, 68] (by decide +kernel) (by decide +kernel)
set_option maxRecDepth 20000 in
theorem gX8_wall_X8_numberOf : GoodIn wsX8_wall (wsV RX8 67 RX8 yX8_numberOf wsX8_numberOf) := goodIn_app (goodIn_of _ (by decide +kernel)) ggX8_wall_X8_numberOf
set_option maxRecDepth 20000 in
theorem ggX8_wall_X8_parts : GoodIn wsX8_wall wsX8_parts := goodIn_r _ [34, 12, 13, 14, 5, 15, 1, 35, 36, 37, 38, 45, 46, 47, 48, 49, 50, 51, 52, 53, 54, 55, 56, 57, 58, 59, 60, 61, 62, 63, 64, 65, 66, 67, 68] (by decide +kernel) (by decide +kernel)
set_option maxRecDepth 20000 in
theorem gX8_wall_X8_parts : GoodIn wsX8_wall (wsV RX8 81 RX8 yX8_parts wsX8_parts) := goodIn_app (goodIn_of _ (by decide +kernel)) ggX8_wall_X8_parts
set_option maxRecDepth 20000 in
theorem ggX8_wall_X8_acted : GoodIn wsX8_wall wsX8_acted := goodIn_r _ [42, 1, 7, 43, 44, 45, 46, 47, 48, 49, 50, 51, 52, 53, 54, 55, 56, 57, 58, 59, 60, 61, 62, 63, 64, 65, 66, 67, 68] (by decide +kernel) (by decide +kernel)
set_option maxRecDepth 20000 in
theorem gX8_wall_X8_acted : GoodIn wsX8_wall (wsV RX8 127 RX8 yX8_acted wsX8_acted) := goodIn_app (goodIn_of _ (by decide +kernel)) ggX8_wall_X8_acted
theorem dX8_wall_0 : decode cX8_wall 0 = .ok (.aload_n 0, 1) := by decide +kernel
theorem dX8_wall_1 : decode cX8_wall 1 = .ok (.invokevirtual 117, 3) := by decide +kernel
theorem dX8_wall_4 : decode cX8_wall 4 = .ok (.aload_n 0, 1) := by decide +kernel
theorem dX8_wall_5 : decode cX8_wall 5 = .ok (.iload_n 1, 1) := by decide +kernel
theorem dX8_wall_6 : decode cX8_wall 6 = .ok (.invokevirtual 136, 3) := by decide +kernel
theorem dX8_wall_9 : decode cX8_wall 9 = .ok (.ifCond .eq 12, 3) := by decide +kernel
theorem dX8_wall_12 : decode cX8_wall 12 = .ok (.iload_n 2, 1) := by decide +kernel
theorem dX8_wall_13 : decode cX8_wall 13 = .ok (.iconst 0, 1) := by decide +kernel
theorem dX8_wall_14 : decode cX8_wall 14 = .ok (.iconst 3, 1) := by decide +kernel
theorem dX8_wall_15 : decode cX8_wall 15 = .ok (.invokestatic 59, 3) := by decide +kernel
theorem dX8_wall_18 : decode cX8_wall 18 = .ok (.ifCond .ne 5, 3) := by decide +kernel
theorem dX8_wall_21 : decode cX8_wall 21 = .ok (.iconst (-1), 1) := by decide +kernel
theorem dX8_wall_22 : decode cX8_wall 22 = .ok (.ireturn, 1) := by decide +kernel
theorem dX8_wall_23 : decode cX8_wall 23 = .ok (.aload_n 0, 1) := by decide +kernel
theorem dX8_wall_24 : decode cX8_wall 24 = .ok (.iload_n 1, 1) := by decide +kernel
theorem dX8_wall_25 : decode cX8_wall 25 = .ok (.iload_n 2, 1) := by decide +kernel
theorem dX8_wall_26 : decode cX8_wall 26 = .ok (.invokevirtual 70, 3) := by decide +kernel
theorem dX8_wall_29 : decode cX8_wall 29 = .ok (.ifCond .ne 6, 3) := by decide +kernel
theorem dX8_wall_32 : decode cX8_wall 32 = .ok (.bipush (-2), 2) := by decide +kernel
theorem dX8_wall_34 : decode cX8_wall 34 = .ok (.ireturn, 1) := by decide +kernel
theorem dX8_wall_35 : decode cX8_wall 35 = .ok (.aload_n 0, 1) := by decide +kernel
theorem dX8_wall_36 : decode cX8_wall 36 = .ok (.getfield 7, 3) := by decide +kernel
theorem dX8_wall_39 : decode cX8_wall 39 = .ok (.bipush 42, 2) := by decide +kernel
theorem dX8_wall_41 : decode cX8_wall 41 = .ok (.aload_n 0, 1) := by decide +kernel
theorem dX8_wall_42 : decode cX8_wall 42 = .ok (.iload_n 1, 1) := by decide +kernel
theorem dX8_wall_43 : decode cX8_wall 43 = .ok (.iload_n 2, 1) := by decide +kernel
theorem dX8_wall_44 : decode cX8_wall 44 = .ok (.invokevirtual 67, 3) := by decide +kernel
theorem dX8_wall_47 : decode cX8_wall 47 = .ok (.iadd, 1) := by decide +kernel
theorem dX8_wall_48 : decode cX8_wall 48 = .ok (.iconst 0, 1) := by decide +kernel
theorem dX8_wall_49 : decode cX8_wall 49 = .ok (.iastore, 1) := by decide +kernel
theorem dX8_wall_50 : decode cX8_wall 50 = .ok (.aload_n 0, 1) := by decide +kernel
theorem dX8_wall_51 : decode cX8_wall 51 = .ok (.aload_n 0, 1) := by decide +kernel
theorem dX8_wall_52 : decode cX8_wall 52 = .ok (.invokevirtual 81, 3) := by decide +kernel
theorem dX8_wall_55 : decode cX8_wall 55 = .ok (.invokevirtual 127, 3) := by decide +kernel
theorem dX8_wall_58 : decode cX8_wall 58 = .ok (.ireturn, 1) := by decide +kernel
set_option maxRecDepth 20000 in
theorem ggX8_door_X8_begins : GoodIn wsX8_door wsX8_begins := goodIn_r _ [6, 7, 1, 29, 30, 31, 32, 33, 34, 35, 36, 37, 38, 39, 40, 41, 42, 43, 44, 45, 46, 47, 48, 49, 50, 51, 52] (by decide +kernel) (by decide +kernel)
set_option maxRecDepth 20000 in
theorem gX8_door_X8_begins : GoodIn wsX8_door (wsV RX8 117 RX8 yX8_begins wsX8_begins) := goodIn_app (goodIn_of _ (by decide +kernel)) ggX8_door_X8_begins
set_option maxRecDepth 20000 in
theorem ggX8_door_X8_in : GoodIn wsX8_door wsX8_in := goodIn_r _ [10] (by decide +kernel) (by decide +kernel)
set_option maxRecDepth 20000 in
theorem gX8_door_X8_in : GoodIn wsX8_door (va_wsS RX8 59 yX8_in wsX8_in) := goodIn_app (goodIn_of _ (by decide +kernel)) ggX8_door_X8_in
set_option maxRecDepth 20000 in
theorem ggX8_door_X8_isCell : GoodIn wsX8_door wsX8_isCell := goodIn_r _ [14, 15, 16, 17, 5, 18, 1, 8, 9, 10, 29, 30, 31, 32, 33, 34, 35, 36, 37, 38, 39, 40, 41, 42, 43, 44, 45, 46, 47, 48, 49, 50, 51, 52] (by decide +kernel) (by decide +kernel)
set_option maxRecDepth 20000 in
theorem gX8_door_X8_isCell : GoodIn wsX8_door (wsV RX8 136 RX8 yX8_isCell wsX8_isCell) := goodIn_app (goodIn_of _ (by decide +kernel)) ggX8_door_X8_isCell
set_option maxRecDepth 20000 in
theorem ggX8_door_X8_besides : GoodIn wsX8_door wsX8_besides := goodIn_r _ [22, 1, 29, 30, 31, 32, 33, 34, 35, 36, 37, 38, 39, 40, 41, 42, 43, 44, 45, 46, 47, 48, 49, 50, 51, 52] (by decide +kernel) (by decide +kernel)
set_option maxRecDepth 20000 in
theorem gX8_door_X8_besides : GoodIn wsX8_door (wsV RX8 63 RX8 yX8_besides wsX8_besides) := goodIn_app (goodIn_of _ (by decide +kernel)) ggX8_door_X8_besides
set_option maxRecDepth 20000 in
theorem ggX8_door_X8_acted : GoodIn wsX8_door wsX8_acted := goodIn_r _ [26, 1, 7, 27, 28, 29, 30, 31, 32, 33, 34, 35, 36, 37, 38, 39, 40, 41, 42, 43, 44, 45, 46, 47, 48, 49, 50, 51, 52] (by decide +kernel) (by decide +kernel)
set_option maxRecDepth 20000 in
theorem gX8_door_X8_acted : GoodIn wsX8_door (wsV RX8 127 RX8 yX8_acted wsX8_acted) := goodIn_app (goodIn_of _ (by decide +kernel)) ggX8_door_X8_acted
theorem dX8_door_0 : decode cX8_door 0 = .ok (.aload_n 0, 1) := by decide +kernel
theorem dX8_door_1 : decode cX8_door 1 = .ok (.invokevirtual 117, 3) := by decide +kernel
theorem dX8_door_4 : decode cX8_door 4 = .ok (.iload_n 1, 1) := by decide +kernel
theorem dX8_door_5 : decode cX8_door 5 = .ok (.iconst 0, 1) := by decide +kernel
theorem dX8_door_6 : decode cX8_door 6 = .ok (.iconst 1, 1) := by decide +kernel
theorem dX8_door_7 : decode cX8_door 7 = .ok (.invokestatic 59, 3) := by decide +kernel
theorem dX8_door_10 : decode cX8_door 10 = .ok (.ifCond .eq 20, 3) := by decide +kernel
theorem dX8_door_13 : decode cX8_door 13 = .ok (.aload_n 0, 1) := by decide +kernel
theorem dX8_door_14 : decode cX8_door 14 = .ok (.iload_n 2, 1) := by decide +kernel
theorem dX8_door_15 : decode cX8_door 15 = .ok (.invokevirtual 136, 3) := by decide +kernel
theorem dX8_door_18 : decode cX8_door 18 = .ok (.ifCond .eq 12, 3) := by decide +kernel
theorem dX8_door_21 : decode cX8_door 21 = .ok (.iload_n 3, 1) := by decide +kernel
theorem dX8_door_22 : decode cX8_door 22 = .ok (.iconst 0, 1) := by decide +kernel
theorem dX8_door_23 : decode cX8_door 23 = .ok (.iconst 3, 1) := by decide +kernel
theorem dX8_door_24 : decode cX8_door 24 = .ok (.invokestatic 59, 3) := by decide +kernel
theorem dX8_door_27 : decode cX8_door 27 = .ok (.ifCond .ne 5, 3) := by decide +kernel
theorem dX8_door_30 : decode cX8_door 30 = .ok (.iconst (-1), 1) := by decide +kernel
theorem dX8_door_31 : decode cX8_door 31 = .ok (.ireturn, 1) := by decide +kernel
theorem dX8_door_32 : decode cX8_door 32 = .ok (.iconst 4, 1) := by decide +kernel
theorem dX8_door_33 : decode cX8_door 33 = .ok (.iconst 2, 1) := by decide +kernel
theorem dX8_door_34 : decode cX8_door 34 = .ok (.iload_n 1, 1) := by decide +kernel
theorem dX8_door_35 : decode cX8_door 35 = .ok (.imul, 1) := by decide +kernel
theorem dX8_door_36 : decode cX8_door 36 = .ok (.isub, 1) := by decide +kernel
theorem dX8_door_37 : decode cX8_door 37 = .ok (.istore 4, 2) := by decide +kernel
theorem dX8_door_39 : decode cX8_door 39 = .ok (.aload_n 0, 1) := by decide +kernel
theorem dX8_door_40 : decode cX8_door 40 = .ok (.iload_n 2, 1) := by decide +kernel
theorem dX8_door_41 : decode cX8_door 41 = .ok (.iload_n 3, 1) := by decide +kernel
theorem dX8_door_42 : decode cX8_door 42 = .ok (.invokevirtual 63, 3) := by decide +kernel
theorem dX8_door_45 : decode cX8_door 45 = .ok (.ifCond .ge 27, 3) := by decide +kernel
theorem dX8_door_48 : decode cX8_door 48 = .ok (.aload_n 0, 1) := by decide +kernel
theorem dX8_door_49 : decode cX8_door 49 = .ok (.getfield 7, 3) := by decide +kernel
theorem dX8_door_52 : decode cX8_door 52 = .ok (.iload 4, 2) := by decide +kernel
theorem dX8_door_54 : decode cX8_door 54 = .ok (.iaload, 1) := by decide +kernel
theorem dX8_door_55 : decode cX8_door 55 = .ok (.iload_n 2, 1) := by decide +kernel
theorem dX8_door_56 : decode cX8_door 56 = .ok (.if_icmp .ne 19, 3) := by decide +kernel
theorem dX8_door_59 : decode cX8_door 59 = .ok (.aload_n 0, 1) := by decide +kernel
theorem dX8_door_60 : decode cX8_door 60 = .ok (.getfield 7, 3) := by decide +kernel
theorem dX8_door_63 : decode cX8_door 63 = .ok (.iload 4, 2) := by decide +kernel
theorem dX8_door_65 : decode cX8_door 65 = .ok (.iconst 1, 1) := by decide +kernel
theorem dX8_door_66 : decode cX8_door 66 = .ok (.iadd, 1) := by decide +kernel
theorem dX8_door_67 : decode cX8_door 67 = .ok (.iaload, 1) := by decide +kernel
theorem dX8_door_68 : decode cX8_door 68 = .ok (.iload_n 3, 1) := by decide +kernel
theorem dX8_door_69 : decode cX8_door 69 = .ok (.if_icmp .ne 6, 3) := by decide +kernel
theorem dX8_door_72 : decode cX8_door 72 = .ok (.bipush (-2), 2) := by decide +kernel
theorem dX8_door_74 : decode cX8_door 74 = .ok (.ireturn, 1) := by decide +kernel
theorem dX8_door_75 : decode cX8_door 75 = .ok (.aload_n 0, 1) := by decide +kernel
theorem dX8_door_76 : decode cX8_door 76 = .ok (.getfield 7, 3) := by decide +kernel
theorem dX8_door_79 : decode cX8_door 79 = .ok (.iconst 2, 1) := by decide +kernel
theorem dX8_door_80 : decode cX8_door 80 = .ok (.iconst 2, 1) := by decide +kernel
theorem dX8_door_81 : decode cX8_door 81 = .ok (.iload_n 1, 1) := by decide +kernel
theorem dX8_door_82 : decode cX8_door 82 = .ok (.imul, 1) := by decide +kernel
theorem dX8_door_83 : decode cX8_door 83 = .ok (.iadd, 1) := by decide +kernel
theorem dX8_door_84 : decode cX8_door 84 = .ok (.iaload, 1) := by decide +kernel
theorem dX8_door_85 : decode cX8_door 85 = .ok (.istore 5, 2) := by decide +kernel
theorem dX8_door_87 : decode cX8_door 87 = .ok (.aload_n 0, 1) := by decide +kernel
theorem dX8_door_88 : decode cX8_door 88 = .ok (.getfield 7, 3) := by decide +kernel
theorem dX8_door_91 : decode cX8_door 91 = .ok (.iconst 2, 1) := by decide +kernel
theorem dX8_door_92 : decode cX8_door 92 = .ok (.iconst 2, 1) := by decide +kernel
theorem dX8_door_93 : decode cX8_door 93 = .ok (.iload_n 1, 1) := by decide +kernel
theorem dX8_door_94 : decode cX8_door 94 = .ok (.imul, 1) := by decide +kernel
theorem dX8_door_95 : decode cX8_door 95 = .ok (.iadd, 1) := by decide +kernel
theorem dX8_door_96 : decode cX8_door 96 = .ok (.iload_n 2, 1) := by decide +kernel
theorem dX8_door_97 : decode cX8_door 97 = .ok (.iastore, 1) := by decide +kernel
theorem dX8_door_98 : decode cX8_door 98 = .ok (.aload_n 0, 1) := by decide +kernel
theorem dX8_door_99 : decode cX8_door 99 = .ok (.getfield 7, 3) := by decide +kernel
theorem dX8_door_102 : decode cX8_door 102 = .ok (.iconst 2, 1) := by decide +kernel
theorem dX8_door_103 : decode cX8_door 103 = .ok (.iconst 2, 1) := by decide +kernel
theorem dX8_door_104 : decode cX8_door 104 = .ok (.iload_n 1, 1) := by decide +kernel
theorem dX8_door_105 : decode cX8_door 105 = .ok (.imul, 1) := by decide +kernel
theorem dX8_door_106 : decode cX8_door 106 = .ok (.iadd, 1) := by decide +kernel
theorem dX8_door_107 : decode cX8_door 107 = .ok (.iconst 1, 1) := by decide +kernel
theorem dX8_door_108 : decode cX8_door 108 = .ok (.iadd, 1) := by decide +kernel
theorem dX8_door_109 : decode cX8_door 109 = .ok (.iload_n 3, 1) := by decide +kernel
theorem dX8_door_110 : decode cX8_door 110 = .ok (.iastore, 1) := by decide +kernel
theorem dX8_door_111 : decode cX8_door 111 = .ok (.aload_n 0, 1) := by decide +kernel
theorem dX8_door_112 : decode cX8_door 112 = .ok (.iload 5, 2) := by decide +kernel
theorem dX8_door_114 : decode cX8_door 114 = .ok (.invokevirtual 127, 3) := by decide +kernel
theorem dX8_door_117 : decode cX8_door 117 = .ok (.ireturn, 1) := by decide +kernel
set_option maxRecDepth 20000 in
theorem ggX8_directions_X8_isOpen : GoodIn wsX8_directions wsX8_isOpen := goodIn_r _ [5, 6, 7, 8, 9, 4, 10, 11, 12, 13, 14, 15, 16, 17, 18, 19, 20, 21, 22, 23, 24, 25, 26, 27, 28, 29, 30, 31, 32, 33, 34, 35, 36, 37, 38] (by decide +kernel) (by decide +kernel)
set_option maxRecDepth 20000 in
theorem gX8_directions_X8_isOpen : GoodIn wsX8_directions (wsV RX8 70 RX8 yX8_isOpen wsX8_isOpen) := goodIn_app (goodIn_of _ (by decide +kernel)) ggX8_directions_X8_isOpen
theorem dX8_directions_0 : decode cX8_directions 0 = .ok (.iconst 0, 1) := by decide +kernel
theorem dX8_directions_1 : decode cX8_directions 1 = .ok (.istore_n 2, 1) := by decide +kernel
theorem dX8_directions_2 : decode cX8_directions 2 = .ok (.iconst 0, 1) := by decide +kernel
theorem dX8_directions_3 : decode cX8_directions 3 = .ok (.istore_n 3, 1) := by decide +kernel
theorem dX8_directions_4 : decode cX8_directions 4 = .ok (.iload_n 3, 1) := by decide +kernel
theorem dX8_directions_5 : decode cX8_directions 5 = .ok (.iconst 4, 1) := by decide +kernel
theorem dX8_directions_6 : decode cX8_directions 6 = .ok (.if_icmp .ge 28, 3) := by decide +kernel
theorem dX8_directions_9 : decode cX8_directions 9 = .ok (.iload_n 2, 1) := by decide +kernel
theorem dX8_directions_10 : decode cX8_directions 10 = .ok (.aload_n 0, 1) := by decide +kernel
theorem dX8_directions_11 : decode cX8_directions 11 = .ok (.iload_n 1, 1) := by decide +kernel
theorem dX8_directions_12 : decode cX8_directions 12 = .ok (.iload_n 3, 1) := by decide +kernel
theorem dX8_directions_13 : decode cX8_directions 13 = .ok (.invokevirtual 70, 3) := by decide +kernel
theorem dX8_directions_16 : decode cX8_directions 16 = .ok (.ifCond .eq 9, 3) := by decide +kernel
theorem dX8_directions_19 : decode cX8_directions 19 = .ok (.iconst 1, 1) := by decide +kernel
theorem dX8_directions_20 : decode cX8_directions 20 = .ok (.iload_n 3, 1) := by decide +kernel
theorem dX8_directions_21 : decode cX8_directions 21 = .ok (.ishl, 1) := by decide +kernel
theorem dX8_directions_22 : decode cX8_directions 22 = .ok (.goto 4, 3) := by decide +kernel
theorem dX8_directions_25 : decode cX8_directions 25 = .ok (.iconst 0, 1) := by decide +kernel
theorem dX8_directions_26 : decode cX8_directions 26 = .ok (.ior, 1) := by decide +kernel
theorem dX8_directions_27 : decode cX8_directions 27 = .ok (.istore_n 2, 1) := by decide +kernel
theorem dX8_directions_28 : decode cX8_directions 28 = .ok (.iinc 3 1, 3) := by decide +kernel
theorem dX8_directions_31 : decode cX8_directions 31 = .ok (.goto (-27), 3) := by decide +kernel
theorem dX8_directions_34 : decode cX8_directions 34 = .ok (.iload_n 2, 1) := by decide +kernel
theorem dX8_directions_35 : decode cX8_directions 35 = .ok (.ireturn, 1) := by decide +kernel
set_option maxRecDepth 20000 in
theorem ggX8_partOf_X8_measures : GoodIn wsX8_partOf wsX8_measures := goodIn_r _ [6, 1, 7, 8, 9, 10, 5, 11, 12, 13, 14, 15, 16, 17, 18, 19, 20, 21, 22, 23, 24, 25, 26, 27, 28, 29, 30, 31, 32, 33, 34, 35, 36, 37, 38, 39, 40, 41, 42, 43, 44, 45, 46, 47, 48] (by decide +kernel) (by decide +kernel)
set_option maxRecDepth 20000 in
theorem gX8_partOf_X8_measures : GoodIn wsX8_partOf (wsV RX8 74 RX8 yX8_measures wsX8_measures) := goodIn_app (goodIn_of _ (by decide +kernel)) ggX8_partOf_X8_measures
set_option maxRecDepth 20000 in
theorem ggX8_partOf_X8_cells : GoodIn wsX8_partOf wsX8_cells := goodIn_r _ [11, 12, 25, 26, 27, 28, 29, 30, 31, 32, 33, 34, 35, 36, 37, 38, 39, 40, 41, 42, 43, 44, 45, 46, 47, 48] (by decide +kernel) (by decide +kernel)
set_option maxRecDepth 20000 in
theorem gX8_partOf_X8_cells : GoodIn wsX8_partOf (wsV RX8 55 RX8 yX8_cells wsX8_cells) := goodIn_app (goodIn_of _ (by decide +kernel)) ggX8_partOf_X8_cells
theorem dX8_partOf_0 : decode cX8_partOf 0 = .ok (.aload_n 0, 1) := by decide +kernel
theorem dX8_partOf_1 : decode cX8_partOf 1 = .ok (.iload_n 1, 1) := by decide +kernel
theorem dX8_partOf_2 : decode cX8_partOf 2 = .ok (.invokevirtual 74, 3) := by decide +kernel
theorem dX8_partOf_5 : decode cX8_partOf 5 = .ok (.iconst (-1), 1) := by decide +kernel
theorem dX8_partOf_6 : decode cX8_partOf 6 = .ok (.istore_n 3, 1) := by decide +kernel
theorem dX8_partOf_7 : decode cX8_partOf 7 = .ok (.iconst 0, 1) := by decide +kernel
theorem dX8_partOf_8 : decode cX8_partOf 8 = .ok (.istore 4, 2) := by decide +kernel
theorem dX8_partOf_10 : decode cX8_partOf 10 = .ok (.iconst 0, 1) := by decide +kernel
theorem dX8_partOf_11 : decode cX8_partOf 11 = .ok (.istore 5, 2) := by decide +kernel
theorem dX8_partOf_13 : decode cX8_partOf 13 = .ok (.iload 5, 2) := by decide +kernel
theorem dX8_partOf_15 : decode cX8_partOf 15 = .ok (.aload_n 0, 1) := by decide +kernel
theorem dX8_partOf_16 : decode cX8_partOf 16 = .ok (.invokevirtual 55, 3) := by decide +kernel
theorem dX8_partOf_19 : decode cX8_partOf 19 = .ok (.if_icmp .ge 50, 3) := by decide +kernel
theorem dX8_partOf_22 : decode cX8_partOf 22 = .ok (.iload_n 3, 1) := by decide +kernel
theorem dX8_partOf_23 : decode cX8_partOf 23 = .ok (.ifCond .ge 18, 3) := by decide +kernel
theorem dX8_partOf_26 : decode cX8_partOf 26 = .ok (.aload_n 0, 1) := by decide +kernel
theorem dX8_partOf_27 : decode cX8_partOf 27 = .ok (.getfield 25, 3) := by decide +kernel
theorem dX8_partOf_30 : decode cX8_partOf 30 = .ok (.iload 5, 2) := by decide +kernel
theorem dX8_partOf_32 : decode cX8_partOf 32 = .ok (.iaload, 1) := by decide +kernel
theorem dX8_partOf_33 : decode cX8_partOf 33 = .ok (.ifCond .lt 8, 3) := by decide +kernel
theorem dX8_partOf_36 : decode cX8_partOf 36 = .ok (.iload 5, 2) := by decide +kernel
theorem dX8_partOf_38 : decode cX8_partOf 38 = .ok (.goto 4, 3) := by decide +kernel
theorem dX8_partOf_41 : decode cX8_partOf 41 = .ok (.iload_n 3, 1) := by decide +kernel
theorem dX8_partOf_42 : decode cX8_partOf 42 = .ok (.istore_n 3, 1) := by decide +kernel
theorem dX8_partOf_43 : decode cX8_partOf 43 = .ok (.iload 4, 2) := by decide +kernel
theorem dX8_partOf_45 : decode cX8_partOf 45 = .ok (.aload_n 0, 1) := by decide +kernel
theorem dX8_partOf_46 : decode cX8_partOf 46 = .ok (.getfield 25, 3) := by decide +kernel
theorem dX8_partOf_49 : decode cX8_partOf 49 = .ok (.iload 5, 2) := by decide +kernel
theorem dX8_partOf_51 : decode cX8_partOf 51 = .ok (.iaload, 1) := by decide +kernel
theorem dX8_partOf_52 : decode cX8_partOf 52 = .ok (.ifCond .lt 7, 3) := by decide +kernel
theorem dX8_partOf_55 : decode cX8_partOf 55 = .ok (.iconst 1, 1) := by decide +kernel
theorem dX8_partOf_56 : decode cX8_partOf 56 = .ok (.goto 4, 3) := by decide +kernel
theorem dX8_partOf_59 : decode cX8_partOf 59 = .ok (.iconst 0, 1) := by decide +kernel
theorem dX8_partOf_60 : decode cX8_partOf 60 = .ok (.iadd, 1) := by decide +kernel
theorem dX8_partOf_61 : decode cX8_partOf 61 = .ok (.istore 4, 2) := by decide +kernel
theorem dX8_partOf_63 : decode cX8_partOf 63 = .ok (.iinc 5 1, 3) := by decide +kernel
theorem dX8_partOf_66 : decode cX8_partOf 66 = .ok (.goto (-53), 3) := by decide +kernel
theorem dX8_partOf_69 : decode cX8_partOf 69 = .ok (.iload_n 2, 1) := by decide +kernel
theorem dX8_partOf_70 : decode cX8_partOf 70 = .ok (.ifCond .eq 7, 3) := by decide +kernel
theorem dX8_partOf_73 : decode cX8_partOf 73 = .ok (.iload_n 3, 1) := by decide +kernel
theorem dX8_partOf_74 : decode cX8_partOf 74 = .ok (.goto 5, 3) := by decide +kernel
theorem dX8_partOf_77 : decode cX8_partOf 77 = .ok (.iload 4, 2) := by decide +kernel
theorem dX8_partOf_79 : decode cX8_partOf 79 = .ok (.ireturn, 1) := by decide +kernel
theorem dX8_orNone_0 : decode cX8_orNone 0 = .ok (.iload_n 0, 1) := by decide +kernel
theorem dX8_orNone_1 : decode cX8_orNone 1 = .ok (.ifCond .ge 8, 3) := by decide +kernel
theorem dX8_orNone_4 : decode cX8_orNone 4 = .ok (.bipush (-4), 2) := by decide +kernel
theorem dX8_orNone_6 : decode cX8_orNone 6 = .ok (.goto 4, 3) := by decide +kernel
theorem dX8_orNone_9 : decode cX8_orNone 9 = .ok (.iload_n 0, 1) := by decide +kernel
theorem dX8_orNone_10 : decode cX8_orNone 10 = .ok (.ireturn, 1) := by decide +kernel
set_option maxRecDepth 20000 in
theorem ggX8_onWay_X8_findsWay : GoodIn wsX8_onWay wsX8_findsWay := goodIn_r _ [7, 2, 8, 9, 1, 10, 11, 12, 13, 14, 6, 15, 16, 17, 18, 19, 20, 21, 22, 23, 24, 25, 26, 27, 28, 29, 30, 31, 32, 33, 34, 35, 36, 37, 38, 39, 40, 41, 42, 43, 44, 45, 46, 47, 48, 49, 50, 51, 52, 53, 54, 55, 56] (by decide +kernel) (by decide +kernel)
set_option maxRecDepth 20000 in
theorem gX8_onWay_X8_findsWay : GoodIn wsX8_onWay (wsV RX8 90 RX8 yX8_findsWay wsX8_findsWay) := goodIn_app (goodIn_of _ (by decide +kernel)) ggX8_onWay_X8_findsWay
theorem dX8_onWay_0 : decode cX8_onWay 0 = .ok (.aload_n 0, 1) := by decide +kernel
theorem dX8_onWay_1 : decode cX8_onWay 1 = .ok (.aload_n 0, 1) := by decide +kernel
theorem dX8_onWay_2 : decode cX8_onWay 2 = .ok (.getfield 7, 3) := by decide +kernel
theorem dX8_onWay_5 : decode cX8_onWay 5 = .ok (.iconst 4, 1) := by decide +kernel
theorem dX8_onWay_6 : decode cX8_onWay 6 = .ok (.iaload, 1) := by decide +kernel
theorem dX8_onWay_7 : decode cX8_onWay 7 = .ok (.invokevirtual 90, 3) := by decide +kernel
theorem dX8_onWay_10 : decode cX8_onWay 10 = .ok (.istore_n 2, 1) := by decide +kernel
theorem dX8_onWay_11 : decode cX8_onWay 11 = .ok (.aload_n 0, 1) := by decide +kernel
theorem dX8_onWay_12 : decode cX8_onWay 12 = .ok (.getfield 31, 3) := by decide +kernel
theorem dX8_onWay_15 : decode cX8_onWay 15 = .ok (.iload_n 1, 1) := by decide +kernel
theorem dX8_onWay_16 : decode cX8_onWay 16 = .ok (.baload, 1) := by decide +kernel
theorem dX8_onWay_17 : decode cX8_onWay 17 = .ok (.ifCond .eq 7, 3) := by decide +kernel
theorem dX8_onWay_20 : decode cX8_onWay 20 = .ok (.iconst 1, 1) := by decide +kernel
theorem dX8_onWay_21 : decode cX8_onWay 21 = .ok (.goto 4, 3) := by decide +kernel
theorem dX8_onWay_24 : decode cX8_onWay 24 = .ok (.iconst 0, 1) := by decide +kernel
theorem dX8_onWay_25 : decode cX8_onWay 25 = .ok (.ireturn, 1) := by decide +kernel
set_option maxRecDepth 20000 in
theorem ggX8_cellOf_X8_isCell : GoodIn wsX8_cellOf wsX8_isCell := goodIn_r _ [8, 9, 10, 11, 7, 12, 1, 13, 14, 15, 61, 62, 63, 64, 65, 66, 67, 68, 69, 70, 71, 72, 73, 74, 75, 76, 77, 78, 79, 80, 81, 82, 83, 84] (by decide +kernel) (by decide +kernel)
set_option maxRecDepth 20000 in
theorem gX8_cellOf_X8_isCell : GoodIn wsX8_cellOf (wsV RX8 136 RX8 yX8_isCell wsX8_isCell) := goodIn_app (goodIn_of _ (by decide +kernel)) ggX8_cellOf_X8_isCell
set_option maxRecDepth 20000 in
theorem ggX8_cellOf_X8_in : GoodIn wsX8_cellOf wsX8_in := goodIn_r _ [15] (by decide +kernel) (by decide +kernel)
set_option maxRecDepth 20000 in
theorem gX8_cellOf_X8_in : GoodIn wsX8_cellOf (va_wsS RX8 59 yX8_in wsX8_in) := goodIn_app (goodIn_of _ (by decide +kernel)) ggX8_cellOf_X8_in
set_option maxRecDepth 20000 in
theorem ggX8_cellOf_X8_directions : GoodIn wsX8_cellOf wsX8_directions := goodIn_r _ [19, 20, 21, 22, 7, 23, 1, 24, 25, 26, 27, 28, 29, 30, 31, 61, 62, 63, 64, 65, 66, 67, 68, 69, 70, 71, 72, 73, 74, 75, 76, 77, 78, 79, 80, 81, 82, 83, 84] (by decide +kernel) (by decide +kernel)
set_option maxRecDepth 20000 in
theorem gX8_cellOf_X8_directions : GoodIn wsX8_cellOf (wsV RX8 139 RX8 yX8_directions wsX8_directions) := goodIn_app (goodIn_of _ (by decide +kernel)) ggX8_cellOf_X8_directions
set_option maxRecDepth 20000 in
theorem ggX8_cellOf_X8_partOf : GoodIn wsX8_cellOf wsX8_partOf := goodIn_r _ [35, 2, 36, 37, 38, 7, 39, 40, 9, 10, 11, 12, 1, 20, 21, 22, 23, 24, 25, 26, 27, 28, 29, 30, 31, 61, 62, 63, 64, 65, 66, 67, 68, 69, 70, 71, 72, 73, 74, 75, 76, 77, 78, 79, 80, 81, 82, 83, 84] (by decide +kernel) (by decide +kernel)
set_option maxRecDepth 20000 in
theorem gX8_cellOf_X8_partOf : GoodIn wsX8_cellOf (wsV RX8 142 RX8 yX8_partOf wsX8_partOf) := goodIn_app (goodIn_of _ (by decide +kernel)) ggX8_cellOf_X8_partOf
set_option maxRecDepth 20000 in
theorem ggX8_cellOf_X8_measures : GoodIn wsX8_cellOf wsX8_measures := goodIn_r _ [39, 2, 40, 9, 10, 11, 7, 12, 1, 20, 21, 22, 23, 24, 25, 26, 27, 28, 29, 30, 31, 61, 62, 63, 64, 65, 66, 67, 68, 69, 70, 71, 72, 73, 74, 75, 76, 77, 78, 79, 80, 81, 82, 83, 84] (by decide +kernel) (by decide +kernel)
set_option maxRecDepth 20000 in
theorem gX8_cellOf_X8_measures : GoodIn wsX8_cellOf (wsV RX8 74 RX8 yX8_measures wsX8_measures) := goodIn_app (goodIn_of _ (by decide +kernel)) ggX8_cellOf_X8_measures
set_option maxRecDepth 20000 in
theorem ggX8_cellOf_X8_orNone : GoodIn wsX8_cellOf wsX8_orNone := goodIn_r _ [43] (by decide +kernel) (by decide +kernel)
set_option maxRecDepth 20000 in
theorem gX8_cellOf_X8_orNone : GoodIn wsX8_cellOf (va_wsS RX8 146 yX8_orNone wsX8_orNone) := goodIn_app (goodIn_of _ (by decide +kernel)) ggX8_cellOf_X8_orNone
set_option maxRecDepth 20000 in
theorem ggX8_cellOf_X8_onWay : GoodIn wsX8_cellOf wsX8_onWay := goodIn_r _ [47, 1, 48, 49, 50, 51, 7, 52, 53, 54, 2, 55, 9, 10, 11, 12, 36, 37, 38, 39, 40, 20, 21, 22, 23, 24, 25, 26, 27, 28, 29, 30, 31, 61, 62, 63, 64, 65, 66, 67, 68, 69, 70, 71, 72, 73, 74, 75, 76, 77, 78, 79, 80, 81, 82, 83, 84] (by decide +kernel) (by decide +kernel)
set_option maxRecDepth 20000 in
theorem gX8_cellOf_X8_onWay : GoodIn wsX8_cellOf (wsV RX8 149 RX8 yX8_onWay wsX8_onWay) := goodIn_app (goodIn_of _ (by decide +kernel)) ggX8_cellOf_X8_onWay
set_option maxRecDepth 20000 in
theorem ggX8_cellOf_X8_walks : GoodIn wsX8_cellOf wsX8_walks := goodIn_r _ [59, 3, 60, 1, 20, 21, 22, 7, 23, 24, 25, 26, 27, 28, 29, 30, 31, 61, 62, 63, 64, 65, 66, 67, 68, 69, 70, 71, 72, 73, 74, 75, 76, 77, 78, 79, 80, 81, 82, 83, 84] (by decide +kernel) (by decide +kernel)
set_option maxRecDepth 20000 in
theorem gX8_cellOf_X8_walks : GoodIn wsX8_cellOf (wsV RX8 152 RX8 yX8_walks wsX8_walks) := goodIn_app (goodIn_of _ (by decide +kernel)) ggX8_cellOf_X8_walks
theorem dX8_cellOf_0 : decode cX8_cellOf 0 = .ok (.aload_n 0, 1) := by decide +kernel
theorem dX8_cellOf_1 : decode cX8_cellOf 1 = .ok (.iload_n 1, 1) := by decide +kernel
theorem dX8_cellOf_2 : decode cX8_cellOf 2 = .ok (.invokevirtual 136, 3) := by decide +kernel
theorem dX8_cellOf_5 : decode cX8_cellOf 5 = .ok (.ifCond .eq 13, 3) := by decide +kernel
theorem dX8_cellOf_8 : decode cX8_cellOf 8 = .ok (.iload_n 2, 1) := by decide +kernel
theorem dX8_cellOf_9 : decode cX8_cellOf 9 = .ok (.iconst 0, 1) := by decide +kernel
theorem dX8_cellOf_10 : decode cX8_cellOf 10 = .ok (.bipush 6, 2) := by decide +kernel
theorem dX8_cellOf_12 : decode cX8_cellOf 12 = .ok (.invokestatic 59, 3) := by decide +kernel
theorem dX8_cellOf_15 : decode cX8_cellOf 15 = .ok (.ifCond .ne 5, 3) := by decide +kernel
theorem dX8_cellOf_18 : decode cX8_cellOf 18 = .ok (.iconst (-1), 1) := by decide +kernel
theorem dX8_cellOf_19 : decode cX8_cellOf 19 = .ok (.ireturn, 1) := by decide +kernel
theorem dX8_cellOf_20 : decode cX8_cellOf 20 = .ok (.iload_n 2, 1) := by decide +kernel
theorem dX8_cellOf_21 : decode cX8_cellOf 21 = .ok (.tableswitch 95 0 5 #[39, 49, 55, 62, 69, 89], 39) := by decide +kernel
theorem dX8_cellOf_60 : decode cX8_cellOf 60 = .ok (.aload_n 0, 1) := by decide +kernel
theorem dX8_cellOf_61 : decode cX8_cellOf 61 = .ok (.getfield 7, 3) := by decide +kernel
theorem dX8_cellOf_64 : decode cX8_cellOf 64 = .ok (.bipush 6, 2) := by decide +kernel
theorem dX8_cellOf_66 : decode cX8_cellOf 66 = .ok (.iload_n 1, 1) := by decide +kernel
theorem dX8_cellOf_67 : decode cX8_cellOf 67 = .ok (.iadd, 1) := by decide +kernel
theorem dX8_cellOf_68 : decode cX8_cellOf 68 = .ok (.iaload, 1) := by decide +kernel
theorem dX8_cellOf_69 : decode cX8_cellOf 69 = .ok (.ireturn, 1) := by decide +kernel
theorem dX8_cellOf_70 : decode cX8_cellOf 70 = .ok (.aload_n 0, 1) := by decide +kernel
theorem dX8_cellOf_71 : decode cX8_cellOf 71 = .ok (.iload_n 1, 1) := by decide +kernel
theorem dX8_cellOf_72 : decode cX8_cellOf 72 = .ok (.invokevirtual 139, 3) := by decide +kernel
theorem dX8_cellOf_75 : decode cX8_cellOf 75 = .ok (.ireturn, 1) := by decide +kernel
theorem dX8_cellOf_76 : decode cX8_cellOf 76 = .ok (.aload_n 0, 1) := by decide +kernel
theorem dX8_cellOf_77 : decode cX8_cellOf 77 = .ok (.iload_n 1, 1) := by decide +kernel
theorem dX8_cellOf_78 : decode cX8_cellOf 78 = .ok (.iconst 1, 1) := by decide +kernel
theorem dX8_cellOf_79 : decode cX8_cellOf 79 = .ok (.invokevirtual 142, 3) := by decide +kernel
theorem dX8_cellOf_82 : decode cX8_cellOf 82 = .ok (.ireturn, 1) := by decide +kernel
theorem dX8_cellOf_83 : decode cX8_cellOf 83 = .ok (.aload_n 0, 1) := by decide +kernel
theorem dX8_cellOf_84 : decode cX8_cellOf 84 = .ok (.iload_n 1, 1) := by decide +kernel
theorem dX8_cellOf_85 : decode cX8_cellOf 85 = .ok (.iconst 0, 1) := by decide +kernel
theorem dX8_cellOf_86 : decode cX8_cellOf 86 = .ok (.invokevirtual 142, 3) := by decide +kernel
theorem dX8_cellOf_89 : decode cX8_cellOf 89 = .ok (.ireturn, 1) := by decide +kernel
theorem dX8_cellOf_90 : decode cX8_cellOf 90 = .ok (.aload_n 0, 1) := by decide +kernel
theorem dX8_cellOf_91 : decode cX8_cellOf 91 = .ok (.aload_n 0, 1) := by decide +kernel
theorem dX8_cellOf_92 : decode cX8_cellOf 92 = .ok (.getfield 7, 3) := by decide +kernel
theorem dX8_cellOf_95 : decode cX8_cellOf 95 = .ok (.iconst 2, 1) := by decide +kernel
theorem dX8_cellOf_96 : decode cX8_cellOf 96 = .ok (.iaload, 1) := by decide +kernel
theorem dX8_cellOf_97 : decode cX8_cellOf 97 = .ok (.invokevirtual 74, 3) := by decide +kernel
theorem dX8_cellOf_100 : decode cX8_cellOf 100 = .ok (.aload_n 0, 1) := by decide +kernel
theorem dX8_cellOf_101 : decode cX8_cellOf 101 = .ok (.getfield 25, 3) := by decide +kernel
theorem dX8_cellOf_104 : decode cX8_cellOf 104 = .ok (.iload_n 1, 1) := by decide +kernel
theorem dX8_cellOf_105 : decode cX8_cellOf 105 = .ok (.iaload, 1) := by decide +kernel
theorem dX8_cellOf_106 : decode cX8_cellOf 106 = .ok (.invokestatic 146, 3) := by decide +kernel
theorem dX8_cellOf_109 : decode cX8_cellOf 109 = .ok (.ireturn, 1) := by decide +kernel
theorem dX8_cellOf_110 : decode cX8_cellOf 110 = .ok (.aload_n 0, 1) := by decide +kernel
theorem dX8_cellOf_111 : decode cX8_cellOf 111 = .ok (.iload_n 1, 1) := by decide +kernel
theorem dX8_cellOf_112 : decode cX8_cellOf 112 = .ok (.invokevirtual 149, 3) := by decide +kernel
theorem dX8_cellOf_115 : decode cX8_cellOf 115 = .ok (.ireturn, 1) := by decide +kernel
theorem dX8_cellOf_116 : decode cX8_cellOf 116 = .ok (.aload_n 0, 1) := by decide +kernel
theorem dX8_cellOf_117 : decode cX8_cellOf 117 = .ok (.invokevirtual 152, 3) := by decide +kernel
theorem dX8_cellOf_120 : decode cX8_cellOf 120 = .ok (.ifCond .eq 12, 3) := by decide +kernel
theorem dX8_cellOf_123 : decode cX8_cellOf 123 = .ok (.aload_n 0, 1) := by decide +kernel
theorem dX8_cellOf_124 : decode cX8_cellOf 124 = .ok (.getfield 38, 3) := by decide +kernel
theorem dX8_cellOf_127 : decode cX8_cellOf 127 = .ok (.iload_n 1, 1) := by decide +kernel
theorem dX8_cellOf_128 : decode cX8_cellOf 128 = .ok (.iaload, 1) := by decide +kernel
theorem dX8_cellOf_129 : decode cX8_cellOf 129 = .ok (.goto 5, 3) := by decide +kernel
theorem dX8_cellOf_132 : decode cX8_cellOf 132 = .ok (.bipush (-4), 2) := by decide +kernel
theorem dX8_cellOf_134 : decode cX8_cellOf 134 = .ok (.ireturn, 1) := by decide +kernel
set_option maxRecDepth 20000 in
theorem ggX8_doorOf_X8_in : GoodIn wsX8_doorOf wsX8_in := goodIn_r _ [5] (by decide +kernel) (by decide +kernel)
set_option maxRecDepth 20000 in
theorem gX8_doorOf_X8_in : GoodIn wsX8_doorOf (va_wsS RX8 59 yX8_in wsX8_in) := goodIn_app (goodIn_of _ (by decide +kernel)) ggX8_doorOf_X8_in
theorem dX8_doorOf_0 : decode cX8_doorOf 0 = .ok (.iload_n 1, 1) := by decide +kernel
theorem dX8_doorOf_1 : decode cX8_doorOf 1 = .ok (.iconst 0, 1) := by decide +kernel
theorem dX8_doorOf_2 : decode cX8_doorOf 2 = .ok (.iconst 1, 1) := by decide +kernel
theorem dX8_doorOf_3 : decode cX8_doorOf 3 = .ok (.invokestatic 59, 3) := by decide +kernel
theorem dX8_doorOf_6 : decode cX8_doorOf 6 = .ok (.ifCond .eq 27, 3) := by decide +kernel
theorem dX8_doorOf_9 : decode cX8_doorOf 9 = .ok (.iload_n 2, 1) := by decide +kernel
theorem dX8_doorOf_10 : decode cX8_doorOf 10 = .ok (.iconst 0, 1) := by decide +kernel
theorem dX8_doorOf_11 : decode cX8_doorOf 11 = .ok (.iconst 1, 1) := by decide +kernel
theorem dX8_doorOf_12 : decode cX8_doorOf 12 = .ok (.invokestatic 59, 3) := by decide +kernel
theorem dX8_doorOf_15 : decode cX8_doorOf 15 = .ok (.ifCond .eq 18, 3) := by decide +kernel
theorem dX8_doorOf_18 : decode cX8_doorOf 18 = .ok (.aload_n 0, 1) := by decide +kernel
theorem dX8_doorOf_19 : decode cX8_doorOf 19 = .ok (.getfield 7, 3) := by decide +kernel
theorem dX8_doorOf_22 : decode cX8_doorOf 22 = .ok (.iconst 2, 1) := by decide +kernel
theorem dX8_doorOf_23 : decode cX8_doorOf 23 = .ok (.iconst 2, 1) := by decide +kernel
theorem dX8_doorOf_24 : decode cX8_doorOf 24 = .ok (.iload_n 1, 1) := by decide +kernel
theorem dX8_doorOf_25 : decode cX8_doorOf 25 = .ok (.imul, 1) := by decide +kernel
theorem dX8_doorOf_26 : decode cX8_doorOf 26 = .ok (.iadd, 1) := by decide +kernel
theorem dX8_doorOf_27 : decode cX8_doorOf 27 = .ok (.iload_n 2, 1) := by decide +kernel
theorem dX8_doorOf_28 : decode cX8_doorOf 28 = .ok (.iadd, 1) := by decide +kernel
theorem dX8_doorOf_29 : decode cX8_doorOf 29 = .ok (.iaload, 1) := by decide +kernel
theorem dX8_doorOf_30 : decode cX8_doorOf 30 = .ok (.goto 4, 3) := by decide +kernel
theorem dX8_doorOf_33 : decode cX8_doorOf 33 = .ok (.iconst (-1), 1) := by decide +kernel
theorem dX8_doorOf_34 : decode cX8_doorOf 34 = .ok (.ireturn, 1) := by decide +kernel
set_option maxRecDepth 20000 in
theorem ggX8_ends_X8_cells : GoodIn wsX8_ends wsX8_cells := goodIn_r _ [5, 6, 23, 24, 25, 26, 27, 28, 29, 30, 31, 32, 33, 34, 35, 36, 37, 38, 39, 40, 41, 42, 43, 44, 45, 46] (by decide +kernel) (by decide +kernel)
set_option maxRecDepth 20000 in
theorem gX8_ends_X8_cells : GoodIn wsX8_ends (wsV RX8 55 RX8 yX8_cells wsX8_cells) := goodIn_app (goodIn_of _ (by decide +kernel)) ggX8_ends_X8_cells
set_option maxRecDepth 20000 in
theorem ggX8_ends_X8_directions : GoodIn wsX8_ends wsX8_directions := goodIn_r _ [10, 11, 12, 13, 4, 14, 6, 15, 16, 17, 18, 19, 20, 21, 22, 23, 24, 25, 26, 27, 28, 29, 30, 31, 32, 33, 34, 35, 36, 37, 38, 39, 40, 41, 42, 43, 44, 45, 46] (by decide +kernel) (by decide +kernel)
set_option maxRecDepth 20000 in
theorem gX8_ends_X8_directions : GoodIn wsX8_ends (wsV RX8 139 RX8 yX8_directions wsX8_directions) := goodIn_app (goodIn_of _ (by decide +kernel)) ggX8_ends_X8_directions
theorem dX8_ends_0 : decode cX8_ends 0 = .ok (.iconst 0, 1) := by decide +kernel
theorem dX8_ends_1 : decode cX8_ends 1 = .ok (.istore_n 1, 1) := by decide +kernel
theorem dX8_ends_2 : decode cX8_ends 2 = .ok (.iconst 0, 1) := by decide +kernel
theorem dX8_ends_3 : decode cX8_ends 3 = .ok (.istore_n 2, 1) := by decide +kernel
theorem dX8_ends_4 : decode cX8_ends 4 = .ok (.iload_n 2, 1) := by decide +kernel
theorem dX8_ends_5 : decode cX8_ends 5 = .ok (.aload_n 0, 1) := by decide +kernel
theorem dX8_ends_6 : decode cX8_ends 6 = .ok (.invokevirtual 55, 3) := by decide +kernel
theorem dX8_ends_9 : decode cX8_ends 9 = .ok (.if_icmp .ge 44, 3) := by decide +kernel
theorem dX8_ends_12 : decode cX8_ends 12 = .ok (.aload_n 0, 1) := by decide +kernel
theorem dX8_ends_13 : decode cX8_ends 13 = .ok (.iload_n 2, 1) := by decide +kernel
theorem dX8_ends_14 : decode cX8_ends 14 = .ok (.invokevirtual 139, 3) := by decide +kernel
theorem dX8_ends_17 : decode cX8_ends 17 = .ok (.istore_n 3, 1) := by decide +kernel
theorem dX8_ends_18 : decode cX8_ends 18 = .ok (.iload_n 1, 1) := by decide +kernel
theorem dX8_ends_19 : decode cX8_ends 19 = .ok (.iload_n 3, 1) := by decide +kernel
theorem dX8_ends_20 : decode cX8_ends 20 = .ok (.iconst 1, 1) := by decide +kernel
theorem dX8_ends_21 : decode cX8_ends 21 = .ok (.if_icmp .eq 19, 3) := by decide +kernel
theorem dX8_ends_24 : decode cX8_ends 24 = .ok (.iload_n 3, 1) := by decide +kernel
theorem dX8_ends_25 : decode cX8_ends 25 = .ok (.iconst 2, 1) := by decide +kernel
theorem dX8_ends_26 : decode cX8_ends 26 = .ok (.if_icmp .eq 14, 3) := by decide +kernel
theorem dX8_ends_29 : decode cX8_ends 29 = .ok (.iload_n 3, 1) := by decide +kernel
theorem dX8_ends_30 : decode cX8_ends 30 = .ok (.iconst 4, 1) := by decide +kernel
theorem dX8_ends_31 : decode cX8_ends 31 = .ok (.if_icmp .eq 9, 3) := by decide +kernel
theorem dX8_ends_34 : decode cX8_ends 34 = .ok (.iload_n 3, 1) := by decide +kernel
theorem dX8_ends_35 : decode cX8_ends 35 = .ok (.bipush 8, 2) := by decide +kernel
theorem dX8_ends_37 : decode cX8_ends 37 = .ok (.if_icmp .ne 7, 3) := by decide +kernel
theorem dX8_ends_40 : decode cX8_ends 40 = .ok (.iconst 1, 1) := by decide +kernel
theorem dX8_ends_41 : decode cX8_ends 41 = .ok (.goto 4, 3) := by decide +kernel
theorem dX8_ends_44 : decode cX8_ends 44 = .ok (.iconst 0, 1) := by decide +kernel
theorem dX8_ends_45 : decode cX8_ends 45 = .ok (.iadd, 1) := by decide +kernel
theorem dX8_ends_46 : decode cX8_ends 46 = .ok (.istore_n 1, 1) := by decide +kernel
theorem dX8_ends_47 : decode cX8_ends 47 = .ok (.iinc 2 1, 3) := by decide +kernel
theorem dX8_ends_50 : decode cX8_ends 50 = .ok (.goto (-46), 3) := by decide +kernel
theorem dX8_ends_53 : decode cX8_ends 53 = .ok (.iload_n 1, 1) := by decide +kernel
theorem dX8_ends_54 : decode cX8_ends 54 = .ok (.ireturn, 1) := by decide +kernel
set_option maxRecDepth 20000 in
theorem ggX8_tones_X8_cells : GoodIn wsX8_tones wsX8_cells := goodIn_r _ [6, 1, 7, 8, 9, 10, 11, 12, 13, 14, 15, 16, 17, 18, 19, 20, 21, 22, 23, 24, 25, 26, 27, 28, 29, 30] (by decide +kernel) (by decide +kernel)
set_option maxRecDepth 20000 in
theorem gX8_tones_X8_cells : GoodIn wsX8_tones (wsV RX8 55 RX8 yX8_cells wsX8_cells) := goodIn_app (goodIn_of _ (by decide +kernel)) ggX8_tones_X8_cells
theorem dX8_tones_0 : decode cX8_tones 0 = .ok (.iconst 0, 1) := by decide +kernel
theorem dX8_tones_1 : decode cX8_tones 1 = .ok (.istore_n 1, 1) := by decide +kernel
theorem dX8_tones_2 : decode cX8_tones 2 = .ok (.iconst 0, 1) := by decide +kernel
theorem dX8_tones_3 : decode cX8_tones 3 = .ok (.istore_n 2, 1) := by decide +kernel
theorem dX8_tones_4 : decode cX8_tones 4 = .ok (.iload_n 2, 1) := by decide +kernel
theorem dX8_tones_5 : decode cX8_tones 5 = .ok (.aload_n 0, 1) := by decide +kernel
theorem dX8_tones_6 : decode cX8_tones 6 = .ok (.invokevirtual 55, 3) := by decide +kernel
theorem dX8_tones_9 : decode cX8_tones 9 = .ok (.if_icmp .ge 21, 3) := by decide +kernel
theorem dX8_tones_12 : decode cX8_tones 12 = .ok (.iload_n 1, 1) := by decide +kernel
theorem dX8_tones_13 : decode cX8_tones 13 = .ok (.aload_n 0, 1) := by decide +kernel
theorem dX8_tones_14 : decode cX8_tones 14 = .ok (.getfield 7, 3) := by decide +kernel
theorem dX8_tones_17 : decode cX8_tones 17 = .ok (.bipush 6, 2) := by decide +kernel
theorem dX8_tones_19 : decode cX8_tones 19 = .ok (.iload_n 2, 1) := by decide +kernel
theorem dX8_tones_20 : decode cX8_tones 20 = .ok (.iadd, 1) := by decide +kernel
theorem dX8_tones_21 : decode cX8_tones 21 = .ok (.iaload, 1) := by decide +kernel
theorem dX8_tones_22 : decode cX8_tones 22 = .ok (.iadd, 1) := by decide +kernel
theorem dX8_tones_23 : decode cX8_tones 23 = .ok (.istore_n 1, 1) := by decide +kernel
theorem dX8_tones_24 : decode cX8_tones 24 = .ok (.iinc 2 1, 3) := by decide +kernel
theorem dX8_tones_27 : decode cX8_tones 27 = .ok (.goto (-23), 3) := by decide +kernel
theorem dX8_tones_30 : decode cX8_tones 30 = .ok (.iload_n 1, 1) := by decide +kernel
theorem dX8_tones_31 : decode cX8_tones 31 = .ok (.ireturn, 1) := by decide +kernel
set_option maxRecDepth 20000 in
theorem ggX8_count_X8_passages : GoodIn wsX8_count wsX8_passages := goodIn_r _ [9, 1, 10, 11, 12, 8, 13, 46, 47, 48, 49, 50, 51, 52, 53, 54, 55, 56, 57, 58, 59, 60, 61, 62, 63, 64, 65, 66, 67, 68, 69] (by decide +kernel) (by decide +kernel)
set_option maxRecDepth 20000 in
theorem gX8_count_X8_passages : GoodIn wsX8_count (wsV RX8 78 RX8 yX8_passages wsX8_passages) := goodIn_app (goodIn_of _ (by decide +kernel)) ggX8_count_X8_passages
set_option maxRecDepth 20000 in
theorem ggX8_count_X8_parts : GoodIn wsX8_count wsX8_parts := goodIn_r _ [17, 10, 11, 12, 8, 13, 1, 5, 6, 7, 9, 46, 47, 48, 49, 50, 51, 52, 53, 54, 55, 56, 57, 58, 59, 60, 61, 62, 63, 64, 65, 66, 67, 68, 69] (by decide +kernel) (by decide +kernel)
set_option maxRecDepth 20000 in
theorem gX8_count_X8_parts : GoodIn wsX8_count (wsV RX8 81 RX8 yX8_parts wsX8_parts) := goodIn_app (goodIn_of _ (by decide +kernel)) ggX8_count_X8_parts
set_option maxRecDepth 20000 in
theorem ggX8_count_X8_isWhole : GoodIn wsX8_count wsX8_isWhole := goodIn_r _ [21, 14, 15, 16, 8, 17, 10, 11, 12, 13, 1, 5, 6, 7, 9, 46, 47, 48, 49, 50, 51, 52, 53, 54, 55, 56, 57, 58, 59, 60, 61, 62, 63, 64, 65, 66, 67, 68, 69] (by decide +kernel) (by decide +kernel)
set_option maxRecDepth 20000 in
theorem gX8_count_X8_isWhole : GoodIn wsX8_count (wsV RX8 120 RX8 yX8_isWhole wsX8_isWhole) := goodIn_app (goodIn_of _ (by decide +kernel)) ggX8_count_X8_isWhole
set_option maxRecDepth 20000 in
theorem ggX8_count_X8_ends : GoodIn wsX8_count wsX8_ends := goodIn_r _ [25, 10, 11, 12, 8, 13, 1, 26, 27, 28, 29, 30, 31, 32, 33, 34, 35, 36, 37, 38, 39, 40, 41, 46, 47, 48, 49, 50, 51, 52, 53, 54, 55, 56, 57, 58, 59, 60, 61, 62, 63, 64, 65, 66, 67, 68, 69] (by decide +kernel) (by decide +kernel)
set_option maxRecDepth 20000 in
theorem gX8_count_X8_ends : GoodIn wsX8_count (wsV RX8 155 RX8 yX8_ends wsX8_ends) := goodIn_app (goodIn_of _ (by decide +kernel)) ggX8_count_X8_ends
set_option maxRecDepth 20000 in
theorem ggX8_count_X8_tones : GoodIn wsX8_count wsX8_tones := goodIn_r _ [45, 1, 10, 11, 12, 8, 13, 46, 47, 48, 49, 50, 51, 52, 53, 54, 55, 56, 57, 58, 59, 60, 61, 62, 63, 64, 65, 66, 67, 68, 69] (by decide +kernel) (by decide +kernel)
set_option maxRecDepth 20000 in
theorem gX8_count_X8_tones : GoodIn wsX8_count (wsV RX8 158 RX8 yX8_tones wsX8_tones) := goodIn_app (goodIn_of _ (by decide +kernel)) ggX8_count_X8_tones
theorem dX8_count_0 : decode cX8_count 0 = .ok (.iload_n 1, 1) := by decide +kernel
theorem dX8_count_1 : decode cX8_count 1 = .ok (.tableswitch 101 0 8 #[51, 51, 58, 63, 68, 81, 86, 91, 96], 51) := by decide +kernel
theorem dX8_count_52 : decode cX8_count 52 = .ok (.aload_n 0, 1) := by decide +kernel
theorem dX8_count_53 : decode cX8_count 53 = .ok (.getfield 7, 3) := by decide +kernel
theorem dX8_count_56 : decode cX8_count 56 = .ok (.iload_n 1, 1) := by decide +kernel
theorem dX8_count_57 : decode cX8_count 57 = .ok (.iaload, 1) := by decide +kernel
theorem dX8_count_58 : decode cX8_count 58 = .ok (.ireturn, 1) := by decide +kernel
theorem dX8_count_59 : decode cX8_count 59 = .ok (.aload_n 0, 1) := by decide +kernel
theorem dX8_count_60 : decode cX8_count 60 = .ok (.invokevirtual 78, 3) := by decide +kernel
theorem dX8_count_63 : decode cX8_count 63 = .ok (.ireturn, 1) := by decide +kernel
theorem dX8_count_64 : decode cX8_count 64 = .ok (.aload_n 0, 1) := by decide +kernel
theorem dX8_count_65 : decode cX8_count 65 = .ok (.invokevirtual 81, 3) := by decide +kernel
theorem dX8_count_68 : decode cX8_count 68 = .ok (.ireturn, 1) := by decide +kernel
theorem dX8_count_69 : decode cX8_count 69 = .ok (.aload_n 0, 1) := by decide +kernel
theorem dX8_count_70 : decode cX8_count 70 = .ok (.invokevirtual 120, 3) := by decide +kernel
theorem dX8_count_73 : decode cX8_count 73 = .ok (.ifCond .eq 7, 3) := by decide +kernel
theorem dX8_count_76 : decode cX8_count 76 = .ok (.iconst 1, 1) := by decide +kernel
theorem dX8_count_77 : decode cX8_count 77 = .ok (.goto 4, 3) := by decide +kernel
theorem dX8_count_80 : decode cX8_count 80 = .ok (.iconst 0, 1) := by decide +kernel
theorem dX8_count_81 : decode cX8_count 81 = .ok (.ireturn, 1) := by decide +kernel
theorem dX8_count_82 : decode cX8_count 82 = .ok (.aload_n 0, 1) := by decide +kernel
theorem dX8_count_83 : decode cX8_count 83 = .ok (.invokevirtual 155, 3) := by decide +kernel
theorem dX8_count_86 : decode cX8_count 86 = .ok (.ireturn, 1) := by decide +kernel
theorem dX8_count_87 : decode cX8_count 87 = .ok (.aload_n 0, 1) := by decide +kernel
theorem dX8_count_88 : decode cX8_count 88 = .ok (.invokevirtual 158, 3) := by decide +kernel
theorem dX8_count_91 : decode cX8_count 91 = .ok (.ireturn, 1) := by decide +kernel
theorem dX8_count_92 : decode cX8_count 92 = .ok (.aload_n 0, 1) := by decide +kernel
theorem dX8_count_93 : decode cX8_count 93 = .ok (.getfield 51, 3) := by decide +kernel
theorem dX8_count_96 : decode cX8_count 96 = .ok (.ireturn, 1) := by decide +kernel
theorem dX8_count_97 : decode cX8_count 97 = .ok (.aload_n 0, 1) := by decide +kernel
theorem dX8_count_98 : decode cX8_count 98 = .ok (.getfield 161, 3) := by decide +kernel
theorem dX8_count_101 : decode cX8_count 101 = .ok (.ireturn, 1) := by decide +kernel
theorem dX8_count_102 : decode cX8_count 102 = .ok (.iload_n 1, 1) := by decide +kernel
theorem dX8_count_103 : decode cX8_count 103 = .ok (.bipush 9, 2) := by decide +kernel
theorem dX8_count_105 : decode cX8_count 105 = .ok (.if_icmp .ne 18, 3) := by decide +kernel
theorem dX8_count_108 : decode cX8_count 108 = .ok (.aload_n 0, 1) := by decide +kernel
theorem dX8_count_109 : decode cX8_count 109 = .ok (.getfield 164, 3) := by decide +kernel
theorem dX8_count_112 : decode cX8_count 112 = .ok (.ifCond .eq 7, 3) := by decide +kernel
theorem dX8_count_115 : decode cX8_count 115 = .ok (.iconst 1, 1) := by decide +kernel
theorem dX8_count_116 : decode cX8_count 116 = .ok (.goto 8, 3) := by decide +kernel
theorem dX8_count_119 : decode cX8_count 119 = .ok (.iconst 0, 1) := by decide +kernel
theorem dX8_count_120 : decode cX8_count 120 = .ok (.goto 4, 3) := by decide +kernel
theorem dX8_count_123 : decode cX8_count 123 = .ok (.iconst (-1), 1) := by decide +kernel
theorem dX8_count_124 : decode cX8_count 124 = .ok (.ireturn, 1) := by decide +kernel
set_option maxRecDepth 20000 in
theorem ggX8_way_X8_findsWay : GoodIn wsX8_way wsX8_findsWay := goodIn_r _ [8, 9, 2, 10, 1, 11, 3, 12, 13, 14, 7, 15, 16, 17, 18, 19, 20, 21, 22, 23, 24, 25, 26, 27, 28, 29, 30, 31, 32, 33, 34, 35, 36, 37, 38, 39, 40, 41, 42, 43, 44, 45, 46, 47, 48, 49, 50, 51, 52, 53, 54, 55, 56] (by decide +kernel) (by decide +kernel)
set_option maxRecDepth 20000 in
theorem gX8_way_X8_findsWay : GoodIn wsX8_way (wsV RX8 90 RX8 yX8_findsWay wsX8_findsWay) := goodIn_app (goodIn_of _ (by decide +kernel)) ggX8_way_X8_findsWay
theorem dX8_way_0 : decode cX8_way 0 = .ok (.iload_n 1, 1) := by decide +kernel
theorem dX8_way_1 : decode cX8_way 1 = .ok (.ifCond .ge 5, 3) := by decide +kernel
theorem dX8_way_4 : decode cX8_way 4 = .ok (.iconst (-1), 1) := by decide +kernel
theorem dX8_way_5 : decode cX8_way 5 = .ok (.ireturn, 1) := by decide +kernel
theorem dX8_way_6 : decode cX8_way 6 = .ok (.aload_n 0, 1) := by decide +kernel
theorem dX8_way_7 : decode cX8_way 7 = .ok (.aload_n 0, 1) := by decide +kernel
theorem dX8_way_8 : decode cX8_way 8 = .ok (.getfield 7, 3) := by decide +kernel
theorem dX8_way_11 : decode cX8_way 11 = .ok (.iconst 4, 1) := by decide +kernel
theorem dX8_way_12 : decode cX8_way 12 = .ok (.iaload, 1) := by decide +kernel
theorem dX8_way_13 : decode cX8_way 13 = .ok (.invokevirtual 90, 3) := by decide +kernel
theorem dX8_way_16 : decode cX8_way 16 = .ok (.istore_n 2, 1) := by decide +kernel
theorem dX8_way_17 : decode cX8_way 17 = .ok (.iload_n 2, 1) := by decide +kernel
theorem dX8_way_18 : decode cX8_way 18 = .ok (.ifCond .eq 20, 3) := by decide +kernel
theorem dX8_way_21 : decode cX8_way 21 = .ok (.iload_n 1, 1) := by decide +kernel
theorem dX8_way_22 : decode cX8_way 22 = .ok (.aload_n 0, 1) := by decide +kernel
theorem dX8_way_23 : decode cX8_way 23 = .ok (.getfield 84, 3) := by decide +kernel
theorem dX8_way_26 : decode cX8_way 26 = .ok (.if_icmp .ge 12, 3) := by decide +kernel
theorem dX8_way_29 : decode cX8_way 29 = .ok (.aload_n 0, 1) := by decide +kernel
theorem dX8_way_30 : decode cX8_way 30 = .ok (.getfield 35, 3) := by decide +kernel
theorem dX8_way_33 : decode cX8_way 33 = .ok (.iload_n 1, 1) := by decide +kernel
theorem dX8_way_34 : decode cX8_way 34 = .ok (.iaload, 1) := by decide +kernel
theorem dX8_way_35 : decode cX8_way 35 = .ok (.goto 5, 3) := by decide +kernel
theorem dX8_way_38 : decode cX8_way 38 = .ok (.bipush (-4), 2) := by decide +kernel
theorem dX8_way_40 : decode cX8_way 40 = .ok (.ireturn, 1) := by decide +kernel
set_option maxRecDepth 20000 in
theorem ggX8_drawn_X8_findsWay : GoodIn wsX8_drawn wsX8_findsWay := goodIn_r _ [8, 9, 2, 3, 1, 10, 11, 12, 13, 14, 7, 15, 16, 17, 18, 19, 20, 21, 22, 23, 24, 25, 26, 27, 28, 29, 30, 31, 32, 55, 56, 57, 58, 59, 60, 61, 62, 63, 64, 65, 66, 67, 68, 69, 70, 71, 72, 73, 74, 75, 76, 77, 78] (by decide +kernel) (by decide +kernel)
set_option maxRecDepth 20000 in
theorem gX8_drawn_X8_findsWay : GoodIn wsX8_drawn (wsV RX8 90 RX8 yX8_findsWay wsX8_findsWay) := goodIn_app (goodIn_of _ (by decide +kernel)) ggX8_drawn_X8_findsWay
set_option maxRecDepth 20000 in
theorem ggX8_drawn_X8_wayFault : GoodIn wsX8_drawn wsX8_wayFault := goodIn_r _ [36, 1, 37, 38, 39, 7, 40, 9, 4, 5, 6, 8, 2, 3, 10, 11, 12, 13, 14, 15, 16, 17, 18, 19, 20, 21, 22, 23, 24, 25, 26, 27, 28, 29, 30, 31, 32, 55, 56, 57, 58, 59, 60, 61, 62, 63, 64, 65, 66, 67, 68, 69, 70, 71, 72, 73, 74, 75, 76, 77, 78] (by decide +kernel) (by decide +kernel)
set_option maxRecDepth 20000 in
theorem gX8_drawn_X8_wayFault : GoodIn wsX8_drawn (wsV RX8 108 RX8 yX8_wayFault wsX8_wayFault) := goodIn_app (goodIn_of _ (by decide +kernel)) ggX8_drawn_X8_wayFault
set_option maxRecDepth 20000 in
theorem ggX8_drawn_X8_walks : GoodIn wsX8_drawn wsX8_walks := goodIn_r _ [44, 45, 46, 1, 21, 22, 23, 7, 24, 25, 26, 27, 28, 29, 30, 31, 32, 55, 56, 57, 58, 59, 60, 61, 62, 63, 64, 65, 66, 67, 68, 69, 70, 71, 72, 73, 74, 75, 76, 77, 78] (by decide +kernel) (by decide +kernel)
set_option maxRecDepth 20000 in
theorem gX8_drawn_X8_walks : GoodIn wsX8_drawn (wsV RX8 152 RX8 yX8_walks wsX8_walks) := goodIn_app (goodIn_of _ (by decide +kernel)) ggX8_drawn_X8_walks
set_option maxRecDepth 20000 in
theorem ggX8_drawn_X8_walkCells : GoodIn wsX8_drawn wsX8_walkCells := goodIn_r _ [50, 45, 12, 13, 14, 7, 15, 1, 55, 56, 57, 58, 59, 60, 61, 62, 63, 64, 65, 66, 67, 68, 69, 70, 71, 72, 73, 74, 75, 76, 77, 78] (by decide +kernel) (by decide +kernel)
set_option maxRecDepth 20000 in
theorem gX8_drawn_X8_walkCells : GoodIn wsX8_drawn (wsV RX8 168 RX8 yX8_walkCells wsX8_walkCells) := goodIn_app (goodIn_of _ (by decide +kernel)) ggX8_drawn_X8_walkCells
set_option maxRecDepth 20000 in
theorem ggX8_drawn_X8_walkFault : GoodIn wsX8_drawn wsX8_walkFault := goodIn_r _ [54, 45, 1, 12, 13, 14, 7, 15, 55, 56, 57, 58, 59, 60, 61, 62, 63, 64, 65, 66, 67, 68, 69, 70, 71, 72, 73, 74, 75, 76, 77, 78] (by decide +kernel) (by decide +kernel)
set_option maxRecDepth 20000 in
theorem gX8_drawn_X8_walkFault : GoodIn wsX8_drawn (wsV RX8 171 RX8 yX8_walkFault wsX8_walkFault) := goodIn_app (goodIn_of _ (by decide +kernel)) ggX8_drawn_X8_walkFault
theorem dX8_drawn_0 : decode cX8_drawn 0 = .ok (.iload_n 1, 1) := by decide +kernel
theorem dX8_drawn_1 : decode cX8_drawn 1 = .ok (.tableswitch 120 0 4 #[35, 58, 63, 80, 97], 35) := by decide +kernel
theorem dX8_drawn_36 : decode cX8_drawn 36 = .ok (.aload_n 0, 1) := by decide +kernel
theorem dX8_drawn_37 : decode cX8_drawn 37 = .ok (.aload_n 0, 1) := by decide +kernel
theorem dX8_drawn_38 : decode cX8_drawn 38 = .ok (.getfield 7, 3) := by decide +kernel
theorem dX8_drawn_41 : decode cX8_drawn 41 = .ok (.iconst 4, 1) := by decide +kernel
theorem dX8_drawn_42 : decode cX8_drawn 42 = .ok (.iaload, 1) := by decide +kernel
theorem dX8_drawn_43 : decode cX8_drawn 43 = .ok (.invokevirtual 90, 3) := by decide +kernel
theorem dX8_drawn_46 : decode cX8_drawn 46 = .ok (.ifCond .eq 10, 3) := by decide +kernel
theorem dX8_drawn_49 : decode cX8_drawn 49 = .ok (.aload_n 0, 1) := by decide +kernel
theorem dX8_drawn_50 : decode cX8_drawn 50 = .ok (.getfield 84, 3) := by decide +kernel
theorem dX8_drawn_53 : decode cX8_drawn 53 = .ok (.goto 5, 3) := by decide +kernel
theorem dX8_drawn_56 : decode cX8_drawn 56 = .ok (.bipush (-4), 2) := by decide +kernel
theorem dX8_drawn_58 : decode cX8_drawn 58 = .ok (.ireturn, 1) := by decide +kernel
theorem dX8_drawn_59 : decode cX8_drawn 59 = .ok (.aload_n 0, 1) := by decide +kernel
theorem dX8_drawn_60 : decode cX8_drawn 60 = .ok (.invokevirtual 108, 3) := by decide +kernel
theorem dX8_drawn_63 : decode cX8_drawn 63 = .ok (.ireturn, 1) := by decide +kernel
theorem dX8_drawn_64 : decode cX8_drawn 64 = .ok (.aload_n 0, 1) := by decide +kernel
theorem dX8_drawn_65 : decode cX8_drawn 65 = .ok (.invokevirtual 152, 3) := by decide +kernel
theorem dX8_drawn_68 : decode cX8_drawn 68 = .ok (.ifCond .eq 10, 3) := by decide +kernel
theorem dX8_drawn_71 : decode cX8_drawn 71 = .ok (.aload_n 0, 1) := by decide +kernel
theorem dX8_drawn_72 : decode cX8_drawn 72 = .ok (.invokevirtual 168, 3) := by decide +kernel
theorem dX8_drawn_75 : decode cX8_drawn 75 = .ok (.goto 5, 3) := by decide +kernel
theorem dX8_drawn_78 : decode cX8_drawn 78 = .ok (.bipush (-4), 2) := by decide +kernel
theorem dX8_drawn_80 : decode cX8_drawn 80 = .ok (.ireturn, 1) := by decide +kernel
theorem dX8_drawn_81 : decode cX8_drawn 81 = .ok (.aload_n 0, 1) := by decide +kernel
theorem dX8_drawn_82 : decode cX8_drawn 82 = .ok (.invokevirtual 152, 3) := by decide +kernel
theorem dX8_drawn_85 : decode cX8_drawn 85 = .ok (.ifCond .eq 10, 3) := by decide +kernel
theorem dX8_drawn_88 : decode cX8_drawn 88 = .ok (.aload_n 0, 1) := by decide +kernel
theorem dX8_drawn_89 : decode cX8_drawn 89 = .ok (.invokevirtual 171, 3) := by decide +kernel
theorem dX8_drawn_92 : decode cX8_drawn 92 = .ok (.goto 5, 3) := by decide +kernel
theorem dX8_drawn_95 : decode cX8_drawn 95 = .ok (.bipush (-4), 2) := by decide +kernel
theorem dX8_drawn_97 : decode cX8_drawn 97 = .ok (.ireturn, 1) := by decide +kernel
theorem dX8_drawn_98 : decode cX8_drawn 98 = .ok (.aload_n 0, 1) := by decide +kernel
theorem dX8_drawn_99 : decode cX8_drawn 99 = .ok (.aload_n 0, 1) := by decide +kernel
theorem dX8_drawn_100 : decode cX8_drawn 100 = .ok (.getfield 7, 3) := by decide +kernel
theorem dX8_drawn_103 : decode cX8_drawn 103 = .ok (.iconst 4, 1) := by decide +kernel
theorem dX8_drawn_104 : decode cX8_drawn 104 = .ok (.iaload, 1) := by decide +kernel
theorem dX8_drawn_105 : decode cX8_drawn 105 = .ok (.invokevirtual 90, 3) := by decide +kernel
theorem dX8_drawn_108 : decode cX8_drawn 108 = .ok (.ifCond .eq 10, 3) := by decide +kernel
theorem dX8_drawn_111 : decode cX8_drawn 111 = .ok (.aload_n 0, 1) := by decide +kernel
theorem dX8_drawn_112 : decode cX8_drawn 112 = .ok (.getfield 87, 3) := by decide +kernel
theorem dX8_drawn_115 : decode cX8_drawn 115 = .ok (.goto 5, 3) := by decide +kernel
theorem dX8_drawn_118 : decode cX8_drawn 118 = .ok (.bipush (-4), 2) := by decide +kernel
theorem dX8_drawn_120 : decode cX8_drawn 120 = .ok (.ireturn, 1) := by decide +kernel
theorem dX8_drawn_121 : decode cX8_drawn 121 = .ok (.iconst (-1), 1) := by decide +kernel
theorem dX8_drawn_122 : decode cX8_drawn 122 = .ok (.ireturn, 1) := by decide +kernel
set_option maxRecDepth 20000 in
theorem ggX8_between_X8_isCell : GoodIn wsX8_between wsX8_isCell := goodIn_r _ [6, 7, 8, 9, 5, 10, 11, 12, 13, 14, 35, 36, 37, 38, 39, 40, 41, 42, 43, 44, 45, 46, 47, 48, 49, 50, 51, 52, 53, 54, 55, 56, 57, 58] (by decide +kernel) (by decide +kernel)
set_option maxRecDepth 20000 in
theorem gX8_between_X8_isCell : GoodIn wsX8_between (wsV RX8 136 RX8 yX8_isCell wsX8_isCell) := goodIn_app (goodIn_of _ (by decide +kernel)) ggX8_between_X8_isCell
set_option maxRecDepth 20000 in
theorem ggX8_between_X8_measures : GoodIn wsX8_between wsX8_measures := goodIn_r _ [18, 1, 19, 7, 8, 9, 5, 10, 11, 20, 21, 22, 23, 24, 25, 26, 27, 28, 29, 30, 31, 35, 36, 37, 38, 39, 40, 41, 42, 43, 44, 45, 46, 47, 48, 49, 50, 51, 52, 53, 54, 55, 56, 57, 58] (by decide +kernel) (by decide +kernel)
set_option maxRecDepth 20000 in
theorem gX8_between_X8_measures : GoodIn wsX8_between (wsV RX8 74 RX8 yX8_measures wsX8_measures) := goodIn_app (goodIn_of _ (by decide +kernel)) ggX8_between_X8_measures
set_option maxRecDepth 20000 in
theorem ggX8_between_X8_orNone : GoodIn wsX8_between wsX8_orNone := goodIn_r _ [34] (by decide +kernel) (by decide +kernel)
set_option maxRecDepth 20000 in
theorem gX8_between_X8_orNone : GoodIn wsX8_between (va_wsS RX8 146 yX8_orNone wsX8_orNone) := goodIn_app (goodIn_of _ (by decide +kernel)) ggX8_between_X8_orNone
theorem dX8_between_0 : decode cX8_between 0 = .ok (.aload_n 0, 1) := by decide +kernel
theorem dX8_between_1 : decode cX8_between 1 = .ok (.iload_n 1, 1) := by decide +kernel
theorem dX8_between_2 : decode cX8_between 2 = .ok (.invokevirtual 136, 3) := by decide +kernel
theorem dX8_between_5 : decode cX8_between 5 = .ok (.ifCond .eq 11, 3) := by decide +kernel
theorem dX8_between_8 : decode cX8_between 8 = .ok (.aload_n 0, 1) := by decide +kernel
theorem dX8_between_9 : decode cX8_between 9 = .ok (.iload_n 2, 1) := by decide +kernel
theorem dX8_between_10 : decode cX8_between 10 = .ok (.invokevirtual 136, 3) := by decide +kernel
theorem dX8_between_13 : decode cX8_between 13 = .ok (.ifCond .ne 5, 3) := by decide +kernel
theorem dX8_between_16 : decode cX8_between 16 = .ok (.iconst (-1), 1) := by decide +kernel
theorem dX8_between_17 : decode cX8_between 17 = .ok (.ireturn, 1) := by decide +kernel
theorem dX8_between_18 : decode cX8_between 18 = .ok (.aload_n 0, 1) := by decide +kernel
theorem dX8_between_19 : decode cX8_between 19 = .ok (.iload_n 1, 1) := by decide +kernel
theorem dX8_between_20 : decode cX8_between 20 = .ok (.invokevirtual 74, 3) := by decide +kernel
theorem dX8_between_23 : decode cX8_between 23 = .ok (.aload_n 0, 1) := by decide +kernel
theorem dX8_between_24 : decode cX8_between 24 = .ok (.getfield 25, 3) := by decide +kernel
theorem dX8_between_27 : decode cX8_between 27 = .ok (.iload_n 2, 1) := by decide +kernel
theorem dX8_between_28 : decode cX8_between 28 = .ok (.iaload, 1) := by decide +kernel
theorem dX8_between_29 : decode cX8_between 29 = .ok (.invokestatic 146, 3) := by decide +kernel
theorem dX8_between_32 : decode cX8_between 32 = .ok (.ireturn, 1) := by decide +kernel
set_option maxRecDepth 20000 in
theorem ggX8_farthest_X8_in : GoodIn wsX8_farthest wsX8_in := goodIn_r _ [5] (by decide +kernel) (by decide +kernel)
set_option maxRecDepth 20000 in
theorem gX8_farthest_X8_in : GoodIn wsX8_farthest (va_wsS RX8 59 yX8_in wsX8_in) := goodIn_app (goodIn_of _ (by decide +kernel)) ggX8_farthest_X8_in
set_option maxRecDepth 20000 in
theorem ggX8_farthest_X8_cells : GoodIn wsX8_farthest wsX8_cells := goodIn_r _ [9, 10, 28, 29, 30, 31, 32, 33, 34, 35, 36, 37, 38, 39, 40, 41, 42, 43, 44, 45, 46, 47, 48, 49, 50, 51] (by decide +kernel) (by decide +kernel)
set_option maxRecDepth 20000 in
theorem gX8_farthest_X8_cells : GoodIn wsX8_farthest (wsV RX8 55 RX8 yX8_cells wsX8_cells) := goodIn_app (goodIn_of _ (by decide +kernel)) ggX8_farthest_X8_cells
set_option maxRecDepth 20000 in
theorem ggX8_farthest_X8_measures : GoodIn wsX8_farthest wsX8_measures := goodIn_r _ [14, 1, 15, 6, 7, 8, 4, 9, 10, 16, 17, 18, 19, 20, 21, 22, 23, 24, 25, 26, 27, 28, 29, 30, 31, 32, 33, 34, 35, 36, 37, 38, 39, 40, 41, 42, 43, 44, 45, 46, 47, 48, 49, 50, 51] (by decide +kernel) (by decide +kernel)
set_option maxRecDepth 20000 in
theorem gX8_farthest_X8_measures : GoodIn wsX8_farthest (wsV RX8 74 RX8 yX8_measures wsX8_measures) := goodIn_app (goodIn_of _ (by decide +kernel)) ggX8_farthest_X8_measures
theorem dX8_farthest_0 : decode cX8_farthest 0 = .ok (.iload_n 1, 1) := by decide +kernel
theorem dX8_farthest_1 : decode cX8_farthest 1 = .ok (.iconst 0, 1) := by decide +kernel
theorem dX8_farthest_2 : decode cX8_farthest 2 = .ok (.iconst 2, 1) := by decide +kernel
theorem dX8_farthest_3 : decode cX8_farthest 3 = .ok (.invokestatic 59, 3) := by decide +kernel
theorem dX8_farthest_6 : decode cX8_farthest 6 = .ok (.ifCond .ne 5, 3) := by decide +kernel
theorem dX8_farthest_9 : decode cX8_farthest 9 = .ok (.iconst (-1), 1) := by decide +kernel
theorem dX8_farthest_10 : decode cX8_farthest 10 = .ok (.ireturn, 1) := by decide +kernel
theorem dX8_farthest_11 : decode cX8_farthest 11 = .ok (.iconst (-1), 1) := by decide +kernel
theorem dX8_farthest_12 : decode cX8_farthest 12 = .ok (.istore_n 2, 1) := by decide +kernel
theorem dX8_farthest_13 : decode cX8_farthest 13 = .ok (.iconst (-1), 1) := by decide +kernel
theorem dX8_farthest_14 : decode cX8_farthest 14 = .ok (.istore_n 3, 1) := by decide +kernel
theorem dX8_farthest_15 : decode cX8_farthest 15 = .ok (.iconst 0, 1) := by decide +kernel
theorem dX8_farthest_16 : decode cX8_farthest 16 = .ok (.istore 4, 2) := by decide +kernel
theorem dX8_farthest_18 : decode cX8_farthest 18 = .ok (.iconst 0, 1) := by decide +kernel
theorem dX8_farthest_19 : decode cX8_farthest 19 = .ok (.istore 5, 2) := by decide +kernel
theorem dX8_farthest_21 : decode cX8_farthest 21 = .ok (.iload 5, 2) := by decide +kernel
theorem dX8_farthest_23 : decode cX8_farthest 23 = .ok (.aload_n 0, 1) := by decide +kernel
theorem dX8_farthest_24 : decode cX8_farthest 24 = .ok (.invokevirtual 55, 3) := by decide +kernel
theorem dX8_farthest_27 : decode cX8_farthest 27 = .ok (.if_icmp .ge 63, 3) := by decide +kernel
theorem dX8_farthest_30 : decode cX8_farthest 30 = .ok (.aload_n 0, 1) := by decide +kernel
theorem dX8_farthest_31 : decode cX8_farthest 31 = .ok (.iload 5, 2) := by decide +kernel
theorem dX8_farthest_33 : decode cX8_farthest 33 = .ok (.invokevirtual 74, 3) := by decide +kernel
theorem dX8_farthest_36 : decode cX8_farthest 36 = .ok (.iload 5, 2) := by decide +kernel
theorem dX8_farthest_38 : decode cX8_farthest 38 = .ok (.iconst 1, 1) := by decide +kernel
theorem dX8_farthest_39 : decode cX8_farthest 39 = .ok (.iadd, 1) := by decide +kernel
theorem dX8_farthest_40 : decode cX8_farthest 40 = .ok (.istore 6, 2) := by decide +kernel
theorem dX8_farthest_42 : decode cX8_farthest 42 = .ok (.iload 6, 2) := by decide +kernel
theorem dX8_farthest_44 : decode cX8_farthest 44 = .ok (.aload_n 0, 1) := by decide +kernel
theorem dX8_farthest_45 : decode cX8_farthest 45 = .ok (.invokevirtual 55, 3) := by decide +kernel
theorem dX8_farthest_48 : decode cX8_farthest 48 = .ok (.if_icmp .ge 36, 3) := by decide +kernel
theorem dX8_farthest_51 : decode cX8_farthest 51 = .ok (.aload_n 0, 1) := by decide +kernel
theorem dX8_farthest_52 : decode cX8_farthest 52 = .ok (.getfield 25, 3) := by decide +kernel
theorem dX8_farthest_55 : decode cX8_farthest 55 = .ok (.iload 6, 2) := by decide +kernel
theorem dX8_farthest_57 : decode cX8_farthest 57 = .ok (.iaload, 1) := by decide +kernel
theorem dX8_farthest_58 : decode cX8_farthest 58 = .ok (.iload 4, 2) := by decide +kernel
theorem dX8_farthest_60 : decode cX8_farthest 60 = .ok (.if_icmp .le 18, 3) := by decide +kernel
theorem dX8_farthest_63 : decode cX8_farthest 63 = .ok (.iload 5, 2) := by decide +kernel
theorem dX8_farthest_65 : decode cX8_farthest 65 = .ok (.istore_n 2, 1) := by decide +kernel
theorem dX8_farthest_66 : decode cX8_farthest 66 = .ok (.iload 6, 2) := by decide +kernel
theorem dX8_farthest_68 : decode cX8_farthest 68 = .ok (.istore_n 3, 1) := by decide +kernel
theorem dX8_farthest_69 : decode cX8_farthest 69 = .ok (.aload_n 0, 1) := by decide +kernel
theorem dX8_farthest_70 : decode cX8_farthest 70 = .ok (.getfield 25, 3) := by decide +kernel
theorem dX8_farthest_73 : decode cX8_farthest 73 = .ok (.iload 6, 2) := by decide +kernel
theorem dX8_farthest_75 : decode cX8_farthest 75 = .ok (.iaload, 1) := by decide +kernel
theorem dX8_farthest_76 : decode cX8_farthest 76 = .ok (.istore 4, 2) := by decide +kernel
theorem dX8_farthest_78 : decode cX8_farthest 78 = .ok (.iinc 6 1, 3) := by decide +kernel
theorem dX8_farthest_81 : decode cX8_farthest 81 = .ok (.goto (-39), 3) := by decide +kernel
theorem dX8_farthest_84 : decode cX8_farthest 84 = .ok (.iinc 5 1, 3) := by decide +kernel
theorem dX8_farthest_87 : decode cX8_farthest 87 = .ok (.goto (-66), 3) := by decide +kernel
theorem dX8_farthest_90 : decode cX8_farthest 90 = .ok (.iload 4, 2) := by decide +kernel
theorem dX8_farthest_92 : decode cX8_farthest 92 = .ok (.ifCond .ne 8, 3) := by decide +kernel
theorem dX8_farthest_95 : decode cX8_farthest 95 = .ok (.bipush (-4), 2) := by decide +kernel
theorem dX8_farthest_97 : decode cX8_farthest 97 = .ok (.goto 22, 3) := by decide +kernel
theorem dX8_farthest_100 : decode cX8_farthest 100 = .ok (.iload_n 1, 1) := by decide +kernel
theorem dX8_farthest_101 : decode cX8_farthest 101 = .ok (.ifCond .ne 7, 3) := by decide +kernel
theorem dX8_farthest_104 : decode cX8_farthest 104 = .ok (.iload_n 2, 1) := by decide +kernel
theorem dX8_farthest_105 : decode cX8_farthest 105 = .ok (.goto 14, 3) := by decide +kernel
theorem dX8_farthest_108 : decode cX8_farthest 108 = .ok (.iload_n 1, 1) := by decide +kernel
theorem dX8_farthest_109 : decode cX8_farthest 109 = .ok (.iconst 1, 1) := by decide +kernel
theorem dX8_farthest_110 : decode cX8_farthest 110 = .ok (.if_icmp .ne 7, 3) := by decide +kernel
theorem dX8_farthest_113 : decode cX8_farthest 113 = .ok (.iload_n 3, 1) := by decide +kernel
theorem dX8_farthest_114 : decode cX8_farthest 114 = .ok (.goto 5, 3) := by decide +kernel
theorem dX8_farthest_117 : decode cX8_farthest 117 = .ok (.iload 4, 2) := by decide +kernel
theorem dX8_farthest_119 : decode cX8_farthest 119 = .ok (.ireturn, 1) := by decide +kernel
set_option maxRecDepth 20000 in
theorem ggX8_mayBeExit_X8_besides : GoodIn wsX8_mayBeExit wsX8_besides := goodIn_r _ [6, 1, 7, 8, 9, 10, 11, 12, 13, 14, 15, 16, 17, 18, 19, 20, 21, 22, 23, 24, 25, 26, 27, 28, 29, 30] (by decide +kernel) (by decide +kernel)
set_option maxRecDepth 20000 in
theorem gX8_mayBeExit_X8_besides : GoodIn wsX8_mayBeExit (wsV RX8 63 RX8 yX8_besides wsX8_besides) := goodIn_app (goodIn_of _ (by decide +kernel)) ggX8_mayBeExit_X8_besides
theorem dX8_mayBeExit_0 : decode cX8_mayBeExit 0 = .ok (.aload_n 0, 1) := by decide +kernel
theorem dX8_mayBeExit_1 : decode cX8_mayBeExit 1 = .ok (.iload_n 1, 1) := by decide +kernel
theorem dX8_mayBeExit_2 : decode cX8_mayBeExit 2 = .ok (.iload_n 2, 1) := by decide +kernel
theorem dX8_mayBeExit_3 : decode cX8_mayBeExit 3 = .ok (.invokevirtual 63, 3) := by decide +kernel
theorem dX8_mayBeExit_6 : decode cX8_mayBeExit 6 = .ok (.ifCond .ge 27, 3) := by decide +kernel
theorem dX8_mayBeExit_9 : decode cX8_mayBeExit 9 = .ok (.aload_n 0, 1) := by decide +kernel
theorem dX8_mayBeExit_10 : decode cX8_mayBeExit 10 = .ok (.getfield 7, 3) := by decide +kernel
theorem dX8_mayBeExit_13 : decode cX8_mayBeExit 13 = .ok (.iconst 2, 1) := by decide +kernel
theorem dX8_mayBeExit_14 : decode cX8_mayBeExit 14 = .ok (.iaload, 1) := by decide +kernel
theorem dX8_mayBeExit_15 : decode cX8_mayBeExit 15 = .ok (.iload_n 1, 1) := by decide +kernel
theorem dX8_mayBeExit_16 : decode cX8_mayBeExit 16 = .ok (.if_icmp .ne 13, 3) := by decide +kernel
theorem dX8_mayBeExit_19 : decode cX8_mayBeExit 19 = .ok (.aload_n 0, 1) := by decide +kernel
theorem dX8_mayBeExit_20 : decode cX8_mayBeExit 20 = .ok (.getfield 7, 3) := by decide +kernel
theorem dX8_mayBeExit_23 : decode cX8_mayBeExit 23 = .ok (.iconst 3, 1) := by decide +kernel
theorem dX8_mayBeExit_24 : decode cX8_mayBeExit 24 = .ok (.iaload, 1) := by decide +kernel
theorem dX8_mayBeExit_25 : decode cX8_mayBeExit 25 = .ok (.iload_n 2, 1) := by decide +kernel
theorem dX8_mayBeExit_26 : decode cX8_mayBeExit 26 = .ok (.if_icmp .eq 7, 3) := by decide +kernel
theorem dX8_mayBeExit_29 : decode cX8_mayBeExit 29 = .ok (.iconst 1, 1) := by decide +kernel
theorem dX8_mayBeExit_30 : decode cX8_mayBeExit 30 = .ok (.goto 4, 3) := by decide +kernel
theorem dX8_mayBeExit_33 : decode cX8_mayBeExit 33 = .ok (.iconst 0, 1) := by decide +kernel
theorem dX8_mayBeExit_34 : decode cX8_mayBeExit 34 = .ok (.ireturn, 1) := by decide +kernel
set_option maxRecDepth 20000 in
theorem ggX8_bestExit_X8_in : GoodIn wsX8_bestExit wsX8_in := goodIn_r _ [6] (by decide +kernel) (by decide +kernel)
set_option maxRecDepth 20000 in
theorem gX8_bestExit_X8_in : GoodIn wsX8_bestExit (va_wsS RX8 59 yX8_in wsX8_in) := goodIn_app (goodIn_of _ (by decide +kernel)) ggX8_bestExit_X8_in
set_option maxRecDepth 20000 in
theorem ggX8_bestExit_X8_cells : GoodIn wsX8_bestExit wsX8_cells := goodIn_r _ [10, 2, 49, 50, 51, 52, 53, 54, 55, 56, 57, 58, 59, 60, 61, 62, 63, 64, 65, 66, 67, 68, 69, 70, 71, 72] (by decide +kernel) (by decide +kernel)
set_option maxRecDepth 20000 in
theorem gX8_bestExit_X8_cells : GoodIn wsX8_bestExit (wsV RX8 55 RX8 yX8_cells wsX8_cells) := goodIn_app (goodIn_of _ (by decide +kernel)) ggX8_bestExit_X8_cells
set_option maxRecDepth 20000 in
theorem ggX8_bestExit_X8_mayBeExit : GoodIn wsX8_bestExit wsX8_mayBeExit := goodIn_r _ [14, 2, 15, 16, 17, 5, 18, 49, 50, 51, 52, 53, 54, 55, 56, 57, 58, 59, 60, 61, 62, 63, 64, 65, 66, 67, 68, 69, 70, 71, 72] (by decide +kernel) (by decide +kernel)
set_option maxRecDepth 20000 in
theorem gX8_bestExit_X8_mayBeExit : GoodIn wsX8_bestExit (wsV RX8 174 RX8 yX8_mayBeExit wsX8_mayBeExit) := goodIn_app (goodIn_of _ (by decide +kernel)) ggX8_bestExit_X8_mayBeExit
set_option maxRecDepth 20000 in
theorem ggX8_bestExit_X8_areJoined : GoodIn wsX8_bestExit wsX8_areJoined := goodIn_r _ [22, 23, 24, 25, 26, 5, 27, 28, 7, 8, 9, 10, 2, 29, 30, 31, 32, 15, 16, 17, 18, 33, 34, 35, 36, 49, 50, 51, 52, 53, 54, 55, 56, 57, 58, 59, 60, 61, 62, 63, 64, 65, 66, 67, 68, 69, 70, 71, 72] (by decide +kernel) (by decide +kernel)
set_option maxRecDepth 20000 in
theorem gX8_bestExit_X8_areJoined : GoodIn wsX8_bestExit (wsV RX8 124 RX8 yX8_areJoined wsX8_areJoined) := goodIn_app (goodIn_of _ (by decide +kernel)) ggX8_bestExit_X8_areJoined
set_option maxRecDepth 20000 in
theorem ggX8_bestExit_X8_faultTo : GoodIn wsX8_bestExit wsX8_faultTo := goodIn_r _ [40, 41, 2, 42, 43, 44, 5, 45, 46, 47, 23, 48, 7, 8, 9, 10, 24, 25, 26, 27, 28, 29, 30, 31, 32, 15, 16, 17, 18, 33, 34, 35, 36, 49, 50, 51, 52, 53, 54, 55, 56, 57, 58, 59, 60, 61, 62, 63, 64, 65, 66, 67, 68, 69, 70, 71, 72] (by decide +kernel) (by decide +kernel)
set_option maxRecDepth 20000 in
theorem gX8_bestExit_X8_faultTo : GoodIn wsX8_bestExit (wsV RX8 94 RX8 yX8_faultTo wsX8_faultTo) := goodIn_app (goodIn_of _ (by decide +kernel)) ggX8_bestExit_X8_faultTo
theorem dX8_bestExit_0 : decode cX8_bestExit 0 = .ok (.iload_n 1, 1) := by decide +kernel
theorem dX8_bestExit_1 : decode cX8_bestExit 1 = .ok (.iconst 0, 1) := by decide +kernel
theorem dX8_bestExit_2 : decode cX8_bestExit 2 = .ok (.iconst 2, 1) := by decide +kernel
theorem dX8_bestExit_3 : decode cX8_bestExit 3 = .ok (.invokestatic 59, 3) := by decide +kernel
theorem dX8_bestExit_6 : decode cX8_bestExit 6 = .ok (.ifCond .ne 5, 3) := by decide +kernel
theorem dX8_bestExit_9 : decode cX8_bestExit 9 = .ok (.iconst (-1), 1) := by decide +kernel
theorem dX8_bestExit_10 : decode cX8_bestExit 10 = .ok (.ireturn, 1) := by decide +kernel
theorem dX8_bestExit_11 : decode cX8_bestExit 11 = .ok (.iconst (-1), 1) := by decide +kernel
theorem dX8_bestExit_12 : decode cX8_bestExit 12 = .ok (.istore_n 2, 1) := by decide +kernel
theorem dX8_bestExit_13 : decode cX8_bestExit 13 = .ok (.iconst (-1), 1) := by decide +kernel
theorem dX8_bestExit_14 : decode cX8_bestExit 14 = .ok (.istore_n 3, 1) := by decide +kernel
theorem dX8_bestExit_15 : decode cX8_bestExit 15 = .ok (.ldc 98, 2) := by decide +kernel
theorem dX8_bestExit_17 : decode cX8_bestExit 17 = .ok (.istore 4, 2) := by decide +kernel
theorem dX8_bestExit_19 : decode cX8_bestExit 19 = .ok (.iconst 0, 1) := by decide +kernel
theorem dX8_bestExit_20 : decode cX8_bestExit 20 = .ok (.istore 5, 2) := by decide +kernel
theorem dX8_bestExit_22 : decode cX8_bestExit 22 = .ok (.iload 5, 2) := by decide +kernel
theorem dX8_bestExit_24 : decode cX8_bestExit 24 = .ok (.aload_n 0, 1) := by decide +kernel
theorem dX8_bestExit_25 : decode cX8_bestExit 25 = .ok (.invokevirtual 55, 3) := by decide +kernel
theorem dX8_bestExit_28 : decode cX8_bestExit 28 = .ok (.if_icmp .ge 122, 3) := by decide +kernel
theorem dX8_bestExit_31 : decode cX8_bestExit 31 = .ok (.iconst 3, 1) := by decide +kernel
theorem dX8_bestExit_32 : decode cX8_bestExit 32 = .ok (.istore 6, 2) := by decide +kernel
theorem dX8_bestExit_34 : decode cX8_bestExit 34 = .ok (.iload 6, 2) := by decide +kernel
theorem dX8_bestExit_36 : decode cX8_bestExit 36 = .ok (.ifCond .lt 108, 3) := by decide +kernel
theorem dX8_bestExit_39 : decode cX8_bestExit 39 = .ok (.aload_n 0, 1) := by decide +kernel
theorem dX8_bestExit_40 : decode cX8_bestExit 40 = .ok (.iload 5, 2) := by decide +kernel
theorem dX8_bestExit_42 : decode cX8_bestExit 42 = .ok (.iload 6, 2) := by decide +kernel
theorem dX8_bestExit_44 : decode cX8_bestExit 44 = .ok (.invokevirtual 174, 3) := by decide +kernel
theorem dX8_bestExit_47 : decode cX8_bestExit 47 = .ok (.ifCond .eq 91, 3) := by decide +kernel
theorem dX8_bestExit_50 : decode cX8_bestExit 50 = .ok (.aload_n 0, 1) := by decide +kernel
theorem dX8_bestExit_51 : decode cX8_bestExit 51 = .ok (.aload_n 0, 1) := by decide +kernel
theorem dX8_bestExit_52 : decode cX8_bestExit 52 = .ok (.getfield 7, 3) := by decide +kernel
theorem dX8_bestExit_55 : decode cX8_bestExit 55 = .ok (.iconst 2, 1) := by decide +kernel
theorem dX8_bestExit_56 : decode cX8_bestExit 56 = .ok (.iaload, 1) := by decide +kernel
theorem dX8_bestExit_57 : decode cX8_bestExit 57 = .ok (.iload 5, 2) := by decide +kernel
theorem dX8_bestExit_59 : decode cX8_bestExit 59 = .ok (.invokevirtual 124, 3) := by decide +kernel
theorem dX8_bestExit_62 : decode cX8_bestExit 62 = .ok (.ifCond .eq 76, 3) := by decide +kernel
theorem dX8_bestExit_65 : decode cX8_bestExit 65 = .ok (.aload_n 0, 1) := by decide +kernel
theorem dX8_bestExit_66 : decode cX8_bestExit 66 = .ok (.iload 5, 2) := by decide +kernel
theorem dX8_bestExit_68 : decode cX8_bestExit 68 = .ok (.invokevirtual 94, 3) := by decide +kernel
theorem dX8_bestExit_71 : decode cX8_bestExit 71 = .ok (.istore 7, 2) := by decide +kernel
theorem dX8_bestExit_73 : decode cX8_bestExit 73 = .ok (.iload 7, 2) := by decide +kernel
theorem dX8_bestExit_75 : decode cX8_bestExit 75 = .ok (.iload 4, 2) := by decide +kernel
theorem dX8_bestExit_77 : decode cX8_bestExit 77 = .ok (.if_icmp .lt 16, 3) := by decide +kernel
theorem dX8_bestExit_80 : decode cX8_bestExit 80 = .ok (.iload_n 2, 1) := by decide +kernel
theorem dX8_bestExit_81 : decode cX8_bestExit 81 = .ok (.iload 5, 2) := by decide +kernel
theorem dX8_bestExit_83 : decode cX8_bestExit 83 = .ok (.if_icmp .ne 14, 3) := by decide +kernel
theorem dX8_bestExit_86 : decode cX8_bestExit 86 = .ok (.iload 7, 2) := by decide +kernel
theorem dX8_bestExit_88 : decode cX8_bestExit 88 = .ok (.iload 4, 2) := by decide +kernel
theorem dX8_bestExit_90 : decode cX8_bestExit 90 = .ok (.if_icmp .ne 7, 3) := by decide +kernel
theorem dX8_bestExit_93 : decode cX8_bestExit 93 = .ok (.iconst 1, 1) := by decide +kernel
theorem dX8_bestExit_94 : decode cX8_bestExit 94 = .ok (.goto 4, 3) := by decide +kernel
theorem dX8_bestExit_97 : decode cX8_bestExit 97 = .ok (.iconst 0, 1) := by decide +kernel
theorem dX8_bestExit_98 : decode cX8_bestExit 98 = .ok (.istore 8, 2) := by decide +kernel
theorem dX8_bestExit_100 : decode cX8_bestExit 100 = .ok (.iload 8, 2) := by decide +kernel
theorem dX8_bestExit_102 : decode cX8_bestExit 102 = .ok (.ifCond .eq 8, 3) := by decide +kernel
theorem dX8_bestExit_105 : decode cX8_bestExit 105 = .ok (.iload 5, 2) := by decide +kernel
theorem dX8_bestExit_107 : decode cX8_bestExit 107 = .ok (.goto 4, 3) := by decide +kernel
theorem dX8_bestExit_110 : decode cX8_bestExit 110 = .ok (.iload_n 2, 1) := by decide +kernel
theorem dX8_bestExit_111 : decode cX8_bestExit 111 = .ok (.istore_n 2, 1) := by decide +kernel
theorem dX8_bestExit_112 : decode cX8_bestExit 112 = .ok (.iload 8, 2) := by decide +kernel
theorem dX8_bestExit_114 : decode cX8_bestExit 114 = .ok (.ifCond .eq 8, 3) := by decide +kernel
theorem dX8_bestExit_117 : decode cX8_bestExit 117 = .ok (.iload 6, 2) := by decide +kernel
theorem dX8_bestExit_119 : decode cX8_bestExit 119 = .ok (.goto 4, 3) := by decide +kernel
theorem dX8_bestExit_122 : decode cX8_bestExit 122 = .ok (.iload_n 3, 1) := by decide +kernel
theorem dX8_bestExit_123 : decode cX8_bestExit 123 = .ok (.istore_n 3, 1) := by decide +kernel
theorem dX8_bestExit_124 : decode cX8_bestExit 124 = .ok (.iload 8, 2) := by decide +kernel
theorem dX8_bestExit_126 : decode cX8_bestExit 126 = .ok (.ifCond .eq 8, 3) := by decide +kernel
theorem dX8_bestExit_129 : decode cX8_bestExit 129 = .ok (.iload 7, 2) := by decide +kernel
theorem dX8_bestExit_131 : decode cX8_bestExit 131 = .ok (.goto 5, 3) := by decide +kernel
theorem dX8_bestExit_134 : decode cX8_bestExit 134 = .ok (.iload 4, 2) := by decide +kernel
theorem dX8_bestExit_136 : decode cX8_bestExit 136 = .ok (.istore 4, 2) := by decide +kernel
theorem dX8_bestExit_138 : decode cX8_bestExit 138 = .ok (.iinc 6 (-1), 3) := by decide +kernel
theorem dX8_bestExit_141 : decode cX8_bestExit 141 = .ok (.goto (-107), 3) := by decide +kernel
theorem dX8_bestExit_144 : decode cX8_bestExit 144 = .ok (.iinc 5 1, 3) := by decide +kernel
theorem dX8_bestExit_147 : decode cX8_bestExit 147 = .ok (.goto (-125), 3) := by decide +kernel
theorem dX8_bestExit_150 : decode cX8_bestExit 150 = .ok (.iload_n 2, 1) := by decide +kernel
theorem dX8_bestExit_151 : decode cX8_bestExit 151 = .ok (.ifCond .ge 8, 3) := by decide +kernel
theorem dX8_bestExit_154 : decode cX8_bestExit 154 = .ok (.bipush (-4), 2) := by decide +kernel
theorem dX8_bestExit_156 : decode cX8_bestExit 156 = .ok (.goto 22, 3) := by decide +kernel
theorem dX8_bestExit_159 : decode cX8_bestExit 159 = .ok (.iload_n 1, 1) := by decide +kernel
theorem dX8_bestExit_160 : decode cX8_bestExit 160 = .ok (.ifCond .ne 7, 3) := by decide +kernel
theorem dX8_bestExit_163 : decode cX8_bestExit 163 = .ok (.iload_n 2, 1) := by decide +kernel
theorem dX8_bestExit_164 : decode cX8_bestExit 164 = .ok (.goto 14, 3) := by decide +kernel
theorem dX8_bestExit_167 : decode cX8_bestExit 167 = .ok (.iload_n 1, 1) := by decide +kernel
theorem dX8_bestExit_168 : decode cX8_bestExit 168 = .ok (.iconst 1, 1) := by decide +kernel
theorem dX8_bestExit_169 : decode cX8_bestExit 169 = .ok (.if_icmp .ne 7, 3) := by decide +kernel
theorem dX8_bestExit_172 : decode cX8_bestExit 172 = .ok (.iload_n 3, 1) := by decide +kernel
theorem dX8_bestExit_173 : decode cX8_bestExit 173 = .ok (.goto 5, 3) := by decide +kernel
theorem dX8_bestExit_176 : decode cX8_bestExit 176 = .ok (.iload 4, 2) := by decide +kernel
theorem dX8_bestExit_178 : decode cX8_bestExit 178 = .ok (.ireturn, 1) := by decide +kernel
set_option maxRecDepth 20000 in
theorem ggX8_keep_X8_passages : GoodIn wsX8_keep wsX8_passages := goodIn_r _ [8, 2, 9, 10, 11, 7, 12, 13, 14, 15, 16, 17, 18, 19, 20, 21, 22, 23, 24, 25, 26, 27, 28, 29, 30, 31, 32, 33, 34, 35, 36] (by decide +kernel) (by decide +kernel)
set_option maxRecDepth 20000 in
theorem gX8_keep_X8_passages : GoodIn wsX8_keep (wsV RX8 78 RX8 yX8_passages wsX8_passages) := goodIn_app (goodIn_of _ (by decide +kernel)) ggX8_keep_X8_passages
theorem dX8_keep_0 : decode cX8_keep 0 = .ok (.iconst 0, 1) := by decide +kernel
theorem dX8_keep_1 : decode cX8_keep 1 = .ok (.istore_n 1, 1) := by decide +kernel
theorem dX8_keep_2 : decode cX8_keep 2 = .ok (.iload_n 1, 1) := by decide +kernel
theorem dX8_keep_3 : decode cX8_keep 3 = .ok (.bipush 114, 2) := by decide +kernel
theorem dX8_keep_5 : decode cX8_keep 5 = .ok (.if_icmp .ge 21, 3) := by decide +kernel
theorem dX8_keep_8 : decode cX8_keep 8 = .ok (.aload_n 0, 1) := by decide +kernel
theorem dX8_keep_9 : decode cX8_keep 9 = .ok (.getfield 16, 3) := by decide +kernel
theorem dX8_keep_12 : decode cX8_keep 12 = .ok (.iload_n 1, 1) := by decide +kernel
theorem dX8_keep_13 : decode cX8_keep 13 = .ok (.aload_n 0, 1) := by decide +kernel
theorem dX8_keep_14 : decode cX8_keep 14 = .ok (.getfield 7, 3) := by decide +kernel
theorem dX8_keep_17 : decode cX8_keep 17 = .ok (.iload_n 1, 1) := by decide +kernel
theorem dX8_keep_18 : decode cX8_keep 18 = .ok (.iaload, 1) := by decide +kernel
theorem dX8_keep_19 : decode cX8_keep 19 = .ok (.iastore, 1) := by decide +kernel
theorem dX8_keep_20 : decode cX8_keep 20 = .ok (.iinc 1 1, 3) := by decide +kernel
theorem dX8_keep_23 : decode cX8_keep 23 = .ok (.goto (-21), 3) := by decide +kernel
theorem dX8_keep_26 : decode cX8_keep 26 = .ok (.aload_n 0, 1) := by decide +kernel
theorem dX8_keep_27 : decode cX8_keep 27 = .ok (.iconst 1, 1) := by decide +kernel
theorem dX8_keep_28 : decode cX8_keep 28 = .ok (.putfield 164, 3) := by decide +kernel
theorem dX8_keep_31 : decode cX8_keep 31 = .ok (.aload_n 0, 1) := by decide +kernel
theorem dX8_keep_32 : decode cX8_keep 32 = .ok (.invokevirtual 78, 3) := by decide +kernel
theorem dX8_keep_35 : decode cX8_keep 35 = .ok (.ireturn, 1) := by decide +kernel
set_option maxRecDepth 20000 in
theorem ggX8_restore_X8_begins : GoodIn wsX8_restore wsX8_begins := goodIn_r _ [8, 9, 2, 24, 25, 26, 27, 28, 29, 30, 31, 32, 33, 34, 35, 36, 37, 38, 39, 40, 41, 42, 43, 44, 45, 46, 47] (by decide +kernel) (by decide +kernel)
set_option maxRecDepth 20000 in
theorem gX8_restore_X8_begins : GoodIn wsX8_restore (wsV RX8 117 RX8 yX8_begins wsX8_begins) := goodIn_app (goodIn_of _ (by decide +kernel)) ggX8_restore_X8_begins
set_option maxRecDepth 20000 in
theorem ggX8_restore_X8_passages : GoodIn wsX8_restore wsX8_passages := goodIn_r _ [13, 2, 14, 15, 16, 7, 17, 24, 25, 26, 27, 28, 29, 30, 31, 32, 33, 34, 35, 36, 37, 38, 39, 40, 41, 42, 43, 44, 45, 46, 47] (by decide +kernel) (by decide +kernel)
set_option maxRecDepth 20000 in
theorem gX8_restore_X8_passages : GoodIn wsX8_restore (wsV RX8 78 RX8 yX8_passages wsX8_passages) := goodIn_app (goodIn_of _ (by decide +kernel)) ggX8_restore_X8_passages
set_option maxRecDepth 20000 in
theorem ggX8_restore_X8_acted : GoodIn wsX8_restore wsX8_acted := goodIn_r _ [21, 2, 9, 22, 23, 24, 25, 26, 27, 28, 29, 30, 31, 32, 33, 34, 35, 36, 37, 38, 39, 40, 41, 42, 43, 44, 45, 46, 47] (by decide +kernel) (by decide +kernel)
set_option maxRecDepth 20000 in
theorem gX8_restore_X8_acted : GoodIn wsX8_restore (wsV RX8 127 RX8 yX8_acted wsX8_acted) := goodIn_app (goodIn_of _ (by decide +kernel)) ggX8_restore_X8_acted
theorem dX8_restore_0 : decode cX8_restore 0 = .ok (.aload_n 0, 1) := by decide +kernel
theorem dX8_restore_1 : decode cX8_restore 1 = .ok (.invokevirtual 117, 3) := by decide +kernel
theorem dX8_restore_4 : decode cX8_restore 4 = .ok (.aload_n 0, 1) := by decide +kernel
theorem dX8_restore_5 : decode cX8_restore 5 = .ok (.getfield 164, 3) := by decide +kernel
theorem dX8_restore_8 : decode cX8_restore 8 = .ok (.ifCond .ne 6, 3) := by decide +kernel
theorem dX8_restore_11 : decode cX8_restore 11 = .ok (.bipush (-2), 2) := by decide +kernel
theorem dX8_restore_13 : decode cX8_restore 13 = .ok (.ireturn, 1) := by decide +kernel
theorem dX8_restore_14 : decode cX8_restore 14 = .ok (.iconst 0, 1) := by decide +kernel
theorem dX8_restore_15 : decode cX8_restore 15 = .ok (.istore_n 1, 1) := by decide +kernel
theorem dX8_restore_16 : decode cX8_restore 16 = .ok (.iload_n 1, 1) := by decide +kernel
theorem dX8_restore_17 : decode cX8_restore 17 = .ok (.bipush 114, 2) := by decide +kernel
theorem dX8_restore_19 : decode cX8_restore 19 = .ok (.if_icmp .ge 21, 3) := by decide +kernel
theorem dX8_restore_22 : decode cX8_restore 22 = .ok (.aload_n 0, 1) := by decide +kernel
theorem dX8_restore_23 : decode cX8_restore 23 = .ok (.getfield 7, 3) := by decide +kernel
theorem dX8_restore_26 : decode cX8_restore 26 = .ok (.iload_n 1, 1) := by decide +kernel
theorem dX8_restore_27 : decode cX8_restore 27 = .ok (.aload_n 0, 1) := by decide +kernel
theorem dX8_restore_28 : decode cX8_restore 28 = .ok (.getfield 16, 3) := by decide +kernel
theorem dX8_restore_31 : decode cX8_restore 31 = .ok (.iload_n 1, 1) := by decide +kernel
theorem dX8_restore_32 : decode cX8_restore 32 = .ok (.iaload, 1) := by decide +kernel
theorem dX8_restore_33 : decode cX8_restore 33 = .ok (.iastore, 1) := by decide +kernel
theorem dX8_restore_34 : decode cX8_restore 34 = .ok (.iinc 1 1, 3) := by decide +kernel
theorem dX8_restore_37 : decode cX8_restore 37 = .ok (.goto (-21), 3) := by decide +kernel
theorem dX8_restore_40 : decode cX8_restore 40 = .ok (.aload_n 0, 1) := by decide +kernel
theorem dX8_restore_41 : decode cX8_restore 41 = .ok (.aload_n 0, 1) := by decide +kernel
theorem dX8_restore_42 : decode cX8_restore 42 = .ok (.invokevirtual 78, 3) := by decide +kernel
theorem dX8_restore_45 : decode cX8_restore 45 = .ok (.invokevirtual 127, 3) := by decide +kernel
theorem dX8_restore_48 : decode cX8_restore 48 = .ok (.ireturn, 1) := by decide +kernel
theorem dX8_undo_0 : decode cX8_undo 0 = .ok (.aload_n 0, 1) := by decide +kernel
theorem dX8_undo_1 : decode cX8_undo 1 = .ok (.getfield 51, 3) := by decide +kernel
theorem dX8_undo_4 : decode cX8_undo 4 = .ok (.ifCond .ne 6, 3) := by decide +kernel
theorem dX8_undo_7 : decode cX8_undo 7 = .ok (.bipush (-2), 2) := by decide +kernel
theorem dX8_undo_9 : decode cX8_undo 9 = .ok (.ireturn, 1) := by decide +kernel
theorem dX8_undo_10 : decode cX8_undo 10 = .ok (.aload_n 0, 1) := by decide +kernel
theorem dX8_undo_11 : decode cX8_undo 11 = .ok (.dup, 1) := by decide +kernel
theorem dX8_undo_12 : decode cX8_undo 12 = .ok (.getfield 51, 3) := by decide +kernel
theorem dX8_undo_15 : decode cX8_undo 15 = .ok (.iconst 1, 1) := by decide +kernel
theorem dX8_undo_16 : decode cX8_undo 16 = .ok (.isub, 1) := by decide +kernel
theorem dX8_undo_17 : decode cX8_undo 17 = .ok (.putfield 51, 3) := by decide +kernel
theorem dX8_undo_20 : decode cX8_undo 20 = .ok (.iconst 0, 1) := by decide +kernel
theorem dX8_undo_21 : decode cX8_undo 21 = .ok (.istore_n 1, 1) := by decide +kernel
theorem dX8_undo_22 : decode cX8_undo 22 = .ok (.iload_n 1, 1) := by decide +kernel
theorem dX8_undo_23 : decode cX8_undo 23 = .ok (.bipush 114, 2) := by decide +kernel
theorem dX8_undo_25 : decode cX8_undo 25 = .ok (.if_icmp .ge 29, 3) := by decide +kernel
theorem dX8_undo_28 : decode cX8_undo 28 = .ok (.aload_n 0, 1) := by decide +kernel
theorem dX8_undo_29 : decode cX8_undo 29 = .ok (.getfield 7, 3) := by decide +kernel
theorem dX8_undo_32 : decode cX8_undo 32 = .ok (.iload_n 1, 1) := by decide +kernel
theorem dX8_undo_33 : decode cX8_undo 33 = .ok (.aload_n 0, 1) := by decide +kernel
theorem dX8_undo_34 : decode cX8_undo 34 = .ok (.getfield 19, 3) := by decide +kernel
theorem dX8_undo_37 : decode cX8_undo 37 = .ok (.bipush 114, 2) := by decide +kernel
theorem dX8_undo_39 : decode cX8_undo 39 = .ok (.aload_n 0, 1) := by decide +kernel
theorem dX8_undo_40 : decode cX8_undo 40 = .ok (.getfield 51, 3) := by decide +kernel
theorem dX8_undo_43 : decode cX8_undo 43 = .ok (.imul, 1) := by decide +kernel
theorem dX8_undo_44 : decode cX8_undo 44 = .ok (.iload_n 1, 1) := by decide +kernel
theorem dX8_undo_45 : decode cX8_undo 45 = .ok (.iadd, 1) := by decide +kernel
theorem dX8_undo_46 : decode cX8_undo 46 = .ok (.iaload, 1) := by decide +kernel
theorem dX8_undo_47 : decode cX8_undo 47 = .ok (.iastore, 1) := by decide +kernel
theorem dX8_undo_48 : decode cX8_undo 48 = .ok (.iinc 1 1, 3) := by decide +kernel
theorem dX8_undo_51 : decode cX8_undo 51 = .ok (.goto (-29), 3) := by decide +kernel
theorem dX8_undo_54 : decode cX8_undo 54 = .ok (.aload_n 0, 1) := by decide +kernel
theorem dX8_undo_55 : decode cX8_undo 55 = .ok (.getfield 51, 3) := by decide +kernel
theorem dX8_undo_58 : decode cX8_undo 58 = .ok (.ireturn, 1) := by decide +kernel
set_option maxRecDepth 20000 in
theorem ggX8_type_X8_in : GoodIn wsX8_type wsX8_in := goodIn_r _ [6] (by decide +kernel) (by decide +kernel)
set_option maxRecDepth 20000 in
theorem gX8_type_X8_in : GoodIn wsX8_type (va_wsS RX8 59 yX8_in wsX8_in) := goodIn_app (goodIn_of _ (by decide +kernel)) ggX8_type_X8_in
theorem dX8_type_0 : decode cX8_type 0 = .ok (.iload_n 1, 1) := by decide +kernel
theorem dX8_type_1 : decode cX8_type 1 = .ok (.bipush 32, 2) := by decide +kernel
theorem dX8_type_3 : decode cX8_type 3 = .ok (.bipush 126, 2) := by decide +kernel
theorem dX8_type_5 : decode cX8_type 5 = .ok (.invokestatic 59, 3) := by decide +kernel
theorem dX8_type_8 : decode cX8_type 8 = .ok (.ifCond .ne 5, 3) := by decide +kernel
theorem dX8_type_11 : decode cX8_type 11 = .ok (.iconst (-1), 1) := by decide +kernel
theorem dX8_type_12 : decode cX8_type 12 = .ok (.ireturn, 1) := by decide +kernel
theorem dX8_type_13 : decode cX8_type 13 = .ok (.aload_n 0, 1) := by decide +kernel
theorem dX8_type_14 : decode cX8_type 14 = .ok (.getfield 161, 3) := by decide +kernel
theorem dX8_type_17 : decode cX8_type 17 = .ok (.bipush 60, 2) := by decide +kernel
theorem dX8_type_19 : decode cX8_type 19 = .ok (.if_icmp .ne 6, 3) := by decide +kernel
theorem dX8_type_22 : decode cX8_type 22 = .ok (.bipush (-3), 2) := by decide +kernel
theorem dX8_type_24 : decode cX8_type 24 = .ok (.ireturn, 1) := by decide +kernel
theorem dX8_type_25 : decode cX8_type 25 = .ok (.aload_n 0, 1) := by decide +kernel
theorem dX8_type_26 : decode cX8_type 26 = .ok (.getfield 22, 3) := by decide +kernel
theorem dX8_type_29 : decode cX8_type 29 = .ok (.aload_n 0, 1) := by decide +kernel
theorem dX8_type_30 : decode cX8_type 30 = .ok (.getfield 161, 3) := by decide +kernel
theorem dX8_type_33 : decode cX8_type 33 = .ok (.iload_n 1, 1) := by decide +kernel
theorem dX8_type_34 : decode cX8_type 34 = .ok (.iastore, 1) := by decide +kernel
theorem dX8_type_35 : decode cX8_type 35 = .ok (.aload_n 0, 1) := by decide +kernel
theorem dX8_type_36 : decode cX8_type 36 = .ok (.dup, 1) := by decide +kernel
theorem dX8_type_37 : decode cX8_type 37 = .ok (.getfield 161, 3) := by decide +kernel
theorem dX8_type_40 : decode cX8_type 40 = .ok (.iconst 1, 1) := by decide +kernel
theorem dX8_type_41 : decode cX8_type 41 = .ok (.iadd, 1) := by decide +kernel
theorem dX8_type_42 : decode cX8_type 42 = .ok (.putfield 161, 3) := by decide +kernel
theorem dX8_type_45 : decode cX8_type 45 = .ok (.aload_n 0, 1) := by decide +kernel
theorem dX8_type_46 : decode cX8_type 46 = .ok (.getfield 161, 3) := by decide +kernel
theorem dX8_type_49 : decode cX8_type 49 = .ok (.ireturn, 1) := by decide +kernel
theorem dX8_clearText_0 : decode cX8_clearText 0 = .ok (.aload_n 0, 1) := by decide +kernel
theorem dX8_clearText_1 : decode cX8_clearText 1 = .ok (.getfield 161, 3) := by decide +kernel
theorem dX8_clearText_4 : decode cX8_clearText 4 = .ok (.istore_n 1, 1) := by decide +kernel
theorem dX8_clearText_5 : decode cX8_clearText 5 = .ok (.aload_n 0, 1) := by decide +kernel
theorem dX8_clearText_6 : decode cX8_clearText 6 = .ok (.iconst 0, 1) := by decide +kernel
theorem dX8_clearText_7 : decode cX8_clearText 7 = .ok (.putfield 161, 3) := by decide +kernel
theorem dX8_clearText_10 : decode cX8_clearText 10 = .ok (.iload_n 1, 1) := by decide +kernel
theorem dX8_clearText_11 : decode cX8_clearText 11 = .ok (.ireturn, 1) := by decide +kernel
theorem dX8_breaks_0 : decode cX8_breaks 0 = .ok (.aload_n 0, 1) := by decide +kernel
theorem dX8_breaks_1 : decode cX8_breaks 1 = .ok (.iload_n 1, 1) := by decide +kernel
theorem dX8_breaks_2 : decode cX8_breaks 2 = .ok (.putfield 177, 3) := by decide +kernel
theorem dX8_breaks_5 : decode cX8_breaks 5 = .ok (.aload_n 0, 1) := by decide +kernel
theorem dX8_breaks_6 : decode cX8_breaks 6 = .ok (.iload_n 2, 1) := by decide +kernel
theorem dX8_breaks_7 : decode cX8_breaks 7 = .ok (.putfield 180, 3) := by decide +kernel
theorem dX8_breaks_10 : decode cX8_breaks 10 = .ok (.iconst 0, 1) := by decide +kernel
theorem dX8_breaks_11 : decode cX8_breaks 11 = .ok (.ireturn, 1) := by decide +kernel
set_option maxRecDepth 20000 in
theorem ggX8_isPicture_X8_in : GoodIn wsX8_isPicture wsX8_in := goodIn_r _ [8] (by decide +kernel) (by decide +kernel)
set_option maxRecDepth 20000 in
theorem gX8_isPicture_X8_in : GoodIn wsX8_isPicture (va_wsS RX8 59 yX8_in wsX8_in) := goodIn_app (goodIn_of _ (by decide +kernel)) ggX8_isPicture_X8_in
set_option maxRecDepth 20000 in
theorem ggX8_isPicture_X8_breaks : GoodIn wsX8_isPicture wsX8_breaks := goodIn_r _ [12, 13, 14, 15, 16, 17, 18, 19, 20, 21, 22, 23, 24, 25, 26, 27, 28, 29, 30, 31, 32, 33, 34, 35, 36, 37, 38] (by decide +kernel) (by decide +kernel)
set_option maxRecDepth 20000 in
theorem gX8_isPicture_X8_breaks : GoodIn wsX8_isPicture (wsV RX8 189 RX8 yX8_breaks wsX8_breaks) := goodIn_app (goodIn_of _ (by decide +kernel)) ggX8_isPicture_X8_breaks
theorem dX8_isPicture_0 : decode cX8_isPicture 0 = .ok (.aload_n 0, 1) := by decide +kernel
theorem dX8_isPicture_1 : decode cX8_isPicture 1 = .ok (.iconst 0, 1) := by decide +kernel
theorem dX8_isPicture_2 : decode cX8_isPicture 2 = .ok (.putfield 183, 3) := by decide +kernel
theorem dX8_isPicture_5 : decode cX8_isPicture 5 = .ok (.aload_n 0, 1) := by decide +kernel
theorem dX8_isPicture_6 : decode cX8_isPicture 6 = .ok (.iconst 1, 1) := by decide +kernel
theorem dX8_isPicture_7 : decode cX8_isPicture 7 = .ok (.putfield 186, 3) := by decide +kernel
theorem dX8_isPicture_10 : decode cX8_isPicture 10 = .ok (.iconst 0, 1) := by decide +kernel
theorem dX8_isPicture_11 : decode cX8_isPicture 11 = .ok (.istore_n 1, 1) := by decide +kernel
theorem dX8_isPicture_12 : decode cX8_isPicture 12 = .ok (.iconst 0, 1) := by decide +kernel
theorem dX8_isPicture_13 : decode cX8_isPicture 13 = .ok (.istore_n 2, 1) := by decide +kernel
theorem dX8_isPicture_14 : decode cX8_isPicture 14 = .ok (.iload_n 2, 1) := by decide +kernel
theorem dX8_isPicture_15 : decode cX8_isPicture 15 = .ok (.aload_n 0, 1) := by decide +kernel
theorem dX8_isPicture_16 : decode cX8_isPicture 16 = .ok (.getfield 161, 3) := by decide +kernel
theorem dX8_isPicture_19 : decode cX8_isPicture 19 = .ok (.if_icmp .ge 153, 3) := by decide +kernel
theorem dX8_isPicture_22 : decode cX8_isPicture 22 = .ok (.aload_n 0, 1) := by decide +kernel
theorem dX8_isPicture_23 : decode cX8_isPicture 23 = .ok (.getfield 22, 3) := by decide +kernel
theorem dX8_isPicture_26 : decode cX8_isPicture 26 = .ok (.iload_n 2, 1) := by decide +kernel
theorem dX8_isPicture_27 : decode cX8_isPicture 27 = .ok (.iaload, 1) := by decide +kernel
theorem dX8_isPicture_28 : decode cX8_isPicture 28 = .ok (.istore_n 3, 1) := by decide +kernel
theorem dX8_isPicture_29 : decode cX8_isPicture 29 = .ok (.iload_n 3, 1) := by decide +kernel
theorem dX8_isPicture_30 : decode cX8_isPicture 30 = .ok (.bipush 48, 2) := by decide +kernel
theorem dX8_isPicture_32 : decode cX8_isPicture 32 = .ok (.bipush 57, 2) := by decide +kernel
theorem dX8_isPicture_34 : decode cX8_isPicture 34 = .ok (.invokestatic 59, 3) := by decide +kernel
theorem dX8_isPicture_37 : decode cX8_isPicture 37 = .ok (.ifCond .eq 73, 3) := by decide +kernel
theorem dX8_isPicture_40 : decode cX8_isPicture 40 = .ok (.aload_n 0, 1) := by decide +kernel
theorem dX8_isPicture_41 : decode cX8_isPicture 41 = .ok (.getfield 186, 3) := by decide +kernel
theorem dX8_isPicture_44 : decode cX8_isPicture 44 = .ok (.iconst 1, 1) := by decide +kernel
theorem dX8_isPicture_45 : decode cX8_isPicture 45 = .ok (.if_icmp .ne 16, 3) := by decide +kernel
theorem dX8_isPicture_48 : decode cX8_isPicture 48 = .ok (.iload_n 1, 1) := by decide +kernel
theorem dX8_isPicture_49 : decode cX8_isPicture 49 = .ok (.bipush 6, 2) := by decide +kernel
theorem dX8_isPicture_51 : decode cX8_isPicture 51 = .ok (.if_icmp .ne 10, 3) := by decide +kernel
theorem dX8_isPicture_54 : decode cX8_isPicture 54 = .ok (.aload_n 0, 1) := by decide +kernel
theorem dX8_isPicture_55 : decode cX8_isPicture 55 = .ok (.iload_n 2, 1) := by decide +kernel
theorem dX8_isPicture_56 : decode cX8_isPicture 56 = .ok (.iconst 2, 1) := by decide +kernel
theorem dX8_isPicture_57 : decode cX8_isPicture 57 = .ok (.invokevirtual 189, 3) := by decide +kernel
theorem dX8_isPicture_60 : decode cX8_isPicture 60 = .ok (.ireturn, 1) := by decide +kernel
theorem dX8_isPicture_61 : decode cX8_isPicture 61 = .ok (.aload_n 0, 1) := by decide +kernel
theorem dX8_isPicture_62 : decode cX8_isPicture 62 = .ok (.getfield 186, 3) := by decide +kernel
theorem dX8_isPicture_65 : decode cX8_isPicture 65 = .ok (.iconst 1, 1) := by decide +kernel
theorem dX8_isPicture_66 : decode cX8_isPicture 66 = .ok (.if_icmp .le 18, 3) := by decide +kernel
theorem dX8_isPicture_69 : decode cX8_isPicture 69 = .ok (.iload_n 1, 1) := by decide +kernel
theorem dX8_isPicture_70 : decode cX8_isPicture 70 = .ok (.aload_n 0, 1) := by decide +kernel
theorem dX8_isPicture_71 : decode cX8_isPicture 71 = .ok (.getfield 183, 3) := by decide +kernel
theorem dX8_isPicture_74 : decode cX8_isPicture 74 = .ok (.if_icmp .ne 10, 3) := by decide +kernel
theorem dX8_isPicture_77 : decode cX8_isPicture 77 = .ok (.aload_n 0, 1) := by decide +kernel
theorem dX8_isPicture_78 : decode cX8_isPicture 78 = .ok (.iload_n 2, 1) := by decide +kernel
theorem dX8_isPicture_79 : decode cX8_isPicture 79 = .ok (.iconst 1, 1) := by decide +kernel
theorem dX8_isPicture_80 : decode cX8_isPicture 80 = .ok (.invokevirtual 189, 3) := by decide +kernel
theorem dX8_isPicture_83 : decode cX8_isPicture 83 = .ok (.ireturn, 1) := by decide +kernel
theorem dX8_isPicture_84 : decode cX8_isPicture 84 = .ok (.iinc 1 1, 3) := by decide +kernel
theorem dX8_isPicture_87 : decode cX8_isPicture 87 = .ok (.aload_n 0, 1) := by decide +kernel
theorem dX8_isPicture_88 : decode cX8_isPicture 88 = .ok (.aload_n 0, 1) := by decide +kernel
theorem dX8_isPicture_89 : decode cX8_isPicture 89 = .ok (.getfield 186, 3) := by decide +kernel
theorem dX8_isPicture_92 : decode cX8_isPicture 92 = .ok (.iconst 1, 1) := by decide +kernel
theorem dX8_isPicture_93 : decode cX8_isPicture 93 = .ok (.if_icmp .ne 7, 3) := by decide +kernel
theorem dX8_isPicture_96 : decode cX8_isPicture 96 = .ok (.iload_n 1, 1) := by decide +kernel
theorem dX8_isPicture_97 : decode cX8_isPicture 97 = .ok (.goto 7, 3) := by decide +kernel
theorem dX8_isPicture_100 : decode cX8_isPicture 100 = .ok (.aload_n 0, 1) := by decide +kernel
theorem dX8_isPicture_101 : decode cX8_isPicture 101 = .ok (.getfield 183, 3) := by decide +kernel
theorem dX8_isPicture_104 : decode cX8_isPicture 104 = .ok (.putfield 183, 3) := by decide +kernel
theorem dX8_isPicture_107 : decode cX8_isPicture 107 = .ok (.goto 59, 3) := by decide +kernel
theorem dX8_isPicture_110 : decode cX8_isPicture 110 = .ok (.iload_n 3, 1) := by decide +kernel
theorem dX8_isPicture_111 : decode cX8_isPicture 111 = .ok (.bipush 47, 2) := by decide +kernel
theorem dX8_isPicture_113 : decode cX8_isPicture 113 = .ok (.if_icmp .ne 46, 3) := by decide +kernel
theorem dX8_isPicture_116 : decode cX8_isPicture 116 = .ok (.iload_n 1, 1) := by decide +kernel
theorem dX8_isPicture_117 : decode cX8_isPicture 117 = .ok (.ifCond .le 42, 3) := by decide +kernel
theorem dX8_isPicture_120 : decode cX8_isPicture 120 = .ok (.iload_n 1, 1) := by decide +kernel
theorem dX8_isPicture_121 : decode cX8_isPicture 121 = .ok (.aload_n 0, 1) := by decide +kernel
theorem dX8_isPicture_122 : decode cX8_isPicture 122 = .ok (.getfield 183, 3) := by decide +kernel
theorem dX8_isPicture_125 : decode cX8_isPicture 125 = .ok (.if_icmp .ne 34, 3) := by decide +kernel
theorem dX8_isPicture_128 : decode cX8_isPicture 128 = .ok (.aload_n 0, 1) := by decide +kernel
theorem dX8_isPicture_129 : decode cX8_isPicture 129 = .ok (.getfield 186, 3) := by decide +kernel
theorem dX8_isPicture_132 : decode cX8_isPicture 132 = .ok (.bipush 6, 2) := by decide +kernel
theorem dX8_isPicture_134 : decode cX8_isPicture 134 = .ok (.if_icmp .ne 10, 3) := by decide +kernel
theorem dX8_isPicture_137 : decode cX8_isPicture 137 = .ok (.aload_n 0, 1) := by decide +kernel
theorem dX8_isPicture_138 : decode cX8_isPicture 138 = .ok (.iload_n 2, 1) := by decide +kernel
theorem dX8_isPicture_139 : decode cX8_isPicture 139 = .ok (.iconst 3, 1) := by decide +kernel
theorem dX8_isPicture_140 : decode cX8_isPicture 140 = .ok (.invokevirtual 189, 3) := by decide +kernel
theorem dX8_isPicture_143 : decode cX8_isPicture 143 = .ok (.ireturn, 1) := by decide +kernel
theorem dX8_isPicture_144 : decode cX8_isPicture 144 = .ok (.aload_n 0, 1) := by decide +kernel
theorem dX8_isPicture_145 : decode cX8_isPicture 145 = .ok (.dup, 1) := by decide +kernel
theorem dX8_isPicture_146 : decode cX8_isPicture 146 = .ok (.getfield 186, 3) := by decide +kernel
theorem dX8_isPicture_149 : decode cX8_isPicture 149 = .ok (.iconst 1, 1) := by decide +kernel
theorem dX8_isPicture_150 : decode cX8_isPicture 150 = .ok (.iadd, 1) := by decide +kernel
theorem dX8_isPicture_151 : decode cX8_isPicture 151 = .ok (.putfield 186, 3) := by decide +kernel
theorem dX8_isPicture_154 : decode cX8_isPicture 154 = .ok (.iconst 0, 1) := by decide +kernel
theorem dX8_isPicture_155 : decode cX8_isPicture 155 = .ok (.istore_n 1, 1) := by decide +kernel
theorem dX8_isPicture_156 : decode cX8_isPicture 156 = .ok (.goto 10, 3) := by decide +kernel
theorem dX8_isPicture_159 : decode cX8_isPicture 159 = .ok (.aload_n 0, 1) := by decide +kernel
theorem dX8_isPicture_160 : decode cX8_isPicture 160 = .ok (.iload_n 2, 1) := by decide +kernel
theorem dX8_isPicture_161 : decode cX8_isPicture 161 = .ok (.iconst 1, 1) := by decide +kernel
theorem dX8_isPicture_162 : decode cX8_isPicture 162 = .ok (.invokevirtual 189, 3) := by decide +kernel
theorem dX8_isPicture_165 : decode cX8_isPicture 165 = .ok (.ireturn, 1) := by decide +kernel
theorem dX8_isPicture_166 : decode cX8_isPicture 166 = .ok (.iinc 2 1, 3) := by decide +kernel
theorem dX8_isPicture_169 : decode cX8_isPicture 169 = .ok (.goto (-155), 3) := by decide +kernel
theorem dX8_isPicture_172 : decode cX8_isPicture 172 = .ok (.iload_n 1, 1) := by decide +kernel
theorem dX8_isPicture_173 : decode cX8_isPicture 173 = .ok (.ifCond .eq 11, 3) := by decide +kernel
theorem dX8_isPicture_176 : decode cX8_isPicture 176 = .ok (.iload_n 1, 1) := by decide +kernel
theorem dX8_isPicture_177 : decode cX8_isPicture 177 = .ok (.aload_n 0, 1) := by decide +kernel
theorem dX8_isPicture_178 : decode cX8_isPicture 178 = .ok (.getfield 183, 3) := by decide +kernel
theorem dX8_isPicture_181 : decode cX8_isPicture 181 = .ok (.if_icmp .ge 13, 3) := by decide +kernel
theorem dX8_isPicture_184 : decode cX8_isPicture 184 = .ok (.aload_n 0, 1) := by decide +kernel
theorem dX8_isPicture_185 : decode cX8_isPicture 185 = .ok (.aload_n 0, 1) := by decide +kernel
theorem dX8_isPicture_186 : decode cX8_isPicture 186 = .ok (.getfield 161, 3) := by decide +kernel
theorem dX8_isPicture_189 : decode cX8_isPicture 189 = .ok (.iconst 1, 1) := by decide +kernel
theorem dX8_isPicture_190 : decode cX8_isPicture 190 = .ok (.invokevirtual 189, 3) := by decide +kernel
theorem dX8_isPicture_193 : decode cX8_isPicture 193 = .ok (.ireturn, 1) := by decide +kernel
theorem dX8_isPicture_194 : decode cX8_isPicture 194 = .ok (.aload_n 0, 1) := by decide +kernel
theorem dX8_isPicture_195 : decode cX8_isPicture 195 = .ok (.getfield 183, 3) := by decide +kernel
theorem dX8_isPicture_198 : decode cX8_isPicture 198 = .ok (.iconst 1, 1) := by decide +kernel
theorem dX8_isPicture_199 : decode cX8_isPicture 199 = .ok (.if_icmp .le 11, 3) := by decide +kernel
theorem dX8_isPicture_202 : decode cX8_isPicture 202 = .ok (.aload_n 0, 1) := by decide +kernel
theorem dX8_isPicture_203 : decode cX8_isPicture 203 = .ok (.getfield 186, 3) := by decide +kernel
theorem dX8_isPicture_206 : decode cX8_isPicture 206 = .ok (.iconst 1, 1) := by decide +kernel
theorem dX8_isPicture_207 : decode cX8_isPicture 207 = .ok (.if_icmp .gt 15, 3) := by decide +kernel
theorem dX8_isPicture_210 : decode cX8_isPicture 210 = .ok (.aload_n 0, 1) := by decide +kernel
theorem dX8_isPicture_211 : decode cX8_isPicture 211 = .ok (.aload_n 0, 1) := by decide +kernel
theorem dX8_isPicture_212 : decode cX8_isPicture 212 = .ok (.getfield 161, 3) := by decide +kernel
theorem dX8_isPicture_215 : decode cX8_isPicture 215 = .ok (.iconst 4, 1) := by decide +kernel
theorem dX8_isPicture_216 : decode cX8_isPicture 216 = .ok (.invokevirtual 189, 3) := by decide +kernel
theorem dX8_isPicture_219 : decode cX8_isPicture 219 = .ok (.ifCond .eq 7, 3) := by decide +kernel
theorem dX8_isPicture_222 : decode cX8_isPicture 222 = .ok (.iconst 1, 1) := by decide +kernel
theorem dX8_isPicture_223 : decode cX8_isPicture 223 = .ok (.goto 4, 3) := by decide +kernel
theorem dX8_isPicture_226 : decode cX8_isPicture 226 = .ok (.iconst 0, 1) := by decide +kernel
theorem dX8_isPicture_227 : decode cX8_isPicture 227 = .ok (.ireturn, 1) := by decide +kernel
set_option maxRecDepth 20000 in
theorem ggX8_fault_X8_in : GoodIn wsX8_fault wsX8_in := goodIn_r _ [6] (by decide +kernel) (by decide +kernel)
set_option maxRecDepth 20000 in
theorem gX8_fault_X8_in : GoodIn wsX8_fault (va_wsS RX8 59 yX8_in wsX8_in) := goodIn_app (goodIn_of _ (by decide +kernel)) ggX8_fault_X8_in
set_option maxRecDepth 20000 in
theorem ggX8_fault_X8_isPicture : GoodIn wsX8_fault wsX8_isPicture := goodIn_r _ [10, 11, 12, 13, 14, 3, 4, 5, 6, 15, 16, 17, 18, 1, 2, 19, 20, 21, 22, 23, 24, 25, 26, 27, 28, 29, 30, 31, 32, 33, 34, 35, 36, 37, 38, 39, 40, 41, 42] (by decide +kernel) (by decide +kernel)
set_option maxRecDepth 20000 in
theorem gX8_fault_X8_isPicture : GoodIn wsX8_fault (wsV RX8 192 RX8 yX8_isPicture wsX8_isPicture) := goodIn_app (goodIn_of _ (by decide +kernel)) ggX8_fault_X8_isPicture
theorem dX8_fault_0 : decode cX8_fault 0 = .ok (.iload_n 1, 1) := by decide +kernel
theorem dX8_fault_1 : decode cX8_fault 1 = .ok (.iconst 0, 1) := by decide +kernel
theorem dX8_fault_2 : decode cX8_fault 2 = .ok (.iconst 1, 1) := by decide +kernel
theorem dX8_fault_3 : decode cX8_fault 3 = .ok (.invokestatic 59, 3) := by decide +kernel
theorem dX8_fault_6 : decode cX8_fault 6 = .ok (.ifCond .ne 5, 3) := by decide +kernel
theorem dX8_fault_9 : decode cX8_fault 9 = .ok (.iconst (-1), 1) := by decide +kernel
theorem dX8_fault_10 : decode cX8_fault 10 = .ok (.ireturn, 1) := by decide +kernel
theorem dX8_fault_11 : decode cX8_fault 11 = .ok (.aload_n 0, 1) := by decide +kernel
theorem dX8_fault_12 : decode cX8_fault 12 = .ok (.invokevirtual 192, 3) := by decide +kernel
theorem dX8_fault_15 : decode cX8_fault 15 = .ok (.ifCond .eq 6, 3) := by decide +kernel
theorem dX8_fault_18 : decode cX8_fault 18 = .ok (.bipush (-4), 2) := by decide +kernel
theorem dX8_fault_20 : decode cX8_fault 20 = .ok (.ireturn, 1) := by decide +kernel
theorem dX8_fault_21 : decode cX8_fault 21 = .ok (.iload_n 1, 1) := by decide +kernel
theorem dX8_fault_22 : decode cX8_fault 22 = .ok (.ifCond .ne 10, 3) := by decide +kernel
theorem dX8_fault_25 : decode cX8_fault 25 = .ok (.aload_n 0, 1) := by decide +kernel
theorem dX8_fault_26 : decode cX8_fault 26 = .ok (.getfield 177, 3) := by decide +kernel
theorem dX8_fault_29 : decode cX8_fault 29 = .ok (.goto 7, 3) := by decide +kernel
theorem dX8_fault_32 : decode cX8_fault 32 = .ok (.aload_n 0, 1) := by decide +kernel
theorem dX8_fault_33 : decode cX8_fault 33 = .ok (.getfield 180, 3) := by decide +kernel
theorem dX8_fault_36 : decode cX8_fault 36 = .ok (.ireturn, 1) := by decide +kernel
set_option maxRecDepth 20000 in
theorem ggX8_read_X8_begins : GoodIn wsX8_read wsX8_begins := goodIn_r _ [9, 10, 3, 39, 40, 41, 42, 43, 44, 45, 46, 47, 48, 49, 50, 51, 52, 53, 54, 55, 56, 57, 58, 59, 60, 61, 62] (by decide +kernel) (by decide +kernel)
set_option maxRecDepth 20000 in
theorem gX8_read_X8_begins : GoodIn wsX8_read (wsV RX8 117 RX8 yX8_begins wsX8_begins) := goodIn_app (goodIn_of _ (by decide +kernel)) ggX8_read_X8_begins
set_option maxRecDepth 20000 in
theorem ggX8_read_X8_isPicture : GoodIn wsX8_read wsX8_isPicture := goodIn_r _ [14, 1, 2, 15, 4, 16, 17, 8, 18, 19, 20, 21, 22, 23, 24, 39, 40, 41, 42, 43, 44, 45, 46, 47, 48, 49, 50, 51, 52, 53, 54, 55, 56, 57, 58, 59, 60, 61, 62] (by decide +kernel) (by decide +kernel)
set_option maxRecDepth 20000 in
theorem gX8_read_X8_isPicture : GoodIn wsX8_read (wsV RX8 192 RX8 yX8_isPicture wsX8_isPicture) := goodIn_app (goodIn_of _ (by decide +kernel)) ggX8_read_X8_isPicture
set_option maxRecDepth 20000 in
theorem ggX8_read_X8_lightens : GoodIn wsX8_read wsX8_lightens := goodIn_r _ [28, 3, 39, 40, 41, 42, 43, 44, 45, 46, 47, 48, 49, 50, 51, 52, 53, 54, 55, 56, 57, 58, 59, 60, 61, 62] (by decide +kernel) (by decide +kernel)
set_option maxRecDepth 20000 in
theorem gX8_read_X8_lightens : GoodIn wsX8_read (wsV RX8 47 RX8 yX8_lightens wsX8_lightens) := goodIn_app (goodIn_of _ (by decide +kernel)) ggX8_read_X8_lightens
set_option maxRecDepth 20000 in
theorem ggX8_read_X8_cells : GoodIn wsX8_read wsX8_cells := goodIn_r _ [32, 3, 39, 40, 41, 42, 43, 44, 45, 46, 47, 48, 49, 50, 51, 52, 53, 54, 55, 56, 57, 58, 59, 60, 61, 62] (by decide +kernel) (by decide +kernel)
set_option maxRecDepth 20000 in
theorem gX8_read_X8_cells : GoodIn wsX8_read (wsV RX8 55 RX8 yX8_cells wsX8_cells) := goodIn_app (goodIn_of _ (by decide +kernel)) ggX8_read_X8_cells
set_option maxRecDepth 20000 in
theorem ggX8_read_X8_acted : GoodIn wsX8_read wsX8_acted := goodIn_r _ [36, 3, 10, 37, 38, 39, 40, 41, 42, 43, 44, 45, 46, 47, 48, 49, 50, 51, 52, 53, 54, 55, 56, 57, 58, 59, 60, 61, 62] (by decide +kernel) (by decide +kernel)
set_option maxRecDepth 20000 in
theorem gX8_read_X8_acted : GoodIn wsX8_read (wsV RX8 127 RX8 yX8_acted wsX8_acted) := goodIn_app (goodIn_of _ (by decide +kernel)) ggX8_read_X8_acted
theorem dX8_read_0 : decode cX8_read 0 = .ok (.aload_n 0, 1) := by decide +kernel
theorem dX8_read_1 : decode cX8_read 1 = .ok (.invokevirtual 117, 3) := by decide +kernel
theorem dX8_read_4 : decode cX8_read 4 = .ok (.aload_n 0, 1) := by decide +kernel
theorem dX8_read_5 : decode cX8_read 5 = .ok (.invokevirtual 192, 3) := by decide +kernel
theorem dX8_read_8 : decode cX8_read 8 = .ok (.ifCond .ne 6, 3) := by decide +kernel
theorem dX8_read_11 : decode cX8_read 11 = .ok (.bipush (-2), 2) := by decide +kernel
theorem dX8_read_13 : decode cX8_read 13 = .ok (.ireturn, 1) := by decide +kernel
theorem dX8_read_14 : decode cX8_read 14 = .ok (.aload_n 0, 1) := by decide +kernel
theorem dX8_read_15 : decode cX8_read 15 = .ok (.aload_n 0, 1) := by decide +kernel
theorem dX8_read_16 : decode cX8_read 16 = .ok (.getfield 183, 3) := by decide +kernel
theorem dX8_read_19 : decode cX8_read 19 = .ok (.aload_n 0, 1) := by decide +kernel
theorem dX8_read_20 : decode cX8_read 20 = .ok (.getfield 186, 3) := by decide +kernel
theorem dX8_read_23 : decode cX8_read 23 = .ok (.invokevirtual 47, 3) := by decide +kernel
theorem dX8_read_26 : decode cX8_read 26 = .ok (.iconst 0, 1) := by decide +kernel
theorem dX8_read_27 : decode cX8_read 27 = .ok (.istore_n 1, 1) := by decide +kernel
theorem dX8_read_28 : decode cX8_read 28 = .ok (.iload_n 1, 1) := by decide +kernel
theorem dX8_read_29 : decode cX8_read 29 = .ok (.aload_n 0, 1) := by decide +kernel
theorem dX8_read_30 : decode cX8_read 30 = .ok (.invokevirtual 55, 3) := by decide +kernel
theorem dX8_read_33 : decode cX8_read 33 = .ok (.if_icmp .ge 34, 3) := by decide +kernel
theorem dX8_read_36 : decode cX8_read 36 = .ok (.aload_n 0, 1) := by decide +kernel
theorem dX8_read_37 : decode cX8_read 37 = .ok (.getfield 7, 3) := by decide +kernel
theorem dX8_read_40 : decode cX8_read 40 = .ok (.bipush 6, 2) := by decide +kernel
theorem dX8_read_42 : decode cX8_read 42 = .ok (.iload_n 1, 1) := by decide +kernel
theorem dX8_read_43 : decode cX8_read 43 = .ok (.iadd, 1) := by decide +kernel
theorem dX8_read_44 : decode cX8_read 44 = .ok (.aload_n 0, 1) := by decide +kernel
theorem dX8_read_45 : decode cX8_read 45 = .ok (.getfield 22, 3) := by decide +kernel
theorem dX8_read_48 : decode cX8_read 48 = .ok (.iload_n 1, 1) := by decide +kernel
theorem dX8_read_49 : decode cX8_read 49 = .ok (.iload_n 1, 1) := by decide +kernel
theorem dX8_read_50 : decode cX8_read 50 = .ok (.aload_n 0, 1) := by decide +kernel
theorem dX8_read_51 : decode cX8_read 51 = .ok (.getfield 183, 3) := by decide +kernel
theorem dX8_read_54 : decode cX8_read 54 = .ok (.idiv, 1) := by decide +kernel
theorem dX8_read_55 : decode cX8_read 55 = .ok (.iadd, 1) := by decide +kernel
theorem dX8_read_56 : decode cX8_read 56 = .ok (.iaload, 1) := by decide +kernel
theorem dX8_read_57 : decode cX8_read 57 = .ok (.bipush 48, 2) := by decide +kernel
theorem dX8_read_59 : decode cX8_read 59 = .ok (.isub, 1) := by decide +kernel
theorem dX8_read_60 : decode cX8_read 60 = .ok (.iastore, 1) := by decide +kernel
theorem dX8_read_61 : decode cX8_read 61 = .ok (.iinc 1 1, 3) := by decide +kernel
theorem dX8_read_64 : decode cX8_read 64 = .ok (.goto (-36), 3) := by decide +kernel
theorem dX8_read_67 : decode cX8_read 67 = .ok (.aload_n 0, 1) := by decide +kernel
theorem dX8_read_68 : decode cX8_read 68 = .ok (.aload_n 0, 1) := by decide +kernel
theorem dX8_read_69 : decode cX8_read 69 = .ok (.invokevirtual 55, 3) := by decide +kernel
theorem dX8_read_72 : decode cX8_read 72 = .ok (.invokevirtual 127, 3) := by decide +kernel
theorem dX8_read_75 : decode cX8_read 75 = .ok (.ireturn, 1) := by decide +kernel
theorem dJ6_bitCount_0f7a4_0 : decode cJ6_bitCount_0f7a4 0 = .ok (.iload_n 0, 1) := by decide +kernel
theorem dJ6_bitCount_0f7a4_1 : decode cJ6_bitCount_0f7a4 1 = .ok (.iload_n 0, 1) := by decide +kernel
theorem dJ6_bitCount_0f7a4_2 : decode cJ6_bitCount_0f7a4 2 = .ok (.iconst 1, 1) := by decide +kernel
theorem dJ6_bitCount_0f7a4_3 : decode cJ6_bitCount_0f7a4 3 = .ok (.iushr, 1) := by decide +kernel
theorem dJ6_bitCount_0f7a4_4 : decode cJ6_bitCount_0f7a4 4 = .ok (.ldc_w 265, 3) := by decide +kernel
theorem dJ6_bitCount_0f7a4_7 : decode cJ6_bitCount_0f7a4 7 = .ok (.iand, 1) := by decide +kernel
theorem dJ6_bitCount_0f7a4_8 : decode cJ6_bitCount_0f7a4 8 = .ok (.isub, 1) := by decide +kernel
theorem dJ6_bitCount_0f7a4_9 : decode cJ6_bitCount_0f7a4 9 = .ok (.istore_n 0, 1) := by decide +kernel
theorem dJ6_bitCount_0f7a4_10 : decode cJ6_bitCount_0f7a4 10 = .ok (.iload_n 0, 1) := by decide +kernel
theorem dJ6_bitCount_0f7a4_11 : decode cJ6_bitCount_0f7a4 11 = .ok (.ldc_w 266, 3) := by decide +kernel
theorem dJ6_bitCount_0f7a4_14 : decode cJ6_bitCount_0f7a4 14 = .ok (.iand, 1) := by decide +kernel
theorem dJ6_bitCount_0f7a4_15 : decode cJ6_bitCount_0f7a4 15 = .ok (.iload_n 0, 1) := by decide +kernel
theorem dJ6_bitCount_0f7a4_16 : decode cJ6_bitCount_0f7a4 16 = .ok (.iconst 2, 1) := by decide +kernel
theorem dJ6_bitCount_0f7a4_17 : decode cJ6_bitCount_0f7a4 17 = .ok (.iushr, 1) := by decide +kernel
theorem dJ6_bitCount_0f7a4_18 : decode cJ6_bitCount_0f7a4 18 = .ok (.ldc_w 266, 3) := by decide +kernel
theorem dJ6_bitCount_0f7a4_21 : decode cJ6_bitCount_0f7a4 21 = .ok (.iand, 1) := by decide +kernel
theorem dJ6_bitCount_0f7a4_22 : decode cJ6_bitCount_0f7a4 22 = .ok (.iadd, 1) := by decide +kernel
theorem dJ6_bitCount_0f7a4_23 : decode cJ6_bitCount_0f7a4 23 = .ok (.istore_n 0, 1) := by decide +kernel
theorem dJ6_bitCount_0f7a4_24 : decode cJ6_bitCount_0f7a4 24 = .ok (.iload_n 0, 1) := by decide +kernel
theorem dJ6_bitCount_0f7a4_25 : decode cJ6_bitCount_0f7a4 25 = .ok (.iload_n 0, 1) := by decide +kernel
theorem dJ6_bitCount_0f7a4_26 : decode cJ6_bitCount_0f7a4 26 = .ok (.iconst 4, 1) := by decide +kernel
theorem dJ6_bitCount_0f7a4_27 : decode cJ6_bitCount_0f7a4 27 = .ok (.iushr, 1) := by decide +kernel
theorem dJ6_bitCount_0f7a4_28 : decode cJ6_bitCount_0f7a4 28 = .ok (.iadd, 1) := by decide +kernel
theorem dJ6_bitCount_0f7a4_29 : decode cJ6_bitCount_0f7a4 29 = .ok (.ldc_w 267, 3) := by decide +kernel
theorem dJ6_bitCount_0f7a4_32 : decode cJ6_bitCount_0f7a4 32 = .ok (.iand, 1) := by decide +kernel
theorem dJ6_bitCount_0f7a4_33 : decode cJ6_bitCount_0f7a4 33 = .ok (.istore_n 0, 1) := by decide +kernel
theorem dJ6_bitCount_0f7a4_34 : decode cJ6_bitCount_0f7a4 34 = .ok (.iload_n 0, 1) := by decide +kernel
theorem dJ6_bitCount_0f7a4_35 : decode cJ6_bitCount_0f7a4 35 = .ok (.iload_n 0, 1) := by decide +kernel
theorem dJ6_bitCount_0f7a4_36 : decode cJ6_bitCount_0f7a4 36 = .ok (.bipush 8, 2) := by decide +kernel
theorem dJ6_bitCount_0f7a4_38 : decode cJ6_bitCount_0f7a4 38 = .ok (.iushr, 1) := by decide +kernel
theorem dJ6_bitCount_0f7a4_39 : decode cJ6_bitCount_0f7a4 39 = .ok (.iadd, 1) := by decide +kernel
theorem dJ6_bitCount_0f7a4_40 : decode cJ6_bitCount_0f7a4 40 = .ok (.istore_n 0, 1) := by decide +kernel
theorem dJ6_bitCount_0f7a4_41 : decode cJ6_bitCount_0f7a4 41 = .ok (.iload_n 0, 1) := by decide +kernel
theorem dJ6_bitCount_0f7a4_42 : decode cJ6_bitCount_0f7a4 42 = .ok (.iload_n 0, 1) := by decide +kernel
theorem dJ6_bitCount_0f7a4_43 : decode cJ6_bitCount_0f7a4 43 = .ok (.bipush 16, 2) := by decide +kernel
theorem dJ6_bitCount_0f7a4_45 : decode cJ6_bitCount_0f7a4 45 = .ok (.iushr, 1) := by decide +kernel
theorem dJ6_bitCount_0f7a4_46 : decode cJ6_bitCount_0f7a4 46 = .ok (.iadd, 1) := by decide +kernel
theorem dJ6_bitCount_0f7a4_47 : decode cJ6_bitCount_0f7a4 47 = .ok (.istore_n 0, 1) := by decide +kernel
theorem dJ6_bitCount_0f7a4_48 : decode cJ6_bitCount_0f7a4 48 = .ok (.iload_n 0, 1) := by decide +kernel
theorem dJ6_bitCount_0f7a4_49 : decode cJ6_bitCount_0f7a4 49 = .ok (.bipush 63, 2) := by decide +kernel
theorem dJ6_bitCount_0f7a4_51 : decode cJ6_bitCount_0f7a4 51 = .ok (.iand, 1) := by decide +kernel
theorem dJ6_bitCount_0f7a4_52 : decode cJ6_bitCount_0f7a4 52 = .ok (.ireturn, 1) := by decide +kernel
theorem dJ9_abs_0f7a4_0 : decode cJ9_abs_0f7a4 0 = .ok (.iload_n 0, 1) := by decide +kernel
theorem dJ9_abs_0f7a4_1 : decode cJ9_abs_0f7a4 1 = .ok (.ifCond .ge 8, 3) := by decide +kernel
theorem dJ9_abs_0f7a4_4 : decode cJ9_abs_0f7a4 4 = .ok (.iload_n 0, 1) := by decide +kernel
theorem dJ9_abs_0f7a4_5 : decode cJ9_abs_0f7a4 5 = .ok (.ineg, 1) := by decide +kernel
theorem dJ9_abs_0f7a4_6 : decode cJ9_abs_0f7a4 6 = .ok (.goto 4, 3) := by decide +kernel
theorem dJ9_abs_0f7a4_9 : decode cJ9_abs_0f7a4 9 = .ok (.iload_n 0, 1) := by decide +kernel
theorem dJ9_abs_0f7a4_10 : decode cJ9_abs_0f7a4 10 = .ok (.ireturn, 1) := by decide +kernel
theorem dJ9_max_7cf53_0 : decode cJ9_max_7cf53 0 = .ok (.iload_n 0, 1) := by decide +kernel
theorem dJ9_max_7cf53_1 : decode cJ9_max_7cf53 1 = .ok (.iload_n 1, 1) := by decide +kernel
theorem dJ9_max_7cf53_2 : decode cJ9_max_7cf53 2 = .ok (.if_icmp .lt 7, 3) := by decide +kernel
theorem dJ9_max_7cf53_5 : decode cJ9_max_7cf53 5 = .ok (.iload_n 0, 1) := by decide +kernel
theorem dJ9_max_7cf53_6 : decode cJ9_max_7cf53 6 = .ok (.goto 4, 3) := by decide +kernel
theorem dJ9_max_7cf53_9 : decode cJ9_max_7cf53 9 = .ok (.iload_n 1, 1) := by decide +kernel
theorem dJ9_max_7cf53_10 : decode cJ9_max_7cf53 10 = .ok (.ireturn, 1) := by decide +kernel
theorem dJ9_min_7cf53_0 : decode cJ9_min_7cf53 0 = .ok (.iload_n 0, 1) := by decide +kernel
theorem dJ9_min_7cf53_1 : decode cJ9_min_7cf53 1 = .ok (.iload_n 1, 1) := by decide +kernel
theorem dJ9_min_7cf53_2 : decode cJ9_min_7cf53 2 = .ok (.if_icmp .gt 7, 3) := by decide +kernel
theorem dJ9_min_7cf53_5 : decode cJ9_min_7cf53 5 = .ok (.iload_n 0, 1) := by decide +kernel
theorem dJ9_min_7cf53_6 : decode cJ9_min_7cf53 6 = .ok (.goto 4, 3) := by decide +kernel
theorem dJ9_min_7cf53_9 : decode cJ9_min_7cf53 9 = .ok (.iload_n 1, 1) := by decide +kernel
theorem dJ9_min_7cf53_10 : decode cJ9_min_7cf53 10 = .ok (.ireturn, 1) := by decide +kernel
theorem dJ7_fill_53178_0 : decode cJ7_fill_53178 0 = .ok (.iconst 0, 1) := by decide +kernel
theorem dJ7_fill_53178_1 : decode cJ7_fill_53178 1 = .ok (.istore_n 2, 1) := by decide +kernel
theorem dJ7_fill_53178_2 : decode cJ7_fill_53178 2 = .ok (.aload_n 0, 1) := by decide +kernel
theorem dJ7_fill_53178_3 : decode cJ7_fill_53178 3 = .ok (.arraylength, 1) := by decide +kernel
theorem dJ7_fill_53178_4 : decode cJ7_fill_53178 4 = .ok (.istore_n 3, 1) := by decide +kernel
theorem dJ7_fill_53178_5 : decode cJ7_fill_53178 5 = .ok (.iload_n 2, 1) := by decide +kernel
theorem dJ7_fill_53178_6 : decode cJ7_fill_53178 6 = .ok (.iload_n 3, 1) := by decide +kernel
theorem dJ7_fill_53178_7 : decode cJ7_fill_53178 7 = .ok (.if_icmp .ge 13, 3) := by decide +kernel
theorem dJ7_fill_53178_10 : decode cJ7_fill_53178 10 = .ok (.aload_n 0, 1) := by decide +kernel
theorem dJ7_fill_53178_11 : decode cJ7_fill_53178 11 = .ok (.iload_n 2, 1) := by decide +kernel
theorem dJ7_fill_53178_12 : decode cJ7_fill_53178 12 = .ok (.iload_n 1, 1) := by decide +kernel
theorem dJ7_fill_53178_13 : decode cJ7_fill_53178 13 = .ok (.iastore, 1) := by decide +kernel
theorem dJ7_fill_53178_14 : decode cJ7_fill_53178 14 = .ok (.iinc 2 1, 3) := by decide +kernel
theorem dJ7_fill_53178_17 : decode cJ7_fill_53178 17 = .ok (.goto (-12), 3) := by decide +kernel
theorem dJ7_fill_53178_20 : decode cJ7_fill_53178 20 = .ok (.return_, 1) := by decide +kernel
set_option maxRecDepth 20000 in
theorem ggL_law_X7_init : GoodIn wsL_law wsX7_init := goodIn_r _ [8, 9, 10, 11, 12, 13, 14, 15, 16, 17, 18, 19, 20, 21, 22, 23, 24, 25, 26, 27, 28, 29, 30, 31, 32, 33, 34, 35, 36, 37, 38, 39, 40, 41, 42, 43, 44, 45, 46, 47, 48, 49, 50, 51, 52, 53, 54, 55, 56, 57, 58, 59, 60, 61, 62, 63, 2, 64, 65, 66, 67, 68, 69, 70, 71, 72, 73, 74, 75, 76, 77, 78, 79, 80, 81, 82, 83, 84, 85, 86, 87, 88, 89, 90, 91, 92, 93, 94, 95, 96, 97, 98, 99, 100, 807, 808, 809, 810, 811, 812, 772, 773, 774, 775, 776, 777, 778, 779, 780, 781, 782, 813, 814, 815, 816, 817, 818, 819, 820, 821, 822, 823, 824, 825, 826, 827, 828, 829, 830, 831, 832, 833, 834, 835, 836, 837] (by decide +kernel) (by decide +kernel)
set_option maxRecDepth 20000 in
theorem gL_law_X7_init : GoodIn wsL_law (wsX7_init) := ggL_law_X7_init
set_option maxRecDepth 20000 in
theorem ggL_law_X8_init : GoodIn wsL_law wsX8_init := goodIn_r _ [103, 104, 10, 11, 48, 105, 106, 107, 108, 109, 110, 111, 112, 113, 114, 115, 116, 117, 118, 119, 120, 5, 121, 783, 784, 785, 786, 787, 788, 789, 790, 791, 792, 793, 794, 795, 796, 797, 798, 799, 800, 801, 802, 803, 804, 805, 806] (by decide +kernel) (by decide +kernel)
set_option maxRecDepth 20000 in
theorem gL_law_X8_init : GoodIn wsL_law (wsX8_init) := ggL_law_X8_init
set_option maxRecDepth 20000 in
theorem ggL_law_X7_tone : GoodIn wsL_law wsX7_tone := goodIn_r _ [125, 15, 126, 20, 127, 128, 129, 14, 130, 65, 66, 67, 68, 57, 58, 131, 132, 2, 133, 134, 135, 136, 19, 137, 75, 138, 139, 140, 141, 74, 142, 143, 144, 145, 146, 147, 148, 149, 49, 50, 51, 52, 150, 151, 152, 153, 63, 64, 772, 773, 774, 775, 776, 777, 778, 779, 780, 781, 782, 807, 808, 809, 810, 811, 812, 813, 814] (by decide +kernel) (by decide +kernel)
set_option maxRecDepth 20000 in
theorem gL_law_X7_tone : GoodIn wsL_law (wsV RL 13 RX7 yX7_tone wsX7_tone) := goodIn_app (goodIn_of _ (by decide +kernel)) ggL_law_X7_tone
set_option maxRecDepth 20000 in
theorem ggL_law_X8_tone : GoodIn wsL_law wsX8_tone := goodIn_r _ [157, 105, 158, 159, 160, 5, 161, 106, 162, 163, 164, 165, 166, 167, 168, 169, 170, 171, 172, 173, 174, 175, 176, 177, 108, 783, 784, 785, 786, 787, 788, 789, 790, 791, 792, 793, 794, 795, 796, 797, 798, 799, 800, 801, 802, 803, 804, 805, 806] (by decide +kernel) (by decide +kernel)
set_option maxRecDepth 20000 in
theorem gL_law_X8_tone : GoodIn wsL_law (wsV RL 17 RX8 yX8_tone wsX8_tone) := goodIn_app (goodIn_of _ (by decide +kernel)) ggL_law_X8_tone
set_option maxRecDepth 20000 in
theorem ggL_law_X7_carve : GoodIn wsL_law wsX7_carve := goodIn_r _ [181, 15, 28, 20, 127, 128, 129, 14, 130, 65, 66, 67, 68, 57, 58, 182, 183, 2, 184, 185, 186, 187, 188, 189, 190, 191, 27, 192, 86, 193, 84, 194, 60, 61, 62, 195, 196, 197, 198, 199, 85, 87, 132, 133, 63, 64, 200, 201, 202, 203, 204, 205, 206, 207, 208, 50, 209, 210, 211, 212, 213, 134, 135, 136, 19, 137, 75, 138, 139, 140, 141, 74, 142, 143, 144, 145, 146, 147, 148, 149, 49, 51, 52, 150, 151, 152, 214, 215, 216, 217, 218, 219, 220, 221, 222, 223, 224, 225, 226, 227, 228, 229, 230, 231, 232, 233, 234, 235, 236, 237, 772, 773, 774, 775, 776, 777, 778, 779, 780, 781, 782, 807, 808, 809, 810, 811, 812, 822, 823, 824, 825, 826, 813, 814] (by decide +kernel) (by decide +kernel)
set_option maxRecDepth 20000 in
theorem gL_law_X7_carve : GoodIn wsL_law (wsV RL 18 RX7 yX7_carve wsX7_carve) := goodIn_app (goodIn_of _ (by decide +kernel)) ggL_law_X7_carve
set_option maxRecDepth 20000 in
theorem ggL_law_X8_carve : GoodIn wsL_law wsX8_carve := goodIn_r _ [241, 105, 158, 159, 160, 5, 161, 106, 162, 163, 164, 165, 166, 167, 168, 169, 170, 171, 172, 242, 243, 244, 245, 246, 247, 248, 249, 110, 250, 251, 252, 253, 111, 254, 255, 256, 257, 258, 259, 260, 261, 262, 263, 264, 265, 266, 267, 268, 269, 173, 174, 175, 176, 177, 108, 783, 784, 785, 786, 787, 788, 789, 790, 791, 792, 793, 794, 795, 796, 797, 798, 799, 800, 801, 802, 803, 804, 805, 806] (by decide +kernel) (by decide +kernel)
set_option maxRecDepth 20000 in
theorem gL_law_X8_carve : GoodIn wsL_law (wsV RL 21 RX8 yX8_carve wsX8_carve) := goodIn_app (goodIn_of _ (by decide +kernel)) ggL_law_X8_carve
set_option maxRecDepth 20000 in
theorem ggL_law_X7_wall : GoodIn wsL_law wsX7_wall := goodIn_r _ [273, 15, 20, 127, 128, 129, 14, 130, 65, 66, 67, 68, 57, 58, 182, 183, 2, 184, 274, 206, 207, 208, 50, 132, 133, 134, 135, 136, 19, 137, 75, 138, 139, 140, 141, 74, 142, 143, 144, 145, 146, 147, 148, 149, 49, 51, 52, 150, 151, 152, 214, 215, 216, 217, 218, 186, 187, 188, 219, 220, 221, 222, 63, 64, 223, 224, 225, 226, 227, 228, 229, 230, 231, 232, 233, 234, 235, 236, 237, 772, 773, 774, 775, 776, 777, 778, 779, 780, 781, 782, 807, 808, 809, 810, 811, 812, 813, 814] (by decide +kernel) (by decide +kernel)
set_option maxRecDepth 20000 in
theorem gL_law_X7_wall : GoodIn wsL_law (wsV RL 22 RX7 yX7_wall wsX7_wall) := goodIn_app (goodIn_of _ (by decide +kernel)) ggL_law_X7_wall
set_option maxRecDepth 20000 in
theorem ggL_law_X8_wall : GoodIn wsL_law wsX8_wall := goodIn_r _ [278, 105, 158, 159, 160, 5, 161, 106, 162, 163, 164, 165, 166, 167, 168, 169, 170, 171, 172, 254, 255, 256, 257, 242, 243, 244, 245, 258, 259, 260, 261, 262, 263, 264, 265, 266, 267, 268, 269, 173, 174, 175, 176, 177, 108, 783, 784, 785, 786, 787, 788, 789, 790, 791, 792, 793, 794, 795, 796, 797, 798, 799, 800, 801, 802, 803, 804, 805, 806] (by decide +kernel) (by decide +kernel)
set_option maxRecDepth 20000 in
theorem gL_law_X8_wall : GoodIn wsL_law (wsV RL 25 RX8 yX8_wall wsX8_wall) := goodIn_app (goodIn_of _ (by decide +kernel)) ggL_law_X8_wall
set_option maxRecDepth 20000 in
theorem ggL_law_X7_door : GoodIn wsL_law wsX7_door := goodIn_r _ [282, 15, 283, 20, 284, 285, 286, 2, 287, 127, 128, 129, 14, 130, 65, 66, 67, 68, 57, 58, 182, 183, 184, 185, 186, 187, 188, 288, 289, 290, 291, 51, 52, 132, 133, 131, 134, 135, 136, 19, 137, 75, 138, 139, 140, 141, 74, 142, 143, 144, 145, 146, 147, 148, 149, 49, 50, 150, 151, 152, 153, 63, 64, 772, 773, 774, 775, 776, 777, 778, 779, 780, 781, 782, 807, 808, 809, 810, 811, 812, 813, 814] (by decide +kernel) (by decide +kernel)
set_option maxRecDepth 20000 in
theorem gL_law_X7_door : GoodIn wsL_law (wsV RL 26 RX7 yX7_door wsX7_door) := goodIn_app (goodIn_of _ (by decide +kernel)) ggL_law_X7_door
set_option maxRecDepth 20000 in
theorem ggL_law_X8_door : GoodIn wsL_law wsX8_door := goodIn_r _ [295, 105, 158, 159, 160, 5, 161, 106, 170, 171, 172, 162, 163, 164, 165, 166, 167, 168, 169, 242, 243, 244, 245, 173, 174, 175, 176, 177, 108, 783, 784, 785, 786, 787, 788, 789, 790, 791, 792, 793, 794, 795, 796, 797, 798, 799, 800, 801, 802, 803, 804, 805, 806] (by decide +kernel) (by decide +kernel)
set_option maxRecDepth 20000 in
theorem gL_law_X8_door : GoodIn wsL_law (wsV RL 30 RX8 yX8_door wsX8_door) := goodIn_app (goodIn_of _ (by decide +kernel)) ggL_law_X8_door
set_option maxRecDepth 20000 in
theorem ggL_law_X7_build : GoodIn wsL_law wsX7_build := goodIn_r _ [299, 15, 20, 38, 300, 301, 302, 14, 303, 304, 224, 225, 226, 65, 66, 67, 68, 57, 58, 227, 228, 229, 230, 50, 132, 2, 133, 231, 232, 233, 234, 235, 236, 237, 134, 135, 136, 19, 137, 75, 138, 139, 140, 141, 74, 142, 143, 144, 145, 146, 147, 148, 149, 49, 51, 52, 150, 151, 152, 305, 306, 307, 37, 308, 309, 310, 311, 312, 96, 313, 314, 315, 316, 317, 318, 319, 320, 321, 322, 323, 324, 325, 326, 327, 328, 206, 207, 208, 329, 330, 331, 332, 333, 218, 186, 187, 188, 334, 335, 336, 337, 338, 339, 340, 341, 342, 343, 344, 345, 346, 347, 215, 216, 217, 219, 220, 221, 222, 63, 64, 772, 773, 774, 775, 776, 777, 778, 779, 780, 781, 782, 807, 808, 809, 810, 811, 812, 813, 814, 831] (by decide +kernel) (by decide +kernel)
set_option maxRecDepth 20000 in
theorem gL_law_X7_build : GoodIn wsL_law (wsV RL 31 RX7 yX7_build wsX7_build) := goodIn_app (goodIn_of _ (by decide +kernel)) ggL_law_X7_build
set_option maxRecDepth 20000 in
theorem ggL_law_X8_build : GoodIn wsL_law wsX8_build := goodIn_r _ [351, 105, 158, 159, 160, 5, 161, 106, 352, 353, 354, 355, 262, 263, 264, 265, 166, 167, 168, 169, 266, 267, 268, 269, 356, 357, 358, 359, 242, 243, 244, 245, 246, 247, 248, 249, 110, 250, 251, 252, 253, 111, 254, 255, 256, 257, 258, 259, 260, 261, 173, 174, 175, 176, 177, 108, 783, 784, 785, 786, 787, 788, 789, 790, 791, 792, 793, 794, 795, 796, 797, 798, 799, 800, 801, 802, 803, 804, 805, 806] (by decide +kernel) (by decide +kernel)
set_option maxRecDepth 20000 in
theorem gL_law_X8_build : GoodIn wsL_law (wsV RL 35 RX8 yX8_build wsX8_build) := goodIn_app (goodIn_of _ (by decide +kernel)) ggL_law_X8_build
set_option maxRecDepth 20000 in
theorem ggL_law_X7_exchange : GoodIn wsL_law wsX7_exchange := goodIn_r _ [363, 15, 20, 42, 364, 300, 301, 302, 14, 303, 304, 224, 225, 226, 65, 66, 67, 68, 57, 58, 227, 228, 229, 230, 50, 132, 2, 133, 231, 232, 233, 234, 235, 236, 237, 365, 366, 367, 368, 29, 30, 369, 370, 371, 372, 373, 41, 374, 375, 376, 377, 378, 379, 380, 381, 382, 383, 384, 51, 385, 190, 191, 27, 192, 86, 193, 84, 194, 60, 61, 62, 195, 196, 197, 198, 199, 85, 87, 63, 64, 200, 201, 202, 203, 204, 186, 187, 188, 205, 206, 207, 208, 209, 210, 211, 212, 386, 387, 388, 389, 390, 391, 392, 393, 49, 394, 314, 315, 316, 395, 318, 319, 320, 321, 322, 323, 324, 325, 326, 327, 328, 396, 397, 398, 399, 100, 400, 401, 402, 403, 404, 331, 332, 333, 218, 405, 406, 407, 408, 409, 410, 134, 135, 136, 19, 137, 75, 138, 139, 140, 141, 74, 142, 143, 144, 145, 146, 147, 148, 149, 52, 150, 151, 152, 411, 412, 413, 414, 415, 344, 345, 346, 347, 215, 216, 217, 219, 220, 221, 222, 772, 773, 774, 775, 776, 777, 778, 779, 780, 781, 782, 832, 833, 834, 835, 836, 837, 807, 808, 809, 810, 811, 812, 822, 823, 824, 825, 826, 813, 814] (by decide +kernel) (by decide +kernel)
set_option maxRecDepth 20000 in
theorem gL_law_X7_exchange : GoodIn wsL_law (wsV RL 36 RX7 yX7_exchange wsX7_exchange) := goodIn_app (goodIn_of _ (by decide +kernel)) ggL_law_X7_exchange
set_option maxRecDepth 20000 in
theorem ggL_law_X8_exchange : GoodIn wsL_law wsX8_exchange := goodIn_r _ [419, 420, 158, 159, 160, 5, 161, 106, 105, 352, 353, 354, 355, 262, 263, 264, 265, 166, 167, 168, 169, 266, 267, 268, 269, 421, 422, 423, 424, 425, 426, 427, 428, 429, 117, 110, 430, 431, 250, 251, 252, 253, 111, 254, 255, 256, 257, 242, 243, 244, 245, 258, 259, 260, 261, 356, 357, 358, 359, 432, 433, 434, 435, 436, 437, 438, 439, 113, 440, 441, 442, 443, 444, 445, 114, 446, 447, 448, 449, 173, 174, 175, 176, 177, 108, 783, 784, 785, 786, 787, 788, 789, 790, 791, 792, 793, 794, 795, 796, 797, 798, 799, 800, 801, 802, 803, 804, 805, 806] (by decide +kernel) (by decide +kernel)
set_option maxRecDepth 20000 in
theorem gL_law_X8_exchange : GoodIn wsL_law (wsV RL 39 RX8 yX8_exchange wsX8_exchange) := goodIn_app (goodIn_of _ (by decide +kernel)) ggL_law_X8_exchange
set_option maxRecDepth 20000 in
theorem ggL_law_X7_improve : GoodIn wsL_law wsX7_improve := goodIn_r _ [453, 15, 20, 42, 300, 301, 302, 14, 303, 304, 224, 225, 226, 65, 66, 67, 68, 57, 58, 227, 228, 229, 230, 50, 132, 2, 133, 231, 232, 233, 234, 235, 236, 237, 134, 135, 136, 19, 137, 75, 138, 139, 140, 141, 74, 142, 143, 144, 145, 146, 147, 148, 149, 49, 51, 52, 150, 151, 152, 365, 366, 367, 368, 29, 30, 369, 364, 370, 371, 372, 373, 41, 374, 375, 376, 377, 378, 379, 380, 381, 382, 383, 384, 385, 190, 191, 27, 192, 86, 193, 84, 194, 60, 61, 62, 195, 196, 197, 198, 199, 85, 87, 63, 64, 200, 201, 202, 203, 204, 186, 187, 188, 205, 206, 207, 208, 209, 210, 211, 212, 386, 387, 388, 389, 390, 391, 392, 393, 394, 314, 315, 316, 395, 318, 319, 320, 321, 322, 323, 324, 325, 326, 327, 328, 396, 397, 398, 399, 100, 400, 401, 402, 403, 404, 331, 332, 333, 218, 405, 406, 407, 408, 409, 410, 411, 412, 413, 414, 415, 344, 345, 346, 347, 215, 216, 217, 219, 220, 221, 222, 772, 773, 774, 775, 776, 777, 778, 779, 780, 781, 782, 807, 808, 809, 810, 811, 812, 813, 814, 832, 833, 834, 835, 836, 837, 822, 823, 824, 825, 826] (by decide +kernel) (by decide +kernel)
set_option maxRecDepth 20000 in
theorem gL_law_X7_improve : GoodIn wsL_law (wsV RL 40 RX7 yX7_improve wsX7_improve) := goodIn_app (goodIn_of _ (by decide +kernel)) ggL_law_X7_improve
set_option maxRecDepth 20000 in
theorem ggL_law_X8_improve : GoodIn wsL_law wsX8_improve := goodIn_r _ [457, 420, 158, 159, 160, 5, 161, 106, 105, 352, 353, 354, 355, 262, 263, 264, 265, 166, 167, 168, 169, 266, 267, 268, 269, 421, 422, 423, 424, 425, 426, 427, 428, 429, 117, 110, 430, 431, 250, 251, 252, 253, 111, 254, 255, 256, 257, 242, 243, 244, 245, 258, 259, 260, 261, 356, 357, 358, 359, 432, 433, 434, 435, 436, 437, 438, 439, 113, 440, 441, 442, 443, 444, 445, 114, 446, 447, 448, 449, 173, 174, 175, 176, 177, 108, 783, 784, 785, 786, 787, 788, 789, 790, 791, 792, 793, 794, 795, 796, 797, 798, 799, 800, 801, 802, 803, 804, 805, 806] (by decide +kernel) (by decide +kernel)
set_option maxRecDepth 20000 in
theorem gL_law_X8_improve : GoodIn wsL_law (wsV RL 43 RX8 yX8_improve wsX8_improve) := goodIn_app (goodIn_of _ (by decide +kernel)) ggL_law_X8_improve
set_option maxRecDepth 20000 in
theorem ggL_law_X7_cellOf : GoodIn wsL_law wsX7_cellOf := goodIn_r _ [461, 15, 126, 462, 28, 463, 34, 464, 465, 127, 128, 129, 14, 130, 65, 66, 67, 68, 57, 58, 131, 132, 2, 133, 189, 190, 191, 27, 192, 86, 193, 84, 194, 60, 61, 62, 195, 196, 197, 198, 199, 85, 87, 63, 64, 200, 201, 202, 203, 204, 186, 187, 188, 205, 206, 207, 208, 50, 209, 210, 211, 212, 466, 467, 468, 469, 470, 471, 472, 473, 474, 382, 383, 384, 51, 475, 476, 477, 478, 213, 479, 480, 481, 482, 483, 30, 29, 484, 485, 486, 487, 488, 387, 388, 389, 489, 490, 491, 33, 492, 91, 92, 493, 494, 495, 496, 497, 498, 499, 500, 501, 502, 503, 504, 505, 506, 507, 508, 509, 289, 290, 291, 52, 510, 772, 773, 774, 775, 776, 777, 778, 779, 780, 781, 782, 807, 808, 809, 810, 811, 812, 822, 823, 824, 825, 826, 827, 828, 829, 830] (by decide +kernel) (by decide +kernel)
set_option maxRecDepth 20000 in
theorem gL_law_X7_cellOf : GoodIn wsL_law (wsV RL 44 RX7 yX7_cellOf wsX7_cellOf) := goodIn_app (goodIn_of _ (by decide +kernel)) ggL_law_X7_cellOf
set_option maxRecDepth 20000 in
theorem ggL_law_X8_cellOf : GoodIn wsL_law wsX8_cellOf := goodIn_r _ [514, 105, 110, 115, 162, 163, 164, 5, 165, 166, 167, 168, 169, 170, 171, 172, 515, 516, 517, 518, 254, 255, 256, 257, 242, 243, 244, 245, 258, 259, 260, 261, 519, 520, 521, 522, 250, 251, 252, 253, 111, 523, 524, 525, 526, 527, 528, 529, 113, 440, 441, 442, 443, 444, 445, 114, 530, 531, 532, 533, 116, 783, 784, 785, 786, 787, 788, 789, 790, 791, 792, 793, 794, 795, 796, 797, 798, 799, 800, 801, 802, 803, 804, 805, 806] (by decide +kernel) (by decide +kernel)
set_option maxRecDepth 20000 in
theorem gL_law_X8_cellOf : GoodIn wsL_law (wsV RL 47 RX8 yX8_cellOf wsX8_cellOf) := goodIn_app (goodIn_of _ (by decide +kernel)) ggL_law_X8_cellOf
set_option maxRecDepth 20000 in
theorem ggL_law_X7_doorOf : GoodIn wsL_law wsX7_doorOf := goodIn_r _ [537, 15, 283, 284, 285, 286, 2, 287, 131, 132, 133, 772, 773, 774, 775, 776, 777, 778, 779, 780, 781, 782, 807, 808, 809, 810, 811, 812] (by decide +kernel) (by decide +kernel)
set_option maxRecDepth 20000 in
theorem gL_law_X7_doorOf : GoodIn wsL_law (wsV RL 48 RX7 yX7_doorOf wsX7_doorOf) := goodIn_app (goodIn_of _ (by decide +kernel)) ggL_law_X7_doorOf
set_option maxRecDepth 20000 in
theorem ggL_law_X8_doorOf : GoodIn wsL_law wsX8_doorOf := goodIn_r _ [541, 105, 170, 171, 5, 172, 783, 784, 785, 786, 787, 788, 789, 790, 791, 792, 793, 794, 795, 796, 797, 798, 799, 800, 801, 802, 803, 804, 805, 806] (by decide +kernel) (by decide +kernel)
set_option maxRecDepth 20000 in
theorem gL_law_X8_doorOf : GoodIn wsL_law (wsV RL 51 RX8 yX8_doorOf wsX8_doorOf) := goodIn_app (goodIn_of _ (by decide +kernel)) ggL_law_X8_doorOf
set_option maxRecDepth 20000 in
theorem ggL_law_X7_count : GoodIn wsL_law wsX7_count := goodIn_r _ [545, 15, 546, 547, 20, 548, 24, 549, 43, 550, 228, 229, 14, 230, 50, 65, 66, 67, 68, 57, 58, 132, 2, 133, 231, 232, 233, 234, 235, 236, 237, 223, 224, 225, 226, 227, 300, 301, 302, 303, 304, 551, 552, 553, 554, 555, 391, 392, 393, 49, 772, 773, 774, 775, 776, 777, 778, 779, 780, 781, 782, 807, 808, 809, 810, 811, 812, 813, 814, 815, 816, 817, 818, 819, 820, 821] (by decide +kernel) (by decide +kernel)
set_option maxRecDepth 20000 in
theorem gL_law_X7_count : GoodIn wsL_law (wsV RL 52 RX7 yX7_count wsX7_count) := goodIn_app (goodIn_of _ (by decide +kernel)) ggL_law_X7_count
set_option maxRecDepth 20000 in
theorem ggL_law_X8_count : GoodIn wsL_law wsX8_count := goodIn_r _ [559, 105, 177, 560, 561, 266, 267, 268, 5, 269, 166, 167, 168, 169, 262, 263, 264, 265, 352, 353, 354, 355, 562, 563, 564, 565, 515, 516, 517, 518, 254, 255, 256, 257, 242, 243, 244, 245, 258, 259, 260, 261, 566, 567, 568, 569, 783, 784, 785, 786, 787, 788, 789, 790, 791, 792, 793, 794, 795, 796, 797, 798, 799, 800, 801, 802, 803, 804, 805, 806] (by decide +kernel) (by decide +kernel)
set_option maxRecDepth 20000 in
theorem gL_law_X8_count : GoodIn wsL_law (wsV RL 56 RX8 yX8_count wsX8_count) := goodIn_app (goodIn_of _ (by decide +kernel)) ggL_law_X8_count
set_option maxRecDepth 20000 in
theorem ggL_law_X7_way : GoodIn wsL_law wsX7_way := goodIn_r _ [573, 30, 15, 574, 488, 387, 388, 14, 389, 51, 132, 2, 133, 189, 190, 191, 27, 192, 86, 193, 84, 194, 60, 61, 62, 195, 196, 197, 198, 199, 85, 87, 63, 64, 200, 201, 202, 203, 204, 186, 187, 188, 57, 58, 205, 206, 207, 208, 50, 209, 210, 211, 212, 474, 382, 383, 384, 479, 131, 772, 773, 774, 775, 776, 777, 778, 779, 780, 781, 782, 822, 823, 824, 825, 826, 807, 808, 809, 810, 811, 812] (by decide +kernel) (by decide +kernel)
set_option maxRecDepth 20000 in
theorem gL_law_X7_way : GoodIn wsL_law (wsV RL 57 RX7 yX7_way wsX7_way) := goodIn_app (goodIn_of _ (by decide +kernel)) ggL_law_X7_way
set_option maxRecDepth 20000 in
theorem ggL_law_X8_way : GoodIn wsL_law wsX8_way := goodIn_r _ [578, 105, 444, 114, 440, 441, 442, 5, 443, 113, 445, 110, 166, 167, 168, 169, 250, 251, 252, 253, 111, 254, 255, 256, 257, 242, 243, 244, 245, 258, 259, 260, 261, 783, 784, 785, 786, 787, 788, 789, 790, 791, 792, 793, 794, 795, 796, 797, 798, 799, 800, 801, 802, 803, 804, 805, 806] (by decide +kernel) (by decide +kernel)
set_option maxRecDepth 20000 in
theorem gL_law_X8_way : GoodIn wsL_law (wsV RL 60 RX8 yX8_way wsX8_way) := goodIn_app (goodIn_of _ (by decide +kernel)) ggL_law_X8_way
set_option maxRecDepth 20000 in
theorem ggL_law_X7_drawn : GoodIn wsL_law wsX7_drawn := goodIn_r _ [582, 30, 15, 34, 464, 583, 484, 485, 486, 2, 487, 488, 387, 388, 14, 389, 51, 132, 133, 189, 190, 191, 27, 192, 86, 193, 84, 194, 60, 61, 62, 195, 196, 197, 198, 199, 85, 87, 63, 64, 200, 201, 202, 203, 204, 186, 187, 188, 57, 58, 205, 206, 207, 208, 50, 209, 210, 211, 212, 474, 382, 383, 384, 213, 479, 584, 585, 586, 587, 588, 555, 391, 392, 393, 49, 65, 66, 67, 68, 131, 489, 490, 491, 33, 492, 91, 92, 493, 494, 495, 496, 497, 498, 499, 500, 501, 502, 503, 504, 505, 506, 507, 508, 509, 289, 290, 291, 52, 510, 589, 590, 591, 592, 593, 471, 472, 473, 594, 595, 596, 597, 598, 599, 600, 601, 602, 574, 772, 773, 774, 775, 776, 777, 778, 779, 780, 781, 782, 827, 828, 829, 830, 807, 808, 809, 810, 811, 812, 822, 823, 824, 825, 826] (by decide +kernel) (by decide +kernel)
set_option maxRecDepth 20000 in
theorem gL_law_X7_drawn : GoodIn wsL_law (wsV RL 61 RX7 yX7_drawn wsX7_drawn) := goodIn_app (goodIn_of _ (by decide +kernel)) ggL_law_X7_drawn
set_option maxRecDepth 20000 in
theorem ggL_law_X8_drawn : GoodIn wsL_law wsX8_drawn := goodIn_r _ [606, 105, 444, 445, 440, 441, 442, 5, 443, 113, 110, 114, 166, 167, 168, 169, 250, 251, 252, 253, 111, 254, 255, 256, 257, 242, 243, 244, 245, 258, 259, 260, 261, 432, 433, 434, 435, 436, 437, 438, 439, 530, 531, 532, 533, 115, 116, 607, 608, 609, 610, 611, 612, 613, 614, 783, 784, 785, 786, 787, 788, 789, 790, 791, 792, 793, 794, 795, 796, 797, 798, 799, 800, 801, 802, 803, 804, 805, 806] (by decide +kernel) (by decide +kernel)
set_option maxRecDepth 20000 in
theorem gL_law_X8_drawn : GoodIn wsL_law (wsV RL 64 RX8 yX8_drawn wsX8_drawn) := goodIn_app (goodIn_of _ (by decide +kernel)) ggL_law_X8_drawn
set_option maxRecDepth 20000 in
theorem ggL_law_X7_between : GoodIn wsL_law wsX7_between := goodIn_r _ [478, 15, 28, 127, 128, 129, 14, 130, 65, 66, 67, 68, 57, 58, 189, 190, 191, 27, 192, 86, 193, 84, 194, 60, 61, 62, 195, 196, 197, 198, 199, 85, 87, 132, 2, 133, 63, 64, 200, 201, 202, 203, 204, 186, 187, 188, 205, 206, 207, 208, 50, 209, 210, 211, 212, 213, 479, 772, 773, 774, 775, 776, 777, 778, 779, 780, 781, 782, 807, 808, 809, 810, 811, 812, 822, 823, 824, 825, 826] (by decide +kernel) (by decide +kernel)
set_option maxRecDepth 20000 in
theorem gL_law_X7_between : GoodIn wsL_law (wsV RL 65 RX7 yX7_between wsX7_between) := goodIn_app (goodIn_of _ (by decide +kernel)) ggL_law_X7_between
set_option maxRecDepth 20000 in
theorem ggL_law_X8_between : GoodIn wsL_law wsX8_between := goodIn_r _ [619, 110, 162, 163, 164, 5, 165, 166, 167, 168, 169, 105, 170, 171, 172, 250, 251, 252, 253, 111, 254, 255, 256, 257, 242, 243, 244, 245, 258, 259, 260, 261, 523, 524, 525, 783, 784, 785, 786, 787, 788, 789, 790, 791, 792, 793, 794, 795, 796, 797, 798, 799, 800, 801, 802, 803, 804, 805, 806] (by decide +kernel) (by decide +kernel)
set_option maxRecDepth 20000 in
theorem gL_law_X8_between : GoodIn wsL_law (wsV RL 68 RX8 yX8_between wsX8_between) := goodIn_app (goodIn_of _ (by decide +kernel)) ggL_law_X8_between
set_option maxRecDepth 20000 in
theorem ggL_law_X7_farthest : GoodIn wsL_law wsX7_farthest := goodIn_r _ [623, 15, 28, 624, 66, 67, 14, 68, 57, 58, 189, 190, 191, 27, 192, 86, 193, 84, 194, 60, 61, 62, 195, 196, 197, 198, 199, 85, 87, 132, 2, 133, 63, 64, 200, 201, 202, 203, 204, 186, 187, 188, 205, 206, 207, 208, 50, 209, 210, 211, 212, 479, 625, 626, 627, 772, 773, 774, 775, 776, 777, 778, 779, 780, 781, 782, 807, 808, 809, 810, 811, 812, 822, 823, 824, 825, 826] (by decide +kernel) (by decide +kernel)
set_option maxRecDepth 20000 in
theorem gL_law_X7_farthest : GoodIn wsL_law (wsV RL 69 RX7 yX7_farthest wsX7_farthest) := goodIn_app (goodIn_of _ (by decide +kernel)) ggL_law_X7_farthest
set_option maxRecDepth 20000 in
theorem ggL_law_X8_farthest : GoodIn wsL_law wsX8_farthest := goodIn_r _ [631, 110, 170, 171, 5, 172, 166, 167, 168, 169, 105, 250, 251, 252, 253, 111, 254, 255, 256, 257, 242, 243, 244, 245, 258, 259, 260, 261, 783, 784, 785, 786, 787, 788, 789, 790, 791, 792, 793, 794, 795, 796, 797, 798, 799, 800, 801, 802, 803, 804, 805, 806] (by decide +kernel) (by decide +kernel)
set_option maxRecDepth 20000 in
theorem gL_law_X8_farthest : GoodIn wsL_law (wsV RL 72 RX8 yX8_farthest wsX8_farthest) := goodIn_app (goodIn_of _ (by decide +kernel)) ggL_law_X8_farthest
set_option maxRecDepth 20000 in
theorem ggL_law_X7_best : GoodIn wsL_law wsX7_best := goodIn_r _ [635, 15, 42, 29, 30, 636, 369, 364, 300, 301, 302, 14, 303, 304, 224, 225, 226, 65, 66, 67, 68, 57, 58, 227, 228, 229, 230, 50, 132, 2, 133, 231, 232, 233, 234, 235, 236, 237, 371, 372, 373, 41, 374, 375, 376, 377, 378, 379, 380, 381, 382, 383, 384, 51, 385, 190, 191, 27, 192, 86, 193, 84, 194, 60, 61, 62, 195, 196, 197, 198, 199, 85, 87, 63, 64, 200, 201, 202, 203, 204, 186, 187, 188, 205, 206, 207, 208, 209, 210, 211, 212, 386, 387, 388, 389, 390, 391, 392, 393, 49, 394, 314, 315, 316, 395, 318, 319, 320, 321, 322, 323, 324, 325, 326, 327, 328, 396, 397, 398, 399, 100, 400, 401, 402, 403, 404, 331, 332, 333, 218, 405, 406, 407, 408, 409, 410, 625, 626, 627, 772, 773, 774, 775, 776, 777, 778, 779, 780, 781, 782, 832, 833, 834, 835, 836, 837, 807, 808, 809, 810, 811, 812, 822, 823, 824, 825, 826] (by decide +kernel) (by decide +kernel)
set_option maxRecDepth 20000 in
theorem gL_law_X7_best : GoodIn wsL_law (wsV RL 73 RX7 yX7_best wsX7_best) := goodIn_app (goodIn_of _ (by decide +kernel)) ggL_law_X7_best
set_option maxRecDepth 20000 in
theorem ggL_law_X8_best : GoodIn wsL_law wsX8_best := goodIn_r _ [640, 430, 431, 420, 170, 171, 5, 172, 352, 353, 354, 355, 262, 263, 264, 265, 166, 167, 168, 169, 105, 266, 267, 268, 269, 421, 422, 423, 424, 425, 426, 427, 428, 429, 117, 110, 250, 251, 252, 253, 111, 254, 255, 256, 257, 242, 243, 244, 245, 258, 259, 260, 261, 356, 357, 358, 359, 432, 433, 434, 435, 436, 437, 438, 439, 113, 440, 441, 442, 443, 444, 445, 114, 783, 784, 785, 786, 787, 788, 789, 790, 791, 792, 793, 794, 795, 796, 797, 798, 799, 800, 801, 802, 803, 804, 805, 806] (by decide +kernel) (by decide +kernel)
set_option maxRecDepth 20000 in
theorem gL_law_X8_best : GoodIn wsL_law (wsV RL 76 RX8 yX8_best wsX8_best) := goodIn_app (goodIn_of _ (by decide +kernel)) ggL_law_X8_best
set_option maxRecDepth 20000 in
theorem ggL_law_X7_bestExit : GoodIn wsL_law wsX7_bestExit := goodIn_r _ [644, 29, 15, 588, 474, 382, 383, 14, 384, 51, 132, 2, 133, 189, 190, 191, 27, 192, 86, 193, 84, 194, 60, 61, 62, 195, 196, 197, 198, 199, 85, 87, 63, 64, 200, 201, 202, 203, 204, 186, 187, 188, 57, 58, 205, 206, 207, 208, 50, 209, 210, 211, 212, 555, 391, 392, 393, 49, 65, 66, 67, 68, 624, 645, 646, 647, 648, 185, 288, 289, 290, 291, 52, 213, 131, 625, 626, 627, 772, 773, 774, 775, 776, 777, 778, 779, 780, 781, 782, 822, 823, 824, 825, 826, 807, 808, 809, 810, 811, 812] (by decide +kernel) (by decide +kernel)
set_option maxRecDepth 20000 in
theorem gL_law_X7_bestExit : GoodIn wsL_law (wsV RL 77 RX7 yX7_bestExit wsX7_bestExit) := goodIn_app (goodIn_of _ (by decide +kernel)) ggL_law_X7_bestExit
set_option maxRecDepth 20000 in
theorem ggL_law_X8_bestExit : GoodIn wsL_law wsX8_bestExit := goodIn_r _ [652, 425, 105, 170, 171, 5, 172, 166, 167, 168, 169, 653, 654, 655, 656, 242, 243, 244, 245, 246, 247, 248, 249, 110, 250, 251, 252, 253, 111, 254, 255, 256, 257, 258, 259, 260, 261, 436, 437, 438, 439, 113, 440, 441, 442, 443, 444, 445, 114, 783, 784, 785, 786, 787, 788, 789, 790, 791, 792, 793, 794, 795, 796, 797, 798, 799, 800, 801, 802, 803, 804, 805, 806] (by decide +kernel) (by decide +kernel)
set_option maxRecDepth 20000 in
theorem gL_law_X8_bestExit : GoodIn wsL_law (wsV RL 80 RX8 yX8_bestExit wsX8_bestExit) := goodIn_app (goodIn_of _ (by decide +kernel)) ggL_law_X8_bestExit
set_option maxRecDepth 20000 in
theorem ggL_law_X7_keep : GoodIn wsL_law wsX7_keep := goodIn_r _ [660, 16, 15, 43, 661, 147, 148, 14, 149, 57, 58, 49, 50, 51, 52, 150, 151, 152, 550, 228, 229, 230, 65, 66, 67, 68, 132, 2, 133, 231, 232, 233, 234, 235, 236, 237, 772, 773, 774, 775, 776, 777, 778, 779, 780, 781, 782, 807, 808, 809, 810, 811, 812] (by decide +kernel) (by decide +kernel)
set_option maxRecDepth 20000 in
theorem gL_law_X7_keep : GoodIn wsL_law (wsV RL 81 RX7 yX7_keep wsX7_keep) := goodIn_app (goodIn_of _ (by decide +kernel)) ggL_law_X7_keep
set_option maxRecDepth 20000 in
theorem ggL_law_X8_keep : GoodIn wsL_law wsX8_keep := goodIn_r _ [665, 107, 105, 561, 266, 267, 268, 5, 269, 166, 167, 168, 169, 783, 784, 785, 786, 787, 788, 789, 790, 791, 792, 793, 794, 795, 796, 797, 798, 799, 800, 801, 802, 803, 804, 805, 806] (by decide +kernel) (by decide +kernel)
set_option maxRecDepth 20000 in
theorem gL_law_X8_keep : GoodIn wsL_law (wsV RL 84 RX8 yX8_keep wsX8_keep) := goodIn_app (goodIn_of _ (by decide +kernel)) ggL_law_X8_keep
set_option maxRecDepth 20000 in
theorem ggL_law_X7_restore : GoodIn wsL_law wsX7_restore := goodIn_r _ [669, 43, 20, 15, 16, 134, 135, 136, 19, 137, 75, 138, 139, 140, 141, 74, 142, 143, 144, 145, 146, 147, 148, 14, 149, 57, 58, 49, 50, 51, 52, 150, 151, 152, 661, 550, 228, 229, 230, 65, 66, 67, 68, 132, 2, 133, 231, 232, 233, 234, 235, 236, 237, 772, 773, 774, 775, 776, 777, 778, 779, 780, 781, 782, 813, 814, 807, 808, 809, 810, 811, 812] (by decide +kernel) (by decide +kernel)
set_option maxRecDepth 20000 in
theorem gL_law_X7_restore : GoodIn wsL_law (wsV RL 85 RX7 yX7_restore wsX7_restore) := goodIn_app (goodIn_of _ (by decide +kernel)) ggL_law_X7_restore
set_option maxRecDepth 20000 in
theorem ggL_law_X8_restore : GoodIn wsL_law wsX8_restore := goodIn_r _ [673, 561, 105, 107, 158, 159, 160, 5, 161, 106, 266, 267, 268, 269, 166, 167, 168, 169, 173, 174, 175, 176, 177, 108, 783, 784, 785, 786, 787, 788, 789, 790, 791, 792, 793, 794, 795, 796, 797, 798, 799, 800, 801, 802, 803, 804, 805, 806] (by decide +kernel) (by decide +kernel)
set_option maxRecDepth 20000 in
theorem gL_law_X8_restore : GoodIn wsL_law (wsV RL 88 RX8 yX8_restore wsX8_restore) := goodIn_app (goodIn_of _ (by decide +kernel)) ggL_law_X8_restore
set_option maxRecDepth 20000 in
theorem ggL_law_X7_undo : GoodIn wsL_law wsX7_undo := goodIn_r _ [677, 20, 15, 548, 678, 679, 680, 19, 681, 75, 142, 143, 144, 145, 74, 146, 147, 148, 14, 149, 57, 58, 49, 50, 51, 52, 150, 151, 152, 772, 773, 774, 775, 776, 777, 778, 779, 780, 781, 782, 813, 814, 807, 808, 809, 810, 811, 812] (by decide +kernel) (by decide +kernel)
set_option maxRecDepth 20000 in
theorem gL_law_X7_undo : GoodIn wsL_law (wsV RL 89 RX7 yX7_undo wsX7_undo) := goodIn_app (goodIn_of _ (by decide +kernel)) ggL_law_X7_undo
set_option maxRecDepth 20000 in
theorem ggL_law_X8_undo : GoodIn wsL_law wsX8_undo := goodIn_r _ [685, 177, 105, 108, 783, 784, 785, 786, 787, 788, 789, 790, 791, 792, 793, 794, 795, 796, 797, 798, 799, 800, 801, 802, 803, 804, 805, 806] (by decide +kernel) (by decide +kernel)
set_option maxRecDepth 20000 in
theorem gL_law_X8_undo : GoodIn wsL_law (wsV RL 92 RX8 yX8_undo wsX8_undo) := goodIn_app (goodIn_of _ (by decide +kernel)) ggL_law_X8_undo
set_option maxRecDepth 20000 in
theorem ggL_law_X7_type : GoodIn wsL_law wsX7_type := goodIn_r _ [689, 24, 549, 690, 153, 63, 2, 64, 772, 773, 774, 775, 776, 777, 778, 779, 780, 781, 782, 815, 816, 817, 818, 819, 820, 821] (by decide +kernel) (by decide +kernel)
set_option maxRecDepth 20000 in
theorem gL_law_X7_type : GoodIn wsL_law (wsV RL 93 RX7 yX7_type wsX7_type) := goodIn_app (goodIn_of _ (by decide +kernel)) ggL_law_X7_type
set_option maxRecDepth 20000 in
theorem ggL_law_X8_type : GoodIn wsL_law wsX8_type := goodIn_r _ [694, 560, 109, 170, 171, 5, 172, 783, 784, 785, 786, 787, 788, 789, 790, 791, 792, 793, 794, 795, 796, 797, 798, 799, 800, 801, 802, 803, 804, 805, 806] (by decide +kernel) (by decide +kernel)
set_option maxRecDepth 20000 in
theorem gL_law_X8_type : GoodIn wsL_law (wsV RL 96 RX8 yX8_type wsX8_type) := goodIn_app (goodIn_of _ (by decide +kernel)) ggL_law_X8_type
set_option maxRecDepth 20000 in
theorem ggL_law_X7_clearText : GoodIn wsL_law wsX7_clearText := goodIn_r _ [698, 24, 549, 772, 773, 774, 775, 776, 777, 778, 779, 780, 781, 782, 815, 816, 817, 818, 819, 820, 821] (by decide +kernel) (by decide +kernel)
set_option maxRecDepth 20000 in
theorem gL_law_X7_clearText : GoodIn wsL_law (wsV RL 97 RX7 yX7_clearText wsX7_clearText) := goodIn_app (goodIn_of _ (by decide +kernel)) ggL_law_X7_clearText
set_option maxRecDepth 20000 in
theorem ggL_law_X8_clearText : GoodIn wsL_law wsX8_clearText := goodIn_r _ [702, 560, 783, 784, 785, 786, 787, 788, 789, 790, 791, 792, 793, 794, 795, 796, 797, 798, 799, 800, 801, 802, 803, 804, 805, 806] (by decide +kernel) (by decide +kernel)
set_option maxRecDepth 20000 in
theorem gL_law_X8_clearText : GoodIn wsL_law (wsV RL 100 RX8 yX8_clearText wsX8_clearText) := goodIn_app (goodIn_of _ (by decide +kernel)) ggL_law_X8_clearText
set_option maxRecDepth 20000 in
theorem ggL_law_X7_fault : GoodIn wsL_law wsX7_fault := goodIn_r _ [706, 24, 707, 708, 709, 710, 711, 23, 712, 713, 714, 715, 716, 717, 718, 80, 132, 2, 133, 719, 720, 721, 722, 723, 724, 472, 725, 726, 727, 728, 729, 730, 731, 732, 733, 734, 735, 736, 737, 738, 739, 740, 741, 772, 773, 774, 775, 776, 777, 778, 779, 780, 781, 782, 815, 816, 817, 818, 819, 820, 821] (by decide +kernel) (by decide +kernel)
set_option maxRecDepth 20000 in
theorem gL_law_X7_fault : GoodIn wsL_law (wsV RL 101 RX7 yX7_fault wsX7_fault) := goodIn_app (goodIn_of _ (by decide +kernel)) ggL_law_X7_fault
set_option maxRecDepth 20000 in
theorem ggL_law_X8_fault : GoodIn wsL_law wsX8_fault := goodIn_r _ [745, 746, 747, 170, 171, 5, 172, 748, 749, 750, 751, 752, 753, 560, 109, 754, 755, 756, 757, 783, 784, 785, 786, 787, 788, 789, 790, 791, 792, 793, 794, 795, 796, 797, 798, 799, 800, 801, 802, 803, 804, 805, 806] (by decide +kernel) (by decide +kernel)
set_option maxRecDepth 20000 in
theorem gL_law_X8_fault : GoodIn wsL_law (wsV RL 104 RX8 yX8_fault wsX8_fault) := goodIn_app (goodIn_of _ (by decide +kernel)) ggL_law_X8_fault
set_option maxRecDepth 20000 in
theorem ggL_law_X7_read : GoodIn wsL_law wsX7_read := goodIn_r _ [761, 24, 707, 20, 15, 709, 710, 711, 23, 712, 713, 714, 715, 716, 717, 718, 80, 132, 2, 133, 719, 720, 721, 722, 723, 724, 472, 725, 726, 727, 728, 729, 730, 731, 732, 733, 734, 735, 736, 737, 738, 739, 740, 741, 134, 135, 136, 19, 137, 75, 138, 139, 140, 141, 74, 142, 143, 144, 145, 146, 147, 148, 14, 149, 57, 58, 49, 50, 51, 52, 150, 151, 152, 762, 763, 764, 765, 766, 767, 54, 55, 56, 59, 60, 61, 62, 63, 64, 65, 66, 67, 68, 624, 772, 773, 774, 775, 776, 777, 778, 779, 780, 781, 782, 815, 816, 817, 818, 819, 820, 821, 813, 814, 807, 808, 809, 810, 811, 812] (by decide +kernel) (by decide +kernel)
set_option maxRecDepth 20000 in
theorem gL_law_X7_read : GoodIn wsL_law (wsV RL 105 RX7 yX7_read wsX7_read) := goodIn_app (goodIn_of _ (by decide +kernel)) ggL_law_X7_read
set_option maxRecDepth 20000 in
theorem ggL_law_X8_read : GoodIn wsL_law wsX8_read := goodIn_r _ [771, 752, 753, 105, 109, 158, 159, 160, 5, 161, 106, 748, 749, 750, 751, 560, 170, 171, 172, 754, 755, 756, 757, 746, 747, 118, 119, 120, 121, 166, 167, 168, 169, 173, 174, 175, 176, 177, 108, 783, 784, 785, 786, 787, 788, 789, 790, 791, 792, 793, 794, 795, 796, 797, 798, 799, 800, 801, 802, 803, 804, 805, 806] (by decide +kernel) (by decide +kernel)
set_option maxRecDepth 20000 in
theorem gL_law_X8_read : GoodIn wsL_law (wsV RL 108 RX8 yX8_read wsX8_read) := goodIn_app (goodIn_of _ (by decide +kernel)) ggL_law_X8_read
theorem dL_law_0 : decode cL_law 0 = .ok (.new 7, 3) := by decide +kernel
theorem dL_law_3 : decode cL_law 3 = .ok (.dup, 1) := by decide +kernel
theorem dL_law_4 : decode cL_law 4 = .ok (.invokespecial 9, 3) := by decide +kernel
theorem dL_law_7 : decode cL_law 7 = .ok (.astore_n 1, 1) := by decide +kernel
theorem dL_law_8 : decode cL_law 8 = .ok (.new 10, 3) := by decide +kernel
theorem dL_law_11 : decode cL_law 11 = .ok (.dup, 1) := by decide +kernel
theorem dL_law_12 : decode cL_law 12 = .ok (.invokespecial 12, 3) := by decide +kernel
theorem dL_law_15 : decode cL_law 15 = .ok (.astore_n 2, 1) := by decide +kernel
theorem dL_law_16 : decode cL_law 16 = .ok (.iconst 0, 1) := by decide +kernel
theorem dL_law_17 : decode cL_law 17 = .ok (.istore_n 3, 1) := by decide +kernel
theorem dL_law_18 : decode cL_law 18 = .ok (.iload_n 3, 1) := by decide +kernel
theorem dL_law_19 : decode cL_law 19 = .ok (.aload_n 0, 1) := by decide +kernel
theorem dL_law_20 : decode cL_law 20 = .ok (.arraylength, 1) := by decide +kernel
theorem dL_law_21 : decode cL_law 21 = .ok (.iconst 4, 1) := by decide +kernel
theorem dL_law_22 : decode cL_law 22 = .ok (.isub, 1) := by decide +kernel
theorem dL_law_23 : decode cL_law 23 = .ok (.if_icmp .gt 652, 3) := by decide +kernel
theorem dL_law_26 : decode cL_law 26 = .ok (.aload_n 0, 1) := by decide +kernel
theorem dL_law_27 : decode cL_law 27 = .ok (.iload_n 3, 1) := by decide +kernel
theorem dL_law_28 : decode cL_law 28 = .ok (.iaload, 1) := by decide +kernel
theorem dL_law_29 : decode cL_law 29 = .ok (.bipush 31, 2) := by decide +kernel
theorem dL_law_31 : decode cL_law 31 = .ok (.iand, 1) := by decide +kernel
theorem dL_law_32 : decode cL_law 32 = .ok (.tableswitch 637 0 22 #[108, 141, 174, 207, 250, 263, 276, 289, 322, 355, 378, 401, 424, 457, 480, 503, 526, 539, 552, 565, 588, 601, 624], 108) := by decide +kernel
theorem dL_law_140 : decode cL_law 140 = .ok (.aload_n 1, 1) := by decide +kernel
theorem dL_law_141 : decode cL_law 141 = .ok (.aload_n 0, 1) := by decide +kernel
theorem dL_law_142 : decode cL_law 142 = .ok (.iload_n 3, 1) := by decide +kernel
theorem dL_law_143 : decode cL_law 143 = .ok (.iconst 1, 1) := by decide +kernel
theorem dL_law_144 : decode cL_law 144 = .ok (.iadd, 1) := by decide +kernel
theorem dL_law_145 : decode cL_law 145 = .ok (.iaload, 1) := by decide +kernel
theorem dL_law_146 : decode cL_law 146 = .ok (.aload_n 0, 1) := by decide +kernel
theorem dL_law_147 : decode cL_law 147 = .ok (.iload_n 3, 1) := by decide +kernel
theorem dL_law_148 : decode cL_law 148 = .ok (.iconst 2, 1) := by decide +kernel
theorem dL_law_149 : decode cL_law 149 = .ok (.iadd, 1) := by decide +kernel
theorem dL_law_150 : decode cL_law 150 = .ok (.iaload, 1) := by decide +kernel
theorem dL_law_151 : decode cL_law 151 = .ok (.invokevirtual 13, 3) := by decide +kernel
theorem dL_law_154 : decode cL_law 154 = .ok (.aload_n 2, 1) := by decide +kernel
theorem dL_law_155 : decode cL_law 155 = .ok (.aload_n 0, 1) := by decide +kernel
theorem dL_law_156 : decode cL_law 156 = .ok (.iload_n 3, 1) := by decide +kernel
theorem dL_law_157 : decode cL_law 157 = .ok (.iconst 1, 1) := by decide +kernel
theorem dL_law_158 : decode cL_law 158 = .ok (.iadd, 1) := by decide +kernel
theorem dL_law_159 : decode cL_law 159 = .ok (.iaload, 1) := by decide +kernel
theorem dL_law_160 : decode cL_law 160 = .ok (.aload_n 0, 1) := by decide +kernel
theorem dL_law_161 : decode cL_law 161 = .ok (.iload_n 3, 1) := by decide +kernel
theorem dL_law_162 : decode cL_law 162 = .ok (.iconst 2, 1) := by decide +kernel
theorem dL_law_163 : decode cL_law 163 = .ok (.iadd, 1) := by decide +kernel
theorem dL_law_164 : decode cL_law 164 = .ok (.iaload, 1) := by decide +kernel
theorem dL_law_165 : decode cL_law 165 = .ok (.invokevirtual 17, 3) := by decide +kernel
theorem dL_law_168 : decode cL_law 168 = .ok (.if_icmp .eq 501, 3) := by decide +kernel
theorem dL_law_171 : decode cL_law 171 = .ok (.iconst 0, 1) := by decide +kernel
theorem dL_law_172 : decode cL_law 172 = .ok (.ireturn, 1) := by decide +kernel
theorem dL_law_173 : decode cL_law 173 = .ok (.aload_n 1, 1) := by decide +kernel
theorem dL_law_174 : decode cL_law 174 = .ok (.aload_n 0, 1) := by decide +kernel
theorem dL_law_175 : decode cL_law 175 = .ok (.iload_n 3, 1) := by decide +kernel
theorem dL_law_176 : decode cL_law 176 = .ok (.iconst 1, 1) := by decide +kernel
theorem dL_law_177 : decode cL_law 177 = .ok (.iadd, 1) := by decide +kernel
theorem dL_law_178 : decode cL_law 178 = .ok (.iaload, 1) := by decide +kernel
theorem dL_law_179 : decode cL_law 179 = .ok (.aload_n 0, 1) := by decide +kernel
theorem dL_law_180 : decode cL_law 180 = .ok (.iload_n 3, 1) := by decide +kernel
theorem dL_law_181 : decode cL_law 181 = .ok (.iconst 2, 1) := by decide +kernel
theorem dL_law_182 : decode cL_law 182 = .ok (.iadd, 1) := by decide +kernel
theorem dL_law_183 : decode cL_law 183 = .ok (.iaload, 1) := by decide +kernel
theorem dL_law_184 : decode cL_law 184 = .ok (.invokevirtual 18, 3) := by decide +kernel
theorem dL_law_187 : decode cL_law 187 = .ok (.aload_n 2, 1) := by decide +kernel
theorem dL_law_188 : decode cL_law 188 = .ok (.aload_n 0, 1) := by decide +kernel
theorem dL_law_189 : decode cL_law 189 = .ok (.iload_n 3, 1) := by decide +kernel
theorem dL_law_190 : decode cL_law 190 = .ok (.iconst 1, 1) := by decide +kernel
theorem dL_law_191 : decode cL_law 191 = .ok (.iadd, 1) := by decide +kernel
theorem dL_law_192 : decode cL_law 192 = .ok (.iaload, 1) := by decide +kernel
theorem dL_law_193 : decode cL_law 193 = .ok (.aload_n 0, 1) := by decide +kernel
theorem dL_law_194 : decode cL_law 194 = .ok (.iload_n 3, 1) := by decide +kernel
theorem dL_law_195 : decode cL_law 195 = .ok (.iconst 2, 1) := by decide +kernel
theorem dL_law_196 : decode cL_law 196 = .ok (.iadd, 1) := by decide +kernel
theorem dL_law_197 : decode cL_law 197 = .ok (.iaload, 1) := by decide +kernel
theorem dL_law_198 : decode cL_law 198 = .ok (.invokevirtual 21, 3) := by decide +kernel
theorem dL_law_201 : decode cL_law 201 = .ok (.if_icmp .eq 468, 3) := by decide +kernel
theorem dL_law_204 : decode cL_law 204 = .ok (.iconst 0, 1) := by decide +kernel
theorem dL_law_205 : decode cL_law 205 = .ok (.ireturn, 1) := by decide +kernel
theorem dL_law_206 : decode cL_law 206 = .ok (.aload_n 1, 1) := by decide +kernel
theorem dL_law_207 : decode cL_law 207 = .ok (.aload_n 0, 1) := by decide +kernel
theorem dL_law_208 : decode cL_law 208 = .ok (.iload_n 3, 1) := by decide +kernel
theorem dL_law_209 : decode cL_law 209 = .ok (.iconst 1, 1) := by decide +kernel
theorem dL_law_210 : decode cL_law 210 = .ok (.iadd, 1) := by decide +kernel
theorem dL_law_211 : decode cL_law 211 = .ok (.iaload, 1) := by decide +kernel
theorem dL_law_212 : decode cL_law 212 = .ok (.aload_n 0, 1) := by decide +kernel
theorem dL_law_213 : decode cL_law 213 = .ok (.iload_n 3, 1) := by decide +kernel
theorem dL_law_214 : decode cL_law 214 = .ok (.iconst 2, 1) := by decide +kernel
theorem dL_law_215 : decode cL_law 215 = .ok (.iadd, 1) := by decide +kernel
theorem dL_law_216 : decode cL_law 216 = .ok (.iaload, 1) := by decide +kernel
theorem dL_law_217 : decode cL_law 217 = .ok (.invokevirtual 22, 3) := by decide +kernel
theorem dL_law_220 : decode cL_law 220 = .ok (.aload_n 2, 1) := by decide +kernel
theorem dL_law_221 : decode cL_law 221 = .ok (.aload_n 0, 1) := by decide +kernel
theorem dL_law_222 : decode cL_law 222 = .ok (.iload_n 3, 1) := by decide +kernel
theorem dL_law_223 : decode cL_law 223 = .ok (.iconst 1, 1) := by decide +kernel
theorem dL_law_224 : decode cL_law 224 = .ok (.iadd, 1) := by decide +kernel
theorem dL_law_225 : decode cL_law 225 = .ok (.iaload, 1) := by decide +kernel
theorem dL_law_226 : decode cL_law 226 = .ok (.aload_n 0, 1) := by decide +kernel
theorem dL_law_227 : decode cL_law 227 = .ok (.iload_n 3, 1) := by decide +kernel
theorem dL_law_228 : decode cL_law 228 = .ok (.iconst 2, 1) := by decide +kernel
theorem dL_law_229 : decode cL_law 229 = .ok (.iadd, 1) := by decide +kernel
theorem dL_law_230 : decode cL_law 230 = .ok (.iaload, 1) := by decide +kernel
theorem dL_law_231 : decode cL_law 231 = .ok (.invokevirtual 25, 3) := by decide +kernel
theorem dL_law_234 : decode cL_law 234 = .ok (.if_icmp .eq 435, 3) := by decide +kernel
theorem dL_law_237 : decode cL_law 237 = .ok (.iconst 0, 1) := by decide +kernel
theorem dL_law_238 : decode cL_law 238 = .ok (.ireturn, 1) := by decide +kernel
theorem dL_law_239 : decode cL_law 239 = .ok (.aload_n 1, 1) := by decide +kernel
theorem dL_law_240 : decode cL_law 240 = .ok (.aload_n 0, 1) := by decide +kernel
theorem dL_law_241 : decode cL_law 241 = .ok (.iload_n 3, 1) := by decide +kernel
theorem dL_law_242 : decode cL_law 242 = .ok (.iconst 1, 1) := by decide +kernel
theorem dL_law_243 : decode cL_law 243 = .ok (.iadd, 1) := by decide +kernel
theorem dL_law_244 : decode cL_law 244 = .ok (.iaload, 1) := by decide +kernel
theorem dL_law_245 : decode cL_law 245 = .ok (.aload_n 0, 1) := by decide +kernel
theorem dL_law_246 : decode cL_law 246 = .ok (.iload_n 3, 1) := by decide +kernel
theorem dL_law_247 : decode cL_law 247 = .ok (.iconst 2, 1) := by decide +kernel
theorem dL_law_248 : decode cL_law 248 = .ok (.iadd, 1) := by decide +kernel
theorem dL_law_249 : decode cL_law 249 = .ok (.iaload, 1) := by decide +kernel
theorem dL_law_250 : decode cL_law 250 = .ok (.aload_n 0, 1) := by decide +kernel
theorem dL_law_251 : decode cL_law 251 = .ok (.iload_n 3, 1) := by decide +kernel
theorem dL_law_252 : decode cL_law 252 = .ok (.iconst 3, 1) := by decide +kernel
theorem dL_law_253 : decode cL_law 253 = .ok (.iadd, 1) := by decide +kernel
theorem dL_law_254 : decode cL_law 254 = .ok (.iaload, 1) := by decide +kernel
theorem dL_law_255 : decode cL_law 255 = .ok (.invokevirtual 26, 3) := by decide +kernel
theorem dL_law_258 : decode cL_law 258 = .ok (.aload_n 2, 1) := by decide +kernel
theorem dL_law_259 : decode cL_law 259 = .ok (.aload_n 0, 1) := by decide +kernel
theorem dL_law_260 : decode cL_law 260 = .ok (.iload_n 3, 1) := by decide +kernel
theorem dL_law_261 : decode cL_law 261 = .ok (.iconst 1, 1) := by decide +kernel
theorem dL_law_262 : decode cL_law 262 = .ok (.iadd, 1) := by decide +kernel
theorem dL_law_263 : decode cL_law 263 = .ok (.iaload, 1) := by decide +kernel
theorem dL_law_264 : decode cL_law 264 = .ok (.aload_n 0, 1) := by decide +kernel
theorem dL_law_265 : decode cL_law 265 = .ok (.iload_n 3, 1) := by decide +kernel
theorem dL_law_266 : decode cL_law 266 = .ok (.iconst 2, 1) := by decide +kernel
theorem dL_law_267 : decode cL_law 267 = .ok (.iadd, 1) := by decide +kernel
theorem dL_law_268 : decode cL_law 268 = .ok (.iaload, 1) := by decide +kernel
theorem dL_law_269 : decode cL_law 269 = .ok (.aload_n 0, 1) := by decide +kernel
theorem dL_law_270 : decode cL_law 270 = .ok (.iload_n 3, 1) := by decide +kernel
theorem dL_law_271 : decode cL_law 271 = .ok (.iconst 3, 1) := by decide +kernel
theorem dL_law_272 : decode cL_law 272 = .ok (.iadd, 1) := by decide +kernel
theorem dL_law_273 : decode cL_law 273 = .ok (.iaload, 1) := by decide +kernel
theorem dL_law_274 : decode cL_law 274 = .ok (.invokevirtual 30, 3) := by decide +kernel
theorem dL_law_277 : decode cL_law 277 = .ok (.if_icmp .eq 392, 3) := by decide +kernel
theorem dL_law_280 : decode cL_law 280 = .ok (.iconst 0, 1) := by decide +kernel
theorem dL_law_281 : decode cL_law 281 = .ok (.ireturn, 1) := by decide +kernel
theorem dL_law_282 : decode cL_law 282 = .ok (.aload_n 1, 1) := by decide +kernel
theorem dL_law_283 : decode cL_law 283 = .ok (.invokevirtual 31, 3) := by decide +kernel
theorem dL_law_286 : decode cL_law 286 = .ok (.aload_n 2, 1) := by decide +kernel
theorem dL_law_287 : decode cL_law 287 = .ok (.invokevirtual 35, 3) := by decide +kernel
theorem dL_law_290 : decode cL_law 290 = .ok (.if_icmp .eq 379, 3) := by decide +kernel
theorem dL_law_293 : decode cL_law 293 = .ok (.iconst 0, 1) := by decide +kernel
theorem dL_law_294 : decode cL_law 294 = .ok (.ireturn, 1) := by decide +kernel
theorem dL_law_295 : decode cL_law 295 = .ok (.aload_n 1, 1) := by decide +kernel
theorem dL_law_296 : decode cL_law 296 = .ok (.invokevirtual 36, 3) := by decide +kernel
theorem dL_law_299 : decode cL_law 299 = .ok (.aload_n 2, 1) := by decide +kernel
theorem dL_law_300 : decode cL_law 300 = .ok (.invokevirtual 39, 3) := by decide +kernel
theorem dL_law_303 : decode cL_law 303 = .ok (.if_icmp .eq 366, 3) := by decide +kernel
theorem dL_law_306 : decode cL_law 306 = .ok (.iconst 0, 1) := by decide +kernel
theorem dL_law_307 : decode cL_law 307 = .ok (.ireturn, 1) := by decide +kernel
theorem dL_law_308 : decode cL_law 308 = .ok (.aload_n 1, 1) := by decide +kernel
theorem dL_law_309 : decode cL_law 309 = .ok (.invokevirtual 40, 3) := by decide +kernel
theorem dL_law_312 : decode cL_law 312 = .ok (.aload_n 2, 1) := by decide +kernel
theorem dL_law_313 : decode cL_law 313 = .ok (.invokevirtual 43, 3) := by decide +kernel
theorem dL_law_316 : decode cL_law 316 = .ok (.if_icmp .eq 353, 3) := by decide +kernel
theorem dL_law_319 : decode cL_law 319 = .ok (.iconst 0, 1) := by decide +kernel
theorem dL_law_320 : decode cL_law 320 = .ok (.ireturn, 1) := by decide +kernel
theorem dL_law_321 : decode cL_law 321 = .ok (.aload_n 1, 1) := by decide +kernel
theorem dL_law_322 : decode cL_law 322 = .ok (.aload_n 0, 1) := by decide +kernel
theorem dL_law_323 : decode cL_law 323 = .ok (.iload_n 3, 1) := by decide +kernel
theorem dL_law_324 : decode cL_law 324 = .ok (.iconst 1, 1) := by decide +kernel
theorem dL_law_325 : decode cL_law 325 = .ok (.iadd, 1) := by decide +kernel
theorem dL_law_326 : decode cL_law 326 = .ok (.iaload, 1) := by decide +kernel
theorem dL_law_327 : decode cL_law 327 = .ok (.aload_n 0, 1) := by decide +kernel
theorem dL_law_328 : decode cL_law 328 = .ok (.iload_n 3, 1) := by decide +kernel
theorem dL_law_329 : decode cL_law 329 = .ok (.iconst 2, 1) := by decide +kernel
theorem dL_law_330 : decode cL_law 330 = .ok (.iadd, 1) := by decide +kernel
theorem dL_law_331 : decode cL_law 331 = .ok (.iaload, 1) := by decide +kernel
theorem dL_law_332 : decode cL_law 332 = .ok (.invokevirtual 44, 3) := by decide +kernel
theorem dL_law_335 : decode cL_law 335 = .ok (.aload_n 2, 1) := by decide +kernel
theorem dL_law_336 : decode cL_law 336 = .ok (.aload_n 0, 1) := by decide +kernel
theorem dL_law_337 : decode cL_law 337 = .ok (.iload_n 3, 1) := by decide +kernel
theorem dL_law_338 : decode cL_law 338 = .ok (.iconst 1, 1) := by decide +kernel
theorem dL_law_339 : decode cL_law 339 = .ok (.iadd, 1) := by decide +kernel
theorem dL_law_340 : decode cL_law 340 = .ok (.iaload, 1) := by decide +kernel
theorem dL_law_341 : decode cL_law 341 = .ok (.aload_n 0, 1) := by decide +kernel
theorem dL_law_342 : decode cL_law 342 = .ok (.iload_n 3, 1) := by decide +kernel
theorem dL_law_343 : decode cL_law 343 = .ok (.iconst 2, 1) := by decide +kernel
theorem dL_law_344 : decode cL_law 344 = .ok (.iadd, 1) := by decide +kernel
theorem dL_law_345 : decode cL_law 345 = .ok (.iaload, 1) := by decide +kernel
theorem dL_law_346 : decode cL_law 346 = .ok (.invokevirtual 47, 3) := by decide +kernel
theorem dL_law_349 : decode cL_law 349 = .ok (.if_icmp .eq 320, 3) := by decide +kernel
theorem dL_law_352 : decode cL_law 352 = .ok (.iconst 0, 1) := by decide +kernel
theorem dL_law_353 : decode cL_law 353 = .ok (.ireturn, 1) := by decide +kernel
theorem dL_law_354 : decode cL_law 354 = .ok (.aload_n 1, 1) := by decide +kernel
theorem dL_law_355 : decode cL_law 355 = .ok (.aload_n 0, 1) := by decide +kernel
theorem dL_law_356 : decode cL_law 356 = .ok (.iload_n 3, 1) := by decide +kernel
theorem dL_law_357 : decode cL_law 357 = .ok (.iconst 1, 1) := by decide +kernel
theorem dL_law_358 : decode cL_law 358 = .ok (.iadd, 1) := by decide +kernel
theorem dL_law_359 : decode cL_law 359 = .ok (.iaload, 1) := by decide +kernel
theorem dL_law_360 : decode cL_law 360 = .ok (.aload_n 0, 1) := by decide +kernel
theorem dL_law_361 : decode cL_law 361 = .ok (.iload_n 3, 1) := by decide +kernel
theorem dL_law_362 : decode cL_law 362 = .ok (.iconst 2, 1) := by decide +kernel
theorem dL_law_363 : decode cL_law 363 = .ok (.iadd, 1) := by decide +kernel
theorem dL_law_364 : decode cL_law 364 = .ok (.iaload, 1) := by decide +kernel
theorem dL_law_365 : decode cL_law 365 = .ok (.invokevirtual 48, 3) := by decide +kernel
theorem dL_law_368 : decode cL_law 368 = .ok (.aload_n 2, 1) := by decide +kernel
theorem dL_law_369 : decode cL_law 369 = .ok (.aload_n 0, 1) := by decide +kernel
theorem dL_law_370 : decode cL_law 370 = .ok (.iload_n 3, 1) := by decide +kernel
theorem dL_law_371 : decode cL_law 371 = .ok (.iconst 1, 1) := by decide +kernel
theorem dL_law_372 : decode cL_law 372 = .ok (.iadd, 1) := by decide +kernel
theorem dL_law_373 : decode cL_law 373 = .ok (.iaload, 1) := by decide +kernel
theorem dL_law_374 : decode cL_law 374 = .ok (.aload_n 0, 1) := by decide +kernel
theorem dL_law_375 : decode cL_law 375 = .ok (.iload_n 3, 1) := by decide +kernel
theorem dL_law_376 : decode cL_law 376 = .ok (.iconst 2, 1) := by decide +kernel
theorem dL_law_377 : decode cL_law 377 = .ok (.iadd, 1) := by decide +kernel
theorem dL_law_378 : decode cL_law 378 = .ok (.iaload, 1) := by decide +kernel
theorem dL_law_379 : decode cL_law 379 = .ok (.invokevirtual 51, 3) := by decide +kernel
theorem dL_law_382 : decode cL_law 382 = .ok (.if_icmp .eq 287, 3) := by decide +kernel
theorem dL_law_385 : decode cL_law 385 = .ok (.iconst 0, 1) := by decide +kernel
theorem dL_law_386 : decode cL_law 386 = .ok (.ireturn, 1) := by decide +kernel
theorem dL_law_387 : decode cL_law 387 = .ok (.aload_n 1, 1) := by decide +kernel
theorem dL_law_388 : decode cL_law 388 = .ok (.aload_n 0, 1) := by decide +kernel
theorem dL_law_389 : decode cL_law 389 = .ok (.iload_n 3, 1) := by decide +kernel
theorem dL_law_390 : decode cL_law 390 = .ok (.iconst 1, 1) := by decide +kernel
theorem dL_law_391 : decode cL_law 391 = .ok (.iadd, 1) := by decide +kernel
theorem dL_law_392 : decode cL_law 392 = .ok (.iaload, 1) := by decide +kernel
theorem dL_law_393 : decode cL_law 393 = .ok (.invokevirtual 52, 3) := by decide +kernel
theorem dL_law_396 : decode cL_law 396 = .ok (.aload_n 2, 1) := by decide +kernel
theorem dL_law_397 : decode cL_law 397 = .ok (.aload_n 0, 1) := by decide +kernel
theorem dL_law_398 : decode cL_law 398 = .ok (.iload_n 3, 1) := by decide +kernel
theorem dL_law_399 : decode cL_law 399 = .ok (.iconst 1, 1) := by decide +kernel
theorem dL_law_400 : decode cL_law 400 = .ok (.iadd, 1) := by decide +kernel
theorem dL_law_401 : decode cL_law 401 = .ok (.iaload, 1) := by decide +kernel
theorem dL_law_402 : decode cL_law 402 = .ok (.invokevirtual 56, 3) := by decide +kernel
theorem dL_law_405 : decode cL_law 405 = .ok (.if_icmp .eq 264, 3) := by decide +kernel
theorem dL_law_408 : decode cL_law 408 = .ok (.iconst 0, 1) := by decide +kernel
theorem dL_law_409 : decode cL_law 409 = .ok (.ireturn, 1) := by decide +kernel
theorem dL_law_410 : decode cL_law 410 = .ok (.aload_n 1, 1) := by decide +kernel
theorem dL_law_411 : decode cL_law 411 = .ok (.aload_n 0, 1) := by decide +kernel
theorem dL_law_412 : decode cL_law 412 = .ok (.iload_n 3, 1) := by decide +kernel
theorem dL_law_413 : decode cL_law 413 = .ok (.iconst 1, 1) := by decide +kernel
theorem dL_law_414 : decode cL_law 414 = .ok (.iadd, 1) := by decide +kernel
theorem dL_law_415 : decode cL_law 415 = .ok (.iaload, 1) := by decide +kernel
theorem dL_law_416 : decode cL_law 416 = .ok (.invokevirtual 57, 3) := by decide +kernel
theorem dL_law_419 : decode cL_law 419 = .ok (.aload_n 2, 1) := by decide +kernel
theorem dL_law_420 : decode cL_law 420 = .ok (.aload_n 0, 1) := by decide +kernel
theorem dL_law_421 : decode cL_law 421 = .ok (.iload_n 3, 1) := by decide +kernel
theorem dL_law_422 : decode cL_law 422 = .ok (.iconst 1, 1) := by decide +kernel
theorem dL_law_423 : decode cL_law 423 = .ok (.iadd, 1) := by decide +kernel
theorem dL_law_424 : decode cL_law 424 = .ok (.iaload, 1) := by decide +kernel
theorem dL_law_425 : decode cL_law 425 = .ok (.invokevirtual 60, 3) := by decide +kernel
theorem dL_law_428 : decode cL_law 428 = .ok (.if_icmp .eq 241, 3) := by decide +kernel
theorem dL_law_431 : decode cL_law 431 = .ok (.iconst 0, 1) := by decide +kernel
theorem dL_law_432 : decode cL_law 432 = .ok (.ireturn, 1) := by decide +kernel
theorem dL_law_433 : decode cL_law 433 = .ok (.aload_n 1, 1) := by decide +kernel
theorem dL_law_434 : decode cL_law 434 = .ok (.aload_n 0, 1) := by decide +kernel
theorem dL_law_435 : decode cL_law 435 = .ok (.iload_n 3, 1) := by decide +kernel
theorem dL_law_436 : decode cL_law 436 = .ok (.iconst 1, 1) := by decide +kernel
theorem dL_law_437 : decode cL_law 437 = .ok (.iadd, 1) := by decide +kernel
theorem dL_law_438 : decode cL_law 438 = .ok (.iaload, 1) := by decide +kernel
theorem dL_law_439 : decode cL_law 439 = .ok (.invokevirtual 61, 3) := by decide +kernel
theorem dL_law_442 : decode cL_law 442 = .ok (.aload_n 2, 1) := by decide +kernel
theorem dL_law_443 : decode cL_law 443 = .ok (.aload_n 0, 1) := by decide +kernel
theorem dL_law_444 : decode cL_law 444 = .ok (.iload_n 3, 1) := by decide +kernel
theorem dL_law_445 : decode cL_law 445 = .ok (.iconst 1, 1) := by decide +kernel
theorem dL_law_446 : decode cL_law 446 = .ok (.iadd, 1) := by decide +kernel
theorem dL_law_447 : decode cL_law 447 = .ok (.iaload, 1) := by decide +kernel
theorem dL_law_448 : decode cL_law 448 = .ok (.invokevirtual 64, 3) := by decide +kernel
theorem dL_law_451 : decode cL_law 451 = .ok (.if_icmp .eq 218, 3) := by decide +kernel
theorem dL_law_454 : decode cL_law 454 = .ok (.iconst 0, 1) := by decide +kernel
theorem dL_law_455 : decode cL_law 455 = .ok (.ireturn, 1) := by decide +kernel
theorem dL_law_456 : decode cL_law 456 = .ok (.aload_n 1, 1) := by decide +kernel
theorem dL_law_457 : decode cL_law 457 = .ok (.aload_n 0, 1) := by decide +kernel
theorem dL_law_458 : decode cL_law 458 = .ok (.iload_n 3, 1) := by decide +kernel
theorem dL_law_459 : decode cL_law 459 = .ok (.iconst 1, 1) := by decide +kernel
theorem dL_law_460 : decode cL_law 460 = .ok (.iadd, 1) := by decide +kernel
theorem dL_law_461 : decode cL_law 461 = .ok (.iaload, 1) := by decide +kernel
theorem dL_law_462 : decode cL_law 462 = .ok (.aload_n 0, 1) := by decide +kernel
theorem dL_law_463 : decode cL_law 463 = .ok (.iload_n 3, 1) := by decide +kernel
theorem dL_law_464 : decode cL_law 464 = .ok (.iconst 2, 1) := by decide +kernel
theorem dL_law_465 : decode cL_law 465 = .ok (.iadd, 1) := by decide +kernel
theorem dL_law_466 : decode cL_law 466 = .ok (.iaload, 1) := by decide +kernel
theorem dL_law_467 : decode cL_law 467 = .ok (.invokevirtual 65, 3) := by decide +kernel
theorem dL_law_470 : decode cL_law 470 = .ok (.aload_n 2, 1) := by decide +kernel
theorem dL_law_471 : decode cL_law 471 = .ok (.aload_n 0, 1) := by decide +kernel
theorem dL_law_472 : decode cL_law 472 = .ok (.iload_n 3, 1) := by decide +kernel
theorem dL_law_473 : decode cL_law 473 = .ok (.iconst 1, 1) := by decide +kernel
theorem dL_law_474 : decode cL_law 474 = .ok (.iadd, 1) := by decide +kernel
theorem dL_law_475 : decode cL_law 475 = .ok (.iaload, 1) := by decide +kernel
theorem dL_law_476 : decode cL_law 476 = .ok (.aload_n 0, 1) := by decide +kernel
theorem dL_law_477 : decode cL_law 477 = .ok (.iload_n 3, 1) := by decide +kernel
theorem dL_law_478 : decode cL_law 478 = .ok (.iconst 2, 1) := by decide +kernel
theorem dL_law_479 : decode cL_law 479 = .ok (.iadd, 1) := by decide +kernel
theorem dL_law_480 : decode cL_law 480 = .ok (.iaload, 1) := by decide +kernel
theorem dL_law_481 : decode cL_law 481 = .ok (.invokevirtual 68, 3) := by decide +kernel
theorem dL_law_484 : decode cL_law 484 = .ok (.if_icmp .eq 185, 3) := by decide +kernel
theorem dL_law_487 : decode cL_law 487 = .ok (.iconst 0, 1) := by decide +kernel
theorem dL_law_488 : decode cL_law 488 = .ok (.ireturn, 1) := by decide +kernel
theorem dL_law_489 : decode cL_law 489 = .ok (.aload_n 1, 1) := by decide +kernel
theorem dL_law_490 : decode cL_law 490 = .ok (.aload_n 0, 1) := by decide +kernel
theorem dL_law_491 : decode cL_law 491 = .ok (.iload_n 3, 1) := by decide +kernel
theorem dL_law_492 : decode cL_law 492 = .ok (.iconst 1, 1) := by decide +kernel
theorem dL_law_493 : decode cL_law 493 = .ok (.iadd, 1) := by decide +kernel
theorem dL_law_494 : decode cL_law 494 = .ok (.iaload, 1) := by decide +kernel
theorem dL_law_495 : decode cL_law 495 = .ok (.invokevirtual 69, 3) := by decide +kernel
theorem dL_law_498 : decode cL_law 498 = .ok (.aload_n 2, 1) := by decide +kernel
theorem dL_law_499 : decode cL_law 499 = .ok (.aload_n 0, 1) := by decide +kernel
theorem dL_law_500 : decode cL_law 500 = .ok (.iload_n 3, 1) := by decide +kernel
theorem dL_law_501 : decode cL_law 501 = .ok (.iconst 1, 1) := by decide +kernel
theorem dL_law_502 : decode cL_law 502 = .ok (.iadd, 1) := by decide +kernel
theorem dL_law_503 : decode cL_law 503 = .ok (.iaload, 1) := by decide +kernel
theorem dL_law_504 : decode cL_law 504 = .ok (.invokevirtual 72, 3) := by decide +kernel
theorem dL_law_507 : decode cL_law 507 = .ok (.if_icmp .eq 162, 3) := by decide +kernel
theorem dL_law_510 : decode cL_law 510 = .ok (.iconst 0, 1) := by decide +kernel
theorem dL_law_511 : decode cL_law 511 = .ok (.ireturn, 1) := by decide +kernel
theorem dL_law_512 : decode cL_law 512 = .ok (.aload_n 1, 1) := by decide +kernel
theorem dL_law_513 : decode cL_law 513 = .ok (.aload_n 0, 1) := by decide +kernel
theorem dL_law_514 : decode cL_law 514 = .ok (.iload_n 3, 1) := by decide +kernel
theorem dL_law_515 : decode cL_law 515 = .ok (.iconst 1, 1) := by decide +kernel
theorem dL_law_516 : decode cL_law 516 = .ok (.iadd, 1) := by decide +kernel
theorem dL_law_517 : decode cL_law 517 = .ok (.iaload, 1) := by decide +kernel
theorem dL_law_518 : decode cL_law 518 = .ok (.invokevirtual 73, 3) := by decide +kernel
theorem dL_law_521 : decode cL_law 521 = .ok (.aload_n 2, 1) := by decide +kernel
theorem dL_law_522 : decode cL_law 522 = .ok (.aload_n 0, 1) := by decide +kernel
theorem dL_law_523 : decode cL_law 523 = .ok (.iload_n 3, 1) := by decide +kernel
theorem dL_law_524 : decode cL_law 524 = .ok (.iconst 1, 1) := by decide +kernel
theorem dL_law_525 : decode cL_law 525 = .ok (.iadd, 1) := by decide +kernel
theorem dL_law_526 : decode cL_law 526 = .ok (.iaload, 1) := by decide +kernel
theorem dL_law_527 : decode cL_law 527 = .ok (.invokevirtual 76, 3) := by decide +kernel
theorem dL_law_530 : decode cL_law 530 = .ok (.if_icmp .eq 139, 3) := by decide +kernel
theorem dL_law_533 : decode cL_law 533 = .ok (.iconst 0, 1) := by decide +kernel
theorem dL_law_534 : decode cL_law 534 = .ok (.ireturn, 1) := by decide +kernel
theorem dL_law_535 : decode cL_law 535 = .ok (.aload_n 1, 1) := by decide +kernel
theorem dL_law_536 : decode cL_law 536 = .ok (.aload_n 0, 1) := by decide +kernel
theorem dL_law_537 : decode cL_law 537 = .ok (.iload_n 3, 1) := by decide +kernel
theorem dL_law_538 : decode cL_law 538 = .ok (.iconst 1, 1) := by decide +kernel
theorem dL_law_539 : decode cL_law 539 = .ok (.iadd, 1) := by decide +kernel
theorem dL_law_540 : decode cL_law 540 = .ok (.iaload, 1) := by decide +kernel
theorem dL_law_541 : decode cL_law 541 = .ok (.invokevirtual 77, 3) := by decide +kernel
theorem dL_law_544 : decode cL_law 544 = .ok (.aload_n 2, 1) := by decide +kernel
theorem dL_law_545 : decode cL_law 545 = .ok (.aload_n 0, 1) := by decide +kernel
theorem dL_law_546 : decode cL_law 546 = .ok (.iload_n 3, 1) := by decide +kernel
theorem dL_law_547 : decode cL_law 547 = .ok (.iconst 1, 1) := by decide +kernel
theorem dL_law_548 : decode cL_law 548 = .ok (.iadd, 1) := by decide +kernel
theorem dL_law_549 : decode cL_law 549 = .ok (.iaload, 1) := by decide +kernel
theorem dL_law_550 : decode cL_law 550 = .ok (.invokevirtual 80, 3) := by decide +kernel
theorem dL_law_553 : decode cL_law 553 = .ok (.if_icmp .eq 116, 3) := by decide +kernel
theorem dL_law_556 : decode cL_law 556 = .ok (.iconst 0, 1) := by decide +kernel
theorem dL_law_557 : decode cL_law 557 = .ok (.ireturn, 1) := by decide +kernel
theorem dL_law_558 : decode cL_law 558 = .ok (.aload_n 1, 1) := by decide +kernel
theorem dL_law_559 : decode cL_law 559 = .ok (.invokevirtual 81, 3) := by decide +kernel
theorem dL_law_562 : decode cL_law 562 = .ok (.aload_n 2, 1) := by decide +kernel
theorem dL_law_563 : decode cL_law 563 = .ok (.invokevirtual 84, 3) := by decide +kernel
theorem dL_law_566 : decode cL_law 566 = .ok (.if_icmp .eq 103, 3) := by decide +kernel
theorem dL_law_569 : decode cL_law 569 = .ok (.iconst 0, 1) := by decide +kernel
theorem dL_law_570 : decode cL_law 570 = .ok (.ireturn, 1) := by decide +kernel
theorem dL_law_571 : decode cL_law 571 = .ok (.aload_n 1, 1) := by decide +kernel
theorem dL_law_572 : decode cL_law 572 = .ok (.invokevirtual 85, 3) := by decide +kernel
theorem dL_law_575 : decode cL_law 575 = .ok (.aload_n 2, 1) := by decide +kernel
theorem dL_law_576 : decode cL_law 576 = .ok (.invokevirtual 88, 3) := by decide +kernel
theorem dL_law_579 : decode cL_law 579 = .ok (.if_icmp .eq 90, 3) := by decide +kernel
theorem dL_law_582 : decode cL_law 582 = .ok (.iconst 0, 1) := by decide +kernel
theorem dL_law_583 : decode cL_law 583 = .ok (.ireturn, 1) := by decide +kernel
theorem dL_law_584 : decode cL_law 584 = .ok (.aload_n 1, 1) := by decide +kernel
theorem dL_law_585 : decode cL_law 585 = .ok (.invokevirtual 89, 3) := by decide +kernel
theorem dL_law_588 : decode cL_law 588 = .ok (.aload_n 2, 1) := by decide +kernel
theorem dL_law_589 : decode cL_law 589 = .ok (.invokevirtual 92, 3) := by decide +kernel
theorem dL_law_592 : decode cL_law 592 = .ok (.if_icmp .eq 77, 3) := by decide +kernel
theorem dL_law_595 : decode cL_law 595 = .ok (.iconst 0, 1) := by decide +kernel
theorem dL_law_596 : decode cL_law 596 = .ok (.ireturn, 1) := by decide +kernel
theorem dL_law_597 : decode cL_law 597 = .ok (.aload_n 1, 1) := by decide +kernel
theorem dL_law_598 : decode cL_law 598 = .ok (.aload_n 0, 1) := by decide +kernel
theorem dL_law_599 : decode cL_law 599 = .ok (.iload_n 3, 1) := by decide +kernel
theorem dL_law_600 : decode cL_law 600 = .ok (.iconst 1, 1) := by decide +kernel
theorem dL_law_601 : decode cL_law 601 = .ok (.iadd, 1) := by decide +kernel
theorem dL_law_602 : decode cL_law 602 = .ok (.iaload, 1) := by decide +kernel
theorem dL_law_603 : decode cL_law 603 = .ok (.invokevirtual 93, 3) := by decide +kernel
theorem dL_law_606 : decode cL_law 606 = .ok (.aload_n 2, 1) := by decide +kernel
theorem dL_law_607 : decode cL_law 607 = .ok (.aload_n 0, 1) := by decide +kernel
theorem dL_law_608 : decode cL_law 608 = .ok (.iload_n 3, 1) := by decide +kernel
theorem dL_law_609 : decode cL_law 609 = .ok (.iconst 1, 1) := by decide +kernel
theorem dL_law_610 : decode cL_law 610 = .ok (.iadd, 1) := by decide +kernel
theorem dL_law_611 : decode cL_law 611 = .ok (.iaload, 1) := by decide +kernel
theorem dL_law_612 : decode cL_law 612 = .ok (.invokevirtual 96, 3) := by decide +kernel
theorem dL_law_615 : decode cL_law 615 = .ok (.if_icmp .eq 54, 3) := by decide +kernel
theorem dL_law_618 : decode cL_law 618 = .ok (.iconst 0, 1) := by decide +kernel
theorem dL_law_619 : decode cL_law 619 = .ok (.ireturn, 1) := by decide +kernel
theorem dL_law_620 : decode cL_law 620 = .ok (.aload_n 1, 1) := by decide +kernel
theorem dL_law_621 : decode cL_law 621 = .ok (.invokevirtual 97, 3) := by decide +kernel
theorem dL_law_624 : decode cL_law 624 = .ok (.aload_n 2, 1) := by decide +kernel
theorem dL_law_625 : decode cL_law 625 = .ok (.invokevirtual 100, 3) := by decide +kernel
theorem dL_law_628 : decode cL_law 628 = .ok (.if_icmp .eq 41, 3) := by decide +kernel
theorem dL_law_631 : decode cL_law 631 = .ok (.iconst 0, 1) := by decide +kernel
theorem dL_law_632 : decode cL_law 632 = .ok (.ireturn, 1) := by decide +kernel
theorem dL_law_633 : decode cL_law 633 = .ok (.aload_n 1, 1) := by decide +kernel
theorem dL_law_634 : decode cL_law 634 = .ok (.aload_n 0, 1) := by decide +kernel
theorem dL_law_635 : decode cL_law 635 = .ok (.iload_n 3, 1) := by decide +kernel
theorem dL_law_636 : decode cL_law 636 = .ok (.iconst 1, 1) := by decide +kernel
theorem dL_law_637 : decode cL_law 637 = .ok (.iadd, 1) := by decide +kernel
theorem dL_law_638 : decode cL_law 638 = .ok (.iaload, 1) := by decide +kernel
theorem dL_law_639 : decode cL_law 639 = .ok (.invokevirtual 101, 3) := by decide +kernel
theorem dL_law_642 : decode cL_law 642 = .ok (.aload_n 2, 1) := by decide +kernel
theorem dL_law_643 : decode cL_law 643 = .ok (.aload_n 0, 1) := by decide +kernel
theorem dL_law_644 : decode cL_law 644 = .ok (.iload_n 3, 1) := by decide +kernel
theorem dL_law_645 : decode cL_law 645 = .ok (.iconst 1, 1) := by decide +kernel
theorem dL_law_646 : decode cL_law 646 = .ok (.iadd, 1) := by decide +kernel
theorem dL_law_647 : decode cL_law 647 = .ok (.iaload, 1) := by decide +kernel
theorem dL_law_648 : decode cL_law 648 = .ok (.invokevirtual 104, 3) := by decide +kernel
theorem dL_law_651 : decode cL_law 651 = .ok (.if_icmp .eq 18, 3) := by decide +kernel
theorem dL_law_654 : decode cL_law 654 = .ok (.iconst 0, 1) := by decide +kernel
theorem dL_law_655 : decode cL_law 655 = .ok (.ireturn, 1) := by decide +kernel
theorem dL_law_656 : decode cL_law 656 = .ok (.aload_n 1, 1) := by decide +kernel
theorem dL_law_657 : decode cL_law 657 = .ok (.invokevirtual 105, 3) := by decide +kernel
theorem dL_law_660 : decode cL_law 660 = .ok (.aload_n 2, 1) := by decide +kernel
theorem dL_law_661 : decode cL_law 661 = .ok (.invokevirtual 108, 3) := by decide +kernel
theorem dL_law_664 : decode cL_law 664 = .ok (.if_icmp .eq 5, 3) := by decide +kernel
theorem dL_law_667 : decode cL_law 667 = .ok (.iconst 0, 1) := by decide +kernel
theorem dL_law_668 : decode cL_law 668 = .ok (.ireturn, 1) := by decide +kernel
theorem dL_law_669 : decode cL_law 669 = .ok (.iinc 3 4, 3) := by decide +kernel
theorem dL_law_672 : decode cL_law 672 = .ok (.goto (-654), 3) := by decide +kernel
theorem dL_law_675 : decode cL_law 675 = .ok (.iconst 1, 1) := by decide +kernel
theorem dL_law_676 : decode cL_law 676 = .ok (.ireturn, 1) := by decide +kernel
abbrev vwCl : List vw_C := [(RX0, TX0, 1), (RX1, TX1, 6), (RX2, TX2, 2), (RX3, TX3, 6), (RX4, TX4, 7), (RX5, TX5, 4), (RX6, TX6, 5), (RX7, TX7, 11), (RX8, TX8, 24)]


theorem dX8_init_0 : decode cX8_init 0 = .ok (.aload_n 0, 1) := by decide +kernel
theorem dX8_init_1 : decode cX8_init 1 = .ok (.invokespecial 1, 3) := by decide +kernel
theorem dX8_init_4 : decode cX8_init 4 = .ok (.aload_n 0, 1) := by decide +kernel
theorem dX8_init_5 : decode cX8_init 5 = .ok (.bipush 114, 2) := by decide +kernel
theorem dX8_init_7 : decode cX8_init 7 = .ok (.newarray .int, 2) := by decide +kernel
theorem dX8_init_9 : decode cX8_init 9 = .ok (.putfield 7, 3) := by decide +kernel
theorem dX8_init_12 : decode cX8_init 12 = .ok (.aload_n 0, 1) := by decide +kernel
theorem dX8_init_13 : decode cX8_init 13 = .ok (.bipush 114, 2) := by decide +kernel
theorem dX8_init_15 : decode cX8_init 15 = .ok (.newarray .int, 2) := by decide +kernel
theorem dX8_init_17 : decode cX8_init 17 = .ok (.putfield 13, 3) := by decide +kernel
theorem dX8_init_20 : decode cX8_init 20 = .ok (.aload_n 0, 1) := by decide +kernel
theorem dX8_init_21 : decode cX8_init 21 = .ok (.bipush 114, 2) := by decide +kernel
theorem dX8_init_23 : decode cX8_init 23 = .ok (.newarray .int, 2) := by decide +kernel
theorem dX8_init_25 : decode cX8_init 25 = .ok (.putfield 16, 3) := by decide +kernel
theorem dX8_init_28 : decode cX8_init 28 = .ok (.aload_n 0, 1) := by decide +kernel
theorem dX8_init_29 : decode cX8_init 29 = .ok (.sipush 456, 3) := by decide +kernel
theorem dX8_init_32 : decode cX8_init 32 = .ok (.newarray .int, 2) := by decide +kernel
theorem dX8_init_34 : decode cX8_init 34 = .ok (.putfield 19, 3) := by decide +kernel
theorem dX8_init_37 : decode cX8_init 37 = .ok (.aload_n 0, 1) := by decide +kernel
theorem dX8_init_38 : decode cX8_init 38 = .ok (.bipush 60, 2) := by decide +kernel
theorem dX8_init_40 : decode cX8_init 40 = .ok (.newarray .int, 2) := by decide +kernel
theorem dX8_init_42 : decode cX8_init 42 = .ok (.putfield 22, 3) := by decide +kernel
theorem dX8_init_45 : decode cX8_init 45 = .ok (.aload_n 0, 1) := by decide +kernel
theorem dX8_init_46 : decode cX8_init 46 = .ok (.bipush 36, 2) := by decide +kernel
theorem dX8_init_48 : decode cX8_init 48 = .ok (.newarray .int, 2) := by decide +kernel
theorem dX8_init_50 : decode cX8_init 50 = .ok (.putfield 25, 3) := by decide +kernel
theorem dX8_init_53 : decode cX8_init 53 = .ok (.aload_n 0, 1) := by decide +kernel
theorem dX8_init_54 : decode cX8_init 54 = .ok (.bipush 36, 2) := by decide +kernel
theorem dX8_init_56 : decode cX8_init 56 = .ok (.newarray .int, 2) := by decide +kernel
theorem dX8_init_58 : decode cX8_init 58 = .ok (.putfield 28, 3) := by decide +kernel
theorem dX8_init_61 : decode cX8_init 61 = .ok (.aload_n 0, 1) := by decide +kernel
theorem dX8_init_62 : decode cX8_init 62 = .ok (.bipush 36, 2) := by decide +kernel
theorem dX8_init_64 : decode cX8_init 64 = .ok (.newarray .boolean, 2) := by decide +kernel
theorem dX8_init_66 : decode cX8_init 66 = .ok (.putfield 31, 3) := by decide +kernel
theorem dX8_init_69 : decode cX8_init 69 = .ok (.aload_n 0, 1) := by decide +kernel
theorem dX8_init_70 : decode cX8_init 70 = .ok (.bipush 36, 2) := by decide +kernel
theorem dX8_init_72 : decode cX8_init 72 = .ok (.newarray .int, 2) := by decide +kernel
theorem dX8_init_74 : decode cX8_init 74 = .ok (.putfield 35, 3) := by decide +kernel
theorem dX8_init_77 : decode cX8_init 77 = .ok (.aload_n 0, 1) := by decide +kernel
theorem dX8_init_78 : decode cX8_init 78 = .ok (.bipush 36, 2) := by decide +kernel
theorem dX8_init_80 : decode cX8_init 80 = .ok (.newarray .int, 2) := by decide +kernel
theorem dX8_init_82 : decode cX8_init 82 = .ok (.putfield 38, 3) := by decide +kernel
theorem dX8_init_85 : decode cX8_init 85 = .ok (.aload_n 0, 1) := by decide +kernel
theorem dX8_init_86 : decode cX8_init 86 = .ok (.sipush 144, 3) := by decide +kernel
theorem dX8_init_89 : decode cX8_init 89 = .ok (.newarray .boolean, 2) := by decide +kernel
theorem dX8_init_91 : decode cX8_init 91 = .ok (.putfield 41, 3) := by decide +kernel
theorem dX8_init_94 : decode cX8_init 94 = .ok (.aload_n 0, 1) := by decide +kernel
theorem dX8_init_95 : decode cX8_init 95 = .ok (.bipush 36, 2) := by decide +kernel
theorem dX8_init_97 : decode cX8_init 97 = .ok (.newarray .boolean, 2) := by decide +kernel
theorem dX8_init_99 : decode cX8_init 99 = .ok (.putfield 44, 3) := by decide +kernel
theorem dX8_init_102 : decode cX8_init 102 = .ok (.aload_n 0, 1) := by decide +kernel
theorem dX8_init_103 : decode cX8_init 103 = .ok (.iconst 4, 1) := by decide +kernel
theorem dX8_init_104 : decode cX8_init 104 = .ok (.iconst 4, 1) := by decide +kernel
theorem dX8_init_105 : decode cX8_init 105 = .ok (.invokevirtual 47, 3) := by decide +kernel
theorem dX8_init_108 : decode cX8_init 108 = .ok (.return_, 1) := by decide +kernel
theorem dX8_in_0 : decode cX8_in 0 = .ok (.iload_n 0, 1) := by decide +kernel
theorem dX8_in_1 : decode cX8_in 1 = .ok (.iload_n 1, 1) := by decide +kernel
theorem dX8_in_2 : decode cX8_in 2 = .ok (.if_icmp .lt 12, 3) := by decide +kernel
theorem dX8_in_5 : decode cX8_in 5 = .ok (.iload_n 0, 1) := by decide +kernel
theorem dX8_in_6 : decode cX8_in 6 = .ok (.iload_n 2, 1) := by decide +kernel
theorem dX8_in_7 : decode cX8_in 7 = .ok (.if_icmp .gt 7, 3) := by decide +kernel
theorem dX8_in_10 : decode cX8_in 10 = .ok (.iconst 1, 1) := by decide +kernel
theorem dX8_in_11 : decode cX8_in 11 = .ok (.goto 4, 3) := by decide +kernel
theorem dX8_in_14 : decode cX8_in 14 = .ok (.iconst 0, 1) := by decide +kernel
theorem dX8_in_15 : decode cX8_in 15 = .ok (.ireturn, 1) := by decide +kernel
theorem dX8_begins_0 : decode cX8_begins 0 = .ok (.iconst 0, 1) := by decide +kernel
theorem dX8_begins_1 : decode cX8_begins 1 = .ok (.istore_n 1, 1) := by decide +kernel
theorem dX8_begins_2 : decode cX8_begins 2 = .ok (.iload_n 1, 1) := by decide +kernel
theorem dX8_begins_3 : decode cX8_begins 3 = .ok (.bipush 114, 2) := by decide +kernel
theorem dX8_begins_5 : decode cX8_begins 5 = .ok (.if_icmp .ge 21, 3) := by decide +kernel
theorem dX8_begins_8 : decode cX8_begins 8 = .ok (.aload_n 0, 1) := by decide +kernel
theorem dX8_begins_9 : decode cX8_begins 9 = .ok (.getfield 13, 3) := by decide +kernel
theorem dX8_begins_12 : decode cX8_begins 12 = .ok (.iload_n 1, 1) := by decide +kernel
theorem dX8_begins_13 : decode cX8_begins 13 = .ok (.aload_n 0, 1) := by decide +kernel
theorem dX8_begins_14 : decode cX8_begins 14 = .ok (.getfield 7, 3) := by decide +kernel
theorem dX8_begins_17 : decode cX8_begins 17 = .ok (.iload_n 1, 1) := by decide +kernel
theorem dX8_begins_18 : decode cX8_begins 18 = .ok (.iaload, 1) := by decide +kernel
theorem dX8_begins_19 : decode cX8_begins 19 = .ok (.iastore, 1) := by decide +kernel
theorem dX8_begins_20 : decode cX8_begins 20 = .ok (.iinc 1 1, 3) := by decide +kernel
theorem dX8_begins_23 : decode cX8_begins 23 = .ok (.goto (-21), 3) := by decide +kernel
theorem dX8_begins_26 : decode cX8_begins 26 = .ok (.return_, 1) := by decide +kernel
theorem dX8_acted_0 : decode cX8_acted 0 = .ok (.iload_n 1, 1) := by decide +kernel
theorem dX8_acted_1 : decode cX8_acted 1 = .ok (.ifCond .ge 31, 3) := by decide +kernel
theorem dX8_acted_4 : decode cX8_acted 4 = .ok (.iconst 0, 1) := by decide +kernel
theorem dX8_acted_5 : decode cX8_acted 5 = .ok (.istore_n 2, 1) := by decide +kernel
theorem dX8_acted_6 : decode cX8_acted 6 = .ok (.iload_n 2, 1) := by decide +kernel
theorem dX8_acted_7 : decode cX8_acted 7 = .ok (.bipush 114, 2) := by decide +kernel
theorem dX8_acted_9 : decode cX8_acted 9 = .ok (.if_icmp .ge 21, 3) := by decide +kernel
theorem dX8_acted_12 : decode cX8_acted 12 = .ok (.aload_n 0, 1) := by decide +kernel
theorem dX8_acted_13 : decode cX8_acted 13 = .ok (.getfield 7, 3) := by decide +kernel
theorem dX8_acted_16 : decode cX8_acted 16 = .ok (.iload_n 2, 1) := by decide +kernel
theorem dX8_acted_17 : decode cX8_acted 17 = .ok (.aload_n 0, 1) := by decide +kernel
theorem dX8_acted_18 : decode cX8_acted 18 = .ok (.getfield 13, 3) := by decide +kernel
theorem dX8_acted_21 : decode cX8_acted 21 = .ok (.iload_n 2, 1) := by decide +kernel
theorem dX8_acted_22 : decode cX8_acted 22 = .ok (.iaload, 1) := by decide +kernel
theorem dX8_acted_23 : decode cX8_acted 23 = .ok (.iastore, 1) := by decide +kernel
theorem dX8_acted_24 : decode cX8_acted 24 = .ok (.iinc 2 1, 3) := by decide +kernel
theorem dX8_acted_27 : decode cX8_acted 27 = .ok (.goto (-21), 3) := by decide +kernel
theorem dX8_acted_30 : decode cX8_acted 30 = .ok (.iload_n 1, 1) := by decide +kernel
theorem dX8_acted_31 : decode cX8_acted 31 = .ok (.ireturn, 1) := by decide +kernel
theorem dX8_acted_32 : decode cX8_acted 32 = .ok (.aload_n 0, 1) := by decide +kernel
theorem dX8_acted_33 : decode cX8_acted 33 = .ok (.getfield 51, 3) := by decide +kernel
theorem dX8_acted_36 : decode cX8_acted 36 = .ok (.iconst 4, 1) := by decide +kernel
theorem dX8_acted_37 : decode cX8_acted 37 = .ok (.if_icmp .ne 43, 3) := by decide +kernel
theorem dX8_acted_40 : decode cX8_acted 40 = .ok (.iconst 0, 1) := by decide +kernel
theorem dX8_acted_41 : decode cX8_acted 41 = .ok (.istore_n 2, 1) := by decide +kernel
theorem dX8_acted_42 : decode cX8_acted 42 = .ok (.iload_n 2, 1) := by decide +kernel
theorem dX8_acted_43 : decode cX8_acted 43 = .ok (.sipush 342, 3) := by decide +kernel
theorem dX8_acted_46 : decode cX8_acted 46 = .ok (.if_icmp .ge 24, 3) := by decide +kernel
theorem dX8_acted_49 : decode cX8_acted 49 = .ok (.aload_n 0, 1) := by decide +kernel
theorem dX8_acted_50 : decode cX8_acted 50 = .ok (.getfield 19, 3) := by decide +kernel
theorem dX8_acted_53 : decode cX8_acted 53 = .ok (.iload_n 2, 1) := by decide +kernel
theorem dX8_acted_54 : decode cX8_acted 54 = .ok (.aload_n 0, 1) := by decide +kernel
theorem dX8_acted_55 : decode cX8_acted 55 = .ok (.getfield 19, 3) := by decide +kernel
theorem dX8_acted_58 : decode cX8_acted 58 = .ok (.iload_n 2, 1) := by decide +kernel
theorem dX8_acted_59 : decode cX8_acted 59 = .ok (.bipush 114, 2) := by decide +kernel
theorem dX8_acted_61 : decode cX8_acted 61 = .ok (.iadd, 1) := by decide +kernel
theorem dX8_acted_62 : decode cX8_acted 62 = .ok (.iaload, 1) := by decide +kernel
theorem dX8_acted_63 : decode cX8_acted 63 = .ok (.iastore, 1) := by decide +kernel
theorem dX8_acted_64 : decode cX8_acted 64 = .ok (.iinc 2 1, 3) := by decide +kernel
theorem dX8_acted_67 : decode cX8_acted 67 = .ok (.goto (-25), 3) := by decide +kernel
theorem dX8_acted_70 : decode cX8_acted 70 = .ok (.aload_n 0, 1) := by decide +kernel
theorem dX8_acted_71 : decode cX8_acted 71 = .ok (.dup, 1) := by decide +kernel
theorem dX8_acted_72 : decode cX8_acted 72 = .ok (.getfield 51, 3) := by decide +kernel
theorem dX8_acted_75 : decode cX8_acted 75 = .ok (.iconst 1, 1) := by decide +kernel
theorem dX8_acted_76 : decode cX8_acted 76 = .ok (.isub, 1) := by decide +kernel
theorem dX8_acted_77 : decode cX8_acted 77 = .ok (.putfield 51, 3) := by decide +kernel
theorem dX8_acted_80 : decode cX8_acted 80 = .ok (.iconst 0, 1) := by decide +kernel
theorem dX8_acted_81 : decode cX8_acted 81 = .ok (.istore_n 2, 1) := by decide +kernel
theorem dX8_acted_82 : decode cX8_acted 82 = .ok (.iload_n 2, 1) := by decide +kernel
theorem dX8_acted_83 : decode cX8_acted 83 = .ok (.bipush 114, 2) := by decide +kernel
theorem dX8_acted_85 : decode cX8_acted 85 = .ok (.if_icmp .ge 29, 3) := by decide +kernel
theorem dX8_acted_88 : decode cX8_acted 88 = .ok (.aload_n 0, 1) := by decide +kernel
theorem dX8_acted_89 : decode cX8_acted 89 = .ok (.getfield 19, 3) := by decide +kernel
theorem dX8_acted_92 : decode cX8_acted 92 = .ok (.bipush 114, 2) := by decide +kernel
theorem dX8_acted_94 : decode cX8_acted 94 = .ok (.aload_n 0, 1) := by decide +kernel
theorem dX8_acted_95 : decode cX8_acted 95 = .ok (.getfield 51, 3) := by decide +kernel
theorem dX8_acted_98 : decode cX8_acted 98 = .ok (.imul, 1) := by decide +kernel
theorem dX8_acted_99 : decode cX8_acted 99 = .ok (.iload_n 2, 1) := by decide +kernel
theorem dX8_acted_100 : decode cX8_acted 100 = .ok (.iadd, 1) := by decide +kernel
theorem dX8_acted_101 : decode cX8_acted 101 = .ok (.aload_n 0, 1) := by decide +kernel
theorem dX8_acted_102 : decode cX8_acted 102 = .ok (.getfield 13, 3) := by decide +kernel
theorem dX8_acted_105 : decode cX8_acted 105 = .ok (.iload_n 2, 1) := by decide +kernel
theorem dX8_acted_106 : decode cX8_acted 106 = .ok (.iaload, 1) := by decide +kernel
theorem dX8_acted_107 : decode cX8_acted 107 = .ok (.iastore, 1) := by decide +kernel
theorem dX8_acted_108 : decode cX8_acted 108 = .ok (.iinc 2 1, 3) := by decide +kernel
theorem dX8_acted_111 : decode cX8_acted 111 = .ok (.goto (-29), 3) := by decide +kernel
theorem dX8_acted_114 : decode cX8_acted 114 = .ok (.aload_n 0, 1) := by decide +kernel
theorem dX8_acted_115 : decode cX8_acted 115 = .ok (.dup, 1) := by decide +kernel
theorem dX8_acted_116 : decode cX8_acted 116 = .ok (.getfield 51, 3) := by decide +kernel
theorem dX8_acted_119 : decode cX8_acted 119 = .ok (.iconst 1, 1) := by decide +kernel
theorem dX8_acted_120 : decode cX8_acted 120 = .ok (.iadd, 1) := by decide +kernel
theorem dX8_acted_121 : decode cX8_acted 121 = .ok (.putfield 51, 3) := by decide +kernel
theorem dX8_acted_124 : decode cX8_acted 124 = .ok (.iload_n 1, 1) := by decide +kernel
theorem dX8_acted_125 : decode cX8_acted 125 = .ok (.ireturn, 1) := by decide +kernel
theorem dX8_lightens_0 : decode cX8_lightens 0 = .ok (.iconst 0, 1) := by decide +kernel
theorem dX8_lightens_1 : decode cX8_lightens 1 = .ok (.istore_n 3, 1) := by decide +kernel
theorem dX8_lightens_2 : decode cX8_lightens 2 = .ok (.iload_n 3, 1) := by decide +kernel
theorem dX8_lightens_3 : decode cX8_lightens 3 = .ok (.bipush 114, 2) := by decide +kernel
theorem dX8_lightens_5 : decode cX8_lightens 5 = .ok (.if_icmp .ge 16, 3) := by decide +kernel
theorem dX8_lightens_8 : decode cX8_lightens 8 = .ok (.aload_n 0, 1) := by decide +kernel
theorem dX8_lightens_9 : decode cX8_lightens 9 = .ok (.getfield 7, 3) := by decide +kernel
theorem dX8_lightens_12 : decode cX8_lightens 12 = .ok (.iload_n 3, 1) := by decide +kernel
theorem dX8_lightens_13 : decode cX8_lightens 13 = .ok (.iconst 0, 1) := by decide +kernel
theorem dX8_lightens_14 : decode cX8_lightens 14 = .ok (.iastore, 1) := by decide +kernel
theorem dX8_lightens_15 : decode cX8_lightens 15 = .ok (.iinc 3 1, 3) := by decide +kernel
theorem dX8_lightens_18 : decode cX8_lightens 18 = .ok (.goto (-16), 3) := by decide +kernel
theorem dX8_lightens_21 : decode cX8_lightens 21 = .ok (.aload_n 0, 1) := by decide +kernel
theorem dX8_lightens_22 : decode cX8_lightens 22 = .ok (.getfield 7, 3) := by decide +kernel
theorem dX8_lightens_25 : decode cX8_lightens 25 = .ok (.iconst 0, 1) := by decide +kernel
theorem dX8_lightens_26 : decode cX8_lightens 26 = .ok (.iload_n 1, 1) := by decide +kernel
theorem dX8_lightens_27 : decode cX8_lightens 27 = .ok (.iastore, 1) := by decide +kernel
theorem dX8_lightens_28 : decode cX8_lightens 28 = .ok (.aload_n 0, 1) := by decide +kernel
theorem dX8_lightens_29 : decode cX8_lightens 29 = .ok (.getfield 7, 3) := by decide +kernel
theorem dX8_lightens_32 : decode cX8_lightens 32 = .ok (.iconst 1, 1) := by decide +kernel
theorem dX8_lightens_33 : decode cX8_lightens 33 = .ok (.iload_n 2, 1) := by decide +kernel
theorem dX8_lightens_34 : decode cX8_lightens 34 = .ok (.iastore, 1) := by decide +kernel
theorem dX8_lightens_35 : decode cX8_lightens 35 = .ok (.aload_n 0, 1) := by decide +kernel
theorem dX8_lightens_36 : decode cX8_lightens 36 = .ok (.getfield 7, 3) := by decide +kernel
theorem dX8_lightens_39 : decode cX8_lightens 39 = .ok (.iconst 3, 1) := by decide +kernel
theorem dX8_lightens_40 : decode cX8_lightens 40 = .ok (.iconst 3, 1) := by decide +kernel
theorem dX8_lightens_41 : decode cX8_lightens 41 = .ok (.iastore, 1) := by decide +kernel
theorem dX8_lightens_42 : decode cX8_lightens 42 = .ok (.aload_n 0, 1) := by decide +kernel
theorem dX8_lightens_43 : decode cX8_lightens 43 = .ok (.getfield 7, 3) := by decide +kernel
theorem dX8_lightens_46 : decode cX8_lightens 46 = .ok (.iconst 4, 1) := by decide +kernel
theorem dX8_lightens_47 : decode cX8_lightens 47 = .ok (.iload_n 1, 1) := by decide +kernel
theorem dX8_lightens_48 : decode cX8_lightens 48 = .ok (.iload_n 2, 1) := by decide +kernel
theorem dX8_lightens_49 : decode cX8_lightens 49 = .ok (.imul, 1) := by decide +kernel
theorem dX8_lightens_50 : decode cX8_lightens 50 = .ok (.iconst 1, 1) := by decide +kernel
theorem dX8_lightens_51 : decode cX8_lightens 51 = .ok (.isub, 1) := by decide +kernel
theorem dX8_lightens_52 : decode cX8_lightens 52 = .ok (.iastore, 1) := by decide +kernel
theorem dX8_lightens_53 : decode cX8_lightens 53 = .ok (.aload_n 0, 1) := by decide +kernel
theorem dX8_lightens_54 : decode cX8_lightens 54 = .ok (.getfield 7, 3) := by decide +kernel
theorem dX8_lightens_57 : decode cX8_lightens 57 = .ok (.iconst 5, 1) := by decide +kernel
theorem dX8_lightens_58 : decode cX8_lightens 58 = .ok (.iconst 1, 1) := by decide +kernel
theorem dX8_lightens_59 : decode cX8_lightens 59 = .ok (.iastore, 1) := by decide +kernel
theorem dX8_lightens_60 : decode cX8_lightens 60 = .ok (.return_, 1) := by decide +kernel
theorem dX8_cells_0 : decode cX8_cells 0 = .ok (.aload_n 0, 1) := by decide +kernel
theorem dX8_cells_1 : decode cX8_cells 1 = .ok (.getfield 7, 3) := by decide +kernel
theorem dX8_cells_4 : decode cX8_cells 4 = .ok (.iconst 0, 1) := by decide +kernel
theorem dX8_cells_5 : decode cX8_cells 5 = .ok (.iaload, 1) := by decide +kernel
theorem dX8_cells_6 : decode cX8_cells 6 = .ok (.aload_n 0, 1) := by decide +kernel
theorem dX8_cells_7 : decode cX8_cells 7 = .ok (.getfield 7, 3) := by decide +kernel
theorem dX8_cells_10 : decode cX8_cells 10 = .ok (.iconst 1, 1) := by decide +kernel
theorem dX8_cells_11 : decode cX8_cells 11 = .ok (.iaload, 1) := by decide +kernel
theorem dX8_cells_12 : decode cX8_cells 12 = .ok (.imul, 1) := by decide +kernel
theorem dX8_cells_13 : decode cX8_cells 13 = .ok (.ireturn, 1) := by decide +kernel
set_option maxRecDepth 20000 in
theorem ggX8_isCell_X8_cells : GoodIn wsX8_isCell wsX8_cells := goodIn_r _ [5, 6, 10, 11, 12, 13, 14, 15, 16, 17, 18, 19, 20, 21, 22, 23, 24, 25, 26, 27, 28, 29, 30, 31, 32, 33] (by decide +kernel) (by decide +kernel)
set_option maxRecDepth 20000 in
theorem gX8_isCell_X8_cells : GoodIn wsX8_isCell (wsV RX8 55 RX8 yX8_cells wsX8_cells) := goodIn_app (goodIn_of _ (by decide +kernel)) ggX8_isCell_X8_cells
set_option maxRecDepth 20000 in
theorem ggX8_isCell_X8_in : GoodIn wsX8_isCell wsX8_in := goodIn_r _ [9] (by decide +kernel) (by decide +kernel)
set_option maxRecDepth 20000 in
theorem gX8_isCell_X8_in : GoodIn wsX8_isCell (va_wsS RX8 59 yX8_in wsX8_in) := goodIn_app (goodIn_of _ (by decide +kernel)) ggX8_isCell_X8_in
theorem dX8_isCell_0 : decode cX8_isCell 0 = .ok (.iload_n 1, 1) := by decide +kernel
theorem dX8_isCell_1 : decode cX8_isCell 1 = .ok (.iconst 0, 1) := by decide +kernel
theorem dX8_isCell_2 : decode cX8_isCell 2 = .ok (.aload_n 0, 1) := by decide +kernel
theorem dX8_isCell_3 : decode cX8_isCell 3 = .ok (.invokevirtual 55, 3) := by decide +kernel
theorem dX8_isCell_6 : decode cX8_isCell 6 = .ok (.iconst 1, 1) := by decide +kernel
theorem dX8_isCell_7 : decode cX8_isCell 7 = .ok (.isub, 1) := by decide +kernel
theorem dX8_isCell_8 : decode cX8_isCell 8 = .ok (.invokestatic 59, 3) := by decide +kernel
theorem dX8_isCell_11 : decode cX8_isCell 11 = .ok (.ireturn, 1) := by decide +kernel
theorem dX8_besides_0 : decode cX8_besides 0 = .ok (.iload_n 1, 1) := by decide +kernel
theorem dX8_besides_1 : decode cX8_besides 1 = .ok (.aload_n 0, 1) := by decide +kernel
theorem dX8_besides_2 : decode cX8_besides 2 = .ok (.getfield 7, 3) := by decide +kernel
theorem dX8_besides_5 : decode cX8_besides 5 = .ok (.iconst 0, 1) := by decide +kernel
theorem dX8_besides_6 : decode cX8_besides 6 = .ok (.iaload, 1) := by decide +kernel
theorem dX8_besides_7 : decode cX8_besides 7 = .ok (.irem, 1) := by decide +kernel
theorem dX8_besides_8 : decode cX8_besides 8 = .ok (.istore_n 3, 1) := by decide +kernel
theorem dX8_besides_9 : decode cX8_besides 9 = .ok (.iload_n 1, 1) := by decide +kernel
theorem dX8_besides_10 : decode cX8_besides 10 = .ok (.aload_n 0, 1) := by decide +kernel
theorem dX8_besides_11 : decode cX8_besides 11 = .ok (.getfield 7, 3) := by decide +kernel
theorem dX8_besides_14 : decode cX8_besides 14 = .ok (.iconst 0, 1) := by decide +kernel
theorem dX8_besides_15 : decode cX8_besides 15 = .ok (.iaload, 1) := by decide +kernel
theorem dX8_besides_16 : decode cX8_besides 16 = .ok (.idiv, 1) := by decide +kernel
theorem dX8_besides_17 : decode cX8_besides 17 = .ok (.istore 4, 2) := by decide +kernel
theorem dX8_besides_19 : decode cX8_besides 19 = .ok (.iload_n 2, 1) := by decide +kernel
theorem dX8_besides_20 : decode cX8_besides 20 = .ok (.tableswitch 92 0 2 #[28, 46, 66], 28) := by decide +kernel
theorem dX8_besides_48 : decode cX8_besides 48 = .ok (.iload 4, 2) := by decide +kernel
theorem dX8_besides_50 : decode cX8_besides 50 = .ok (.ifCond .le 14, 3) := by decide +kernel
theorem dX8_besides_53 : decode cX8_besides 53 = .ok (.iload_n 1, 1) := by decide +kernel
theorem dX8_besides_54 : decode cX8_besides 54 = .ok (.aload_n 0, 1) := by decide +kernel
theorem dX8_besides_55 : decode cX8_besides 55 = .ok (.getfield 7, 3) := by decide +kernel
theorem dX8_besides_58 : decode cX8_besides 58 = .ok (.iconst 0, 1) := by decide +kernel
theorem dX8_besides_59 : decode cX8_besides 59 = .ok (.iaload, 1) := by decide +kernel
theorem dX8_besides_60 : decode cX8_besides 60 = .ok (.isub, 1) := by decide +kernel
theorem dX8_besides_61 : decode cX8_besides 61 = .ok (.goto 4, 3) := by decide +kernel
theorem dX8_besides_64 : decode cX8_besides 64 = .ok (.iconst (-1), 1) := by decide +kernel
theorem dX8_besides_65 : decode cX8_besides 65 = .ok (.ireturn, 1) := by decide +kernel
theorem dX8_besides_66 : decode cX8_besides 66 = .ok (.iload_n 3, 1) := by decide +kernel
theorem dX8_besides_67 : decode cX8_besides 67 = .ok (.iconst 1, 1) := by decide +kernel
theorem dX8_besides_68 : decode cX8_besides 68 = .ok (.iadd, 1) := by decide +kernel
theorem dX8_besides_69 : decode cX8_besides 69 = .ok (.aload_n 0, 1) := by decide +kernel
theorem dX8_besides_70 : decode cX8_besides 70 = .ok (.getfield 7, 3) := by decide +kernel
theorem dX8_besides_73 : decode cX8_besides 73 = .ok (.iconst 0, 1) := by decide +kernel
theorem dX8_besides_74 : decode cX8_besides 74 = .ok (.iaload, 1) := by decide +kernel
theorem dX8_besides_75 : decode cX8_besides 75 = .ok (.if_icmp .ge 9, 3) := by decide +kernel
theorem dX8_besides_78 : decode cX8_besides 78 = .ok (.iload_n 1, 1) := by decide +kernel
theorem dX8_besides_79 : decode cX8_besides 79 = .ok (.iconst 1, 1) := by decide +kernel
theorem dX8_besides_80 : decode cX8_besides 80 = .ok (.iadd, 1) := by decide +kernel
theorem dX8_besides_81 : decode cX8_besides 81 = .ok (.goto 4, 3) := by decide +kernel
theorem dX8_besides_84 : decode cX8_besides 84 = .ok (.iconst (-1), 1) := by decide +kernel
theorem dX8_besides_85 : decode cX8_besides 85 = .ok (.ireturn, 1) := by decide +kernel
theorem dX8_besides_86 : decode cX8_besides 86 = .ok (.iload 4, 2) := by decide +kernel
theorem dX8_besides_88 : decode cX8_besides 88 = .ok (.iconst 1, 1) := by decide +kernel
theorem dX8_besides_89 : decode cX8_besides 89 = .ok (.iadd, 1) := by decide +kernel
theorem dX8_besides_90 : decode cX8_besides 90 = .ok (.aload_n 0, 1) := by decide +kernel
theorem dX8_besides_91 : decode cX8_besides 91 = .ok (.getfield 7, 3) := by decide +kernel
theorem dX8_besides_94 : decode cX8_besides 94 = .ok (.iconst 1, 1) := by decide +kernel
theorem dX8_besides_95 : decode cX8_besides 95 = .ok (.iaload, 1) := by decide +kernel
theorem dX8_besides_96 : decode cX8_besides 96 = .ok (.if_icmp .ge 14, 3) := by decide +kernel
theorem dX8_besides_99 : decode cX8_besides 99 = .ok (.iload_n 1, 1) := by decide +kernel
theorem dX8_besides_100 : decode cX8_besides 100 = .ok (.aload_n 0, 1) := by decide +kernel
theorem dX8_besides_101 : decode cX8_besides 101 = .ok (.getfield 7, 3) := by decide +kernel
theorem dX8_besides_104 : decode cX8_besides 104 = .ok (.iconst 0, 1) := by decide +kernel
theorem dX8_besides_105 : decode cX8_besides 105 = .ok (.iaload, 1) := by decide +kernel
theorem dX8_besides_106 : decode cX8_besides 106 = .ok (.iadd, 1) := by decide +kernel
theorem dX8_besides_107 : decode cX8_besides 107 = .ok (.goto 4, 3) := by decide +kernel
theorem dX8_besides_110 : decode cX8_besides 110 = .ok (.iconst (-1), 1) := by decide +kernel
theorem dX8_besides_111 : decode cX8_besides 111 = .ok (.ireturn, 1) := by decide +kernel
theorem dX8_besides_112 : decode cX8_besides 112 = .ok (.iload_n 3, 1) := by decide +kernel
theorem dX8_besides_113 : decode cX8_besides 113 = .ok (.ifCond .le 9, 3) := by decide +kernel
theorem dX8_besides_116 : decode cX8_besides 116 = .ok (.iload_n 1, 1) := by decide +kernel
theorem dX8_besides_117 : decode cX8_besides 117 = .ok (.iconst 1, 1) := by decide +kernel
theorem dX8_besides_118 : decode cX8_besides 118 = .ok (.isub, 1) := by decide +kernel
theorem dX8_besides_119 : decode cX8_besides 119 = .ok (.goto 4, 3) := by decide +kernel
theorem dX8_besides_122 : decode cX8_besides 122 = .ok (.iconst (-1), 1) := by decide +kernel
theorem dX8_besides_123 : decode cX8_besides 123 = .ok (.ireturn, 1) := by decide +kernel
set_option maxRecDepth 20000 in
theorem ggX8_numberOf_X8_besides : GoodIn wsX8_numberOf wsX8_besides := goodIn_r _ [5, 6, 7, 8, 9, 10, 11, 12, 13, 14, 15, 16, 17, 18, 19, 20, 21, 22, 23, 24, 25, 26, 27, 28, 29, 30] (by decide +kernel) (by decide +kernel)
set_option maxRecDepth 20000 in
theorem gX8_numberOf_X8_besides : GoodIn wsX8_numberOf (wsV RX8 63 RX8 yX8_besides wsX8_besides) := goodIn_app (goodIn_of _ (by decide +kernel)) ggX8_numberOf_X8_besides
theorem dX8_numberOf_0 : decode cX8_numberOf 0 = .ok (.aload_n 0, 1) := by decide +kernel
theorem dX8_numberOf_1 : decode cX8_numberOf 1 = .ok (.iload_n 1, 1) := by decide +kernel
theorem dX8_numberOf_2 : decode cX8_numberOf 2 = .ok (.iload_n 2, 1) := by decide +kernel
theorem dX8_numberOf_3 : decode cX8_numberOf 3 = .ok (.invokevirtual 63, 3) := by decide +kernel
theorem dX8_numberOf_6 : decode cX8_numberOf 6 = .ok (.istore_n 3, 1) := by decide +kernel
theorem dX8_numberOf_7 : decode cX8_numberOf 7 = .ok (.iconst 2, 1) := by decide +kernel
theorem dX8_numberOf_8 : decode cX8_numberOf 8 = .ok (.iload_n 2, 1) := by decide +kernel
theorem dX8_numberOf_9 : decode cX8_numberOf 9 = .ok (.iconst 1, 1) := by decide +kernel
theorem dX8_numberOf_10 : decode cX8_numberOf 10 = .ok (.if_icmp .eq 8, 3) := by decide +kernel
theorem dX8_numberOf_13 : decode cX8_numberOf 13 = .ok (.iload_n 2, 1) := by decide +kernel
theorem dX8_numberOf_14 : decode cX8_numberOf 14 = .ok (.iconst 2, 1) := by decide +kernel
theorem dX8_numberOf_15 : decode cX8_numberOf 15 = .ok (.if_icmp .ne 7, 3) := by decide +kernel
theorem dX8_numberOf_18 : decode cX8_numberOf 18 = .ok (.iload_n 1, 1) := by decide +kernel
theorem dX8_numberOf_19 : decode cX8_numberOf 19 = .ok (.goto 4, 3) := by decide +kernel
theorem dX8_numberOf_22 : decode cX8_numberOf 22 = .ok (.iload_n 3, 1) := by decide +kernel
theorem dX8_numberOf_23 : decode cX8_numberOf 23 = .ok (.imul, 1) := by decide +kernel
theorem dX8_numberOf_24 : decode cX8_numberOf 24 = .ok (.iload_n 2, 1) := by decide +kernel
theorem dX8_numberOf_25 : decode cX8_numberOf 25 = .ok (.iconst 2, 1) := by decide +kernel
theorem dX8_numberOf_26 : decode cX8_numberOf 26 = .ok (.irem, 1) := by decide +kernel
theorem dX8_numberOf_27 : decode cX8_numberOf 27 = .ok (.ifCond .ne 7, 3) := by decide +kernel
theorem dX8_numberOf_30 : decode cX8_numberOf 30 = .ok (.iconst 1, 1) := by decide +kernel
theorem dX8_numberOf_31 : decode cX8_numberOf 31 = .ok (.goto 4, 3) := by decide +kernel
theorem dX8_numberOf_34 : decode cX8_numberOf 34 = .ok (.iconst 0, 1) := by decide +kernel
theorem dX8_numberOf_35 : decode cX8_numberOf 35 = .ok (.iadd, 1) := by decide +kernel
theorem dX8_numberOf_36 : decode cX8_numberOf 36 = .ok (.ireturn, 1) := by decide +kernel
set_option maxRecDepth 20000 in
theorem ggX8_isOpen_X8_besides : GoodIn wsX8_isOpen wsX8_besides := goodIn_r _ [6, 1, 11, 12, 13, 14, 15, 16, 17, 18, 19, 20, 21, 22, 23, 24, 25, 26, 27, 28, 29, 30, 31, 32, 33, 34] (by decide +kernel) (by decide +kernel)
set_option maxRecDepth 20000 in
theorem gX8_isOpen_X8_besides : GoodIn wsX8_isOpen (wsV RX8 63 RX8 yX8_besides wsX8_besides) := goodIn_app (goodIn_of _ (by decide +kernel)) ggX8_isOpen_X8_besides
set_option maxRecDepth 20000 in
theorem ggX8_isOpen_X8_numberOf : GoodIn wsX8_isOpen wsX8_numberOf := goodIn_r _ [10, 2, 3, 4, 5, 6, 1, 11, 12, 13, 14, 15, 16, 17, 18, 19, 20, 21, 22, 23, 24, 25, 26, 27, 28, 29, 30, 31, 32, 33, 34] (by decide +kernel) (by decide +kernel)
set_option maxRecDepth 20000 in
theorem gX8_isOpen_X8_numberOf : GoodIn wsX8_isOpen (wsV RX8 67 RX8 yX8_numberOf wsX8_numberOf) := goodIn_app (goodIn_of _ (by decide +kernel)) ggX8_isOpen_X8_numberOf
theorem dX8_isOpen_0 : decode cX8_isOpen 0 = .ok (.aload_n 0, 1) := by decide +kernel
theorem dX8_isOpen_1 : decode cX8_isOpen 1 = .ok (.iload_n 1, 1) := by decide +kernel
theorem dX8_isOpen_2 : decode cX8_isOpen 2 = .ok (.iload_n 2, 1) := by decide +kernel
theorem dX8_isOpen_3 : decode cX8_isOpen 3 = .ok (.invokevirtual 63, 3) := by decide +kernel
theorem dX8_isOpen_6 : decode cX8_isOpen 6 = .ok (.ifCond .lt 25, 3) := by decide +kernel
theorem dX8_isOpen_9 : decode cX8_isOpen 9 = .ok (.aload_n 0, 1) := by decide +kernel
theorem dX8_isOpen_10 : decode cX8_isOpen 10 = .ok (.getfield 7, 3) := by decide +kernel
theorem dX8_isOpen_13 : decode cX8_isOpen 13 = .ok (.bipush 42, 2) := by decide +kernel
theorem dX8_isOpen_15 : decode cX8_isOpen 15 = .ok (.aload_n 0, 1) := by decide +kernel
theorem dX8_isOpen_16 : decode cX8_isOpen 16 = .ok (.iload_n 1, 1) := by decide +kernel
theorem dX8_isOpen_17 : decode cX8_isOpen 17 = .ok (.iload_n 2, 1) := by decide +kernel
theorem dX8_isOpen_18 : decode cX8_isOpen 18 = .ok (.invokevirtual 67, 3) := by decide +kernel
theorem dX8_isOpen_21 : decode cX8_isOpen 21 = .ok (.iadd, 1) := by decide +kernel
theorem dX8_isOpen_22 : decode cX8_isOpen 22 = .ok (.iaload, 1) := by decide +kernel
theorem dX8_isOpen_23 : decode cX8_isOpen 23 = .ok (.iconst 1, 1) := by decide +kernel
theorem dX8_isOpen_24 : decode cX8_isOpen 24 = .ok (.if_icmp .ne 7, 3) := by decide +kernel
theorem dX8_isOpen_27 : decode cX8_isOpen 27 = .ok (.iconst 1, 1) := by decide +kernel
theorem dX8_isOpen_28 : decode cX8_isOpen 28 = .ok (.goto 4, 3) := by decide +kernel
theorem dX8_isOpen_31 : decode cX8_isOpen 31 = .ok (.iconst 0, 1) := by decide +kernel
theorem dX8_isOpen_32 : decode cX8_isOpen 32 = .ok (.ireturn, 1) := by decide +kernel
set_option maxRecDepth 20000 in
theorem ggX8_second_X8_besides : GoodIn wsX8_second wsX8_besides := goodIn_r _ [5, 6, 7, 8, 9, 10, 11, 12, 13, 14, 15, 16, 17, 18, 19, 20, 21, 22, 23, 24, 25, 26, 27, 28, 29, 30] (by decide +kernel) (by decide +kernel)
set_option maxRecDepth 20000 in
theorem gX8_second_X8_besides : GoodIn wsX8_second (wsV RX8 63 RX8 yX8_besides wsX8_besides) := goodIn_app (goodIn_of _ (by decide +kernel)) ggX8_second_X8_besides
theorem dX8_second_0 : decode cX8_second 0 = .ok (.aload_n 0, 1) := by decide +kernel
theorem dX8_second_1 : decode cX8_second 1 = .ok (.iload_n 1, 1) := by decide +kernel
theorem dX8_second_2 : decode cX8_second 2 = .ok (.iconst 2, 1) := by decide +kernel
theorem dX8_second_3 : decode cX8_second 3 = .ok (.idiv, 1) := by decide +kernel
theorem dX8_second_4 : decode cX8_second 4 = .ok (.iload_n 1, 1) := by decide +kernel
theorem dX8_second_5 : decode cX8_second 5 = .ok (.iconst 2, 1) := by decide +kernel
theorem dX8_second_6 : decode cX8_second 6 = .ok (.irem, 1) := by decide +kernel
theorem dX8_second_7 : decode cX8_second 7 = .ok (.ifCond .ne 7, 3) := by decide +kernel
theorem dX8_second_10 : decode cX8_second 10 = .ok (.iconst 1, 1) := by decide +kernel
theorem dX8_second_11 : decode cX8_second 11 = .ok (.goto 4, 3) := by decide +kernel
theorem dX8_second_14 : decode cX8_second 14 = .ok (.iconst 2, 1) := by decide +kernel
theorem dX8_second_15 : decode cX8_second 15 = .ok (.invokevirtual 63, 3) := by decide +kernel
theorem dX8_second_18 : decode cX8_second 18 = .ok (.ireturn, 1) := by decide +kernel
set_option maxRecDepth 20000 in
theorem ggX8_measures_X8_cells : GoodIn wsX8_measures wsX8_cells := goodIn_r _ [7, 8, 21, 22, 23, 24, 25, 26, 27, 28, 29, 30, 31, 32, 33, 34, 35, 36, 37, 38, 39, 40, 41, 42, 43, 44] (by decide +kernel) (by decide +kernel)
set_option maxRecDepth 20000 in
theorem gX8_measures_X8_cells : GoodIn wsX8_measures (wsV RX8 55 RX8 yX8_cells wsX8_cells) := goodIn_app (goodIn_of _ (by decide +kernel)) ggX8_measures_X8_cells
set_option maxRecDepth 20000 in
theorem ggX8_measures_X8_isOpen : GoodIn wsX8_measures wsX8_isOpen := goodIn_r _ [12, 8, 13, 14, 15, 6, 16, 17, 18, 19, 20, 21, 22, 23, 24, 25, 26, 27, 28, 29, 30, 31, 32, 33, 34, 35, 36, 37, 38, 39, 40, 41, 42, 43, 44] (by decide +kernel) (by decide +kernel)
set_option maxRecDepth 20000 in
theorem gX8_measures_X8_isOpen : GoodIn wsX8_measures (wsV RX8 70 RX8 yX8_isOpen wsX8_isOpen) := goodIn_app (goodIn_of _ (by decide +kernel)) ggX8_measures_X8_isOpen
set_option maxRecDepth 20000 in
theorem ggX8_measures_X8_besides : GoodIn wsX8_measures wsX8_besides := goodIn_r _ [16, 8, 21, 22, 23, 24, 25, 26, 27, 28, 29, 30, 31, 32, 33, 34, 35, 36, 37, 38, 39, 40, 41, 42, 43, 44] (by decide +kernel) (by decide +kernel)
set_option maxRecDepth 20000 in
theorem gX8_measures_X8_besides : GoodIn wsX8_measures (wsV RX8 63 RX8 yX8_besides wsX8_besides) := goodIn_app (goodIn_of _ (by decide +kernel)) ggX8_measures_X8_besides
theorem dX8_measures_0 : decode cX8_measures 0 = .ok (.iconst 0, 1) := by decide +kernel
theorem dX8_measures_1 : decode cX8_measures 1 = .ok (.istore_n 2, 1) := by decide +kernel
theorem dX8_measures_2 : decode cX8_measures 2 = .ok (.iload_n 2, 1) := by decide +kernel
theorem dX8_measures_3 : decode cX8_measures 3 = .ok (.aload_n 0, 1) := by decide +kernel
theorem dX8_measures_4 : decode cX8_measures 4 = .ok (.invokevirtual 55, 3) := by decide +kernel
theorem dX8_measures_7 : decode cX8_measures 7 = .ok (.if_icmp .ge 16, 3) := by decide +kernel
theorem dX8_measures_10 : decode cX8_measures 10 = .ok (.aload_n 0, 1) := by decide +kernel
theorem dX8_measures_11 : decode cX8_measures 11 = .ok (.getfield 25, 3) := by decide +kernel
theorem dX8_measures_14 : decode cX8_measures 14 = .ok (.iload_n 2, 1) := by decide +kernel
theorem dX8_measures_15 : decode cX8_measures 15 = .ok (.iconst (-1), 1) := by decide +kernel
theorem dX8_measures_16 : decode cX8_measures 16 = .ok (.iastore, 1) := by decide +kernel
theorem dX8_measures_17 : decode cX8_measures 17 = .ok (.iinc 2 1, 3) := by decide +kernel
theorem dX8_measures_20 : decode cX8_measures 20 = .ok (.goto (-18), 3) := by decide +kernel
theorem dX8_measures_23 : decode cX8_measures 23 = .ok (.aload_n 0, 1) := by decide +kernel
theorem dX8_measures_24 : decode cX8_measures 24 = .ok (.getfield 25, 3) := by decide +kernel
theorem dX8_measures_27 : decode cX8_measures 27 = .ok (.iload_n 1, 1) := by decide +kernel
theorem dX8_measures_28 : decode cX8_measures 28 = .ok (.iconst 0, 1) := by decide +kernel
theorem dX8_measures_29 : decode cX8_measures 29 = .ok (.iastore, 1) := by decide +kernel
theorem dX8_measures_30 : decode cX8_measures 30 = .ok (.aload_n 0, 1) := by decide +kernel
theorem dX8_measures_31 : decode cX8_measures 31 = .ok (.getfield 28, 3) := by decide +kernel
theorem dX8_measures_34 : decode cX8_measures 34 = .ok (.iconst 0, 1) := by decide +kernel
theorem dX8_measures_35 : decode cX8_measures 35 = .ok (.iload_n 1, 1) := by decide +kernel
theorem dX8_measures_36 : decode cX8_measures 36 = .ok (.iastore, 1) := by decide +kernel
theorem dX8_measures_37 : decode cX8_measures 37 = .ok (.iconst 1, 1) := by decide +kernel
theorem dX8_measures_38 : decode cX8_measures 38 = .ok (.istore_n 2, 1) := by decide +kernel
theorem dX8_measures_39 : decode cX8_measures 39 = .ok (.iconst 0, 1) := by decide +kernel
theorem dX8_measures_40 : decode cX8_measures 40 = .ok (.istore_n 3, 1) := by decide +kernel
theorem dX8_measures_41 : decode cX8_measures 41 = .ok (.iload_n 3, 1) := by decide +kernel
theorem dX8_measures_42 : decode cX8_measures 42 = .ok (.iload_n 2, 1) := by decide +kernel
theorem dX8_measures_43 : decode cX8_measures 43 = .ok (.if_icmp .ge 99, 3) := by decide +kernel
theorem dX8_measures_46 : decode cX8_measures 46 = .ok (.aload_n 0, 1) := by decide +kernel
theorem dX8_measures_47 : decode cX8_measures 47 = .ok (.getfield 28, 3) := by decide +kernel
theorem dX8_measures_50 : decode cX8_measures 50 = .ok (.iload_n 3, 1) := by decide +kernel
theorem dX8_measures_51 : decode cX8_measures 51 = .ok (.iaload, 1) := by decide +kernel
theorem dX8_measures_52 : decode cX8_measures 52 = .ok (.istore 4, 2) := by decide +kernel
theorem dX8_measures_54 : decode cX8_measures 54 = .ok (.iconst 0, 1) := by decide +kernel
theorem dX8_measures_55 : decode cX8_measures 55 = .ok (.istore 5, 2) := by decide +kernel
theorem dX8_measures_57 : decode cX8_measures 57 = .ok (.iload 5, 2) := by decide +kernel
theorem dX8_measures_59 : decode cX8_measures 59 = .ok (.iconst 4, 1) := by decide +kernel
theorem dX8_measures_60 : decode cX8_measures 60 = .ok (.if_icmp .ge 76, 3) := by decide +kernel
theorem dX8_measures_63 : decode cX8_measures 63 = .ok (.aload_n 0, 1) := by decide +kernel
theorem dX8_measures_64 : decode cX8_measures 64 = .ok (.iload 4, 2) := by decide +kernel
theorem dX8_measures_66 : decode cX8_measures 66 = .ok (.iload 5, 2) := by decide +kernel
theorem dX8_measures_68 : decode cX8_measures 68 = .ok (.invokevirtual 70, 3) := by decide +kernel
theorem dX8_measures_71 : decode cX8_measures 71 = .ok (.ifCond .eq 14, 3) := by decide +kernel
theorem dX8_measures_74 : decode cX8_measures 74 = .ok (.aload_n 0, 1) := by decide +kernel
theorem dX8_measures_75 : decode cX8_measures 75 = .ok (.iload 4, 2) := by decide +kernel
theorem dX8_measures_77 : decode cX8_measures 77 = .ok (.iload 5, 2) := by decide +kernel
theorem dX8_measures_79 : decode cX8_measures 79 = .ok (.invokevirtual 63, 3) := by decide +kernel
theorem dX8_measures_82 : decode cX8_measures 82 = .ok (.goto 4, 3) := by decide +kernel
theorem dX8_measures_85 : decode cX8_measures 85 = .ok (.iconst (-1), 1) := by decide +kernel
theorem dX8_measures_86 : decode cX8_measures 86 = .ok (.istore 6, 2) := by decide +kernel
theorem dX8_measures_88 : decode cX8_measures 88 = .ok (.iload 6, 2) := by decide +kernel
theorem dX8_measures_90 : decode cX8_measures 90 = .ok (.ifCond .lt 40, 3) := by decide +kernel
theorem dX8_measures_93 : decode cX8_measures 93 = .ok (.aload_n 0, 1) := by decide +kernel
theorem dX8_measures_94 : decode cX8_measures 94 = .ok (.getfield 25, 3) := by decide +kernel
theorem dX8_measures_97 : decode cX8_measures 97 = .ok (.iload 6, 2) := by decide +kernel
theorem dX8_measures_99 : decode cX8_measures 99 = .ok (.iaload, 1) := by decide +kernel
theorem dX8_measures_100 : decode cX8_measures 100 = .ok (.ifCond .ge 30, 3) := by decide +kernel
theorem dX8_measures_103 : decode cX8_measures 103 = .ok (.aload_n 0, 1) := by decide +kernel
theorem dX8_measures_104 : decode cX8_measures 104 = .ok (.getfield 25, 3) := by decide +kernel
theorem dX8_measures_107 : decode cX8_measures 107 = .ok (.iload 6, 2) := by decide +kernel
theorem dX8_measures_109 : decode cX8_measures 109 = .ok (.aload_n 0, 1) := by decide +kernel
theorem dX8_measures_110 : decode cX8_measures 110 = .ok (.getfield 25, 3) := by decide +kernel
theorem dX8_measures_113 : decode cX8_measures 113 = .ok (.iload 4, 2) := by decide +kernel
theorem dX8_measures_115 : decode cX8_measures 115 = .ok (.iaload, 1) := by decide +kernel
theorem dX8_measures_116 : decode cX8_measures 116 = .ok (.iconst 1, 1) := by decide +kernel
theorem dX8_measures_117 : decode cX8_measures 117 = .ok (.iadd, 1) := by decide +kernel
theorem dX8_measures_118 : decode cX8_measures 118 = .ok (.iastore, 1) := by decide +kernel
theorem dX8_measures_119 : decode cX8_measures 119 = .ok (.aload_n 0, 1) := by decide +kernel
theorem dX8_measures_120 : decode cX8_measures 120 = .ok (.getfield 28, 3) := by decide +kernel
theorem dX8_measures_123 : decode cX8_measures 123 = .ok (.iload_n 2, 1) := by decide +kernel
theorem dX8_measures_124 : decode cX8_measures 124 = .ok (.iload 6, 2) := by decide +kernel
theorem dX8_measures_126 : decode cX8_measures 126 = .ok (.iastore, 1) := by decide +kernel
theorem dX8_measures_127 : decode cX8_measures 127 = .ok (.iinc 2 1, 3) := by decide +kernel
theorem dX8_measures_130 : decode cX8_measures 130 = .ok (.iinc 5 1, 3) := by decide +kernel
theorem dX8_measures_133 : decode cX8_measures 133 = .ok (.goto (-76), 3) := by decide +kernel
theorem dX8_measures_136 : decode cX8_measures 136 = .ok (.iinc 3 1, 3) := by decide +kernel
theorem dX8_measures_139 : decode cX8_measures 139 = .ok (.goto (-98), 3) := by decide +kernel
theorem dX8_measures_142 : decode cX8_measures 142 = .ok (.return_, 1) := by decide +kernel
set_option maxRecDepth 20000 in
theorem ggX8_areJoined_X8_measures : GoodIn wsX8_areJoined wsX8_measures := goodIn_r _ [6, 1, 7, 8, 9, 10, 5, 11, 12, 13, 14, 15, 16, 17, 18, 19, 20, 21, 22, 23, 24, 25, 26, 27, 28, 29, 30, 31, 32, 33, 34, 35, 36, 37, 38, 39, 40, 41, 42, 43, 44, 45, 46, 47, 48] (by decide +kernel) (by decide +kernel)
set_option maxRecDepth 20000 in
theorem gX8_areJoined_X8_measures : GoodIn wsX8_areJoined (wsV RX8 74 RX8 yX8_measures wsX8_measures) := goodIn_app (goodIn_of _ (by decide +kernel)) ggX8_areJoined_X8_measures
theorem dX8_areJoined_0 : decode cX8_areJoined 0 = .ok (.aload_n 0, 1) := by decide +kernel
theorem dX8_areJoined_1 : decode cX8_areJoined 1 = .ok (.iload_n 1, 1) := by decide +kernel
theorem dX8_areJoined_2 : decode cX8_areJoined 2 = .ok (.invokevirtual 74, 3) := by decide +kernel
theorem dX8_areJoined_5 : decode cX8_areJoined 5 = .ok (.aload_n 0, 1) := by decide +kernel
theorem dX8_areJoined_6 : decode cX8_areJoined 6 = .ok (.getfield 25, 3) := by decide +kernel
theorem dX8_areJoined_9 : decode cX8_areJoined 9 = .ok (.iload_n 2, 1) := by decide +kernel
theorem dX8_areJoined_10 : decode cX8_areJoined 10 = .ok (.iaload, 1) := by decide +kernel
theorem dX8_areJoined_11 : decode cX8_areJoined 11 = .ok (.ifCond .lt 7, 3) := by decide +kernel
theorem dX8_areJoined_14 : decode cX8_areJoined 14 = .ok (.iconst 1, 1) := by decide +kernel
theorem dX8_areJoined_15 : decode cX8_areJoined 15 = .ok (.goto 4, 3) := by decide +kernel
theorem dX8_areJoined_18 : decode cX8_areJoined 18 = .ok (.iconst 0, 1) := by decide +kernel
theorem dX8_areJoined_19 : decode cX8_areJoined 19 = .ok (.ireturn, 1) := by decide +kernel
set_option maxRecDepth 20000 in
theorem ggX8_passages_X8_cells : GoodIn wsX8_passages wsX8_cells := goodIn_r _ [6, 1, 7, 8, 9, 10, 11, 12, 13, 14, 15, 16, 17, 18, 19, 20, 21, 22, 23, 24, 25, 26, 27, 28, 29, 30] (by decide +kernel) (by decide +kernel)
set_option maxRecDepth 20000 in
theorem gX8_passages_X8_cells : GoodIn wsX8_passages (wsV RX8 55 RX8 yX8_cells wsX8_cells) := goodIn_app (goodIn_of _ (by decide +kernel)) ggX8_passages_X8_cells
theorem dX8_passages_0 : decode cX8_passages 0 = .ok (.iconst 0, 1) := by decide +kernel
theorem dX8_passages_1 : decode cX8_passages 1 = .ok (.istore_n 1, 1) := by decide +kernel
theorem dX8_passages_2 : decode cX8_passages 2 = .ok (.iconst 0, 1) := by decide +kernel
theorem dX8_passages_3 : decode cX8_passages 3 = .ok (.istore_n 2, 1) := by decide +kernel
theorem dX8_passages_4 : decode cX8_passages 4 = .ok (.iload_n 2, 1) := by decide +kernel
theorem dX8_passages_5 : decode cX8_passages 5 = .ok (.iconst 2, 1) := by decide +kernel
theorem dX8_passages_6 : decode cX8_passages 6 = .ok (.aload_n 0, 1) := by decide +kernel
theorem dX8_passages_7 : decode cX8_passages 7 = .ok (.invokevirtual 55, 3) := by decide +kernel
theorem dX8_passages_10 : decode cX8_passages 10 = .ok (.imul, 1) := by decide +kernel
theorem dX8_passages_11 : decode cX8_passages 11 = .ok (.if_icmp .ge 21, 3) := by decide +kernel
theorem dX8_passages_14 : decode cX8_passages 14 = .ok (.iload_n 1, 1) := by decide +kernel
theorem dX8_passages_15 : decode cX8_passages 15 = .ok (.aload_n 0, 1) := by decide +kernel
theorem dX8_passages_16 : decode cX8_passages 16 = .ok (.getfield 7, 3) := by decide +kernel
theorem dX8_passages_19 : decode cX8_passages 19 = .ok (.bipush 42, 2) := by decide +kernel
theorem dX8_passages_21 : decode cX8_passages 21 = .ok (.iload_n 2, 1) := by decide +kernel
theorem dX8_passages_22 : decode cX8_passages 22 = .ok (.iadd, 1) := by decide +kernel
theorem dX8_passages_23 : decode cX8_passages 23 = .ok (.iaload, 1) := by decide +kernel
theorem dX8_passages_24 : decode cX8_passages 24 = .ok (.iadd, 1) := by decide +kernel
theorem dX8_passages_25 : decode cX8_passages 25 = .ok (.istore_n 1, 1) := by decide +kernel
theorem dX8_passages_26 : decode cX8_passages 26 = .ok (.iinc 2 1, 3) := by decide +kernel
theorem dX8_passages_29 : decode cX8_passages 29 = .ok (.goto (-25), 3) := by decide +kernel
theorem dX8_passages_32 : decode cX8_passages 32 = .ok (.iload_n 1, 1) := by decide +kernel
theorem dX8_passages_33 : decode cX8_passages 33 = .ok (.ireturn, 1) := by decide +kernel
set_option maxRecDepth 20000 in
theorem ggX8_parts_X8_cells : GoodIn wsX8_parts wsX8_cells := goodIn_r _ [5, 6, 11, 12, 13, 14, 15, 16, 17, 18, 19, 20, 21, 22, 23, 24, 25, 26, 27, 28, 29, 30, 31, 32, 33, 34] (by decide +kernel) (by decide +kernel)
set_option maxRecDepth 20000 in
theorem gX8_parts_X8_cells : GoodIn wsX8_parts (wsV RX8 55 RX8 yX8_cells wsX8_cells) := goodIn_app (goodIn_of _ (by decide +kernel)) ggX8_parts_X8_cells
set_option maxRecDepth 20000 in
theorem ggX8_parts_X8_passages : GoodIn wsX8_parts wsX8_passages := goodIn_r _ [10, 6, 1, 2, 3, 4, 5, 11, 12, 13, 14, 15, 16, 17, 18, 19, 20, 21, 22, 23, 24, 25, 26, 27, 28, 29, 30, 31, 32, 33, 34] (by decide +kernel) (by decide +kernel)
set_option maxRecDepth 20000 in
theorem gX8_parts_X8_passages : GoodIn wsX8_parts (wsV RX8 78 RX8 yX8_passages wsX8_passages) := goodIn_app (goodIn_of _ (by decide +kernel)) ggX8_parts_X8_passages
theorem dX8_parts_0 : decode cX8_parts 0 = .ok (.aload_n 0, 1) := by decide +kernel
theorem dX8_parts_1 : decode cX8_parts 1 = .ok (.invokevirtual 55, 3) := by decide +kernel
theorem dX8_parts_4 : decode cX8_parts 4 = .ok (.aload_n 0, 1) := by decide +kernel
theorem dX8_parts_5 : decode cX8_parts 5 = .ok (.invokevirtual 78, 3) := by decide +kernel
theorem dX8_parts_8 : decode cX8_parts 8 = .ok (.isub, 1) := by decide +kernel
theorem dX8_parts_9 : decode cX8_parts 9 = .ok (.ireturn, 1) := by decide +kernel
set_option maxRecDepth 20000 in
theorem ggX8_isWhole_X8_parts : GoodIn wsX8_isWhole wsX8_parts := goodIn_r _ [5, 6, 7, 8, 4, 9, 10, 11, 12, 13, 14, 15, 16, 17, 18, 19, 20, 21, 22, 23, 24, 25, 26, 27, 28, 29, 30, 31, 32, 33, 34, 35, 36, 37, 38] (by decide +kernel) (by decide +kernel)
set_option maxRecDepth 20000 in
theorem gX8_isWhole_X8_parts : GoodIn wsX8_isWhole (wsV RX8 81 RX8 yX8_parts wsX8_parts) := goodIn_app (goodIn_of _ (by decide +kernel)) ggX8_isWhole_X8_parts
theorem dX8_isWhole_0 : decode cX8_isWhole 0 = .ok (.aload_n 0, 1) := by decide +kernel
theorem dX8_isWhole_1 : decode cX8_isWhole 1 = .ok (.invokevirtual 81, 3) := by decide +kernel
theorem dX8_isWhole_4 : decode cX8_isWhole 4 = .ok (.iconst 1, 1) := by decide +kernel
theorem dX8_isWhole_5 : decode cX8_isWhole 5 = .ok (.if_icmp .ne 7, 3) := by decide +kernel
theorem dX8_isWhole_8 : decode cX8_isWhole 8 = .ok (.iconst 1, 1) := by decide +kernel
theorem dX8_isWhole_9 : decode cX8_isWhole 9 = .ok (.goto 4, 3) := by decide +kernel
theorem dX8_isWhole_12 : decode cX8_isWhole 12 = .ok (.iconst 0, 1) := by decide +kernel
theorem dX8_isWhole_13 : decode cX8_isWhole 13 = .ok (.ireturn, 1) := by decide +kernel
set_option maxRecDepth 20000 in
theorem ggX8_findsWay_X8_cells : GoodIn wsX8_findsWay wsX8_cells := goodIn_r _ [11, 4, 29, 30, 31, 32, 33, 34, 35, 36, 37, 38, 39, 40, 41, 42, 43, 44, 45, 46, 47, 48, 49, 50, 51, 52] (by decide +kernel) (by decide +kernel)
set_option maxRecDepth 20000 in
theorem gX8_findsWay_X8_cells : GoodIn wsX8_findsWay (wsV RX8 55 RX8 yX8_cells wsX8_cells) := goodIn_app (goodIn_of _ (by decide +kernel)) ggX8_findsWay_X8_cells
set_option maxRecDepth 20000 in
theorem ggX8_findsWay_X8_measures : GoodIn wsX8_findsWay wsX8_measures := goodIn_r _ [15, 5, 16, 7, 8, 9, 10, 11, 4, 17, 18, 19, 20, 21, 22, 23, 24, 25, 26, 27, 28, 29, 30, 31, 32, 33, 34, 35, 36, 37, 38, 39, 40, 41, 42, 43, 44, 45, 46, 47, 48, 49, 50, 51, 52] (by decide +kernel) (by decide +kernel)
set_option maxRecDepth 20000 in
theorem gX8_findsWay_X8_measures : GoodIn wsX8_findsWay (wsV RX8 74 RX8 yX8_measures wsX8_measures) := goodIn_app (goodIn_of _ (by decide +kernel)) ggX8_findsWay_X8_measures
set_option maxRecDepth 20000 in
theorem ggX8_findsWay_X8_isOpen : GoodIn wsX8_findsWay wsX8_isOpen := goodIn_r _ [20, 4, 21, 22, 23, 10, 24, 25, 26, 27, 28, 29, 30, 31, 32, 33, 34, 35, 36, 37, 38, 39, 40, 41, 42, 43, 44, 45, 46, 47, 48, 49, 50, 51, 52] (by decide +kernel) (by decide +kernel)
set_option maxRecDepth 20000 in
theorem gX8_findsWay_X8_isOpen : GoodIn wsX8_findsWay (wsV RX8 70 RX8 yX8_isOpen wsX8_isOpen) := goodIn_app (goodIn_of _ (by decide +kernel)) ggX8_findsWay_X8_isOpen
set_option maxRecDepth 20000 in
theorem ggX8_findsWay_X8_besides : GoodIn wsX8_findsWay wsX8_besides := goodIn_r _ [24, 4, 29, 30, 31, 32, 33, 34, 35, 36, 37, 38, 39, 40, 41, 42, 43, 44, 45, 46, 47, 48, 49, 50, 51, 52] (by decide +kernel) (by decide +kernel)
set_option maxRecDepth 20000 in
theorem gX8_findsWay_X8_besides : GoodIn wsX8_findsWay (wsV RX8 63 RX8 yX8_besides wsX8_besides) := goodIn_app (goodIn_of _ (by decide +kernel)) ggX8_findsWay_X8_besides
theorem dX8_findsWay_0 : decode cX8_findsWay 0 = .ok (.iconst 0, 1) := by decide +kernel
theorem dX8_findsWay_1 : decode cX8_findsWay 1 = .ok (.istore_n 2, 1) := by decide +kernel
theorem dX8_findsWay_2 : decode cX8_findsWay 2 = .ok (.iload_n 2, 1) := by decide +kernel
theorem dX8_findsWay_3 : decode cX8_findsWay 3 = .ok (.aload_n 0, 1) := by decide +kernel
theorem dX8_findsWay_4 : decode cX8_findsWay 4 = .ok (.invokevirtual 55, 3) := by decide +kernel
theorem dX8_findsWay_7 : decode cX8_findsWay 7 = .ok (.if_icmp .ge 16, 3) := by decide +kernel
theorem dX8_findsWay_10 : decode cX8_findsWay 10 = .ok (.aload_n 0, 1) := by decide +kernel
theorem dX8_findsWay_11 : decode cX8_findsWay 11 = .ok (.getfield 31, 3) := by decide +kernel
theorem dX8_findsWay_14 : decode cX8_findsWay 14 = .ok (.iload_n 2, 1) := by decide +kernel
theorem dX8_findsWay_15 : decode cX8_findsWay 15 = .ok (.iconst 0, 1) := by decide +kernel
theorem dX8_findsWay_16 : decode cX8_findsWay 16 = .ok (.bastore, 1) := by decide +kernel
theorem dX8_findsWay_17 : decode cX8_findsWay 17 = .ok (.iinc 2 1, 3) := by decide +kernel
theorem dX8_findsWay_20 : decode cX8_findsWay 20 = .ok (.goto (-18), 3) := by decide +kernel
theorem dX8_findsWay_23 : decode cX8_findsWay 23 = .ok (.aload_n 0, 1) := by decide +kernel
theorem dX8_findsWay_24 : decode cX8_findsWay 24 = .ok (.iconst 0, 1) := by decide +kernel
theorem dX8_findsWay_25 : decode cX8_findsWay 25 = .ok (.putfield 84, 3) := by decide +kernel
theorem dX8_findsWay_28 : decode cX8_findsWay 28 = .ok (.aload_n 0, 1) := by decide +kernel
theorem dX8_findsWay_29 : decode cX8_findsWay 29 = .ok (.iconst 0, 1) := by decide +kernel
theorem dX8_findsWay_30 : decode cX8_findsWay 30 = .ok (.putfield 87, 3) := by decide +kernel
theorem dX8_findsWay_33 : decode cX8_findsWay 33 = .ok (.aload_n 0, 1) := by decide +kernel
theorem dX8_findsWay_34 : decode cX8_findsWay 34 = .ok (.iload_n 1, 1) := by decide +kernel
theorem dX8_findsWay_35 : decode cX8_findsWay 35 = .ok (.invokevirtual 74, 3) := by decide +kernel
theorem dX8_findsWay_38 : decode cX8_findsWay 38 = .ok (.aload_n 0, 1) := by decide +kernel
theorem dX8_findsWay_39 : decode cX8_findsWay 39 = .ok (.getfield 7, 3) := by decide +kernel
theorem dX8_findsWay_42 : decode cX8_findsWay 42 = .ok (.iconst 2, 1) := by decide +kernel
theorem dX8_findsWay_43 : decode cX8_findsWay 43 = .ok (.iaload, 1) := by decide +kernel
theorem dX8_findsWay_44 : decode cX8_findsWay 44 = .ok (.istore_n 2, 1) := by decide +kernel
theorem dX8_findsWay_45 : decode cX8_findsWay 45 = .ok (.aload_n 0, 1) := by decide +kernel
theorem dX8_findsWay_46 : decode cX8_findsWay 46 = .ok (.getfield 25, 3) := by decide +kernel
theorem dX8_findsWay_49 : decode cX8_findsWay 49 = .ok (.iload_n 2, 1) := by decide +kernel
theorem dX8_findsWay_50 : decode cX8_findsWay 50 = .ok (.iaload, 1) := by decide +kernel
theorem dX8_findsWay_51 : decode cX8_findsWay 51 = .ok (.ifCond .ge 5, 3) := by decide +kernel
theorem dX8_findsWay_54 : decode cX8_findsWay 54 = .ok (.iconst 0, 1) := by decide +kernel
theorem dX8_findsWay_55 : decode cX8_findsWay 55 = .ok (.ireturn, 1) := by decide +kernel
theorem dX8_findsWay_56 : decode cX8_findsWay 56 = .ok (.iconst (-1), 1) := by decide +kernel
theorem dX8_findsWay_57 : decode cX8_findsWay 57 = .ok (.istore_n 3, 1) := by decide +kernel
theorem dX8_findsWay_58 : decode cX8_findsWay 58 = .ok (.aload_n 0, 1) := by decide +kernel
theorem dX8_findsWay_59 : decode cX8_findsWay 59 = .ok (.getfield 31, 3) := by decide +kernel
theorem dX8_findsWay_62 : decode cX8_findsWay 62 = .ok (.iload_n 2, 1) := by decide +kernel
theorem dX8_findsWay_63 : decode cX8_findsWay 63 = .ok (.iconst 1, 1) := by decide +kernel
theorem dX8_findsWay_64 : decode cX8_findsWay 64 = .ok (.bastore, 1) := by decide +kernel
theorem dX8_findsWay_65 : decode cX8_findsWay 65 = .ok (.aload_n 0, 1) := by decide +kernel
theorem dX8_findsWay_66 : decode cX8_findsWay 66 = .ok (.getfield 35, 3) := by decide +kernel
theorem dX8_findsWay_69 : decode cX8_findsWay 69 = .ok (.iconst 0, 1) := by decide +kernel
theorem dX8_findsWay_70 : decode cX8_findsWay 70 = .ok (.iload_n 2, 1) := by decide +kernel
theorem dX8_findsWay_71 : decode cX8_findsWay 71 = .ok (.iastore, 1) := by decide +kernel
theorem dX8_findsWay_72 : decode cX8_findsWay 72 = .ok (.aload_n 0, 1) := by decide +kernel
theorem dX8_findsWay_73 : decode cX8_findsWay 73 = .ok (.iconst 1, 1) := by decide +kernel
theorem dX8_findsWay_74 : decode cX8_findsWay 74 = .ok (.putfield 84, 3) := by decide +kernel
theorem dX8_findsWay_77 : decode cX8_findsWay 77 = .ok (.aload_n 0, 1) := by decide +kernel
theorem dX8_findsWay_78 : decode cX8_findsWay 78 = .ok (.getfield 25, 3) := by decide +kernel
theorem dX8_findsWay_81 : decode cX8_findsWay 81 = .ok (.iload_n 2, 1) := by decide +kernel
theorem dX8_findsWay_82 : decode cX8_findsWay 82 = .ok (.iaload, 1) := by decide +kernel
theorem dX8_findsWay_83 : decode cX8_findsWay 83 = .ok (.ifCond .le 128, 3) := by decide +kernel
theorem dX8_findsWay_86 : decode cX8_findsWay 86 = .ok (.iconst (-1), 1) := by decide +kernel
theorem dX8_findsWay_87 : decode cX8_findsWay 87 = .ok (.istore 4, 2) := by decide +kernel
theorem dX8_findsWay_89 : decode cX8_findsWay 89 = .ok (.iconst 0, 1) := by decide +kernel
theorem dX8_findsWay_90 : decode cX8_findsWay 90 = .ok (.istore 5, 2) := by decide +kernel
theorem dX8_findsWay_92 : decode cX8_findsWay 92 = .ok (.iload 5, 2) := by decide +kernel
theorem dX8_findsWay_94 : decode cX8_findsWay 94 = .ok (.iconst 4, 1) := by decide +kernel
theorem dX8_findsWay_95 : decode cX8_findsWay 95 = .ok (.if_icmp .ge 51, 3) := by decide +kernel
theorem dX8_findsWay_98 : decode cX8_findsWay 98 = .ok (.aload_n 0, 1) := by decide +kernel
theorem dX8_findsWay_99 : decode cX8_findsWay 99 = .ok (.iload_n 2, 1) := by decide +kernel
theorem dX8_findsWay_100 : decode cX8_findsWay 100 = .ok (.iload 5, 2) := by decide +kernel
theorem dX8_findsWay_102 : decode cX8_findsWay 102 = .ok (.invokevirtual 70, 3) := by decide +kernel
theorem dX8_findsWay_105 : decode cX8_findsWay 105 = .ok (.ifCond .eq 31, 3) := by decide +kernel
theorem dX8_findsWay_108 : decode cX8_findsWay 108 = .ok (.aload_n 0, 1) := by decide +kernel
theorem dX8_findsWay_109 : decode cX8_findsWay 109 = .ok (.getfield 25, 3) := by decide +kernel
theorem dX8_findsWay_112 : decode cX8_findsWay 112 = .ok (.aload_n 0, 1) := by decide +kernel
theorem dX8_findsWay_113 : decode cX8_findsWay 113 = .ok (.iload_n 2, 1) := by decide +kernel
theorem dX8_findsWay_114 : decode cX8_findsWay 114 = .ok (.iload 5, 2) := by decide +kernel
theorem dX8_findsWay_116 : decode cX8_findsWay 116 = .ok (.invokevirtual 63, 3) := by decide +kernel
theorem dX8_findsWay_119 : decode cX8_findsWay 119 = .ok (.iaload, 1) := by decide +kernel
theorem dX8_findsWay_120 : decode cX8_findsWay 120 = .ok (.aload_n 0, 1) := by decide +kernel
theorem dX8_findsWay_121 : decode cX8_findsWay 121 = .ok (.getfield 25, 3) := by decide +kernel
theorem dX8_findsWay_124 : decode cX8_findsWay 124 = .ok (.iload_n 2, 1) := by decide +kernel
theorem dX8_findsWay_125 : decode cX8_findsWay 125 = .ok (.iaload, 1) := by decide +kernel
theorem dX8_findsWay_126 : decode cX8_findsWay 126 = .ok (.iconst 1, 1) := by decide +kernel
theorem dX8_findsWay_127 : decode cX8_findsWay 127 = .ok (.isub, 1) := by decide +kernel
theorem dX8_findsWay_128 : decode cX8_findsWay 128 = .ok (.if_icmp .ne 8, 3) := by decide +kernel
theorem dX8_findsWay_131 : decode cX8_findsWay 131 = .ok (.iload 5, 2) := by decide +kernel
theorem dX8_findsWay_133 : decode cX8_findsWay 133 = .ok (.goto 5, 3) := by decide +kernel
theorem dX8_findsWay_136 : decode cX8_findsWay 136 = .ok (.iload 4, 2) := by decide +kernel
theorem dX8_findsWay_138 : decode cX8_findsWay 138 = .ok (.istore 4, 2) := by decide +kernel
theorem dX8_findsWay_140 : decode cX8_findsWay 140 = .ok (.iinc 5 1, 3) := by decide +kernel
theorem dX8_findsWay_143 : decode cX8_findsWay 143 = .ok (.goto (-51), 3) := by decide +kernel
theorem dX8_findsWay_146 : decode cX8_findsWay 146 = .ok (.aload_n 0, 1) := by decide +kernel
theorem dX8_findsWay_147 : decode cX8_findsWay 147 = .ok (.dup, 1) := by decide +kernel
theorem dX8_findsWay_148 : decode cX8_findsWay 148 = .ok (.getfield 87, 3) := by decide +kernel
theorem dX8_findsWay_151 : decode cX8_findsWay 151 = .ok (.iload_n 3, 1) := by decide +kernel
theorem dX8_findsWay_152 : decode cX8_findsWay 152 = .ok (.ifCond .lt 13, 3) := by decide +kernel
theorem dX8_findsWay_155 : decode cX8_findsWay 155 = .ok (.iload 4, 2) := by decide +kernel
theorem dX8_findsWay_157 : decode cX8_findsWay 157 = .ok (.iload_n 3, 1) := by decide +kernel
theorem dX8_findsWay_158 : decode cX8_findsWay 158 = .ok (.if_icmp .eq 7, 3) := by decide +kernel
theorem dX8_findsWay_161 : decode cX8_findsWay 161 = .ok (.iconst 1, 1) := by decide +kernel
theorem dX8_findsWay_162 : decode cX8_findsWay 162 = .ok (.goto 4, 3) := by decide +kernel
theorem dX8_findsWay_165 : decode cX8_findsWay 165 = .ok (.iconst 0, 1) := by decide +kernel
theorem dX8_findsWay_166 : decode cX8_findsWay 166 = .ok (.iadd, 1) := by decide +kernel
theorem dX8_findsWay_167 : decode cX8_findsWay 167 = .ok (.putfield 87, 3) := by decide +kernel
theorem dX8_findsWay_170 : decode cX8_findsWay 170 = .ok (.iload 4, 2) := by decide +kernel
theorem dX8_findsWay_172 : decode cX8_findsWay 172 = .ok (.istore_n 3, 1) := by decide +kernel
theorem dX8_findsWay_173 : decode cX8_findsWay 173 = .ok (.aload_n 0, 1) := by decide +kernel
theorem dX8_findsWay_174 : decode cX8_findsWay 174 = .ok (.iload_n 2, 1) := by decide +kernel
theorem dX8_findsWay_175 : decode cX8_findsWay 175 = .ok (.iload 4, 2) := by decide +kernel
theorem dX8_findsWay_177 : decode cX8_findsWay 177 = .ok (.invokevirtual 63, 3) := by decide +kernel
theorem dX8_findsWay_180 : decode cX8_findsWay 180 = .ok (.istore_n 2, 1) := by decide +kernel
theorem dX8_findsWay_181 : decode cX8_findsWay 181 = .ok (.aload_n 0, 1) := by decide +kernel
theorem dX8_findsWay_182 : decode cX8_findsWay 182 = .ok (.getfield 31, 3) := by decide +kernel
theorem dX8_findsWay_185 : decode cX8_findsWay 185 = .ok (.iload_n 2, 1) := by decide +kernel
theorem dX8_findsWay_186 : decode cX8_findsWay 186 = .ok (.iconst 1, 1) := by decide +kernel
theorem dX8_findsWay_187 : decode cX8_findsWay 187 = .ok (.bastore, 1) := by decide +kernel
theorem dX8_findsWay_188 : decode cX8_findsWay 188 = .ok (.aload_n 0, 1) := by decide +kernel
theorem dX8_findsWay_189 : decode cX8_findsWay 189 = .ok (.getfield 35, 3) := by decide +kernel
theorem dX8_findsWay_192 : decode cX8_findsWay 192 = .ok (.aload_n 0, 1) := by decide +kernel
theorem dX8_findsWay_193 : decode cX8_findsWay 193 = .ok (.getfield 84, 3) := by decide +kernel
theorem dX8_findsWay_196 : decode cX8_findsWay 196 = .ok (.iload_n 2, 1) := by decide +kernel
theorem dX8_findsWay_197 : decode cX8_findsWay 197 = .ok (.iastore, 1) := by decide +kernel
theorem dX8_findsWay_198 : decode cX8_findsWay 198 = .ok (.aload_n 0, 1) := by decide +kernel
theorem dX8_findsWay_199 : decode cX8_findsWay 199 = .ok (.dup, 1) := by decide +kernel
theorem dX8_findsWay_200 : decode cX8_findsWay 200 = .ok (.getfield 84, 3) := by decide +kernel
theorem dX8_findsWay_203 : decode cX8_findsWay 203 = .ok (.iconst 1, 1) := by decide +kernel
theorem dX8_findsWay_204 : decode cX8_findsWay 204 = .ok (.iadd, 1) := by decide +kernel
theorem dX8_findsWay_205 : decode cX8_findsWay 205 = .ok (.putfield 84, 3) := by decide +kernel
theorem dX8_findsWay_208 : decode cX8_findsWay 208 = .ok (.goto (-131), 3) := by decide +kernel
theorem dX8_findsWay_211 : decode cX8_findsWay 211 = .ok (.iconst 1, 1) := by decide +kernel
theorem dX8_findsWay_212 : decode cX8_findsWay 212 = .ok (.ireturn, 1) := by decide +kernel
set_option maxRecDepth 20000 in
theorem ggX8_faultTo_X8_findsWay : GoodIn wsX8_faultTo wsX8_findsWay := goodIn_r _ [7, 1, 8, 9, 2, 10, 11, 12, 13, 14, 6, 15, 16, 17, 18, 19, 20, 21, 22, 23, 24, 25, 26, 27, 28, 29, 30, 31, 32, 33, 34, 35, 36, 37, 38, 39, 40, 41, 42, 43, 44, 45, 46, 47, 48, 49, 50, 51, 52, 53, 54, 55, 56] (by decide +kernel) (by decide +kernel)
set_option maxRecDepth 20000 in
theorem gX8_faultTo_X8_findsWay : GoodIn wsX8_faultTo (wsV RX8 90 RX8 yX8_findsWay wsX8_findsWay) := goodIn_app (goodIn_of _ (by decide +kernel)) ggX8_faultTo_X8_findsWay
set_option maxRecDepth 20000 in
theorem ggX8_faultTo_X8_cells : GoodIn wsX8_faultTo wsX8_cells := goodIn_r _ [15, 2, 33, 34, 35, 36, 37, 38, 39, 40, 41, 42, 43, 44, 45, 46, 47, 48, 49, 50, 51, 52, 53, 54, 55, 56] (by decide +kernel) (by decide +kernel)
set_option maxRecDepth 20000 in
theorem gX8_faultTo_X8_cells : GoodIn wsX8_faultTo (wsV RX8 55 RX8 yX8_cells wsX8_cells) := goodIn_app (goodIn_of _ (by decide +kernel)) ggX8_faultTo_X8_cells
theorem dX8_faultTo_0 : decode cX8_faultTo 0 = .ok (.aload_n 0, 1) := by decide +kernel
theorem dX8_faultTo_1 : decode cX8_faultTo 1 = .ok (.iload_n 1, 1) := by decide +kernel
theorem dX8_faultTo_2 : decode cX8_faultTo 2 = .ok (.invokevirtual 90, 3) := by decide +kernel
theorem dX8_faultTo_5 : decode cX8_faultTo 5 = .ok (.istore_n 2, 1) := by decide +kernel
theorem dX8_faultTo_6 : decode cX8_faultTo 6 = .ok (.iconst 0, 1) := by decide +kernel
theorem dX8_faultTo_7 : decode cX8_faultTo 7 = .ok (.istore_n 3, 1) := by decide +kernel
theorem dX8_faultTo_8 : decode cX8_faultTo 8 = .ok (.iconst 0, 1) := by decide +kernel
theorem dX8_faultTo_9 : decode cX8_faultTo 9 = .ok (.istore 4, 2) := by decide +kernel
theorem dX8_faultTo_11 : decode cX8_faultTo 11 = .ok (.iload 4, 2) := by decide +kernel
theorem dX8_faultTo_13 : decode cX8_faultTo 13 = .ok (.aload_n 0, 1) := by decide +kernel
theorem dX8_faultTo_14 : decode cX8_faultTo 14 = .ok (.invokevirtual 55, 3) := by decide +kernel
theorem dX8_faultTo_17 : decode cX8_faultTo 17 = .ok (.if_icmp .ge 48, 3) := by decide +kernel
theorem dX8_faultTo_20 : decode cX8_faultTo 20 = .ok (.iload_n 3, 1) := by decide +kernel
theorem dX8_faultTo_21 : decode cX8_faultTo 21 = .ok (.aload_n 0, 1) := by decide +kernel
theorem dX8_faultTo_22 : decode cX8_faultTo 22 = .ok (.getfield 31, 3) := by decide +kernel
theorem dX8_faultTo_25 : decode cX8_faultTo 25 = .ok (.iload 4, 2) := by decide +kernel
theorem dX8_faultTo_27 : decode cX8_faultTo 27 = .ok (.baload, 1) := by decide +kernel
theorem dX8_faultTo_28 : decode cX8_faultTo 28 = .ok (.ifCond .eq 19, 3) := by decide +kernel
theorem dX8_faultTo_31 : decode cX8_faultTo 31 = .ok (.bipush 9, 2) := by decide +kernel
theorem dX8_faultTo_33 : decode cX8_faultTo 33 = .ok (.aload_n 0, 1) := by decide +kernel
theorem dX8_faultTo_34 : decode cX8_faultTo 34 = .ok (.getfield 7, 3) := by decide +kernel
theorem dX8_faultTo_37 : decode cX8_faultTo 37 = .ok (.bipush 6, 2) := by decide +kernel
theorem dX8_faultTo_39 : decode cX8_faultTo 39 = .ok (.iload 4, 2) := by decide +kernel
theorem dX8_faultTo_41 : decode cX8_faultTo 41 = .ok (.iadd, 1) := by decide +kernel
theorem dX8_faultTo_42 : decode cX8_faultTo 42 = .ok (.iaload, 1) := by decide +kernel
theorem dX8_faultTo_43 : decode cX8_faultTo 43 = .ok (.isub, 1) := by decide +kernel
theorem dX8_faultTo_44 : decode cX8_faultTo 44 = .ok (.goto 13, 3) := by decide +kernel
theorem dX8_faultTo_47 : decode cX8_faultTo 47 = .ok (.aload_n 0, 1) := by decide +kernel
theorem dX8_faultTo_48 : decode cX8_faultTo 48 = .ok (.getfield 7, 3) := by decide +kernel
theorem dX8_faultTo_51 : decode cX8_faultTo 51 = .ok (.bipush 6, 2) := by decide +kernel
theorem dX8_faultTo_53 : decode cX8_faultTo 53 = .ok (.iload 4, 2) := by decide +kernel
theorem dX8_faultTo_55 : decode cX8_faultTo 55 = .ok (.iadd, 1) := by decide +kernel
theorem dX8_faultTo_56 : decode cX8_faultTo 56 = .ok (.iaload, 1) := by decide +kernel
theorem dX8_faultTo_57 : decode cX8_faultTo 57 = .ok (.iadd, 1) := by decide +kernel
theorem dX8_faultTo_58 : decode cX8_faultTo 58 = .ok (.istore_n 3, 1) := by decide +kernel
theorem dX8_faultTo_59 : decode cX8_faultTo 59 = .ok (.iinc 4 1, 3) := by decide +kernel
theorem dX8_faultTo_62 : decode cX8_faultTo 62 = .ok (.goto (-51), 3) := by decide +kernel
theorem dX8_faultTo_65 : decode cX8_faultTo 65 = .ok (.iload_n 3, 1) := by decide +kernel
theorem dX8_faultTo_66 : decode cX8_faultTo 66 = .ok (.ireturn, 1) := by decide +kernel
set_option maxRecDepth 20000 in
theorem ggX8_wayFault_X8_faultTo : GoodIn wsX8_wayFault wsX8_faultTo := goodIn_r _ [6, 7, 1, 8, 9, 10, 5, 11, 12, 13, 14, 15, 16, 17, 18, 19, 20, 21, 22, 23, 24, 25, 26, 27, 28, 29, 30, 31, 32, 33, 34, 35, 36, 37, 38, 39, 40, 41, 42, 43, 44, 45, 46, 47, 48, 49, 50, 51, 52, 53, 54, 55, 56, 57, 58, 59, 60] (by decide +kernel) (by decide +kernel)
set_option maxRecDepth 20000 in
theorem gX8_wayFault_X8_faultTo : GoodIn wsX8_wayFault (wsV RX8 94 RX8 yX8_faultTo wsX8_faultTo) := goodIn_app (goodIn_of _ (by decide +kernel)) ggX8_wayFault_X8_faultTo
theorem dX8_wayFault_0 : decode cX8_wayFault 0 = .ok (.aload_n 0, 1) := by decide +kernel
theorem dX8_wayFault_1 : decode cX8_wayFault 1 = .ok (.aload_n 0, 1) := by decide +kernel
theorem dX8_wayFault_2 : decode cX8_wayFault 2 = .ok (.getfield 7, 3) := by decide +kernel
theorem dX8_wayFault_5 : decode cX8_wayFault 5 = .ok (.iconst 4, 1) := by decide +kernel
theorem dX8_wayFault_6 : decode cX8_wayFault 6 = .ok (.iaload, 1) := by decide +kernel
theorem dX8_wayFault_7 : decode cX8_wayFault 7 = .ok (.invokevirtual 94, 3) := by decide +kernel
theorem dX8_wayFault_10 : decode cX8_wayFault 10 = .ok (.ireturn, 1) := by decide +kernel
set_option maxRecDepth 20000 in
theorem ggX8_walks_X8_isOpen : GoodIn wsX8_walks wsX8_isOpen := goodIn_r _ [8, 3, 9, 10, 11, 7, 12, 13, 14, 15, 16, 17, 18, 19, 20, 21, 22, 23, 24, 25, 26, 27, 28, 29, 30, 31, 32, 33, 34, 35, 36, 37, 38, 39, 40] (by decide +kernel) (by decide +kernel)
set_option maxRecDepth 20000 in
theorem gX8_walks_X8_isOpen : GoodIn wsX8_walks (wsV RX8 70 RX8 yX8_isOpen wsX8_isOpen) := goodIn_app (goodIn_of _ (by decide +kernel)) ggX8_walks_X8_isOpen
set_option maxRecDepth 20000 in
theorem ggX8_walks_X8_besides : GoodIn wsX8_walks wsX8_besides := goodIn_r _ [12, 3, 17, 18, 19, 20, 21, 22, 23, 24, 25, 26, 27, 28, 29, 30, 31, 32, 33, 34, 35, 36, 37, 38, 39, 40] (by decide +kernel) (by decide +kernel)
set_option maxRecDepth 20000 in
theorem gX8_walks_X8_besides : GoodIn wsX8_walks (wsV RX8 63 RX8 yX8_besides wsX8_besides) := goodIn_app (goodIn_of _ (by decide +kernel)) ggX8_walks_X8_besides
theorem dX8_walks_0 : decode cX8_walks 0 = .ok (.iconst 0, 1) := by decide +kernel
theorem dX8_walks_1 : decode cX8_walks 1 = .ok (.istore_n 1, 1) := by decide +kernel
theorem dX8_walks_2 : decode cX8_walks 2 = .ok (.iload_n 1, 1) := by decide +kernel
theorem dX8_walks_3 : decode cX8_walks 3 = .ok (.bipush 36, 2) := by decide +kernel
theorem dX8_walks_5 : decode cX8_walks 5 = .ok (.if_icmp .ge 16, 3) := by decide +kernel
theorem dX8_walks_8 : decode cX8_walks 8 = .ok (.aload_n 0, 1) := by decide +kernel
theorem dX8_walks_9 : decode cX8_walks 9 = .ok (.getfield 38, 3) := by decide +kernel
theorem dX8_walks_12 : decode cX8_walks 12 = .ok (.iload_n 1, 1) := by decide +kernel
theorem dX8_walks_13 : decode cX8_walks 13 = .ok (.iconst 0, 1) := by decide +kernel
theorem dX8_walks_14 : decode cX8_walks 14 = .ok (.iastore, 1) := by decide +kernel
theorem dX8_walks_15 : decode cX8_walks 15 = .ok (.iinc 1 1, 3) := by decide +kernel
theorem dX8_walks_18 : decode cX8_walks 18 = .ok (.goto (-16), 3) := by decide +kernel
theorem dX8_walks_21 : decode cX8_walks 21 = .ok (.iconst 0, 1) := by decide +kernel
theorem dX8_walks_22 : decode cX8_walks 22 = .ok (.istore_n 1, 1) := by decide +kernel
theorem dX8_walks_23 : decode cX8_walks 23 = .ok (.iload_n 1, 1) := by decide +kernel
theorem dX8_walks_24 : decode cX8_walks 24 = .ok (.sipush 144, 3) := by decide +kernel
theorem dX8_walks_27 : decode cX8_walks 27 = .ok (.if_icmp .ge 16, 3) := by decide +kernel
theorem dX8_walks_30 : decode cX8_walks 30 = .ok (.aload_n 0, 1) := by decide +kernel
theorem dX8_walks_31 : decode cX8_walks 31 = .ok (.getfield 41, 3) := by decide +kernel
theorem dX8_walks_34 : decode cX8_walks 34 = .ok (.iload_n 1, 1) := by decide +kernel
theorem dX8_walks_35 : decode cX8_walks 35 = .ok (.iconst 0, 1) := by decide +kernel
theorem dX8_walks_36 : decode cX8_walks 36 = .ok (.bastore, 1) := by decide +kernel
theorem dX8_walks_37 : decode cX8_walks 37 = .ok (.iinc 1 1, 3) := by decide +kernel
theorem dX8_walks_40 : decode cX8_walks 40 = .ok (.goto (-17), 3) := by decide +kernel
theorem dX8_walks_43 : decode cX8_walks 43 = .ok (.aload_n 0, 1) := by decide +kernel
theorem dX8_walks_44 : decode cX8_walks 44 = .ok (.getfield 7, 3) := by decide +kernel
theorem dX8_walks_47 : decode cX8_walks 47 = .ok (.iconst 2, 1) := by decide +kernel
theorem dX8_walks_48 : decode cX8_walks 48 = .ok (.iaload, 1) := by decide +kernel
theorem dX8_walks_49 : decode cX8_walks 49 = .ok (.istore_n 1, 1) := by decide +kernel
theorem dX8_walks_50 : decode cX8_walks 50 = .ok (.aload_n 0, 1) := by decide +kernel
theorem dX8_walks_51 : decode cX8_walks 51 = .ok (.getfield 7, 3) := by decide +kernel
theorem dX8_walks_54 : decode cX8_walks 54 = .ok (.iconst 3, 1) := by decide +kernel
theorem dX8_walks_55 : decode cX8_walks 55 = .ok (.iaload, 1) := by decide +kernel
theorem dX8_walks_56 : decode cX8_walks 56 = .ok (.iconst 2, 1) := by decide +kernel
theorem dX8_walks_57 : decode cX8_walks 57 = .ok (.iadd, 1) := by decide +kernel
theorem dX8_walks_58 : decode cX8_walks 58 = .ok (.iconst 4, 1) := by decide +kernel
theorem dX8_walks_59 : decode cX8_walks 59 = .ok (.irem, 1) := by decide +kernel
theorem dX8_walks_60 : decode cX8_walks 60 = .ok (.istore_n 2, 1) := by decide +kernel
theorem dX8_walks_61 : decode cX8_walks 61 = .ok (.aload_n 0, 1) := by decide +kernel
theorem dX8_walks_62 : decode cX8_walks 62 = .ok (.getfield 41, 3) := by decide +kernel
theorem dX8_walks_65 : decode cX8_walks 65 = .ok (.iconst 4, 1) := by decide +kernel
theorem dX8_walks_66 : decode cX8_walks 66 = .ok (.iload_n 1, 1) := by decide +kernel
theorem dX8_walks_67 : decode cX8_walks 67 = .ok (.imul, 1) := by decide +kernel
theorem dX8_walks_68 : decode cX8_walks 68 = .ok (.iload_n 2, 1) := by decide +kernel
theorem dX8_walks_69 : decode cX8_walks 69 = .ok (.iadd, 1) := by decide +kernel
theorem dX8_walks_70 : decode cX8_walks 70 = .ok (.baload, 1) := by decide +kernel
theorem dX8_walks_71 : decode cX8_walks 71 = .ok (.ifCond .ne 147, 3) := by decide +kernel
theorem dX8_walks_74 : decode cX8_walks 74 = .ok (.aload_n 0, 1) := by decide +kernel
theorem dX8_walks_75 : decode cX8_walks 75 = .ok (.getfield 41, 3) := by decide +kernel
theorem dX8_walks_78 : decode cX8_walks 78 = .ok (.iconst 4, 1) := by decide +kernel
theorem dX8_walks_79 : decode cX8_walks 79 = .ok (.iload_n 1, 1) := by decide +kernel
theorem dX8_walks_80 : decode cX8_walks 80 = .ok (.imul, 1) := by decide +kernel
theorem dX8_walks_81 : decode cX8_walks 81 = .ok (.iload_n 2, 1) := by decide +kernel
theorem dX8_walks_82 : decode cX8_walks 82 = .ok (.iadd, 1) := by decide +kernel
theorem dX8_walks_83 : decode cX8_walks 83 = .ok (.iconst 1, 1) := by decide +kernel
theorem dX8_walks_84 : decode cX8_walks 84 = .ok (.bastore, 1) := by decide +kernel
theorem dX8_walks_85 : decode cX8_walks 85 = .ok (.aload_n 0, 1) := by decide +kernel
theorem dX8_walks_86 : decode cX8_walks 86 = .ok (.getfield 38, 3) := by decide +kernel
theorem dX8_walks_89 : decode cX8_walks 89 = .ok (.iload_n 1, 1) := by decide +kernel
theorem dX8_walks_90 : decode cX8_walks 90 = .ok (.dup2, 1) := by decide +kernel
theorem dX8_walks_91 : decode cX8_walks 91 = .ok (.iaload, 1) := by decide +kernel
theorem dX8_walks_92 : decode cX8_walks 92 = .ok (.iconst 1, 1) := by decide +kernel
theorem dX8_walks_93 : decode cX8_walks 93 = .ok (.iadd, 1) := by decide +kernel
theorem dX8_walks_94 : decode cX8_walks 94 = .ok (.iastore, 1) := by decide +kernel
theorem dX8_walks_95 : decode cX8_walks 95 = .ok (.iconst (-1), 1) := by decide +kernel
theorem dX8_walks_96 : decode cX8_walks 96 = .ok (.istore_n 3, 1) := by decide +kernel
theorem dX8_walks_97 : decode cX8_walks 97 = .ok (.iconst 0, 1) := by decide +kernel
theorem dX8_walks_98 : decode cX8_walks 98 = .ok (.istore 4, 2) := by decide +kernel
theorem dX8_walks_100 : decode cX8_walks 100 = .ok (.iload 4, 2) := by decide +kernel
theorem dX8_walks_102 : decode cX8_walks 102 = .ok (.iconst 4, 1) := by decide +kernel
theorem dX8_walks_103 : decode cX8_walks 103 = .ok (.if_icmp .ge 97, 3) := by decide +kernel
theorem dX8_walks_106 : decode cX8_walks 106 = .ok (.iload_n 3, 1) := by decide +kernel
theorem dX8_walks_107 : decode cX8_walks 107 = .ok (.ifCond .ge 93, 3) := by decide +kernel
theorem dX8_walks_110 : decode cX8_walks 110 = .ok (.iload 4, 2) := by decide +kernel
theorem dX8_walks_112 : decode cX8_walks 112 = .ok (.ifCond .ne 11, 3) := by decide +kernel
theorem dX8_walks_115 : decode cX8_walks 115 = .ok (.iload_n 2, 1) := by decide +kernel
theorem dX8_walks_116 : decode cX8_walks 116 = .ok (.iconst 1, 1) := by decide +kernel
theorem dX8_walks_117 : decode cX8_walks 117 = .ok (.iadd, 1) := by decide +kernel
theorem dX8_walks_118 : decode cX8_walks 118 = .ok (.iconst 4, 1) := by decide +kernel
theorem dX8_walks_119 : decode cX8_walks 119 = .ok (.irem, 1) := by decide +kernel
theorem dX8_walks_120 : decode cX8_walks 120 = .ok (.goto 32, 3) := by decide +kernel
theorem dX8_walks_123 : decode cX8_walks 123 = .ok (.iload 4, 2) := by decide +kernel
theorem dX8_walks_125 : decode cX8_walks 125 = .ok (.iconst 1, 1) := by decide +kernel
theorem dX8_walks_126 : decode cX8_walks 126 = .ok (.if_icmp .ne 7, 3) := by decide +kernel
theorem dX8_walks_129 : decode cX8_walks 129 = .ok (.iload_n 2, 1) := by decide +kernel
theorem dX8_walks_130 : decode cX8_walks 130 = .ok (.goto 22, 3) := by decide +kernel
theorem dX8_walks_133 : decode cX8_walks 133 = .ok (.iload 4, 2) := by decide +kernel
theorem dX8_walks_135 : decode cX8_walks 135 = .ok (.iconst 2, 1) := by decide +kernel
theorem dX8_walks_136 : decode cX8_walks 136 = .ok (.if_icmp .ne 11, 3) := by decide +kernel
theorem dX8_walks_139 : decode cX8_walks 139 = .ok (.iload_n 2, 1) := by decide +kernel
theorem dX8_walks_140 : decode cX8_walks 140 = .ok (.iconst 3, 1) := by decide +kernel
theorem dX8_walks_141 : decode cX8_walks 141 = .ok (.iadd, 1) := by decide +kernel
theorem dX8_walks_142 : decode cX8_walks 142 = .ok (.iconst 4, 1) := by decide +kernel
theorem dX8_walks_143 : decode cX8_walks 143 = .ok (.irem, 1) := by decide +kernel
theorem dX8_walks_144 : decode cX8_walks 144 = .ok (.goto 8, 3) := by decide +kernel
theorem dX8_walks_147 : decode cX8_walks 147 = .ok (.iload_n 2, 1) := by decide +kernel
theorem dX8_walks_148 : decode cX8_walks 148 = .ok (.iconst 2, 1) := by decide +kernel
theorem dX8_walks_149 : decode cX8_walks 149 = .ok (.iadd, 1) := by decide +kernel
theorem dX8_walks_150 : decode cX8_walks 150 = .ok (.iconst 4, 1) := by decide +kernel
theorem dX8_walks_151 : decode cX8_walks 151 = .ok (.irem, 1) := by decide +kernel
theorem dX8_walks_152 : decode cX8_walks 152 = .ok (.istore 5, 2) := by decide +kernel
theorem dX8_walks_154 : decode cX8_walks 154 = .ok (.iload_n 1, 1) := by decide +kernel
theorem dX8_walks_155 : decode cX8_walks 155 = .ok (.aload_n 0, 1) := by decide +kernel
theorem dX8_walks_156 : decode cX8_walks 156 = .ok (.getfield 7, 3) := by decide +kernel
theorem dX8_walks_159 : decode cX8_walks 159 = .ok (.iconst 4, 1) := by decide +kernel
theorem dX8_walks_160 : decode cX8_walks 160 = .ok (.iaload, 1) := by decide +kernel
theorem dX8_walks_161 : decode cX8_walks 161 = .ok (.if_icmp .ne 16, 3) := by decide +kernel
theorem dX8_walks_164 : decode cX8_walks 164 = .ok (.iload 5, 2) := by decide +kernel
theorem dX8_walks_166 : decode cX8_walks 166 = .ok (.aload_n 0, 1) := by decide +kernel
theorem dX8_walks_167 : decode cX8_walks 167 = .ok (.getfield 7, 3) := by decide +kernel
theorem dX8_walks_170 : decode cX8_walks 170 = .ok (.iconst 5, 1) := by decide +kernel
theorem dX8_walks_171 : decode cX8_walks 171 = .ok (.iaload, 1) := by decide +kernel
theorem dX8_walks_172 : decode cX8_walks 172 = .ok (.if_icmp .ne 5, 3) := by decide +kernel
theorem dX8_walks_175 : decode cX8_walks 175 = .ok (.iconst 1, 1) := by decide +kernel
theorem dX8_walks_176 : decode cX8_walks 176 = .ok (.ireturn, 1) := by decide +kernel
theorem dX8_walks_177 : decode cX8_walks 177 = .ok (.aload_n 0, 1) := by decide +kernel
theorem dX8_walks_178 : decode cX8_walks 178 = .ok (.iload_n 1, 1) := by decide +kernel
theorem dX8_walks_179 : decode cX8_walks 179 = .ok (.iload 5, 2) := by decide +kernel
theorem dX8_walks_181 : decode cX8_walks 181 = .ok (.invokevirtual 70, 3) := by decide +kernel
theorem dX8_walks_184 : decode cX8_walks 184 = .ok (.ifCond .eq 8, 3) := by decide +kernel
theorem dX8_walks_187 : decode cX8_walks 187 = .ok (.iload 5, 2) := by decide +kernel
theorem dX8_walks_189 : decode cX8_walks 189 = .ok (.goto 4, 3) := by decide +kernel
theorem dX8_walks_192 : decode cX8_walks 192 = .ok (.iconst (-1), 1) := by decide +kernel
theorem dX8_walks_193 : decode cX8_walks 193 = .ok (.istore_n 3, 1) := by decide +kernel
theorem dX8_walks_194 : decode cX8_walks 194 = .ok (.iinc 4 1, 3) := by decide +kernel
theorem dX8_walks_197 : decode cX8_walks 197 = .ok (.goto (-97), 3) := by decide +kernel
theorem dX8_walks_200 : decode cX8_walks 200 = .ok (.iload_n 3, 1) := by decide +kernel
theorem dX8_walks_201 : decode cX8_walks 201 = .ok (.ifCond .ge 5, 3) := by decide +kernel
theorem dX8_walks_204 : decode cX8_walks 204 = .ok (.iconst 0, 1) := by decide +kernel
theorem dX8_walks_205 : decode cX8_walks 205 = .ok (.ireturn, 1) := by decide +kernel
theorem dX8_walks_206 : decode cX8_walks 206 = .ok (.aload_n 0, 1) := by decide +kernel
theorem dX8_walks_207 : decode cX8_walks 207 = .ok (.iload_n 1, 1) := by decide +kernel
theorem dX8_walks_208 : decode cX8_walks 208 = .ok (.iload_n 3, 1) := by decide +kernel
theorem dX8_walks_209 : decode cX8_walks 209 = .ok (.invokevirtual 63, 3) := by decide +kernel
theorem dX8_walks_212 : decode cX8_walks 212 = .ok (.istore_n 1, 1) := by decide +kernel
theorem dX8_walks_213 : decode cX8_walks 213 = .ok (.iload_n 3, 1) := by decide +kernel
theorem dX8_walks_214 : decode cX8_walks 214 = .ok (.istore_n 2, 1) := by decide +kernel
theorem dX8_walks_215 : decode cX8_walks 215 = .ok (.goto (-154), 3) := by decide +kernel
theorem dX8_walks_218 : decode cX8_walks 218 = .ok (.iconst 0, 1) := by decide +kernel
theorem dX8_walks_219 : decode cX8_walks 219 = .ok (.ireturn, 1) := by decide +kernel
set_option maxRecDepth 20000 in
theorem ggX8_walkCells_X8_cells : GoodIn wsX8_walkCells wsX8_cells := goodIn_r _ [6, 7, 8, 9, 10, 11, 12, 13, 14, 15, 16, 17, 18, 19, 20, 21, 22, 23, 24, 25, 26, 27, 28, 29, 30, 31] (by decide +kernel) (by decide +kernel)
set_option maxRecDepth 20000 in
theorem gX8_walkCells_X8_cells : GoodIn wsX8_walkCells (wsV RX8 55 RX8 yX8_cells wsX8_cells) := goodIn_app (goodIn_of _ (by decide +kernel)) ggX8_walkCells_X8_cells
theorem dX8_walkCells_0 : decode cX8_walkCells 0 = .ok (.iconst 0, 1) := by decide +kernel
theorem dX8_walkCells_1 : decode cX8_walkCells 1 = .ok (.istore_n 1, 1) := by decide +kernel
theorem dX8_walkCells_2 : decode cX8_walkCells 2 = .ok (.iconst 0, 1) := by decide +kernel
theorem dX8_walkCells_3 : decode cX8_walkCells 3 = .ok (.istore_n 2, 1) := by decide +kernel
theorem dX8_walkCells_4 : decode cX8_walkCells 4 = .ok (.iload_n 2, 1) := by decide +kernel
theorem dX8_walkCells_5 : decode cX8_walkCells 5 = .ok (.aload_n 0, 1) := by decide +kernel
theorem dX8_walkCells_6 : decode cX8_walkCells 6 = .ok (.invokevirtual 55, 3) := by decide +kernel
theorem dX8_walkCells_9 : decode cX8_walkCells 9 = .ok (.if_icmp .ge 18, 3) := by decide +kernel
theorem dX8_walkCells_12 : decode cX8_walkCells 12 = .ok (.iload_n 1, 1) := by decide +kernel
theorem dX8_walkCells_13 : decode cX8_walkCells 13 = .ok (.aload_n 0, 1) := by decide +kernel
theorem dX8_walkCells_14 : decode cX8_walkCells 14 = .ok (.getfield 38, 3) := by decide +kernel
theorem dX8_walkCells_17 : decode cX8_walkCells 17 = .ok (.iload_n 2, 1) := by decide +kernel
theorem dX8_walkCells_18 : decode cX8_walkCells 18 = .ok (.iaload, 1) := by decide +kernel
theorem dX8_walkCells_19 : decode cX8_walkCells 19 = .ok (.iadd, 1) := by decide +kernel
theorem dX8_walkCells_20 : decode cX8_walkCells 20 = .ok (.istore_n 1, 1) := by decide +kernel
theorem dX8_walkCells_21 : decode cX8_walkCells 21 = .ok (.iinc 2 1, 3) := by decide +kernel
theorem dX8_walkCells_24 : decode cX8_walkCells 24 = .ok (.goto (-20), 3) := by decide +kernel
theorem dX8_walkCells_27 : decode cX8_walkCells 27 = .ok (.iload_n 1, 1) := by decide +kernel
theorem dX8_walkCells_28 : decode cX8_walkCells 28 = .ok (.ireturn, 1) := by decide +kernel
set_option maxRecDepth 20000 in
theorem ggX8_walkFault_X8_cells : GoodIn wsX8_walkFault wsX8_cells := goodIn_r _ [7, 2, 8, 9, 10, 11, 12, 13, 14, 15, 16, 17, 18, 19, 20, 21, 22, 23, 24, 25, 26, 27, 28, 29, 30, 31] (by decide +kernel) (by decide +kernel)
set_option maxRecDepth 20000 in
theorem gX8_walkFault_X8_cells : GoodIn wsX8_walkFault (wsV RX8 55 RX8 yX8_cells wsX8_cells) := goodIn_app (goodIn_of _ (by decide +kernel)) ggX8_walkFault_X8_cells
theorem dX8_walkFault_0 : decode cX8_walkFault 0 = .ok (.iconst 0, 1) := by decide +kernel
theorem dX8_walkFault_1 : decode cX8_walkFault 1 = .ok (.istore_n 1, 1) := by decide +kernel
theorem dX8_walkFault_2 : decode cX8_walkFault 2 = .ok (.iconst 0, 1) := by decide +kernel
theorem dX8_walkFault_3 : decode cX8_walkFault 3 = .ok (.istore_n 2, 1) := by decide +kernel
theorem dX8_walkFault_4 : decode cX8_walkFault 4 = .ok (.iload_n 2, 1) := by decide +kernel
theorem dX8_walkFault_5 : decode cX8_walkFault 5 = .ok (.aload_n 0, 1) := by decide +kernel
theorem dX8_walkFault_6 : decode cX8_walkFault 6 = .ok (.invokevirtual 55, 3) := by decide +kernel
theorem dX8_walkFault_9 : decode cX8_walkFault 9 = .ok (.if_icmp .ge 77, 3) := by decide +kernel
theorem dX8_walkFault_12 : decode cX8_walkFault 12 = .ok (.iconst 3, 1) := by decide +kernel
theorem dX8_walkFault_13 : decode cX8_walkFault 13 = .ok (.aload_n 0, 1) := by decide +kernel
theorem dX8_walkFault_14 : decode cX8_walkFault 14 = .ok (.getfield 38, 3) := by decide +kernel
theorem dX8_walkFault_17 : decode cX8_walkFault 17 = .ok (.iload_n 2, 1) := by decide +kernel
theorem dX8_walkFault_18 : decode cX8_walkFault 18 = .ok (.iaload, 1) := by decide +kernel
theorem dX8_walkFault_19 : decode cX8_walkFault 19 = .ok (.imul, 1) := by decide +kernel
theorem dX8_walkFault_20 : decode cX8_walkFault 20 = .ok (.bipush 9, 2) := by decide +kernel
theorem dX8_walkFault_22 : decode cX8_walkFault 22 = .ok (.if_icmp .le 8, 3) := by decide +kernel
theorem dX8_walkFault_25 : decode cX8_walkFault 25 = .ok (.bipush 9, 2) := by decide +kernel
theorem dX8_walkFault_27 : decode cX8_walkFault 27 = .ok (.goto 11, 3) := by decide +kernel
theorem dX8_walkFault_30 : decode cX8_walkFault 30 = .ok (.iconst 3, 1) := by decide +kernel
theorem dX8_walkFault_31 : decode cX8_walkFault 31 = .ok (.aload_n 0, 1) := by decide +kernel
theorem dX8_walkFault_32 : decode cX8_walkFault 32 = .ok (.getfield 38, 3) := by decide +kernel
theorem dX8_walkFault_35 : decode cX8_walkFault 35 = .ok (.iload_n 2, 1) := by decide +kernel
theorem dX8_walkFault_36 : decode cX8_walkFault 36 = .ok (.iaload, 1) := by decide +kernel
theorem dX8_walkFault_37 : decode cX8_walkFault 37 = .ok (.imul, 1) := by decide +kernel
theorem dX8_walkFault_38 : decode cX8_walkFault 38 = .ok (.istore_n 3, 1) := by decide +kernel
theorem dX8_walkFault_39 : decode cX8_walkFault 39 = .ok (.iload_n 1, 1) := by decide +kernel
theorem dX8_walkFault_40 : decode cX8_walkFault 40 = .ok (.iload_n 3, 1) := by decide +kernel
theorem dX8_walkFault_41 : decode cX8_walkFault 41 = .ok (.aload_n 0, 1) := by decide +kernel
theorem dX8_walkFault_42 : decode cX8_walkFault 42 = .ok (.getfield 7, 3) := by decide +kernel
theorem dX8_walkFault_45 : decode cX8_walkFault 45 = .ok (.bipush 6, 2) := by decide +kernel
theorem dX8_walkFault_47 : decode cX8_walkFault 47 = .ok (.iload_n 2, 1) := by decide +kernel
theorem dX8_walkFault_48 : decode cX8_walkFault 48 = .ok (.iadd, 1) := by decide +kernel
theorem dX8_walkFault_49 : decode cX8_walkFault 49 = .ok (.iaload, 1) := by decide +kernel
theorem dX8_walkFault_50 : decode cX8_walkFault 50 = .ok (.if_icmp .le 17, 3) := by decide +kernel
theorem dX8_walkFault_53 : decode cX8_walkFault 53 = .ok (.iload_n 3, 1) := by decide +kernel
theorem dX8_walkFault_54 : decode cX8_walkFault 54 = .ok (.aload_n 0, 1) := by decide +kernel
theorem dX8_walkFault_55 : decode cX8_walkFault 55 = .ok (.getfield 7, 3) := by decide +kernel
theorem dX8_walkFault_58 : decode cX8_walkFault 58 = .ok (.bipush 6, 2) := by decide +kernel
theorem dX8_walkFault_60 : decode cX8_walkFault 60 = .ok (.iload_n 2, 1) := by decide +kernel
theorem dX8_walkFault_61 : decode cX8_walkFault 61 = .ok (.iadd, 1) := by decide +kernel
theorem dX8_walkFault_62 : decode cX8_walkFault 62 = .ok (.iaload, 1) := by decide +kernel
theorem dX8_walkFault_63 : decode cX8_walkFault 63 = .ok (.isub, 1) := by decide +kernel
theorem dX8_walkFault_64 : decode cX8_walkFault 64 = .ok (.goto 14, 3) := by decide +kernel
theorem dX8_walkFault_67 : decode cX8_walkFault 67 = .ok (.aload_n 0, 1) := by decide +kernel
theorem dX8_walkFault_68 : decode cX8_walkFault 68 = .ok (.getfield 7, 3) := by decide +kernel
theorem dX8_walkFault_71 : decode cX8_walkFault 71 = .ok (.bipush 6, 2) := by decide +kernel
theorem dX8_walkFault_73 : decode cX8_walkFault 73 = .ok (.iload_n 2, 1) := by decide +kernel
theorem dX8_walkFault_74 : decode cX8_walkFault 74 = .ok (.iadd, 1) := by decide +kernel
theorem dX8_walkFault_75 : decode cX8_walkFault 75 = .ok (.iaload, 1) := by decide +kernel
theorem dX8_walkFault_76 : decode cX8_walkFault 76 = .ok (.iload_n 3, 1) := by decide +kernel
theorem dX8_walkFault_77 : decode cX8_walkFault 77 = .ok (.isub, 1) := by decide +kernel
theorem dX8_walkFault_78 : decode cX8_walkFault 78 = .ok (.iadd, 1) := by decide +kernel
theorem dX8_walkFault_79 : decode cX8_walkFault 79 = .ok (.istore_n 1, 1) := by decide +kernel
theorem dX8_walkFault_80 : decode cX8_walkFault 80 = .ok (.iinc 2 1, 3) := by decide +kernel
theorem dX8_walkFault_83 : decode cX8_walkFault 83 = .ok (.goto (-79), 3) := by decide +kernel
theorem dX8_walkFault_86 : decode cX8_walkFault 86 = .ok (.iload_n 1, 1) := by decide +kernel
theorem dX8_walkFault_87 : decode cX8_walkFault 87 = .ok (.ireturn, 1) := by decide +kernel
set_option maxRecDepth 20000 in
theorem ggX8_looksForBest_X8_cells : GoodIn wsX8_looksForBest wsX8_cells := goodIn_r _ [8, 3, 54, 55, 56, 57, 58, 59, 60, 61, 62, 63, 64, 65, 66, 67, 68, 69, 70, 71, 72, 73, 74, 75, 76, 77] (by decide +kernel) (by decide +kernel)
set_option maxRecDepth 20000 in
theorem gX8_looksForBest_X8_cells : GoodIn wsX8_looksForBest (wsV RX8 55 RX8 yX8_cells wsX8_cells) := goodIn_app (goodIn_of _ (by decide +kernel)) ggX8_looksForBest_X8_cells
set_option maxRecDepth 20000 in
theorem ggX8_looksForBest_X8_triesFor : GoodIn wsX8_looksForBest wsX8_triesFor := goodIn_r _ [12, 13, 14, 3, 2, 15, 16, 17, 18, 19, 7, 20, 21, 4, 5, 6, 8, 22, 23, 24, 25, 26, 27, 28, 29, 30, 31, 32, 33, 34, 35, 36, 37, 38, 39, 40, 41, 42, 43, 44, 45, 46, 47, 48, 49, 50, 51, 52, 53, 54, 55, 56, 57, 58, 59, 60, 61, 62, 63, 64, 65, 66, 67, 68, 69, 70, 71, 72, 73, 74, 75, 76, 77] (by decide +kernel) (by decide +kernel)
set_option maxRecDepth 20000 in
theorem gX8_looksForBest_X8_triesFor : GoodIn wsX8_looksForBest (wsV RX8 102 RX8 yX8_triesFor wsX8_triesFor) := goodIn_app (goodIn_of _ (by decide +kernel)) ggX8_looksForBest_X8_triesFor
theorem dX8_looksForBest_0 : decode cX8_looksForBest 0 = .ok (.aload_n 0, 1) := by decide +kernel
theorem dX8_looksForBest_1 : decode cX8_looksForBest 1 = .ok (.ldc 98, 2) := by decide +kernel
theorem dX8_looksForBest_3 : decode cX8_looksForBest 3 = .ok (.putfield 99, 3) := by decide +kernel
theorem dX8_looksForBest_6 : decode cX8_looksForBest 6 = .ok (.iconst 0, 1) := by decide +kernel
theorem dX8_looksForBest_7 : decode cX8_looksForBest 7 = .ok (.istore_n 1, 1) := by decide +kernel
theorem dX8_looksForBest_8 : decode cX8_looksForBest 8 = .ok (.iload_n 1, 1) := by decide +kernel
theorem dX8_looksForBest_9 : decode cX8_looksForBest 9 = .ok (.iconst 2, 1) := by decide +kernel
theorem dX8_looksForBest_10 : decode cX8_looksForBest 10 = .ok (.aload_n 0, 1) := by decide +kernel
theorem dX8_looksForBest_11 : decode cX8_looksForBest 11 = .ok (.invokevirtual 55, 3) := by decide +kernel
theorem dX8_looksForBest_14 : decode cX8_looksForBest 14 = .ok (.imul, 1) := by decide +kernel
theorem dX8_looksForBest_15 : decode cX8_looksForBest 15 = .ok (.if_icmp .ge 47, 3) := by decide +kernel
theorem dX8_looksForBest_18 : decode cX8_looksForBest 18 = .ok (.aload_n 0, 1) := by decide +kernel
theorem dX8_looksForBest_19 : decode cX8_looksForBest 19 = .ok (.getfield 7, 3) := by decide +kernel
theorem dX8_looksForBest_22 : decode cX8_looksForBest 22 = .ok (.bipush 42, 2) := by decide +kernel
theorem dX8_looksForBest_24 : decode cX8_looksForBest 24 = .ok (.iload_n 1, 1) := by decide +kernel
theorem dX8_looksForBest_25 : decode cX8_looksForBest 25 = .ok (.iadd, 1) := by decide +kernel
theorem dX8_looksForBest_26 : decode cX8_looksForBest 26 = .ok (.iaload, 1) := by decide +kernel
theorem dX8_looksForBest_27 : decode cX8_looksForBest 27 = .ok (.iconst 1, 1) := by decide +kernel
theorem dX8_looksForBest_28 : decode cX8_looksForBest 28 = .ok (.if_icmp .ne 28, 3) := by decide +kernel
theorem dX8_looksForBest_31 : decode cX8_looksForBest 31 = .ok (.aload_n 0, 1) := by decide +kernel
theorem dX8_looksForBest_32 : decode cX8_looksForBest 32 = .ok (.getfield 7, 3) := by decide +kernel
theorem dX8_looksForBest_35 : decode cX8_looksForBest 35 = .ok (.bipush 42, 2) := by decide +kernel
theorem dX8_looksForBest_37 : decode cX8_looksForBest 37 = .ok (.iload_n 1, 1) := by decide +kernel
theorem dX8_looksForBest_38 : decode cX8_looksForBest 38 = .ok (.iadd, 1) := by decide +kernel
theorem dX8_looksForBest_39 : decode cX8_looksForBest 39 = .ok (.iconst 0, 1) := by decide +kernel
theorem dX8_looksForBest_40 : decode cX8_looksForBest 40 = .ok (.iastore, 1) := by decide +kernel
theorem dX8_looksForBest_41 : decode cX8_looksForBest 41 = .ok (.aload_n 0, 1) := by decide +kernel
theorem dX8_looksForBest_42 : decode cX8_looksForBest 42 = .ok (.iload_n 1, 1) := by decide +kernel
theorem dX8_looksForBest_43 : decode cX8_looksForBest 43 = .ok (.invokevirtual 102, 3) := by decide +kernel
theorem dX8_looksForBest_46 : decode cX8_looksForBest 46 = .ok (.aload_n 0, 1) := by decide +kernel
theorem dX8_looksForBest_47 : decode cX8_looksForBest 47 = .ok (.getfield 7, 3) := by decide +kernel
theorem dX8_looksForBest_50 : decode cX8_looksForBest 50 = .ok (.bipush 42, 2) := by decide +kernel
theorem dX8_looksForBest_52 : decode cX8_looksForBest 52 = .ok (.iload_n 1, 1) := by decide +kernel
theorem dX8_looksForBest_53 : decode cX8_looksForBest 53 = .ok (.iadd, 1) := by decide +kernel
theorem dX8_looksForBest_54 : decode cX8_looksForBest 54 = .ok (.iconst 1, 1) := by decide +kernel
theorem dX8_looksForBest_55 : decode cX8_looksForBest 55 = .ok (.iastore, 1) := by decide +kernel
theorem dX8_looksForBest_56 : decode cX8_looksForBest 56 = .ok (.iinc 1 1, 3) := by decide +kernel
theorem dX8_looksForBest_59 : decode cX8_looksForBest 59 = .ok (.goto (-51), 3) := by decide +kernel
theorem dX8_looksForBest_62 : decode cX8_looksForBest 62 = .ok (.return_, 1) := by decide +kernel
set_option maxRecDepth 20000 in
theorem ggX8_triesFor_X8_measures : GoodIn wsX8_triesFor wsX8_measures := goodIn_r _ [11, 2, 12, 13, 14, 15, 10, 16, 3, 17, 18, 19, 20, 21, 22, 23, 24, 25, 26, 27, 28, 49, 50, 51, 52, 53, 54, 55, 56, 57, 58, 59, 60, 61, 62, 63, 64, 65, 66, 67, 68, 69, 70, 71, 72] (by decide +kernel) (by decide +kernel)
set_option maxRecDepth 20000 in
theorem gX8_triesFor_X8_measures : GoodIn wsX8_triesFor (wsV RX8 74 RX8 yX8_measures wsX8_measures) := goodIn_app (goodIn_of _ (by decide +kernel)) ggX8_triesFor_X8_measures
set_option maxRecDepth 20000 in
theorem ggX8_triesFor_X8_cells : GoodIn wsX8_triesFor wsX8_cells := goodIn_r _ [16, 3, 49, 50, 51, 52, 53, 54, 55, 56, 57, 58, 59, 60, 61, 62, 63, 64, 65, 66, 67, 68, 69, 70, 71, 72] (by decide +kernel) (by decide +kernel)
set_option maxRecDepth 20000 in
theorem gX8_triesFor_X8_cells : GoodIn wsX8_triesFor (wsV RX8 55 RX8 yX8_cells wsX8_cells) := goodIn_app (goodIn_of _ (by decide +kernel)) ggX8_triesFor_X8_cells
set_option maxRecDepth 20000 in
theorem ggX8_triesFor_X8_second : GoodIn wsX8_triesFor wsX8_second := goodIn_r _ [32, 21, 22, 23, 10, 24, 3, 49, 50, 51, 52, 53, 54, 55, 56, 57, 58, 59, 60, 61, 62, 63, 64, 65, 66, 67, 68, 69, 70, 71, 72] (by decide +kernel) (by decide +kernel)
set_option maxRecDepth 20000 in
theorem gX8_triesFor_X8_second : GoodIn wsX8_triesFor (wsV RX8 105 RX8 yX8_second wsX8_second) := goodIn_app (goodIn_of _ (by decide +kernel)) ggX8_triesFor_X8_second
set_option maxRecDepth 20000 in
theorem ggX8_triesFor_X8_wayFault : GoodIn wsX8_triesFor wsX8_wayFault := goodIn_r _ [36, 3, 37, 38, 39, 10, 40, 41, 42, 43, 44, 45, 46, 47, 2, 48, 13, 14, 15, 16, 7, 8, 9, 11, 12, 17, 18, 19, 20, 21, 22, 23, 24, 25, 26, 27, 28, 49, 50, 51, 52, 53, 54, 55, 56, 57, 58, 59, 60, 61, 62, 63, 64, 65, 66, 67, 68, 69, 70, 71, 72] (by decide +kernel) (by decide +kernel)
set_option maxRecDepth 20000 in
theorem gX8_triesFor_X8_wayFault : GoodIn wsX8_triesFor (wsV RX8 108 RX8 yX8_wayFault wsX8_wayFault) := goodIn_app (goodIn_of _ (by decide +kernel)) ggX8_triesFor_X8_wayFault
theorem dX8_triesFor_0 : decode cX8_triesFor 0 = .ok (.aload_n 0, 1) := by decide +kernel
theorem dX8_triesFor_1 : decode cX8_triesFor 1 = .ok (.iload_n 1, 1) := by decide +kernel
theorem dX8_triesFor_2 : decode cX8_triesFor 2 = .ok (.iconst 2, 1) := by decide +kernel
theorem dX8_triesFor_3 : decode cX8_triesFor 3 = .ok (.idiv, 1) := by decide +kernel
theorem dX8_triesFor_4 : decode cX8_triesFor 4 = .ok (.invokevirtual 74, 3) := by decide +kernel
theorem dX8_triesFor_7 : decode cX8_triesFor 7 = .ok (.iconst 0, 1) := by decide +kernel
theorem dX8_triesFor_8 : decode cX8_triesFor 8 = .ok (.istore_n 2, 1) := by decide +kernel
theorem dX8_triesFor_9 : decode cX8_triesFor 9 = .ok (.iload_n 2, 1) := by decide +kernel
theorem dX8_triesFor_10 : decode cX8_triesFor 10 = .ok (.aload_n 0, 1) := by decide +kernel
theorem dX8_triesFor_11 : decode cX8_triesFor 11 = .ok (.invokevirtual 55, 3) := by decide +kernel
theorem dX8_triesFor_14 : decode cX8_triesFor 14 = .ok (.if_icmp .ge 29, 3) := by decide +kernel
theorem dX8_triesFor_17 : decode cX8_triesFor 17 = .ok (.aload_n 0, 1) := by decide +kernel
theorem dX8_triesFor_18 : decode cX8_triesFor 18 = .ok (.getfield 44, 3) := by decide +kernel
theorem dX8_triesFor_21 : decode cX8_triesFor 21 = .ok (.iload_n 2, 1) := by decide +kernel
theorem dX8_triesFor_22 : decode cX8_triesFor 22 = .ok (.aload_n 0, 1) := by decide +kernel
theorem dX8_triesFor_23 : decode cX8_triesFor 23 = .ok (.getfield 25, 3) := by decide +kernel
theorem dX8_triesFor_26 : decode cX8_triesFor 26 = .ok (.iload_n 2, 1) := by decide +kernel
theorem dX8_triesFor_27 : decode cX8_triesFor 27 = .ok (.iaload, 1) := by decide +kernel
theorem dX8_triesFor_28 : decode cX8_triesFor 28 = .ok (.ifCond .lt 7, 3) := by decide +kernel
theorem dX8_triesFor_31 : decode cX8_triesFor 31 = .ok (.iconst 1, 1) := by decide +kernel
theorem dX8_triesFor_32 : decode cX8_triesFor 32 = .ok (.goto 4, 3) := by decide +kernel
theorem dX8_triesFor_35 : decode cX8_triesFor 35 = .ok (.iconst 0, 1) := by decide +kernel
theorem dX8_triesFor_36 : decode cX8_triesFor 36 = .ok (.bastore, 1) := by decide +kernel
theorem dX8_triesFor_37 : decode cX8_triesFor 37 = .ok (.iinc 2 1, 3) := by decide +kernel
theorem dX8_triesFor_40 : decode cX8_triesFor 40 = .ok (.goto (-31), 3) := by decide +kernel
theorem dX8_triesFor_43 : decode cX8_triesFor 43 = .ok (.iconst 0, 1) := by decide +kernel
theorem dX8_triesFor_44 : decode cX8_triesFor 44 = .ok (.istore_n 2, 1) := by decide +kernel
theorem dX8_triesFor_45 : decode cX8_triesFor 45 = .ok (.iload_n 2, 1) := by decide +kernel
theorem dX8_triesFor_46 : decode cX8_triesFor 46 = .ok (.iconst 2, 1) := by decide +kernel
theorem dX8_triesFor_47 : decode cX8_triesFor 47 = .ok (.aload_n 0, 1) := by decide +kernel
theorem dX8_triesFor_48 : decode cX8_triesFor 48 = .ok (.invokevirtual 55, 3) := by decide +kernel
theorem dX8_triesFor_51 : decode cX8_triesFor 51 = .ok (.imul, 1) := by decide +kernel
theorem dX8_triesFor_52 : decode cX8_triesFor 52 = .ok (.if_icmp .ge 92, 3) := by decide +kernel
theorem dX8_triesFor_55 : decode cX8_triesFor 55 = .ok (.aload_n 0, 1) := by decide +kernel
theorem dX8_triesFor_56 : decode cX8_triesFor 56 = .ok (.iload_n 2, 1) := by decide +kernel
theorem dX8_triesFor_57 : decode cX8_triesFor 57 = .ok (.invokevirtual 105, 3) := by decide +kernel
theorem dX8_triesFor_60 : decode cX8_triesFor 60 = .ok (.istore_n 3, 1) := by decide +kernel
theorem dX8_triesFor_61 : decode cX8_triesFor 61 = .ok (.iload_n 2, 1) := by decide +kernel
theorem dX8_triesFor_62 : decode cX8_triesFor 62 = .ok (.iload_n 1, 1) := by decide +kernel
theorem dX8_triesFor_63 : decode cX8_triesFor 63 = .ok (.if_icmp .eq 75, 3) := by decide +kernel
theorem dX8_triesFor_66 : decode cX8_triesFor 66 = .ok (.iload_n 3, 1) := by decide +kernel
theorem dX8_triesFor_67 : decode cX8_triesFor 67 = .ok (.ifCond .lt 71, 3) := by decide +kernel
theorem dX8_triesFor_70 : decode cX8_triesFor 70 = .ok (.aload_n 0, 1) := by decide +kernel
theorem dX8_triesFor_71 : decode cX8_triesFor 71 = .ok (.getfield 44, 3) := by decide +kernel
theorem dX8_triesFor_74 : decode cX8_triesFor 74 = .ok (.iload_n 2, 1) := by decide +kernel
theorem dX8_triesFor_75 : decode cX8_triesFor 75 = .ok (.iconst 2, 1) := by decide +kernel
theorem dX8_triesFor_76 : decode cX8_triesFor 76 = .ok (.idiv, 1) := by decide +kernel
theorem dX8_triesFor_77 : decode cX8_triesFor 77 = .ok (.baload, 1) := by decide +kernel
theorem dX8_triesFor_78 : decode cX8_triesFor 78 = .ok (.aload_n 0, 1) := by decide +kernel
theorem dX8_triesFor_79 : decode cX8_triesFor 79 = .ok (.getfield 44, 3) := by decide +kernel
theorem dX8_triesFor_82 : decode cX8_triesFor 82 = .ok (.iload_n 3, 1) := by decide +kernel
theorem dX8_triesFor_83 : decode cX8_triesFor 83 = .ok (.baload, 1) := by decide +kernel
theorem dX8_triesFor_84 : decode cX8_triesFor 84 = .ok (.if_icmp .eq 54, 3) := by decide +kernel
theorem dX8_triesFor_87 : decode cX8_triesFor 87 = .ok (.aload_n 0, 1) := by decide +kernel
theorem dX8_triesFor_88 : decode cX8_triesFor 88 = .ok (.getfield 7, 3) := by decide +kernel
theorem dX8_triesFor_91 : decode cX8_triesFor 91 = .ok (.bipush 42, 2) := by decide +kernel
theorem dX8_triesFor_93 : decode cX8_triesFor 93 = .ok (.iload_n 2, 1) := by decide +kernel
theorem dX8_triesFor_94 : decode cX8_triesFor 94 = .ok (.iadd, 1) := by decide +kernel
theorem dX8_triesFor_95 : decode cX8_triesFor 95 = .ok (.iconst 1, 1) := by decide +kernel
theorem dX8_triesFor_96 : decode cX8_triesFor 96 = .ok (.iastore, 1) := by decide +kernel
theorem dX8_triesFor_97 : decode cX8_triesFor 97 = .ok (.aload_n 0, 1) := by decide +kernel
theorem dX8_triesFor_98 : decode cX8_triesFor 98 = .ok (.invokevirtual 108, 3) := by decide +kernel
theorem dX8_triesFor_101 : decode cX8_triesFor 101 = .ok (.istore 4, 2) := by decide +kernel
theorem dX8_triesFor_103 : decode cX8_triesFor 103 = .ok (.aload_n 0, 1) := by decide +kernel
theorem dX8_triesFor_104 : decode cX8_triesFor 104 = .ok (.getfield 7, 3) := by decide +kernel
theorem dX8_triesFor_107 : decode cX8_triesFor 107 = .ok (.bipush 42, 2) := by decide +kernel
theorem dX8_triesFor_109 : decode cX8_triesFor 109 = .ok (.iload_n 2, 1) := by decide +kernel
theorem dX8_triesFor_110 : decode cX8_triesFor 110 = .ok (.iadd, 1) := by decide +kernel
theorem dX8_triesFor_111 : decode cX8_triesFor 111 = .ok (.iconst 0, 1) := by decide +kernel
theorem dX8_triesFor_112 : decode cX8_triesFor 112 = .ok (.iastore, 1) := by decide +kernel
theorem dX8_triesFor_113 : decode cX8_triesFor 113 = .ok (.iload 4, 2) := by decide +kernel
theorem dX8_triesFor_115 : decode cX8_triesFor 115 = .ok (.aload_n 0, 1) := by decide +kernel
theorem dX8_triesFor_116 : decode cX8_triesFor 116 = .ok (.getfield 99, 3) := by decide +kernel
theorem dX8_triesFor_119 : decode cX8_triesFor 119 = .ok (.if_icmp .ge 19, 3) := by decide +kernel
theorem dX8_triesFor_122 : decode cX8_triesFor 122 = .ok (.aload_n 0, 1) := by decide +kernel
theorem dX8_triesFor_123 : decode cX8_triesFor 123 = .ok (.iload 4, 2) := by decide +kernel
theorem dX8_triesFor_125 : decode cX8_triesFor 125 = .ok (.putfield 99, 3) := by decide +kernel
theorem dX8_triesFor_128 : decode cX8_triesFor 128 = .ok (.aload_n 0, 1) := by decide +kernel
theorem dX8_triesFor_129 : decode cX8_triesFor 129 = .ok (.iload_n 1, 1) := by decide +kernel
theorem dX8_triesFor_130 : decode cX8_triesFor 130 = .ok (.putfield 111, 3) := by decide +kernel
theorem dX8_triesFor_133 : decode cX8_triesFor 133 = .ok (.aload_n 0, 1) := by decide +kernel
theorem dX8_triesFor_134 : decode cX8_triesFor 134 = .ok (.iload_n 2, 1) := by decide +kernel
theorem dX8_triesFor_135 : decode cX8_triesFor 135 = .ok (.putfield 114, 3) := by decide +kernel
theorem dX8_triesFor_138 : decode cX8_triesFor 138 = .ok (.iinc 2 1, 3) := by decide +kernel
theorem dX8_triesFor_141 : decode cX8_triesFor 141 = .ok (.goto (-96), 3) := by decide +kernel
theorem dX8_triesFor_144 : decode cX8_triesFor 144 = .ok (.return_, 1) := by decide +kernel
theorem dX8_exchanges_0 : decode cX8_exchanges 0 = .ok (.aload_n 0, 1) := by decide +kernel
theorem dX8_exchanges_1 : decode cX8_exchanges 1 = .ok (.getfield 7, 3) := by decide +kernel
theorem dX8_exchanges_4 : decode cX8_exchanges 4 = .ok (.bipush 42, 2) := by decide +kernel
theorem dX8_exchanges_6 : decode cX8_exchanges 6 = .ok (.aload_n 0, 1) := by decide +kernel
theorem dX8_exchanges_7 : decode cX8_exchanges 7 = .ok (.getfield 111, 3) := by decide +kernel
theorem dX8_exchanges_10 : decode cX8_exchanges 10 = .ok (.iadd, 1) := by decide +kernel
theorem dX8_exchanges_11 : decode cX8_exchanges 11 = .ok (.iconst 0, 1) := by decide +kernel
theorem dX8_exchanges_12 : decode cX8_exchanges 12 = .ok (.iastore, 1) := by decide +kernel
theorem dX8_exchanges_13 : decode cX8_exchanges 13 = .ok (.aload_n 0, 1) := by decide +kernel
theorem dX8_exchanges_14 : decode cX8_exchanges 14 = .ok (.getfield 7, 3) := by decide +kernel
theorem dX8_exchanges_17 : decode cX8_exchanges 17 = .ok (.bipush 42, 2) := by decide +kernel
theorem dX8_exchanges_19 : decode cX8_exchanges 19 = .ok (.aload_n 0, 1) := by decide +kernel
theorem dX8_exchanges_20 : decode cX8_exchanges 20 = .ok (.getfield 114, 3) := by decide +kernel
theorem dX8_exchanges_23 : decode cX8_exchanges 23 = .ok (.iadd, 1) := by decide +kernel
theorem dX8_exchanges_24 : decode cX8_exchanges 24 = .ok (.iconst 1, 1) := by decide +kernel
theorem dX8_exchanges_25 : decode cX8_exchanges 25 = .ok (.iastore, 1) := by decide +kernel
theorem dX8_exchanges_26 : decode cX8_exchanges 26 = .ok (.return_, 1) := by decide +kernel
set_option maxRecDepth 20000 in
theorem ggX8_build_X8_begins : GoodIn wsX8_build wsX8_begins := goodIn_r _ [6, 7, 1, 56, 57, 58, 59, 60, 61, 62, 63, 64, 65, 66, 67, 68, 69, 70, 71, 72, 73, 74, 75, 76, 77, 78, 79] (by decide +kernel) (by decide +kernel)
set_option maxRecDepth 20000 in
theorem gX8_build_X8_begins : GoodIn wsX8_build (wsV RX8 117 RX8 yX8_begins wsX8_begins) := goodIn_app (goodIn_of _ (by decide +kernel)) ggX8_build_X8_begins
set_option maxRecDepth 20000 in
theorem ggX8_build_X8_isWhole : GoodIn wsX8_build wsX8_isWhole := goodIn_r _ [11, 12, 13, 14, 5, 15, 16, 17, 18, 19, 1, 20, 21, 22, 23, 56, 57, 58, 59, 60, 61, 62, 63, 64, 65, 66, 67, 68, 69, 70, 71, 72, 73, 74, 75, 76, 77, 78, 79] (by decide +kernel) (by decide +kernel)
set_option maxRecDepth 20000 in
theorem gX8_build_X8_isWhole : GoodIn wsX8_build (wsV RX8 120 RX8 yX8_isWhole wsX8_isWhole) := goodIn_app (goodIn_of _ (by decide +kernel)) ggX8_build_X8_isWhole
set_option maxRecDepth 20000 in
theorem ggX8_build_X8_cells : GoodIn wsX8_build wsX8_cells := goodIn_r _ [19, 1, 56, 57, 58, 59, 60, 61, 62, 63, 64, 65, 66, 67, 68, 69, 70, 71, 72, 73, 74, 75, 76, 77, 78, 79] (by decide +kernel) (by decide +kernel)
set_option maxRecDepth 20000 in
theorem gX8_build_X8_cells : GoodIn wsX8_build (wsV RX8 55 RX8 yX8_cells wsX8_cells) := goodIn_app (goodIn_of _ (by decide +kernel)) ggX8_build_X8_cells
set_option maxRecDepth 20000 in
theorem ggX8_build_X8_second : GoodIn wsX8_build wsX8_second := goodIn_r _ [27, 28, 29, 30, 5, 31, 1, 56, 57, 58, 59, 60, 61, 62, 63, 64, 65, 66, 67, 68, 69, 70, 71, 72, 73, 74, 75, 76, 77, 78, 79] (by decide +kernel) (by decide +kernel)
set_option maxRecDepth 20000 in
theorem gX8_build_X8_second : GoodIn wsX8_build (wsV RX8 105 RX8 yX8_second wsX8_second) := goodIn_app (goodIn_of _ (by decide +kernel)) ggX8_build_X8_second
set_option maxRecDepth 20000 in
theorem ggX8_build_X8_areJoined : GoodIn wsX8_build wsX8_areJoined := goodIn_r _ [35, 36, 37, 38, 39, 5, 40, 41, 16, 17, 18, 19, 1, 42, 43, 44, 45, 28, 29, 30, 31, 46, 47, 48, 49, 56, 57, 58, 59, 60, 61, 62, 63, 64, 65, 66, 67, 68, 69, 70, 71, 72, 73, 74, 75, 76, 77, 78, 79] (by decide +kernel) (by decide +kernel)
set_option maxRecDepth 20000 in
theorem gX8_build_X8_areJoined : GoodIn wsX8_build (wsV RX8 124 RX8 yX8_areJoined wsX8_areJoined) := goodIn_app (goodIn_of _ (by decide +kernel)) ggX8_build_X8_areJoined
set_option maxRecDepth 20000 in
theorem ggX8_build_X8_acted : GoodIn wsX8_build wsX8_acted := goodIn_r _ [53, 1, 7, 54, 55, 56, 57, 58, 59, 60, 61, 62, 63, 64, 65, 66, 67, 68, 69, 70, 71, 72, 73, 74, 75, 76, 77, 78, 79] (by decide +kernel) (by decide +kernel)
set_option maxRecDepth 20000 in
theorem gX8_build_X8_acted : GoodIn wsX8_build (wsV RX8 127 RX8 yX8_acted wsX8_acted) := goodIn_app (goodIn_of _ (by decide +kernel)) ggX8_build_X8_acted
theorem dX8_build_0 : decode cX8_build 0 = .ok (.aload_n 0, 1) := by decide +kernel
theorem dX8_build_1 : decode cX8_build 1 = .ok (.invokevirtual 117, 3) := by decide +kernel
theorem dX8_build_4 : decode cX8_build 4 = .ok (.aload_n 0, 1) := by decide +kernel
theorem dX8_build_5 : decode cX8_build 5 = .ok (.invokevirtual 120, 3) := by decide +kernel
theorem dX8_build_8 : decode cX8_build 8 = .ok (.ifCond .eq 6, 3) := by decide +kernel
theorem dX8_build_11 : decode cX8_build 11 = .ok (.bipush (-2), 2) := by decide +kernel
theorem dX8_build_13 : decode cX8_build 13 = .ok (.ireturn, 1) := by decide +kernel
theorem dX8_build_14 : decode cX8_build 14 = .ok (.iconst 0, 1) := by decide +kernel
theorem dX8_build_15 : decode cX8_build 15 = .ok (.istore_n 1, 1) := by decide +kernel
theorem dX8_build_16 : decode cX8_build 16 = .ok (.aload_n 0, 1) := by decide +kernel
theorem dX8_build_17 : decode cX8_build 17 = .ok (.invokevirtual 120, 3) := by decide +kernel
theorem dX8_build_20 : decode cX8_build 20 = .ok (.ifCond .ne 110, 3) := by decide +kernel
theorem dX8_build_23 : decode cX8_build 23 = .ok (.iconst (-1), 1) := by decide +kernel
theorem dX8_build_24 : decode cX8_build 24 = .ok (.istore_n 2, 1) := by decide +kernel
theorem dX8_build_25 : decode cX8_build 25 = .ok (.iconst (-1), 1) := by decide +kernel
theorem dX8_build_26 : decode cX8_build 26 = .ok (.istore_n 3, 1) := by decide +kernel
theorem dX8_build_27 : decode cX8_build 27 = .ok (.iconst 0, 1) := by decide +kernel
theorem dX8_build_28 : decode cX8_build 28 = .ok (.istore 4, 2) := by decide +kernel
theorem dX8_build_30 : decode cX8_build 30 = .ok (.iload 4, 2) := by decide +kernel
theorem dX8_build_32 : decode cX8_build 32 = .ok (.iconst 2, 1) := by decide +kernel
theorem dX8_build_33 : decode cX8_build 33 = .ok (.aload_n 0, 1) := by decide +kernel
theorem dX8_build_34 : decode cX8_build 34 = .ok (.invokevirtual 55, 3) := by decide +kernel
theorem dX8_build_37 : decode cX8_build 37 = .ok (.imul, 1) := by decide +kernel
theorem dX8_build_38 : decode cX8_build 38 = .ok (.if_icmp .ge 76, 3) := by decide +kernel
theorem dX8_build_41 : decode cX8_build 41 = .ok (.aload_n 0, 1) := by decide +kernel
theorem dX8_build_42 : decode cX8_build 42 = .ok (.iload 4, 2) := by decide +kernel
theorem dX8_build_44 : decode cX8_build 44 = .ok (.invokevirtual 105, 3) := by decide +kernel
theorem dX8_build_47 : decode cX8_build 47 = .ok (.istore 5, 2) := by decide +kernel
theorem dX8_build_49 : decode cX8_build 49 = .ok (.iload 5, 2) := by decide +kernel
theorem dX8_build_51 : decode cX8_build 51 = .ok (.ifCond .ge 7, 3) := by decide +kernel
theorem dX8_build_54 : decode cX8_build 54 = .ok (.iconst (-1), 1) := by decide +kernel
theorem dX8_build_55 : decode cX8_build 55 = .ok (.goto 26, 3) := by decide +kernel
theorem dX8_build_58 : decode cX8_build 58 = .ok (.aload_n 0, 1) := by decide +kernel
theorem dX8_build_59 : decode cX8_build 59 = .ok (.getfield 7, 3) := by decide +kernel
theorem dX8_build_62 : decode cX8_build 62 = .ok (.bipush 6, 2) := by decide +kernel
theorem dX8_build_64 : decode cX8_build 64 = .ok (.iload 4, 2) := by decide +kernel
theorem dX8_build_66 : decode cX8_build 66 = .ok (.iconst 2, 1) := by decide +kernel
theorem dX8_build_67 : decode cX8_build 67 = .ok (.idiv, 1) := by decide +kernel
theorem dX8_build_68 : decode cX8_build 68 = .ok (.iadd, 1) := by decide +kernel
theorem dX8_build_69 : decode cX8_build 69 = .ok (.iaload, 1) := by decide +kernel
theorem dX8_build_70 : decode cX8_build 70 = .ok (.aload_n 0, 1) := by decide +kernel
theorem dX8_build_71 : decode cX8_build 71 = .ok (.getfield 7, 3) := by decide +kernel
theorem dX8_build_74 : decode cX8_build 74 = .ok (.bipush 6, 2) := by decide +kernel
theorem dX8_build_76 : decode cX8_build 76 = .ok (.iload 5, 2) := by decide +kernel
theorem dX8_build_78 : decode cX8_build 78 = .ok (.iadd, 1) := by decide +kernel
theorem dX8_build_79 : decode cX8_build 79 = .ok (.iaload, 1) := by decide +kernel
theorem dX8_build_80 : decode cX8_build 80 = .ok (.iadd, 1) := by decide +kernel
theorem dX8_build_81 : decode cX8_build 81 = .ok (.istore 6, 2) := by decide +kernel
theorem dX8_build_83 : decode cX8_build 83 = .ok (.iload 6, 2) := by decide +kernel
theorem dX8_build_85 : decode cX8_build 85 = .ok (.iload_n 3, 1) := by decide +kernel
theorem dX8_build_86 : decode cX8_build 86 = .ok (.if_icmp .le 22, 3) := by decide +kernel
theorem dX8_build_89 : decode cX8_build 89 = .ok (.aload_n 0, 1) := by decide +kernel
theorem dX8_build_90 : decode cX8_build 90 = .ok (.iload 4, 2) := by decide +kernel
theorem dX8_build_92 : decode cX8_build 92 = .ok (.iconst 2, 1) := by decide +kernel
theorem dX8_build_93 : decode cX8_build 93 = .ok (.idiv, 1) := by decide +kernel
theorem dX8_build_94 : decode cX8_build 94 = .ok (.iload 5, 2) := by decide +kernel
theorem dX8_build_96 : decode cX8_build 96 = .ok (.invokevirtual 124, 3) := by decide +kernel
theorem dX8_build_99 : decode cX8_build 99 = .ok (.ifCond .ne 9, 3) := by decide +kernel
theorem dX8_build_102 : decode cX8_build 102 = .ok (.iload 4, 2) := by decide +kernel
theorem dX8_build_104 : decode cX8_build 104 = .ok (.istore_n 2, 1) := by decide +kernel
theorem dX8_build_105 : decode cX8_build 105 = .ok (.iload 6, 2) := by decide +kernel
theorem dX8_build_107 : decode cX8_build 107 = .ok (.istore_n 3, 1) := by decide +kernel
theorem dX8_build_108 : decode cX8_build 108 = .ok (.iinc 4 1, 3) := by decide +kernel
theorem dX8_build_111 : decode cX8_build 111 = .ok (.goto (-81), 3) := by decide +kernel
theorem dX8_build_114 : decode cX8_build 114 = .ok (.aload_n 0, 1) := by decide +kernel
theorem dX8_build_115 : decode cX8_build 115 = .ok (.getfield 7, 3) := by decide +kernel
theorem dX8_build_118 : decode cX8_build 118 = .ok (.bipush 42, 2) := by decide +kernel
theorem dX8_build_120 : decode cX8_build 120 = .ok (.iload_n 2, 1) := by decide +kernel
theorem dX8_build_121 : decode cX8_build 121 = .ok (.iadd, 1) := by decide +kernel
theorem dX8_build_122 : decode cX8_build 122 = .ok (.iconst 1, 1) := by decide +kernel
theorem dX8_build_123 : decode cX8_build 123 = .ok (.iastore, 1) := by decide +kernel
theorem dX8_build_124 : decode cX8_build 124 = .ok (.iinc 1 1, 3) := by decide +kernel
theorem dX8_build_127 : decode cX8_build 127 = .ok (.goto (-111), 3) := by decide +kernel
theorem dX8_build_130 : decode cX8_build 130 = .ok (.aload_n 0, 1) := by decide +kernel
theorem dX8_build_131 : decode cX8_build 131 = .ok (.iload_n 1, 1) := by decide +kernel
theorem dX8_build_132 : decode cX8_build 132 = .ok (.invokevirtual 127, 3) := by decide +kernel
theorem dX8_build_135 : decode cX8_build 135 = .ok (.ireturn, 1) := by decide +kernel
set_option maxRecDepth 20000 in
theorem ggX8_exchange_X8_begins : GoodIn wsX8_exchange wsX8_begins := goodIn_r _ [6, 7, 8, 85, 86, 87, 88, 89, 90, 91, 92, 93, 94, 95, 96, 97, 98, 99, 100, 101, 102, 103, 104, 105, 106, 107, 108] (by decide +kernel) (by decide +kernel)
set_option maxRecDepth 20000 in
theorem gX8_exchange_X8_begins : GoodIn wsX8_exchange (wsV RX8 117 RX8 yX8_begins wsX8_begins) := goodIn_app (goodIn_of _ (by decide +kernel)) ggX8_exchange_X8_begins
set_option maxRecDepth 20000 in
theorem ggX8_exchange_X8_isWhole : GoodIn wsX8_exchange wsX8_isWhole := goodIn_r _ [12, 13, 14, 15, 5, 16, 17, 18, 19, 20, 8, 21, 22, 23, 24, 85, 86, 87, 88, 89, 90, 91, 92, 93, 94, 95, 96, 97, 98, 99, 100, 101, 102, 103, 104, 105, 106, 107, 108] (by decide +kernel) (by decide +kernel)
set_option maxRecDepth 20000 in
theorem gX8_exchange_X8_isWhole : GoodIn wsX8_exchange (wsV RX8 120 RX8 yX8_isWhole wsX8_isWhole) := goodIn_app (goodIn_of _ (by decide +kernel)) ggX8_exchange_X8_isWhole
set_option maxRecDepth 20000 in
theorem ggX8_exchange_X8_looksForBest : GoodIn wsX8_exchange wsX8_looksForBest := goodIn_r _ [28, 29, 1, 8, 17, 18, 19, 5, 20, 30, 31, 32, 33, 34, 35, 36, 37, 38, 39, 40, 41, 42, 43, 44, 45, 46, 47, 48, 49, 50, 51, 52, 53, 54, 55, 56, 57, 58, 59, 60, 61, 62, 63, 64, 65, 66, 67, 68, 69, 70, 71, 72, 73, 74, 85, 86, 87, 88, 89, 90, 91, 92, 93, 94, 95, 96, 97, 98, 99, 100, 101, 102, 103, 104, 105, 106, 107, 108] (by decide +kernel) (by decide +kernel)
set_option maxRecDepth 20000 in
theorem gX8_exchange_X8_looksForBest : GoodIn wsX8_exchange (wsV RX8 130 RX8 yX8_looksForBest wsX8_looksForBest) := goodIn_app (goodIn_of _ (by decide +kernel)) ggX8_exchange_X8_looksForBest
set_option maxRecDepth 20000 in
theorem ggX8_exchange_X8_wayFault : GoodIn wsX8_exchange wsX8_wayFault := goodIn_r _ [62, 8, 63, 64, 65, 5, 66, 67, 68, 69, 70, 71, 72, 73, 35, 74, 17, 18, 19, 20, 38, 39, 40, 41, 42, 43, 44, 45, 46, 47, 48, 49, 50, 51, 52, 53, 54, 85, 86, 87, 88, 89, 90, 91, 92, 93, 94, 95, 96, 97, 98, 99, 100, 101, 102, 103, 104, 105, 106, 107, 108] (by decide +kernel) (by decide +kernel)
set_option maxRecDepth 20000 in
theorem gX8_exchange_X8_wayFault : GoodIn wsX8_exchange (wsV RX8 108 RX8 yX8_wayFault wsX8_wayFault) := goodIn_app (goodIn_of _ (by decide +kernel)) ggX8_exchange_X8_wayFault
set_option maxRecDepth 20000 in
theorem ggX8_exchange_X8_exchanges : GoodIn wsX8_exchange wsX8_exchanges := goodIn_r _ [78, 8, 36, 37, 85, 86, 87, 88, 89, 90, 91, 92, 93, 94, 95, 96, 97, 98, 99, 100, 101, 102, 103, 104, 105, 106, 107, 108] (by decide +kernel) (by decide +kernel)
set_option maxRecDepth 20000 in
theorem gX8_exchange_X8_exchanges : GoodIn wsX8_exchange (wsV RX8 133 RX8 yX8_exchanges wsX8_exchanges) := goodIn_app (goodIn_of _ (by decide +kernel)) ggX8_exchange_X8_exchanges
set_option maxRecDepth 20000 in
theorem ggX8_exchange_X8_acted : GoodIn wsX8_exchange wsX8_acted := goodIn_r _ [82, 8, 7, 83, 84, 85, 86, 87, 88, 89, 90, 91, 92, 93, 94, 95, 96, 97, 98, 99, 100, 101, 102, 103, 104, 105, 106, 107, 108] (by decide +kernel) (by decide +kernel)
set_option maxRecDepth 20000 in
theorem gX8_exchange_X8_acted : GoodIn wsX8_exchange (wsV RX8 127 RX8 yX8_acted wsX8_acted) := goodIn_app (goodIn_of _ (by decide +kernel)) ggX8_exchange_X8_acted
theorem dX8_exchange_0 : decode cX8_exchange 0 = .ok (.aload_n 0, 1) := by decide +kernel
theorem dX8_exchange_1 : decode cX8_exchange 1 = .ok (.invokevirtual 117, 3) := by decide +kernel
theorem dX8_exchange_4 : decode cX8_exchange 4 = .ok (.aload_n 0, 1) := by decide +kernel
theorem dX8_exchange_5 : decode cX8_exchange 5 = .ok (.invokevirtual 120, 3) := by decide +kernel
theorem dX8_exchange_8 : decode cX8_exchange 8 = .ok (.ifCond .ne 6, 3) := by decide +kernel
theorem dX8_exchange_11 : decode cX8_exchange 11 = .ok (.bipush (-2), 2) := by decide +kernel
theorem dX8_exchange_13 : decode cX8_exchange 13 = .ok (.ireturn, 1) := by decide +kernel
theorem dX8_exchange_14 : decode cX8_exchange 14 = .ok (.aload_n 0, 1) := by decide +kernel
theorem dX8_exchange_15 : decode cX8_exchange 15 = .ok (.invokevirtual 130, 3) := by decide +kernel
theorem dX8_exchange_18 : decode cX8_exchange 18 = .ok (.aload_n 0, 1) := by decide +kernel
theorem dX8_exchange_19 : decode cX8_exchange 19 = .ok (.getfield 99, 3) := by decide +kernel
theorem dX8_exchange_22 : decode cX8_exchange 22 = .ok (.aload_n 0, 1) := by decide +kernel
theorem dX8_exchange_23 : decode cX8_exchange 23 = .ok (.invokevirtual 108, 3) := by decide +kernel
theorem dX8_exchange_26 : decode cX8_exchange 26 = .ok (.if_icmp .lt 6, 3) := by decide +kernel
theorem dX8_exchange_29 : decode cX8_exchange 29 = .ok (.bipush (-2), 2) := by decide +kernel
theorem dX8_exchange_31 : decode cX8_exchange 31 = .ok (.ireturn, 1) := by decide +kernel
theorem dX8_exchange_32 : decode cX8_exchange 32 = .ok (.aload_n 0, 1) := by decide +kernel
theorem dX8_exchange_33 : decode cX8_exchange 33 = .ok (.invokevirtual 133, 3) := by decide +kernel
theorem dX8_exchange_36 : decode cX8_exchange 36 = .ok (.aload_n 0, 1) := by decide +kernel
theorem dX8_exchange_37 : decode cX8_exchange 37 = .ok (.aload_n 0, 1) := by decide +kernel
theorem dX8_exchange_38 : decode cX8_exchange 38 = .ok (.invokevirtual 108, 3) := by decide +kernel
theorem dX8_exchange_41 : decode cX8_exchange 41 = .ok (.invokevirtual 127, 3) := by decide +kernel
theorem dX8_exchange_44 : decode cX8_exchange 44 = .ok (.ireturn, 1) := by decide +kernel
set_option maxRecDepth 20000 in
theorem ggX8_improve_X8_begins : GoodIn wsX8_improve wsX8_begins := goodIn_r _ [6, 7, 8, 85, 86, 87, 88, 89, 90, 91, 92, 93, 94, 95, 96, 97, 98, 99, 100, 101, 102, 103, 104, 105, 106, 107, 108] (by decide +kernel) (by decide +kernel)
set_option maxRecDepth 20000 in
theorem gX8_improve_X8_begins : GoodIn wsX8_improve (wsV RX8 117 RX8 yX8_begins wsX8_begins) := goodIn_app (goodIn_of _ (by decide +kernel)) ggX8_improve_X8_begins
set_option maxRecDepth 20000 in
theorem ggX8_improve_X8_isWhole : GoodIn wsX8_improve wsX8_isWhole := goodIn_r _ [12, 13, 14, 15, 5, 16, 17, 18, 19, 20, 8, 21, 22, 23, 24, 85, 86, 87, 88, 89, 90, 91, 92, 93, 94, 95, 96, 97, 98, 99, 100, 101, 102, 103, 104, 105, 106, 107, 108] (by decide +kernel) (by decide +kernel)
set_option maxRecDepth 20000 in
theorem gX8_improve_X8_isWhole : GoodIn wsX8_improve (wsV RX8 120 RX8 yX8_isWhole wsX8_isWhole) := goodIn_app (goodIn_of _ (by decide +kernel)) ggX8_improve_X8_isWhole
set_option maxRecDepth 20000 in
theorem ggX8_improve_X8_looksForBest : GoodIn wsX8_improve wsX8_looksForBest := goodIn_r _ [28, 29, 1, 8, 17, 18, 19, 5, 20, 30, 31, 32, 33, 34, 35, 36, 37, 38, 39, 40, 41, 42, 43, 44, 45, 46, 47, 48, 49, 50, 51, 52, 53, 54, 55, 56, 57, 58, 59, 60, 61, 62, 63, 64, 65, 66, 67, 68, 69, 70, 71, 72, 73, 74, 85, 86, 87, 88, 89, 90, 91, 92, 93, 94, 95, 96, 97, 98, 99, 100, 101, 102, 103, 104, 105, 106, 107, 108] (by decide +kernel) (by decide +kernel)
set_option maxRecDepth 20000 in
theorem gX8_improve_X8_looksForBest : GoodIn wsX8_improve (wsV RX8 130 RX8 yX8_looksForBest wsX8_looksForBest) := goodIn_app (goodIn_of _ (by decide +kernel)) ggX8_improve_X8_looksForBest
set_option maxRecDepth 20000 in
theorem ggX8_improve_X8_wayFault : GoodIn wsX8_improve wsX8_wayFault := goodIn_r _ [62, 8, 63, 64, 65, 5, 66, 67, 68, 69, 70, 71, 72, 73, 35, 74, 17, 18, 19, 20, 38, 39, 40, 41, 42, 43, 44, 45, 46, 47, 48, 49, 50, 51, 52, 53, 54, 85, 86, 87, 88, 89, 90, 91, 92, 93, 94, 95, 96, 97, 98, 99, 100, 101, 102, 103, 104, 105, 106, 107, 108] (by decide +kernel) (by decide +kernel)
set_option maxRecDepth 20000 in
theorem gX8_improve_X8_wayFault : GoodIn wsX8_improve (wsV RX8 108 RX8 yX8_wayFault wsX8_wayFault) := goodIn_app (goodIn_of _ (by decide +kernel)) ggX8_improve_X8_wayFault
set_option maxRecDepth 20000 in
theorem ggX8_improve_X8_exchanges : GoodIn wsX8_improve wsX8_exchanges := goodIn_r _ [78, 8, 36, 37, 85, 86, 87, 88, 89, 90, 91, 92, 93, 94, 95, 96, 97, 98, 99, 100, 101, 102, 103, 104, 105, 106, 107, 108] (by decide +kernel) (by decide +kernel)
set_option maxRecDepth 20000 in
theorem gX8_improve_X8_exchanges : GoodIn wsX8_improve (wsV RX8 133 RX8 yX8_exchanges wsX8_exchanges) := goodIn_app (goodIn_of _ (by decide +kernel)) ggX8_improve_X8_exchanges
set_option maxRecDepth 20000 in
theorem ggX8_improve_X8_acted : GoodIn wsX8_improve wsX8_acted := goodIn_r _ [82, 8, 7, 83, 84, 85, 86, 87, 88, 89, 90, 91, 92, 93, 94, 95, 96, 97, 98, 99, 100, 101, 102, 103, 104, 105, 106, 107, 108] (by decide +kernel) (by decide +kernel)
set_option maxRecDepth 20000 in
theorem gX8_improve_X8_acted : GoodIn wsX8_improve (wsV RX8 127 RX8 yX8_acted wsX8_acted) := goodIn_app (goodIn_of _ (by decide +kernel)) ggX8_improve_X8_acted
theorem dX8_improve_0 : decode cX8_improve 0 = .ok (.aload_n 0, 1) := by decide +kernel
theorem dX8_improve_1 : decode cX8_improve 1 = .ok (.invokevirtual 117, 3) := by decide +kernel
theorem dX8_improve_4 : decode cX8_improve 4 = .ok (.aload_n 0, 1) := by decide +kernel
theorem dX8_improve_5 : decode cX8_improve 5 = .ok (.invokevirtual 120, 3) := by decide +kernel
theorem dX8_improve_8 : decode cX8_improve 8 = .ok (.ifCond .ne 6, 3) := by decide +kernel
theorem dX8_improve_11 : decode cX8_improve 11 = .ok (.bipush (-2), 2) := by decide +kernel
theorem dX8_improve_13 : decode cX8_improve 13 = .ok (.ireturn, 1) := by decide +kernel
theorem dX8_improve_14 : decode cX8_improve 14 = .ok (.iconst 0, 1) := by decide +kernel
theorem dX8_improve_15 : decode cX8_improve 15 = .ok (.istore_n 1, 1) := by decide +kernel
theorem dX8_improve_16 : decode cX8_improve 16 = .ok (.aload_n 0, 1) := by decide +kernel
theorem dX8_improve_17 : decode cX8_improve 17 = .ok (.invokevirtual 130, 3) := by decide +kernel
theorem dX8_improve_20 : decode cX8_improve 20 = .ok (.aload_n 0, 1) := by decide +kernel
theorem dX8_improve_21 : decode cX8_improve 21 = .ok (.getfield 99, 3) := by decide +kernel
theorem dX8_improve_24 : decode cX8_improve 24 = .ok (.aload_n 0, 1) := by decide +kernel
theorem dX8_improve_25 : decode cX8_improve 25 = .ok (.invokevirtual 108, 3) := by decide +kernel
theorem dX8_improve_28 : decode cX8_improve 28 = .ok (.if_icmp .ge 17, 3) := by decide +kernel
theorem dX8_improve_31 : decode cX8_improve 31 = .ok (.aload_n 0, 1) := by decide +kernel
theorem dX8_improve_32 : decode cX8_improve 32 = .ok (.invokevirtual 133, 3) := by decide +kernel
theorem dX8_improve_35 : decode cX8_improve 35 = .ok (.iinc 1 1, 3) := by decide +kernel
theorem dX8_improve_38 : decode cX8_improve 38 = .ok (.aload_n 0, 1) := by decide +kernel
theorem dX8_improve_39 : decode cX8_improve 39 = .ok (.invokevirtual 130, 3) := by decide +kernel
theorem dX8_improve_42 : decode cX8_improve 42 = .ok (.goto (-22), 3) := by decide +kernel
theorem dX8_improve_45 : decode cX8_improve 45 = .ok (.aload_n 0, 1) := by decide +kernel
theorem dX8_improve_46 : decode cX8_improve 46 = .ok (.iload_n 1, 1) := by decide +kernel
theorem dX8_improve_47 : decode cX8_improve 47 = .ok (.invokevirtual 127, 3) := by decide +kernel
theorem dX8_improve_50 : decode cX8_improve 50 = .ok (.ireturn, 1) := by decide +kernel
set_option maxRecDepth 20000 in
theorem ggX8_best_X8_in : GoodIn wsX8_best wsX8_in := goodIn_r _ [7] (by decide +kernel) (by decide +kernel)
set_option maxRecDepth 20000 in
theorem gX8_best_X8_in : GoodIn wsX8_best (va_wsS RX8 59 yX8_in wsX8_in) := goodIn_app (goodIn_of _ (by decide +kernel)) ggX8_best_X8_in
set_option maxRecDepth 20000 in
theorem ggX8_best_X8_isWhole : GoodIn wsX8_best wsX8_isWhole := goodIn_r _ [11, 12, 13, 14, 6, 15, 16, 17, 18, 19, 20, 21, 22, 23, 24, 73, 74, 75, 76, 77, 78, 79, 80, 81, 82, 83, 84, 85, 86, 87, 88, 89, 90, 91, 92, 93, 94, 95, 96] (by decide +kernel) (by decide +kernel)
set_option maxRecDepth 20000 in
theorem gX8_best_X8_isWhole : GoodIn wsX8_best (wsV RX8 120 RX8 yX8_isWhole wsX8_isWhole) := goodIn_app (goodIn_of _ (by decide +kernel)) ggX8_best_X8_isWhole
set_option maxRecDepth 20000 in
theorem ggX8_best_X8_looksForBest : GoodIn wsX8_best wsX8_looksForBest := goodIn_r _ [28, 29, 3, 20, 16, 17, 18, 6, 19, 30, 31, 32, 33, 34, 35, 1, 2, 36, 37, 38, 39, 40, 41, 42, 43, 44, 45, 46, 47, 48, 49, 50, 51, 52, 53, 54, 55, 56, 57, 58, 59, 60, 61, 62, 63, 64, 65, 66, 67, 68, 69, 70, 71, 72, 73, 74, 75, 76, 77, 78, 79, 80, 81, 82, 83, 84, 85, 86, 87, 88, 89, 90, 91, 92, 93, 94, 95, 96] (by decide +kernel) (by decide +kernel)
set_option maxRecDepth 20000 in
theorem gX8_best_X8_looksForBest : GoodIn wsX8_best (wsV RX8 130 RX8 yX8_looksForBest wsX8_looksForBest) := goodIn_app (goodIn_of _ (by decide +kernel)) ggX8_best_X8_looksForBest
theorem dX8_best_0 : decode cX8_best 0 = .ok (.iload_n 1, 1) := by decide +kernel
theorem dX8_best_1 : decode cX8_best 1 = .ok (.iconst 0, 1) := by decide +kernel
theorem dX8_best_2 : decode cX8_best 2 = .ok (.iconst 2, 1) := by decide +kernel
theorem dX8_best_3 : decode cX8_best 3 = .ok (.invokestatic 59, 3) := by decide +kernel
theorem dX8_best_6 : decode cX8_best 6 = .ok (.ifCond .ne 5, 3) := by decide +kernel
theorem dX8_best_9 : decode cX8_best 9 = .ok (.iconst (-1), 1) := by decide +kernel
theorem dX8_best_10 : decode cX8_best 10 = .ok (.ireturn, 1) := by decide +kernel
theorem dX8_best_11 : decode cX8_best 11 = .ok (.aload_n 0, 1) := by decide +kernel
theorem dX8_best_12 : decode cX8_best 12 = .ok (.invokevirtual 120, 3) := by decide +kernel
theorem dX8_best_15 : decode cX8_best 15 = .ok (.ifCond .ne 6, 3) := by decide +kernel
theorem dX8_best_18 : decode cX8_best 18 = .ok (.bipush (-2), 2) := by decide +kernel
theorem dX8_best_20 : decode cX8_best 20 = .ok (.ireturn, 1) := by decide +kernel
theorem dX8_best_21 : decode cX8_best 21 = .ok (.aload_n 0, 1) := by decide +kernel
theorem dX8_best_22 : decode cX8_best 22 = .ok (.invokevirtual 130, 3) := by decide +kernel
theorem dX8_best_25 : decode cX8_best 25 = .ok (.iload_n 1, 1) := by decide +kernel
theorem dX8_best_26 : decode cX8_best 26 = .ok (.ifCond .ne 10, 3) := by decide +kernel
theorem dX8_best_29 : decode cX8_best 29 = .ok (.aload_n 0, 1) := by decide +kernel
theorem dX8_best_30 : decode cX8_best 30 = .ok (.getfield 111, 3) := by decide +kernel
theorem dX8_best_33 : decode cX8_best 33 = .ok (.goto 19, 3) := by decide +kernel
theorem dX8_best_36 : decode cX8_best 36 = .ok (.iload_n 1, 1) := by decide +kernel
theorem dX8_best_37 : decode cX8_best 37 = .ok (.iconst 1, 1) := by decide +kernel
theorem dX8_best_38 : decode cX8_best 38 = .ok (.if_icmp .ne 10, 3) := by decide +kernel
theorem dX8_best_41 : decode cX8_best 41 = .ok (.aload_n 0, 1) := by decide +kernel
theorem dX8_best_42 : decode cX8_best 42 = .ok (.getfield 114, 3) := by decide +kernel
theorem dX8_best_45 : decode cX8_best 45 = .ok (.goto 7, 3) := by decide +kernel
theorem dX8_best_48 : decode cX8_best 48 = .ok (.aload_n 0, 1) := by decide +kernel
theorem dX8_best_49 : decode cX8_best 49 = .ok (.getfield 99, 3) := by decide +kernel
theorem dX8_best_52 : decode cX8_best 52 = .ok (.ireturn, 1) := by decide +kernel
set_option maxRecDepth 20000 in
theorem ggX8_tone_X8_begins : GoodIn wsX8_tone wsX8_begins := goodIn_r _ [6, 7, 1, 25, 26, 27, 28, 29, 30, 31, 32, 33, 34, 35, 36, 37, 38, 39, 40, 41, 42, 43, 44, 45, 46, 47, 48] (by decide +kernel) (by decide +kernel)
set_option maxRecDepth 20000 in
theorem gX8_tone_X8_begins : GoodIn wsX8_tone (wsV RX8 117 RX8 yX8_begins wsX8_begins) := goodIn_app (goodIn_of _ (by decide +kernel)) ggX8_tone_X8_begins
set_option maxRecDepth 20000 in
theorem ggX8_tone_X8_isCell : GoodIn wsX8_tone wsX8_isCell := goodIn_r _ [11, 12, 13, 14, 5, 15, 1, 16, 17, 18, 25, 26, 27, 28, 29, 30, 31, 32, 33, 34, 35, 36, 37, 38, 39, 40, 41, 42, 43, 44, 45, 46, 47, 48] (by decide +kernel) (by decide +kernel)
set_option maxRecDepth 20000 in
theorem gX8_tone_X8_isCell : GoodIn wsX8_tone (wsV RX8 136 RX8 yX8_isCell wsX8_isCell) := goodIn_app (goodIn_of _ (by decide +kernel)) ggX8_tone_X8_isCell
set_option maxRecDepth 20000 in
theorem ggX8_tone_X8_in : GoodIn wsX8_tone wsX8_in := goodIn_r _ [18] (by decide +kernel) (by decide +kernel)
set_option maxRecDepth 20000 in
theorem gX8_tone_X8_in : GoodIn wsX8_tone (va_wsS RX8 59 yX8_in wsX8_in) := goodIn_app (goodIn_of _ (by decide +kernel)) ggX8_tone_X8_in
set_option maxRecDepth 20000 in
theorem ggX8_tone_X8_acted : GoodIn wsX8_tone wsX8_acted := goodIn_r _ [22, 1, 7, 23, 24, 25, 26, 27, 28, 29, 30, 31, 32, 33, 34, 35, 36, 37, 38, 39, 40, 41, 42, 43, 44, 45, 46, 47, 48] (by decide +kernel) (by decide +kernel)
set_option maxRecDepth 20000 in
theorem gX8_tone_X8_acted : GoodIn wsX8_tone (wsV RX8 127 RX8 yX8_acted wsX8_acted) := goodIn_app (goodIn_of _ (by decide +kernel)) ggX8_tone_X8_acted
theorem dX8_tone_0 : decode cX8_tone 0 = .ok (.aload_n 0, 1) := by decide +kernel
theorem dX8_tone_1 : decode cX8_tone 1 = .ok (.invokevirtual 117, 3) := by decide +kernel
theorem dX8_tone_4 : decode cX8_tone 4 = .ok (.aload_n 0, 1) := by decide +kernel
theorem dX8_tone_5 : decode cX8_tone 5 = .ok (.iload_n 1, 1) := by decide +kernel
theorem dX8_tone_6 : decode cX8_tone 6 = .ok (.invokevirtual 136, 3) := by decide +kernel
theorem dX8_tone_9 : decode cX8_tone 9 = .ok (.ifCond .eq 13, 3) := by decide +kernel
theorem dX8_tone_12 : decode cX8_tone 12 = .ok (.iload_n 2, 1) := by decide +kernel
theorem dX8_tone_13 : decode cX8_tone 13 = .ok (.iconst 0, 1) := by decide +kernel
theorem dX8_tone_14 : decode cX8_tone 14 = .ok (.bipush 9, 2) := by decide +kernel
theorem dX8_tone_16 : decode cX8_tone 16 = .ok (.invokestatic 59, 3) := by decide +kernel
theorem dX8_tone_19 : decode cX8_tone 19 = .ok (.ifCond .ne 5, 3) := by decide +kernel
theorem dX8_tone_22 : decode cX8_tone 22 = .ok (.iconst (-1), 1) := by decide +kernel
theorem dX8_tone_23 : decode cX8_tone 23 = .ok (.ireturn, 1) := by decide +kernel
theorem dX8_tone_24 : decode cX8_tone 24 = .ok (.aload_n 0, 1) := by decide +kernel
theorem dX8_tone_25 : decode cX8_tone 25 = .ok (.getfield 7, 3) := by decide +kernel
theorem dX8_tone_28 : decode cX8_tone 28 = .ok (.bipush 6, 2) := by decide +kernel
theorem dX8_tone_30 : decode cX8_tone 30 = .ok (.iload_n 1, 1) := by decide +kernel
theorem dX8_tone_31 : decode cX8_tone 31 = .ok (.iadd, 1) := by decide +kernel
theorem dX8_tone_32 : decode cX8_tone 32 = .ok (.iaload, 1) := by decide +kernel
theorem dX8_tone_33 : decode cX8_tone 33 = .ok (.istore_n 3, 1) := by decide +kernel
theorem dX8_tone_34 : decode cX8_tone 34 = .ok (.aload_n 0, 1) := by decide +kernel
theorem dX8_tone_35 : decode cX8_tone 35 = .ok (.getfield 7, 3) := by decide +kernel
theorem dX8_tone_38 : decode cX8_tone 38 = .ok (.bipush 6, 2) := by decide +kernel
theorem dX8_tone_40 : decode cX8_tone 40 = .ok (.iload_n 1, 1) := by decide +kernel
theorem dX8_tone_41 : decode cX8_tone 41 = .ok (.iadd, 1) := by decide +kernel
theorem dX8_tone_42 : decode cX8_tone 42 = .ok (.iload_n 2, 1) := by decide +kernel
theorem dX8_tone_43 : decode cX8_tone 43 = .ok (.iastore, 1) := by decide +kernel
theorem dX8_tone_44 : decode cX8_tone 44 = .ok (.aload_n 0, 1) := by decide +kernel
theorem dX8_tone_45 : decode cX8_tone 45 = .ok (.iload_n 3, 1) := by decide +kernel
theorem dX8_tone_46 : decode cX8_tone 46 = .ok (.invokevirtual 127, 3) := by decide +kernel
theorem dX8_tone_49 : decode cX8_tone 49 = .ok (.ireturn, 1) := by decide +kernel
set_option maxRecDepth 20000 in
theorem ggX8_carve_X8_begins : GoodIn wsX8_carve wsX8_begins := goodIn_r _ [6, 7, 1, 55, 56, 57, 58, 59, 60, 61, 62, 63, 64, 65, 66, 67, 68, 69, 70, 71, 72, 73, 74, 75, 76, 77, 78] (by decide +kernel) (by decide +kernel)
set_option maxRecDepth 20000 in
theorem gX8_carve_X8_begins : GoodIn wsX8_carve (wsV RX8 117 RX8 yX8_begins wsX8_begins) := goodIn_app (goodIn_of _ (by decide +kernel)) ggX8_carve_X8_begins
set_option maxRecDepth 20000 in
theorem ggX8_carve_X8_isCell : GoodIn wsX8_carve wsX8_isCell := goodIn_r _ [11, 12, 13, 14, 5, 15, 1, 16, 17, 18, 55, 56, 57, 58, 59, 60, 61, 62, 63, 64, 65, 66, 67, 68, 69, 70, 71, 72, 73, 74, 75, 76, 77, 78] (by decide +kernel) (by decide +kernel)
set_option maxRecDepth 20000 in
theorem gX8_carve_X8_isCell : GoodIn wsX8_carve (wsV RX8 136 RX8 yX8_isCell wsX8_isCell) := goodIn_app (goodIn_of _ (by decide +kernel)) ggX8_carve_X8_isCell
set_option maxRecDepth 20000 in
theorem ggX8_carve_X8_in : GoodIn wsX8_carve wsX8_in := goodIn_r _ [18] (by decide +kernel) (by decide +kernel)
set_option maxRecDepth 20000 in
theorem gX8_carve_X8_in : GoodIn wsX8_carve (va_wsS RX8 59 yX8_in wsX8_in) := goodIn_app (goodIn_of _ (by decide +kernel)) ggX8_carve_X8_in
set_option maxRecDepth 20000 in
theorem ggX8_carve_X8_besides : GoodIn wsX8_carve wsX8_besides := goodIn_r _ [22, 1, 55, 56, 57, 58, 59, 60, 61, 62, 63, 64, 65, 66, 67, 68, 69, 70, 71, 72, 73, 74, 75, 76, 77, 78] (by decide +kernel) (by decide +kernel)
set_option maxRecDepth 20000 in
theorem gX8_carve_X8_besides : GoodIn wsX8_carve (wsV RX8 63 RX8 yX8_besides wsX8_besides) := goodIn_app (goodIn_of _ (by decide +kernel)) ggX8_carve_X8_besides
set_option maxRecDepth 20000 in
theorem ggX8_carve_X8_areJoined : GoodIn wsX8_carve wsX8_areJoined := goodIn_r _ [26, 27, 28, 29, 30, 5, 31, 32, 12, 13, 14, 15, 1, 33, 34, 35, 36, 19, 20, 21, 22, 37, 38, 39, 40, 55, 56, 57, 58, 59, 60, 61, 62, 63, 64, 65, 66, 67, 68, 69, 70, 71, 72, 73, 74, 75, 76, 77, 78] (by decide +kernel) (by decide +kernel)
set_option maxRecDepth 20000 in
theorem gX8_carve_X8_areJoined : GoodIn wsX8_carve (wsV RX8 124 RX8 yX8_areJoined wsX8_areJoined) := goodIn_app (goodIn_of _ (by decide +kernel)) ggX8_carve_X8_areJoined
set_option maxRecDepth 20000 in
theorem ggX8_carve_X8_numberOf : GoodIn wsX8_carve wsX8_numberOf := goodIn_r _ [40, 19, 20, 21, 5, 22, 1, 55, 56, 57, 58, 59, 60, 61, 62, 63, 64, 65, 66, 67, 68, 69, 70, 71, 72, 73, 74, 75, 76, 77, 78] (by decide +kernel) (by decide +kernel)
set_option maxRecDepth 20000 in
theorem gX8_carve_X8_numberOf : GoodIn wsX8_carve (wsV RX8 67 RX8 yX8_numberOf wsX8_numberOf) := goodIn_app (goodIn_of _ (by decide +kernel)) ggX8_carve_X8_numberOf
set_option maxRecDepth 20000 in
theorem ggX8_carve_X8_parts : GoodIn wsX8_carve wsX8_parts := goodIn_r _ [44, 12, 13, 14, 5, 15, 1, 45, 46, 47, 48, 55, 56, 57, 58, 59, 60, 61, 62, 63, 64, 65, 66, 67, 68, 69, 70, 71, 72, 73, 74, 75, 76, 77, 78] (by decide +kernel) (by decide +kernel)
set_option maxRecDepth 20000 in
theorem gX8_carve_X8_parts : GoodIn wsX8_carve (wsV RX8 81 RX8 yX8_parts wsX8_parts) := goodIn_app (goodIn_of _ (by decide +kernel)) ggX8_carve_X8_parts
set_option maxRecDepth 20000 in
theorem ggX8_carve_X8_acted : GoodIn wsX8_carve wsX8_acted := goodIn_r _ [52, 1, 7, 53, 54, 55, 56, 57, 58, 59, 60, 61, 62, 63, 64, 65, 66, 67, 68, 69, 70, 71, 72, 73, 74, 75, 76, 77, 78] (by decide +kernel) (by decide +kernel)
set_option maxRecDepth 20000 in
theorem gX8_carve_X8_acted : GoodIn wsX8_carve (wsV RX8 127 RX8 yX8_acted wsX8_acted) := goodIn_app (goodIn_of _ (by decide +kernel)) ggX8_carve_X8_acted

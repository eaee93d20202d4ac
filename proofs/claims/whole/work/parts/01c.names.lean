theorem dX3_init_0 : decode cX3_init 0 = .ok (.aload_n 0, 1) := by decide +kernel
theorem dX3_init_1 : decode cX3_init 1 = .ok (.invokespecial 3, 3) := by decide +kernel
theorem dX3_init_4 : decode cX3_init 4 = .ok (.aload_n 0, 1) := by decide +kernel
theorem dX3_init_5 : decode cX3_init 5 = .ok (.bipush 36, 2) := by decide +kernel
theorem dX3_init_7 : decode cX3_init 7 = .ok (.newarray .int, 2) := by decide +kernel
theorem dX3_init_9 : decode cX3_init 9 = .ok (.putfield 9, 3) := by decide +kernel
theorem dX3_init_12 : decode cX3_init 12 = .ok (.aload_n 0, 1) := by decide +kernel
theorem dX3_init_13 : decode cX3_init 13 = .ok (.bipush 36, 2) := by decide +kernel
theorem dX3_init_15 : decode cX3_init 15 = .ok (.newarray .int, 2) := by decide +kernel
theorem dX3_init_17 : decode cX3_init 17 = .ok (.putfield 15, 3) := by decide +kernel
theorem dX3_init_20 : decode cX3_init 20 = .ok (.aload_n 0, 1) := by decide +kernel
theorem dX3_init_21 : decode cX3_init 21 = .ok (.iconst 2, 1) := by decide +kernel
theorem dX3_init_22 : decode cX3_init 22 = .ok (.newarray .int, 2) := by decide +kernel
theorem dX3_init_24 : decode cX3_init 24 = .ok (.putfield 18, 3) := by decide +kernel
theorem dX3_init_27 : decode cX3_init 27 = .ok (.aload_n 0, 1) := by decide +kernel
theorem dX3_init_28 : decode cX3_init 28 = .ok (.iconst 2, 1) := by decide +kernel
theorem dX3_init_29 : decode cX3_init 29 = .ok (.newarray .int, 2) := by decide +kernel
theorem dX3_init_31 : decode cX3_init 31 = .ok (.putfield 21, 3) := by decide +kernel
theorem dX3_init_34 : decode cX3_init 34 = .ok (.aload_n 0, 1) := by decide +kernel
theorem dX3_init_35 : decode cX3_init 35 = .ok (.iconst 4, 1) := by decide +kernel
theorem dX3_init_36 : decode cX3_init 36 = .ok (.iconst 4, 1) := by decide +kernel
theorem dX3_init_37 : decode cX3_init 37 = .ok (.invokevirtual 24, 3) := by decide +kernel
theorem dX3_init_40 : decode cX3_init 40 = .ok (.return_, 1) := by decide +kernel
set_option maxRecDepth 20000 in
theorem ggX3_clear_J7_fill_53178 : GoodIn wsX3_clear wsJ7_fill_53178 := goodIn_r _ [10] (by decide +kernel) (by decide +kernel)
set_option maxRecDepth 20000 in
theorem gX3_clear_J7_fill_53178 : GoodIn wsX3_clear (va_wsS RX3 35 yJ7_fill_53178 wsJ7_fill_53178) := goodIn_app (goodIn_of _ (by decide +kernel)) ggX3_clear_J7_fill_53178
set_option maxRecDepth 20000 in
theorem ggX3_clear_X7_put : GoodIn wsX3_clear wsX7_put := goodIn_r _ [13] (by decide +kernel) (by decide +kernel)
set_option maxRecDepth 20000 in
theorem gX3_clear_X7_put_n41 : GoodIn wsX3_clear (wsX7_put) := ggX3_clear_X7_put
set_option maxRecDepth 20000 in
theorem ggX3_clear_X3_cells : GoodIn wsX3_clear wsX3_cells := goodIn_r _ [18, 1, 2, 19, 20, 21, 22, 23, 24] (by decide +kernel) (by decide +kernel)
set_option maxRecDepth 20000 in
theorem gX3_clear_X3_cells : GoodIn wsX3_clear (wsV RX3 45 RX3 yX3_cells wsX3_cells) := goodIn_app (goodIn_of _ (by decide +kernel)) ggX3_clear_X3_cells
theorem dX3_clear_0 : decode cX3_clear 0 = .ok (.aload_n 0, 1) := by decide +kernel
theorem dX3_clear_1 : decode cX3_clear 1 = .ok (.iload_n 1, 1) := by decide +kernel
theorem dX3_clear_2 : decode cX3_clear 2 = .ok (.putfield 28, 3) := by decide +kernel
theorem dX3_clear_5 : decode cX3_clear 5 = .ok (.aload_n 0, 1) := by decide +kernel
theorem dX3_clear_6 : decode cX3_clear 6 = .ok (.iload_n 2, 1) := by decide +kernel
theorem dX3_clear_7 : decode cX3_clear 7 = .ok (.putfield 32, 3) := by decide +kernel
theorem dX3_clear_10 : decode cX3_clear 10 = .ok (.aload_n 0, 1) := by decide +kernel
theorem dX3_clear_11 : decode cX3_clear 11 = .ok (.getfield 9, 3) := by decide +kernel
theorem dX3_clear_14 : decode cX3_clear 14 = .ok (.iconst 0, 1) := by decide +kernel
theorem dX3_clear_15 : decode cX3_clear 15 = .ok (.invokestatic 35, 3) := by decide +kernel
theorem dX3_clear_18 : decode cX3_clear 18 = .ok (.aload_n 0, 1) := by decide +kernel
theorem dX3_clear_19 : decode cX3_clear 19 = .ok (.getfield 15, 3) := by decide +kernel
theorem dX3_clear_22 : decode cX3_clear 22 = .ok (.iconst 0, 1) := by decide +kernel
theorem dX3_clear_23 : decode cX3_clear 23 = .ok (.invokestatic 35, 3) := by decide +kernel
theorem dX3_clear_26 : decode cX3_clear 26 = .ok (.aload_n 0, 1) := by decide +kernel
theorem dX3_clear_27 : decode cX3_clear 27 = .ok (.getfield 18, 3) := by decide +kernel
theorem dX3_clear_30 : decode cX3_clear 30 = .ok (.iconst 0, 1) := by decide +kernel
theorem dX3_clear_31 : decode cX3_clear 31 = .ok (.iconst 0, 1) := by decide +kernel
theorem dX3_clear_32 : decode cX3_clear 32 = .ok (.invokestatic 41, 3) := by decide +kernel
theorem dX3_clear_35 : decode cX3_clear 35 = .ok (.aload_n 0, 1) := by decide +kernel
theorem dX3_clear_36 : decode cX3_clear 36 = .ok (.getfield 21, 3) := by decide +kernel
theorem dX3_clear_39 : decode cX3_clear 39 = .ok (.iconst 0, 1) := by decide +kernel
theorem dX3_clear_40 : decode cX3_clear 40 = .ok (.iconst 3, 1) := by decide +kernel
theorem dX3_clear_41 : decode cX3_clear 41 = .ok (.invokestatic 41, 3) := by decide +kernel
theorem dX3_clear_44 : decode cX3_clear 44 = .ok (.aload_n 0, 1) := by decide +kernel
theorem dX3_clear_45 : decode cX3_clear 45 = .ok (.getfield 18, 3) := by decide +kernel
theorem dX3_clear_48 : decode cX3_clear 48 = .ok (.iconst 1, 1) := by decide +kernel
theorem dX3_clear_49 : decode cX3_clear 49 = .ok (.aload_n 0, 1) := by decide +kernel
theorem dX3_clear_50 : decode cX3_clear 50 = .ok (.invokevirtual 45, 3) := by decide +kernel
theorem dX3_clear_53 : decode cX3_clear 53 = .ok (.iconst 1, 1) := by decide +kernel
theorem dX3_clear_54 : decode cX3_clear 54 = .ok (.isub, 1) := by decide +kernel
theorem dX3_clear_55 : decode cX3_clear 55 = .ok (.invokestatic 41, 3) := by decide +kernel
theorem dX3_clear_58 : decode cX3_clear 58 = .ok (.aload_n 0, 1) := by decide +kernel
theorem dX3_clear_59 : decode cX3_clear 59 = .ok (.getfield 21, 3) := by decide +kernel
theorem dX3_clear_62 : decode cX3_clear 62 = .ok (.iconst 1, 1) := by decide +kernel
theorem dX3_clear_63 : decode cX3_clear 63 = .ok (.iconst 1, 1) := by decide +kernel
theorem dX3_clear_64 : decode cX3_clear 64 = .ok (.invokestatic 41, 3) := by decide +kernel
theorem dX3_clear_67 : decode cX3_clear 67 = .ok (.return_, 1) := by decide +kernel
set_option maxRecDepth 20000 in
theorem ggX3_copyFrom_X3_copyRow : GoodIn wsX3_copyFrom wsX3_copyRow := goodIn_r _ [10] (by decide +kernel) (by decide +kernel)
set_option maxRecDepth 20000 in
theorem gX3_copyFrom_X3_copyRow : GoodIn wsX3_copyFrom (va_wsS RX3 49 yX3_copyRow wsX3_copyRow) := goodIn_app (goodIn_of _ (by decide +kernel)) ggX3_copyFrom_X3_copyRow
theorem dX3_copyFrom_0 : decode cX3_copyFrom 0 = .ok (.aload_n 0, 1) := by decide +kernel
theorem dX3_copyFrom_1 : decode cX3_copyFrom 1 = .ok (.aload_n 1, 1) := by decide +kernel
theorem dX3_copyFrom_2 : decode cX3_copyFrom 2 = .ok (.getfield 28, 3) := by decide +kernel
theorem dX3_copyFrom_5 : decode cX3_copyFrom 5 = .ok (.putfield 28, 3) := by decide +kernel
theorem dX3_copyFrom_8 : decode cX3_copyFrom 8 = .ok (.aload_n 0, 1) := by decide +kernel
theorem dX3_copyFrom_9 : decode cX3_copyFrom 9 = .ok (.aload_n 1, 1) := by decide +kernel
theorem dX3_copyFrom_10 : decode cX3_copyFrom 10 = .ok (.getfield 32, 3) := by decide +kernel
theorem dX3_copyFrom_13 : decode cX3_copyFrom 13 = .ok (.putfield 32, 3) := by decide +kernel
theorem dX3_copyFrom_16 : decode cX3_copyFrom 16 = .ok (.aload_n 1, 1) := by decide +kernel
theorem dX3_copyFrom_17 : decode cX3_copyFrom 17 = .ok (.getfield 9, 3) := by decide +kernel
theorem dX3_copyFrom_20 : decode cX3_copyFrom 20 = .ok (.aload_n 0, 1) := by decide +kernel
theorem dX3_copyFrom_21 : decode cX3_copyFrom 21 = .ok (.getfield 9, 3) := by decide +kernel
theorem dX3_copyFrom_24 : decode cX3_copyFrom 24 = .ok (.invokestatic 49, 3) := by decide +kernel
theorem dX3_copyFrom_27 : decode cX3_copyFrom 27 = .ok (.aload_n 1, 1) := by decide +kernel
theorem dX3_copyFrom_28 : decode cX3_copyFrom 28 = .ok (.getfield 15, 3) := by decide +kernel
theorem dX3_copyFrom_31 : decode cX3_copyFrom 31 = .ok (.aload_n 0, 1) := by decide +kernel
theorem dX3_copyFrom_32 : decode cX3_copyFrom 32 = .ok (.getfield 15, 3) := by decide +kernel
theorem dX3_copyFrom_35 : decode cX3_copyFrom 35 = .ok (.invokestatic 49, 3) := by decide +kernel
theorem dX3_copyFrom_38 : decode cX3_copyFrom 38 = .ok (.aload_n 1, 1) := by decide +kernel
theorem dX3_copyFrom_39 : decode cX3_copyFrom 39 = .ok (.getfield 18, 3) := by decide +kernel
theorem dX3_copyFrom_42 : decode cX3_copyFrom 42 = .ok (.aload_n 0, 1) := by decide +kernel
theorem dX3_copyFrom_43 : decode cX3_copyFrom 43 = .ok (.getfield 18, 3) := by decide +kernel
theorem dX3_copyFrom_46 : decode cX3_copyFrom 46 = .ok (.invokestatic 49, 3) := by decide +kernel
theorem dX3_copyFrom_49 : decode cX3_copyFrom 49 = .ok (.aload_n 1, 1) := by decide +kernel
theorem dX3_copyFrom_50 : decode cX3_copyFrom 50 = .ok (.getfield 21, 3) := by decide +kernel
theorem dX3_copyFrom_53 : decode cX3_copyFrom 53 = .ok (.aload_n 0, 1) := by decide +kernel
theorem dX3_copyFrom_54 : decode cX3_copyFrom 54 = .ok (.getfield 21, 3) := by decide +kernel
theorem dX3_copyFrom_57 : decode cX3_copyFrom 57 = .ok (.invokestatic 49, 3) := by decide +kernel
theorem dX3_copyFrom_60 : decode cX3_copyFrom 60 = .ok (.return_, 1) := by decide +kernel
theorem dX3_copyRow_0 : decode cX3_copyRow 0 = .ok (.iconst 0, 1) := by decide +kernel
theorem dX3_copyRow_1 : decode cX3_copyRow 1 = .ok (.istore_n 2, 1) := by decide +kernel
theorem dX3_copyRow_2 : decode cX3_copyRow 2 = .ok (.iload_n 2, 1) := by decide +kernel
theorem dX3_copyRow_3 : decode cX3_copyRow 3 = .ok (.aload_n 0, 1) := by decide +kernel
theorem dX3_copyRow_4 : decode cX3_copyRow 4 = .ok (.arraylength, 1) := by decide +kernel
theorem dX3_copyRow_5 : decode cX3_copyRow 5 = .ok (.if_icmp .ge 21, 3) := by decide +kernel
theorem dX3_copyRow_8 : decode cX3_copyRow 8 = .ok (.iload_n 2, 1) := by decide +kernel
theorem dX3_copyRow_9 : decode cX3_copyRow 9 = .ok (.aload_n 1, 1) := by decide +kernel
theorem dX3_copyRow_10 : decode cX3_copyRow 10 = .ok (.arraylength, 1) := by decide +kernel
theorem dX3_copyRow_11 : decode cX3_copyRow 11 = .ok (.if_icmp .ge 15, 3) := by decide +kernel
theorem dX3_copyRow_14 : decode cX3_copyRow 14 = .ok (.aload_n 1, 1) := by decide +kernel
theorem dX3_copyRow_15 : decode cX3_copyRow 15 = .ok (.iload_n 2, 1) := by decide +kernel
theorem dX3_copyRow_16 : decode cX3_copyRow 16 = .ok (.aload_n 0, 1) := by decide +kernel
theorem dX3_copyRow_17 : decode cX3_copyRow 17 = .ok (.iload_n 2, 1) := by decide +kernel
theorem dX3_copyRow_18 : decode cX3_copyRow 18 = .ok (.iaload, 1) := by decide +kernel
theorem dX3_copyRow_19 : decode cX3_copyRow 19 = .ok (.iastore, 1) := by decide +kernel
theorem dX3_copyRow_20 : decode cX3_copyRow 20 = .ok (.iinc 2 1, 3) := by decide +kernel
theorem dX3_copyRow_23 : decode cX3_copyRow 23 = .ok (.goto (-21), 3) := by decide +kernel
theorem dX3_copyRow_26 : decode cX3_copyRow 26 = .ok (.return_, 1) := by decide +kernel
theorem dX3_cells_0 : decode cX3_cells 0 = .ok (.aload_n 0, 1) := by decide +kernel
theorem dX3_cells_1 : decode cX3_cells 1 = .ok (.getfield 28, 3) := by decide +kernel
theorem dX3_cells_4 : decode cX3_cells 4 = .ok (.aload_n 0, 1) := by decide +kernel
theorem dX3_cells_5 : decode cX3_cells 5 = .ok (.getfield 32, 3) := by decide +kernel
theorem dX3_cells_8 : decode cX3_cells 8 = .ok (.imul, 1) := by decide +kernel
theorem dX3_cells_9 : decode cX3_cells 9 = .ok (.ireturn, 1) := by decide +kernel
set_option maxRecDepth 20000 in
theorem ggX3_hasCell_X3_cells : GoodIn wsX3_hasCell wsX3_cells := goodIn_r _ [5, 6, 7, 8, 9, 10, 11, 12, 13] (by decide +kernel) (by decide +kernel)
set_option maxRecDepth 20000 in
theorem gX3_hasCell_X3_cells : GoodIn wsX3_hasCell (wsV RX3 45 RX3 yX3_cells wsX3_cells) := goodIn_app (goodIn_of _ (by decide +kernel)) ggX3_hasCell_X3_cells
theorem dX3_hasCell_0 : decode cX3_hasCell 0 = .ok (.iload_n 1, 1) := by decide +kernel
theorem dX3_hasCell_1 : decode cX3_hasCell 1 = .ok (.ifCond .lt 15, 3) := by decide +kernel
theorem dX3_hasCell_4 : decode cX3_hasCell 4 = .ok (.iload_n 1, 1) := by decide +kernel
theorem dX3_hasCell_5 : decode cX3_hasCell 5 = .ok (.aload_n 0, 1) := by decide +kernel
theorem dX3_hasCell_6 : decode cX3_hasCell 6 = .ok (.invokevirtual 45, 3) := by decide +kernel
theorem dX3_hasCell_9 : decode cX3_hasCell 9 = .ok (.if_icmp .ge 7, 3) := by decide +kernel
theorem dX3_hasCell_12 : decode cX3_hasCell 12 = .ok (.iconst 1, 1) := by decide +kernel
theorem dX3_hasCell_13 : decode cX3_hasCell 13 = .ok (.goto 4, 3) := by decide +kernel
theorem dX3_hasCell_16 : decode cX3_hasCell 16 = .ok (.iconst 0, 1) := by decide +kernel
theorem dX3_hasCell_17 : decode cX3_hasCell 17 = .ok (.ireturn, 1) := by decide +kernel
theorem dX3_beside_0 : decode cX3_beside 0 = .ok (.aload_n 0, 1) := by decide +kernel
theorem dX3_beside_1 : decode cX3_beside 1 = .ok (.getfield 28, 3) := by decide +kernel
theorem dX3_beside_4 : decode cX3_beside 4 = .ok (.aload_n 0, 1) := by decide +kernel
theorem dX3_beside_5 : decode cX3_beside 5 = .ok (.getfield 32, 3) := by decide +kernel
theorem dX3_beside_8 : decode cX3_beside 8 = .ok (.imul, 1) := by decide +kernel
theorem dX3_beside_9 : decode cX3_beside 9 = .ok (.istore_n 3, 1) := by decide +kernel
theorem dX3_beside_10 : decode cX3_beside 10 = .ok (.iload_n 1, 1) := by decide +kernel
theorem dX3_beside_11 : decode cX3_beside 11 = .ok (.ifCond .lt 15, 3) := by decide +kernel
theorem dX3_beside_14 : decode cX3_beside 14 = .ok (.iload_n 1, 1) := by decide +kernel
theorem dX3_beside_15 : decode cX3_beside 15 = .ok (.iload_n 3, 1) := by decide +kernel
theorem dX3_beside_16 : decode cX3_beside 16 = .ok (.if_icmp .ge 10, 3) := by decide +kernel
theorem dX3_beside_19 : decode cX3_beside 19 = .ok (.aload_n 0, 1) := by decide +kernel
theorem dX3_beside_20 : decode cX3_beside 20 = .ok (.getfield 28, 3) := by decide +kernel
theorem dX3_beside_23 : decode cX3_beside 23 = .ok (.ifCond .gt 5, 3) := by decide +kernel
theorem dX3_beside_26 : decode cX3_beside 26 = .ok (.iconst (-1), 1) := by decide +kernel
theorem dX3_beside_27 : decode cX3_beside 27 = .ok (.ireturn, 1) := by decide +kernel
theorem dX3_beside_28 : decode cX3_beside 28 = .ok (.iload_n 1, 1) := by decide +kernel
theorem dX3_beside_29 : decode cX3_beside 29 = .ok (.aload_n 0, 1) := by decide +kernel
theorem dX3_beside_30 : decode cX3_beside 30 = .ok (.getfield 28, 3) := by decide +kernel
theorem dX3_beside_33 : decode cX3_beside 33 = .ok (.irem, 1) := by decide +kernel
theorem dX3_beside_34 : decode cX3_beside 34 = .ok (.istore 4, 2) := by decide +kernel
theorem dX3_beside_36 : decode cX3_beside 36 = .ok (.iload_n 2, 1) := by decide +kernel
theorem dX3_beside_37 : decode cX3_beside 37 = .ok (.tableswitch 103 0 3 #[31, 50, 69, 90], 31) := by decide +kernel
theorem dX3_beside_68 : decode cX3_beside 68 = .ok (.iload_n 1, 1) := by decide +kernel
theorem dX3_beside_69 : decode cX3_beside 69 = .ok (.aload_n 0, 1) := by decide +kernel
theorem dX3_beside_70 : decode cX3_beside 70 = .ok (.getfield 28, 3) := by decide +kernel
theorem dX3_beside_73 : decode cX3_beside 73 = .ok (.if_icmp .lt 12, 3) := by decide +kernel
theorem dX3_beside_76 : decode cX3_beside 76 = .ok (.iload_n 1, 1) := by decide +kernel
theorem dX3_beside_77 : decode cX3_beside 77 = .ok (.aload_n 0, 1) := by decide +kernel
theorem dX3_beside_78 : decode cX3_beside 78 = .ok (.getfield 28, 3) := by decide +kernel
theorem dX3_beside_81 : decode cX3_beside 81 = .ok (.isub, 1) := by decide +kernel
theorem dX3_beside_82 : decode cX3_beside 82 = .ok (.goto 4, 3) := by decide +kernel
theorem dX3_beside_85 : decode cX3_beside 85 = .ok (.iconst (-1), 1) := by decide +kernel
theorem dX3_beside_86 : decode cX3_beside 86 = .ok (.ireturn, 1) := by decide +kernel
theorem dX3_beside_87 : decode cX3_beside 87 = .ok (.iload 4, 2) := by decide +kernel
theorem dX3_beside_89 : decode cX3_beside 89 = .ok (.aload_n 0, 1) := by decide +kernel
theorem dX3_beside_90 : decode cX3_beside 90 = .ok (.getfield 28, 3) := by decide +kernel
theorem dX3_beside_93 : decode cX3_beside 93 = .ok (.iconst 1, 1) := by decide +kernel
theorem dX3_beside_94 : decode cX3_beside 94 = .ok (.isub, 1) := by decide +kernel
theorem dX3_beside_95 : decode cX3_beside 95 = .ok (.if_icmp .ge 9, 3) := by decide +kernel
theorem dX3_beside_98 : decode cX3_beside 98 = .ok (.iload_n 1, 1) := by decide +kernel
theorem dX3_beside_99 : decode cX3_beside 99 = .ok (.iconst 1, 1) := by decide +kernel
theorem dX3_beside_100 : decode cX3_beside 100 = .ok (.iadd, 1) := by decide +kernel
theorem dX3_beside_101 : decode cX3_beside 101 = .ok (.goto 4, 3) := by decide +kernel
theorem dX3_beside_104 : decode cX3_beside 104 = .ok (.iconst (-1), 1) := by decide +kernel
theorem dX3_beside_105 : decode cX3_beside 105 = .ok (.ireturn, 1) := by decide +kernel
theorem dX3_beside_106 : decode cX3_beside 106 = .ok (.iload_n 1, 1) := by decide +kernel
theorem dX3_beside_107 : decode cX3_beside 107 = .ok (.aload_n 0, 1) := by decide +kernel
theorem dX3_beside_108 : decode cX3_beside 108 = .ok (.getfield 28, 3) := by decide +kernel
theorem dX3_beside_111 : decode cX3_beside 111 = .ok (.iadd, 1) := by decide +kernel
theorem dX3_beside_112 : decode cX3_beside 112 = .ok (.iload_n 3, 1) := by decide +kernel
theorem dX3_beside_113 : decode cX3_beside 113 = .ok (.if_icmp .ge 12, 3) := by decide +kernel
theorem dX3_beside_116 : decode cX3_beside 116 = .ok (.iload_n 1, 1) := by decide +kernel
theorem dX3_beside_117 : decode cX3_beside 117 = .ok (.aload_n 0, 1) := by decide +kernel
theorem dX3_beside_118 : decode cX3_beside 118 = .ok (.getfield 28, 3) := by decide +kernel
theorem dX3_beside_121 : decode cX3_beside 121 = .ok (.iadd, 1) := by decide +kernel
theorem dX3_beside_122 : decode cX3_beside 122 = .ok (.goto 4, 3) := by decide +kernel
theorem dX3_beside_125 : decode cX3_beside 125 = .ok (.iconst (-1), 1) := by decide +kernel
theorem dX3_beside_126 : decode cX3_beside 126 = .ok (.ireturn, 1) := by decide +kernel
theorem dX3_beside_127 : decode cX3_beside 127 = .ok (.iload 4, 2) := by decide +kernel
theorem dX3_beside_129 : decode cX3_beside 129 = .ok (.ifCond .le 9, 3) := by decide +kernel
theorem dX3_beside_132 : decode cX3_beside 132 = .ok (.iload_n 1, 1) := by decide +kernel
theorem dX3_beside_133 : decode cX3_beside 133 = .ok (.iconst 1, 1) := by decide +kernel
theorem dX3_beside_134 : decode cX3_beside 134 = .ok (.isub, 1) := by decide +kernel
theorem dX3_beside_135 : decode cX3_beside 135 = .ok (.goto 4, 3) := by decide +kernel
theorem dX3_beside_138 : decode cX3_beside 138 = .ok (.iconst (-1), 1) := by decide +kernel
theorem dX3_beside_139 : decode cX3_beside 139 = .ok (.ireturn, 1) := by decide +kernel
theorem dX3_beside_140 : decode cX3_beside 140 = .ok (.iconst (-1), 1) := by decide +kernel
theorem dX3_beside_141 : decode cX3_beside 141 = .ok (.ireturn, 1) := by decide +kernel
set_option maxRecDepth 20000 in
theorem ggX3_hasPassage_X7_at : GoodIn wsX3_hasPassage wsX7_at := goodIn_r _ [4] (by decide +kernel) (by decide +kernel)
set_option maxRecDepth 20000 in
theorem gX3_hasPassage_X7_at_n53 : GoodIn wsX3_hasPassage (wsX7_at) := ggX3_hasPassage_X7_at
theorem dX3_hasPassage_0 : decode cX3_hasPassage 0 = .ok (.aload_n 0, 1) := by decide +kernel
theorem dX3_hasPassage_1 : decode cX3_hasPassage 1 = .ok (.getfield 15, 3) := by decide +kernel
theorem dX3_hasPassage_4 : decode cX3_hasPassage 4 = .ok (.iload_n 1, 1) := by decide +kernel
theorem dX3_hasPassage_5 : decode cX3_hasPassage 5 = .ok (.invokestatic 53, 3) := by decide +kernel
theorem dX3_hasPassage_8 : decode cX3_hasPassage 8 = .ok (.iconst 1, 1) := by decide +kernel
theorem dX3_hasPassage_9 : decode cX3_hasPassage 9 = .ok (.iload_n 2, 1) := by decide +kernel
theorem dX3_hasPassage_10 : decode cX3_hasPassage 10 = .ok (.ishl, 1) := by decide +kernel
theorem dX3_hasPassage_11 : decode cX3_hasPassage 11 = .ok (.iand, 1) := by decide +kernel
theorem dX3_hasPassage_12 : decode cX3_hasPassage 12 = .ok (.ifCond .eq 7, 3) := by decide +kernel
theorem dX3_hasPassage_15 : decode cX3_hasPassage 15 = .ok (.iconst 1, 1) := by decide +kernel
theorem dX3_hasPassage_16 : decode cX3_hasPassage 16 = .ok (.goto 4, 3) := by decide +kernel
theorem dX3_hasPassage_19 : decode cX3_hasPassage 19 = .ok (.iconst 0, 1) := by decide +kernel
theorem dX3_hasPassage_20 : decode cX3_hasPassage 20 = .ok (.ireturn, 1) := by decide +kernel
set_option maxRecDepth 20000 in
theorem ggX3_setPassage_X3_beside : GoodIn wsX3_setPassage wsX3_beside := goodIn_r _ [5, 6, 7, 18, 19, 20, 21, 22, 23] (by decide +kernel) (by decide +kernel)
set_option maxRecDepth 20000 in
theorem gX3_setPassage_X3_beside : GoodIn wsX3_setPassage (wsV RX3 57 RX3 yX3_beside wsX3_beside) := goodIn_app (goodIn_of _ (by decide +kernel)) ggX3_setPassage_X3_beside
set_option maxRecDepth 20000 in
theorem ggX3_setPassage_X3_setOpen : GoodIn wsX3_setPassage wsX3_setOpen := goodIn_r _ [11, 12, 13, 14, 15, 16, 17, 18, 19, 20, 21, 22, 23] (by decide +kernel) (by decide +kernel)
set_option maxRecDepth 20000 in
theorem gX3_setPassage_X3_setOpen : GoodIn wsX3_setPassage (wsV RX3 61 RX3 yX3_setOpen wsX3_setOpen) := goodIn_app (goodIn_of _ (by decide +kernel)) ggX3_setPassage_X3_setOpen
theorem dX3_setPassage_0 : decode cX3_setPassage 0 = .ok (.aload_n 0, 1) := by decide +kernel
theorem dX3_setPassage_1 : decode cX3_setPassage 1 = .ok (.iload_n 1, 1) := by decide +kernel
theorem dX3_setPassage_2 : decode cX3_setPassage 2 = .ok (.iload_n 2, 1) := by decide +kernel
theorem dX3_setPassage_3 : decode cX3_setPassage 3 = .ok (.invokevirtual 57, 3) := by decide +kernel
theorem dX3_setPassage_6 : decode cX3_setPassage 6 = .ok (.istore 4, 2) := by decide +kernel
theorem dX3_setPassage_8 : decode cX3_setPassage 8 = .ok (.iload 4, 2) := by decide +kernel
theorem dX3_setPassage_10 : decode cX3_setPassage 10 = .ok (.iconst (-1), 1) := by decide +kernel
theorem dX3_setPassage_11 : decode cX3_setPassage 11 = .ok (.if_icmp .eq 22, 3) := by decide +kernel
theorem dX3_setPassage_14 : decode cX3_setPassage 14 = .ok (.aload_n 0, 1) := by decide +kernel
theorem dX3_setPassage_15 : decode cX3_setPassage 15 = .ok (.iload_n 1, 1) := by decide +kernel
theorem dX3_setPassage_16 : decode cX3_setPassage 16 = .ok (.iload_n 2, 1) := by decide +kernel
theorem dX3_setPassage_17 : decode cX3_setPassage 17 = .ok (.iload_n 3, 1) := by decide +kernel
theorem dX3_setPassage_18 : decode cX3_setPassage 18 = .ok (.invokevirtual 61, 3) := by decide +kernel
theorem dX3_setPassage_21 : decode cX3_setPassage 21 = .ok (.aload_n 0, 1) := by decide +kernel
theorem dX3_setPassage_22 : decode cX3_setPassage 22 = .ok (.iload 4, 2) := by decide +kernel
theorem dX3_setPassage_24 : decode cX3_setPassage 24 = .ok (.iload_n 2, 1) := by decide +kernel
theorem dX3_setPassage_25 : decode cX3_setPassage 25 = .ok (.iconst 2, 1) := by decide +kernel
theorem dX3_setPassage_26 : decode cX3_setPassage 26 = .ok (.iadd, 1) := by decide +kernel
theorem dX3_setPassage_27 : decode cX3_setPassage 27 = .ok (.iconst 4, 1) := by decide +kernel
theorem dX3_setPassage_28 : decode cX3_setPassage 28 = .ok (.irem, 1) := by decide +kernel
theorem dX3_setPassage_29 : decode cX3_setPassage 29 = .ok (.iload_n 3, 1) := by decide +kernel
theorem dX3_setPassage_30 : decode cX3_setPassage 30 = .ok (.invokevirtual 61, 3) := by decide +kernel
theorem dX3_setPassage_33 : decode cX3_setPassage 33 = .ok (.return_, 1) := by decide +kernel
set_option maxRecDepth 20000 in
theorem ggX3_setOpen_X7_at : GoodIn wsX3_setOpen wsX7_at := goodIn_r _ [4] (by decide +kernel) (by decide +kernel)
set_option maxRecDepth 20000 in
theorem gX3_setOpen_X7_at_n53 : GoodIn wsX3_setOpen (wsX7_at) := ggX3_setOpen_X7_at
set_option maxRecDepth 20000 in
theorem ggX3_setOpen_X7_put : GoodIn wsX3_setOpen wsX7_put := goodIn_r _ [6] (by decide +kernel) (by decide +kernel)
set_option maxRecDepth 20000 in
theorem gX3_setOpen_X7_put_n41 : GoodIn wsX3_setOpen (wsX7_put) := ggX3_setOpen_X7_put
theorem dX3_setOpen_0 : decode cX3_setOpen 0 = .ok (.aload_n 0, 1) := by decide +kernel
theorem dX3_setOpen_1 : decode cX3_setOpen 1 = .ok (.getfield 15, 3) := by decide +kernel
theorem dX3_setOpen_4 : decode cX3_setOpen 4 = .ok (.iload_n 1, 1) := by decide +kernel
theorem dX3_setOpen_5 : decode cX3_setOpen 5 = .ok (.invokestatic 53, 3) := by decide +kernel
theorem dX3_setOpen_8 : decode cX3_setOpen 8 = .ok (.iconst 1, 1) := by decide +kernel
theorem dX3_setOpen_9 : decode cX3_setOpen 9 = .ok (.iload_n 2, 1) := by decide +kernel
theorem dX3_setOpen_10 : decode cX3_setOpen 10 = .ok (.ishl, 1) := by decide +kernel
theorem dX3_setOpen_11 : decode cX3_setOpen 11 = .ok (.iconst (-1), 1) := by decide +kernel
theorem dX3_setOpen_12 : decode cX3_setOpen 12 = .ok (.ixor, 1) := by decide +kernel
theorem dX3_setOpen_13 : decode cX3_setOpen 13 = .ok (.iand, 1) := by decide +kernel
theorem dX3_setOpen_14 : decode cX3_setOpen 14 = .ok (.istore 4, 2) := by decide +kernel
theorem dX3_setOpen_16 : decode cX3_setOpen 16 = .ok (.aload_n 0, 1) := by decide +kernel
theorem dX3_setOpen_17 : decode cX3_setOpen 17 = .ok (.getfield 15, 3) := by decide +kernel
theorem dX3_setOpen_20 : decode cX3_setOpen 20 = .ok (.iload_n 1, 1) := by decide +kernel
theorem dX3_setOpen_21 : decode cX3_setOpen 21 = .ok (.iload_n 3, 1) := by decide +kernel
theorem dX3_setOpen_22 : decode cX3_setOpen 22 = .ok (.ifCond .eq 12, 3) := by decide +kernel
theorem dX3_setOpen_25 : decode cX3_setOpen 25 = .ok (.iload 4, 2) := by decide +kernel
theorem dX3_setOpen_27 : decode cX3_setOpen 27 = .ok (.iconst 1, 1) := by decide +kernel
theorem dX3_setOpen_28 : decode cX3_setOpen 28 = .ok (.iload_n 2, 1) := by decide +kernel
theorem dX3_setOpen_29 : decode cX3_setOpen 29 = .ok (.ishl, 1) := by decide +kernel
theorem dX3_setOpen_30 : decode cX3_setOpen 30 = .ok (.ior, 1) := by decide +kernel
theorem dX3_setOpen_31 : decode cX3_setOpen 31 = .ok (.goto 5, 3) := by decide +kernel
theorem dX3_setOpen_34 : decode cX3_setOpen 34 = .ok (.iload 4, 2) := by decide +kernel
theorem dX3_setOpen_36 : decode cX3_setOpen 36 = .ok (.invokestatic 41, 3) := by decide +kernel
theorem dX3_setOpen_39 : decode cX3_setOpen 39 = .ok (.return_, 1) := by decide +kernel
set_option maxRecDepth 20000 in
theorem ggX3_places_X3_cells : GoodIn wsX3_places wsX3_cells := goodIn_r _ [5, 6, 7, 8, 9, 10, 11, 12, 13] (by decide +kernel) (by decide +kernel)
set_option maxRecDepth 20000 in
theorem gX3_places_X3_cells : GoodIn wsX3_places (wsV RX3 45 RX3 yX3_cells wsX3_cells) := goodIn_app (goodIn_of _ (by decide +kernel)) ggX3_places_X3_cells
theorem dX3_places_0 : decode cX3_places 0 = .ok (.iconst 2, 1) := by decide +kernel
theorem dX3_places_1 : decode cX3_places 1 = .ok (.aload_n 0, 1) := by decide +kernel
theorem dX3_places_2 : decode cX3_places 2 = .ok (.invokevirtual 45, 3) := by decide +kernel
theorem dX3_places_5 : decode cX3_places 5 = .ok (.imul, 1) := by decide +kernel
theorem dX3_places_6 : decode cX3_places 6 = .ok (.ireturn, 1) := by decide +kernel
theorem dX3_lowEnd_0 : decode cX3_lowEnd 0 = .ok (.iload_n 1, 1) := by decide +kernel
theorem dX3_lowEnd_1 : decode cX3_lowEnd 1 = .ok (.iconst 1, 1) := by decide +kernel
theorem dX3_lowEnd_2 : decode cX3_lowEnd 2 = .ok (.ishr, 1) := by decide +kernel
theorem dX3_lowEnd_3 : decode cX3_lowEnd 3 = .ok (.ireturn, 1) := by decide +kernel
set_option maxRecDepth 20000 in
theorem ggX3_highEnd_X3_lowEnd : GoodIn wsX3_highEnd wsX3_lowEnd := goodIn_r _ [5] (by decide +kernel) (by decide +kernel)
set_option maxRecDepth 20000 in
theorem gX3_highEnd_X3_lowEnd : GoodIn wsX3_highEnd (wsV RX3 65 RX3 yX3_lowEnd wsX3_lowEnd) := goodIn_app (goodIn_of _ (by decide +kernel)) ggX3_highEnd_X3_lowEnd
set_option maxRecDepth 20000 in
theorem ggX3_highEnd_X3_placeDirection : GoodIn wsX3_highEnd wsX3_placeDirection := goodIn_r _ [8] (by decide +kernel) (by decide +kernel)
set_option maxRecDepth 20000 in
theorem gX3_highEnd_X3_placeDirection : GoodIn wsX3_highEnd (va_wsS RX3 69 yX3_placeDirection wsX3_placeDirection) := goodIn_app (goodIn_of _ (by decide +kernel)) ggX3_highEnd_X3_placeDirection
set_option maxRecDepth 20000 in
theorem ggX3_highEnd_X3_beside : GoodIn wsX3_highEnd wsX3_beside := goodIn_r _ [12, 13, 14, 15, 16, 17, 18, 19, 20] (by decide +kernel) (by decide +kernel)
set_option maxRecDepth 20000 in
theorem gX3_highEnd_X3_beside : GoodIn wsX3_highEnd (wsV RX3 57 RX3 yX3_beside wsX3_beside) := goodIn_app (goodIn_of _ (by decide +kernel)) ggX3_highEnd_X3_beside
theorem dX3_highEnd_0 : decode cX3_highEnd 0 = .ok (.aload_n 0, 1) := by decide +kernel
theorem dX3_highEnd_1 : decode cX3_highEnd 1 = .ok (.aload_n 0, 1) := by decide +kernel
theorem dX3_highEnd_2 : decode cX3_highEnd 2 = .ok (.iload_n 1, 1) := by decide +kernel
theorem dX3_highEnd_3 : decode cX3_highEnd 3 = .ok (.invokevirtual 65, 3) := by decide +kernel
theorem dX3_highEnd_6 : decode cX3_highEnd 6 = .ok (.iload_n 1, 1) := by decide +kernel
theorem dX3_highEnd_7 : decode cX3_highEnd 7 = .ok (.invokestatic 69, 3) := by decide +kernel
theorem dX3_highEnd_10 : decode cX3_highEnd 10 = .ok (.invokevirtual 57, 3) := by decide +kernel
theorem dX3_highEnd_13 : decode cX3_highEnd 13 = .ok (.ireturn, 1) := by decide +kernel
set_option maxRecDepth 20000 in
theorem ggX3_isOpenPlace_X3_lowEnd : GoodIn wsX3_isOpenPlace wsX3_lowEnd := goodIn_r _ [5] (by decide +kernel) (by decide +kernel)
set_option maxRecDepth 20000 in
theorem gX3_isOpenPlace_X3_lowEnd : GoodIn wsX3_isOpenPlace (wsV RX3 65 RX3 yX3_lowEnd wsX3_lowEnd) := goodIn_app (goodIn_of _ (by decide +kernel)) ggX3_isOpenPlace_X3_lowEnd
set_option maxRecDepth 20000 in
theorem ggX3_isOpenPlace_X3_placeDirection : GoodIn wsX3_isOpenPlace wsX3_placeDirection := goodIn_r _ [8] (by decide +kernel) (by decide +kernel)
set_option maxRecDepth 20000 in
theorem gX3_isOpenPlace_X3_placeDirection : GoodIn wsX3_isOpenPlace (va_wsS RX3 69 yX3_placeDirection wsX3_placeDirection) := goodIn_app (goodIn_of _ (by decide +kernel)) ggX3_isOpenPlace_X3_placeDirection
set_option maxRecDepth 20000 in
theorem ggX3_isOpenPlace_X3_hasPassage : GoodIn wsX3_isOpenPlace wsX3_hasPassage := goodIn_r _ [12, 13, 14, 15, 16, 17, 18, 19, 20, 21, 22] (by decide +kernel) (by decide +kernel)
set_option maxRecDepth 20000 in
theorem gX3_isOpenPlace_X3_hasPassage : GoodIn wsX3_isOpenPlace (wsV RX3 72 RX3 yX3_hasPassage wsX3_hasPassage) := goodIn_app (goodIn_of _ (by decide +kernel)) ggX3_isOpenPlace_X3_hasPassage
theorem dX3_isOpenPlace_0 : decode cX3_isOpenPlace 0 = .ok (.aload_n 0, 1) := by decide +kernel
theorem dX3_isOpenPlace_1 : decode cX3_isOpenPlace 1 = .ok (.aload_n 0, 1) := by decide +kernel
theorem dX3_isOpenPlace_2 : decode cX3_isOpenPlace 2 = .ok (.iload_n 1, 1) := by decide +kernel
theorem dX3_isOpenPlace_3 : decode cX3_isOpenPlace 3 = .ok (.invokevirtual 65, 3) := by decide +kernel
theorem dX3_isOpenPlace_6 : decode cX3_isOpenPlace 6 = .ok (.iload_n 1, 1) := by decide +kernel
theorem dX3_isOpenPlace_7 : decode cX3_isOpenPlace 7 = .ok (.invokestatic 69, 3) := by decide +kernel
theorem dX3_isOpenPlace_10 : decode cX3_isOpenPlace 10 = .ok (.invokevirtual 72, 3) := by decide +kernel
theorem dX3_isOpenPlace_13 : decode cX3_isOpenPlace 13 = .ok (.ireturn, 1) := by decide +kernel
set_option maxRecDepth 20000 in
theorem ggX3_setPlace_X3_lowEnd : GoodIn wsX3_setPlace wsX3_lowEnd := goodIn_r _ [5] (by decide +kernel) (by decide +kernel)
set_option maxRecDepth 20000 in
theorem gX3_setPlace_X3_lowEnd : GoodIn wsX3_setPlace (wsV RX3 65 RX3 yX3_lowEnd wsX3_lowEnd) := goodIn_app (goodIn_of _ (by decide +kernel)) ggX3_setPlace_X3_lowEnd
set_option maxRecDepth 20000 in
theorem ggX3_setPlace_X3_placeDirection : GoodIn wsX3_setPlace wsX3_placeDirection := goodIn_r _ [8] (by decide +kernel) (by decide +kernel)
set_option maxRecDepth 20000 in
theorem gX3_setPlace_X3_placeDirection : GoodIn wsX3_setPlace (va_wsS RX3 69 yX3_placeDirection wsX3_placeDirection) := goodIn_app (goodIn_of _ (by decide +kernel)) ggX3_setPlace_X3_placeDirection
set_option maxRecDepth 20000 in
theorem ggX3_setPlace_X3_setPassage : GoodIn wsX3_setPlace wsX3_setPassage := goodIn_r _ [12, 13, 14, 15, 4, 16, 17, 18, 19, 20, 21, 22, 23, 24, 25, 26, 27, 28, 29, 30, 31, 32, 33, 34] (by decide +kernel) (by decide +kernel)
set_option maxRecDepth 20000 in
theorem gX3_setPlace_X3_setPassage : GoodIn wsX3_setPlace (wsV RX3 76 RX3 yX3_setPassage wsX3_setPassage) := goodIn_app (goodIn_of _ (by decide +kernel)) ggX3_setPlace_X3_setPassage
theorem dX3_setPlace_0 : decode cX3_setPlace 0 = .ok (.aload_n 0, 1) := by decide +kernel
theorem dX3_setPlace_1 : decode cX3_setPlace 1 = .ok (.aload_n 0, 1) := by decide +kernel
theorem dX3_setPlace_2 : decode cX3_setPlace 2 = .ok (.iload_n 1, 1) := by decide +kernel
theorem dX3_setPlace_3 : decode cX3_setPlace 3 = .ok (.invokevirtual 65, 3) := by decide +kernel
theorem dX3_setPlace_6 : decode cX3_setPlace 6 = .ok (.iload_n 1, 1) := by decide +kernel
theorem dX3_setPlace_7 : decode cX3_setPlace 7 = .ok (.invokestatic 69, 3) := by decide +kernel
theorem dX3_setPlace_10 : decode cX3_setPlace 10 = .ok (.iload_n 2, 1) := by decide +kernel
theorem dX3_setPlace_11 : decode cX3_setPlace 11 = .ok (.invokevirtual 76, 3) := by decide +kernel
theorem dX3_setPlace_14 : decode cX3_setPlace 14 = .ok (.return_, 1) := by decide +kernel
theorem dX3_placeDirection_0 : decode cX3_placeDirection 0 = .ok (.iload_n 0, 1) := by decide +kernel
theorem dX3_placeDirection_1 : decode cX3_placeDirection 1 = .ok (.iconst 1, 1) := by decide +kernel
theorem dX3_placeDirection_2 : decode cX3_placeDirection 2 = .ok (.iand, 1) := by decide +kernel
theorem dX3_placeDirection_3 : decode cX3_placeDirection 3 = .ok (.ifCond .ne 7, 3) := by decide +kernel
theorem dX3_placeDirection_6 : decode cX3_placeDirection 6 = .ok (.iconst 1, 1) := by decide +kernel
theorem dX3_placeDirection_7 : decode cX3_placeDirection 7 = .ok (.goto 4, 3) := by decide +kernel
theorem dX3_placeDirection_10 : decode cX3_placeDirection 10 = .ok (.iconst 2, 1) := by decide +kernel
theorem dX3_placeDirection_11 : decode cX3_placeDirection 11 = .ok (.ireturn, 1) := by decide +kernel
set_option maxRecDepth 20000 in
theorem ggX3_passageCount_X3_cells : GoodIn wsX3_passageCount wsX3_cells := goodIn_r _ [6, 7, 8, 19, 20, 21, 22, 23, 24] (by decide +kernel) (by decide +kernel)
set_option maxRecDepth 20000 in
theorem gX3_passageCount_X3_cells : GoodIn wsX3_passageCount (wsV RX3 45 RX3 yX3_cells wsX3_cells) := goodIn_app (goodIn_of _ (by decide +kernel)) ggX3_passageCount_X3_cells
set_option maxRecDepth 20000 in
theorem ggX3_passageCount_X7_at : GoodIn wsX3_passageCount wsX7_at := goodIn_r _ [11] (by decide +kernel) (by decide +kernel)
set_option maxRecDepth 20000 in
theorem gX3_passageCount_X7_at_n53 : GoodIn wsX3_passageCount (wsX7_at) := ggX3_passageCount_X7_at
set_option maxRecDepth 20000 in
theorem ggX3_passageCount_J6_bitCount_0f7a4 : GoodIn wsX3_passageCount wsJ6_bitCount_0f7a4 := goodIn_r _ [15, 16, 17, 18] (by decide +kernel) (by decide +kernel)
set_option maxRecDepth 20000 in
theorem gX3_passageCount_J6_bitCount_0f7a4 : GoodIn wsX3_passageCount (va_wsS RX3 79 yJ6_bitCount_0f7a4 wsJ6_bitCount_0f7a4) := goodIn_app (goodIn_of _ (by decide +kernel)) ggX3_passageCount_J6_bitCount_0f7a4
theorem dX3_passageCount_0 : decode cX3_passageCount 0 = .ok (.iconst 0, 1) := by decide +kernel
theorem dX3_passageCount_1 : decode cX3_passageCount 1 = .ok (.istore_n 1, 1) := by decide +kernel
theorem dX3_passageCount_2 : decode cX3_passageCount 2 = .ok (.iconst 0, 1) := by decide +kernel
theorem dX3_passageCount_3 : decode cX3_passageCount 3 = .ok (.istore_n 2, 1) := by decide +kernel
theorem dX3_passageCount_4 : decode cX3_passageCount 4 = .ok (.iload_n 2, 1) := by decide +kernel
theorem dX3_passageCount_5 : decode cX3_passageCount 5 = .ok (.aload_n 0, 1) := by decide +kernel
theorem dX3_passageCount_6 : decode cX3_passageCount 6 = .ok (.invokevirtual 45, 3) := by decide +kernel
theorem dX3_passageCount_9 : decode cX3_passageCount 9 = .ok (.if_icmp .ge 23, 3) := by decide +kernel
theorem dX3_passageCount_12 : decode cX3_passageCount 12 = .ok (.iload_n 1, 1) := by decide +kernel
theorem dX3_passageCount_13 : decode cX3_passageCount 13 = .ok (.aload_n 0, 1) := by decide +kernel
theorem dX3_passageCount_14 : decode cX3_passageCount 14 = .ok (.getfield 15, 3) := by decide +kernel
theorem dX3_passageCount_17 : decode cX3_passageCount 17 = .ok (.iload_n 2, 1) := by decide +kernel
theorem dX3_passageCount_18 : decode cX3_passageCount 18 = .ok (.invokestatic 53, 3) := by decide +kernel
theorem dX3_passageCount_21 : decode cX3_passageCount 21 = .ok (.invokestatic 79, 3) := by decide +kernel
theorem dX3_passageCount_24 : decode cX3_passageCount 24 = .ok (.iadd, 1) := by decide +kernel
theorem dX3_passageCount_25 : decode cX3_passageCount 25 = .ok (.istore_n 1, 1) := by decide +kernel
theorem dX3_passageCount_26 : decode cX3_passageCount 26 = .ok (.iinc 2 1, 3) := by decide +kernel
theorem dX3_passageCount_29 : decode cX3_passageCount 29 = .ok (.goto (-25), 3) := by decide +kernel
theorem dX3_passageCount_32 : decode cX3_passageCount 32 = .ok (.iload_n 1, 1) := by decide +kernel
theorem dX3_passageCount_33 : decode cX3_passageCount 33 = .ok (.iconst 2, 1) := by decide +kernel
theorem dX3_passageCount_34 : decode cX3_passageCount 34 = .ok (.idiv, 1) := by decide +kernel
theorem dX3_passageCount_35 : decode cX3_passageCount 35 = .ok (.ireturn, 1) := by decide +kernel
set_option maxRecDepth 20000 in
theorem ggX3_parts_X3_cells : GoodIn wsX3_parts wsX3_cells := goodIn_r _ [5, 6, 7, 23, 24, 25, 26, 27, 28] (by decide +kernel) (by decide +kernel)
set_option maxRecDepth 20000 in
theorem gX3_parts_X3_cells : GoodIn wsX3_parts (wsV RX3 45 RX3 yX3_cells wsX3_cells) := goodIn_app (goodIn_of _ (by decide +kernel)) ggX3_parts_X3_cells
set_option maxRecDepth 20000 in
theorem ggX3_parts_X3_passageCount : GoodIn wsX3_parts wsX3_passageCount := goodIn_r _ [11, 12, 1, 2, 3, 4, 5, 6, 7, 13, 14, 15, 16, 17, 18, 19, 20, 21, 22, 23, 24, 25, 26, 27, 28] (by decide +kernel) (by decide +kernel)
set_option maxRecDepth 20000 in
theorem gX3_parts_X3_passageCount : GoodIn wsX3_parts (wsV RX3 84 RX3 yX3_passageCount wsX3_passageCount) := goodIn_app (goodIn_of _ (by decide +kernel)) ggX3_parts_X3_passageCount
theorem dX3_parts_0 : decode cX3_parts 0 = .ok (.aload_n 0, 1) := by decide +kernel
theorem dX3_parts_1 : decode cX3_parts 1 = .ok (.invokevirtual 45, 3) := by decide +kernel
theorem dX3_parts_4 : decode cX3_parts 4 = .ok (.aload_n 0, 1) := by decide +kernel
theorem dX3_parts_5 : decode cX3_parts 5 = .ok (.invokevirtual 84, 3) := by decide +kernel
theorem dX3_parts_8 : decode cX3_parts 8 = .ok (.isub, 1) := by decide +kernel
theorem dX3_parts_9 : decode cX3_parts 9 = .ok (.ireturn, 1) := by decide +kernel
set_option maxRecDepth 20000 in
theorem ggX3_isWhole_X3_parts : GoodIn wsX3_isWhole wsX3_parts := goodIn_r _ [5, 6, 7, 8, 4, 9, 10, 11, 12, 13, 14, 15, 16, 17, 18, 19, 20, 21, 22, 23, 24, 25, 26, 27, 28, 29, 30, 31, 32] (by decide +kernel) (by decide +kernel)
set_option maxRecDepth 20000 in
theorem gX3_isWhole_X3_parts : GoodIn wsX3_isWhole (wsV RX3 87 RX3 yX3_parts wsX3_parts) := goodIn_app (goodIn_of _ (by decide +kernel)) ggX3_isWhole_X3_parts
theorem dX3_isWhole_0 : decode cX3_isWhole 0 = .ok (.aload_n 0, 1) := by decide +kernel
theorem dX3_isWhole_1 : decode cX3_isWhole 1 = .ok (.invokevirtual 87, 3) := by decide +kernel
theorem dX3_isWhole_4 : decode cX3_isWhole 4 = .ok (.iconst 1, 1) := by decide +kernel
theorem dX3_isWhole_5 : decode cX3_isWhole 5 = .ok (.if_icmp .ne 7, 3) := by decide +kernel
theorem dX3_isWhole_8 : decode cX3_isWhole 8 = .ok (.iconst 1, 1) := by decide +kernel
theorem dX3_isWhole_9 : decode cX3_isWhole 9 = .ok (.goto 4, 3) := by decide +kernel
theorem dX3_isWhole_12 : decode cX3_isWhole 12 = .ok (.iconst 0, 1) := by decide +kernel
theorem dX3_isWhole_13 : decode cX3_isWhole 13 = .ok (.ireturn, 1) := by decide +kernel
set_option maxRecDepth 20000 in
theorem ggX3_deadEnds_X3_cells : GoodIn wsX3_deadEnds wsX3_cells := goodIn_r _ [6, 7, 8, 19, 20, 21, 22, 23, 24] (by decide +kernel) (by decide +kernel)
set_option maxRecDepth 20000 in
theorem gX3_deadEnds_X3_cells : GoodIn wsX3_deadEnds (wsV RX3 45 RX3 yX3_cells wsX3_cells) := goodIn_app (goodIn_of _ (by decide +kernel)) ggX3_deadEnds_X3_cells
set_option maxRecDepth 20000 in
theorem ggX3_deadEnds_X7_at : GoodIn wsX3_deadEnds wsX7_at := goodIn_r _ [11] (by decide +kernel) (by decide +kernel)
set_option maxRecDepth 20000 in
theorem gX3_deadEnds_X7_at_n53 : GoodIn wsX3_deadEnds (wsX7_at) := ggX3_deadEnds_X7_at
set_option maxRecDepth 20000 in
theorem ggX3_deadEnds_J6_bitCount_0f7a4 : GoodIn wsX3_deadEnds wsJ6_bitCount_0f7a4 := goodIn_r _ [15, 16, 17, 18] (by decide +kernel) (by decide +kernel)
set_option maxRecDepth 20000 in
theorem gX3_deadEnds_J6_bitCount_0f7a4 : GoodIn wsX3_deadEnds (va_wsS RX3 79 yJ6_bitCount_0f7a4 wsJ6_bitCount_0f7a4) := goodIn_app (goodIn_of _ (by decide +kernel)) ggX3_deadEnds_J6_bitCount_0f7a4
theorem dX3_deadEnds_0 : decode cX3_deadEnds 0 = .ok (.iconst 0, 1) := by decide +kernel
theorem dX3_deadEnds_1 : decode cX3_deadEnds 1 = .ok (.istore_n 1, 1) := by decide +kernel
theorem dX3_deadEnds_2 : decode cX3_deadEnds 2 = .ok (.iconst 0, 1) := by decide +kernel
theorem dX3_deadEnds_3 : decode cX3_deadEnds 3 = .ok (.istore_n 2, 1) := by decide +kernel
theorem dX3_deadEnds_4 : decode cX3_deadEnds 4 = .ok (.iload_n 2, 1) := by decide +kernel
theorem dX3_deadEnds_5 : decode cX3_deadEnds 5 = .ok (.aload_n 0, 1) := by decide +kernel
theorem dX3_deadEnds_6 : decode cX3_deadEnds 6 = .ok (.invokevirtual 45, 3) := by decide +kernel
theorem dX3_deadEnds_9 : decode cX3_deadEnds 9 = .ok (.if_icmp .ge 27, 3) := by decide +kernel
theorem dX3_deadEnds_12 : decode cX3_deadEnds 12 = .ok (.aload_n 0, 1) := by decide +kernel
theorem dX3_deadEnds_13 : decode cX3_deadEnds 13 = .ok (.getfield 15, 3) := by decide +kernel
theorem dX3_deadEnds_16 : decode cX3_deadEnds 16 = .ok (.iload_n 2, 1) := by decide +kernel
theorem dX3_deadEnds_17 : decode cX3_deadEnds 17 = .ok (.invokestatic 53, 3) := by decide +kernel
theorem dX3_deadEnds_20 : decode cX3_deadEnds 20 = .ok (.invokestatic 79, 3) := by decide +kernel
theorem dX3_deadEnds_23 : decode cX3_deadEnds 23 = .ok (.iconst 1, 1) := by decide +kernel
theorem dX3_deadEnds_24 : decode cX3_deadEnds 24 = .ok (.if_icmp .ne 6, 3) := by decide +kernel
theorem dX3_deadEnds_27 : decode cX3_deadEnds 27 = .ok (.iinc 1 1, 3) := by decide +kernel
theorem dX3_deadEnds_30 : decode cX3_deadEnds 30 = .ok (.iinc 2 1, 3) := by decide +kernel
theorem dX3_deadEnds_33 : decode cX3_deadEnds 33 = .ok (.goto (-29), 3) := by decide +kernel
theorem dX3_deadEnds_36 : decode cX3_deadEnds 36 = .ok (.iload_n 1, 1) := by decide +kernel
theorem dX3_deadEnds_37 : decode cX3_deadEnds 37 = .ok (.ireturn, 1) := by decide +kernel
set_option maxRecDepth 20000 in
theorem ggX3_toneSum_X3_cells : GoodIn wsX3_toneSum wsX3_cells := goodIn_r _ [6, 7, 8, 12, 13, 14, 15, 16, 17] (by decide +kernel) (by decide +kernel)
set_option maxRecDepth 20000 in
theorem gX3_toneSum_X3_cells : GoodIn wsX3_toneSum (wsV RX3 45 RX3 yX3_cells wsX3_cells) := goodIn_app (goodIn_of _ (by decide +kernel)) ggX3_toneSum_X3_cells
set_option maxRecDepth 20000 in
theorem ggX3_toneSum_X7_at : GoodIn wsX3_toneSum wsX7_at := goodIn_r _ [11] (by decide +kernel) (by decide +kernel)
set_option maxRecDepth 20000 in
theorem gX3_toneSum_X7_at_n53 : GoodIn wsX3_toneSum (wsX7_at) := ggX3_toneSum_X7_at
theorem dX3_toneSum_0 : decode cX3_toneSum 0 = .ok (.iconst 0, 1) := by decide +kernel
theorem dX3_toneSum_1 : decode cX3_toneSum 1 = .ok (.istore_n 1, 1) := by decide +kernel
theorem dX3_toneSum_2 : decode cX3_toneSum 2 = .ok (.iconst 0, 1) := by decide +kernel
theorem dX3_toneSum_3 : decode cX3_toneSum 3 = .ok (.istore_n 2, 1) := by decide +kernel
theorem dX3_toneSum_4 : decode cX3_toneSum 4 = .ok (.iload_n 2, 1) := by decide +kernel
theorem dX3_toneSum_5 : decode cX3_toneSum 5 = .ok (.aload_n 0, 1) := by decide +kernel
theorem dX3_toneSum_6 : decode cX3_toneSum 6 = .ok (.invokevirtual 45, 3) := by decide +kernel
theorem dX3_toneSum_9 : decode cX3_toneSum 9 = .ok (.if_icmp .ge 20, 3) := by decide +kernel
theorem dX3_toneSum_12 : decode cX3_toneSum 12 = .ok (.iload_n 1, 1) := by decide +kernel
theorem dX3_toneSum_13 : decode cX3_toneSum 13 = .ok (.aload_n 0, 1) := by decide +kernel
theorem dX3_toneSum_14 : decode cX3_toneSum 14 = .ok (.getfield 9, 3) := by decide +kernel
theorem dX3_toneSum_17 : decode cX3_toneSum 17 = .ok (.iload_n 2, 1) := by decide +kernel
theorem dX3_toneSum_18 : decode cX3_toneSum 18 = .ok (.invokestatic 53, 3) := by decide +kernel
theorem dX3_toneSum_21 : decode cX3_toneSum 21 = .ok (.iadd, 1) := by decide +kernel
theorem dX3_toneSum_22 : decode cX3_toneSum 22 = .ok (.istore_n 1, 1) := by decide +kernel
theorem dX3_toneSum_23 : decode cX3_toneSum 23 = .ok (.iinc 2 1, 3) := by decide +kernel
theorem dX3_toneSum_26 : decode cX3_toneSum 26 = .ok (.goto (-22), 3) := by decide +kernel
theorem dX3_toneSum_29 : decode cX3_toneSum 29 = .ok (.iload_n 1, 1) := by decide +kernel
theorem dX3_toneSum_30 : decode cX3_toneSum 30 = .ok (.ireturn, 1) := by decide +kernel
set_option maxRecDepth 20000 in
theorem ggX3_entryCell_X7_at : GoodIn wsX3_entryCell wsX7_at := goodIn_r _ [4] (by decide +kernel) (by decide +kernel)
set_option maxRecDepth 20000 in
theorem gX3_entryCell_X7_at_n53 : GoodIn wsX3_entryCell (wsX7_at) := ggX3_entryCell_X7_at
theorem dX3_entryCell_0 : decode cX3_entryCell 0 = .ok (.aload_n 0, 1) := by decide +kernel
theorem dX3_entryCell_1 : decode cX3_entryCell 1 = .ok (.getfield 18, 3) := by decide +kernel
theorem dX3_entryCell_4 : decode cX3_entryCell 4 = .ok (.iconst 0, 1) := by decide +kernel
theorem dX3_entryCell_5 : decode cX3_entryCell 5 = .ok (.invokestatic 53, 3) := by decide +kernel
theorem dX3_entryCell_8 : decode cX3_entryCell 8 = .ok (.ireturn, 1) := by decide +kernel
set_option maxRecDepth 20000 in
theorem ggX3_exitCell_X7_at : GoodIn wsX3_exitCell wsX7_at := goodIn_r _ [4] (by decide +kernel) (by decide +kernel)
set_option maxRecDepth 20000 in
theorem gX3_exitCell_X7_at_n53 : GoodIn wsX3_exitCell (wsX7_at) := ggX3_exitCell_X7_at
theorem dX3_exitCell_0 : decode cX3_exitCell 0 = .ok (.aload_n 0, 1) := by decide +kernel
theorem dX3_exitCell_1 : decode cX3_exitCell 1 = .ok (.getfield 18, 3) := by decide +kernel
theorem dX3_exitCell_4 : decode cX3_exitCell 4 = .ok (.iconst 1, 1) := by decide +kernel
theorem dX3_exitCell_5 : decode cX3_exitCell 5 = .ok (.invokestatic 53, 3) := by decide +kernel
theorem dX3_exitCell_8 : decode cX3_exitCell 8 = .ok (.ireturn, 1) := by decide +kernel
set_option maxRecDepth 20000 in
theorem ggX3_isDoorAt_X7_at : GoodIn wsX3_isDoorAt wsX7_at := goodIn_r _ [5] (by decide +kernel) (by decide +kernel)
set_option maxRecDepth 20000 in
theorem gX3_isDoorAt_X7_at_n53 : GoodIn wsX3_isDoorAt (wsX7_at) := ggX3_isDoorAt_X7_at
theorem dX3_isDoorAt_0 : decode cX3_isDoorAt 0 = .ok (.aload_n 0, 1) := by decide +kernel
theorem dX3_isDoorAt_1 : decode cX3_isDoorAt 1 = .ok (.getfield 18, 3) := by decide +kernel
theorem dX3_isDoorAt_4 : decode cX3_isDoorAt 4 = .ok (.iload_n 1, 1) := by decide +kernel
theorem dX3_isDoorAt_5 : decode cX3_isDoorAt 5 = .ok (.invokestatic 53, 3) := by decide +kernel
theorem dX3_isDoorAt_8 : decode cX3_isDoorAt 8 = .ok (.iload_n 2, 1) := by decide +kernel
theorem dX3_isDoorAt_9 : decode cX3_isDoorAt 9 = .ok (.if_icmp .ne 19, 3) := by decide +kernel
theorem dX3_isDoorAt_12 : decode cX3_isDoorAt 12 = .ok (.aload_n 0, 1) := by decide +kernel
theorem dX3_isDoorAt_13 : decode cX3_isDoorAt 13 = .ok (.getfield 21, 3) := by decide +kernel
theorem dX3_isDoorAt_16 : decode cX3_isDoorAt 16 = .ok (.iload_n 1, 1) := by decide +kernel
theorem dX3_isDoorAt_17 : decode cX3_isDoorAt 17 = .ok (.invokestatic 53, 3) := by decide +kernel
theorem dX3_isDoorAt_20 : decode cX3_isDoorAt 20 = .ok (.iload_n 3, 1) := by decide +kernel
theorem dX3_isDoorAt_21 : decode cX3_isDoorAt 21 = .ok (.if_icmp .ne 7, 3) := by decide +kernel
theorem dX3_isDoorAt_24 : decode cX3_isDoorAt 24 = .ok (.iconst 1, 1) := by decide +kernel
theorem dX3_isDoorAt_25 : decode cX3_isDoorAt 25 = .ok (.goto 4, 3) := by decide +kernel
theorem dX3_isDoorAt_28 : decode cX3_isDoorAt 28 = .ok (.iconst 0, 1) := by decide +kernel
theorem dX3_isDoorAt_29 : decode cX3_isDoorAt 29 = .ok (.ireturn, 1) := by decide +kernel
theorem dX4_init_0 : decode cX4_init 0 = .ok (.aload_n 0, 1) := by decide +kernel
theorem dX4_init_1 : decode cX4_init 1 = .ok (.invokespecial 3, 3) := by decide +kernel
theorem dX4_init_4 : decode cX4_init 4 = .ok (.aload_n 0, 1) := by decide +kernel
theorem dX4_init_5 : decode cX4_init 5 = .ok (.bipush 60, 2) := by decide +kernel
theorem dX4_init_7 : decode cX4_init 7 = .ok (.newarray .int, 2) := by decide +kernel
theorem dX4_init_9 : decode cX4_init 9 = .ok (.putfield 9, 3) := by decide +kernel
theorem dX4_init_12 : decode cX4_init 12 = .ok (.return_, 1) := by decide +kernel
set_option maxRecDepth 20000 in
theorem ggX4_look_X7_at : GoodIn wsX4_look wsX7_at := goodIn_r _ [10] (by decide +kernel) (by decide +kernel)
set_option maxRecDepth 20000 in
theorem gX4_look_X7_at_n34 : GoodIn wsX4_look (wsX7_at) := ggX4_look_X7_at
set_option maxRecDepth 20000 in
theorem ggX4_look_X4_lookAtDigit : GoodIn wsX4_look wsX4_lookAtDigit := goodIn_r _ [15, 4, 5, 3, 16, 17, 18, 19, 20, 21, 22, 14, 23, 2, 1, 36, 37, 38, 39, 40, 41, 42] (by decide +kernel) (by decide +kernel)
set_option maxRecDepth 20000 in
theorem gX4_look_X4_lookAtDigit : GoodIn wsX4_look (wsV RX4 38 RX4 yX4_lookAtDigit wsX4_lookAtDigit) := goodIn_app (goodIn_of _ (by decide +kernel)) ggX4_look_X4_lookAtDigit
set_option maxRecDepth 20000 in
theorem ggX4_look_X4_lookAtSlash : GoodIn wsX4_look wsX4_lookAtSlash := goodIn_r _ [27, 4, 5, 28, 29, 30, 14, 31, 3, 20, 21, 22, 23, 2, 1, 36, 37, 38, 39, 40, 41, 42] (by decide +kernel) (by decide +kernel)
set_option maxRecDepth 20000 in
theorem gX4_look_X4_lookAtSlash : GoodIn wsX4_look (wsV RX4 42 RX4 yX4_lookAtSlash wsX4_lookAtSlash) := goodIn_app (goodIn_of _ (by decide +kernel)) ggX4_look_X4_lookAtSlash
set_option maxRecDepth 20000 in
theorem ggX4_look_X4_blame : GoodIn wsX4_look wsX4_blame := goodIn_r _ [23, 2, 1, 36, 37, 38, 39, 40, 41, 42] (by decide +kernel) (by decide +kernel)
set_option maxRecDepth 20000 in
theorem gX4_look_X4_blame : GoodIn wsX4_look (wsV RX4 45 RX4 yX4_blame wsX4_blame) := goodIn_app (goodIn_of _ (by decide +kernel)) ggX4_look_X4_blame
set_option maxRecDepth 20000 in
theorem ggX4_look_X4_lookAtEnd : GoodIn wsX4_look wsX4_lookAtEnd := goodIn_r _ [35, 6, 3, 4, 28, 29, 30, 14, 31, 5, 20, 21, 22, 23, 2, 1, 36, 37, 38, 39, 40, 41, 42] (by decide +kernel) (by decide +kernel)
set_option maxRecDepth 20000 in
theorem gX4_look_X4_lookAtEnd : GoodIn wsX4_look (wsV RX4 49 RX4 yX4_lookAtEnd wsX4_lookAtEnd) := goodIn_app (goodIn_of _ (by decide +kernel)) ggX4_look_X4_lookAtEnd
theorem dX4_look_0 : decode cX4_look 0 = .ok (.aload_n 0, 1) := by decide +kernel
theorem dX4_look_1 : decode cX4_look 1 = .ok (.iconst 0, 1) := by decide +kernel
theorem dX4_look_2 : decode cX4_look 2 = .ok (.putfield 15, 3) := by decide +kernel
theorem dX4_look_5 : decode cX4_look 5 = .ok (.aload_n 0, 1) := by decide +kernel
theorem dX4_look_6 : decode cX4_look 6 = .ok (.iconst 0, 1) := by decide +kernel
theorem dX4_look_7 : decode cX4_look 7 = .ok (.putfield 19, 3) := by decide +kernel
theorem dX4_look_10 : decode cX4_look 10 = .ok (.aload_n 0, 1) := by decide +kernel
theorem dX4_look_11 : decode cX4_look 11 = .ok (.iconst 0, 1) := by decide +kernel
theorem dX4_look_12 : decode cX4_look 12 = .ok (.putfield 22, 3) := by decide +kernel
theorem dX4_look_15 : decode cX4_look 15 = .ok (.aload_n 0, 1) := by decide +kernel
theorem dX4_look_16 : decode cX4_look 16 = .ok (.iconst 1, 1) := by decide +kernel
theorem dX4_look_17 : decode cX4_look 17 = .ok (.putfield 25, 3) := by decide +kernel
theorem dX4_look_20 : decode cX4_look 20 = .ok (.aload_n 0, 1) := by decide +kernel
theorem dX4_look_21 : decode cX4_look 21 = .ok (.iconst 0, 1) := by decide +kernel
theorem dX4_look_22 : decode cX4_look 22 = .ok (.putfield 28, 3) := by decide +kernel
theorem dX4_look_25 : decode cX4_look 25 = .ok (.iconst 0, 1) := by decide +kernel
theorem dX4_look_26 : decode cX4_look 26 = .ok (.istore_n 1, 1) := by decide +kernel
theorem dX4_look_27 : decode cX4_look 27 = .ok (.iload_n 1, 1) := by decide +kernel
theorem dX4_look_28 : decode cX4_look 28 = .ok (.aload_n 0, 1) := by decide +kernel
theorem dX4_look_29 : decode cX4_look 29 = .ok (.getfield 31, 3) := by decide +kernel
theorem dX4_look_32 : decode cX4_look 32 = .ok (.if_icmp .ge 65, 3) := by decide +kernel
theorem dX4_look_35 : decode cX4_look 35 = .ok (.aload_n 0, 1) := by decide +kernel
theorem dX4_look_36 : decode cX4_look 36 = .ok (.getfield 15, 3) := by decide +kernel
theorem dX4_look_39 : decode cX4_look 39 = .ok (.ifCond .ne 58, 3) := by decide +kernel
theorem dX4_look_42 : decode cX4_look 42 = .ok (.aload_n 0, 1) := by decide +kernel
theorem dX4_look_43 : decode cX4_look 43 = .ok (.getfield 9, 3) := by decide +kernel
theorem dX4_look_46 : decode cX4_look 46 = .ok (.iload_n 1, 1) := by decide +kernel
theorem dX4_look_47 : decode cX4_look 47 = .ok (.invokestatic 34, 3) := by decide +kernel
theorem dX4_look_50 : decode cX4_look 50 = .ok (.istore_n 2, 1) := by decide +kernel
theorem dX4_look_51 : decode cX4_look 51 = .ok (.iload_n 2, 1) := by decide +kernel
theorem dX4_look_52 : decode cX4_look 52 = .ok (.bipush 48, 2) := by decide +kernel
theorem dX4_look_54 : decode cX4_look 54 = .ok (.if_icmp .lt 17, 3) := by decide +kernel
theorem dX4_look_57 : decode cX4_look 57 = .ok (.iload_n 2, 1) := by decide +kernel
theorem dX4_look_58 : decode cX4_look 58 = .ok (.bipush 57, 2) := by decide +kernel
theorem dX4_look_60 : decode cX4_look 60 = .ok (.if_icmp .gt 11, 3) := by decide +kernel
theorem dX4_look_63 : decode cX4_look 63 = .ok (.aload_n 0, 1) := by decide +kernel
theorem dX4_look_64 : decode cX4_look 64 = .ok (.iload_n 1, 1) := by decide +kernel
theorem dX4_look_65 : decode cX4_look 65 = .ok (.invokevirtual 38, 3) := by decide +kernel
theorem dX4_look_68 : decode cX4_look 68 = .ok (.goto 23, 3) := by decide +kernel
theorem dX4_look_71 : decode cX4_look 71 = .ok (.iload_n 2, 1) := by decide +kernel
theorem dX4_look_72 : decode cX4_look 72 = .ok (.bipush 47, 2) := by decide +kernel
theorem dX4_look_74 : decode cX4_look 74 = .ok (.if_icmp .ne 11, 3) := by decide +kernel
theorem dX4_look_77 : decode cX4_look 77 = .ok (.aload_n 0, 1) := by decide +kernel
theorem dX4_look_78 : decode cX4_look 78 = .ok (.iload_n 1, 1) := by decide +kernel
theorem dX4_look_79 : decode cX4_look 79 = .ok (.invokevirtual 42, 3) := by decide +kernel
theorem dX4_look_82 : decode cX4_look 82 = .ok (.goto 9, 3) := by decide +kernel
theorem dX4_look_85 : decode cX4_look 85 = .ok (.aload_n 0, 1) := by decide +kernel
theorem dX4_look_86 : decode cX4_look 86 = .ok (.iload_n 1, 1) := by decide +kernel
theorem dX4_look_87 : decode cX4_look 87 = .ok (.iconst 1, 1) := by decide +kernel
theorem dX4_look_88 : decode cX4_look 88 = .ok (.invokevirtual 45, 3) := by decide +kernel
theorem dX4_look_91 : decode cX4_look 91 = .ok (.iinc 1 1, 3) := by decide +kernel
theorem dX4_look_94 : decode cX4_look 94 = .ok (.goto (-67), 3) := by decide +kernel
theorem dX4_look_97 : decode cX4_look 97 = .ok (.aload_n 0, 1) := by decide +kernel
theorem dX4_look_98 : decode cX4_look 98 = .ok (.getfield 15, 3) := by decide +kernel
theorem dX4_look_101 : decode cX4_look 101 = .ok (.ifCond .ne 7, 3) := by decide +kernel
theorem dX4_look_104 : decode cX4_look 104 = .ok (.aload_n 0, 1) := by decide +kernel
theorem dX4_look_105 : decode cX4_look 105 = .ok (.invokevirtual 49, 3) := by decide +kernel
theorem dX4_look_108 : decode cX4_look 108 = .ok (.return_, 1) := by decide +kernel
set_option maxRecDepth 20000 in
theorem ggX4_lookAtDigit_X4_blame : GoodIn wsX4_lookAtDigit wsX4_blame := goodIn_r _ [12, 13, 14, 15, 16, 17, 18, 19, 20, 21] (by decide +kernel) (by decide +kernel)
set_option maxRecDepth 20000 in
theorem gX4_lookAtDigit_X4_blame : GoodIn wsX4_lookAtDigit (wsV RX4 45 RX4 yX4_blame wsX4_blame) := goodIn_app (goodIn_of _ (by decide +kernel)) ggX4_lookAtDigit_X4_blame
theorem dX4_lookAtDigit_0 : decode cX4_lookAtDigit 0 = .ok (.aload_n 0, 1) := by decide +kernel
theorem dX4_lookAtDigit_1 : decode cX4_lookAtDigit 1 = .ok (.getfield 25, 3) := by decide +kernel
theorem dX4_lookAtDigit_4 : decode cX4_lookAtDigit 4 = .ok (.iconst 1, 1) := by decide +kernel
theorem dX4_lookAtDigit_5 : decode cX4_lookAtDigit 5 = .ok (.if_icmp .ne 21, 3) := by decide +kernel
theorem dX4_lookAtDigit_8 : decode cX4_lookAtDigit 8 = .ok (.aload_n 0, 1) := by decide +kernel
theorem dX4_lookAtDigit_9 : decode cX4_lookAtDigit 9 = .ok (.getfield 28, 3) := by decide +kernel
theorem dX4_lookAtDigit_12 : decode cX4_lookAtDigit 12 = .ok (.bipush 6, 2) := by decide +kernel
theorem dX4_lookAtDigit_14 : decode cX4_lookAtDigit 14 = .ok (.if_icmp .ne 12, 3) := by decide +kernel
theorem dX4_lookAtDigit_17 : decode cX4_lookAtDigit 17 = .ok (.aload_n 0, 1) := by decide +kernel
theorem dX4_lookAtDigit_18 : decode cX4_lookAtDigit 18 = .ok (.iload_n 1, 1) := by decide +kernel
theorem dX4_lookAtDigit_19 : decode cX4_lookAtDigit 19 = .ok (.iconst 2, 1) := by decide +kernel
theorem dX4_lookAtDigit_20 : decode cX4_lookAtDigit 20 = .ok (.invokevirtual 45, 3) := by decide +kernel
theorem dX4_lookAtDigit_23 : decode cX4_lookAtDigit 23 = .ok (.goto 56, 3) := by decide +kernel
theorem dX4_lookAtDigit_26 : decode cX4_lookAtDigit 26 = .ok (.aload_n 0, 1) := by decide +kernel
theorem dX4_lookAtDigit_27 : decode cX4_lookAtDigit 27 = .ok (.getfield 25, 3) := by decide +kernel
theorem dX4_lookAtDigit_30 : decode cX4_lookAtDigit 30 = .ok (.iconst 1, 1) := by decide +kernel
theorem dX4_lookAtDigit_31 : decode cX4_lookAtDigit 31 = .ok (.if_icmp .le 23, 3) := by decide +kernel
theorem dX4_lookAtDigit_34 : decode cX4_lookAtDigit 34 = .ok (.aload_n 0, 1) := by decide +kernel
theorem dX4_lookAtDigit_35 : decode cX4_lookAtDigit 35 = .ok (.getfield 28, 3) := by decide +kernel
theorem dX4_lookAtDigit_38 : decode cX4_lookAtDigit 38 = .ok (.aload_n 0, 1) := by decide +kernel
theorem dX4_lookAtDigit_39 : decode cX4_lookAtDigit 39 = .ok (.getfield 22, 3) := by decide +kernel
theorem dX4_lookAtDigit_42 : decode cX4_lookAtDigit 42 = .ok (.if_icmp .ne 12, 3) := by decide +kernel
theorem dX4_lookAtDigit_45 : decode cX4_lookAtDigit 45 = .ok (.aload_n 0, 1) := by decide +kernel
theorem dX4_lookAtDigit_46 : decode cX4_lookAtDigit 46 = .ok (.iload_n 1, 1) := by decide +kernel
theorem dX4_lookAtDigit_47 : decode cX4_lookAtDigit 47 = .ok (.iconst 1, 1) := by decide +kernel
theorem dX4_lookAtDigit_48 : decode cX4_lookAtDigit 48 = .ok (.invokevirtual 45, 3) := by decide +kernel
theorem dX4_lookAtDigit_51 : decode cX4_lookAtDigit 51 = .ok (.goto 28, 3) := by decide +kernel
theorem dX4_lookAtDigit_54 : decode cX4_lookAtDigit 54 = .ok (.aload_n 0, 1) := by decide +kernel
theorem dX4_lookAtDigit_55 : decode cX4_lookAtDigit 55 = .ok (.dup, 1) := by decide +kernel
theorem dX4_lookAtDigit_56 : decode cX4_lookAtDigit 56 = .ok (.getfield 28, 3) := by decide +kernel
theorem dX4_lookAtDigit_59 : decode cX4_lookAtDigit 59 = .ok (.iconst 1, 1) := by decide +kernel
theorem dX4_lookAtDigit_60 : decode cX4_lookAtDigit 60 = .ok (.iadd, 1) := by decide +kernel
theorem dX4_lookAtDigit_61 : decode cX4_lookAtDigit 61 = .ok (.putfield 28, 3) := by decide +kernel
theorem dX4_lookAtDigit_64 : decode cX4_lookAtDigit 64 = .ok (.aload_n 0, 1) := by decide +kernel
theorem dX4_lookAtDigit_65 : decode cX4_lookAtDigit 65 = .ok (.aload_n 0, 1) := by decide +kernel
theorem dX4_lookAtDigit_66 : decode cX4_lookAtDigit 66 = .ok (.getfield 22, 3) := by decide +kernel
theorem dX4_lookAtDigit_69 : decode cX4_lookAtDigit 69 = .ok (.aload_n 0, 1) := by decide +kernel
theorem dX4_lookAtDigit_70 : decode cX4_lookAtDigit 70 = .ok (.getfield 28, 3) := by decide +kernel
theorem dX4_lookAtDigit_73 : decode cX4_lookAtDigit 73 = .ok (.invokestatic 52, 3) := by decide +kernel
theorem dX4_lookAtDigit_76 : decode cX4_lookAtDigit 76 = .ok (.putfield 22, 3) := by decide +kernel
theorem dX4_lookAtDigit_79 : decode cX4_lookAtDigit 79 = .ok (.return_, 1) := by decide +kernel
set_option maxRecDepth 20000 in
theorem ggX4_lookAtSlash_X4_isRowFull : GoodIn wsX4_lookAtSlash wsX4_isRowFull := goodIn_r _ [7, 2, 8, 15, 16, 17, 18, 19, 20, 21] (by decide +kernel) (by decide +kernel)
set_option maxRecDepth 20000 in
theorem gX4_lookAtSlash_X4_isRowFull : GoodIn wsX4_lookAtSlash (wsV RX4 58 RX4 yX4_isRowFull wsX4_isRowFull) := goodIn_app (goodIn_of _ (by decide +kernel)) ggX4_lookAtSlash_X4_isRowFull
set_option maxRecDepth 20000 in
theorem ggX4_lookAtSlash_X4_blame : GoodIn wsX4_lookAtSlash wsX4_blame := goodIn_r _ [12, 13, 14, 15, 16, 17, 18, 19, 20, 21] (by decide +kernel) (by decide +kernel)
set_option maxRecDepth 20000 in
theorem gX4_lookAtSlash_X4_blame : GoodIn wsX4_lookAtSlash (wsV RX4 45 RX4 yX4_blame wsX4_blame) := goodIn_app (goodIn_of _ (by decide +kernel)) ggX4_lookAtSlash_X4_blame
theorem dX4_lookAtSlash_0 : decode cX4_lookAtSlash 0 = .ok (.aload_n 0, 1) := by decide +kernel
theorem dX4_lookAtSlash_1 : decode cX4_lookAtSlash 1 = .ok (.invokevirtual 58, 3) := by decide +kernel
theorem dX4_lookAtSlash_4 : decode cX4_lookAtSlash 4 = .ok (.ifCond .ne 12, 3) := by decide +kernel
theorem dX4_lookAtSlash_7 : decode cX4_lookAtSlash 7 = .ok (.aload_n 0, 1) := by decide +kernel
theorem dX4_lookAtSlash_8 : decode cX4_lookAtSlash 8 = .ok (.iload_n 1, 1) := by decide +kernel
theorem dX4_lookAtSlash_9 : decode cX4_lookAtSlash 9 = .ok (.iconst 1, 1) := by decide +kernel
theorem dX4_lookAtSlash_10 : decode cX4_lookAtSlash 10 = .ok (.invokevirtual 45, 3) := by decide +kernel
theorem dX4_lookAtSlash_13 : decode cX4_lookAtSlash 13 = .ok (.goto 36, 3) := by decide +kernel
theorem dX4_lookAtSlash_16 : decode cX4_lookAtSlash 16 = .ok (.aload_n 0, 1) := by decide +kernel
theorem dX4_lookAtSlash_17 : decode cX4_lookAtSlash 17 = .ok (.getfield 25, 3) := by decide +kernel
theorem dX4_lookAtSlash_20 : decode cX4_lookAtSlash 20 = .ok (.bipush 6, 2) := by decide +kernel
theorem dX4_lookAtSlash_22 : decode cX4_lookAtSlash 22 = .ok (.if_icmp .ne 12, 3) := by decide +kernel
theorem dX4_lookAtSlash_25 : decode cX4_lookAtSlash 25 = .ok (.aload_n 0, 1) := by decide +kernel
theorem dX4_lookAtSlash_26 : decode cX4_lookAtSlash 26 = .ok (.iload_n 1, 1) := by decide +kernel
theorem dX4_lookAtSlash_27 : decode cX4_lookAtSlash 27 = .ok (.iconst 3, 1) := by decide +kernel
theorem dX4_lookAtSlash_28 : decode cX4_lookAtSlash 28 = .ok (.invokevirtual 45, 3) := by decide +kernel
theorem dX4_lookAtSlash_31 : decode cX4_lookAtSlash 31 = .ok (.goto 18, 3) := by decide +kernel
theorem dX4_lookAtSlash_34 : decode cX4_lookAtSlash 34 = .ok (.aload_n 0, 1) := by decide +kernel
theorem dX4_lookAtSlash_35 : decode cX4_lookAtSlash 35 = .ok (.dup, 1) := by decide +kernel
theorem dX4_lookAtSlash_36 : decode cX4_lookAtSlash 36 = .ok (.getfield 25, 3) := by decide +kernel
theorem dX4_lookAtSlash_39 : decode cX4_lookAtSlash 39 = .ok (.iconst 1, 1) := by decide +kernel
theorem dX4_lookAtSlash_40 : decode cX4_lookAtSlash 40 = .ok (.iadd, 1) := by decide +kernel
theorem dX4_lookAtSlash_41 : decode cX4_lookAtSlash 41 = .ok (.putfield 25, 3) := by decide +kernel
theorem dX4_lookAtSlash_44 : decode cX4_lookAtSlash 44 = .ok (.aload_n 0, 1) := by decide +kernel
theorem dX4_lookAtSlash_45 : decode cX4_lookAtSlash 45 = .ok (.iconst 0, 1) := by decide +kernel
theorem dX4_lookAtSlash_46 : decode cX4_lookAtSlash 46 = .ok (.putfield 28, 3) := by decide +kernel
theorem dX4_lookAtSlash_49 : decode cX4_lookAtSlash 49 = .ok (.return_, 1) := by decide +kernel
set_option maxRecDepth 20000 in
theorem ggX4_lookAtEnd_X4_isRowFull : GoodIn wsX4_lookAtEnd wsX4_isRowFull := goodIn_r _ [8, 9, 2, 16, 17, 18, 19, 20, 21, 22] (by decide +kernel) (by decide +kernel)
set_option maxRecDepth 20000 in
theorem gX4_lookAtEnd_X4_isRowFull : GoodIn wsX4_lookAtEnd (wsV RX4 58 RX4 yX4_isRowFull wsX4_isRowFull) := goodIn_app (goodIn_of _ (by decide +kernel)) ggX4_lookAtEnd_X4_isRowFull
set_option maxRecDepth 20000 in
theorem ggX4_lookAtEnd_X4_blame : GoodIn wsX4_lookAtEnd wsX4_blame := goodIn_r _ [13, 14, 15, 16, 17, 18, 19, 20, 21, 22] (by decide +kernel) (by decide +kernel)
set_option maxRecDepth 20000 in
theorem gX4_lookAtEnd_X4_blame : GoodIn wsX4_lookAtEnd (wsV RX4 45 RX4 yX4_blame wsX4_blame) := goodIn_app (goodIn_of _ (by decide +kernel)) ggX4_lookAtEnd_X4_blame
theorem dX4_lookAtEnd_0 : decode cX4_lookAtEnd 0 = .ok (.aload_n 0, 1) := by decide +kernel
theorem dX4_lookAtEnd_1 : decode cX4_lookAtEnd 1 = .ok (.invokevirtual 58, 3) := by decide +kernel
theorem dX4_lookAtEnd_4 : decode cX4_lookAtEnd 4 = .ok (.ifCond .ne 15, 3) := by decide +kernel
theorem dX4_lookAtEnd_7 : decode cX4_lookAtEnd 7 = .ok (.aload_n 0, 1) := by decide +kernel
theorem dX4_lookAtEnd_8 : decode cX4_lookAtEnd 8 = .ok (.aload_n 0, 1) := by decide +kernel
theorem dX4_lookAtEnd_9 : decode cX4_lookAtEnd 9 = .ok (.getfield 31, 3) := by decide +kernel
theorem dX4_lookAtEnd_12 : decode cX4_lookAtEnd 12 = .ok (.iconst 1, 1) := by decide +kernel
theorem dX4_lookAtEnd_13 : decode cX4_lookAtEnd 13 = .ok (.invokevirtual 45, 3) := by decide +kernel
theorem dX4_lookAtEnd_16 : decode cX4_lookAtEnd 16 = .ok (.goto 28, 3) := by decide +kernel
theorem dX4_lookAtEnd_19 : decode cX4_lookAtEnd 19 = .ok (.aload_n 0, 1) := by decide +kernel
theorem dX4_lookAtEnd_20 : decode cX4_lookAtEnd 20 = .ok (.getfield 22, 3) := by decide +kernel
theorem dX4_lookAtEnd_23 : decode cX4_lookAtEnd 23 = .ok (.iconst 1, 1) := by decide +kernel
theorem dX4_lookAtEnd_24 : decode cX4_lookAtEnd 24 = .ok (.if_icmp .eq 11, 3) := by decide +kernel
theorem dX4_lookAtEnd_27 : decode cX4_lookAtEnd 27 = .ok (.aload_n 0, 1) := by decide +kernel
theorem dX4_lookAtEnd_28 : decode cX4_lookAtEnd 28 = .ok (.getfield 25, 3) := by decide +kernel
theorem dX4_lookAtEnd_31 : decode cX4_lookAtEnd 31 = .ok (.iconst 1, 1) := by decide +kernel
theorem dX4_lookAtEnd_32 : decode cX4_lookAtEnd 32 = .ok (.if_icmp .ne 12, 3) := by decide +kernel
theorem dX4_lookAtEnd_35 : decode cX4_lookAtEnd 35 = .ok (.aload_n 0, 1) := by decide +kernel
theorem dX4_lookAtEnd_36 : decode cX4_lookAtEnd 36 = .ok (.aload_n 0, 1) := by decide +kernel
theorem dX4_lookAtEnd_37 : decode cX4_lookAtEnd 37 = .ok (.getfield 31, 3) := by decide +kernel
theorem dX4_lookAtEnd_40 : decode cX4_lookAtEnd 40 = .ok (.iconst 4, 1) := by decide +kernel
theorem dX4_lookAtEnd_41 : decode cX4_lookAtEnd 41 = .ok (.invokevirtual 45, 3) := by decide +kernel
theorem dX4_lookAtEnd_44 : decode cX4_lookAtEnd 44 = .ok (.return_, 1) := by decide +kernel
theorem dX4_isRowFull_0 : decode cX4_isRowFull 0 = .ok (.aload_n 0, 1) := by decide +kernel
theorem dX4_isRowFull_1 : decode cX4_isRowFull 1 = .ok (.getfield 28, 3) := by decide +kernel
theorem dX4_isRowFull_4 : decode cX4_isRowFull 4 = .ok (.ifCond .le 18, 3) := by decide +kernel
theorem dX4_isRowFull_7 : decode cX4_isRowFull 7 = .ok (.aload_n 0, 1) := by decide +kernel
theorem dX4_isRowFull_8 : decode cX4_isRowFull 8 = .ok (.getfield 28, 3) := by decide +kernel
theorem dX4_isRowFull_11 : decode cX4_isRowFull 11 = .ok (.aload_n 0, 1) := by decide +kernel
theorem dX4_isRowFull_12 : decode cX4_isRowFull 12 = .ok (.getfield 22, 3) := by decide +kernel
theorem dX4_isRowFull_15 : decode cX4_isRowFull 15 = .ok (.if_icmp .ne 7, 3) := by decide +kernel
theorem dX4_isRowFull_18 : decode cX4_isRowFull 18 = .ok (.iconst 1, 1) := by decide +kernel
theorem dX4_isRowFull_19 : decode cX4_isRowFull 19 = .ok (.goto 4, 3) := by decide +kernel
theorem dX4_isRowFull_22 : decode cX4_isRowFull 22 = .ok (.iconst 0, 1) := by decide +kernel
theorem dX4_isRowFull_23 : decode cX4_isRowFull 23 = .ok (.ireturn, 1) := by decide +kernel
theorem dX4_blame_0 : decode cX4_blame 0 = .ok (.aload_n 0, 1) := by decide +kernel
theorem dX4_blame_1 : decode cX4_blame 1 = .ok (.iload_n 1, 1) := by decide +kernel
theorem dX4_blame_2 : decode cX4_blame 2 = .ok (.putfield 19, 3) := by decide +kernel
theorem dX4_blame_5 : decode cX4_blame 5 = .ok (.aload_n 0, 1) := by decide +kernel
theorem dX4_blame_6 : decode cX4_blame 6 = .ok (.iload_n 2, 1) := by decide +kernel
theorem dX4_blame_7 : decode cX4_blame 7 = .ok (.putfield 15, 3) := by decide +kernel
theorem dX4_blame_10 : decode cX4_blame 10 = .ok (.return_, 1) := by decide +kernel
set_option maxRecDepth 20000 in
theorem ggX4_paint_X3_clear : GoodIn wsX4_paint wsX3_clear := goodIn_r _ [10, 11, 12, 13, 14, 15, 16, 17, 18, 19, 20, 21, 22, 23, 24, 25, 26, 9, 27, 37, 38, 39, 40, 41, 42] (by decide +kernel) (by decide +kernel)
set_option maxRecDepth 20000 in
theorem gX4_paint_X3_clear : GoodIn wsX4_paint (wsV RX4 62 RX3 yX3_clear wsX3_clear) := goodIn_app (goodIn_of _ (by decide +kernel)) ggX4_paint_X3_clear
set_option maxRecDepth 20000 in
theorem ggX4_paint_X7_at : GoodIn wsX4_paint wsX7_at := goodIn_r _ [29] (by decide +kernel) (by decide +kernel)
set_option maxRecDepth 20000 in
theorem gX4_paint_X7_at_n34 : GoodIn wsX4_paint (wsX7_at) := ggX4_paint_X7_at
set_option maxRecDepth 20000 in
theorem ggX4_paint_X7_put : GoodIn wsX4_paint wsX7_put := goodIn_r _ [23] (by decide +kernel) (by decide +kernel)
set_option maxRecDepth 20000 in
theorem gX4_paint_X7_put_n70 : GoodIn wsX4_paint (wsX7_put) := ggX4_paint_X7_put
theorem dX4_paint_0 : decode cX4_paint 0 = .ok (.aload_n 1, 1) := by decide +kernel
theorem dX4_paint_1 : decode cX4_paint 1 = .ok (.aload_n 0, 1) := by decide +kernel
theorem dX4_paint_2 : decode cX4_paint 2 = .ok (.getfield 22, 3) := by decide +kernel
theorem dX4_paint_5 : decode cX4_paint 5 = .ok (.aload_n 0, 1) := by decide +kernel
theorem dX4_paint_6 : decode cX4_paint 6 = .ok (.getfield 25, 3) := by decide +kernel
theorem dX4_paint_9 : decode cX4_paint 9 = .ok (.invokevirtual 62, 3) := by decide +kernel
theorem dX4_paint_12 : decode cX4_paint 12 = .ok (.iconst 0, 1) := by decide +kernel
theorem dX4_paint_13 : decode cX4_paint 13 = .ok (.istore_n 2, 1) := by decide +kernel
theorem dX4_paint_14 : decode cX4_paint 14 = .ok (.iconst 0, 1) := by decide +kernel
theorem dX4_paint_15 : decode cX4_paint 15 = .ok (.istore_n 3, 1) := by decide +kernel
theorem dX4_paint_16 : decode cX4_paint 16 = .ok (.iload_n 3, 1) := by decide +kernel
theorem dX4_paint_17 : decode cX4_paint 17 = .ok (.aload_n 0, 1) := by decide +kernel
theorem dX4_paint_18 : decode cX4_paint 18 = .ok (.getfield 31, 3) := by decide +kernel
theorem dX4_paint_21 : decode cX4_paint 21 = .ok (.if_icmp .ge 42, 3) := by decide +kernel
theorem dX4_paint_24 : decode cX4_paint 24 = .ok (.aload_n 0, 1) := by decide +kernel
theorem dX4_paint_25 : decode cX4_paint 25 = .ok (.getfield 9, 3) := by decide +kernel
theorem dX4_paint_28 : decode cX4_paint 28 = .ok (.iload_n 3, 1) := by decide +kernel
theorem dX4_paint_29 : decode cX4_paint 29 = .ok (.invokestatic 34, 3) := by decide +kernel
theorem dX4_paint_32 : decode cX4_paint 32 = .ok (.istore 4, 2) := by decide +kernel
theorem dX4_paint_34 : decode cX4_paint 34 = .ok (.iload 4, 2) := by decide +kernel
theorem dX4_paint_36 : decode cX4_paint 36 = .ok (.bipush 47, 2) := by decide +kernel
theorem dX4_paint_38 : decode cX4_paint 38 = .ok (.if_icmp .eq 19, 3) := by decide +kernel
theorem dX4_paint_41 : decode cX4_paint 41 = .ok (.aload_n 1, 1) := by decide +kernel
theorem dX4_paint_42 : decode cX4_paint 42 = .ok (.getfield 67, 3) := by decide +kernel
theorem dX4_paint_45 : decode cX4_paint 45 = .ok (.iload_n 2, 1) := by decide +kernel
theorem dX4_paint_46 : decode cX4_paint 46 = .ok (.iload 4, 2) := by decide +kernel
theorem dX4_paint_48 : decode cX4_paint 48 = .ok (.bipush 48, 2) := by decide +kernel
theorem dX4_paint_50 : decode cX4_paint 50 = .ok (.isub, 1) := by decide +kernel
theorem dX4_paint_51 : decode cX4_paint 51 = .ok (.invokestatic 70, 3) := by decide +kernel
theorem dX4_paint_54 : decode cX4_paint 54 = .ok (.iinc 2 1, 3) := by decide +kernel
theorem dX4_paint_57 : decode cX4_paint 57 = .ok (.iinc 3 1, 3) := by decide +kernel
theorem dX4_paint_60 : decode cX4_paint 60 = .ok (.goto (-44), 3) := by decide +kernel
theorem dX4_paint_63 : decode cX4_paint 63 = .ok (.return_, 1) := by decide +kernel
theorem dX5_init_0 : decode cX5_init 0 = .ok (.aload_n 0, 1) := by decide +kernel
theorem dX5_init_1 : decode cX5_init 1 = .ok (.invokespecial 3, 3) := by decide +kernel
theorem dX5_init_4 : decode cX5_init 4 = .ok (.aload_n 0, 1) := by decide +kernel
theorem dX5_init_5 : decode cX5_init 5 = .ok (.bipush 36, 2) := by decide +kernel
theorem dX5_init_7 : decode cX5_init 7 = .ok (.newarray .int, 2) := by decide +kernel
theorem dX5_init_9 : decode cX5_init 9 = .ok (.putfield 9, 3) := by decide +kernel
theorem dX5_init_12 : decode cX5_init 12 = .ok (.aload_n 0, 1) := by decide +kernel
theorem dX5_init_13 : decode cX5_init 13 = .ok (.bipush 36, 2) := by decide +kernel
theorem dX5_init_15 : decode cX5_init 15 = .ok (.newarray .int, 2) := by decide +kernel
theorem dX5_init_17 : decode cX5_init 17 = .ok (.putfield 15, 3) := by decide +kernel
theorem dX5_init_20 : decode cX5_init 20 = .ok (.return_, 1) := by decide +kernel
set_option maxRecDepth 20000 in
theorem ggX5_take_J7_fill_53178 : GoodIn wsX5_take wsJ7_fill_53178 := goodIn_r _ [9] (by decide +kernel) (by decide +kernel)
set_option maxRecDepth 20000 in
theorem gX5_take_J7_fill_53178 : GoodIn wsX5_take (va_wsS RX5 18 yJ7_fill_53178 wsJ7_fill_53178) := goodIn_app (goodIn_of _ (by decide +kernel)) ggX5_take_J7_fill_53178
set_option maxRecDepth 20000 in
theorem ggX5_take_X3_entryCell : GoodIn wsX5_take wsX3_entryCell := goodIn_r _ [14, 15, 16, 17, 18, 52, 53, 54, 55, 56, 57] (by decide +kernel) (by decide +kernel)
set_option maxRecDepth 20000 in
theorem gX5_take_X3_entryCell : GoodIn wsX5_take (wsV RX5 32 RX3 yX3_entryCell wsX3_entryCell) := goodIn_app (goodIn_of _ (by decide +kernel)) ggX5_take_X3_entryCell
set_option maxRecDepth 20000 in
theorem ggX5_take_X7_at : GoodIn wsX5_take wsX7_at := goodIn_r _ [18] (by decide +kernel) (by decide +kernel)
set_option maxRecDepth 20000 in
theorem gX5_take_X7_at_n41 : GoodIn wsX5_take (wsX7_at) := ggX5_take_X7_at
set_option maxRecDepth 20000 in
theorem ggX5_take_X5_opposite : GoodIn wsX5_take wsX5_opposite := goodIn_r _ [22] (by decide +kernel) (by decide +kernel)
set_option maxRecDepth 20000 in
theorem gX5_take_X5_opposite : GoodIn wsX5_take (va_wsS RX5 45 yX5_opposite wsX5_opposite) := goodIn_app (goodIn_of _ (by decide +kernel)) ggX5_take_X5_opposite
set_option maxRecDepth 20000 in
theorem ggX5_take_X5_come : GoodIn wsX5_take wsX5_come := goodIn_r _ [26, 2, 1, 3, 16, 17, 18, 27, 28, 48, 49, 50, 51] (by decide +kernel) (by decide +kernel)
set_option maxRecDepth 20000 in
theorem gX5_take_X5_come : GoodIn wsX5_take (wsV RX5 49 RX5 yX5_come wsX5_come) := goodIn_app (goodIn_of _ (by decide +kernel)) ggX5_take_X5_come
set_option maxRecDepth 20000 in
theorem ggX5_take_X5_turn : GoodIn wsX5_take wsX5_turn := goodIn_r _ [31, 32, 33, 34, 13, 35, 36, 16, 17, 18, 37, 38, 39, 40, 15, 41, 52, 53, 54, 55, 56, 57] (by decide +kernel) (by decide +kernel)
set_option maxRecDepth 20000 in
theorem gX5_take_X5_turn : GoodIn wsX5_take (va_wsS RX5 53 yX5_turn wsX5_turn) := goodIn_app (goodIn_of _ (by decide +kernel)) ggX5_take_X5_turn
set_option maxRecDepth 20000 in
theorem ggX5_take_X3_isDoorAt : GoodIn wsX5_take wsX3_isDoorAt := goodIn_r _ [40, 15, 41, 16, 17, 18, 52, 53, 54, 55, 56, 57] (by decide +kernel) (by decide +kernel)
set_option maxRecDepth 20000 in
theorem gX5_take_X3_isDoorAt : GoodIn wsX5_take (wsV RX5 57 RX3 yX3_isDoorAt wsX3_isDoorAt) := goodIn_app (goodIn_of _ (by decide +kernel)) ggX5_take_X3_isDoorAt
set_option maxRecDepth 20000 in
theorem ggX5_take_X3_beside : GoodIn wsX5_take wsX3_beside := goodIn_r _ [45, 46, 47, 52, 53, 54, 55, 56, 57] (by decide +kernel) (by decide +kernel)
set_option maxRecDepth 20000 in
theorem gX5_take_X3_beside : GoodIn wsX5_take (wsV RX5 61 RX3 yX3_beside wsX3_beside) := goodIn_app (goodIn_of _ (by decide +kernel)) ggX5_take_X3_beside
theorem dX5_take_0 : decode cX5_take 0 = .ok (.aload_n 0, 1) := by decide +kernel
theorem dX5_take_1 : decode cX5_take 1 = .ok (.getfield 9, 3) := by decide +kernel
theorem dX5_take_4 : decode cX5_take 4 = .ok (.iconst 0, 1) := by decide +kernel
theorem dX5_take_5 : decode cX5_take 5 = .ok (.invokestatic 18, 3) := by decide +kernel
theorem dX5_take_8 : decode cX5_take 8 = .ok (.aload_n 0, 1) := by decide +kernel
theorem dX5_take_9 : decode cX5_take 9 = .ok (.getfield 15, 3) := by decide +kernel
theorem dX5_take_12 : decode cX5_take 12 = .ok (.iconst 0, 1) := by decide +kernel
theorem dX5_take_13 : decode cX5_take 13 = .ok (.invokestatic 18, 3) := by decide +kernel
theorem dX5_take_16 : decode cX5_take 16 = .ok (.aload_n 0, 1) := by decide +kernel
theorem dX5_take_17 : decode cX5_take 17 = .ok (.iconst 0, 1) := by decide +kernel
theorem dX5_take_18 : decode cX5_take 18 = .ok (.putfield 24, 3) := by decide +kernel
theorem dX5_take_21 : decode cX5_take 21 = .ok (.aload_n 0, 1) := by decide +kernel
theorem dX5_take_22 : decode cX5_take 22 = .ok (.iconst 1, 1) := by decide +kernel
theorem dX5_take_23 : decode cX5_take 23 = .ok (.putfield 28, 3) := by decide +kernel
theorem dX5_take_26 : decode cX5_take 26 = .ok (.aload_n 1, 1) := by decide +kernel
theorem dX5_take_27 : decode cX5_take 27 = .ok (.invokevirtual 32, 3) := by decide +kernel
theorem dX5_take_30 : decode cX5_take 30 = .ok (.istore_n 2, 1) := by decide +kernel
theorem dX5_take_31 : decode cX5_take 31 = .ok (.aload_n 1, 1) := by decide +kernel
theorem dX5_take_32 : decode cX5_take 32 = .ok (.getfield 38, 3) := by decide +kernel
theorem dX5_take_35 : decode cX5_take 35 = .ok (.iconst 0, 1) := by decide +kernel
theorem dX5_take_36 : decode cX5_take 36 = .ok (.invokestatic 41, 3) := by decide +kernel
theorem dX5_take_39 : decode cX5_take 39 = .ok (.invokestatic 45, 3) := by decide +kernel
theorem dX5_take_42 : decode cX5_take 42 = .ok (.istore_n 3, 1) := by decide +kernel
theorem dX5_take_43 : decode cX5_take 43 = .ok (.iconst 0, 1) := by decide +kernel
theorem dX5_take_44 : decode cX5_take 44 = .ok (.istore 4, 2) := by decide +kernel
theorem dX5_take_46 : decode cX5_take 46 = .ok (.iload 4, 2) := by decide +kernel
theorem dX5_take_48 : decode cX5_take 48 = .ok (.sipush 144, 3) := by decide +kernel
theorem dX5_take_51 : decode cX5_take 51 = .ok (.if_icmp .gt 67, 3) := by decide +kernel
theorem dX5_take_54 : decode cX5_take 54 = .ok (.aload_n 0, 1) := by decide +kernel
theorem dX5_take_55 : decode cX5_take 55 = .ok (.getfield 15, 3) := by decide +kernel
theorem dX5_take_58 : decode cX5_take 58 = .ok (.iload_n 2, 1) := by decide +kernel
theorem dX5_take_59 : decode cX5_take 59 = .ok (.invokestatic 41, 3) := by decide +kernel
theorem dX5_take_62 : decode cX5_take 62 = .ok (.iconst 1, 1) := by decide +kernel
theorem dX5_take_63 : decode cX5_take 63 = .ok (.iload_n 3, 1) := by decide +kernel
theorem dX5_take_64 : decode cX5_take 64 = .ok (.ishl, 1) := by decide +kernel
theorem dX5_take_65 : decode cX5_take 65 = .ok (.iand, 1) := by decide +kernel
theorem dX5_take_66 : decode cX5_take 66 = .ok (.ifCond .eq 4, 3) := by decide +kernel
theorem dX5_take_69 : decode cX5_take 69 = .ok (.return_, 1) := by decide +kernel
theorem dX5_take_70 : decode cX5_take 70 = .ok (.aload_n 0, 1) := by decide +kernel
theorem dX5_take_71 : decode cX5_take 71 = .ok (.iload_n 2, 1) := by decide +kernel
theorem dX5_take_72 : decode cX5_take 72 = .ok (.iload_n 3, 1) := by decide +kernel
theorem dX5_take_73 : decode cX5_take 73 = .ok (.invokevirtual 49, 3) := by decide +kernel
theorem dX5_take_76 : decode cX5_take 76 = .ok (.aload_n 1, 1) := by decide +kernel
theorem dX5_take_77 : decode cX5_take 77 = .ok (.iload_n 2, 1) := by decide +kernel
theorem dX5_take_78 : decode cX5_take 78 = .ok (.iload_n 3, 1) := by decide +kernel
theorem dX5_take_79 : decode cX5_take 79 = .ok (.invokestatic 53, 3) := by decide +kernel
theorem dX5_take_82 : decode cX5_take 82 = .ok (.istore_n 3, 1) := by decide +kernel
theorem dX5_take_83 : decode cX5_take 83 = .ok (.iload_n 3, 1) := by decide +kernel
theorem dX5_take_84 : decode cX5_take 84 = .ok (.iconst (-1), 1) := by decide +kernel
theorem dX5_take_85 : decode cX5_take 85 = .ok (.if_icmp .ne 4, 3) := by decide +kernel
theorem dX5_take_88 : decode cX5_take 88 = .ok (.return_, 1) := by decide +kernel
theorem dX5_take_89 : decode cX5_take 89 = .ok (.aload_n 1, 1) := by decide +kernel
theorem dX5_take_90 : decode cX5_take 90 = .ok (.iconst 1, 1) := by decide +kernel
theorem dX5_take_91 : decode cX5_take 91 = .ok (.iload_n 2, 1) := by decide +kernel
theorem dX5_take_92 : decode cX5_take 92 = .ok (.iload_n 3, 1) := by decide +kernel
theorem dX5_take_93 : decode cX5_take 93 = .ok (.invokevirtual 57, 3) := by decide +kernel
theorem dX5_take_96 : decode cX5_take 96 = .ok (.ifCond .eq 9, 3) := by decide +kernel
theorem dX5_take_99 : decode cX5_take 99 = .ok (.aload_n 0, 1) := by decide +kernel
theorem dX5_take_100 : decode cX5_take 100 = .ok (.iconst 0, 1) := by decide +kernel
theorem dX5_take_101 : decode cX5_take 101 = .ok (.putfield 28, 3) := by decide +kernel
theorem dX5_take_104 : decode cX5_take 104 = .ok (.return_, 1) := by decide +kernel
theorem dX5_take_105 : decode cX5_take 105 = .ok (.aload_n 1, 1) := by decide +kernel
theorem dX5_take_106 : decode cX5_take 106 = .ok (.iload_n 2, 1) := by decide +kernel
theorem dX5_take_107 : decode cX5_take 107 = .ok (.iload_n 3, 1) := by decide +kernel
theorem dX5_take_108 : decode cX5_take 108 = .ok (.invokevirtual 61, 3) := by decide +kernel
theorem dX5_take_111 : decode cX5_take 111 = .ok (.istore_n 2, 1) := by decide +kernel
theorem dX5_take_112 : decode cX5_take 112 = .ok (.iinc 4 1, 3) := by decide +kernel
theorem dX5_take_115 : decode cX5_take 115 = .ok (.goto (-69), 3) := by decide +kernel
theorem dX5_take_118 : decode cX5_take 118 = .ok (.return_, 1) := by decide +kernel
set_option maxRecDepth 20000 in
theorem ggX5_come_X7_at : GoodIn wsX5_come wsX7_at := goodIn_r _ [6] (by decide +kernel) (by decide +kernel)
set_option maxRecDepth 20000 in
theorem gX5_come_X7_at_n41 : GoodIn wsX5_come (wsX7_at) := ggX5_come_X7_at
set_option maxRecDepth 20000 in
theorem ggX5_come_X7_put : GoodIn wsX5_come wsX7_put := goodIn_r _ [8] (by decide +kernel) (by decide +kernel)
set_option maxRecDepth 20000 in
theorem gX5_come_X7_put_n65 : GoodIn wsX5_come (wsX7_put) := ggX5_come_X7_put
theorem dX5_come_0 : decode cX5_come 0 = .ok (.aload_n 0, 1) := by decide +kernel
theorem dX5_come_1 : decode cX5_come 1 = .ok (.getfield 15, 3) := by decide +kernel
theorem dX5_come_4 : decode cX5_come 4 = .ok (.iload_n 1, 1) := by decide +kernel
theorem dX5_come_5 : decode cX5_come 5 = .ok (.aload_n 0, 1) := by decide +kernel
theorem dX5_come_6 : decode cX5_come 6 = .ok (.getfield 15, 3) := by decide +kernel
theorem dX5_come_9 : decode cX5_come 9 = .ok (.iload_n 1, 1) := by decide +kernel
theorem dX5_come_10 : decode cX5_come 10 = .ok (.invokestatic 41, 3) := by decide +kernel
theorem dX5_come_13 : decode cX5_come 13 = .ok (.iconst 1, 1) := by decide +kernel
theorem dX5_come_14 : decode cX5_come 14 = .ok (.iload_n 2, 1) := by decide +kernel
theorem dX5_come_15 : decode cX5_come 15 = .ok (.ishl, 1) := by decide +kernel
theorem dX5_come_16 : decode cX5_come 16 = .ok (.ior, 1) := by decide +kernel
theorem dX5_come_17 : decode cX5_come 17 = .ok (.invokestatic 65, 3) := by decide +kernel
theorem dX5_come_20 : decode cX5_come 20 = .ok (.aload_n 0, 1) := by decide +kernel
theorem dX5_come_21 : decode cX5_come 21 = .ok (.getfield 9, 3) := by decide +kernel
theorem dX5_come_24 : decode cX5_come 24 = .ok (.iload_n 1, 1) := by decide +kernel
theorem dX5_come_25 : decode cX5_come 25 = .ok (.aload_n 0, 1) := by decide +kernel
theorem dX5_come_26 : decode cX5_come 26 = .ok (.getfield 9, 3) := by decide +kernel
theorem dX5_come_29 : decode cX5_come 29 = .ok (.iload_n 1, 1) := by decide +kernel
theorem dX5_come_30 : decode cX5_come 30 = .ok (.invokestatic 41, 3) := by decide +kernel
theorem dX5_come_33 : decode cX5_come 33 = .ok (.iconst 1, 1) := by decide +kernel
theorem dX5_come_34 : decode cX5_come 34 = .ok (.iadd, 1) := by decide +kernel
theorem dX5_come_35 : decode cX5_come 35 = .ok (.invokestatic 65, 3) := by decide +kernel
theorem dX5_come_38 : decode cX5_come 38 = .ok (.aload_n 0, 1) := by decide +kernel
theorem dX5_come_39 : decode cX5_come 39 = .ok (.dup, 1) := by decide +kernel
theorem dX5_come_40 : decode cX5_come 40 = .ok (.getfield 24, 3) := by decide +kernel
theorem dX5_come_43 : decode cX5_come 43 = .ok (.iconst 1, 1) := by decide +kernel
theorem dX5_come_44 : decode cX5_come 44 = .ok (.iadd, 1) := by decide +kernel
theorem dX5_come_45 : decode cX5_come 45 = .ok (.putfield 24, 3) := by decide +kernel
theorem dX5_come_48 : decode cX5_come 48 = .ok (.return_, 1) := by decide +kernel
theorem dX5_opposite_0 : decode cX5_opposite 0 = .ok (.iload_n 0, 1) := by decide +kernel
theorem dX5_opposite_1 : decode cX5_opposite 1 = .ok (.iconst 2, 1) := by decide +kernel
theorem dX5_opposite_2 : decode cX5_opposite 2 = .ok (.iadd, 1) := by decide +kernel
theorem dX5_opposite_3 : decode cX5_opposite 3 = .ok (.iconst 4, 1) := by decide +kernel
theorem dX5_opposite_4 : decode cX5_opposite 4 = .ok (.irem, 1) := by decide +kernel
theorem dX5_opposite_5 : decode cX5_opposite 5 = .ok (.ireturn, 1) := by decide +kernel
set_option maxRecDepth 20000 in
theorem ggX5_turn_X3_hasPassage : GoodIn wsX5_turn wsX3_hasPassage := goodIn_r _ [5, 6, 7, 8, 9, 16, 17, 18, 19, 20, 21] (by decide +kernel) (by decide +kernel)
set_option maxRecDepth 20000 in
theorem gX5_turn_X3_hasPassage : GoodIn wsX5_turn (wsV RX5 69 RX3 yX3_hasPassage wsX3_hasPassage) := goodIn_app (goodIn_of _ (by decide +kernel)) ggX5_turn_X3_hasPassage
set_option maxRecDepth 20000 in
theorem ggX5_turn_X3_isDoorAt : GoodIn wsX5_turn wsX3_isDoorAt := goodIn_r _ [13, 14, 15, 7, 8, 9, 16, 17, 18, 19, 20, 21] (by decide +kernel) (by decide +kernel)
set_option maxRecDepth 20000 in
theorem gX5_turn_X3_isDoorAt : GoodIn wsX5_turn (wsV RX5 57 RX3 yX3_isDoorAt wsX3_isDoorAt) := goodIn_app (goodIn_of _ (by decide +kernel)) ggX5_turn_X3_isDoorAt
theorem dX5_turn_0 : decode cX5_turn 0 = .ok (.iconst 0, 1) := by decide +kernel
theorem dX5_turn_1 : decode cX5_turn 1 = .ok (.istore_n 3, 1) := by decide +kernel
theorem dX5_turn_2 : decode cX5_turn 2 = .ok (.iload_n 3, 1) := by decide +kernel
theorem dX5_turn_3 : decode cX5_turn 3 = .ok (.iconst 4, 1) := by decide +kernel
theorem dX5_turn_4 : decode cX5_turn 4 = .ok (.if_icmp .ge 44, 3) := by decide +kernel
theorem dX5_turn_7 : decode cX5_turn 7 = .ok (.iload_n 2, 1) := by decide +kernel
theorem dX5_turn_8 : decode cX5_turn 8 = .ok (.iconst 1, 1) := by decide +kernel
theorem dX5_turn_9 : decode cX5_turn 9 = .ok (.iadd, 1) := by decide +kernel
theorem dX5_turn_10 : decode cX5_turn 10 = .ok (.iconst 4, 1) := by decide +kernel
theorem dX5_turn_11 : decode cX5_turn 11 = .ok (.iadd, 1) := by decide +kernel
theorem dX5_turn_12 : decode cX5_turn 12 = .ok (.iload_n 3, 1) := by decide +kernel
theorem dX5_turn_13 : decode cX5_turn 13 = .ok (.isub, 1) := by decide +kernel
theorem dX5_turn_14 : decode cX5_turn 14 = .ok (.iconst 4, 1) := by decide +kernel
theorem dX5_turn_15 : decode cX5_turn 15 = .ok (.irem, 1) := by decide +kernel
theorem dX5_turn_16 : decode cX5_turn 16 = .ok (.istore 4, 2) := by decide +kernel
theorem dX5_turn_18 : decode cX5_turn 18 = .ok (.aload_n 0, 1) := by decide +kernel
theorem dX5_turn_19 : decode cX5_turn 19 = .ok (.iload_n 1, 1) := by decide +kernel
theorem dX5_turn_20 : decode cX5_turn 20 = .ok (.iload 4, 2) := by decide +kernel
theorem dX5_turn_22 : decode cX5_turn 22 = .ok (.invokevirtual 69, 3) := by decide +kernel
theorem dX5_turn_25 : decode cX5_turn 25 = .ok (.ifCond .ne 14, 3) := by decide +kernel
theorem dX5_turn_28 : decode cX5_turn 28 = .ok (.aload_n 0, 1) := by decide +kernel
theorem dX5_turn_29 : decode cX5_turn 29 = .ok (.iconst 1, 1) := by decide +kernel
theorem dX5_turn_30 : decode cX5_turn 30 = .ok (.iload_n 1, 1) := by decide +kernel
theorem dX5_turn_31 : decode cX5_turn 31 = .ok (.iload 4, 2) := by decide +kernel
theorem dX5_turn_33 : decode cX5_turn 33 = .ok (.invokevirtual 57, 3) := by decide +kernel
theorem dX5_turn_36 : decode cX5_turn 36 = .ok (.ifCond .eq 6, 3) := by decide +kernel
theorem dX5_turn_39 : decode cX5_turn 39 = .ok (.iload 4, 2) := by decide +kernel
theorem dX5_turn_41 : decode cX5_turn 41 = .ok (.ireturn, 1) := by decide +kernel
theorem dX5_turn_42 : decode cX5_turn 42 = .ok (.iinc 3 1, 3) := by decide +kernel
theorem dX5_turn_45 : decode cX5_turn 45 = .ok (.goto (-43), 3) := by decide +kernel
theorem dX5_turn_48 : decode cX5_turn 48 = .ok (.iconst (-1), 1) := by decide +kernel
theorem dX5_turn_49 : decode cX5_turn 49 = .ok (.ireturn, 1) := by decide +kernel
set_option maxRecDepth 20000 in
theorem ggX5_faultOn_X3_cells : GoodIn wsX5_faultOn wsX3_cells := goodIn_r _ [14, 15, 16, 24, 25, 26, 27, 28, 29] (by decide +kernel) (by decide +kernel)
set_option maxRecDepth 20000 in
theorem gX5_faultOn_X3_cells : GoodIn wsX5_faultOn (wsV RX5 73 RX3 yX3_cells wsX3_cells) := goodIn_app (goodIn_of _ (by decide +kernel)) ggX5_faultOn_X3_cells
set_option maxRecDepth 20000 in
theorem ggX5_faultOn_X7_at : GoodIn wsX5_faultOn wsX7_at := goodIn_r _ [19] (by decide +kernel) (by decide +kernel)
set_option maxRecDepth 20000 in
theorem gX5_faultOn_X7_at_n41 : GoodIn wsX5_faultOn (wsX7_at) := ggX5_faultOn_X7_at
theorem dX5_faultOn_0 : decode cX5_faultOn 0 = .ok (.iconst 0, 1) := by decide +kernel
theorem dX5_faultOn_1 : decode cX5_faultOn 1 = .ok (.istore_n 2, 1) := by decide +kernel
theorem dX5_faultOn_2 : decode cX5_faultOn 2 = .ok (.iconst 0, 1) := by decide +kernel
theorem dX5_faultOn_3 : decode cX5_faultOn 3 = .ok (.istore_n 3, 1) := by decide +kernel
theorem dX5_faultOn_4 : decode cX5_faultOn 4 = .ok (.iload_n 3, 1) := by decide +kernel
theorem dX5_faultOn_5 : decode cX5_faultOn 5 = .ok (.aload_n 1, 1) := by decide +kernel
theorem dX5_faultOn_6 : decode cX5_faultOn 6 = .ok (.invokevirtual 73, 3) := by decide +kernel
theorem dX5_faultOn_9 : decode cX5_faultOn 9 = .ok (.if_icmp .ge 43, 3) := by decide +kernel
theorem dX5_faultOn_12 : decode cX5_faultOn 12 = .ok (.iconst 3, 1) := by decide +kernel
theorem dX5_faultOn_13 : decode cX5_faultOn 13 = .ok (.aload_n 0, 1) := by decide +kernel
theorem dX5_faultOn_14 : decode cX5_faultOn 14 = .ok (.getfield 9, 3) := by decide +kernel
theorem dX5_faultOn_17 : decode cX5_faultOn 17 = .ok (.iload_n 3, 1) := by decide +kernel
theorem dX5_faultOn_18 : decode cX5_faultOn 18 = .ok (.invokestatic 41, 3) := by decide +kernel
theorem dX5_faultOn_21 : decode cX5_faultOn 21 = .ok (.imul, 1) := by decide +kernel
theorem dX5_faultOn_22 : decode cX5_faultOn 22 = .ok (.bipush 9, 2) := by decide +kernel
theorem dX5_faultOn_24 : decode cX5_faultOn 24 = .ok (.invokestatic 76, 3) := by decide +kernel
theorem dX5_faultOn_27 : decode cX5_faultOn 27 = .ok (.istore 4, 2) := by decide +kernel
theorem dX5_faultOn_29 : decode cX5_faultOn 29 = .ok (.iload_n 2, 1) := by decide +kernel
theorem dX5_faultOn_30 : decode cX5_faultOn 30 = .ok (.aload_n 1, 1) := by decide +kernel
theorem dX5_faultOn_31 : decode cX5_faultOn 31 = .ok (.getfield 81, 3) := by decide +kernel
theorem dX5_faultOn_34 : decode cX5_faultOn 34 = .ok (.iload_n 3, 1) := by decide +kernel
theorem dX5_faultOn_35 : decode cX5_faultOn 35 = .ok (.invokestatic 41, 3) := by decide +kernel
theorem dX5_faultOn_38 : decode cX5_faultOn 38 = .ok (.iload 4, 2) := by decide +kernel
theorem dX5_faultOn_40 : decode cX5_faultOn 40 = .ok (.isub, 1) := by decide +kernel
theorem dX5_faultOn_41 : decode cX5_faultOn 41 = .ok (.invokestatic 84, 3) := by decide +kernel
theorem dX5_faultOn_44 : decode cX5_faultOn 44 = .ok (.iadd, 1) := by decide +kernel
theorem dX5_faultOn_45 : decode cX5_faultOn 45 = .ok (.istore_n 2, 1) := by decide +kernel
theorem dX5_faultOn_46 : decode cX5_faultOn 46 = .ok (.iinc 3 1, 3) := by decide +kernel
theorem dX5_faultOn_49 : decode cX5_faultOn 49 = .ok (.goto (-45), 3) := by decide +kernel
theorem dX5_faultOn_52 : decode cX5_faultOn 52 = .ok (.iload_n 2, 1) := by decide +kernel
theorem dX5_faultOn_53 : decode cX5_faultOn 53 = .ok (.ireturn, 1) := by decide +kernel
theorem dX6_init_0 : decode cX6_init 0 = .ok (.aload_n 0, 1) := by decide +kernel
theorem dX6_init_1 : decode cX6_init 1 = .ok (.invokespecial 3, 3) := by decide +kernel
theorem dX6_init_4 : decode cX6_init 4 = .ok (.aload_n 0, 1) := by decide +kernel
theorem dX6_init_5 : decode cX6_init 5 = .ok (.bipush 36, 2) := by decide +kernel
theorem dX6_init_7 : decode cX6_init 7 = .ok (.newarray .int, 2) := by decide +kernel
theorem dX6_init_9 : decode cX6_init 9 = .ok (.putfield 9, 3) := by decide +kernel
theorem dX6_init_12 : decode cX6_init 12 = .ok (.aload_n 0, 1) := by decide +kernel
theorem dX6_init_13 : decode cX6_init 13 = .ok (.bipush 36, 2) := by decide +kernel
theorem dX6_init_15 : decode cX6_init 15 = .ok (.newarray .int, 2) := by decide +kernel
theorem dX6_init_17 : decode cX6_init 17 = .ok (.putfield 15, 3) := by decide +kernel
theorem dX6_init_20 : decode cX6_init 20 = .ok (.aload_n 0, 1) := by decide +kernel
theorem dX6_init_21 : decode cX6_init 21 = .ok (.bipush 36, 2) := by decide +kernel
theorem dX6_init_23 : decode cX6_init 23 = .ok (.newarray .int, 2) := by decide +kernel
theorem dX6_init_25 : decode cX6_init 25 = .ok (.putfield 18, 3) := by decide +kernel
theorem dX6_init_28 : decode cX6_init 28 = .ok (.aload_n 0, 1) := by decide +kernel
theorem dX6_init_29 : decode cX6_init 29 = .ok (.bipush 36, 2) := by decide +kernel
theorem dX6_init_31 : decode cX6_init 31 = .ok (.newarray .int, 2) := by decide +kernel
theorem dX6_init_33 : decode cX6_init 33 = .ok (.putfield 21, 3) := by decide +kernel
theorem dX6_init_36 : decode cX6_init 36 = .ok (.return_, 1) := by decide +kernel
set_option maxRecDepth 20000 in
theorem ggX6_findFrom_J7_fill_53178 : GoodIn wsX6_findFrom wsJ7_fill_53178 := goodIn_r _ [7] (by decide +kernel) (by decide +kernel)
set_option maxRecDepth 20000 in
theorem gX6_findFrom_J7_fill_53178 : GoodIn wsX6_findFrom (va_wsS RX6 24 yJ7_fill_53178 wsJ7_fill_53178) := goodIn_app (goodIn_of _ (by decide +kernel)) ggX6_findFrom_J7_fill_53178
set_option maxRecDepth 20000 in
theorem ggX6_findFrom_X6_reachCell : GoodIn wsX6_findFrom wsX6_reachCell := goodIn_r _ [12, 13, 3, 2, 14, 1, 15, 16, 17, 18, 19, 20, 21, 22, 23, 11, 24, 46, 47, 48, 49, 50, 51, 41, 42, 43, 44, 45] (by decide +kernel) (by decide +kernel)
set_option maxRecDepth 20000 in
theorem gX6_findFrom_X6_reachCell : GoodIn wsX6_findFrom (wsV RX6 34 RX6 yX6_reachCell wsX6_reachCell) := goodIn_app (goodIn_of _ (by decide +kernel)) ggX6_findFrom_X6_reachCell
set_option maxRecDepth 20000 in
theorem ggX6_findFrom_X7_at : GoodIn wsX6_findFrom wsX7_at := goodIn_r _ [18] (by decide +kernel) (by decide +kernel)
set_option maxRecDepth 20000 in
theorem gX6_findFrom_X7_at_n38 : GoodIn wsX6_findFrom (wsX7_at) := ggX6_findFrom_X7_at
set_option maxRecDepth 20000 in
theorem ggX6_findFrom_X3_beside : GoodIn wsX6_findFrom wsX3_beside := goodIn_r _ [29, 30, 31, 46, 47, 48, 49, 50, 51] (by decide +kernel) (by decide +kernel)
set_option maxRecDepth 20000 in
theorem gX6_findFrom_X3_beside : GoodIn wsX6_findFrom (wsV RX6 42 RX3 yX3_beside wsX3_beside) := goodIn_app (goodIn_of _ (by decide +kernel)) ggX6_findFrom_X3_beside
set_option maxRecDepth 20000 in
theorem ggX6_findFrom_X3_hasPassage : GoodIn wsX6_findFrom wsX3_hasPassage := goodIn_r _ [35, 36, 16, 17, 18, 46, 47, 48, 49, 50, 51] (by decide +kernel) (by decide +kernel)
set_option maxRecDepth 20000 in
theorem gX6_findFrom_X3_hasPassage : GoodIn wsX6_findFrom (wsV RX6 48 RX3 yX3_hasPassage wsX3_hasPassage) := goodIn_app (goodIn_of _ (by decide +kernel)) ggX6_findFrom_X3_hasPassage
set_option maxRecDepth 20000 in
theorem ggX6_findFrom_X6_reach : GoodIn wsX6_findFrom wsX6_reach := goodIn_r _ [40, 21, 22, 23, 11, 24, 1, 41, 42, 43, 44, 45] (by decide +kernel) (by decide +kernel)
set_option maxRecDepth 20000 in
theorem gX6_findFrom_X6_reach : GoodIn wsX6_findFrom (wsV RX6 52 RX6 yX6_reach wsX6_reach) := goodIn_app (goodIn_of _ (by decide +kernel)) ggX6_findFrom_X6_reach
theorem dX6_findFrom_0 : decode cX6_findFrom 0 = .ok (.aload_n 0, 1) := by decide +kernel
theorem dX6_findFrom_1 : decode cX6_findFrom 1 = .ok (.getfield 18, 3) := by decide +kernel
theorem dX6_findFrom_4 : decode cX6_findFrom 4 = .ok (.iconst (-1), 1) := by decide +kernel
theorem dX6_findFrom_5 : decode cX6_findFrom 5 = .ok (.invokestatic 24, 3) := by decide +kernel
theorem dX6_findFrom_8 : decode cX6_findFrom 8 = .ok (.aload_n 0, 1) := by decide +kernel
theorem dX6_findFrom_9 : decode cX6_findFrom 9 = .ok (.iconst 0, 1) := by decide +kernel
theorem dX6_findFrom_10 : decode cX6_findFrom 10 = .ok (.putfield 30, 3) := by decide +kernel
theorem dX6_findFrom_13 : decode cX6_findFrom 13 = .ok (.aload_n 0, 1) := by decide +kernel
theorem dX6_findFrom_14 : decode cX6_findFrom 14 = .ok (.aload_n 1, 1) := by decide +kernel
theorem dX6_findFrom_15 : decode cX6_findFrom 15 = .ok (.iload_n 2, 1) := by decide +kernel
theorem dX6_findFrom_16 : decode cX6_findFrom 16 = .ok (.iconst (-1), 1) := by decide +kernel
theorem dX6_findFrom_17 : decode cX6_findFrom 17 = .ok (.invokevirtual 34, 3) := by decide +kernel
theorem dX6_findFrom_20 : decode cX6_findFrom 20 = .ok (.iconst 0, 1) := by decide +kernel
theorem dX6_findFrom_21 : decode cX6_findFrom 21 = .ok (.istore_n 3, 1) := by decide +kernel
theorem dX6_findFrom_22 : decode cX6_findFrom 22 = .ok (.iload_n 3, 1) := by decide +kernel
theorem dX6_findFrom_23 : decode cX6_findFrom 23 = .ok (.aload_n 0, 1) := by decide +kernel
theorem dX6_findFrom_24 : decode cX6_findFrom 24 = .ok (.getfield 30, 3) := by decide +kernel
theorem dX6_findFrom_27 : decode cX6_findFrom 27 = .ok (.if_icmp .ge 79, 3) := by decide +kernel
theorem dX6_findFrom_30 : decode cX6_findFrom 30 = .ok (.iload_n 3, 1) := by decide +kernel
theorem dX6_findFrom_31 : decode cX6_findFrom 31 = .ok (.bipush 36, 2) := by decide +kernel
theorem dX6_findFrom_33 : decode cX6_findFrom 33 = .ok (.if_icmp .ge 73, 3) := by decide +kernel
theorem dX6_findFrom_36 : decode cX6_findFrom 36 = .ok (.aload_n 0, 1) := by decide +kernel
theorem dX6_findFrom_37 : decode cX6_findFrom 37 = .ok (.getfield 9, 3) := by decide +kernel
theorem dX6_findFrom_40 : decode cX6_findFrom 40 = .ok (.iload_n 3, 1) := by decide +kernel
theorem dX6_findFrom_41 : decode cX6_findFrom 41 = .ok (.invokestatic 38, 3) := by decide +kernel
theorem dX6_findFrom_44 : decode cX6_findFrom 44 = .ok (.istore 4, 2) := by decide +kernel
theorem dX6_findFrom_46 : decode cX6_findFrom 46 = .ok (.iconst 0, 1) := by decide +kernel
theorem dX6_findFrom_47 : decode cX6_findFrom 47 = .ok (.istore 5, 2) := by decide +kernel
theorem dX6_findFrom_49 : decode cX6_findFrom 49 = .ok (.iload 5, 2) := by decide +kernel
theorem dX6_findFrom_51 : decode cX6_findFrom 51 = .ok (.iconst 4, 1) := by decide +kernel
theorem dX6_findFrom_52 : decode cX6_findFrom 52 = .ok (.if_icmp .ge 48, 3) := by decide +kernel
theorem dX6_findFrom_55 : decode cX6_findFrom 55 = .ok (.aload_n 1, 1) := by decide +kernel
theorem dX6_findFrom_56 : decode cX6_findFrom 56 = .ok (.iload 4, 2) := by decide +kernel
theorem dX6_findFrom_58 : decode cX6_findFrom 58 = .ok (.iload 5, 2) := by decide +kernel
theorem dX6_findFrom_60 : decode cX6_findFrom 60 = .ok (.invokevirtual 42, 3) := by decide +kernel
theorem dX6_findFrom_63 : decode cX6_findFrom 63 = .ok (.istore 6, 2) := by decide +kernel
theorem dX6_findFrom_65 : decode cX6_findFrom 65 = .ok (.aload_n 1, 1) := by decide +kernel
theorem dX6_findFrom_66 : decode cX6_findFrom 66 = .ok (.iload 4, 2) := by decide +kernel
theorem dX6_findFrom_68 : decode cX6_findFrom 68 = .ok (.iload 5, 2) := by decide +kernel
theorem dX6_findFrom_70 : decode cX6_findFrom 70 = .ok (.invokevirtual 48, 3) := by decide +kernel
theorem dX6_findFrom_73 : decode cX6_findFrom 73 = .ok (.ifCond .eq 21, 3) := by decide +kernel
theorem dX6_findFrom_76 : decode cX6_findFrom 76 = .ok (.aload_n 0, 1) := by decide +kernel
theorem dX6_findFrom_77 : decode cX6_findFrom 77 = .ok (.iload 6, 2) := by decide +kernel
theorem dX6_findFrom_79 : decode cX6_findFrom 79 = .ok (.invokevirtual 52, 3) := by decide +kernel
theorem dX6_findFrom_82 : decode cX6_findFrom 82 = .ok (.ifCond .ne 12, 3) := by decide +kernel
theorem dX6_findFrom_85 : decode cX6_findFrom 85 = .ok (.aload_n 0, 1) := by decide +kernel
theorem dX6_findFrom_86 : decode cX6_findFrom 86 = .ok (.aload_n 1, 1) := by decide +kernel
theorem dX6_findFrom_87 : decode cX6_findFrom 87 = .ok (.iload 6, 2) := by decide +kernel
theorem dX6_findFrom_89 : decode cX6_findFrom 89 = .ok (.iload 4, 2) := by decide +kernel
theorem dX6_findFrom_91 : decode cX6_findFrom 91 = .ok (.invokevirtual 34, 3) := by decide +kernel
theorem dX6_findFrom_94 : decode cX6_findFrom 94 = .ok (.iinc 5 1, 3) := by decide +kernel
theorem dX6_findFrom_97 : decode cX6_findFrom 97 = .ok (.goto (-48), 3) := by decide +kernel
theorem dX6_findFrom_100 : decode cX6_findFrom 100 = .ok (.iinc 3 1, 3) := by decide +kernel
theorem dX6_findFrom_103 : decode cX6_findFrom 103 = .ok (.goto (-81), 3) := by decide +kernel
theorem dX6_findFrom_106 : decode cX6_findFrom 106 = .ok (.return_, 1) := by decide +kernel
set_option maxRecDepth 20000 in
theorem ggX6_reachCell_X7_at : GoodIn wsX6_reachCell wsX7_at := goodIn_r _ [9] (by decide +kernel) (by decide +kernel)
set_option maxRecDepth 20000 in
theorem gX6_reachCell_X7_at_n38 : GoodIn wsX6_reachCell (wsX7_at) := ggX6_reachCell_X7_at
set_option maxRecDepth 20000 in
theorem ggX6_reachCell_X7_put : GoodIn wsX6_reachCell wsX7_put := goodIn_r _ [11] (by decide +kernel) (by decide +kernel)
set_option maxRecDepth 20000 in
theorem gX6_reachCell_X7_put_n59 : GoodIn wsX6_reachCell (wsX7_put) := ggX6_reachCell_X7_put
set_option maxRecDepth 20000 in
theorem ggX6_reachCell_X6_lengthTo : GoodIn wsX6_reachCell wsX6_lengthTo := goodIn_r _ [16, 5, 23, 24, 25, 26, 27] (by decide +kernel) (by decide +kernel)
set_option maxRecDepth 20000 in
theorem gX6_reachCell_X6_lengthTo : GoodIn wsX6_reachCell (wsV RX6 63 RX6 yX6_lengthTo wsX6_lengthTo) := goodIn_app (goodIn_of _ (by decide +kernel)) ggX6_reachCell_X6_lengthTo
theorem dX6_reachCell_0 : decode cX6_reachCell 0 = .ok (.bipush 9, 2) := by decide +kernel
theorem dX6_reachCell_2 : decode cX6_reachCell 2 = .ok (.iconst 2, 1) := by decide +kernel
theorem dX6_reachCell_3 : decode cX6_reachCell 3 = .ok (.aload_n 1, 1) := by decide +kernel
theorem dX6_reachCell_4 : decode cX6_reachCell 4 = .ok (.getfield 56, 3) := by decide +kernel
theorem dX6_reachCell_7 : decode cX6_reachCell 7 = .ok (.iload_n 2, 1) := by decide +kernel
theorem dX6_reachCell_8 : decode cX6_reachCell 8 = .ok (.invokestatic 38, 3) := by decide +kernel
theorem dX6_reachCell_11 : decode cX6_reachCell 11 = .ok (.imul, 1) := by decide +kernel
theorem dX6_reachCell_12 : decode cX6_reachCell 12 = .ok (.isub, 1) := by decide +kernel
theorem dX6_reachCell_13 : decode cX6_reachCell 13 = .ok (.istore 4, 2) := by decide +kernel
theorem dX6_reachCell_15 : decode cX6_reachCell 15 = .ok (.aload_n 0, 1) := by decide +kernel
theorem dX6_reachCell_16 : decode cX6_reachCell 16 = .ok (.getfield 9, 3) := by decide +kernel
theorem dX6_reachCell_19 : decode cX6_reachCell 19 = .ok (.aload_n 0, 1) := by decide +kernel
theorem dX6_reachCell_20 : decode cX6_reachCell 20 = .ok (.getfield 30, 3) := by decide +kernel
theorem dX6_reachCell_23 : decode cX6_reachCell 23 = .ok (.iload_n 2, 1) := by decide +kernel
theorem dX6_reachCell_24 : decode cX6_reachCell 24 = .ok (.invokestatic 59, 3) := by decide +kernel
theorem dX6_reachCell_27 : decode cX6_reachCell 27 = .ok (.aload_n 0, 1) := by decide +kernel
theorem dX6_reachCell_28 : decode cX6_reachCell 28 = .ok (.dup, 1) := by decide +kernel
theorem dX6_reachCell_29 : decode cX6_reachCell 29 = .ok (.getfield 30, 3) := by decide +kernel
theorem dX6_reachCell_32 : decode cX6_reachCell 32 = .ok (.iconst 1, 1) := by decide +kernel
theorem dX6_reachCell_33 : decode cX6_reachCell 33 = .ok (.iadd, 1) := by decide +kernel
theorem dX6_reachCell_34 : decode cX6_reachCell 34 = .ok (.putfield 30, 3) := by decide +kernel
theorem dX6_reachCell_37 : decode cX6_reachCell 37 = .ok (.aload_n 0, 1) := by decide +kernel
theorem dX6_reachCell_38 : decode cX6_reachCell 38 = .ok (.getfield 15, 3) := by decide +kernel
theorem dX6_reachCell_41 : decode cX6_reachCell 41 = .ok (.iload_n 2, 1) := by decide +kernel
theorem dX6_reachCell_42 : decode cX6_reachCell 42 = .ok (.iload_n 3, 1) := by decide +kernel
theorem dX6_reachCell_43 : decode cX6_reachCell 43 = .ok (.invokestatic 59, 3) := by decide +kernel
theorem dX6_reachCell_46 : decode cX6_reachCell 46 = .ok (.aload_n 0, 1) := by decide +kernel
theorem dX6_reachCell_47 : decode cX6_reachCell 47 = .ok (.getfield 18, 3) := by decide +kernel
theorem dX6_reachCell_50 : decode cX6_reachCell 50 = .ok (.iload_n 2, 1) := by decide +kernel
theorem dX6_reachCell_51 : decode cX6_reachCell 51 = .ok (.iload_n 3, 1) := by decide +kernel
theorem dX6_reachCell_52 : decode cX6_reachCell 52 = .ok (.iconst (-1), 1) := by decide +kernel
theorem dX6_reachCell_53 : decode cX6_reachCell 53 = .ok (.if_icmp .ne 7, 3) := by decide +kernel
theorem dX6_reachCell_56 : decode cX6_reachCell 56 = .ok (.iconst 0, 1) := by decide +kernel
theorem dX6_reachCell_57 : decode cX6_reachCell 57 = .ok (.goto 10, 3) := by decide +kernel
theorem dX6_reachCell_60 : decode cX6_reachCell 60 = .ok (.aload_n 0, 1) := by decide +kernel
theorem dX6_reachCell_61 : decode cX6_reachCell 61 = .ok (.iload_n 3, 1) := by decide +kernel
theorem dX6_reachCell_62 : decode cX6_reachCell 62 = .ok (.invokevirtual 63, 3) := by decide +kernel
theorem dX6_reachCell_65 : decode cX6_reachCell 65 = .ok (.iconst 1, 1) := by decide +kernel
theorem dX6_reachCell_66 : decode cX6_reachCell 66 = .ok (.iadd, 1) := by decide +kernel
theorem dX6_reachCell_67 : decode cX6_reachCell 67 = .ok (.invokestatic 59, 3) := by decide +kernel
theorem dX6_reachCell_70 : decode cX6_reachCell 70 = .ok (.aload_n 0, 1) := by decide +kernel
theorem dX6_reachCell_71 : decode cX6_reachCell 71 = .ok (.getfield 21, 3) := by decide +kernel
theorem dX6_reachCell_74 : decode cX6_reachCell 74 = .ok (.iload_n 2, 1) := by decide +kernel
theorem dX6_reachCell_75 : decode cX6_reachCell 75 = .ok (.iload_n 3, 1) := by decide +kernel
theorem dX6_reachCell_76 : decode cX6_reachCell 76 = .ok (.iconst (-1), 1) := by decide +kernel
theorem dX6_reachCell_77 : decode cX6_reachCell 77 = .ok (.if_icmp .ne 8, 3) := by decide +kernel
theorem dX6_reachCell_80 : decode cX6_reachCell 80 = .ok (.iload 4, 2) := by decide +kernel
theorem dX6_reachCell_82 : decode cX6_reachCell 82 = .ok (.goto 14, 3) := by decide +kernel
theorem dX6_reachCell_85 : decode cX6_reachCell 85 = .ok (.aload_n 0, 1) := by decide +kernel
theorem dX6_reachCell_86 : decode cX6_reachCell 86 = .ok (.getfield 21, 3) := by decide +kernel
theorem dX6_reachCell_89 : decode cX6_reachCell 89 = .ok (.iload_n 3, 1) := by decide +kernel
theorem dX6_reachCell_90 : decode cX6_reachCell 90 = .ok (.invokestatic 38, 3) := by decide +kernel
theorem dX6_reachCell_93 : decode cX6_reachCell 93 = .ok (.iload 4, 2) := by decide +kernel
theorem dX6_reachCell_95 : decode cX6_reachCell 95 = .ok (.iadd, 1) := by decide +kernel
theorem dX6_reachCell_96 : decode cX6_reachCell 96 = .ok (.invokestatic 59, 3) := by decide +kernel
theorem dX6_reachCell_99 : decode cX6_reachCell 99 = .ok (.return_, 1) := by decide +kernel
theorem dX6_lengthTo_0 : decode cX6_lengthTo 0 = .ok (.iload_n 1, 1) := by decide +kernel
theorem dX6_lengthTo_1 : decode cX6_lengthTo 1 = .ok (.ifCond .lt 21, 3) := by decide +kernel
theorem dX6_lengthTo_4 : decode cX6_lengthTo 4 = .ok (.iload_n 1, 1) := by decide +kernel
theorem dX6_lengthTo_5 : decode cX6_lengthTo 5 = .ok (.aload_n 0, 1) := by decide +kernel
theorem dX6_lengthTo_6 : decode cX6_lengthTo 6 = .ok (.getfield 18, 3) := by decide +kernel
theorem dX6_lengthTo_9 : decode cX6_lengthTo 9 = .ok (.arraylength, 1) := by decide +kernel
theorem dX6_lengthTo_10 : decode cX6_lengthTo 10 = .ok (.if_icmp .ge 12, 3) := by decide +kernel
theorem dX6_lengthTo_13 : decode cX6_lengthTo 13 = .ok (.aload_n 0, 1) := by decide +kernel
theorem dX6_lengthTo_14 : decode cX6_lengthTo 14 = .ok (.getfield 18, 3) := by decide +kernel
theorem dX6_lengthTo_17 : decode cX6_lengthTo 17 = .ok (.iload_n 1, 1) := by decide +kernel
theorem dX6_lengthTo_18 : decode cX6_lengthTo 18 = .ok (.iaload, 1) := by decide +kernel
theorem dX6_lengthTo_19 : decode cX6_lengthTo 19 = .ok (.goto 4, 3) := by decide +kernel
theorem dX6_lengthTo_22 : decode cX6_lengthTo 22 = .ok (.iconst (-1), 1) := by decide +kernel
theorem dX6_lengthTo_23 : decode cX6_lengthTo 23 = .ok (.ireturn, 1) := by decide +kernel
set_option maxRecDepth 20000 in
theorem ggX6_reach_X6_lengthTo : GoodIn wsX6_reach wsX6_lengthTo := goodIn_r _ [5, 6, 7, 8, 9, 10, 11] (by decide +kernel) (by decide +kernel)
set_option maxRecDepth 20000 in
theorem gX6_reach_X6_lengthTo : GoodIn wsX6_reach (wsV RX6 63 RX6 yX6_lengthTo wsX6_lengthTo) := goodIn_app (goodIn_of _ (by decide +kernel)) ggX6_reach_X6_lengthTo
theorem dX6_reach_0 : decode cX6_reach 0 = .ok (.aload_n 0, 1) := by decide +kernel
theorem dX6_reach_1 : decode cX6_reach 1 = .ok (.iload_n 1, 1) := by decide +kernel
theorem dX6_reach_2 : decode cX6_reach 2 = .ok (.invokevirtual 63, 3) := by decide +kernel
theorem dX6_reach_5 : decode cX6_reach 5 = .ok (.iconst (-1), 1) := by decide +kernel
theorem dX6_reach_6 : decode cX6_reach 6 = .ok (.if_icmp .eq 7, 3) := by decide +kernel
theorem dX6_reach_9 : decode cX6_reach 9 = .ok (.iconst 1, 1) := by decide +kernel
theorem dX6_reach_10 : decode cX6_reach 10 = .ok (.goto 4, 3) := by decide +kernel
theorem dX6_reach_13 : decode cX6_reach 13 = .ok (.iconst 0, 1) := by decide +kernel
theorem dX6_reach_14 : decode cX6_reach 14 = .ok (.ireturn, 1) := by decide +kernel
set_option maxRecDepth 20000 in
theorem ggX6_lowestCell_X7_at : GoodIn wsX6_lowestCell wsX7_at := goodIn_r _ [9] (by decide +kernel) (by decide +kernel)
set_option maxRecDepth 20000 in
theorem gX6_lowestCell_X7_at_n38 : GoodIn wsX6_lowestCell (wsX7_at) := ggX6_lowestCell_X7_at
theorem dX6_lowestCell_0 : decode cX6_lowestCell 0 = .ok (.aload_n 0, 1) := by decide +kernel
theorem dX6_lowestCell_1 : decode cX6_lowestCell 1 = .ok (.getfield 9, 3) := by decide +kernel
theorem dX6_lowestCell_4 : decode cX6_lowestCell 4 = .ok (.iconst 0, 1) := by decide +kernel
theorem dX6_lowestCell_5 : decode cX6_lowestCell 5 = .ok (.invokestatic 38, 3) := by decide +kernel
theorem dX6_lowestCell_8 : decode cX6_lowestCell 8 = .ok (.istore_n 1, 1) := by decide +kernel
theorem dX6_lowestCell_9 : decode cX6_lowestCell 9 = .ok (.iconst 1, 1) := by decide +kernel
theorem dX6_lowestCell_10 : decode cX6_lowestCell 10 = .ok (.istore_n 2, 1) := by decide +kernel
theorem dX6_lowestCell_11 : decode cX6_lowestCell 11 = .ok (.iload_n 2, 1) := by decide +kernel
theorem dX6_lowestCell_12 : decode cX6_lowestCell 12 = .ok (.aload_n 0, 1) := by decide +kernel
theorem dX6_lowestCell_13 : decode cX6_lowestCell 13 = .ok (.getfield 30, 3) := by decide +kernel
theorem dX6_lowestCell_16 : decode cX6_lowestCell 16 = .ok (.if_icmp .ge 22, 3) := by decide +kernel
theorem dX6_lowestCell_19 : decode cX6_lowestCell 19 = .ok (.iload_n 1, 1) := by decide +kernel
theorem dX6_lowestCell_20 : decode cX6_lowestCell 20 = .ok (.aload_n 0, 1) := by decide +kernel
theorem dX6_lowestCell_21 : decode cX6_lowestCell 21 = .ok (.getfield 9, 3) := by decide +kernel
theorem dX6_lowestCell_24 : decode cX6_lowestCell 24 = .ok (.iload_n 2, 1) := by decide +kernel
theorem dX6_lowestCell_25 : decode cX6_lowestCell 25 = .ok (.invokestatic 38, 3) := by decide +kernel
theorem dX6_lowestCell_28 : decode cX6_lowestCell 28 = .ok (.invokestatic 67, 3) := by decide +kernel
theorem dX6_lowestCell_31 : decode cX6_lowestCell 31 = .ok (.istore_n 1, 1) := by decide +kernel
theorem dX6_lowestCell_32 : decode cX6_lowestCell 32 = .ok (.iinc 2 1, 3) := by decide +kernel
theorem dX6_lowestCell_35 : decode cX6_lowestCell 35 = .ok (.goto (-24), 3) := by decide +kernel
theorem dX6_lowestCell_38 : decode cX6_lowestCell 38 = .ok (.iload_n 1, 1) := by decide +kernel
theorem dX6_lowestCell_39 : decode cX6_lowestCell 39 = .ok (.ireturn, 1) := by decide +kernel
set_option maxRecDepth 20000 in
theorem ggX7_init_X3_init : GoodIn wsX7_init wsX3_init := goodIn_r _ [38, 39, 2, 3, 40, 41, 42, 43, 44, 45, 46, 47, 6, 48, 49, 50, 51, 52, 53, 54, 55, 56, 57, 58, 59, 60, 61, 94, 95, 96, 97, 98, 99] (by decide +kernel) (by decide +kernel)
set_option maxRecDepth 20000 in
theorem gX7_init_X3_init : GoodIn wsX7_init (wsX3_init) := ggX7_init_X3_init
set_option maxRecDepth 20000 in
theorem ggX7_init_X2_init : GoodIn wsX7_init wsX2_init := goodIn_r _ [64, 65, 2, 3, 66, 67, 5, 6, 68, 69, 37, 38, 39, 40, 41, 42, 43, 44, 45, 46, 47, 48, 49, 50, 51, 52, 53, 54, 55, 56, 57, 58, 59, 60, 61, 111, 112, 94, 95, 96, 97, 98, 99] (by decide +kernel) (by decide +kernel)
set_option maxRecDepth 20000 in
theorem gX7_init_X2_init : GoodIn wsX7_init (wsX2_init) := ggX7_init_X2_init
set_option maxRecDepth 20000 in
theorem ggX7_init_X4_init : GoodIn wsX7_init wsX4_init := goodIn_r _ [71, 72, 2, 3, 40, 73, 113, 114, 115, 116, 117, 118, 119] (by decide +kernel) (by decide +kernel)
set_option maxRecDepth 20000 in
theorem gX7_init_X4_init_n28 : GoodIn wsX7_init (wsX4_init) := ggX7_init_X4_init
set_option maxRecDepth 20000 in
theorem ggX7_init_X6_init : GoodIn wsX7_init wsX6_init := goodIn_r _ [75, 76, 2, 3, 40, 77, 78, 79, 80, 120, 121, 122, 123, 124] (by decide +kernel) (by decide +kernel)
set_option maxRecDepth 20000 in
theorem gX7_init_X6_init_n35 : GoodIn wsX7_init (wsX6_init) := ggX7_init_X6_init
set_option maxRecDepth 20000 in
theorem ggX7_init_X5_init : GoodIn wsX7_init wsX5_init := goodIn_r _ [82, 83, 2, 3, 40, 84, 85, 125, 126, 127, 128] (by decide +kernel) (by decide +kernel)
set_option maxRecDepth 20000 in
theorem gX7_init_X5_init_n48 : GoodIn wsX7_init (wsX5_init) := ggX7_init_X5_init
set_option maxRecDepth 20000 in
theorem ggX7_init_X0_init : GoodIn wsX7_init wsX0_init := goodIn_r _ [87, 88, 2, 3, 40, 89, 129] (by decide +kernel) (by decide +kernel)
set_option maxRecDepth 20000 in
theorem gX7_init_X0_init_n55 : GoodIn wsX7_init (wsX0_init) := ggX7_init_X0_init
set_option maxRecDepth 20000 in
theorem ggX7_init_X1_init : GoodIn wsX7_init wsX1_init := goodIn_r _ [91, 92, 2, 3, 40, 93, 130, 131, 132, 133, 134, 135] (by decide +kernel) (by decide +kernel)
set_option maxRecDepth 20000 in
theorem gX7_init_X1_init_n62 : GoodIn wsX7_init (wsX1_init) := ggX7_init_X1_init

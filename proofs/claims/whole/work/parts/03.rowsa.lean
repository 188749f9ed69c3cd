theorem dX0_init_0 : decode cX0_init 0 = .ok (.aload_n 0, 1) := by decide +kernel
theorem dX0_init_1 : decode cX0_init 1 = .ok (.invokespecial 3, 3) := by decide +kernel
theorem dX0_init_4 : decode cX0_init 4 = .ok (.aload_n 0, 1) := by decide +kernel
theorem dX0_init_5 : decode cX0_init 5 = .ok (.bipush 49, 2) := by decide +kernel
theorem dX0_init_7 : decode cX0_init 7 = .ok (.newarray .boolean, 2) := by decide +kernel
theorem dX0_init_9 : decode cX0_init 9 = .ok (.putfield 9, 3) := by decide +kernel
theorem dX0_init_12 : decode cX0_init 12 = .ok (.aload_n 0, 1) := by decide +kernel
theorem dX0_init_13 : decode cX0_init 13 = .ok (.bipush 49, 2) := by decide +kernel
theorem dX0_init_15 : decode cX0_init 15 = .ok (.newarray .int, 2) := by decide +kernel
theorem dX0_init_17 : decode cX0_init 17 = .ok (.putfield 15, 3) := by decide +kernel
theorem dX0_init_20 : decode cX0_init 20 = .ok (.return_, 1) := by decide +kernel
set_option maxRecDepth 20000 in
theorem ggX0_sizeAround_X0_seeNone : GoodIn wsX0_sizeAround wsX0_seeNone := goodIn_r _ [5, 6, 25, 26, 27, 28] (by decide +kernel) (by decide +kernel)
set_option maxRecDepth 20000 in
theorem gX0_sizeAround_X0_seeNone : GoodIn wsX0_sizeAround (wsV RX0 19 RX0 yX0_seeNone wsX0_seeNone) := goodIn_app (goodIn_of _ (by decide +kernel)) ggX0_sizeAround_X0_seeNone
set_option maxRecDepth 20000 in
theorem ggX0_sizeAround_X0_gather : GoodIn wsX0_sizeAround wsX0_gather := goodIn_r _ [10, 11, 6, 12, 13, 14, 15, 16, 17, 18, 19, 20, 21, 22, 23, 24, 29, 30, 31, 32, 25, 26, 27, 28, 33, 34, 35, 36, 37, 38, 39, 40, 41, 42] (by decide +kernel) (by decide +kernel)
set_option maxRecDepth 20000 in
theorem gX0_sizeAround_X0_gather : GoodIn wsX0_sizeAround (wsV RX0 22 RX0 yX0_gather wsX0_gather) := goodIn_app (goodIn_of _ (by decide +kernel)) ggX0_sizeAround_X0_gather
theorem dX0_sizeAround_0 : decode cX0_sizeAround 0 = .ok (.aload_n 0, 1) := by decide +kernel
theorem dX0_sizeAround_1 : decode cX0_sizeAround 1 = .ok (.invokevirtual 19, 3) := by decide +kernel
theorem dX0_sizeAround_4 : decode cX0_sizeAround 4 = .ok (.aload_n 0, 1) := by decide +kernel
theorem dX0_sizeAround_5 : decode cX0_sizeAround 5 = .ok (.aload_n 1, 1) := by decide +kernel
theorem dX0_sizeAround_6 : decode cX0_sizeAround 6 = .ok (.aload_n 2, 1) := by decide +kernel
theorem dX0_sizeAround_7 : decode cX0_sizeAround 7 = .ok (.iload_n 3, 1) := by decide +kernel
theorem dX0_sizeAround_8 : decode cX0_sizeAround 8 = .ok (.invokevirtual 22, 3) := by decide +kernel
theorem dX0_sizeAround_11 : decode cX0_sizeAround 11 = .ok (.ireturn, 1) := by decide +kernel
set_option maxRecDepth 20000 in
theorem ggX0_measure_X0_seeNone : GoodIn wsX0_measure wsX0_seeNone := goodIn_r _ [14, 5, 32, 33, 34, 35] (by decide +kernel) (by decide +kernel)
set_option maxRecDepth 20000 in
theorem gX0_measure_X0_seeNone : GoodIn wsX0_measure (wsV RX0 19 RX0 yX0_seeNone wsX0_seeNone) := goodIn_app (goodIn_of _ (by decide +kernel)) ggX0_measure_X0_seeNone
set_option maxRecDepth 20000 in
theorem ggX0_measure_X0_gather : GoodIn wsX0_measure wsX0_gather := goodIn_r _ [18, 4, 5, 19, 20, 21, 22, 23, 24, 25, 26, 27, 28, 29, 30, 31, 46, 47, 48, 49, 32, 33, 34, 35, 36, 37, 38, 39, 40, 41, 42, 43, 44, 45] (by decide +kernel) (by decide +kernel)
set_option maxRecDepth 20000 in
theorem gX0_measure_X0_gather : GoodIn wsX0_measure (wsV RX0 22 RX0 yX0_gather wsX0_gather) := goodIn_app (goodIn_of _ (by decide +kernel)) ggX0_measure_X0_gather
theorem dX0_measure_0 : decode cX0_measure 0 = .ok (.aload_n 0, 1) := by decide +kernel
theorem dX0_measure_1 : decode cX0_measure 1 = .ok (.invokevirtual 19, 3) := by decide +kernel
theorem dX0_measure_4 : decode cX0_measure 4 = .ok (.aload_n 0, 1) := by decide +kernel
theorem dX0_measure_5 : decode cX0_measure 5 = .ok (.iconst 0, 1) := by decide +kernel
theorem dX0_measure_6 : decode cX0_measure 6 = .ok (.putfield 26, 3) := by decide +kernel
theorem dX0_measure_9 : decode cX0_measure 9 = .ok (.aload_n 0, 1) := by decide +kernel
theorem dX0_measure_10 : decode cX0_measure 10 = .ok (.iconst 0, 1) := by decide +kernel
theorem dX0_measure_11 : decode cX0_measure 11 = .ok (.putfield 30, 3) := by decide +kernel
theorem dX0_measure_14 : decode cX0_measure 14 = .ok (.iconst 0, 1) := by decide +kernel
theorem dX0_measure_15 : decode cX0_measure 15 = .ok (.istore 4, 2) := by decide +kernel
theorem dX0_measure_17 : decode cX0_measure 17 = .ok (.iload 4, 2) := by decide +kernel
theorem dX0_measure_19 : decode cX0_measure 19 = .ok (.aload_n 1, 1) := by decide +kernel
theorem dX0_measure_20 : decode cX0_measure 20 = .ok (.getfield 33, 3) := by decide +kernel
theorem dX0_measure_23 : decode cX0_measure 23 = .ok (.if_icmp .ge 59, 3) := by decide +kernel
theorem dX0_measure_26 : decode cX0_measure 26 = .ok (.aload_n 2, 1) := by decide +kernel
theorem dX0_measure_27 : decode cX0_measure 27 = .ok (.getfield 38, 3) := by decide +kernel
theorem dX0_measure_30 : decode cX0_measure 30 = .ok (.iload 4, 2) := by decide +kernel
theorem dX0_measure_32 : decode cX0_measure 32 = .ok (.iaload, 1) := by decide +kernel
theorem dX0_measure_33 : decode cX0_measure 33 = .ok (.iload_n 3, 1) := by decide +kernel
theorem dX0_measure_34 : decode cX0_measure 34 = .ok (.if_icmp .ne 42, 3) := by decide +kernel
theorem dX0_measure_37 : decode cX0_measure 37 = .ok (.aload_n 0, 1) := by decide +kernel
theorem dX0_measure_38 : decode cX0_measure 38 = .ok (.getfield 9, 3) := by decide +kernel
theorem dX0_measure_41 : decode cX0_measure 41 = .ok (.iload 4, 2) := by decide +kernel
theorem dX0_measure_43 : decode cX0_measure 43 = .ok (.baload, 1) := by decide +kernel
theorem dX0_measure_44 : decode cX0_measure 44 = .ok (.ifCond .ne 32, 3) := by decide +kernel
theorem dX0_measure_47 : decode cX0_measure 47 = .ok (.aload_n 0, 1) := by decide +kernel
theorem dX0_measure_48 : decode cX0_measure 48 = .ok (.dup, 1) := by decide +kernel
theorem dX0_measure_49 : decode cX0_measure 49 = .ok (.getfield 26, 3) := by decide +kernel
theorem dX0_measure_52 : decode cX0_measure 52 = .ok (.iconst 1, 1) := by decide +kernel
theorem dX0_measure_53 : decode cX0_measure 53 = .ok (.iadd, 1) := by decide +kernel
theorem dX0_measure_54 : decode cX0_measure 54 = .ok (.putfield 26, 3) := by decide +kernel
theorem dX0_measure_57 : decode cX0_measure 57 = .ok (.aload_n 0, 1) := by decide +kernel
theorem dX0_measure_58 : decode cX0_measure 58 = .ok (.aload_n 0, 1) := by decide +kernel
theorem dX0_measure_59 : decode cX0_measure 59 = .ok (.getfield 30, 3) := by decide +kernel
theorem dX0_measure_62 : decode cX0_measure 62 = .ok (.aload_n 0, 1) := by decide +kernel
theorem dX0_measure_63 : decode cX0_measure 63 = .ok (.aload_n 1, 1) := by decide +kernel
theorem dX0_measure_64 : decode cX0_measure 64 = .ok (.aload_n 2, 1) := by decide +kernel
theorem dX0_measure_65 : decode cX0_measure 65 = .ok (.iload 4, 2) := by decide +kernel
theorem dX0_measure_67 : decode cX0_measure 67 = .ok (.invokevirtual 22, 3) := by decide +kernel
theorem dX0_measure_70 : decode cX0_measure 70 = .ok (.invokestatic 43, 3) := by decide +kernel
theorem dX0_measure_73 : decode cX0_measure 73 = .ok (.putfield 30, 3) := by decide +kernel
theorem dX0_measure_76 : decode cX0_measure 76 = .ok (.iinc 4 1, 3) := by decide +kernel
theorem dX0_measure_79 : decode cX0_measure 79 = .ok (.goto (-62), 3) := by decide +kernel
theorem dX0_measure_82 : decode cX0_measure 82 = .ok (.return_, 1) := by decide +kernel
theorem dX0_seenOnMapOf_0 : decode cX0_seenOnMapOf 0 = .ok (.iconst 0, 1) := by decide +kernel
theorem dX0_seenOnMapOf_1 : decode cX0_seenOnMapOf 1 = .ok (.istore_n 3, 1) := by decide +kernel
theorem dX0_seenOnMapOf_2 : decode cX0_seenOnMapOf 2 = .ok (.iconst 0, 1) := by decide +kernel
theorem dX0_seenOnMapOf_3 : decode cX0_seenOnMapOf 3 = .ok (.istore 4, 2) := by decide +kernel
theorem dX0_seenOnMapOf_5 : decode cX0_seenOnMapOf 5 = .ok (.iload 4, 2) := by decide +kernel
theorem dX0_seenOnMapOf_7 : decode cX0_seenOnMapOf 7 = .ok (.aload_n 1, 1) := by decide +kernel
theorem dX0_seenOnMapOf_8 : decode cX0_seenOnMapOf 8 = .ok (.getfield 33, 3) := by decide +kernel
theorem dX0_seenOnMapOf_11 : decode cX0_seenOnMapOf 11 = .ok (.if_icmp .ge 33, 3) := by decide +kernel
theorem dX0_seenOnMapOf_14 : decode cX0_seenOnMapOf 14 = .ok (.aload_n 0, 1) := by decide +kernel
theorem dX0_seenOnMapOf_15 : decode cX0_seenOnMapOf 15 = .ok (.getfield 9, 3) := by decide +kernel
theorem dX0_seenOnMapOf_18 : decode cX0_seenOnMapOf 18 = .ok (.iload 4, 2) := by decide +kernel
theorem dX0_seenOnMapOf_20 : decode cX0_seenOnMapOf 20 = .ok (.baload, 1) := by decide +kernel
theorem dX0_seenOnMapOf_21 : decode cX0_seenOnMapOf 21 = .ok (.ifCond .eq 17, 3) := by decide +kernel
theorem dX0_seenOnMapOf_24 : decode cX0_seenOnMapOf 24 = .ok (.aload_n 1, 1) := by decide +kernel
theorem dX0_seenOnMapOf_25 : decode cX0_seenOnMapOf 25 = .ok (.getfield 49, 3) := by decide +kernel
theorem dX0_seenOnMapOf_28 : decode cX0_seenOnMapOf 28 = .ok (.iload 4, 2) := by decide +kernel
theorem dX0_seenOnMapOf_30 : decode cX0_seenOnMapOf 30 = .ok (.iaload, 1) := by decide +kernel
theorem dX0_seenOnMapOf_31 : decode cX0_seenOnMapOf 31 = .ok (.iload_n 2, 1) := by decide +kernel
theorem dX0_seenOnMapOf_32 : decode cX0_seenOnMapOf 32 = .ok (.if_icmp .ne 6, 3) := by decide +kernel
theorem dX0_seenOnMapOf_35 : decode cX0_seenOnMapOf 35 = .ok (.iinc 3 1, 3) := by decide +kernel
theorem dX0_seenOnMapOf_38 : decode cX0_seenOnMapOf 38 = .ok (.iinc 4 1, 3) := by decide +kernel
theorem dX0_seenOnMapOf_41 : decode cX0_seenOnMapOf 41 = .ok (.goto (-36), 3) := by decide +kernel
theorem dX0_seenOnMapOf_44 : decode cX0_seenOnMapOf 44 = .ok (.iload_n 3, 1) := by decide +kernel
theorem dX0_seenOnMapOf_45 : decode cX0_seenOnMapOf 45 = .ok (.ireturn, 1) := by decide +kernel
theorem dX0_seeNone_0 : decode cX0_seeNone 0 = .ok (.iconst 0, 1) := by decide +kernel
theorem dX0_seeNone_1 : decode cX0_seeNone 1 = .ok (.istore_n 1, 1) := by decide +kernel
theorem dX0_seeNone_2 : decode cX0_seeNone 2 = .ok (.iload_n 1, 1) := by decide +kernel
theorem dX0_seeNone_3 : decode cX0_seeNone 3 = .ok (.bipush 49, 2) := by decide +kernel
theorem dX0_seeNone_5 : decode cX0_seeNone 5 = .ok (.if_icmp .ge 16, 3) := by decide +kernel
theorem dX0_seeNone_8 : decode cX0_seeNone 8 = .ok (.aload_n 0, 1) := by decide +kernel
theorem dX0_seeNone_9 : decode cX0_seeNone 9 = .ok (.getfield 9, 3) := by decide +kernel
theorem dX0_seeNone_12 : decode cX0_seeNone 12 = .ok (.iload_n 1, 1) := by decide +kernel
theorem dX0_seeNone_13 : decode cX0_seeNone 13 = .ok (.iconst 0, 1) := by decide +kernel
theorem dX0_seeNone_14 : decode cX0_seeNone 14 = .ok (.bastore, 1) := by decide +kernel
theorem dX0_seeNone_15 : decode cX0_seeNone 15 = .ok (.iinc 1 1, 3) := by decide +kernel
theorem dX0_seeNone_18 : decode cX0_seeNone 18 = .ok (.goto (-16), 3) := by decide +kernel
theorem dX0_seeNone_21 : decode cX0_seeNone 21 = .ok (.return_, 1) := by decide +kernel
set_option maxRecDepth 20000 in
theorem ggX0_gather_X3_hasCell : GoodIn wsX0_gather wsX3_hasCell := goodIn_r _ [8, 9, 24, 25, 26, 27, 28, 29, 30, 31, 32, 33] (by decide +kernel) (by decide +kernel)
set_option maxRecDepth 20000 in
theorem gX0_gather_X3_hasCell : GoodIn wsX0_gather (wsV RX0 52 RX3 yX3_hasCell wsX3_hasCell) := goodIn_app (goodIn_of _ (by decide +kernel)) ggX0_gather_X3_hasCell
set_option maxRecDepth 20000 in
theorem ggX0_gather_X3_cellBeside : GoodIn wsX0_gather wsX3_cellBeside := goodIn_r _ [13, 14, 15, 5, 6, 7, 8, 9, 24, 25, 26, 27, 28, 29, 30, 31, 32, 33] (by decide +kernel) (by decide +kernel)
set_option maxRecDepth 20000 in
theorem gX0_gather_X3_cellBeside : GoodIn wsX0_gather (wsV RX0 56 RX3 yX3_cellBeside wsX3_cellBeside) := goodIn_app (goodIn_of _ (by decide +kernel)) ggX0_gather_X3_cellBeside
theorem dX0_gather_0 : decode cX0_gather 0 = .ok (.aload_n 1, 1) := by decide +kernel
theorem dX0_gather_1 : decode cX0_gather 1 = .ok (.iload_n 3, 1) := by decide +kernel
theorem dX0_gather_2 : decode cX0_gather 2 = .ok (.invokevirtual 52, 3) := by decide +kernel
theorem dX0_gather_5 : decode cX0_gather 5 = .ok (.ifCond .eq 14, 3) := by decide +kernel
theorem dX0_gather_8 : decode cX0_gather 8 = .ok (.aload_n 2, 1) := by decide +kernel
theorem dX0_gather_9 : decode cX0_gather 9 = .ok (.getfield 38, 3) := by decide +kernel
theorem dX0_gather_12 : decode cX0_gather 12 = .ok (.iload_n 3, 1) := by decide +kernel
theorem dX0_gather_13 : decode cX0_gather 13 = .ok (.iaload, 1) := by decide +kernel
theorem dX0_gather_14 : decode cX0_gather 14 = .ok (.bipush (-4), 2) := by decide +kernel
theorem dX0_gather_16 : decode cX0_gather 16 = .ok (.if_icmp .ne 5, 3) := by decide +kernel
theorem dX0_gather_19 : decode cX0_gather 19 = .ok (.iconst 0, 1) := by decide +kernel
theorem dX0_gather_20 : decode cX0_gather 20 = .ok (.ireturn, 1) := by decide +kernel
theorem dX0_gather_21 : decode cX0_gather 21 = .ok (.aload_n 2, 1) := by decide +kernel
theorem dX0_gather_22 : decode cX0_gather 22 = .ok (.getfield 38, 3) := by decide +kernel
theorem dX0_gather_25 : decode cX0_gather 25 = .ok (.iload_n 3, 1) := by decide +kernel
theorem dX0_gather_26 : decode cX0_gather 26 = .ok (.iaload, 1) := by decide +kernel
theorem dX0_gather_27 : decode cX0_gather 27 = .ok (.istore 4, 2) := by decide +kernel
theorem dX0_gather_29 : decode cX0_gather 29 = .ok (.iconst 1, 1) := by decide +kernel
theorem dX0_gather_30 : decode cX0_gather 30 = .ok (.istore 5, 2) := by decide +kernel
theorem dX0_gather_32 : decode cX0_gather 32 = .ok (.aload_n 0, 1) := by decide +kernel
theorem dX0_gather_33 : decode cX0_gather 33 = .ok (.getfield 9, 3) := by decide +kernel
theorem dX0_gather_36 : decode cX0_gather 36 = .ok (.iload_n 3, 1) := by decide +kernel
theorem dX0_gather_37 : decode cX0_gather 37 = .ok (.iconst 1, 1) := by decide +kernel
theorem dX0_gather_38 : decode cX0_gather 38 = .ok (.bastore, 1) := by decide +kernel
theorem dX0_gather_39 : decode cX0_gather 39 = .ok (.aload_n 0, 1) := by decide +kernel
theorem dX0_gather_40 : decode cX0_gather 40 = .ok (.getfield 15, 3) := by decide +kernel
theorem dX0_gather_43 : decode cX0_gather 43 = .ok (.iconst 0, 1) := by decide +kernel
theorem dX0_gather_44 : decode cX0_gather 44 = .ok (.iload_n 3, 1) := by decide +kernel
theorem dX0_gather_45 : decode cX0_gather 45 = .ok (.iastore, 1) := by decide +kernel
theorem dX0_gather_46 : decode cX0_gather 46 = .ok (.iconst 0, 1) := by decide +kernel
theorem dX0_gather_47 : decode cX0_gather 47 = .ok (.istore 6, 2) := by decide +kernel
theorem dX0_gather_49 : decode cX0_gather 49 = .ok (.iload 6, 2) := by decide +kernel
theorem dX0_gather_51 : decode cX0_gather 51 = .ok (.iload 5, 2) := by decide +kernel
theorem dX0_gather_53 : decode cX0_gather 53 = .ok (.if_icmp .ge 100, 3) := by decide +kernel
theorem dX0_gather_56 : decode cX0_gather 56 = .ok (.iload 6, 2) := by decide +kernel
theorem dX0_gather_58 : decode cX0_gather 58 = .ok (.bipush 49, 2) := by decide +kernel
theorem dX0_gather_60 : decode cX0_gather 60 = .ok (.if_icmp .ge 93, 3) := by decide +kernel
theorem dX0_gather_63 : decode cX0_gather 63 = .ok (.iconst 0, 1) := by decide +kernel
theorem dX0_gather_64 : decode cX0_gather 64 = .ok (.istore 7, 2) := by decide +kernel
theorem dX0_gather_66 : decode cX0_gather 66 = .ok (.iload 7, 2) := by decide +kernel
theorem dX0_gather_68 : decode cX0_gather 68 = .ok (.iconst 4, 1) := by decide +kernel
theorem dX0_gather_69 : decode cX0_gather 69 = .ok (.if_icmp .ge 78, 3) := by decide +kernel
theorem dX0_gather_72 : decode cX0_gather 72 = .ok (.aload_n 1, 1) := by decide +kernel
theorem dX0_gather_73 : decode cX0_gather 73 = .ok (.aload_n 0, 1) := by decide +kernel
theorem dX0_gather_74 : decode cX0_gather 74 = .ok (.getfield 15, 3) := by decide +kernel
theorem dX0_gather_77 : decode cX0_gather 77 = .ok (.iload 6, 2) := by decide +kernel
theorem dX0_gather_79 : decode cX0_gather 79 = .ok (.iaload, 1) := by decide +kernel
theorem dX0_gather_80 : decode cX0_gather 80 = .ok (.iload 7, 2) := by decide +kernel
theorem dX0_gather_82 : decode cX0_gather 82 = .ok (.invokevirtual 56, 3) := by decide +kernel
theorem dX0_gather_85 : decode cX0_gather 85 = .ok (.istore 8, 2) := by decide +kernel
theorem dX0_gather_87 : decode cX0_gather 87 = .ok (.iload 8, 2) := by decide +kernel
theorem dX0_gather_89 : decode cX0_gather 89 = .ok (.ifCond .lt 52, 3) := by decide +kernel
theorem dX0_gather_92 : decode cX0_gather 92 = .ok (.aload_n 0, 1) := by decide +kernel
theorem dX0_gather_93 : decode cX0_gather 93 = .ok (.getfield 9, 3) := by decide +kernel
theorem dX0_gather_96 : decode cX0_gather 96 = .ok (.iload 8, 2) := by decide +kernel
theorem dX0_gather_98 : decode cX0_gather 98 = .ok (.baload, 1) := by decide +kernel
theorem dX0_gather_99 : decode cX0_gather 99 = .ok (.ifCond .ne 42, 3) := by decide +kernel
theorem dX0_gather_102 : decode cX0_gather 102 = .ok (.aload_n 2, 1) := by decide +kernel
theorem dX0_gather_103 : decode cX0_gather 103 = .ok (.getfield 38, 3) := by decide +kernel
theorem dX0_gather_106 : decode cX0_gather 106 = .ok (.iload 8, 2) := by decide +kernel
theorem dX0_gather_108 : decode cX0_gather 108 = .ok (.iaload, 1) := by decide +kernel
theorem dX0_gather_109 : decode cX0_gather 109 = .ok (.iload 4, 2) := by decide +kernel
theorem dX0_gather_111 : decode cX0_gather 111 = .ok (.if_icmp .ne 30, 3) := by decide +kernel
theorem dX0_gather_114 : decode cX0_gather 114 = .ok (.iload 5, 2) := by decide +kernel
theorem dX0_gather_116 : decode cX0_gather 116 = .ok (.bipush 49, 2) := by decide +kernel
theorem dX0_gather_118 : decode cX0_gather 118 = .ok (.if_icmp .ge 23, 3) := by decide +kernel
theorem dX0_gather_121 : decode cX0_gather 121 = .ok (.aload_n 0, 1) := by decide +kernel
theorem dX0_gather_122 : decode cX0_gather 122 = .ok (.getfield 9, 3) := by decide +kernel
theorem dX0_gather_125 : decode cX0_gather 125 = .ok (.iload 8, 2) := by decide +kernel
theorem dX0_gather_127 : decode cX0_gather 127 = .ok (.iconst 1, 1) := by decide +kernel
theorem dX0_gather_128 : decode cX0_gather 128 = .ok (.bastore, 1) := by decide +kernel
theorem dX0_gather_129 : decode cX0_gather 129 = .ok (.aload_n 0, 1) := by decide +kernel
theorem dX0_gather_130 : decode cX0_gather 130 = .ok (.getfield 15, 3) := by decide +kernel
theorem dX0_gather_133 : decode cX0_gather 133 = .ok (.iload 5, 2) := by decide +kernel
theorem dX0_gather_135 : decode cX0_gather 135 = .ok (.iload 8, 2) := by decide +kernel
theorem dX0_gather_137 : decode cX0_gather 137 = .ok (.iastore, 1) := by decide +kernel
theorem dX0_gather_138 : decode cX0_gather 138 = .ok (.iinc 5 1, 3) := by decide +kernel
theorem dX0_gather_141 : decode cX0_gather 141 = .ok (.iinc 7 1, 3) := by decide +kernel
theorem dX0_gather_144 : decode cX0_gather 144 = .ok (.goto (-78), 3) := by decide +kernel
theorem dX0_gather_147 : decode cX0_gather 147 = .ok (.iinc 6 1, 3) := by decide +kernel
theorem dX0_gather_150 : decode cX0_gather 150 = .ok (.goto (-101), 3) := by decide +kernel
theorem dX0_gather_153 : decode cX0_gather 153 = .ok (.iload 5, 2) := by decide +kernel
theorem dX0_gather_155 : decode cX0_gather 155 = .ok (.ireturn, 1) := by decide +kernel
theorem dX1_init_0 : decode cX1_init 0 = .ok (.aload_n 0, 1) := by decide +kernel
theorem dX1_init_1 : decode cX1_init 1 = .ok (.invokespecial 3, 3) := by decide +kernel
theorem dX1_init_4 : decode cX1_init 4 = .ok (.aload_n 0, 1) := by decide +kernel
theorem dX1_init_5 : decode cX1_init 5 = .ok (.bipush 49, 2) := by decide +kernel
theorem dX1_init_7 : decode cX1_init 7 = .ok (.newarray .int, 2) := by decide +kernel
theorem dX1_init_9 : decode cX1_init 9 = .ok (.putfield 9, 3) := by decide +kernel
theorem dX1_init_12 : decode cX1_init 12 = .ok (.aload_n 0, 1) := by decide +kernel
theorem dX1_init_13 : decode cX1_init 13 = .ok (.bipush 49, 2) := by decide +kernel
theorem dX1_init_15 : decode cX1_init 15 = .ok (.newarray .int, 2) := by decide +kernel
theorem dX1_init_17 : decode cX1_init 17 = .ok (.putfield 15, 3) := by decide +kernel
theorem dX1_init_20 : decode cX1_init 20 = .ok (.aload_n 0, 1) := by decide +kernel
theorem dX1_init_21 : decode cX1_init 21 = .ok (.bipush 49, 2) := by decide +kernel
theorem dX1_init_23 : decode cX1_init 23 = .ok (.newarray .int, 2) := by decide +kernel
theorem dX1_init_25 : decode cX1_init 25 = .ok (.putfield 18, 3) := by decide +kernel
theorem dX1_init_28 : decode cX1_init 28 = .ok (.return_, 1) := by decide +kernel
set_option maxRecDepth 20000 in
theorem ggX1_startOn_X3_mostInches : GoodIn wsX1_startOn wsX3_mostInches := goodIn_r _ [15] (by decide +kernel) (by decide +kernel)
set_option maxRecDepth 20000 in
theorem gX1_startOn_X3_mostInches : GoodIn wsX1_startOn (va_wsS RX1 36 yX3_mostInches wsX3_mostInches) := goodIn_app (goodIn_of _ (by decide +kernel)) ggX1_startOn_X3_mostInches
set_option maxRecDepth 20000 in
theorem ggX1_startOn_X1_canBeOwned : GoodIn wsX1_startOn wsX1_canBeOwned := goodIn_r _ [20, 3, 5, 21, 22, 23, 24, 25, 26, 27, 28, 29, 30, 31, 32, 33, 34] (by decide +kernel) (by decide +kernel)
set_option maxRecDepth 20000 in
theorem gX1_startOn_X1_canBeOwned : GoodIn wsX1_startOn (wsV RX1 46 RX1 yX1_canBeOwned wsX1_canBeOwned) := goodIn_app (goodIn_of _ (by decide +kernel)) ggX1_startOn_X1_canBeOwned
theorem dX1_startOn_0 : decode cX1_startOn 0 = .ok (.aload_n 0, 1) := by decide +kernel
theorem dX1_startOn_1 : decode cX1_startOn 1 = .ok (.iconst 0, 1) := by decide +kernel
theorem dX1_startOn_2 : decode cX1_startOn 2 = .ok (.putfield 21, 3) := by decide +kernel
theorem dX1_startOn_5 : decode cX1_startOn 5 = .ok (.iconst 0, 1) := by decide +kernel
theorem dX1_startOn_6 : decode cX1_startOn 6 = .ok (.istore_n 2, 1) := by decide +kernel
theorem dX1_startOn_7 : decode cX1_startOn 7 = .ok (.iload_n 2, 1) := by decide +kernel
theorem dX1_startOn_8 : decode cX1_startOn 8 = .ok (.aload_n 1, 1) := by decide +kernel
theorem dX1_startOn_9 : decode cX1_startOn 9 = .ok (.getfield 25, 3) := by decide +kernel
theorem dX1_startOn_12 : decode cX1_startOn 12 = .ok (.if_icmp .ge 57, 3) := by decide +kernel
theorem dX1_startOn_15 : decode cX1_startOn 15 = .ok (.aload_n 0, 1) := by decide +kernel
theorem dX1_startOn_16 : decode cX1_startOn 16 = .ok (.getfield 9, 3) := by decide +kernel
theorem dX1_startOn_19 : decode cX1_startOn 19 = .ok (.iload_n 2, 1) := by decide +kernel
theorem dX1_startOn_20 : decode cX1_startOn 20 = .ok (.aload_n 1, 1) := by decide +kernel
theorem dX1_startOn_21 : decode cX1_startOn 21 = .ok (.getfield 30, 3) := by decide +kernel
theorem dX1_startOn_24 : decode cX1_startOn 24 = .ok (.aload_n 1, 1) := by decide +kernel
theorem dX1_startOn_25 : decode cX1_startOn 25 = .ok (.getfield 33, 3) := by decide +kernel
theorem dX1_startOn_28 : decode cX1_startOn 28 = .ok (.iload_n 2, 1) := by decide +kernel
theorem dX1_startOn_29 : decode cX1_startOn 29 = .ok (.iaload, 1) := by decide +kernel
theorem dX1_startOn_30 : decode cX1_startOn 30 = .ok (.invokestatic 36, 3) := by decide +kernel
theorem dX1_startOn_33 : decode cX1_startOn 33 = .ok (.invokestatic 40, 3) := by decide +kernel
theorem dX1_startOn_36 : decode cX1_startOn 36 = .ok (.iastore, 1) := by decide +kernel
theorem dX1_startOn_37 : decode cX1_startOn 37 = .ok (.aload_n 0, 1) := by decide +kernel
theorem dX1_startOn_38 : decode cX1_startOn 38 = .ok (.getfield 15, 3) := by decide +kernel
theorem dX1_startOn_41 : decode cX1_startOn 41 = .ok (.iload_n 2, 1) := by decide +kernel
theorem dX1_startOn_42 : decode cX1_startOn 42 = .ok (.aload_n 0, 1) := by decide +kernel
theorem dX1_startOn_43 : decode cX1_startOn 43 = .ok (.aload_n 1, 1) := by decide +kernel
theorem dX1_startOn_44 : decode cX1_startOn 44 = .ok (.iload_n 2, 1) := by decide +kernel
theorem dX1_startOn_45 : decode cX1_startOn 45 = .ok (.invokevirtual 46, 3) := by decide +kernel
theorem dX1_startOn_48 : decode cX1_startOn 48 = .ok (.ifCond .eq 12, 3) := by decide +kernel
theorem dX1_startOn_51 : decode cX1_startOn 51 = .ok (.aload_n 1, 1) := by decide +kernel
theorem dX1_startOn_52 : decode cX1_startOn 52 = .ok (.getfield 50, 3) := by decide +kernel
theorem dX1_startOn_55 : decode cX1_startOn 55 = .ok (.iload_n 2, 1) := by decide +kernel
theorem dX1_startOn_56 : decode cX1_startOn 56 = .ok (.iaload, 1) := by decide +kernel
theorem dX1_startOn_57 : decode cX1_startOn 57 = .ok (.goto 5, 3) := by decide +kernel
theorem dX1_startOn_60 : decode cX1_startOn 60 = .ok (.bipush (-4), 2) := by decide +kernel
theorem dX1_startOn_62 : decode cX1_startOn 62 = .ok (.iastore, 1) := by decide +kernel
theorem dX1_startOn_63 : decode cX1_startOn 63 = .ok (.iinc 2 1, 3) := by decide +kernel
theorem dX1_startOn_66 : decode cX1_startOn 66 = .ok (.goto (-59), 3) := by decide +kernel
theorem dX1_startOn_69 : decode cX1_startOn 69 = .ok (.return_, 1) := by decide +kernel
theorem dX1_setTo_0 : decode cX1_setTo 0 = .ok (.aload_n 1, 1) := by decide +kernel
theorem dX1_setTo_1 : decode cX1_setTo 1 = .ok (.getfield 9, 3) := by decide +kernel
theorem dX1_setTo_4 : decode cX1_setTo 4 = .ok (.iconst 0, 1) := by decide +kernel
theorem dX1_setTo_5 : decode cX1_setTo 5 = .ok (.aload_n 0, 1) := by decide +kernel
theorem dX1_setTo_6 : decode cX1_setTo 6 = .ok (.getfield 9, 3) := by decide +kernel
theorem dX1_setTo_9 : decode cX1_setTo 9 = .ok (.iconst 0, 1) := by decide +kernel
theorem dX1_setTo_10 : decode cX1_setTo 10 = .ok (.bipush 49, 2) := by decide +kernel
theorem dX1_setTo_12 : decode cX1_setTo 12 = .ok (.invokestatic 53, 3) := by decide +kernel
theorem dX1_setTo_15 : decode cX1_setTo 15 = .ok (.aload_n 1, 1) := by decide +kernel
theorem dX1_setTo_16 : decode cX1_setTo 16 = .ok (.getfield 15, 3) := by decide +kernel
theorem dX1_setTo_19 : decode cX1_setTo 19 = .ok (.iconst 0, 1) := by decide +kernel
theorem dX1_setTo_20 : decode cX1_setTo 20 = .ok (.aload_n 0, 1) := by decide +kernel
theorem dX1_setTo_21 : decode cX1_setTo 21 = .ok (.getfield 15, 3) := by decide +kernel
theorem dX1_setTo_24 : decode cX1_setTo 24 = .ok (.iconst 0, 1) := by decide +kernel
theorem dX1_setTo_25 : decode cX1_setTo 25 = .ok (.bipush 49, 2) := by decide +kernel
theorem dX1_setTo_27 : decode cX1_setTo 27 = .ok (.invokestatic 53, 3) := by decide +kernel
theorem dX1_setTo_30 : decode cX1_setTo 30 = .ok (.aload_n 0, 1) := by decide +kernel
theorem dX1_setTo_31 : decode cX1_setTo 31 = .ok (.aload_n 1, 1) := by decide +kernel
theorem dX1_setTo_32 : decode cX1_setTo 32 = .ok (.getfield 21, 3) := by decide +kernel
theorem dX1_setTo_35 : decode cX1_setTo 35 = .ok (.putfield 21, 3) := by decide +kernel
theorem dX1_setTo_38 : decode cX1_setTo 38 = .ok (.return_, 1) := by decide +kernel
set_option maxRecDepth 20000 in
theorem ggX1_passDays_X3_coldOn : GoodIn wsX1_passDays wsX3_coldOn := goodIn_r _ [6, 7, 8, 9, 10, 11, 12, 74, 75, 76, 77, 78, 79, 80, 81, 82, 83] (by decide +kernel) (by decide +kernel)
set_option maxRecDepth 20000 in
theorem gX1_passDays_X3_coldOn : GoodIn wsX1_passDays (wsV RX1 59 RX3 yX3_coldOn wsX3_coldOn) := goodIn_app (goodIn_of _ (by decide +kernel)) ggX1_passDays_X3_coldOn
set_option maxRecDepth 20000 in
theorem ggX1_passDays_X1_passDay : GoodIn wsX1_passDays wsX1_passDay := goodIn_r _ [17, 18, 19, 20, 21, 22, 23, 24, 25, 26, 1, 27, 28, 5, 29, 30, 31, 32, 33, 34, 35, 36, 37, 38, 39, 40, 41, 42, 43, 44, 45, 46, 47, 48, 16, 49, 50, 51, 52, 53, 54, 55, 56, 57, 58, 59, 60, 61, 62, 63, 64, 65, 66, 67, 68, 69, 70, 71, 72, 73, 74, 75, 76, 77, 78, 79, 80, 81, 82, 83] (by decide +kernel) (by decide +kernel)
set_option maxRecDepth 20000 in
theorem gX1_passDays_X1_passDay : GoodIn wsX1_passDays (wsV RX1 62 RX1 yX1_passDay wsX1_passDay) := goodIn_app (goodIn_of _ (by decide +kernel)) ggX1_passDays_X1_passDay
theorem dX1_passDays_0 : decode cX1_passDays 0 = .ok (.iconst 0, 1) := by decide +kernel
theorem dX1_passDays_1 : decode cX1_passDays 1 = .ok (.istore_n 3, 1) := by decide +kernel
theorem dX1_passDays_2 : decode cX1_passDays 2 = .ok (.iload_n 3, 1) := by decide +kernel
theorem dX1_passDays_3 : decode cX1_passDays 3 = .ok (.iload_n 2, 1) := by decide +kernel
theorem dX1_passDays_4 : decode cX1_passDays 4 = .ok (.if_icmp .ge 22, 3) := by decide +kernel
theorem dX1_passDays_7 : decode cX1_passDays 7 = .ok (.aload_n 0, 1) := by decide +kernel
theorem dX1_passDays_8 : decode cX1_passDays 8 = .ok (.aload_n 1, 1) := by decide +kernel
theorem dX1_passDays_9 : decode cX1_passDays 9 = .ok (.aload_n 1, 1) := by decide +kernel
theorem dX1_passDays_10 : decode cX1_passDays 10 = .ok (.aload_n 0, 1) := by decide +kernel
theorem dX1_passDays_11 : decode cX1_passDays 11 = .ok (.getfield 21, 3) := by decide +kernel
theorem dX1_passDays_14 : decode cX1_passDays 14 = .ok (.invokevirtual 59, 3) := by decide +kernel
theorem dX1_passDays_17 : decode cX1_passDays 17 = .ok (.invokevirtual 62, 3) := by decide +kernel
theorem dX1_passDays_20 : decode cX1_passDays 20 = .ok (.iinc 3 1, 3) := by decide +kernel
theorem dX1_passDays_23 : decode cX1_passDays 23 = .ok (.goto (-21), 3) := by decide +kernel
theorem dX1_passDays_26 : decode cX1_passDays 26 = .ok (.return_, 1) := by decide +kernel
set_option maxRecDepth 20000 in
theorem ggX1_passDay_X3_thickBehind : GoodIn wsX1_passDay wsX3_thickBehind := goodIn_r _ [14, 15, 16, 17, 18, 19, 20, 21, 22, 23, 13, 24, 25, 26, 27, 28, 29, 30] (by decide +kernel) (by decide +kernel)
set_option maxRecDepth 20000 in
theorem gX1_passDay_X3_thickBehind : GoodIn wsX1_passDay (va_wsS RX1 66 yX3_thickBehind wsX3_thickBehind) := goodIn_app (goodIn_of _ (by decide +kernel)) ggX1_passDay_X3_thickBehind
set_option maxRecDepth 20000 in
theorem ggX1_passDay_X1_canBeOwned : GoodIn wsX1_passDay wsX1_canBeOwned := goodIn_r _ [35, 8, 9, 56, 57, 58, 59, 60, 61, 62, 63, 64, 65, 66, 67, 68, 69] (by decide +kernel) (by decide +kernel)
set_option maxRecDepth 20000 in
theorem gX1_passDay_X1_canBeOwned : GoodIn wsX1_passDay (wsV RX1 46 RX1 yX1_canBeOwned wsX1_canBeOwned) := goodIn_app (goodIn_of _ (by decide +kernel)) ggX1_passDay_X1_canBeOwned
set_option maxRecDepth 20000 in
theorem ggX1_passDay_X1_ownerByLaw : GoodIn wsX1_passDay wsX1_ownerByLaw := goodIn_r _ [39, 40, 41, 42, 43, 44, 34, 45, 2, 46, 47, 48, 13, 49, 50, 51, 52, 53, 54, 55, 60, 61, 62, 63, 64, 65, 66, 67, 68, 69, 56, 57, 58, 59] (by decide +kernel) (by decide +kernel)
set_option maxRecDepth 20000 in
theorem gX1_passDay_X1_ownerByLaw : GoodIn wsX1_passDay (wsV RX1 70 RX1 yX1_ownerByLaw wsX1_ownerByLaw) := goodIn_app (goodIn_of _ (by decide +kernel)) ggX1_passDay_X1_ownerByLaw
theorem dX1_passDay_0 : decode cX1_passDay 0 = .ok (.aload_n 0, 1) := by decide +kernel
theorem dX1_passDay_1 : decode cX1_passDay 1 = .ok (.getfield 15, 3) := by decide +kernel
theorem dX1_passDay_4 : decode cX1_passDay 4 = .ok (.iconst 0, 1) := by decide +kernel
theorem dX1_passDay_5 : decode cX1_passDay 5 = .ok (.aload_n 0, 1) := by decide +kernel
theorem dX1_passDay_6 : decode cX1_passDay 6 = .ok (.getfield 18, 3) := by decide +kernel
theorem dX1_passDay_9 : decode cX1_passDay 9 = .ok (.iconst 0, 1) := by decide +kernel
theorem dX1_passDay_10 : decode cX1_passDay 10 = .ok (.bipush 49, 2) := by decide +kernel
theorem dX1_passDay_12 : decode cX1_passDay 12 = .ok (.invokestatic 53, 3) := by decide +kernel
theorem dX1_passDay_15 : decode cX1_passDay 15 = .ok (.iconst 0, 1) := by decide +kernel
theorem dX1_passDay_16 : decode cX1_passDay 16 = .ok (.istore_n 3, 1) := by decide +kernel
theorem dX1_passDay_17 : decode cX1_passDay 17 = .ok (.iload_n 3, 1) := by decide +kernel
theorem dX1_passDay_18 : decode cX1_passDay 18 = .ok (.aload_n 1, 1) := by decide +kernel
theorem dX1_passDay_19 : decode cX1_passDay 19 = .ok (.getfield 25, 3) := by decide +kernel
theorem dX1_passDay_22 : decode cX1_passDay 22 = .ok (.if_icmp .ge 84, 3) := by decide +kernel
theorem dX1_passDay_25 : decode cX1_passDay 25 = .ok (.aload_n 0, 1) := by decide +kernel
theorem dX1_passDay_26 : decode cX1_passDay 26 = .ok (.getfield 9, 3) := by decide +kernel
theorem dX1_passDay_29 : decode cX1_passDay 29 = .ok (.iload_n 3, 1) := by decide +kernel
theorem dX1_passDay_30 : decode cX1_passDay 30 = .ok (.iaload, 1) := by decide +kernel
theorem dX1_passDay_31 : decode cX1_passDay 31 = .ok (.ifCond .ne 7, 3) := by decide +kernel
theorem dX1_passDay_34 : decode cX1_passDay 34 = .ok (.iconst 1, 1) := by decide +kernel
theorem dX1_passDay_35 : decode cX1_passDay 35 = .ok (.goto 4, 3) := by decide +kernel
theorem dX1_passDay_38 : decode cX1_passDay 38 = .ok (.iconst 0, 1) := by decide +kernel
theorem dX1_passDay_39 : decode cX1_passDay 39 = .ok (.istore 4, 2) := by decide +kernel
theorem dX1_passDay_41 : decode cX1_passDay 41 = .ok (.aload_n 0, 1) := by decide +kernel
theorem dX1_passDay_42 : decode cX1_passDay 42 = .ok (.getfield 9, 3) := by decide +kernel
theorem dX1_passDay_45 : decode cX1_passDay 45 = .ok (.iload_n 3, 1) := by decide +kernel
theorem dX1_passDay_46 : decode cX1_passDay 46 = .ok (.aload_n 1, 1) := by decide +kernel
theorem dX1_passDay_47 : decode cX1_passDay 47 = .ok (.getfield 33, 3) := by decide +kernel
theorem dX1_passDay_50 : decode cX1_passDay 50 = .ok (.iload_n 3, 1) := by decide +kernel
theorem dX1_passDay_51 : decode cX1_passDay 51 = .ok (.iaload, 1) := by decide +kernel
theorem dX1_passDay_52 : decode cX1_passDay 52 = .ok (.aload_n 0, 1) := by decide +kernel
theorem dX1_passDay_53 : decode cX1_passDay 53 = .ok (.getfield 9, 3) := by decide +kernel
theorem dX1_passDay_56 : decode cX1_passDay 56 = .ok (.iload_n 3, 1) := by decide +kernel
theorem dX1_passDay_57 : decode cX1_passDay 57 = .ok (.iaload, 1) := by decide +kernel
theorem dX1_passDay_58 : decode cX1_passDay 58 = .ok (.iload_n 2, 1) := by decide +kernel
theorem dX1_passDay_59 : decode cX1_passDay 59 = .ok (.invokestatic 66, 3) := by decide +kernel
theorem dX1_passDay_62 : decode cX1_passDay 62 = .ok (.iastore, 1) := by decide +kernel
theorem dX1_passDay_63 : decode cX1_passDay 63 = .ok (.aload_n 0, 1) := by decide +kernel
theorem dX1_passDay_64 : decode cX1_passDay 64 = .ok (.aload_n 1, 1) := by decide +kernel
theorem dX1_passDay_65 : decode cX1_passDay 65 = .ok (.iload_n 3, 1) := by decide +kernel
theorem dX1_passDay_66 : decode cX1_passDay 66 = .ok (.invokevirtual 46, 3) := by decide +kernel
theorem dX1_passDay_69 : decode cX1_passDay 69 = .ok (.ifCond .ne 14, 3) := by decide +kernel
theorem dX1_passDay_72 : decode cX1_passDay 72 = .ok (.aload_n 0, 1) := by decide +kernel
theorem dX1_passDay_73 : decode cX1_passDay 73 = .ok (.getfield 15, 3) := by decide +kernel
theorem dX1_passDay_76 : decode cX1_passDay 76 = .ok (.iload_n 3, 1) := by decide +kernel
theorem dX1_passDay_77 : decode cX1_passDay 77 = .ok (.bipush (-4), 2) := by decide +kernel
theorem dX1_passDay_79 : decode cX1_passDay 79 = .ok (.iastore, 1) := by decide +kernel
theorem dX1_passDay_80 : decode cX1_passDay 80 = .ok (.goto 20, 3) := by decide +kernel
theorem dX1_passDay_83 : decode cX1_passDay 83 = .ok (.iload 4, 2) := by decide +kernel
theorem dX1_passDay_85 : decode cX1_passDay 85 = .ok (.ifCond .eq 15, 3) := by decide +kernel
theorem dX1_passDay_88 : decode cX1_passDay 88 = .ok (.aload_n 0, 1) := by decide +kernel
theorem dX1_passDay_89 : decode cX1_passDay 89 = .ok (.getfield 15, 3) := by decide +kernel
theorem dX1_passDay_92 : decode cX1_passDay 92 = .ok (.iload_n 3, 1) := by decide +kernel
theorem dX1_passDay_93 : decode cX1_passDay 93 = .ok (.aload_n 0, 1) := by decide +kernel
theorem dX1_passDay_94 : decode cX1_passDay 94 = .ok (.aload_n 1, 1) := by decide +kernel
theorem dX1_passDay_95 : decode cX1_passDay 95 = .ok (.iload_n 3, 1) := by decide +kernel
theorem dX1_passDay_96 : decode cX1_passDay 96 = .ok (.invokevirtual 70, 3) := by decide +kernel
theorem dX1_passDay_99 : decode cX1_passDay 99 = .ok (.iastore, 1) := by decide +kernel
theorem dX1_passDay_100 : decode cX1_passDay 100 = .ok (.iinc 3 1, 3) := by decide +kernel
theorem dX1_passDay_103 : decode cX1_passDay 103 = .ok (.goto (-86), 3) := by decide +kernel
theorem dX1_passDay_106 : decode cX1_passDay 106 = .ok (.aload_n 0, 1) := by decide +kernel
theorem dX1_passDay_107 : decode cX1_passDay 107 = .ok (.dup, 1) := by decide +kernel
theorem dX1_passDay_108 : decode cX1_passDay 108 = .ok (.getfield 21, 3) := by decide +kernel
theorem dX1_passDay_111 : decode cX1_passDay 111 = .ok (.iconst 1, 1) := by decide +kernel
theorem dX1_passDay_112 : decode cX1_passDay 112 = .ok (.iadd, 1) := by decide +kernel
theorem dX1_passDay_113 : decode cX1_passDay 113 = .ok (.putfield 21, 3) := by decide +kernel
theorem dX1_passDay_116 : decode cX1_passDay 116 = .ok (.return_, 1) := by decide +kernel
theorem dX1_canBeOwned_0 : decode cX1_canBeOwned 0 = .ok (.aload_n 0, 1) := by decide +kernel
theorem dX1_canBeOwned_1 : decode cX1_canBeOwned 1 = .ok (.getfield 9, 3) := by decide +kernel
theorem dX1_canBeOwned_4 : decode cX1_canBeOwned 4 = .ok (.iload_n 2, 1) := by decide +kernel
theorem dX1_canBeOwned_5 : decode cX1_canBeOwned 5 = .ok (.iaload, 1) := by decide +kernel
theorem dX1_canBeOwned_6 : decode cX1_canBeOwned 6 = .ok (.ifCond .le 17, 3) := by decide +kernel
theorem dX1_canBeOwned_9 : decode cX1_canBeOwned 9 = .ok (.aload_n 1, 1) := by decide +kernel
theorem dX1_canBeOwned_10 : decode cX1_canBeOwned 10 = .ok (.getfield 33, 3) := by decide +kernel
theorem dX1_canBeOwned_13 : decode cX1_canBeOwned 13 = .ok (.iload_n 2, 1) := by decide +kernel
theorem dX1_canBeOwned_14 : decode cX1_canBeOwned 14 = .ok (.iaload, 1) := by decide +kernel
theorem dX1_canBeOwned_15 : decode cX1_canBeOwned 15 = .ok (.iconst 2, 1) := by decide +kernel
theorem dX1_canBeOwned_16 : decode cX1_canBeOwned 16 = .ok (.if_icmp .eq 7, 3) := by decide +kernel
theorem dX1_canBeOwned_19 : decode cX1_canBeOwned 19 = .ok (.iconst 1, 1) := by decide +kernel
theorem dX1_canBeOwned_20 : decode cX1_canBeOwned 20 = .ok (.goto 4, 3) := by decide +kernel
theorem dX1_canBeOwned_23 : decode cX1_canBeOwned 23 = .ok (.iconst 0, 1) := by decide +kernel
theorem dX1_canBeOwned_24 : decode cX1_canBeOwned 24 = .ok (.ireturn, 1) := by decide +kernel
set_option maxRecDepth 20000 in
theorem ggX1_ownerByLaw_X1_ownerOfMostBeside : GoodIn wsX1_ownerByLaw wsX1_ownerOfMostBeside := goodIn_r _ [7, 8, 9, 10, 11, 12, 13, 14, 15, 16, 17, 18, 19, 30, 31, 32, 33, 20, 21, 22, 23, 24, 25, 26, 27, 28, 29] (by decide +kernel) (by decide +kernel)
set_option maxRecDepth 20000 in
theorem gX1_ownerByLaw_X1_ownerOfMostBeside : GoodIn wsX1_ownerByLaw (wsV RX1 77 RX1 yX1_ownerOfMostBeside wsX1_ownerOfMostBeside) := goodIn_app (goodIn_of _ (by decide +kernel)) ggX1_ownerByLaw_X1_ownerOfMostBeside
theorem dX1_ownerByLaw_0 : decode cX1_ownerByLaw 0 = .ok (.aload_n 1, 1) := by decide +kernel
theorem dX1_ownerByLaw_1 : decode cX1_ownerByLaw 1 = .ok (.getfield 74, 3) := by decide +kernel
theorem dX1_ownerByLaw_4 : decode cX1_ownerByLaw 4 = .ok (.lookupswitch 42 #[(0, 28), (1, 35)], 28) := by decide +kernel
theorem dX1_ownerByLaw_32 : decode cX1_ownerByLaw 32 = .ok (.aload_n 1, 1) := by decide +kernel
theorem dX1_ownerByLaw_33 : decode cX1_ownerByLaw 33 = .ok (.getfield 50, 3) := by decide +kernel
theorem dX1_ownerByLaw_36 : decode cX1_ownerByLaw 36 = .ok (.iload_n 2, 1) := by decide +kernel
theorem dX1_ownerByLaw_37 : decode cX1_ownerByLaw 37 = .ok (.iaload, 1) := by decide +kernel
theorem dX1_ownerByLaw_38 : decode cX1_ownerByLaw 38 = .ok (.ireturn, 1) := by decide +kernel
theorem dX1_ownerByLaw_39 : decode cX1_ownerByLaw 39 = .ok (.aload_n 0, 1) := by decide +kernel
theorem dX1_ownerByLaw_40 : decode cX1_ownerByLaw 40 = .ok (.aload_n 1, 1) := by decide +kernel
theorem dX1_ownerByLaw_41 : decode cX1_ownerByLaw 41 = .ok (.iload_n 2, 1) := by decide +kernel
theorem dX1_ownerByLaw_42 : decode cX1_ownerByLaw 42 = .ok (.invokevirtual 77, 3) := by decide +kernel
theorem dX1_ownerByLaw_45 : decode cX1_ownerByLaw 45 = .ok (.ireturn, 1) := by decide +kernel
theorem dX1_ownerByLaw_46 : decode cX1_ownerByLaw 46 = .ok (.bipush (-4), 2) := by decide +kernel
theorem dX1_ownerByLaw_48 : decode cX1_ownerByLaw 48 = .ok (.ireturn, 1) := by decide +kernel
set_option maxRecDepth 20000 in
theorem ggX1_ownerOfMostBeside_X3_cellBeside : GoodIn wsX1_ownerOfMostBeside wsX3_cellBeside := goodIn_r _ [6, 7, 8, 9, 10, 5, 11, 12, 17, 18, 19, 20, 21, 22, 23, 24, 25, 26] (by decide +kernel) (by decide +kernel)
set_option maxRecDepth 20000 in
theorem gX1_ownerOfMostBeside_X3_cellBeside : GoodIn wsX1_ownerOfMostBeside (wsV RX1 80 RX3 yX3_cellBeside wsX3_cellBeside) := goodIn_app (goodIn_of _ (by decide +kernel)) ggX1_ownerOfMostBeside_X3_cellBeside
theorem dX1_ownerOfMostBeside_0 : decode cX1_ownerOfMostBeside 0 = .ok (.bipush (-4), 2) := by decide +kernel
theorem dX1_ownerOfMostBeside_2 : decode cX1_ownerOfMostBeside 2 = .ok (.istore_n 3, 1) := by decide +kernel
theorem dX1_ownerOfMostBeside_3 : decode cX1_ownerOfMostBeside 3 = .ok (.iconst 0, 1) := by decide +kernel
theorem dX1_ownerOfMostBeside_4 : decode cX1_ownerOfMostBeside 4 = .ok (.istore 4, 2) := by decide +kernel
theorem dX1_ownerOfMostBeside_6 : decode cX1_ownerOfMostBeside 6 = .ok (.iconst 0, 1) := by decide +kernel
theorem dX1_ownerOfMostBeside_7 : decode cX1_ownerOfMostBeside 7 = .ok (.istore 5, 2) := by decide +kernel
theorem dX1_ownerOfMostBeside_9 : decode cX1_ownerOfMostBeside 9 = .ok (.iload 5, 2) := by decide +kernel
theorem dX1_ownerOfMostBeside_11 : decode cX1_ownerOfMostBeside 11 = .ok (.iconst 4, 1) := by decide +kernel
theorem dX1_ownerOfMostBeside_12 : decode cX1_ownerOfMostBeside 12 = .ok (.if_icmp .ge 70, 3) := by decide +kernel
theorem dX1_ownerOfMostBeside_15 : decode cX1_ownerOfMostBeside 15 = .ok (.iconst 0, 1) := by decide +kernel
theorem dX1_ownerOfMostBeside_16 : decode cX1_ownerOfMostBeside 16 = .ok (.istore 6, 2) := by decide +kernel
theorem dX1_ownerOfMostBeside_18 : decode cX1_ownerOfMostBeside 18 = .ok (.iconst 0, 1) := by decide +kernel
theorem dX1_ownerOfMostBeside_19 : decode cX1_ownerOfMostBeside 19 = .ok (.istore 7, 2) := by decide +kernel
theorem dX1_ownerOfMostBeside_21 : decode cX1_ownerOfMostBeside 21 = .ok (.iload 7, 2) := by decide +kernel
theorem dX1_ownerOfMostBeside_23 : decode cX1_ownerOfMostBeside 23 = .ok (.iconst 4, 1) := by decide +kernel
theorem dX1_ownerOfMostBeside_24 : decode cX1_ownerOfMostBeside 24 = .ok (.if_icmp .ge 38, 3) := by decide +kernel
theorem dX1_ownerOfMostBeside_27 : decode cX1_ownerOfMostBeside 27 = .ok (.aload_n 1, 1) := by decide +kernel
theorem dX1_ownerOfMostBeside_28 : decode cX1_ownerOfMostBeside 28 = .ok (.iload_n 2, 1) := by decide +kernel
theorem dX1_ownerOfMostBeside_29 : decode cX1_ownerOfMostBeside 29 = .ok (.iload 7, 2) := by decide +kernel
theorem dX1_ownerOfMostBeside_31 : decode cX1_ownerOfMostBeside 31 = .ok (.invokevirtual 80, 3) := by decide +kernel
theorem dX1_ownerOfMostBeside_34 : decode cX1_ownerOfMostBeside 34 = .ok (.istore 8, 2) := by decide +kernel
theorem dX1_ownerOfMostBeside_36 : decode cX1_ownerOfMostBeside 36 = .ok (.iload 8, 2) := by decide +kernel
theorem dX1_ownerOfMostBeside_38 : decode cX1_ownerOfMostBeside 38 = .ok (.ifCond .lt 18, 3) := by decide +kernel
theorem dX1_ownerOfMostBeside_41 : decode cX1_ownerOfMostBeside 41 = .ok (.aload_n 0, 1) := by decide +kernel
theorem dX1_ownerOfMostBeside_42 : decode cX1_ownerOfMostBeside 42 = .ok (.getfield 18, 3) := by decide +kernel
theorem dX1_ownerOfMostBeside_45 : decode cX1_ownerOfMostBeside 45 = .ok (.iload 8, 2) := by decide +kernel
theorem dX1_ownerOfMostBeside_47 : decode cX1_ownerOfMostBeside 47 = .ok (.iaload, 1) := by decide +kernel
theorem dX1_ownerOfMostBeside_48 : decode cX1_ownerOfMostBeside 48 = .ok (.iload 5, 2) := by decide +kernel
theorem dX1_ownerOfMostBeside_50 : decode cX1_ownerOfMostBeside 50 = .ok (.if_icmp .ne 6, 3) := by decide +kernel
theorem dX1_ownerOfMostBeside_53 : decode cX1_ownerOfMostBeside 53 = .ok (.iinc 6 1, 3) := by decide +kernel
theorem dX1_ownerOfMostBeside_56 : decode cX1_ownerOfMostBeside 56 = .ok (.iinc 7 1, 3) := by decide +kernel
theorem dX1_ownerOfMostBeside_59 : decode cX1_ownerOfMostBeside 59 = .ok (.goto (-38), 3) := by decide +kernel
theorem dX1_ownerOfMostBeside_62 : decode cX1_ownerOfMostBeside 62 = .ok (.iload 6, 2) := by decide +kernel
theorem dX1_ownerOfMostBeside_64 : decode cX1_ownerOfMostBeside 64 = .ok (.iload 4, 2) := by decide +kernel
theorem dX1_ownerOfMostBeside_66 : decode cX1_ownerOfMostBeside 66 = .ok (.if_icmp .le 10, 3) := by decide +kernel
theorem dX1_ownerOfMostBeside_69 : decode cX1_ownerOfMostBeside 69 = .ok (.iload 5, 2) := by decide +kernel
theorem dX1_ownerOfMostBeside_71 : decode cX1_ownerOfMostBeside 71 = .ok (.istore_n 3, 1) := by decide +kernel
theorem dX1_ownerOfMostBeside_72 : decode cX1_ownerOfMostBeside 72 = .ok (.iload 6, 2) := by decide +kernel
theorem dX1_ownerOfMostBeside_74 : decode cX1_ownerOfMostBeside 74 = .ok (.istore 4, 2) := by decide +kernel
theorem dX1_ownerOfMostBeside_76 : decode cX1_ownerOfMostBeside 76 = .ok (.iinc 5 1, 3) := by decide +kernel
theorem dX1_ownerOfMostBeside_79 : decode cX1_ownerOfMostBeside 79 = .ok (.goto (-70), 3) := by decide +kernel
theorem dX1_ownerOfMostBeside_82 : decode cX1_ownerOfMostBeside 82 = .ok (.iload_n 3, 1) := by decide +kernel
theorem dX1_ownerOfMostBeside_83 : decode cX1_ownerOfMostBeside 83 = .ok (.ireturn, 1) := by decide +kernel
theorem dX1_sawOut_0 : decode cX1_sawOut 0 = .ok (.iload_n 1, 1) := by decide +kernel
theorem dX1_sawOut_1 : decode cX1_sawOut 1 = .ok (.ifCond .lt 24, 3) := by decide +kernel
theorem dX1_sawOut_4 : decode cX1_sawOut 4 = .ok (.iload_n 1, 1) := by decide +kernel
theorem dX1_sawOut_5 : decode cX1_sawOut 5 = .ok (.bipush 49, 2) := by decide +kernel
theorem dX1_sawOut_7 : decode cX1_sawOut 7 = .ok (.if_icmp .ge 18, 3) := by decide +kernel
theorem dX1_sawOut_10 : decode cX1_sawOut 10 = .ok (.aload_n 0, 1) := by decide +kernel
theorem dX1_sawOut_11 : decode cX1_sawOut 11 = .ok (.getfield 9, 3) := by decide +kernel
theorem dX1_sawOut_14 : decode cX1_sawOut 14 = .ok (.iload_n 1, 1) := by decide +kernel
theorem dX1_sawOut_15 : decode cX1_sawOut 15 = .ok (.iconst 0, 1) := by decide +kernel
theorem dX1_sawOut_16 : decode cX1_sawOut 16 = .ok (.iastore, 1) := by decide +kernel
theorem dX1_sawOut_17 : decode cX1_sawOut 17 = .ok (.aload_n 0, 1) := by decide +kernel
theorem dX1_sawOut_18 : decode cX1_sawOut 18 = .ok (.getfield 15, 3) := by decide +kernel
theorem dX1_sawOut_21 : decode cX1_sawOut 21 = .ok (.iload_n 1, 1) := by decide +kernel
theorem dX1_sawOut_22 : decode cX1_sawOut 22 = .ok (.bipush (-4), 2) := by decide +kernel
theorem dX1_sawOut_24 : decode cX1_sawOut 24 = .ok (.iastore, 1) := by decide +kernel
theorem dX1_sawOut_25 : decode cX1_sawOut 25 = .ok (.return_, 1) := by decide +kernel
set_option maxRecDepth 20000 in
theorem ggX1_bears_X3_hasCell : GoodIn wsX1_bears wsX3_hasCell := goodIn_r _ [7, 8, 19, 20, 21, 22, 23, 24, 25, 26, 27, 28] (by decide +kernel) (by decide +kernel)
set_option maxRecDepth 20000 in
theorem gX1_bears_X3_hasCell : GoodIn wsX1_bears (wsV RX1 83 RX3 yX3_hasCell wsX3_hasCell) := goodIn_app (goodIn_of _ (by decide +kernel)) ggX1_bears_X3_hasCell
set_option maxRecDepth 20000 in
theorem ggX1_bears_X3_cellBeside : GoodIn wsX1_bears wsX3_cellBeside := goodIn_r _ [12, 13, 14, 4, 5, 6, 7, 8, 19, 20, 21, 22, 23, 24, 25, 26, 27, 28] (by decide +kernel) (by decide +kernel)
set_option maxRecDepth 20000 in
theorem gX1_bears_X3_cellBeside : GoodIn wsX1_bears (wsV RX1 80 RX3 yX3_cellBeside wsX3_cellBeside) := goodIn_app (goodIn_of _ (by decide +kernel)) ggX1_bears_X3_cellBeside
theorem dX1_bears_0 : decode cX1_bears 0 = .ok (.aload_n 1, 1) := by decide +kernel
theorem dX1_bears_1 : decode cX1_bears 1 = .ok (.iload_n 2, 1) := by decide +kernel
theorem dX1_bears_2 : decode cX1_bears 2 = .ok (.invokevirtual 83, 3) := by decide +kernel
theorem dX1_bears_5 : decode cX1_bears 5 = .ok (.ifCond .eq 12, 3) := by decide +kernel
theorem dX1_bears_8 : decode cX1_bears 8 = .ok (.aload_n 0, 1) := by decide +kernel
theorem dX1_bears_9 : decode cX1_bears 9 = .ok (.getfield 9, 3) := by decide +kernel
theorem dX1_bears_12 : decode cX1_bears 12 = .ok (.iload_n 2, 1) := by decide +kernel
theorem dX1_bears_13 : decode cX1_bears 13 = .ok (.iaload, 1) := by decide +kernel
theorem dX1_bears_14 : decode cX1_bears 14 = .ok (.ifCond .ne 5, 3) := by decide +kernel
theorem dX1_bears_17 : decode cX1_bears 17 = .ok (.iconst 0, 1) := by decide +kernel
theorem dX1_bears_18 : decode cX1_bears 18 = .ok (.ireturn, 1) := by decide +kernel
theorem dX1_bears_19 : decode cX1_bears 19 = .ok (.iconst 0, 1) := by decide +kernel
theorem dX1_bears_20 : decode cX1_bears 20 = .ok (.istore_n 3, 1) := by decide +kernel
theorem dX1_bears_21 : decode cX1_bears 21 = .ok (.iconst 0, 1) := by decide +kernel
theorem dX1_bears_22 : decode cX1_bears 22 = .ok (.istore 4, 2) := by decide +kernel
theorem dX1_bears_24 : decode cX1_bears 24 = .ok (.iload 4, 2) := by decide +kernel
theorem dX1_bears_26 : decode cX1_bears 26 = .ok (.iconst 4, 1) := by decide +kernel
theorem dX1_bears_27 : decode cX1_bears 27 = .ok (.if_icmp .ge 33, 3) := by decide +kernel
theorem dX1_bears_30 : decode cX1_bears 30 = .ok (.aload_n 1, 1) := by decide +kernel
theorem dX1_bears_31 : decode cX1_bears 31 = .ok (.iload_n 2, 1) := by decide +kernel
theorem dX1_bears_32 : decode cX1_bears 32 = .ok (.iload 4, 2) := by decide +kernel
theorem dX1_bears_34 : decode cX1_bears 34 = .ok (.invokevirtual 80, 3) := by decide +kernel
theorem dX1_bears_37 : decode cX1_bears 37 = .ok (.istore 5, 2) := by decide +kernel
theorem dX1_bears_39 : decode cX1_bears 39 = .ok (.iload 5, 2) := by decide +kernel
theorem dX1_bears_41 : decode cX1_bears 41 = .ok (.ifCond .lt 13, 3) := by decide +kernel
theorem dX1_bears_44 : decode cX1_bears 44 = .ok (.iload_n 3, 1) := by decide +kernel
theorem dX1_bears_45 : decode cX1_bears 45 = .ok (.aload_n 0, 1) := by decide +kernel
theorem dX1_bears_46 : decode cX1_bears 46 = .ok (.getfield 9, 3) := by decide +kernel
theorem dX1_bears_49 : decode cX1_bears 49 = .ok (.iload 5, 2) := by decide +kernel
theorem dX1_bears_51 : decode cX1_bears 51 = .ok (.iaload, 1) := by decide +kernel
theorem dX1_bears_52 : decode cX1_bears 52 = .ok (.iadd, 1) := by decide +kernel
theorem dX1_bears_53 : decode cX1_bears 53 = .ok (.istore_n 3, 1) := by decide +kernel
theorem dX1_bears_54 : decode cX1_bears 54 = .ok (.iinc 4 1, 3) := by decide +kernel
theorem dX1_bears_57 : decode cX1_bears 57 = .ok (.goto (-33), 3) := by decide +kernel
theorem dX1_bears_60 : decode cX1_bears 60 = .ok (.aload_n 0, 1) := by decide +kernel
theorem dX1_bears_61 : decode cX1_bears 61 = .ok (.getfield 9, 3) := by decide +kernel
theorem dX1_bears_64 : decode cX1_bears 64 = .ok (.iload_n 2, 1) := by decide +kernel
theorem dX1_bears_65 : decode cX1_bears 65 = .ok (.iaload, 1) := by decide +kernel
theorem dX1_bears_66 : decode cX1_bears 66 = .ok (.iload_n 3, 1) := by decide +kernel
theorem dX1_bears_67 : decode cX1_bears 67 = .ok (.bipush 8, 2) := by decide +kernel
theorem dX1_bears_69 : decode cX1_bears 69 = .ok (.idiv, 1) := by decide +kernel
theorem dX1_bears_70 : decode cX1_bears 70 = .ok (.iadd, 1) := by decide +kernel
theorem dX1_bears_71 : decode cX1_bears 71 = .ok (.istore 4, 2) := by decide +kernel
theorem dX1_bears_73 : decode cX1_bears 73 = .ok (.aload_n 1, 1) := by decide +kernel
theorem dX1_bears_74 : decode cX1_bears 74 = .ok (.getfield 33, 3) := by decide +kernel
theorem dX1_bears_77 : decode cX1_bears 77 = .ok (.iload_n 2, 1) := by decide +kernel
theorem dX1_bears_78 : decode cX1_bears 78 = .ok (.iaload, 1) := by decide +kernel
theorem dX1_bears_79 : decode cX1_bears 79 = .ok (.iconst 3, 1) := by decide +kernel
theorem dX1_bears_80 : decode cX1_bears 80 = .ok (.if_icmp .ne 10, 3) := by decide +kernel
theorem dX1_bears_83 : decode cX1_bears 83 = .ok (.iload 4, 2) := by decide +kernel
theorem dX1_bears_85 : decode cX1_bears 85 = .ok (.iconst 2, 1) := by decide +kernel
theorem dX1_bears_86 : decode cX1_bears 86 = .ok (.idiv, 1) := by decide +kernel
theorem dX1_bears_87 : decode cX1_bears 87 = .ok (.goto 5, 3) := by decide +kernel
theorem dX1_bears_90 : decode cX1_bears 90 = .ok (.iload 4, 2) := by decide +kernel
theorem dX1_bears_92 : decode cX1_bears 92 = .ok (.ireturn, 1) := by decide +kernel
theorem dX1_tollOf_0 : decode cX1_tollOf 0 = .ok (.iload_n 1, 1) := by decide +kernel
theorem dX1_tollOf_1 : decode cX1_tollOf 1 = .ok (.ifCond .lt 20, 3) := by decide +kernel
theorem dX1_tollOf_4 : decode cX1_tollOf 4 = .ok (.iload_n 1, 1) := by decide +kernel
theorem dX1_tollOf_5 : decode cX1_tollOf 5 = .ok (.bipush 49, 2) := by decide +kernel
theorem dX1_tollOf_7 : decode cX1_tollOf 7 = .ok (.if_icmp .ge 14, 3) := by decide +kernel
theorem dX1_tollOf_10 : decode cX1_tollOf 10 = .ok (.aload_n 0, 1) := by decide +kernel
theorem dX1_tollOf_11 : decode cX1_tollOf 11 = .ok (.getfield 15, 3) := by decide +kernel
theorem dX1_tollOf_14 : decode cX1_tollOf 14 = .ok (.iload_n 1, 1) := by decide +kernel
theorem dX1_tollOf_15 : decode cX1_tollOf 15 = .ok (.iaload, 1) := by decide +kernel
theorem dX1_tollOf_16 : decode cX1_tollOf 16 = .ok (.bipush (-4), 2) := by decide +kernel
theorem dX1_tollOf_18 : decode cX1_tollOf 18 = .ok (.if_icmp .ne 5, 3) := by decide +kernel
theorem dX1_tollOf_21 : decode cX1_tollOf 21 = .ok (.iconst 1, 1) := by decide +kernel
theorem dX1_tollOf_22 : decode cX1_tollOf 22 = .ok (.ireturn, 1) := by decide +kernel
theorem dX1_tollOf_23 : decode cX1_tollOf 23 = .ok (.aload_n 0, 1) := by decide +kernel
theorem dX1_tollOf_24 : decode cX1_tollOf 24 = .ok (.getfield 15, 3) := by decide +kernel
theorem dX1_tollOf_27 : decode cX1_tollOf 27 = .ok (.iload_n 1, 1) := by decide +kernel
theorem dX1_tollOf_28 : decode cX1_tollOf 28 = .ok (.iaload, 1) := by decide +kernel
theorem dX1_tollOf_29 : decode cX1_tollOf 29 = .ok (.iload_n 2, 1) := by decide +kernel
theorem dX1_tollOf_30 : decode cX1_tollOf 30 = .ok (.if_icmp .ne 7, 3) := by decide +kernel
theorem dX1_tollOf_33 : decode cX1_tollOf 33 = .ok (.iconst 0, 1) := by decide +kernel
theorem dX1_tollOf_34 : decode cX1_tollOf 34 = .ok (.goto 4, 3) := by decide +kernel
theorem dX1_tollOf_37 : decode cX1_tollOf 37 = .ok (.iconst 3, 1) := by decide +kernel
theorem dX1_tollOf_38 : decode cX1_tollOf 38 = .ok (.ireturn, 1) := by decide +kernel
theorem dX1_cellsOf_0 : decode cX1_cellsOf 0 = .ok (.iconst 0, 1) := by decide +kernel
theorem dX1_cellsOf_1 : decode cX1_cellsOf 1 = .ok (.istore_n 3, 1) := by decide +kernel
theorem dX1_cellsOf_2 : decode cX1_cellsOf 2 = .ok (.iconst 0, 1) := by decide +kernel
theorem dX1_cellsOf_3 : decode cX1_cellsOf 3 = .ok (.istore 4, 2) := by decide +kernel
theorem dX1_cellsOf_5 : decode cX1_cellsOf 5 = .ok (.iload 4, 2) := by decide +kernel
theorem dX1_cellsOf_7 : decode cX1_cellsOf 7 = .ok (.aload_n 1, 1) := by decide +kernel
theorem dX1_cellsOf_8 : decode cX1_cellsOf 8 = .ok (.getfield 25, 3) := by decide +kernel
theorem dX1_cellsOf_11 : decode cX1_cellsOf 11 = .ok (.if_icmp .ge 23, 3) := by decide +kernel
theorem dX1_cellsOf_14 : decode cX1_cellsOf 14 = .ok (.aload_n 0, 1) := by decide +kernel
theorem dX1_cellsOf_15 : decode cX1_cellsOf 15 = .ok (.getfield 15, 3) := by decide +kernel
theorem dX1_cellsOf_18 : decode cX1_cellsOf 18 = .ok (.iload 4, 2) := by decide +kernel
theorem dX1_cellsOf_20 : decode cX1_cellsOf 20 = .ok (.iaload, 1) := by decide +kernel
theorem dX1_cellsOf_21 : decode cX1_cellsOf 21 = .ok (.iload_n 2, 1) := by decide +kernel
theorem dX1_cellsOf_22 : decode cX1_cellsOf 22 = .ok (.if_icmp .ne 6, 3) := by decide +kernel
theorem dX1_cellsOf_25 : decode cX1_cellsOf 25 = .ok (.iinc 3 1, 3) := by decide +kernel
theorem dX1_cellsOf_28 : decode cX1_cellsOf 28 = .ok (.iinc 4 1, 3) := by decide +kernel
theorem dX1_cellsOf_31 : decode cX1_cellsOf 31 = .ok (.goto (-26), 3) := by decide +kernel
theorem dX1_cellsOf_34 : decode cX1_cellsOf 34 = .ok (.iload_n 3, 1) := by decide +kernel
theorem dX1_cellsOf_35 : decode cX1_cellsOf 35 = .ok (.ireturn, 1) := by decide +kernel
theorem dX1_hasAny_0 : decode cX1_hasAny 0 = .ok (.iconst 0, 1) := by decide +kernel
theorem dX1_hasAny_1 : decode cX1_hasAny 1 = .ok (.istore_n 3, 1) := by decide +kernel
theorem dX1_hasAny_2 : decode cX1_hasAny 2 = .ok (.iload_n 3, 1) := by decide +kernel
theorem dX1_hasAny_3 : decode cX1_hasAny 3 = .ok (.aload_n 1, 1) := by decide +kernel
theorem dX1_hasAny_4 : decode cX1_hasAny 4 = .ok (.getfield 25, 3) := by decide +kernel
theorem dX1_hasAny_7 : decode cX1_hasAny 7 = .ok (.if_icmp .ge 21, 3) := by decide +kernel
theorem dX1_hasAny_10 : decode cX1_hasAny 10 = .ok (.aload_n 0, 1) := by decide +kernel
theorem dX1_hasAny_11 : decode cX1_hasAny 11 = .ok (.getfield 15, 3) := by decide +kernel
theorem dX1_hasAny_14 : decode cX1_hasAny 14 = .ok (.iload_n 3, 1) := by decide +kernel
theorem dX1_hasAny_15 : decode cX1_hasAny 15 = .ok (.iaload, 1) := by decide +kernel
theorem dX1_hasAny_16 : decode cX1_hasAny 16 = .ok (.iload_n 2, 1) := by decide +kernel
theorem dX1_hasAny_17 : decode cX1_hasAny 17 = .ok (.if_icmp .ne 5, 3) := by decide +kernel
theorem dX1_hasAny_20 : decode cX1_hasAny 20 = .ok (.iconst 1, 1) := by decide +kernel
theorem dX1_hasAny_21 : decode cX1_hasAny 21 = .ok (.ireturn, 1) := by decide +kernel
theorem dX1_hasAny_22 : decode cX1_hasAny 22 = .ok (.iinc 3 1, 3) := by decide +kernel
theorem dX1_hasAny_25 : decode cX1_hasAny 25 = .ok (.goto (-23), 3) := by decide +kernel
theorem dX1_hasAny_28 : decode cX1_hasAny 28 = .ok (.iconst 0, 1) := by decide +kernel
theorem dX1_hasAny_29 : decode cX1_hasAny 29 = .ok (.ireturn, 1) := by decide +kernel
theorem dX1_cellsWithIce_0 : decode cX1_cellsWithIce 0 = .ok (.iconst 0, 1) := by decide +kernel
theorem dX1_cellsWithIce_1 : decode cX1_cellsWithIce 1 = .ok (.istore_n 2, 1) := by decide +kernel
theorem dX1_cellsWithIce_2 : decode cX1_cellsWithIce 2 = .ok (.iconst 0, 1) := by decide +kernel
theorem dX1_cellsWithIce_3 : decode cX1_cellsWithIce 3 = .ok (.istore_n 3, 1) := by decide +kernel
theorem dX1_cellsWithIce_4 : decode cX1_cellsWithIce 4 = .ok (.iload_n 3, 1) := by decide +kernel
theorem dX1_cellsWithIce_5 : decode cX1_cellsWithIce 5 = .ok (.aload_n 1, 1) := by decide +kernel
theorem dX1_cellsWithIce_6 : decode cX1_cellsWithIce 6 = .ok (.getfield 25, 3) := by decide +kernel
theorem dX1_cellsWithIce_9 : decode cX1_cellsWithIce 9 = .ok (.if_icmp .ge 21, 3) := by decide +kernel
theorem dX1_cellsWithIce_12 : decode cX1_cellsWithIce 12 = .ok (.aload_n 0, 1) := by decide +kernel
theorem dX1_cellsWithIce_13 : decode cX1_cellsWithIce 13 = .ok (.getfield 9, 3) := by decide +kernel
theorem dX1_cellsWithIce_16 : decode cX1_cellsWithIce 16 = .ok (.iload_n 3, 1) := by decide +kernel
theorem dX1_cellsWithIce_17 : decode cX1_cellsWithIce 17 = .ok (.iaload, 1) := by decide +kernel
theorem dX1_cellsWithIce_18 : decode cX1_cellsWithIce 18 = .ok (.ifCond .le 6, 3) := by decide +kernel
theorem dX1_cellsWithIce_21 : decode cX1_cellsWithIce 21 = .ok (.iinc 2 1, 3) := by decide +kernel
theorem dX1_cellsWithIce_24 : decode cX1_cellsWithIce 24 = .ok (.iinc 3 1, 3) := by decide +kernel
theorem dX1_cellsWithIce_27 : decode cX1_cellsWithIce 27 = .ok (.goto (-23), 3) := by decide +kernel
theorem dX1_cellsWithIce_30 : decode cX1_cellsWithIce 30 = .ok (.iload_n 2, 1) := by decide +kernel
theorem dX1_cellsWithIce_31 : decode cX1_cellsWithIce 31 = .ok (.ireturn, 1) := by decide +kernel
theorem dX1_inchesInAll_0 : decode cX1_inchesInAll 0 = .ok (.iconst 0, 1) := by decide +kernel
theorem dX1_inchesInAll_1 : decode cX1_inchesInAll 1 = .ok (.istore_n 2, 1) := by decide +kernel
theorem dX1_inchesInAll_2 : decode cX1_inchesInAll 2 = .ok (.iconst 0, 1) := by decide +kernel
theorem dX1_inchesInAll_3 : decode cX1_inchesInAll 3 = .ok (.istore_n 3, 1) := by decide +kernel
theorem dX1_inchesInAll_4 : decode cX1_inchesInAll 4 = .ok (.iload_n 3, 1) := by decide +kernel
theorem dX1_inchesInAll_5 : decode cX1_inchesInAll 5 = .ok (.aload_n 1, 1) := by decide +kernel
theorem dX1_inchesInAll_6 : decode cX1_inchesInAll 6 = .ok (.getfield 25, 3) := by decide +kernel
theorem dX1_inchesInAll_9 : decode cX1_inchesInAll 9 = .ok (.if_icmp .ge 18, 3) := by decide +kernel
theorem dX1_inchesInAll_12 : decode cX1_inchesInAll 12 = .ok (.iload_n 2, 1) := by decide +kernel
theorem dX1_inchesInAll_13 : decode cX1_inchesInAll 13 = .ok (.aload_n 0, 1) := by decide +kernel
theorem dX1_inchesInAll_14 : decode cX1_inchesInAll 14 = .ok (.getfield 9, 3) := by decide +kernel
theorem dX1_inchesInAll_17 : decode cX1_inchesInAll 17 = .ok (.iload_n 3, 1) := by decide +kernel
theorem dX1_inchesInAll_18 : decode cX1_inchesInAll 18 = .ok (.iaload, 1) := by decide +kernel
theorem dX1_inchesInAll_19 : decode cX1_inchesInAll 19 = .ok (.iadd, 1) := by decide +kernel
theorem dX1_inchesInAll_20 : decode cX1_inchesInAll 20 = .ok (.istore_n 2, 1) := by decide +kernel
theorem dX1_inchesInAll_21 : decode cX1_inchesInAll 21 = .ok (.iinc 3 1, 3) := by decide +kernel
theorem dX1_inchesInAll_24 : decode cX1_inchesInAll 24 = .ok (.goto (-20), 3) := by decide +kernel
theorem dX1_inchesInAll_27 : decode cX1_inchesInAll 27 = .ok (.iload_n 2, 1) := by decide +kernel
theorem dX1_inchesInAll_28 : decode cX1_inchesInAll 28 = .ok (.ireturn, 1) := by decide +kernel
theorem dX2_init_0 : decode cX2_init 0 = .ok (.aload_n 0, 1) := by decide +kernel
theorem dX2_init_1 : decode cX2_init 1 = .ok (.invokespecial 3, 3) := by decide +kernel
theorem dX2_init_4 : decode cX2_init 4 = .ok (.aload_n 0, 1) := by decide +kernel
theorem dX2_init_5 : decode cX2_init 5 = .ok (.iconst 3, 1) := by decide +kernel
theorem dX2_init_6 : decode cX2_init 6 = .ok (.newarray .int, 2) := by decide +kernel
theorem dX2_init_8 : decode cX2_init 8 = .ok (.putfield 9, 3) := by decide +kernel
theorem dX2_init_11 : decode cX2_init 11 = .ok (.return_, 1) := by decide +kernel
set_option maxRecDepth 20000 in
theorem ggX2_readInto_X3_reset : GoodIn wsX2_readInto wsX3_reset := goodIn_r _ [7, 8, 9, 10, 11, 12, 13, 14, 15, 6, 16, 17, 18, 19, 20, 21, 22, 23, 24, 25, 26, 111, 112, 113, 114, 115, 116, 117, 118, 119, 120] (by decide +kernel) (by decide +kernel)
set_option maxRecDepth 20000 in
theorem gX2_readInto_X3_reset : GoodIn wsX2_readInto (wsV RX2 15 RX3 yX3_reset wsX3_reset) := goodIn_app (goodIn_of _ (by decide +kernel)) ggX2_readInto_X3_reset
set_option maxRecDepth 20000 in
theorem ggX2_readInto_X5_letterAt : GoodIn wsX2_readInto wsX5_letterAt := goodIn_r _ [31, 32, 33, 109, 110] (by decide +kernel) (by decide +kernel)
set_option maxRecDepth 20000 in
theorem gX2_readInto_X5_letterAt : GoodIn wsX2_readInto (wsV RX2 29 RX5 yX5_letterAt wsX5_letterAt) := goodIn_app (goodIn_of _ (by decide +kernel)) ggX2_readInto_X5_letterAt
set_option maxRecDepth 20000 in
theorem ggX2_readInto_X2_readItem : GoodIn wsX2_readInto wsX2_readItem := goodIn_r _ [38, 1, 39, 40, 41, 37, 42, 43, 44, 45, 46, 47, 48, 49, 50, 27, 28, 29, 30, 31, 32, 33, 107, 108, 109, 110] (by decide +kernel) (by decide +kernel)
set_option maxRecDepth 20000 in
theorem gX2_readInto_X2_readItem : GoodIn wsX2_readInto (wsV RX2 33 RX2 yX2_readItem wsX2_readItem) := goodIn_app (goodIn_of _ (by decide +kernel)) ggX2_readInto_X2_readItem
set_option maxRecDepth 20000 in
theorem ggX2_readInto_X2_tellItem : GoodIn wsX2_readInto wsX2_tellItem := goodIn_r _ [54, 39, 55, 14, 15, 6, 16, 17, 18, 19, 20, 21, 22, 56, 57, 58, 59, 8, 60, 61, 62, 63, 64, 65, 66, 67, 9, 68, 69, 70, 71, 72, 73, 74, 75, 76, 77, 78, 79, 80, 81, 82, 83, 84, 85, 86, 87, 88, 89, 90, 91, 92, 11, 93, 94, 95, 96, 10, 97, 98, 99, 100, 101, 12, 107, 108, 111, 112, 113, 114, 115, 116, 117, 118, 119, 120] (by decide +kernel) (by decide +kernel)
set_option maxRecDepth 20000 in
theorem gX2_readInto_X2_tellItem : GoodIn wsX2_readInto (wsV RX2 37 RX2 yX2_tellItem wsX2_tellItem) := goodIn_app (goodIn_of _ (by decide +kernel)) ggX2_readInto_X2_tellItem
set_option maxRecDepth 20000 in
theorem ggX2_readInto_X3_linkCells : GoodIn wsX2_readInto wsX3_linkCells := goodIn_r _ [105, 19, 106, 18, 17, 71, 72, 73, 6, 74, 85, 86, 87, 88, 111, 112, 113, 114, 115, 116, 117, 118, 119, 120] (by decide +kernel) (by decide +kernel)
set_option maxRecDepth 20000 in
theorem gX2_readInto_X3_linkCells : GoodIn wsX2_readInto (wsV RX2 41 RX3 yX3_linkCells wsX3_linkCells) := goodIn_app (goodIn_of _ (by decide +kernel)) ggX2_readInto_X3_linkCells
theorem dX2_readInto_0 : decode cX2_readInto 0 = .ok (.aload_n 2, 1) := by decide +kernel
theorem dX2_readInto_1 : decode cX2_readInto 1 = .ok (.invokevirtual 15, 3) := by decide +kernel
theorem dX2_readInto_4 : decode cX2_readInto 4 = .ok (.aload_n 0, 1) := by decide +kernel
theorem dX2_readInto_5 : decode cX2_readInto 5 = .ok (.iconst 0, 1) := by decide +kernel
theorem dX2_readInto_6 : decode cX2_readInto 6 = .ok (.putfield 20, 3) := by decide +kernel
theorem dX2_readInto_9 : decode cX2_readInto 9 = .ok (.iconst 1, 1) := by decide +kernel
theorem dX2_readInto_10 : decode cX2_readInto 10 = .ok (.istore_n 3, 1) := by decide +kernel
theorem dX2_readInto_11 : decode cX2_readInto 11 = .ok (.iconst 0, 1) := by decide +kernel
theorem dX2_readInto_12 : decode cX2_readInto 12 = .ok (.istore 4, 2) := by decide +kernel
theorem dX2_readInto_14 : decode cX2_readInto 14 = .ok (.iload 4, 2) := by decide +kernel
theorem dX2_readInto_16 : decode cX2_readInto 16 = .ok (.sipush 200, 3) := by decide +kernel
theorem dX2_readInto_19 : decode cX2_readInto 19 = .ok (.if_icmp .ge 93, 3) := by decide +kernel
theorem dX2_readInto_22 : decode cX2_readInto 22 = .ok (.aload_n 0, 1) := by decide +kernel
theorem dX2_readInto_23 : decode cX2_readInto 23 = .ok (.getfield 20, 3) := by decide +kernel
theorem dX2_readInto_26 : decode cX2_readInto 26 = .ok (.aload_n 1, 1) := by decide +kernel
theorem dX2_readInto_27 : decode cX2_readInto 27 = .ok (.getfield 24, 3) := by decide +kernel
theorem dX2_readInto_30 : decode cX2_readInto 30 = .ok (.if_icmp .ge 82, 3) := by decide +kernel
theorem dX2_readInto_33 : decode cX2_readInto 33 = .ok (.aload_n 0, 1) := by decide +kernel
theorem dX2_readInto_34 : decode cX2_readInto 34 = .ok (.getfield 20, 3) := by decide +kernel
theorem dX2_readInto_37 : decode cX2_readInto 37 = .ok (.istore 5, 2) := by decide +kernel
theorem dX2_readInto_39 : decode cX2_readInto 39 = .ok (.aload_n 1, 1) := by decide +kernel
theorem dX2_readInto_40 : decode cX2_readInto 40 = .ok (.iload 5, 2) := by decide +kernel
theorem dX2_readInto_42 : decode cX2_readInto 42 = .ok (.invokevirtual 29, 3) := by decide +kernel
theorem dX2_readInto_45 : decode cX2_readInto 45 = .ok (.istore 6, 2) := by decide +kernel
theorem dX2_readInto_47 : decode cX2_readInto 47 = .ok (.iload 6, 2) := by decide +kernel
theorem dX2_readInto_49 : decode cX2_readInto 49 = .ok (.bipush 114, 2) := by decide +kernel
theorem dX2_readInto_51 : decode cX2_readInto 51 = .ok (.if_icmp .ne 7, 3) := by decide +kernel
theorem dX2_readInto_54 : decode cX2_readInto 54 = .ok (.iload_n 3, 1) := by decide +kernel
theorem dX2_readInto_55 : decode cX2_readInto 55 = .ok (.ifCond .eq 7, 3) := by decide +kernel
theorem dX2_readInto_58 : decode cX2_readInto 58 = .ok (.iconst 1, 1) := by decide +kernel
theorem dX2_readInto_59 : decode cX2_readInto 59 = .ok (.goto 4, 3) := by decide +kernel
theorem dX2_readInto_62 : decode cX2_readInto 62 = .ok (.iconst 0, 1) := by decide +kernel
theorem dX2_readInto_63 : decode cX2_readInto 63 = .ok (.istore 7, 2) := by decide +kernel
theorem dX2_readInto_65 : decode cX2_readInto 65 = .ok (.iload 7, 2) := by decide +kernel
theorem dX2_readInto_67 : decode cX2_readInto 67 = .ok (.ifCond .eq 23, 3) := by decide +kernel
theorem dX2_readInto_70 : decode cX2_readInto 70 = .ok (.aload_n 0, 1) := by decide +kernel
theorem dX2_readInto_71 : decode cX2_readInto 71 = .ok (.aload_n 1, 1) := by decide +kernel
theorem dX2_readInto_72 : decode cX2_readInto 72 = .ok (.iload 6, 2) := by decide +kernel
theorem dX2_readInto_74 : decode cX2_readInto 74 = .ok (.invokevirtual 33, 3) := by decide +kernel
theorem dX2_readInto_77 : decode cX2_readInto 77 = .ok (.ifCond .eq 13, 3) := by decide +kernel
theorem dX2_readInto_80 : decode cX2_readInto 80 = .ok (.aload_n 0, 1) := by decide +kernel
theorem dX2_readInto_81 : decode cX2_readInto 81 = .ok (.aload_n 2, 1) := by decide +kernel
theorem dX2_readInto_82 : decode cX2_readInto 82 = .ok (.iload 6, 2) := by decide +kernel
theorem dX2_readInto_84 : decode cX2_readInto 84 = .ok (.invokevirtual 37, 3) := by decide +kernel
theorem dX2_readInto_87 : decode cX2_readInto 87 = .ok (.ifCond .ne 6, 3) := by decide +kernel
theorem dX2_readInto_90 : decode cX2_readInto 90 = .ok (.iload 5, 2) := by decide +kernel
theorem dX2_readInto_92 : decode cX2_readInto 92 = .ok (.ireturn, 1) := by decide +kernel
theorem dX2_readInto_93 : decode cX2_readInto 93 = .ok (.iload 6, 2) := by decide +kernel
theorem dX2_readInto_95 : decode cX2_readInto 95 = .ok (.bipush 114, 2) := by decide +kernel
theorem dX2_readInto_97 : decode cX2_readInto 97 = .ok (.if_icmp .ne 7, 3) := by decide +kernel
theorem dX2_readInto_100 : decode cX2_readInto 100 = .ok (.iconst 1, 1) := by decide +kernel
theorem dX2_readInto_101 : decode cX2_readInto 101 = .ok (.goto 4, 3) := by decide +kernel
theorem dX2_readInto_104 : decode cX2_readInto 104 = .ok (.iconst 0, 1) := by decide +kernel
theorem dX2_readInto_105 : decode cX2_readInto 105 = .ok (.istore_n 3, 1) := by decide +kernel
theorem dX2_readInto_106 : decode cX2_readInto 106 = .ok (.iinc 4 1, 3) := by decide +kernel
theorem dX2_readInto_109 : decode cX2_readInto 109 = .ok (.goto (-95), 3) := by decide +kernel
theorem dX2_readInto_112 : decode cX2_readInto 112 = .ok (.aload_n 2, 1) := by decide +kernel
theorem dX2_readInto_113 : decode cX2_readInto 113 = .ok (.invokevirtual 41, 3) := by decide +kernel
theorem dX2_readInto_116 : decode cX2_readInto 116 = .ok (.bipush (-4), 2) := by decide +kernel
theorem dX2_readInto_118 : decode cX2_readInto 118 = .ok (.ireturn, 1) := by decide +kernel
set_option maxRecDepth 20000 in
theorem ggX2_readItem_X2_numbersBehind : GoodIn wsX2_readItem wsX2_numbersBehind := goodIn_r _ [6] (by decide +kernel) (by decide +kernel)
set_option maxRecDepth 20000 in
theorem gX2_readItem_X2_numbersBehind : GoodIn wsX2_readItem (va_wsS RX2 44 yX2_numbersBehind wsX2_numbersBehind) := goodIn_app (goodIn_of _ (by decide +kernel)) ggX2_readItem_X2_numbersBehind
set_option maxRecDepth 20000 in
theorem ggX2_readItem_X2_readNumber : GoodIn wsX2_readItem wsX2_readNumber := goodIn_r _ [10, 1, 11, 12, 13, 5, 14, 15, 16, 17, 18, 19, 20, 21, 22, 23, 24, 25] (by decide +kernel) (by decide +kernel)
set_option maxRecDepth 20000 in
theorem gX2_readItem_X2_readNumber : GoodIn wsX2_readItem (wsV RX2 48 RX2 yX2_readNumber wsX2_readNumber) := goodIn_app (goodIn_of _ (by decide +kernel)) ggX2_readItem_X2_readNumber
set_option maxRecDepth 20000 in
theorem ggX2_readItem_X5_letterAt : GoodIn wsX2_readItem wsX5_letterAt := goodIn_r _ [19, 20, 21, 24, 25] (by decide +kernel) (by decide +kernel)
set_option maxRecDepth 20000 in
theorem gX2_readItem_X5_letterAt : GoodIn wsX2_readItem (wsV RX2 29 RX5 yX5_letterAt wsX5_letterAt) := goodIn_app (goodIn_of _ (by decide +kernel)) ggX2_readItem_X5_letterAt
theorem dX2_readItem_0 : decode cX2_readItem 0 = .ok (.iload_n 2, 1) := by decide +kernel
theorem dX2_readItem_1 : decode cX2_readItem 1 = .ok (.invokestatic 44, 3) := by decide +kernel
theorem dX2_readItem_4 : decode cX2_readItem 4 = .ok (.istore_n 3, 1) := by decide +kernel
theorem dX2_readItem_5 : decode cX2_readItem 5 = .ok (.aload_n 0, 1) := by decide +kernel
theorem dX2_readItem_6 : decode cX2_readItem 6 = .ok (.dup, 1) := by decide +kernel
theorem dX2_readItem_7 : decode cX2_readItem 7 = .ok (.getfield 20, 3) := by decide +kernel
theorem dX2_readItem_10 : decode cX2_readItem 10 = .ok (.iconst 1, 1) := by decide +kernel
theorem dX2_readItem_11 : decode cX2_readItem 11 = .ok (.iadd, 1) := by decide +kernel
theorem dX2_readItem_12 : decode cX2_readItem 12 = .ok (.putfield 20, 3) := by decide +kernel
theorem dX2_readItem_15 : decode cX2_readItem 15 = .ok (.iconst 0, 1) := by decide +kernel
theorem dX2_readItem_16 : decode cX2_readItem 16 = .ok (.istore 4, 2) := by decide +kernel
theorem dX2_readItem_18 : decode cX2_readItem 18 = .ok (.iload 4, 2) := by decide +kernel
theorem dX2_readItem_20 : decode cX2_readItem 20 = .ok (.iload_n 3, 1) := by decide +kernel
theorem dX2_readItem_21 : decode cX2_readItem 21 = .ok (.if_icmp .ge 73, 3) := by decide +kernel
theorem dX2_readItem_24 : decode cX2_readItem 24 = .ok (.aload_n 0, 1) := by decide +kernel
theorem dX2_readItem_25 : decode cX2_readItem 25 = .ok (.getfield 9, 3) := by decide +kernel
theorem dX2_readItem_28 : decode cX2_readItem 28 = .ok (.iload 4, 2) := by decide +kernel
theorem dX2_readItem_30 : decode cX2_readItem 30 = .ok (.aload_n 0, 1) := by decide +kernel
theorem dX2_readItem_31 : decode cX2_readItem 31 = .ok (.aload_n 1, 1) := by decide +kernel
theorem dX2_readItem_32 : decode cX2_readItem 32 = .ok (.invokevirtual 48, 3) := by decide +kernel
theorem dX2_readItem_35 : decode cX2_readItem 35 = .ok (.iastore, 1) := by decide +kernel
theorem dX2_readItem_36 : decode cX2_readItem 36 = .ok (.iload 4, 2) := by decide +kernel
theorem dX2_readItem_38 : decode cX2_readItem 38 = .ok (.iload_n 3, 1) := by decide +kernel
theorem dX2_readItem_39 : decode cX2_readItem 39 = .ok (.iconst 1, 1) := by decide +kernel
theorem dX2_readItem_40 : decode cX2_readItem 40 = .ok (.isub, 1) := by decide +kernel
theorem dX2_readItem_41 : decode cX2_readItem 41 = .ok (.if_icmp .ne 8, 3) := by decide +kernel
theorem dX2_readItem_44 : decode cX2_readItem 44 = .ok (.bipush 59, 2) := by decide +kernel
theorem dX2_readItem_46 : decode cX2_readItem 46 = .ok (.goto 5, 3) := by decide +kernel
theorem dX2_readItem_49 : decode cX2_readItem 49 = .ok (.bipush 44, 2) := by decide +kernel
theorem dX2_readItem_51 : decode cX2_readItem 51 = .ok (.istore 5, 2) := by decide +kernel
theorem dX2_readItem_53 : decode cX2_readItem 53 = .ok (.aload_n 0, 1) := by decide +kernel
theorem dX2_readItem_54 : decode cX2_readItem 54 = .ok (.getfield 9, 3) := by decide +kernel
theorem dX2_readItem_57 : decode cX2_readItem 57 = .ok (.iload 4, 2) := by decide +kernel
theorem dX2_readItem_59 : decode cX2_readItem 59 = .ok (.iaload, 1) := by decide +kernel
theorem dX2_readItem_60 : decode cX2_readItem 60 = .ok (.ifCond .lt 16, 3) := by decide +kernel
theorem dX2_readItem_63 : decode cX2_readItem 63 = .ok (.aload_n 1, 1) := by decide +kernel
theorem dX2_readItem_64 : decode cX2_readItem 64 = .ok (.aload_n 0, 1) := by decide +kernel
theorem dX2_readItem_65 : decode cX2_readItem 65 = .ok (.getfield 20, 3) := by decide +kernel
theorem dX2_readItem_68 : decode cX2_readItem 68 = .ok (.invokevirtual 29, 3) := by decide +kernel
theorem dX2_readItem_71 : decode cX2_readItem 71 = .ok (.iload 5, 2) := by decide +kernel
theorem dX2_readItem_73 : decode cX2_readItem 73 = .ok (.if_icmp .eq 5, 3) := by decide +kernel
theorem dX2_readItem_76 : decode cX2_readItem 76 = .ok (.iconst 0, 1) := by decide +kernel
theorem dX2_readItem_77 : decode cX2_readItem 77 = .ok (.ireturn, 1) := by decide +kernel
theorem dX2_readItem_78 : decode cX2_readItem 78 = .ok (.aload_n 0, 1) := by decide +kernel
theorem dX2_readItem_79 : decode cX2_readItem 79 = .ok (.dup, 1) := by decide +kernel
theorem dX2_readItem_80 : decode cX2_readItem 80 = .ok (.getfield 20, 3) := by decide +kernel
theorem dX2_readItem_83 : decode cX2_readItem 83 = .ok (.iconst 1, 1) := by decide +kernel
theorem dX2_readItem_84 : decode cX2_readItem 84 = .ok (.iadd, 1) := by decide +kernel
theorem dX2_readItem_85 : decode cX2_readItem 85 = .ok (.putfield 20, 3) := by decide +kernel
theorem dX2_readItem_88 : decode cX2_readItem 88 = .ok (.iinc 4 1, 3) := by decide +kernel
theorem dX2_readItem_91 : decode cX2_readItem 91 = .ok (.goto (-73), 3) := by decide +kernel
theorem dX2_readItem_94 : decode cX2_readItem 94 = .ok (.iload_n 3, 1) := by decide +kernel
theorem dX2_readItem_95 : decode cX2_readItem 95 = .ok (.ifCond .le 7, 3) := by decide +kernel
theorem dX2_readItem_98 : decode cX2_readItem 98 = .ok (.iconst 1, 1) := by decide +kernel
theorem dX2_readItem_99 : decode cX2_readItem 99 = .ok (.goto 4, 3) := by decide +kernel
theorem dX2_readItem_102 : decode cX2_readItem 102 = .ok (.iconst 0, 1) := by decide +kernel
theorem dX2_readItem_103 : decode cX2_readItem 103 = .ok (.ireturn, 1) := by decide +kernel
set_option maxRecDepth 20000 in
theorem ggX2_readNumber_X2_figureAt : GoodIn wsX2_readNumber wsX2_figureAt := goodIn_r _ [6, 1, 7, 8, 9, 10, 11, 12, 13, 14, 15, 16, 17] (by decide +kernel) (by decide +kernel)
set_option maxRecDepth 20000 in
theorem gX2_readNumber_X2_figureAt : GoodIn wsX2_readNumber (wsV RX2 52 RX2 yX2_figureAt wsX2_figureAt) := goodIn_app (goodIn_of _ (by decide +kernel)) ggX2_readNumber_X2_figureAt
theorem dX2_readNumber_0 : decode cX2_readNumber 0 = .ok (.aload_n 0, 1) := by decide +kernel
theorem dX2_readNumber_1 : decode cX2_readNumber 1 = .ok (.aload_n 1, 1) := by decide +kernel
theorem dX2_readNumber_2 : decode cX2_readNumber 2 = .ok (.invokevirtual 52, 3) := by decide +kernel
theorem dX2_readNumber_5 : decode cX2_readNumber 5 = .ok (.istore_n 2, 1) := by decide +kernel
theorem dX2_readNumber_6 : decode cX2_readNumber 6 = .ok (.iload_n 2, 1) := by decide +kernel
theorem dX2_readNumber_7 : decode cX2_readNumber 7 = .ok (.ifCond .ge 5, 3) := by decide +kernel
theorem dX2_readNumber_10 : decode cX2_readNumber 10 = .ok (.iconst (-1), 1) := by decide +kernel
theorem dX2_readNumber_11 : decode cX2_readNumber 11 = .ok (.ireturn, 1) := by decide +kernel
theorem dX2_readNumber_12 : decode cX2_readNumber 12 = .ok (.aload_n 0, 1) := by decide +kernel
theorem dX2_readNumber_13 : decode cX2_readNumber 13 = .ok (.dup, 1) := by decide +kernel
theorem dX2_readNumber_14 : decode cX2_readNumber 14 = .ok (.getfield 20, 3) := by decide +kernel
theorem dX2_readNumber_17 : decode cX2_readNumber 17 = .ok (.iconst 1, 1) := by decide +kernel
theorem dX2_readNumber_18 : decode cX2_readNumber 18 = .ok (.iadd, 1) := by decide +kernel
theorem dX2_readNumber_19 : decode cX2_readNumber 19 = .ok (.putfield 20, 3) := by decide +kernel
theorem dX2_readNumber_22 : decode cX2_readNumber 22 = .ok (.aload_n 0, 1) := by decide +kernel
theorem dX2_readNumber_23 : decode cX2_readNumber 23 = .ok (.aload_n 1, 1) := by decide +kernel
theorem dX2_readNumber_24 : decode cX2_readNumber 24 = .ok (.invokevirtual 52, 3) := by decide +kernel
theorem dX2_readNumber_27 : decode cX2_readNumber 27 = .ok (.istore_n 3, 1) := by decide +kernel
theorem dX2_readNumber_28 : decode cX2_readNumber 28 = .ok (.iload_n 3, 1) := by decide +kernel
theorem dX2_readNumber_29 : decode cX2_readNumber 29 = .ok (.ifCond .ge 5, 3) := by decide +kernel
theorem dX2_readNumber_32 : decode cX2_readNumber 32 = .ok (.iload_n 2, 1) := by decide +kernel
theorem dX2_readNumber_33 : decode cX2_readNumber 33 = .ok (.ireturn, 1) := by decide +kernel
theorem dX2_readNumber_34 : decode cX2_readNumber 34 = .ok (.aload_n 0, 1) := by decide +kernel
theorem dX2_readNumber_35 : decode cX2_readNumber 35 = .ok (.dup, 1) := by decide +kernel
theorem dX2_readNumber_36 : decode cX2_readNumber 36 = .ok (.getfield 20, 3) := by decide +kernel
theorem dX2_readNumber_39 : decode cX2_readNumber 39 = .ok (.iconst 1, 1) := by decide +kernel
theorem dX2_readNumber_40 : decode cX2_readNumber 40 = .ok (.iadd, 1) := by decide +kernel
theorem dX2_readNumber_41 : decode cX2_readNumber 41 = .ok (.putfield 20, 3) := by decide +kernel
theorem dX2_readNumber_44 : decode cX2_readNumber 44 = .ok (.iload_n 2, 1) := by decide +kernel
theorem dX2_readNumber_45 : decode cX2_readNumber 45 = .ok (.bipush 10, 2) := by decide +kernel
theorem dX2_readNumber_47 : decode cX2_readNumber 47 = .ok (.imul, 1) := by decide +kernel
theorem dX2_readNumber_48 : decode cX2_readNumber 48 = .ok (.iload_n 3, 1) := by decide +kernel
theorem dX2_readNumber_49 : decode cX2_readNumber 49 = .ok (.iadd, 1) := by decide +kernel
theorem dX2_readNumber_50 : decode cX2_readNumber 50 = .ok (.ireturn, 1) := by decide +kernel
set_option maxRecDepth 20000 in
theorem ggX2_figureAt_X5_letterAt : GoodIn wsX2_figureAt wsX5_letterAt := goodIn_r _ [6, 7, 8, 11, 12] (by decide +kernel) (by decide +kernel)
set_option maxRecDepth 20000 in
theorem gX2_figureAt_X5_letterAt : GoodIn wsX2_figureAt (wsV RX2 29 RX5 yX5_letterAt wsX5_letterAt) := goodIn_app (goodIn_of _ (by decide +kernel)) ggX2_figureAt_X5_letterAt
theorem dX2_figureAt_0 : decode cX2_figureAt 0 = .ok (.aload_n 1, 1) := by decide +kernel
theorem dX2_figureAt_1 : decode cX2_figureAt 1 = .ok (.aload_n 0, 1) := by decide +kernel
theorem dX2_figureAt_2 : decode cX2_figureAt 2 = .ok (.getfield 20, 3) := by decide +kernel
theorem dX2_figureAt_5 : decode cX2_figureAt 5 = .ok (.invokevirtual 29, 3) := by decide +kernel
theorem dX2_figureAt_8 : decode cX2_figureAt 8 = .ok (.istore_n 2, 1) := by decide +kernel
theorem dX2_figureAt_9 : decode cX2_figureAt 9 = .ok (.iload_n 2, 1) := by decide +kernel
theorem dX2_figureAt_10 : decode cX2_figureAt 10 = .ok (.bipush 48, 2) := by decide +kernel
theorem dX2_figureAt_12 : decode cX2_figureAt 12 = .ok (.if_icmp .lt 16, 3) := by decide +kernel
theorem dX2_figureAt_15 : decode cX2_figureAt 15 = .ok (.iload_n 2, 1) := by decide +kernel
theorem dX2_figureAt_16 : decode cX2_figureAt 16 = .ok (.bipush 57, 2) := by decide +kernel
theorem dX2_figureAt_18 : decode cX2_figureAt 18 = .ok (.if_icmp .gt 10, 3) := by decide +kernel
theorem dX2_figureAt_21 : decode cX2_figureAt 21 = .ok (.iload_n 2, 1) := by decide +kernel
theorem dX2_figureAt_22 : decode cX2_figureAt 22 = .ok (.bipush 48, 2) := by decide +kernel
theorem dX2_figureAt_24 : decode cX2_figureAt 24 = .ok (.isub, 1) := by decide +kernel
theorem dX2_figureAt_25 : decode cX2_figureAt 25 = .ok (.goto 4, 3) := by decide +kernel
theorem dX2_figureAt_28 : decode cX2_figureAt 28 = .ok (.iconst (-1), 1) := by decide +kernel
theorem dX2_figureAt_29 : decode cX2_figureAt 29 = .ok (.ireturn, 1) := by decide +kernel
theorem dX2_numbersBehind_0 : decode cX2_numbersBehind 0 = .ok (.iload_n 0, 1) := by decide +kernel
theorem dX2_numbersBehind_1 : decode cX2_numbersBehind 1 = .ok (.tableswitch 81 100 114 #[79, 81, 75, 81, 81, 79, 81, 77, 79, 81, 81, 81, 81, 81, 77], 75) := by decide +kernel
theorem dX2_numbersBehind_76 : decode cX2_numbersBehind 76 = .ok (.iconst 3, 1) := by decide +kernel
theorem dX2_numbersBehind_77 : decode cX2_numbersBehind 77 = .ok (.ireturn, 1) := by decide +kernel
theorem dX2_numbersBehind_78 : decode cX2_numbersBehind 78 = .ok (.iconst 2, 1) := by decide +kernel
theorem dX2_numbersBehind_79 : decode cX2_numbersBehind 79 = .ok (.ireturn, 1) := by decide +kernel
theorem dX2_numbersBehind_80 : decode cX2_numbersBehind 80 = .ok (.iconst 1, 1) := by decide +kernel
theorem dX2_numbersBehind_81 : decode cX2_numbersBehind 81 = .ok (.ireturn, 1) := by decide +kernel
theorem dX2_numbersBehind_82 : decode cX2_numbersBehind 82 = .ok (.iconst 0, 1) := by decide +kernel
theorem dX2_numbersBehind_83 : decode cX2_numbersBehind 83 = .ok (.ireturn, 1) := by decide +kernel
set_option maxRecDepth 20000 in
theorem ggX2_tellItem_X3_tellSize : GoodIn wsX2_tellItem wsX3_tellSize := goodIn_r _ [6, 7, 8, 9, 10, 11, 5, 12, 66, 67, 68, 69, 70, 71, 72, 73, 74, 75] (by decide +kernel) (by decide +kernel)
set_option maxRecDepth 20000 in
theorem gX2_tellItem_X3_tellSize : GoodIn wsX2_tellItem (wsV RX2 55 RX3 yX3_tellSize wsX3_tellSize) := goodIn_app (goodIn_of _ (by decide +kernel)) ggX2_tellItem_X3_tellSize
set_option maxRecDepth 20000 in
theorem ggX2_tellItem_X3_tellKind : GoodIn wsX2_tellItem wsX3_tellKind := goodIn_r _ [16, 17, 18, 19, 20, 5, 21, 9, 66, 67, 68, 69, 70, 71, 72, 73, 74, 75] (by decide +kernel) (by decide +kernel)
set_option maxRecDepth 20000 in
theorem gX2_tellItem_X3_tellKind : GoodIn wsX2_tellItem (wsV RX2 59 RX3 yX3_tellKind wsX3_tellKind) := goodIn_app (goodIn_of _ (by decide +kernel)) ggX2_tellItem_X3_tellKind
set_option maxRecDepth 20000 in
theorem ggX2_tellItem_X3_tellMap : GoodIn wsX2_tellItem wsX3_tellMap := goodIn_r _ [25, 9, 26, 27, 28, 29, 18, 19, 20, 5, 21, 30, 31, 32, 33, 8, 34, 35, 36, 37, 38, 39, 40, 41, 42, 43, 44, 45, 46, 47, 66, 67, 68, 69, 70, 71, 72, 73, 74, 75] (by decide +kernel) (by decide +kernel)
set_option maxRecDepth 20000 in
theorem gX2_tellItem_X3_tellMap : GoodIn wsX2_tellItem (wsV RX2 62 RX3 yX3_tellMap wsX3_tellMap) := goodIn_app (goodIn_of _ (by decide +kernel)) ggX2_tellItem_X3_tellMap
set_option maxRecDepth 20000 in
theorem ggX2_tellItem_X3_tellStart : GoodIn wsX2_tellItem wsX3_tellStart := goodIn_r _ [51, 52, 66, 67, 68, 69, 70, 71, 72, 73, 74, 75] (by decide +kernel) (by decide +kernel)
set_option maxRecDepth 20000 in
theorem gX2_tellItem_X3_tellStart : GoodIn wsX2_tellItem (wsV RX2 66 RX3 yX3_tellStart wsX3_tellStart) := goodIn_app (goodIn_of _ (by decide +kernel)) ggX2_tellItem_X3_tellStart
set_option maxRecDepth 20000 in
theorem ggX2_tellItem_X3_tellCold : GoodIn wsX2_tellItem wsX3_tellCold := goodIn_r _ [56, 57, 58, 66, 67, 68, 69, 70, 71, 72, 73, 74, 75] (by decide +kernel) (by decide +kernel)
set_option maxRecDepth 20000 in
theorem gX2_tellItem_X3_tellCold : GoodIn wsX2_tellItem (wsV RX2 70 RX3 yX3_tellCold wsX3_tellCold) := goodIn_app (goodIn_of _ (by decide +kernel)) ggX2_tellItem_X3_tellCold
set_option maxRecDepth 20000 in
theorem ggX2_tellItem_X3_tellLaw : GoodIn wsX2_tellItem wsX3_tellLaw := goodIn_r _ [62, 63, 66, 67, 68, 69, 70, 71, 72, 73, 74, 75] (by decide +kernel) (by decide +kernel)
set_option maxRecDepth 20000 in
theorem gX2_tellItem_X3_tellLaw : GoodIn wsX2_tellItem (wsV RX2 73 RX3 yX3_tellLaw wsX3_tellLaw) := goodIn_app (goodIn_of _ (by decide +kernel)) ggX2_tellItem_X3_tellLaw
theorem dX2_tellItem_0 : decode cX2_tellItem 0 = .ok (.iload_n 2, 1) := by decide +kernel
theorem dX2_tellItem_1 : decode cX2_tellItem 1 = .ok (.tableswitch 165 100 114 #[143, 165, 109, 165, 165, 132, 165, 92, 154, 165, 165, 165, 165, 165, 75], 75) := by decide +kernel
theorem dX2_tellItem_76 : decode cX2_tellItem 76 = .ok (.aload_n 1, 1) := by decide +kernel
theorem dX2_tellItem_77 : decode cX2_tellItem 77 = .ok (.aload_n 0, 1) := by decide +kernel
theorem dX2_tellItem_78 : decode cX2_tellItem 78 = .ok (.getfield 9, 3) := by decide +kernel
theorem dX2_tellItem_81 : decode cX2_tellItem 81 = .ok (.iconst 0, 1) := by decide +kernel
theorem dX2_tellItem_82 : decode cX2_tellItem 82 = .ok (.iaload, 1) := by decide +kernel
theorem dX2_tellItem_83 : decode cX2_tellItem 83 = .ok (.aload_n 0, 1) := by decide +kernel
theorem dX2_tellItem_84 : decode cX2_tellItem 84 = .ok (.getfield 9, 3) := by decide +kernel
theorem dX2_tellItem_87 : decode cX2_tellItem 87 = .ok (.iconst 1, 1) := by decide +kernel
theorem dX2_tellItem_88 : decode cX2_tellItem 88 = .ok (.iaload, 1) := by decide +kernel
theorem dX2_tellItem_89 : decode cX2_tellItem 89 = .ok (.invokevirtual 55, 3) := by decide +kernel
theorem dX2_tellItem_92 : decode cX2_tellItem 92 = .ok (.ireturn, 1) := by decide +kernel
theorem dX2_tellItem_93 : decode cX2_tellItem 93 = .ok (.aload_n 1, 1) := by decide +kernel
theorem dX2_tellItem_94 : decode cX2_tellItem 94 = .ok (.aload_n 0, 1) := by decide +kernel
theorem dX2_tellItem_95 : decode cX2_tellItem 95 = .ok (.getfield 9, 3) := by decide +kernel
theorem dX2_tellItem_98 : decode cX2_tellItem 98 = .ok (.iconst 0, 1) := by decide +kernel
theorem dX2_tellItem_99 : decode cX2_tellItem 99 = .ok (.iaload, 1) := by decide +kernel
theorem dX2_tellItem_100 : decode cX2_tellItem 100 = .ok (.aload_n 0, 1) := by decide +kernel
theorem dX2_tellItem_101 : decode cX2_tellItem 101 = .ok (.getfield 9, 3) := by decide +kernel
theorem dX2_tellItem_104 : decode cX2_tellItem 104 = .ok (.iconst 1, 1) := by decide +kernel
theorem dX2_tellItem_105 : decode cX2_tellItem 105 = .ok (.iaload, 1) := by decide +kernel
theorem dX2_tellItem_106 : decode cX2_tellItem 106 = .ok (.invokevirtual 59, 3) := by decide +kernel
theorem dX2_tellItem_109 : decode cX2_tellItem 109 = .ok (.ireturn, 1) := by decide +kernel
theorem dX2_tellItem_110 : decode cX2_tellItem 110 = .ok (.aload_n 1, 1) := by decide +kernel
theorem dX2_tellItem_111 : decode cX2_tellItem 111 = .ok (.aload_n 0, 1) := by decide +kernel
theorem dX2_tellItem_112 : decode cX2_tellItem 112 = .ok (.getfield 9, 3) := by decide +kernel
theorem dX2_tellItem_115 : decode cX2_tellItem 115 = .ok (.iconst 0, 1) := by decide +kernel
theorem dX2_tellItem_116 : decode cX2_tellItem 116 = .ok (.iaload, 1) := by decide +kernel
theorem dX2_tellItem_117 : decode cX2_tellItem 117 = .ok (.aload_n 0, 1) := by decide +kernel
theorem dX2_tellItem_118 : decode cX2_tellItem 118 = .ok (.getfield 9, 3) := by decide +kernel
theorem dX2_tellItem_121 : decode cX2_tellItem 121 = .ok (.iconst 1, 1) := by decide +kernel
theorem dX2_tellItem_122 : decode cX2_tellItem 122 = .ok (.iaload, 1) := by decide +kernel
theorem dX2_tellItem_123 : decode cX2_tellItem 123 = .ok (.aload_n 0, 1) := by decide +kernel
theorem dX2_tellItem_124 : decode cX2_tellItem 124 = .ok (.getfield 9, 3) := by decide +kernel
theorem dX2_tellItem_127 : decode cX2_tellItem 127 = .ok (.iconst 2, 1) := by decide +kernel
theorem dX2_tellItem_128 : decode cX2_tellItem 128 = .ok (.iaload, 1) := by decide +kernel
theorem dX2_tellItem_129 : decode cX2_tellItem 129 = .ok (.invokevirtual 62, 3) := by decide +kernel
theorem dX2_tellItem_132 : decode cX2_tellItem 132 = .ok (.ireturn, 1) := by decide +kernel
theorem dX2_tellItem_133 : decode cX2_tellItem 133 = .ok (.aload_n 1, 1) := by decide +kernel
theorem dX2_tellItem_134 : decode cX2_tellItem 134 = .ok (.aload_n 0, 1) := by decide +kernel
theorem dX2_tellItem_135 : decode cX2_tellItem 135 = .ok (.getfield 9, 3) := by decide +kernel
theorem dX2_tellItem_138 : decode cX2_tellItem 138 = .ok (.iconst 0, 1) := by decide +kernel
theorem dX2_tellItem_139 : decode cX2_tellItem 139 = .ok (.iaload, 1) := by decide +kernel
theorem dX2_tellItem_140 : decode cX2_tellItem 140 = .ok (.invokevirtual 66, 3) := by decide +kernel
theorem dX2_tellItem_143 : decode cX2_tellItem 143 = .ok (.ireturn, 1) := by decide +kernel
theorem dX2_tellItem_144 : decode cX2_tellItem 144 = .ok (.aload_n 1, 1) := by decide +kernel
theorem dX2_tellItem_145 : decode cX2_tellItem 145 = .ok (.aload_n 0, 1) := by decide +kernel
theorem dX2_tellItem_146 : decode cX2_tellItem 146 = .ok (.getfield 9, 3) := by decide +kernel
theorem dX2_tellItem_149 : decode cX2_tellItem 149 = .ok (.iconst 0, 1) := by decide +kernel
theorem dX2_tellItem_150 : decode cX2_tellItem 150 = .ok (.iaload, 1) := by decide +kernel
theorem dX2_tellItem_151 : decode cX2_tellItem 151 = .ok (.invokevirtual 70, 3) := by decide +kernel
theorem dX2_tellItem_154 : decode cX2_tellItem 154 = .ok (.ireturn, 1) := by decide +kernel
theorem dX2_tellItem_155 : decode cX2_tellItem 155 = .ok (.aload_n 1, 1) := by decide +kernel
theorem dX2_tellItem_156 : decode cX2_tellItem 156 = .ok (.aload_n 0, 1) := by decide +kernel
theorem dX2_tellItem_157 : decode cX2_tellItem 157 = .ok (.getfield 9, 3) := by decide +kernel
theorem dX2_tellItem_160 : decode cX2_tellItem 160 = .ok (.iconst 0, 1) := by decide +kernel
theorem dX2_tellItem_161 : decode cX2_tellItem 161 = .ok (.iaload, 1) := by decide +kernel
theorem dX2_tellItem_162 : decode cX2_tellItem 162 = .ok (.invokevirtual 73, 3) := by decide +kernel
theorem dX2_tellItem_165 : decode cX2_tellItem 165 = .ok (.ireturn, 1) := by decide +kernel
theorem dX2_tellItem_166 : decode cX2_tellItem 166 = .ok (.iconst 0, 1) := by decide +kernel
theorem dX2_tellItem_167 : decode cX2_tellItem 167 = .ok (.ireturn, 1) := by decide +kernel
theorem dX3_init_0 : decode cX3_init 0 = .ok (.aload_n 0, 1) := by decide +kernel
theorem dX3_init_1 : decode cX3_init 1 = .ok (.invokespecial 3, 3) := by decide +kernel
theorem dX3_init_4 : decode cX3_init 4 = .ok (.aload_n 0, 1) := by decide +kernel
theorem dX3_init_5 : decode cX3_init 5 = .ok (.bipush 49, 2) := by decide +kernel
theorem dX3_init_7 : decode cX3_init 7 = .ok (.newarray .int, 2) := by decide +kernel
theorem dX3_init_9 : decode cX3_init 9 = .ok (.putfield 9, 3) := by decide +kernel
theorem dX3_init_12 : decode cX3_init 12 = .ok (.aload_n 0, 1) := by decide +kernel
theorem dX3_init_13 : decode cX3_init 13 = .ok (.bipush 49, 2) := by decide +kernel
theorem dX3_init_15 : decode cX3_init 15 = .ok (.newarray .int, 2) := by decide +kernel
theorem dX3_init_17 : decode cX3_init 17 = .ok (.putfield 15, 3) := by decide +kernel
theorem dX3_init_20 : decode cX3_init 20 = .ok (.aload_n 0, 1) := by decide +kernel
theorem dX3_init_21 : decode cX3_init 21 = .ok (.sipush 196, 3) := by decide +kernel
theorem dX3_init_24 : decode cX3_init 24 = .ok (.newarray .int, 2) := by decide +kernel
theorem dX3_init_26 : decode cX3_init 26 = .ok (.putfield 18, 3) := by decide +kernel
theorem dX3_init_29 : decode cX3_init 29 = .ok (.aload_n 0, 1) := by decide +kernel
theorem dX3_init_30 : decode cX3_init 30 = .ok (.bipush 10, 2) := by decide +kernel
theorem dX3_init_32 : decode cX3_init 32 = .ok (.newarray .int, 2) := by decide +kernel
theorem dX3_init_34 : decode cX3_init 34 = .ok (.putfield 21, 3) := by decide +kernel
theorem dX3_init_37 : decode cX3_init 37 = .ok (.return_, 1) := by decide +kernel
set_option maxRecDepth 20000 in
theorem ggX3_reset_X3_tellSize : GoodIn wsX3_reset wsX3_tellSize := goodIn_r _ [10, 11, 12, 13, 14, 15, 9, 16, 21, 22, 23, 24, 25, 26, 27, 28, 29, 30] (by decide +kernel) (by decide +kernel)
set_option maxRecDepth 20000 in
theorem gX3_reset_X3_tellSize : GoodIn wsX3_reset (wsV RX3 24 RX3 yX3_tellSize wsX3_tellSize) := goodIn_app (goodIn_of _ (by decide +kernel)) ggX3_reset_X3_tellSize
set_option maxRecDepth 20000 in
theorem ggX3_reset_J7_fill_53178 : GoodIn wsX3_reset wsJ7_fill_53178 := goodIn_r _ [20] (by decide +kernel) (by decide +kernel)
set_option maxRecDepth 20000 in
theorem gX3_reset_J7_fill_53178 : GoodIn wsX3_reset (va_wsS RX3 28 yJ7_fill_53178 wsJ7_fill_53178) := goodIn_app (goodIn_of _ (by decide +kernel)) ggX3_reset_J7_fill_53178
theorem dX3_reset_0 : decode cX3_reset 0 = .ok (.aload_n 0, 1) := by decide +kernel
theorem dX3_reset_1 : decode cX3_reset 1 = .ok (.iconst 4, 1) := by decide +kernel
theorem dX3_reset_2 : decode cX3_reset 2 = .ok (.iconst 5, 1) := by decide +kernel
theorem dX3_reset_3 : decode cX3_reset 3 = .ok (.invokevirtual 24, 3) := by decide +kernel
theorem dX3_reset_6 : decode cX3_reset 6 = .ok (.pop, 1) := by decide +kernel
theorem dX3_reset_7 : decode cX3_reset 7 = .ok (.aload_n 0, 1) := by decide +kernel
theorem dX3_reset_8 : decode cX3_reset 8 = .ok (.getfield 9, 3) := by decide +kernel
theorem dX3_reset_11 : decode cX3_reset 11 = .ok (.iconst 0, 1) := by decide +kernel
theorem dX3_reset_12 : decode cX3_reset 12 = .ok (.invokestatic 28, 3) := by decide +kernel
theorem dX3_reset_15 : decode cX3_reset 15 = .ok (.aload_n 0, 1) := by decide +kernel
theorem dX3_reset_16 : decode cX3_reset 16 = .ok (.getfield 15, 3) := by decide +kernel
theorem dX3_reset_19 : decode cX3_reset 19 = .ok (.bipush (-4), 2) := by decide +kernel
theorem dX3_reset_21 : decode cX3_reset 21 = .ok (.invokestatic 28, 3) := by decide +kernel
theorem dX3_reset_24 : decode cX3_reset 24 = .ok (.aload_n 0, 1) := by decide +kernel
theorem dX3_reset_25 : decode cX3_reset 25 = .ok (.iconst 0, 1) := by decide +kernel
theorem dX3_reset_26 : decode cX3_reset 26 = .ok (.putfield 34, 3) := by decide +kernel
theorem dX3_reset_29 : decode cX3_reset 29 = .ok (.aload_n 0, 1) := by decide +kernel
theorem dX3_reset_30 : decode cX3_reset 30 = .ok (.iconst 3, 1) := by decide +kernel
theorem dX3_reset_31 : decode cX3_reset 31 = .ok (.putfield 38, 3) := by decide +kernel
theorem dX3_reset_34 : decode cX3_reset 34 = .ok (.aload_n 0, 1) := by decide +kernel
theorem dX3_reset_35 : decode cX3_reset 35 = .ok (.iconst 0, 1) := by decide +kernel
theorem dX3_reset_36 : decode cX3_reset 36 = .ok (.putfield 41, 3) := by decide +kernel
theorem dX3_reset_39 : decode cX3_reset 39 = .ok (.return_, 1) := by decide +kernel
set_option maxRecDepth 20000 in
theorem ggX3_tellSize_X3_isSide : GoodIn wsX3_tellSize wsX3_isSide := goodIn_r _ [7] (by decide +kernel) (by decide +kernel)
set_option maxRecDepth 20000 in
theorem gX3_tellSize_X3_isSide : GoodIn wsX3_tellSize (va_wsS RX3 44 yX3_isSide wsX3_isSide) := goodIn_app (goodIn_of _ (by decide +kernel)) ggX3_tellSize_X3_isSide
theorem dX3_tellSize_0 : decode cX3_tellSize 0 = .ok (.iload_n 1, 1) := by decide +kernel
theorem dX3_tellSize_1 : decode cX3_tellSize 1 = .ok (.invokestatic 44, 3) := by decide +kernel
theorem dX3_tellSize_4 : decode cX3_tellSize 4 = .ok (.ifCond .eq 10, 3) := by decide +kernel
theorem dX3_tellSize_7 : decode cX3_tellSize 7 = .ok (.iload_n 2, 1) := by decide +kernel
theorem dX3_tellSize_8 : decode cX3_tellSize 8 = .ok (.invokestatic 44, 3) := by decide +kernel
theorem dX3_tellSize_11 : decode cX3_tellSize 11 = .ok (.ifCond .ne 5, 3) := by decide +kernel
theorem dX3_tellSize_14 : decode cX3_tellSize 14 = .ok (.iconst 0, 1) := by decide +kernel
theorem dX3_tellSize_15 : decode cX3_tellSize 15 = .ok (.ireturn, 1) := by decide +kernel
theorem dX3_tellSize_16 : decode cX3_tellSize 16 = .ok (.aload_n 0, 1) := by decide +kernel
theorem dX3_tellSize_17 : decode cX3_tellSize 17 = .ok (.iload_n 1, 1) := by decide +kernel
theorem dX3_tellSize_18 : decode cX3_tellSize 18 = .ok (.putfield 48, 3) := by decide +kernel
theorem dX3_tellSize_21 : decode cX3_tellSize 21 = .ok (.aload_n 0, 1) := by decide +kernel
theorem dX3_tellSize_22 : decode cX3_tellSize 22 = .ok (.iload_n 2, 1) := by decide +kernel
theorem dX3_tellSize_23 : decode cX3_tellSize 23 = .ok (.putfield 51, 3) := by decide +kernel
theorem dX3_tellSize_26 : decode cX3_tellSize 26 = .ok (.aload_n 0, 1) := by decide +kernel
theorem dX3_tellSize_27 : decode cX3_tellSize 27 = .ok (.iload_n 1, 1) := by decide +kernel
theorem dX3_tellSize_28 : decode cX3_tellSize 28 = .ok (.iload_n 2, 1) := by decide +kernel
theorem dX3_tellSize_29 : decode cX3_tellSize 29 = .ok (.imul, 1) := by decide +kernel
theorem dX3_tellSize_30 : decode cX3_tellSize 30 = .ok (.putfield 54, 3) := by decide +kernel
theorem dX3_tellSize_33 : decode cX3_tellSize 33 = .ok (.iconst 1, 1) := by decide +kernel
theorem dX3_tellSize_34 : decode cX3_tellSize 34 = .ok (.ireturn, 1) := by decide +kernel
theorem dX3_isSide_0 : decode cX3_isSide 0 = .ok (.iload_n 0, 1) := by decide +kernel
theorem dX3_isSide_1 : decode cX3_isSide 1 = .ok (.iconst 2, 1) := by decide +kernel
theorem dX3_isSide_2 : decode cX3_isSide 2 = .ok (.if_icmp .lt 13, 3) := by decide +kernel
theorem dX3_isSide_5 : decode cX3_isSide 5 = .ok (.iload_n 0, 1) := by decide +kernel
theorem dX3_isSide_6 : decode cX3_isSide 6 = .ok (.bipush 7, 2) := by decide +kernel
theorem dX3_isSide_8 : decode cX3_isSide 8 = .ok (.if_icmp .gt 7, 3) := by decide +kernel
theorem dX3_isSide_11 : decode cX3_isSide 11 = .ok (.iconst 1, 1) := by decide +kernel
theorem dX3_isSide_12 : decode cX3_isSide 12 = .ok (.goto 4, 3) := by decide +kernel
theorem dX3_isSide_15 : decode cX3_isSide 15 = .ok (.iconst 0, 1) := by decide +kernel
theorem dX3_isSide_16 : decode cX3_isSide 16 = .ok (.ireturn, 1) := by decide +kernel
set_option maxRecDepth 20000 in
theorem ggX3_tellKind_X3_hasCell : GoodIn wsX3_tellKind wsX3_hasCell := goodIn_r _ [6, 7, 8, 9, 10, 11, 12, 13, 14, 15, 16, 17] (by decide +kernel) (by decide +kernel)
set_option maxRecDepth 20000 in
theorem gX3_tellKind_X3_hasCell : GoodIn wsX3_tellKind (wsV RX3 57 RX3 yX3_hasCell wsX3_hasCell) := goodIn_app (goodIn_of _ (by decide +kernel)) ggX3_tellKind_X3_hasCell
theorem dX3_tellKind_0 : decode cX3_tellKind 0 = .ok (.aload_n 0, 1) := by decide +kernel
theorem dX3_tellKind_1 : decode cX3_tellKind 1 = .ok (.iload_n 1, 1) := by decide +kernel
theorem dX3_tellKind_2 : decode cX3_tellKind 2 = .ok (.invokevirtual 57, 3) := by decide +kernel
theorem dX3_tellKind_5 : decode cX3_tellKind 5 = .ok (.ifCond .eq 12, 3) := by decide +kernel
theorem dX3_tellKind_8 : decode cX3_tellKind 8 = .ok (.iload_n 2, 1) := by decide +kernel
theorem dX3_tellKind_9 : decode cX3_tellKind 9 = .ok (.ifCond .lt 8, 3) := by decide +kernel
theorem dX3_tellKind_12 : decode cX3_tellKind 12 = .ok (.iload_n 2, 1) := by decide +kernel
theorem dX3_tellKind_13 : decode cX3_tellKind 13 = .ok (.iconst 4, 1) := by decide +kernel
theorem dX3_tellKind_14 : decode cX3_tellKind 14 = .ok (.if_icmp .lt 5, 3) := by decide +kernel
theorem dX3_tellKind_17 : decode cX3_tellKind 17 = .ok (.iconst 0, 1) := by decide +kernel
theorem dX3_tellKind_18 : decode cX3_tellKind 18 = .ok (.ireturn, 1) := by decide +kernel
theorem dX3_tellKind_19 : decode cX3_tellKind 19 = .ok (.aload_n 0, 1) := by decide +kernel
theorem dX3_tellKind_20 : decode cX3_tellKind 20 = .ok (.getfield 9, 3) := by decide +kernel
theorem dX3_tellKind_23 : decode cX3_tellKind 23 = .ok (.iload_n 1, 1) := by decide +kernel
theorem dX3_tellKind_24 : decode cX3_tellKind 24 = .ok (.iload_n 2, 1) := by decide +kernel
theorem dX3_tellKind_25 : decode cX3_tellKind 25 = .ok (.iastore, 1) := by decide +kernel
theorem dX3_tellKind_26 : decode cX3_tellKind 26 = .ok (.iconst 1, 1) := by decide +kernel
theorem dX3_tellKind_27 : decode cX3_tellKind 27 = .ok (.ireturn, 1) := by decide +kernel
set_option maxRecDepth 20000 in
theorem ggX3_tellMap_X7_isFamily : GoodIn wsX3_tellMap wsX7_isFamily := goodIn_r _ [5] (by decide +kernel) (by decide +kernel)
set_option maxRecDepth 20000 in
theorem gX3_tellMap_X7_isFamily_n60 : GoodIn wsX3_tellMap (wsX7_isFamily) := ggX3_tellMap_X7_isFamily
set_option maxRecDepth 20000 in
theorem ggX3_tellMap_X3_hasCell : GoodIn wsX3_tellMap wsX3_hasCell := goodIn_r _ [10, 1, 30, 31, 32, 33, 34, 35, 36, 37, 38, 39] (by decide +kernel) (by decide +kernel)
set_option maxRecDepth 20000 in
theorem gX3_tellMap_X3_hasCell : GoodIn wsX3_tellMap (wsV RX3 57 RX3 yX3_hasCell wsX3_hasCell) := goodIn_app (goodIn_of _ (by decide +kernel)) ggX3_tellMap_X3_hasCell
set_option maxRecDepth 20000 in
theorem ggX3_tellMap_X3_rowOf : GoodIn wsX3_tellMap wsX3_rowOf := goodIn_r _ [14, 15, 30, 31, 32, 33, 34, 35, 36, 37, 38, 39] (by decide +kernel) (by decide +kernel)
set_option maxRecDepth 20000 in
theorem gX3_tellMap_X3_rowOf : GoodIn wsX3_tellMap (wsV RX3 63 RX3 yX3_rowOf wsX3_rowOf) := goodIn_app (goodIn_of _ (by decide +kernel)) ggX3_tellMap_X3_rowOf
set_option maxRecDepth 20000 in
theorem ggX3_tellMap_X3_isBetween : GoodIn wsX3_tellMap wsX3_isBetween := goodIn_r _ [18, 19, 20, 21, 22, 23, 24, 25] (by decide +kernel) (by decide +kernel)
set_option maxRecDepth 20000 in
theorem gX3_tellMap_X3_isBetween : GoodIn wsX3_tellMap (va_wsS RX3 67 yX3_isBetween wsX3_isBetween) := goodIn_app (goodIn_of _ (by decide +kernel)) ggX3_tellMap_X3_isBetween
set_option maxRecDepth 20000 in
theorem ggX3_tellMap_X3_columnOf : GoodIn wsX3_tellMap wsX3_columnOf := goodIn_r _ [29, 15, 30, 31, 32, 33, 34, 35, 36, 37, 38, 39] (by decide +kernel) (by decide +kernel)
set_option maxRecDepth 20000 in
theorem gX3_tellMap_X3_columnOf : GoodIn wsX3_tellMap (wsV RX3 71 RX3 yX3_columnOf wsX3_columnOf) := goodIn_app (goodIn_of _ (by decide +kernel)) ggX3_tellMap_X3_columnOf
theorem dX3_tellMap_0 : decode cX3_tellMap 0 = .ok (.iload_n 1, 1) := by decide +kernel
theorem dX3_tellMap_1 : decode cX3_tellMap 1 = .ok (.invokestatic 60, 3) := by decide +kernel
theorem dX3_tellMap_4 : decode cX3_tellMap 4 = .ok (.ifCond .eq 19, 3) := by decide +kernel
theorem dX3_tellMap_7 : decode cX3_tellMap 7 = .ok (.aload_n 0, 1) := by decide +kernel
theorem dX3_tellMap_8 : decode cX3_tellMap 8 = .ok (.iload_n 2, 1) := by decide +kernel
theorem dX3_tellMap_9 : decode cX3_tellMap 9 = .ok (.invokevirtual 57, 3) := by decide +kernel
theorem dX3_tellMap_12 : decode cX3_tellMap 12 = .ok (.ifCond .eq 11, 3) := by decide +kernel
theorem dX3_tellMap_15 : decode cX3_tellMap 15 = .ok (.aload_n 0, 1) := by decide +kernel
theorem dX3_tellMap_16 : decode cX3_tellMap 16 = .ok (.iload_n 3, 1) := by decide +kernel
theorem dX3_tellMap_17 : decode cX3_tellMap 17 = .ok (.invokevirtual 57, 3) := by decide +kernel
theorem dX3_tellMap_20 : decode cX3_tellMap 20 = .ok (.ifCond .ne 5, 3) := by decide +kernel
theorem dX3_tellMap_23 : decode cX3_tellMap 23 = .ok (.iconst 0, 1) := by decide +kernel
theorem dX3_tellMap_24 : decode cX3_tellMap 24 = .ok (.ireturn, 1) := by decide +kernel
theorem dX3_tellMap_25 : decode cX3_tellMap 25 = .ok (.iconst 0, 1) := by decide +kernel
theorem dX3_tellMap_26 : decode cX3_tellMap 26 = .ok (.istore 4, 2) := by decide +kernel
theorem dX3_tellMap_28 : decode cX3_tellMap 28 = .ok (.iload 4, 2) := by decide +kernel
theorem dX3_tellMap_30 : decode cX3_tellMap 30 = .ok (.aload_n 0, 1) := by decide +kernel
theorem dX3_tellMap_31 : decode cX3_tellMap 31 = .ok (.getfield 54, 3) := by decide +kernel
theorem dX3_tellMap_34 : decode cX3_tellMap 34 = .ok (.if_icmp .ge 61, 3) := by decide +kernel
theorem dX3_tellMap_37 : decode cX3_tellMap 37 = .ok (.aload_n 0, 1) := by decide +kernel
theorem dX3_tellMap_38 : decode cX3_tellMap 38 = .ok (.iload_n 2, 1) := by decide +kernel
theorem dX3_tellMap_39 : decode cX3_tellMap 39 = .ok (.invokevirtual 63, 3) := by decide +kernel
theorem dX3_tellMap_42 : decode cX3_tellMap 42 = .ok (.aload_n 0, 1) := by decide +kernel
theorem dX3_tellMap_43 : decode cX3_tellMap 43 = .ok (.iload 4, 2) := by decide +kernel
theorem dX3_tellMap_45 : decode cX3_tellMap 45 = .ok (.invokevirtual 63, 3) := by decide +kernel
theorem dX3_tellMap_48 : decode cX3_tellMap 48 = .ok (.aload_n 0, 1) := by decide +kernel
theorem dX3_tellMap_49 : decode cX3_tellMap 49 = .ok (.iload_n 3, 1) := by decide +kernel
theorem dX3_tellMap_50 : decode cX3_tellMap 50 = .ok (.invokevirtual 63, 3) := by decide +kernel
theorem dX3_tellMap_53 : decode cX3_tellMap 53 = .ok (.invokestatic 67, 3) := by decide +kernel
theorem dX3_tellMap_56 : decode cX3_tellMap 56 = .ok (.ifCond .eq 33, 3) := by decide +kernel
theorem dX3_tellMap_59 : decode cX3_tellMap 59 = .ok (.aload_n 0, 1) := by decide +kernel
theorem dX3_tellMap_60 : decode cX3_tellMap 60 = .ok (.iload_n 2, 1) := by decide +kernel
theorem dX3_tellMap_61 : decode cX3_tellMap 61 = .ok (.invokevirtual 71, 3) := by decide +kernel
theorem dX3_tellMap_64 : decode cX3_tellMap 64 = .ok (.aload_n 0, 1) := by decide +kernel
theorem dX3_tellMap_65 : decode cX3_tellMap 65 = .ok (.iload 4, 2) := by decide +kernel
theorem dX3_tellMap_67 : decode cX3_tellMap 67 = .ok (.invokevirtual 71, 3) := by decide +kernel
theorem dX3_tellMap_70 : decode cX3_tellMap 70 = .ok (.aload_n 0, 1) := by decide +kernel
theorem dX3_tellMap_71 : decode cX3_tellMap 71 = .ok (.iload_n 3, 1) := by decide +kernel
theorem dX3_tellMap_72 : decode cX3_tellMap 72 = .ok (.invokevirtual 71, 3) := by decide +kernel
theorem dX3_tellMap_75 : decode cX3_tellMap 75 = .ok (.invokestatic 67, 3) := by decide +kernel
theorem dX3_tellMap_78 : decode cX3_tellMap 78 = .ok (.ifCond .eq 11, 3) := by decide +kernel
theorem dX3_tellMap_81 : decode cX3_tellMap 81 = .ok (.aload_n 0, 1) := by decide +kernel
theorem dX3_tellMap_82 : decode cX3_tellMap 82 = .ok (.getfield 15, 3) := by decide +kernel
theorem dX3_tellMap_85 : decode cX3_tellMap 85 = .ok (.iload 4, 2) := by decide +kernel
theorem dX3_tellMap_87 : decode cX3_tellMap 87 = .ok (.iload_n 1, 1) := by decide +kernel
theorem dX3_tellMap_88 : decode cX3_tellMap 88 = .ok (.iastore, 1) := by decide +kernel
theorem dX3_tellMap_89 : decode cX3_tellMap 89 = .ok (.iinc 4 1, 3) := by decide +kernel
theorem dX3_tellMap_92 : decode cX3_tellMap 92 = .ok (.goto (-64), 3) := by decide +kernel
theorem dX3_tellMap_95 : decode cX3_tellMap 95 = .ok (.iconst 1, 1) := by decide +kernel
theorem dX3_tellMap_96 : decode cX3_tellMap 96 = .ok (.ireturn, 1) := by decide +kernel
theorem dX3_isBetween_0 : decode cX3_isBetween 0 = .ok (.iload_n 1, 1) := by decide +kernel
theorem dX3_isBetween_1 : decode cX3_isBetween 1 = .ok (.iload_n 0, 1) := by decide +kernel
theorem dX3_isBetween_2 : decode cX3_isBetween 2 = .ok (.iload_n 2, 1) := by decide +kernel
theorem dX3_isBetween_3 : decode cX3_isBetween 3 = .ok (.invokestatic 74, 3) := by decide +kernel
theorem dX3_isBetween_6 : decode cX3_isBetween 6 = .ok (.if_icmp .lt 16, 3) := by decide +kernel
theorem dX3_isBetween_9 : decode cX3_isBetween 9 = .ok (.iload_n 1, 1) := by decide +kernel
theorem dX3_isBetween_10 : decode cX3_isBetween 10 = .ok (.iload_n 0, 1) := by decide +kernel
theorem dX3_isBetween_11 : decode cX3_isBetween 11 = .ok (.iload_n 2, 1) := by decide +kernel
theorem dX3_isBetween_12 : decode cX3_isBetween 12 = .ok (.invokestatic 80, 3) := by decide +kernel
theorem dX3_isBetween_15 : decode cX3_isBetween 15 = .ok (.if_icmp .gt 7, 3) := by decide +kernel
theorem dX3_isBetween_18 : decode cX3_isBetween 18 = .ok (.iconst 1, 1) := by decide +kernel
theorem dX3_isBetween_19 : decode cX3_isBetween 19 = .ok (.goto 4, 3) := by decide +kernel
theorem dX3_isBetween_22 : decode cX3_isBetween 22 = .ok (.iconst 0, 1) := by decide +kernel
theorem dX3_isBetween_23 : decode cX3_isBetween 23 = .ok (.ireturn, 1) := by decide +kernel
theorem dX3_tellStart_0 : decode cX3_tellStart 0 = .ok (.iload_n 1, 1) := by decide +kernel
theorem dX3_tellStart_1 : decode cX3_tellStart 1 = .ok (.ifCond .lt 9, 3) := by decide +kernel
theorem dX3_tellStart_4 : decode cX3_tellStart 4 = .ok (.iload_n 1, 1) := by decide +kernel
theorem dX3_tellStart_5 : decode cX3_tellStart 5 = .ok (.bipush 40, 2) := by decide +kernel
theorem dX3_tellStart_7 : decode cX3_tellStart 7 = .ok (.if_icmp .le 5, 3) := by decide +kernel
theorem dX3_tellStart_10 : decode cX3_tellStart 10 = .ok (.iconst 0, 1) := by decide +kernel
theorem dX3_tellStart_11 : decode cX3_tellStart 11 = .ok (.ireturn, 1) := by decide +kernel
theorem dX3_tellStart_12 : decode cX3_tellStart 12 = .ok (.aload_n 0, 1) := by decide +kernel
theorem dX3_tellStart_13 : decode cX3_tellStart 13 = .ok (.iload_n 1, 1) := by decide +kernel
theorem dX3_tellStart_14 : decode cX3_tellStart 14 = .ok (.putfield 38, 3) := by decide +kernel
theorem dX3_tellStart_17 : decode cX3_tellStart 17 = .ok (.iconst 1, 1) := by decide +kernel
theorem dX3_tellStart_18 : decode cX3_tellStart 18 = .ok (.ireturn, 1) := by decide +kernel
theorem dX3_tellCold_0 : decode cX3_tellCold 0 = .ok (.iload_n 1, 1) := by decide +kernel
theorem dX3_tellCold_1 : decode cX3_tellCold 1 = .ok (.ifCond .lt 25, 3) := by decide +kernel
theorem dX3_tellCold_4 : decode cX3_tellCold 4 = .ok (.iload_n 1, 1) := by decide +kernel
theorem dX3_tellCold_5 : decode cX3_tellCold 5 = .ok (.bipush 40, 2) := by decide +kernel
theorem dX3_tellCold_7 : decode cX3_tellCold 7 = .ok (.if_icmp .gt 19, 3) := by decide +kernel
theorem dX3_tellCold_10 : decode cX3_tellCold 10 = .ok (.aload_n 0, 1) := by decide +kernel
theorem dX3_tellCold_11 : decode cX3_tellCold 11 = .ok (.getfield 34, 3) := by decide +kernel
theorem dX3_tellCold_14 : decode cX3_tellCold 14 = .ok (.ifCond .lt 12, 3) := by decide +kernel
theorem dX3_tellCold_17 : decode cX3_tellCold 17 = .ok (.aload_n 0, 1) := by decide +kernel
theorem dX3_tellCold_18 : decode cX3_tellCold 18 = .ok (.getfield 34, 3) := by decide +kernel
theorem dX3_tellCold_21 : decode cX3_tellCold 21 = .ok (.bipush 10, 2) := by decide +kernel
theorem dX3_tellCold_23 : decode cX3_tellCold 23 = .ok (.if_icmp .lt 5, 3) := by decide +kernel
theorem dX3_tellCold_26 : decode cX3_tellCold 26 = .ok (.iconst 0, 1) := by decide +kernel
theorem dX3_tellCold_27 : decode cX3_tellCold 27 = .ok (.ireturn, 1) := by decide +kernel
theorem dX3_tellCold_28 : decode cX3_tellCold 28 = .ok (.aload_n 0, 1) := by decide +kernel
theorem dX3_tellCold_29 : decode cX3_tellCold 29 = .ok (.getfield 21, 3) := by decide +kernel
theorem dX3_tellCold_32 : decode cX3_tellCold 32 = .ok (.aload_n 0, 1) := by decide +kernel
theorem dX3_tellCold_33 : decode cX3_tellCold 33 = .ok (.getfield 34, 3) := by decide +kernel
theorem dX3_tellCold_36 : decode cX3_tellCold 36 = .ok (.iload_n 1, 1) := by decide +kernel
theorem dX3_tellCold_37 : decode cX3_tellCold 37 = .ok (.bipush 20, 2) := by decide +kernel
theorem dX3_tellCold_39 : decode cX3_tellCold 39 = .ok (.isub, 1) := by decide +kernel
theorem dX3_tellCold_40 : decode cX3_tellCold 40 = .ok (.iastore, 1) := by decide +kernel
theorem dX3_tellCold_41 : decode cX3_tellCold 41 = .ok (.aload_n 0, 1) := by decide +kernel
theorem dX3_tellCold_42 : decode cX3_tellCold 42 = .ok (.dup, 1) := by decide +kernel
theorem dX3_tellCold_43 : decode cX3_tellCold 43 = .ok (.getfield 34, 3) := by decide +kernel
theorem dX3_tellCold_46 : decode cX3_tellCold 46 = .ok (.iconst 1, 1) := by decide +kernel
theorem dX3_tellCold_47 : decode cX3_tellCold 47 = .ok (.iadd, 1) := by decide +kernel
theorem dX3_tellCold_48 : decode cX3_tellCold 48 = .ok (.putfield 34, 3) := by decide +kernel
theorem dX3_tellCold_51 : decode cX3_tellCold 51 = .ok (.iconst 1, 1) := by decide +kernel
theorem dX3_tellCold_52 : decode cX3_tellCold 52 = .ok (.ireturn, 1) := by decide +kernel
theorem dX3_tellLaw_0 : decode cX3_tellLaw 0 = .ok (.iload_n 1, 1) := by decide +kernel
theorem dX3_tellLaw_1 : decode cX3_tellLaw 1 = .ok (.ifCond .lt 8, 3) := by decide +kernel
theorem dX3_tellLaw_4 : decode cX3_tellLaw 4 = .ok (.iload_n 1, 1) := by decide +kernel
theorem dX3_tellLaw_5 : decode cX3_tellLaw 5 = .ok (.iconst 3, 1) := by decide +kernel
theorem dX3_tellLaw_6 : decode cX3_tellLaw 6 = .ok (.if_icmp .lt 5, 3) := by decide +kernel
theorem dX3_tellLaw_9 : decode cX3_tellLaw 9 = .ok (.iconst 0, 1) := by decide +kernel
theorem dX3_tellLaw_10 : decode cX3_tellLaw 10 = .ok (.ireturn, 1) := by decide +kernel
theorem dX3_tellLaw_11 : decode cX3_tellLaw 11 = .ok (.aload_n 0, 1) := by decide +kernel
theorem dX3_tellLaw_12 : decode cX3_tellLaw 12 = .ok (.iload_n 1, 1) := by decide +kernel
theorem dX3_tellLaw_13 : decode cX3_tellLaw 13 = .ok (.putfield 41, 3) := by decide +kernel
theorem dX3_tellLaw_16 : decode cX3_tellLaw 16 = .ok (.iconst 1, 1) := by decide +kernel
theorem dX3_tellLaw_17 : decode cX3_tellLaw 17 = .ok (.ireturn, 1) := by decide +kernel
set_option maxRecDepth 20000 in
theorem ggX3_linkCells_X3_rowOf : GoodIn wsX3_linkCells wsX3_rowOf := goodIn_r _ [9, 3, 14, 15, 16, 17, 18, 19, 20, 21, 22, 23] (by decide +kernel) (by decide +kernel)
set_option maxRecDepth 20000 in
theorem gX3_linkCells_X3_rowOf : GoodIn wsX3_linkCells (wsV RX3 63 RX3 yX3_rowOf wsX3_rowOf) := goodIn_app (goodIn_of _ (by decide +kernel)) ggX3_linkCells_X3_rowOf
set_option maxRecDepth 20000 in
theorem ggX3_linkCells_X3_columnOf : GoodIn wsX3_linkCells wsX3_columnOf := goodIn_r _ [13, 3, 14, 15, 16, 17, 18, 19, 20, 21, 22, 23] (by decide +kernel) (by decide +kernel)
set_option maxRecDepth 20000 in
theorem gX3_linkCells_X3_columnOf : GoodIn wsX3_linkCells (wsV RX3 71 RX3 yX3_columnOf wsX3_columnOf) := goodIn_app (goodIn_of _ (by decide +kernel)) ggX3_linkCells_X3_columnOf
theorem dX3_linkCells_0 : decode cX3_linkCells 0 = .ok (.iconst 0, 1) := by decide +kernel
theorem dX3_linkCells_1 : decode cX3_linkCells 1 = .ok (.istore_n 1, 1) := by decide +kernel
theorem dX3_linkCells_2 : decode cX3_linkCells 2 = .ok (.iload_n 1, 1) := by decide +kernel
theorem dX3_linkCells_3 : decode cX3_linkCells 3 = .ok (.aload_n 0, 1) := by decide +kernel
theorem dX3_linkCells_4 : decode cX3_linkCells 4 = .ok (.getfield 54, 3) := by decide +kernel
theorem dX3_linkCells_7 : decode cX3_linkCells 7 = .ok (.if_icmp .ge 124, 3) := by decide +kernel
theorem dX3_linkCells_10 : decode cX3_linkCells 10 = .ok (.iload_n 1, 1) := by decide +kernel
theorem dX3_linkCells_11 : decode cX3_linkCells 11 = .ok (.iconst 4, 1) := by decide +kernel
theorem dX3_linkCells_12 : decode cX3_linkCells 12 = .ok (.imul, 1) := by decide +kernel
theorem dX3_linkCells_13 : decode cX3_linkCells 13 = .ok (.istore_n 2, 1) := by decide +kernel
theorem dX3_linkCells_14 : decode cX3_linkCells 14 = .ok (.aload_n 0, 1) := by decide +kernel
theorem dX3_linkCells_15 : decode cX3_linkCells 15 = .ok (.iload_n 1, 1) := by decide +kernel
theorem dX3_linkCells_16 : decode cX3_linkCells 16 = .ok (.invokevirtual 63, 3) := by decide +kernel
theorem dX3_linkCells_19 : decode cX3_linkCells 19 = .ok (.istore_n 3, 1) := by decide +kernel
theorem dX3_linkCells_20 : decode cX3_linkCells 20 = .ok (.aload_n 0, 1) := by decide +kernel
theorem dX3_linkCells_21 : decode cX3_linkCells 21 = .ok (.iload_n 1, 1) := by decide +kernel
theorem dX3_linkCells_22 : decode cX3_linkCells 22 = .ok (.invokevirtual 71, 3) := by decide +kernel
theorem dX3_linkCells_25 : decode cX3_linkCells 25 = .ok (.istore 4, 2) := by decide +kernel
theorem dX3_linkCells_27 : decode cX3_linkCells 27 = .ok (.aload_n 0, 1) := by decide +kernel
theorem dX3_linkCells_28 : decode cX3_linkCells 28 = .ok (.getfield 18, 3) := by decide +kernel
theorem dX3_linkCells_31 : decode cX3_linkCells 31 = .ok (.iload_n 2, 1) := by decide +kernel
theorem dX3_linkCells_32 : decode cX3_linkCells 32 = .ok (.iload_n 3, 1) := by decide +kernel
theorem dX3_linkCells_33 : decode cX3_linkCells 33 = .ok (.ifCond .le 12, 3) := by decide +kernel
theorem dX3_linkCells_36 : decode cX3_linkCells 36 = .ok (.iload_n 1, 1) := by decide +kernel
theorem dX3_linkCells_37 : decode cX3_linkCells 37 = .ok (.aload_n 0, 1) := by decide +kernel
theorem dX3_linkCells_38 : decode cX3_linkCells 38 = .ok (.getfield 51, 3) := by decide +kernel
theorem dX3_linkCells_41 : decode cX3_linkCells 41 = .ok (.isub, 1) := by decide +kernel
theorem dX3_linkCells_42 : decode cX3_linkCells 42 = .ok (.goto 5, 3) := by decide +kernel
theorem dX3_linkCells_45 : decode cX3_linkCells 45 = .ok (.bipush (-4), 2) := by decide +kernel
theorem dX3_linkCells_47 : decode cX3_linkCells 47 = .ok (.iastore, 1) := by decide +kernel
theorem dX3_linkCells_48 : decode cX3_linkCells 48 = .ok (.aload_n 0, 1) := by decide +kernel
theorem dX3_linkCells_49 : decode cX3_linkCells 49 = .ok (.getfield 18, 3) := by decide +kernel
theorem dX3_linkCells_52 : decode cX3_linkCells 52 = .ok (.iload_n 2, 1) := by decide +kernel
theorem dX3_linkCells_53 : decode cX3_linkCells 53 = .ok (.iconst 1, 1) := by decide +kernel
theorem dX3_linkCells_54 : decode cX3_linkCells 54 = .ok (.iadd, 1) := by decide +kernel
theorem dX3_linkCells_55 : decode cX3_linkCells 55 = .ok (.iload_n 3, 1) := by decide +kernel
theorem dX3_linkCells_56 : decode cX3_linkCells 56 = .ok (.aload_n 0, 1) := by decide +kernel
theorem dX3_linkCells_57 : decode cX3_linkCells 57 = .ok (.getfield 48, 3) := by decide +kernel
theorem dX3_linkCells_60 : decode cX3_linkCells 60 = .ok (.iconst 1, 1) := by decide +kernel
theorem dX3_linkCells_61 : decode cX3_linkCells 61 = .ok (.isub, 1) := by decide +kernel
theorem dX3_linkCells_62 : decode cX3_linkCells 62 = .ok (.if_icmp .ge 12, 3) := by decide +kernel
theorem dX3_linkCells_65 : decode cX3_linkCells 65 = .ok (.iload_n 1, 1) := by decide +kernel
theorem dX3_linkCells_66 : decode cX3_linkCells 66 = .ok (.aload_n 0, 1) := by decide +kernel
theorem dX3_linkCells_67 : decode cX3_linkCells 67 = .ok (.getfield 51, 3) := by decide +kernel
theorem dX3_linkCells_70 : decode cX3_linkCells 70 = .ok (.iadd, 1) := by decide +kernel
theorem dX3_linkCells_71 : decode cX3_linkCells 71 = .ok (.goto 5, 3) := by decide +kernel
theorem dX3_linkCells_74 : decode cX3_linkCells 74 = .ok (.bipush (-4), 2) := by decide +kernel
theorem dX3_linkCells_76 : decode cX3_linkCells 76 = .ok (.iastore, 1) := by decide +kernel
theorem dX3_linkCells_77 : decode cX3_linkCells 77 = .ok (.aload_n 0, 1) := by decide +kernel
theorem dX3_linkCells_78 : decode cX3_linkCells 78 = .ok (.getfield 18, 3) := by decide +kernel
theorem dX3_linkCells_81 : decode cX3_linkCells 81 = .ok (.iload_n 2, 1) := by decide +kernel
theorem dX3_linkCells_82 : decode cX3_linkCells 82 = .ok (.iconst 2, 1) := by decide +kernel
theorem dX3_linkCells_83 : decode cX3_linkCells 83 = .ok (.iadd, 1) := by decide +kernel
theorem dX3_linkCells_84 : decode cX3_linkCells 84 = .ok (.iload 4, 2) := by decide +kernel
theorem dX3_linkCells_86 : decode cX3_linkCells 86 = .ok (.ifCond .le 9, 3) := by decide +kernel
theorem dX3_linkCells_89 : decode cX3_linkCells 89 = .ok (.iload_n 1, 1) := by decide +kernel
theorem dX3_linkCells_90 : decode cX3_linkCells 90 = .ok (.iconst 1, 1) := by decide +kernel
theorem dX3_linkCells_91 : decode cX3_linkCells 91 = .ok (.isub, 1) := by decide +kernel
theorem dX3_linkCells_92 : decode cX3_linkCells 92 = .ok (.goto 5, 3) := by decide +kernel
theorem dX3_linkCells_95 : decode cX3_linkCells 95 = .ok (.bipush (-4), 2) := by decide +kernel
theorem dX3_linkCells_97 : decode cX3_linkCells 97 = .ok (.iastore, 1) := by decide +kernel
theorem dX3_linkCells_98 : decode cX3_linkCells 98 = .ok (.aload_n 0, 1) := by decide +kernel
theorem dX3_linkCells_99 : decode cX3_linkCells 99 = .ok (.getfield 18, 3) := by decide +kernel
theorem dX3_linkCells_102 : decode cX3_linkCells 102 = .ok (.iload_n 2, 1) := by decide +kernel
theorem dX3_linkCells_103 : decode cX3_linkCells 103 = .ok (.iconst 3, 1) := by decide +kernel
theorem dX3_linkCells_104 : decode cX3_linkCells 104 = .ok (.iadd, 1) := by decide +kernel
theorem dX3_linkCells_105 : decode cX3_linkCells 105 = .ok (.iload 4, 2) := by decide +kernel
theorem dX3_linkCells_107 : decode cX3_linkCells 107 = .ok (.aload_n 0, 1) := by decide +kernel
theorem dX3_linkCells_108 : decode cX3_linkCells 108 = .ok (.getfield 51, 3) := by decide +kernel
theorem dX3_linkCells_111 : decode cX3_linkCells 111 = .ok (.iconst 1, 1) := by decide +kernel
theorem dX3_linkCells_112 : decode cX3_linkCells 112 = .ok (.isub, 1) := by decide +kernel
theorem dX3_linkCells_113 : decode cX3_linkCells 113 = .ok (.if_icmp .ge 9, 3) := by decide +kernel
theorem dX3_linkCells_116 : decode cX3_linkCells 116 = .ok (.iload_n 1, 1) := by decide +kernel
theorem dX3_linkCells_117 : decode cX3_linkCells 117 = .ok (.iconst 1, 1) := by decide +kernel
theorem dX3_linkCells_118 : decode cX3_linkCells 118 = .ok (.iadd, 1) := by decide +kernel
theorem dX3_linkCells_119 : decode cX3_linkCells 119 = .ok (.goto 5, 3) := by decide +kernel
theorem dX3_linkCells_122 : decode cX3_linkCells 122 = .ok (.bipush (-4), 2) := by decide +kernel
theorem dX3_linkCells_124 : decode cX3_linkCells 124 = .ok (.iastore, 1) := by decide +kernel
theorem dX3_linkCells_125 : decode cX3_linkCells 125 = .ok (.iinc 1 1, 3) := by decide +kernel
theorem dX3_linkCells_128 : decode cX3_linkCells 128 = .ok (.goto (-126), 3) := by decide +kernel
theorem dX3_linkCells_131 : decode cX3_linkCells 131 = .ok (.return_, 1) := by decide +kernel
theorem dX3_rowOf_0 : decode cX3_rowOf 0 = .ok (.aload_n 0, 1) := by decide +kernel
theorem dX3_rowOf_1 : decode cX3_rowOf 1 = .ok (.getfield 51, 3) := by decide +kernel
theorem dX3_rowOf_4 : decode cX3_rowOf 4 = .ok (.ifCond .le 12, 3) := by decide +kernel
theorem dX3_rowOf_7 : decode cX3_rowOf 7 = .ok (.iload_n 1, 1) := by decide +kernel
theorem dX3_rowOf_8 : decode cX3_rowOf 8 = .ok (.aload_n 0, 1) := by decide +kernel
theorem dX3_rowOf_9 : decode cX3_rowOf 9 = .ok (.getfield 51, 3) := by decide +kernel
theorem dX3_rowOf_12 : decode cX3_rowOf 12 = .ok (.idiv, 1) := by decide +kernel
theorem dX3_rowOf_13 : decode cX3_rowOf 13 = .ok (.goto 4, 3) := by decide +kernel
theorem dX3_rowOf_16 : decode cX3_rowOf 16 = .ok (.iconst 0, 1) := by decide +kernel
theorem dX3_rowOf_17 : decode cX3_rowOf 17 = .ok (.ireturn, 1) := by decide +kernel
theorem dX3_columnOf_0 : decode cX3_columnOf 0 = .ok (.aload_n 0, 1) := by decide +kernel
theorem dX3_columnOf_1 : decode cX3_columnOf 1 = .ok (.getfield 51, 3) := by decide +kernel
theorem dX3_columnOf_4 : decode cX3_columnOf 4 = .ok (.ifCond .le 12, 3) := by decide +kernel
theorem dX3_columnOf_7 : decode cX3_columnOf 7 = .ok (.iload_n 1, 1) := by decide +kernel
theorem dX3_columnOf_8 : decode cX3_columnOf 8 = .ok (.aload_n 0, 1) := by decide +kernel
theorem dX3_columnOf_9 : decode cX3_columnOf 9 = .ok (.getfield 51, 3) := by decide +kernel
theorem dX3_columnOf_12 : decode cX3_columnOf 12 = .ok (.irem, 1) := by decide +kernel
theorem dX3_columnOf_13 : decode cX3_columnOf 13 = .ok (.goto 4, 3) := by decide +kernel
theorem dX3_columnOf_16 : decode cX3_columnOf 16 = .ok (.iconst 0, 1) := by decide +kernel
theorem dX3_columnOf_17 : decode cX3_columnOf 17 = .ok (.ireturn, 1) := by decide +kernel
theorem dX3_hasCell_0 : decode cX3_hasCell 0 = .ok (.iload_n 1, 1) := by decide +kernel
theorem dX3_hasCell_1 : decode cX3_hasCell 1 = .ok (.ifCond .lt 21, 3) := by decide +kernel
theorem dX3_hasCell_4 : decode cX3_hasCell 4 = .ok (.iload_n 1, 1) := by decide +kernel
theorem dX3_hasCell_5 : decode cX3_hasCell 5 = .ok (.aload_n 0, 1) := by decide +kernel
theorem dX3_hasCell_6 : decode cX3_hasCell 6 = .ok (.getfield 54, 3) := by decide +kernel
theorem dX3_hasCell_9 : decode cX3_hasCell 9 = .ok (.if_icmp .ge 13, 3) := by decide +kernel
theorem dX3_hasCell_12 : decode cX3_hasCell 12 = .ok (.iload_n 1, 1) := by decide +kernel
theorem dX3_hasCell_13 : decode cX3_hasCell 13 = .ok (.bipush 49, 2) := by decide +kernel
theorem dX3_hasCell_15 : decode cX3_hasCell 15 = .ok (.if_icmp .ge 7, 3) := by decide +kernel
theorem dX3_hasCell_18 : decode cX3_hasCell 18 = .ok (.iconst 1, 1) := by decide +kernel
theorem dX3_hasCell_19 : decode cX3_hasCell 19 = .ok (.goto 4, 3) := by decide +kernel
theorem dX3_hasCell_22 : decode cX3_hasCell 22 = .ok (.iconst 0, 1) := by decide +kernel
theorem dX3_hasCell_23 : decode cX3_hasCell 23 = .ok (.ireturn, 1) := by decide +kernel
set_option maxRecDepth 20000 in
theorem ggX3_cellBeside_X3_hasCell : GoodIn wsX3_cellBeside wsX3_hasCell := goodIn_r _ [6, 7, 8, 9, 10, 11, 12, 13, 14, 15, 16, 17] (by decide +kernel) (by decide +kernel)
set_option maxRecDepth 20000 in
theorem gX3_cellBeside_X3_hasCell : GoodIn wsX3_cellBeside (wsV RX3 57 RX3 yX3_hasCell wsX3_hasCell) := goodIn_app (goodIn_of _ (by decide +kernel)) ggX3_cellBeside_X3_hasCell
theorem dX3_cellBeside_0 : decode cX3_cellBeside 0 = .ok (.aload_n 0, 1) := by decide +kernel
theorem dX3_cellBeside_1 : decode cX3_cellBeside 1 = .ok (.iload_n 1, 1) := by decide +kernel
theorem dX3_cellBeside_2 : decode cX3_cellBeside 2 = .ok (.invokevirtual 57, 3) := by decide +kernel
theorem dX3_cellBeside_5 : decode cX3_cellBeside 5 = .ok (.ifCond .eq 12, 3) := by decide +kernel
theorem dX3_cellBeside_8 : decode cX3_cellBeside 8 = .ok (.iload_n 2, 1) := by decide +kernel
theorem dX3_cellBeside_9 : decode cX3_cellBeside 9 = .ok (.ifCond .lt 8, 3) := by decide +kernel
theorem dX3_cellBeside_12 : decode cX3_cellBeside 12 = .ok (.iload_n 2, 1) := by decide +kernel
theorem dX3_cellBeside_13 : decode cX3_cellBeside 13 = .ok (.iconst 4, 1) := by decide +kernel
theorem dX3_cellBeside_14 : decode cX3_cellBeside 14 = .ok (.if_icmp .lt 6, 3) := by decide +kernel
theorem dX3_cellBeside_17 : decode cX3_cellBeside 17 = .ok (.bipush (-4), 2) := by decide +kernel
theorem dX3_cellBeside_19 : decode cX3_cellBeside 19 = .ok (.ireturn, 1) := by decide +kernel
theorem dX3_cellBeside_20 : decode cX3_cellBeside 20 = .ok (.aload_n 0, 1) := by decide +kernel
theorem dX3_cellBeside_21 : decode cX3_cellBeside 21 = .ok (.getfield 18, 3) := by decide +kernel
theorem dX3_cellBeside_24 : decode cX3_cellBeside 24 = .ok (.iload_n 1, 1) := by decide +kernel
theorem dX3_cellBeside_25 : decode cX3_cellBeside 25 = .ok (.iconst 4, 1) := by decide +kernel
theorem dX3_cellBeside_26 : decode cX3_cellBeside 26 = .ok (.imul, 1) := by decide +kernel
theorem dX3_cellBeside_27 : decode cX3_cellBeside 27 = .ok (.iload_n 2, 1) := by decide +kernel
theorem dX3_cellBeside_28 : decode cX3_cellBeside 28 = .ok (.iadd, 1) := by decide +kernel
theorem dX3_cellBeside_29 : decode cX3_cellBeside 29 = .ok (.iaload, 1) := by decide +kernel
theorem dX3_cellBeside_30 : decode cX3_cellBeside 30 = .ok (.istore_n 3, 1) := by decide +kernel
theorem dX3_cellBeside_31 : decode cX3_cellBeside 31 = .ok (.aload_n 0, 1) := by decide +kernel
theorem dX3_cellBeside_32 : decode cX3_cellBeside 32 = .ok (.iload_n 3, 1) := by decide +kernel
theorem dX3_cellBeside_33 : decode cX3_cellBeside 33 = .ok (.invokevirtual 57, 3) := by decide +kernel
theorem dX3_cellBeside_36 : decode cX3_cellBeside 36 = .ok (.ifCond .eq 7, 3) := by decide +kernel
theorem dX3_cellBeside_39 : decode cX3_cellBeside 39 = .ok (.iload_n 3, 1) := by decide +kernel
theorem dX3_cellBeside_40 : decode cX3_cellBeside 40 = .ok (.goto 5, 3) := by decide +kernel
theorem dX3_cellBeside_43 : decode cX3_cellBeside 43 = .ok (.bipush (-4), 2) := by decide +kernel
theorem dX3_cellBeside_45 : decode cX3_cellBeside 45 = .ok (.ireturn, 1) := by decide +kernel
set_option maxRecDepth 20000 in
theorem ggX3_coldOn_J9_floorMod_7cf53 : GoodIn wsX3_coldOn wsJ9_floorMod_7cf53 := goodIn_r _ [6] (by decide +kernel) (by decide +kernel)
set_option maxRecDepth 20000 in
theorem gX3_coldOn_J9_floorMod_7cf53 : GoodIn wsX3_coldOn (va_wsS RX3 83 yJ9_floorMod_7cf53 wsJ9_floorMod_7cf53) := goodIn_app (goodIn_of _ (by decide +kernel)) ggX3_coldOn_J9_floorMod_7cf53
theorem dX3_coldOn_0 : decode cX3_coldOn 0 = .ok (.aload_n 0, 1) := by decide +kernel
theorem dX3_coldOn_1 : decode cX3_coldOn 1 = .ok (.getfield 34, 3) := by decide +kernel
theorem dX3_coldOn_4 : decode cX3_coldOn 4 = .ok (.iconst 1, 1) := by decide +kernel
theorem dX3_coldOn_5 : decode cX3_coldOn 5 = .ok (.if_icmp .lt 12, 3) := by decide +kernel
theorem dX3_coldOn_8 : decode cX3_coldOn 8 = .ok (.aload_n 0, 1) := by decide +kernel
theorem dX3_coldOn_9 : decode cX3_coldOn 9 = .ok (.getfield 34, 3) := by decide +kernel
theorem dX3_coldOn_12 : decode cX3_coldOn 12 = .ok (.bipush 10, 2) := by decide +kernel
theorem dX3_coldOn_14 : decode cX3_coldOn 14 = .ok (.if_icmp .le 5, 3) := by decide +kernel
theorem dX3_coldOn_17 : decode cX3_coldOn 17 = .ok (.iconst 0, 1) := by decide +kernel
theorem dX3_coldOn_18 : decode cX3_coldOn 18 = .ok (.ireturn, 1) := by decide +kernel
theorem dX3_coldOn_19 : decode cX3_coldOn 19 = .ok (.aload_n 0, 1) := by decide +kernel
theorem dX3_coldOn_20 : decode cX3_coldOn 20 = .ok (.getfield 21, 3) := by decide +kernel
theorem dX3_coldOn_23 : decode cX3_coldOn 23 = .ok (.iload_n 1, 1) := by decide +kernel
theorem dX3_coldOn_24 : decode cX3_coldOn 24 = .ok (.aload_n 0, 1) := by decide +kernel
theorem dX3_coldOn_25 : decode cX3_coldOn 25 = .ok (.getfield 34, 3) := by decide +kernel
theorem dX3_coldOn_28 : decode cX3_coldOn 28 = .ok (.invokestatic 83, 3) := by decide +kernel
theorem dX3_coldOn_31 : decode cX3_coldOn 31 = .ok (.iaload, 1) := by decide +kernel
theorem dX3_coldOn_32 : decode cX3_coldOn 32 = .ok (.ireturn, 1) := by decide +kernel
set_option maxRecDepth 20000 in
theorem ggX3_thickBehind_X3_growth : GoodIn wsX3_thickBehind wsX3_growth := goodIn_r _ [11, 5, 6, 3, 7] (by decide +kernel) (by decide +kernel)
set_option maxRecDepth 20000 in
theorem gX3_thickBehind_X3_growth : GoodIn wsX3_thickBehind (va_wsS RX3 86 yX3_growth wsX3_growth) := goodIn_app (goodIn_of _ (by decide +kernel)) ggX3_thickBehind_X3_growth
set_option maxRecDepth 20000 in
theorem ggX3_thickBehind_X3_thaw : GoodIn wsX3_thickBehind wsX3_thaw := goodIn_r _ [14] (by decide +kernel) (by decide +kernel)
set_option maxRecDepth 20000 in
theorem gX3_thickBehind_X3_thaw : GoodIn wsX3_thickBehind (va_wsS RX3 89 yX3_thaw wsX3_thaw) := goodIn_app (goodIn_of _ (by decide +kernel)) ggX3_thickBehind_X3_thaw
set_option maxRecDepth 20000 in
theorem ggX3_thickBehind_X3_mostInches : GoodIn wsX3_thickBehind wsX3_mostInches := goodIn_r _ [17] (by decide +kernel) (by decide +kernel)
set_option maxRecDepth 20000 in
theorem gX3_thickBehind_X3_mostInches : GoodIn wsX3_thickBehind (va_wsS RX3 92 yX3_mostInches wsX3_mostInches) := goodIn_app (goodIn_of _ (by decide +kernel)) ggX3_thickBehind_X3_mostInches
theorem dX3_thickBehind_0 : decode cX3_thickBehind 0 = .ok (.iload_n 2, 1) := by decide +kernel
theorem dX3_thickBehind_1 : decode cX3_thickBehind 1 = .ok (.ifCond .lt 11, 3) := by decide +kernel
theorem dX3_thickBehind_4 : decode cX3_thickBehind 4 = .ok (.iload_n 0, 1) := by decide +kernel
theorem dX3_thickBehind_5 : decode cX3_thickBehind 5 = .ok (.iload_n 2, 1) := by decide +kernel
theorem dX3_thickBehind_6 : decode cX3_thickBehind 6 = .ok (.invokestatic 86, 3) := by decide +kernel
theorem dX3_thickBehind_9 : decode cX3_thickBehind 9 = .ok (.goto 10, 3) := by decide +kernel
theorem dX3_thickBehind_12 : decode cX3_thickBehind 12 = .ok (.iload_n 0, 1) := by decide +kernel
theorem dX3_thickBehind_13 : decode cX3_thickBehind 13 = .ok (.iload_n 2, 1) := by decide +kernel
theorem dX3_thickBehind_14 : decode cX3_thickBehind 14 = .ok (.ineg, 1) := by decide +kernel
theorem dX3_thickBehind_15 : decode cX3_thickBehind 15 = .ok (.invokestatic 89, 3) := by decide +kernel
theorem dX3_thickBehind_18 : decode cX3_thickBehind 18 = .ok (.ineg, 1) := by decide +kernel
theorem dX3_thickBehind_19 : decode cX3_thickBehind 19 = .ok (.istore_n 3, 1) := by decide +kernel
theorem dX3_thickBehind_20 : decode cX3_thickBehind 20 = .ok (.iload_n 0, 1) := by decide +kernel
theorem dX3_thickBehind_21 : decode cX3_thickBehind 21 = .ok (.invokestatic 92, 3) := by decide +kernel
theorem dX3_thickBehind_24 : decode cX3_thickBehind 24 = .ok (.istore 4, 2) := by decide +kernel
theorem dX3_thickBehind_26 : decode cX3_thickBehind 26 = .ok (.iconst 0, 1) := by decide +kernel
theorem dX3_thickBehind_27 : decode cX3_thickBehind 27 = .ok (.iload 4, 2) := by decide +kernel
theorem dX3_thickBehind_29 : decode cX3_thickBehind 29 = .ok (.iload_n 1, 1) := by decide +kernel
theorem dX3_thickBehind_30 : decode cX3_thickBehind 30 = .ok (.iload_n 3, 1) := by decide +kernel
theorem dX3_thickBehind_31 : decode cX3_thickBehind 31 = .ok (.iadd, 1) := by decide +kernel
theorem dX3_thickBehind_32 : decode cX3_thickBehind 32 = .ok (.invokestatic 74, 3) := by decide +kernel
theorem dX3_thickBehind_35 : decode cX3_thickBehind 35 = .ok (.invokestatic 80, 3) := by decide +kernel
theorem dX3_thickBehind_38 : decode cX3_thickBehind 38 = .ok (.ireturn, 1) := by decide +kernel
theorem dX3_mostInches_0 : decode cX3_mostInches 0 = .ok (.iload_n 0, 1) := by decide +kernel
theorem dX3_mostInches_1 : decode cX3_mostInches 1 = .ok (.iconst 2, 1) := by decide +kernel
theorem dX3_mostInches_2 : decode cX3_mostInches 2 = .ok (.if_icmp .ne 8, 3) := by decide +kernel
theorem dX3_mostInches_5 : decode cX3_mostInches 5 = .ok (.bipush 9, 2) := by decide +kernel
theorem dX3_mostInches_7 : decode cX3_mostInches 7 = .ok (.goto 5, 3) := by decide +kernel
theorem dX3_mostInches_10 : decode cX3_mostInches 10 = .ok (.bipush 60, 2) := by decide +kernel
theorem dX3_mostInches_12 : decode cX3_mostInches 12 = .ok (.ireturn, 1) := by decide +kernel
theorem dX3_growth_0 : decode cX3_growth 0 = .ok (.iload_n 0, 1) := by decide +kernel
theorem dX3_growth_1 : decode cX3_growth 1 = .ok (.lookupswitch 39 #[(1, 27), (2, 35)], 27) := by decide +kernel
theorem dX3_growth_28 : decode cX3_growth 28 = .ok (.iconst 0, 1) := by decide +kernel
theorem dX3_growth_29 : decode cX3_growth 29 = .ok (.iload_n 1, 1) := by decide +kernel
theorem dX3_growth_30 : decode cX3_growth 30 = .ok (.iconst 1, 1) := by decide +kernel
theorem dX3_growth_31 : decode cX3_growth 31 = .ok (.isub, 1) := by decide +kernel
theorem dX3_growth_32 : decode cX3_growth 32 = .ok (.invokestatic 80, 3) := by decide +kernel
theorem dX3_growth_35 : decode cX3_growth 35 = .ok (.ireturn, 1) := by decide +kernel
theorem dX3_growth_36 : decode cX3_growth 36 = .ok (.iload_n 1, 1) := by decide +kernel
theorem dX3_growth_37 : decode cX3_growth 37 = .ok (.iconst 2, 1) := by decide +kernel
theorem dX3_growth_38 : decode cX3_growth 38 = .ok (.idiv, 1) := by decide +kernel
theorem dX3_growth_39 : decode cX3_growth 39 = .ok (.ireturn, 1) := by decide +kernel
theorem dX3_growth_40 : decode cX3_growth 40 = .ok (.iload_n 1, 1) := by decide +kernel
theorem dX3_growth_41 : decode cX3_growth 41 = .ok (.ireturn, 1) := by decide +kernel
theorem dX3_thaw_0 : decode cX3_thaw 0 = .ok (.iload_n 0, 1) := by decide +kernel
theorem dX3_thaw_1 : decode cX3_thaw 1 = .ok (.lookupswitch 35 #[(1, 27), (2, 31)], 27) := by decide +kernel
theorem dX3_thaw_28 : decode cX3_thaw 28 = .ok (.iload_n 1, 1) := by decide +kernel
theorem dX3_thaw_29 : decode cX3_thaw 29 = .ok (.iconst 1, 1) := by decide +kernel
theorem dX3_thaw_30 : decode cX3_thaw 30 = .ok (.iadd, 1) := by decide +kernel
theorem dX3_thaw_31 : decode cX3_thaw 31 = .ok (.ireturn, 1) := by decide +kernel
theorem dX3_thaw_32 : decode cX3_thaw 32 = .ok (.iload_n 1, 1) := by decide +kernel
theorem dX3_thaw_33 : decode cX3_thaw 33 = .ok (.iconst 2, 1) := by decide +kernel
theorem dX3_thaw_34 : decode cX3_thaw 34 = .ok (.imul, 1) := by decide +kernel
theorem dX3_thaw_35 : decode cX3_thaw 35 = .ok (.ireturn, 1) := by decide +kernel
theorem dX3_thaw_36 : decode cX3_thaw 36 = .ok (.iload_n 1, 1) := by decide +kernel
theorem dX3_thaw_37 : decode cX3_thaw 37 = .ok (.ireturn, 1) := by decide +kernel
theorem dX4_init_0 : decode cX4_init 0 = .ok (.aload_n 0, 1) := by decide +kernel
theorem dX4_init_1 : decode cX4_init 1 = .ok (.invokespecial 3, 3) := by decide +kernel
theorem dX4_init_4 : decode cX4_init 4 = .ok (.aload_n 0, 1) := by decide +kernel
theorem dX4_init_5 : decode cX4_init 5 = .ok (.iconst 1, 1) := by decide +kernel
theorem dX4_init_6 : decode cX4_init 6 = .ok (.iload_n 1, 1) := by decide +kernel
theorem dX4_init_7 : decode cX4_init 7 = .ok (.invokestatic 9, 3) := by decide +kernel
theorem dX4_init_10 : decode cX4_init 10 = .ok (.putfield 15, 3) := by decide +kernel
theorem dX4_init_13 : decode cX4_init 13 = .ok (.aload_n 0, 1) := by decide +kernel
theorem dX4_init_14 : decode cX4_init 14 = .ok (.aload_n 0, 1) := by decide +kernel
theorem dX4_init_15 : decode cX4_init 15 = .ok (.getfield 15, 3) := by decide +kernel
theorem dX4_init_18 : decode cX4_init 18 = .ok (.bipush 49, 2) := by decide +kernel
theorem dX4_init_20 : decode cX4_init 20 = .ok (.multianewarray 21 2, 4) := by decide +kernel
theorem dX4_init_24 : decode cX4_init 24 = .ok (.putfield 23, 3) := by decide +kernel
theorem dX4_init_27 : decode cX4_init 27 = .ok (.aload_n 0, 1) := by decide +kernel
theorem dX4_init_28 : decode cX4_init 28 = .ok (.aload_n 0, 1) := by decide +kernel
theorem dX4_init_29 : decode cX4_init 29 = .ok (.getfield 15, 3) := by decide +kernel
theorem dX4_init_32 : decode cX4_init 32 = .ok (.bipush 49, 2) := by decide +kernel
theorem dX4_init_34 : decode cX4_init 34 = .ok (.multianewarray 21 2, 4) := by decide +kernel
theorem dX4_init_38 : decode cX4_init 38 = .ok (.putfield 26, 3) := by decide +kernel
theorem dX4_init_41 : decode cX4_init 41 = .ok (.aload_n 0, 1) := by decide +kernel
theorem dX4_init_42 : decode cX4_init 42 = .ok (.aload_n 0, 1) := by decide +kernel
theorem dX4_init_43 : decode cX4_init 43 = .ok (.getfield 15, 3) := by decide +kernel
theorem dX4_init_46 : decode cX4_init 46 = .ok (.newarray .int, 2) := by decide +kernel
theorem dX4_init_48 : decode cX4_init 48 = .ok (.putfield 29, 3) := by decide +kernel
theorem dX4_init_51 : decode cX4_init 51 = .ok (.return_, 1) := by decide +kernel
set_option maxRecDepth 20000 in
theorem ggX4_put_X4_dropOldest : GoodIn wsX4_put wsX4_dropOldest := goodIn_r _ [17, 2, 4, 5, 6, 7, 8, 10, 11, 1, 18, 19, 20, 21, 22] (by decide +kernel) (by decide +kernel)
set_option maxRecDepth 20000 in
theorem gX4_put_X4_dropOldest : GoodIn wsX4_put (wsV RX4 36 RX4 yX4_dropOldest wsX4_dropOldest) := goodIn_app (goodIn_of _ (by decide +kernel)) ggX4_put_X4_dropOldest
theorem dX4_put_0 : decode cX4_put 0 = .ok (.aload_n 0, 1) := by decide +kernel
theorem dX4_put_1 : decode cX4_put 1 = .ok (.getfield 33, 3) := by decide +kernel
theorem dX4_put_4 : decode cX4_put 4 = .ok (.aload_n 0, 1) := by decide +kernel
theorem dX4_put_5 : decode cX4_put 5 = .ok (.getfield 15, 3) := by decide +kernel
theorem dX4_put_8 : decode cX4_put 8 = .ok (.if_icmp .lt 7, 3) := by decide +kernel
theorem dX4_put_11 : decode cX4_put 11 = .ok (.aload_n 0, 1) := by decide +kernel
theorem dX4_put_12 : decode cX4_put 12 = .ok (.invokevirtual 36, 3) := by decide +kernel
theorem dX4_put_15 : decode cX4_put 15 = .ok (.aload_n 1, 1) := by decide +kernel
theorem dX4_put_16 : decode cX4_put 16 = .ok (.getfield 39, 3) := by decide +kernel
theorem dX4_put_19 : decode cX4_put 19 = .ok (.iconst 0, 1) := by decide +kernel
theorem dX4_put_20 : decode cX4_put 20 = .ok (.aload_n 0, 1) := by decide +kernel
theorem dX4_put_21 : decode cX4_put 21 = .ok (.getfield 23, 3) := by decide +kernel
theorem dX4_put_24 : decode cX4_put 24 = .ok (.aload_n 0, 1) := by decide +kernel
theorem dX4_put_25 : decode cX4_put 25 = .ok (.getfield 33, 3) := by decide +kernel
theorem dX4_put_28 : decode cX4_put 28 = .ok (.aaload, 1) := by decide +kernel
theorem dX4_put_29 : decode cX4_put 29 = .ok (.iconst 0, 1) := by decide +kernel
theorem dX4_put_30 : decode cX4_put 30 = .ok (.bipush 49, 2) := by decide +kernel
theorem dX4_put_32 : decode cX4_put 32 = .ok (.invokestatic 43, 3) := by decide +kernel
theorem dX4_put_35 : decode cX4_put 35 = .ok (.aload_n 1, 1) := by decide +kernel
theorem dX4_put_36 : decode cX4_put 36 = .ok (.getfield 49, 3) := by decide +kernel
theorem dX4_put_39 : decode cX4_put 39 = .ok (.iconst 0, 1) := by decide +kernel
theorem dX4_put_40 : decode cX4_put 40 = .ok (.aload_n 0, 1) := by decide +kernel
theorem dX4_put_41 : decode cX4_put 41 = .ok (.getfield 26, 3) := by decide +kernel
theorem dX4_put_44 : decode cX4_put 44 = .ok (.aload_n 0, 1) := by decide +kernel
theorem dX4_put_45 : decode cX4_put 45 = .ok (.getfield 33, 3) := by decide +kernel
theorem dX4_put_48 : decode cX4_put 48 = .ok (.aaload, 1) := by decide +kernel
theorem dX4_put_49 : decode cX4_put 49 = .ok (.iconst 0, 1) := by decide +kernel
theorem dX4_put_50 : decode cX4_put 50 = .ok (.bipush 49, 2) := by decide +kernel
theorem dX4_put_52 : decode cX4_put 52 = .ok (.invokestatic 43, 3) := by decide +kernel
theorem dX4_put_55 : decode cX4_put 55 = .ok (.aload_n 0, 1) := by decide +kernel
theorem dX4_put_56 : decode cX4_put 56 = .ok (.getfield 29, 3) := by decide +kernel
theorem dX4_put_59 : decode cX4_put 59 = .ok (.aload_n 0, 1) := by decide +kernel
theorem dX4_put_60 : decode cX4_put 60 = .ok (.getfield 33, 3) := by decide +kernel
theorem dX4_put_63 : decode cX4_put 63 = .ok (.aload_n 1, 1) := by decide +kernel
theorem dX4_put_64 : decode cX4_put 64 = .ok (.getfield 51, 3) := by decide +kernel
theorem dX4_put_67 : decode cX4_put 67 = .ok (.iastore, 1) := by decide +kernel
theorem dX4_put_68 : decode cX4_put 68 = .ok (.aload_n 0, 1) := by decide +kernel
theorem dX4_put_69 : decode cX4_put 69 = .ok (.dup, 1) := by decide +kernel
theorem dX4_put_70 : decode cX4_put 70 = .ok (.getfield 33, 3) := by decide +kernel
theorem dX4_put_73 : decode cX4_put 73 = .ok (.iconst 1, 1) := by decide +kernel
theorem dX4_put_74 : decode cX4_put 74 = .ok (.iadd, 1) := by decide +kernel
theorem dX4_put_75 : decode cX4_put 75 = .ok (.putfield 33, 3) := by decide +kernel
theorem dX4_put_78 : decode cX4_put 78 = .ok (.return_, 1) := by decide +kernel
theorem dX4_dropOldest_0 : decode cX4_dropOldest 0 = .ok (.iconst 1, 1) := by decide +kernel
theorem dX4_dropOldest_1 : decode cX4_dropOldest 1 = .ok (.istore_n 1, 1) := by decide +kernel
theorem dX4_dropOldest_2 : decode cX4_dropOldest 2 = .ok (.iload_n 1, 1) := by decide +kernel
theorem dX4_dropOldest_3 : decode cX4_dropOldest 3 = .ok (.aload_n 0, 1) := by decide +kernel
theorem dX4_dropOldest_4 : decode cX4_dropOldest 4 = .ok (.getfield 15, 3) := by decide +kernel
theorem dX4_dropOldest_7 : decode cX4_dropOldest 7 = .ok (.if_icmp .ge 65, 3) := by decide +kernel
theorem dX4_dropOldest_10 : decode cX4_dropOldest 10 = .ok (.aload_n 0, 1) := by decide +kernel
theorem dX4_dropOldest_11 : decode cX4_dropOldest 11 = .ok (.getfield 23, 3) := by decide +kernel
theorem dX4_dropOldest_14 : decode cX4_dropOldest 14 = .ok (.iload_n 1, 1) := by decide +kernel
theorem dX4_dropOldest_15 : decode cX4_dropOldest 15 = .ok (.aaload, 1) := by decide +kernel
theorem dX4_dropOldest_16 : decode cX4_dropOldest 16 = .ok (.iconst 0, 1) := by decide +kernel
theorem dX4_dropOldest_17 : decode cX4_dropOldest 17 = .ok (.aload_n 0, 1) := by decide +kernel
theorem dX4_dropOldest_18 : decode cX4_dropOldest 18 = .ok (.getfield 23, 3) := by decide +kernel
theorem dX4_dropOldest_21 : decode cX4_dropOldest 21 = .ok (.iload_n 1, 1) := by decide +kernel
theorem dX4_dropOldest_22 : decode cX4_dropOldest 22 = .ok (.iconst 1, 1) := by decide +kernel
theorem dX4_dropOldest_23 : decode cX4_dropOldest 23 = .ok (.isub, 1) := by decide +kernel
theorem dX4_dropOldest_24 : decode cX4_dropOldest 24 = .ok (.aaload, 1) := by decide +kernel
theorem dX4_dropOldest_25 : decode cX4_dropOldest 25 = .ok (.iconst 0, 1) := by decide +kernel
theorem dX4_dropOldest_26 : decode cX4_dropOldest 26 = .ok (.bipush 49, 2) := by decide +kernel
theorem dX4_dropOldest_28 : decode cX4_dropOldest 28 = .ok (.invokestatic 43, 3) := by decide +kernel
theorem dX4_dropOldest_31 : decode cX4_dropOldest 31 = .ok (.aload_n 0, 1) := by decide +kernel
theorem dX4_dropOldest_32 : decode cX4_dropOldest 32 = .ok (.getfield 26, 3) := by decide +kernel
theorem dX4_dropOldest_35 : decode cX4_dropOldest 35 = .ok (.iload_n 1, 1) := by decide +kernel
theorem dX4_dropOldest_36 : decode cX4_dropOldest 36 = .ok (.aaload, 1) := by decide +kernel
theorem dX4_dropOldest_37 : decode cX4_dropOldest 37 = .ok (.iconst 0, 1) := by decide +kernel
theorem dX4_dropOldest_38 : decode cX4_dropOldest 38 = .ok (.aload_n 0, 1) := by decide +kernel
theorem dX4_dropOldest_39 : decode cX4_dropOldest 39 = .ok (.getfield 26, 3) := by decide +kernel
theorem dX4_dropOldest_42 : decode cX4_dropOldest 42 = .ok (.iload_n 1, 1) := by decide +kernel
theorem dX4_dropOldest_43 : decode cX4_dropOldest 43 = .ok (.iconst 1, 1) := by decide +kernel
theorem dX4_dropOldest_44 : decode cX4_dropOldest 44 = .ok (.isub, 1) := by decide +kernel
theorem dX4_dropOldest_45 : decode cX4_dropOldest 45 = .ok (.aaload, 1) := by decide +kernel
theorem dX4_dropOldest_46 : decode cX4_dropOldest 46 = .ok (.iconst 0, 1) := by decide +kernel
theorem dX4_dropOldest_47 : decode cX4_dropOldest 47 = .ok (.bipush 49, 2) := by decide +kernel
theorem dX4_dropOldest_49 : decode cX4_dropOldest 49 = .ok (.invokestatic 43, 3) := by decide +kernel
theorem dX4_dropOldest_52 : decode cX4_dropOldest 52 = .ok (.aload_n 0, 1) := by decide +kernel
theorem dX4_dropOldest_53 : decode cX4_dropOldest 53 = .ok (.getfield 29, 3) := by decide +kernel
theorem dX4_dropOldest_56 : decode cX4_dropOldest 56 = .ok (.iload_n 1, 1) := by decide +kernel
theorem dX4_dropOldest_57 : decode cX4_dropOldest 57 = .ok (.iconst 1, 1) := by decide +kernel
theorem dX4_dropOldest_58 : decode cX4_dropOldest 58 = .ok (.isub, 1) := by decide +kernel
theorem dX4_dropOldest_59 : decode cX4_dropOldest 59 = .ok (.aload_n 0, 1) := by decide +kernel
theorem dX4_dropOldest_60 : decode cX4_dropOldest 60 = .ok (.getfield 29, 3) := by decide +kernel
theorem dX4_dropOldest_63 : decode cX4_dropOldest 63 = .ok (.iload_n 1, 1) := by decide +kernel
theorem dX4_dropOldest_64 : decode cX4_dropOldest 64 = .ok (.iaload, 1) := by decide +kernel
theorem dX4_dropOldest_65 : decode cX4_dropOldest 65 = .ok (.iastore, 1) := by decide +kernel
theorem dX4_dropOldest_66 : decode cX4_dropOldest 66 = .ok (.iinc 1 1, 3) := by decide +kernel
theorem dX4_dropOldest_69 : decode cX4_dropOldest 69 = .ok (.goto (-67), 3) := by decide +kernel
theorem dX4_dropOldest_72 : decode cX4_dropOldest 72 = .ok (.aload_n 0, 1) := by decide +kernel
theorem dX4_dropOldest_73 : decode cX4_dropOldest 73 = .ok (.aload_n 0, 1) := by decide +kernel
theorem dX4_dropOldest_74 : decode cX4_dropOldest 74 = .ok (.getfield 15, 3) := by decide +kernel
theorem dX4_dropOldest_77 : decode cX4_dropOldest 77 = .ok (.iconst 1, 1) := by decide +kernel
theorem dX4_dropOldest_78 : decode cX4_dropOldest 78 = .ok (.isub, 1) := by decide +kernel
theorem dX4_dropOldest_79 : decode cX4_dropOldest 79 = .ok (.putfield 33, 3) := by decide +kernel
theorem dX4_dropOldest_82 : decode cX4_dropOldest 82 = .ok (.return_, 1) := by decide +kernel
theorem dX4_takeInto_0 : decode cX4_takeInto 0 = .ok (.aload_n 0, 1) := by decide +kernel
theorem dX4_takeInto_1 : decode cX4_takeInto 1 = .ok (.getfield 33, 3) := by decide +kernel
theorem dX4_takeInto_4 : decode cX4_takeInto 4 = .ok (.iconst 1, 1) := by decide +kernel
theorem dX4_takeInto_5 : decode cX4_takeInto 5 = .ok (.if_icmp .lt 14, 3) := by decide +kernel
theorem dX4_takeInto_8 : decode cX4_takeInto 8 = .ok (.aload_n 0, 1) := by decide +kernel
theorem dX4_takeInto_9 : decode cX4_takeInto 9 = .ok (.getfield 33, 3) := by decide +kernel
theorem dX4_takeInto_12 : decode cX4_takeInto 12 = .ok (.aload_n 0, 1) := by decide +kernel
theorem dX4_takeInto_13 : decode cX4_takeInto 13 = .ok (.getfield 15, 3) := by decide +kernel
theorem dX4_takeInto_16 : decode cX4_takeInto 16 = .ok (.if_icmp .le 5, 3) := by decide +kernel
theorem dX4_takeInto_19 : decode cX4_takeInto 19 = .ok (.iconst 0, 1) := by decide +kernel
theorem dX4_takeInto_20 : decode cX4_takeInto 20 = .ok (.ireturn, 1) := by decide +kernel
theorem dX4_takeInto_21 : decode cX4_takeInto 21 = .ok (.aload_n 0, 1) := by decide +kernel
theorem dX4_takeInto_22 : decode cX4_takeInto 22 = .ok (.dup, 1) := by decide +kernel
theorem dX4_takeInto_23 : decode cX4_takeInto 23 = .ok (.getfield 33, 3) := by decide +kernel
theorem dX4_takeInto_26 : decode cX4_takeInto 26 = .ok (.iconst 1, 1) := by decide +kernel
theorem dX4_takeInto_27 : decode cX4_takeInto 27 = .ok (.isub, 1) := by decide +kernel
theorem dX4_takeInto_28 : decode cX4_takeInto 28 = .ok (.putfield 33, 3) := by decide +kernel
theorem dX4_takeInto_31 : decode cX4_takeInto 31 = .ok (.aload_n 0, 1) := by decide +kernel
theorem dX4_takeInto_32 : decode cX4_takeInto 32 = .ok (.getfield 23, 3) := by decide +kernel
theorem dX4_takeInto_35 : decode cX4_takeInto 35 = .ok (.aload_n 0, 1) := by decide +kernel
theorem dX4_takeInto_36 : decode cX4_takeInto 36 = .ok (.getfield 33, 3) := by decide +kernel
theorem dX4_takeInto_39 : decode cX4_takeInto 39 = .ok (.aaload, 1) := by decide +kernel
theorem dX4_takeInto_40 : decode cX4_takeInto 40 = .ok (.iconst 0, 1) := by decide +kernel
theorem dX4_takeInto_41 : decode cX4_takeInto 41 = .ok (.aload_n 1, 1) := by decide +kernel
theorem dX4_takeInto_42 : decode cX4_takeInto 42 = .ok (.getfield 39, 3) := by decide +kernel
theorem dX4_takeInto_45 : decode cX4_takeInto 45 = .ok (.iconst 0, 1) := by decide +kernel
theorem dX4_takeInto_46 : decode cX4_takeInto 46 = .ok (.bipush 49, 2) := by decide +kernel
theorem dX4_takeInto_48 : decode cX4_takeInto 48 = .ok (.invokestatic 43, 3) := by decide +kernel
theorem dX4_takeInto_51 : decode cX4_takeInto 51 = .ok (.aload_n 0, 1) := by decide +kernel
theorem dX4_takeInto_52 : decode cX4_takeInto 52 = .ok (.getfield 26, 3) := by decide +kernel
theorem dX4_takeInto_55 : decode cX4_takeInto 55 = .ok (.aload_n 0, 1) := by decide +kernel
theorem dX4_takeInto_56 : decode cX4_takeInto 56 = .ok (.getfield 33, 3) := by decide +kernel
theorem dX4_takeInto_59 : decode cX4_takeInto 59 = .ok (.aaload, 1) := by decide +kernel
theorem dX4_takeInto_60 : decode cX4_takeInto 60 = .ok (.iconst 0, 1) := by decide +kernel
theorem dX4_takeInto_61 : decode cX4_takeInto 61 = .ok (.aload_n 1, 1) := by decide +kernel
theorem dX4_takeInto_62 : decode cX4_takeInto 62 = .ok (.getfield 49, 3) := by decide +kernel
theorem dX4_takeInto_65 : decode cX4_takeInto 65 = .ok (.iconst 0, 1) := by decide +kernel
theorem dX4_takeInto_66 : decode cX4_takeInto 66 = .ok (.bipush 49, 2) := by decide +kernel
theorem dX4_takeInto_68 : decode cX4_takeInto 68 = .ok (.invokestatic 43, 3) := by decide +kernel
theorem dX4_takeInto_71 : decode cX4_takeInto 71 = .ok (.aload_n 1, 1) := by decide +kernel
theorem dX4_takeInto_72 : decode cX4_takeInto 72 = .ok (.aload_n 0, 1) := by decide +kernel
theorem dX4_takeInto_73 : decode cX4_takeInto 73 = .ok (.getfield 29, 3) := by decide +kernel
theorem dX4_takeInto_76 : decode cX4_takeInto 76 = .ok (.aload_n 0, 1) := by decide +kernel
theorem dX4_takeInto_77 : decode cX4_takeInto 77 = .ok (.getfield 33, 3) := by decide +kernel
theorem dX4_takeInto_80 : decode cX4_takeInto 80 = .ok (.iaload, 1) := by decide +kernel
theorem dX4_takeInto_81 : decode cX4_takeInto 81 = .ok (.putfield 51, 3) := by decide +kernel
theorem dX4_takeInto_84 : decode cX4_takeInto 84 = .ok (.iconst 1, 1) := by decide +kernel
theorem dX4_takeInto_85 : decode cX4_takeInto 85 = .ok (.ireturn, 1) := by decide +kernel
theorem dX5_init_0 : decode cX5_init 0 = .ok (.aload_n 0, 1) := by decide +kernel
theorem dX5_init_1 : decode cX5_init 1 = .ok (.invokespecial 3, 3) := by decide +kernel
theorem dX5_init_4 : decode cX5_init 4 = .ok (.aload_n 0, 1) := by decide +kernel
theorem dX5_init_5 : decode cX5_init 5 = .ok (.sipush 200, 3) := by decide +kernel
theorem dX5_init_8 : decode cX5_init 8 = .ok (.newarray .char, 2) := by decide +kernel
theorem dX5_init_10 : decode cX5_init 10 = .ok (.putfield 9, 3) := by decide +kernel
theorem dX5_init_13 : decode cX5_init 13 = .ok (.return_, 1) := by decide +kernel
theorem dX5_append_0 : decode cX5_append 0 = .ok (.aload_n 0, 1) := by decide +kernel
theorem dX5_append_1 : decode cX5_append 1 = .ok (.getfield 15, 3) := by decide +kernel
theorem dX5_append_4 : decode cX5_append 4 = .ok (.ifCond .lt 13, 3) := by decide +kernel
theorem dX5_append_7 : decode cX5_append 7 = .ok (.aload_n 0, 1) := by decide +kernel
theorem dX5_append_8 : decode cX5_append 8 = .ok (.getfield 15, 3) := by decide +kernel
theorem dX5_append_11 : decode cX5_append 11 = .ok (.sipush 200, 3) := by decide +kernel
theorem dX5_append_14 : decode cX5_append 14 = .ok (.if_icmp .lt 5, 3) := by decide +kernel
theorem dX5_append_17 : decode cX5_append 17 = .ok (.iconst 0, 1) := by decide +kernel
theorem dX5_append_18 : decode cX5_append 18 = .ok (.ireturn, 1) := by decide +kernel
theorem dX5_append_19 : decode cX5_append 19 = .ok (.aload_n 0, 1) := by decide +kernel
theorem dX5_append_20 : decode cX5_append 20 = .ok (.getfield 9, 3) := by decide +kernel
theorem dX5_append_23 : decode cX5_append 23 = .ok (.aload_n 0, 1) := by decide +kernel
theorem dX5_append_24 : decode cX5_append 24 = .ok (.getfield 15, 3) := by decide +kernel
theorem dX5_append_27 : decode cX5_append 27 = .ok (.iload_n 1, 1) := by decide +kernel
theorem dX5_append_28 : decode cX5_append 28 = .ok (.castore, 1) := by decide +kernel
theorem dX5_append_29 : decode cX5_append 29 = .ok (.aload_n 0, 1) := by decide +kernel
theorem dX5_append_30 : decode cX5_append 30 = .ok (.dup, 1) := by decide +kernel
theorem dX5_append_31 : decode cX5_append 31 = .ok (.getfield 15, 3) := by decide +kernel
theorem dX5_append_34 : decode cX5_append 34 = .ok (.iconst 1, 1) := by decide +kernel
theorem dX5_append_35 : decode cX5_append 35 = .ok (.iadd, 1) := by decide +kernel
theorem dX5_append_36 : decode cX5_append 36 = .ok (.putfield 15, 3) := by decide +kernel
theorem dX5_append_39 : decode cX5_append 39 = .ok (.iconst 1, 1) := by decide +kernel
theorem dX5_append_40 : decode cX5_append 40 = .ok (.ireturn, 1) := by decide +kernel
theorem dX5_letterAt_0 : decode cX5_letterAt 0 = .ok (.iload_n 1, 1) := by decide +kernel
theorem dX5_letterAt_1 : decode cX5_letterAt 1 = .ok (.ifCond .lt 27, 3) := by decide +kernel
theorem dX5_letterAt_4 : decode cX5_letterAt 4 = .ok (.iload_n 1, 1) := by decide +kernel
theorem dX5_letterAt_5 : decode cX5_letterAt 5 = .ok (.aload_n 0, 1) := by decide +kernel
theorem dX5_letterAt_6 : decode cX5_letterAt 6 = .ok (.getfield 15, 3) := by decide +kernel
theorem dX5_letterAt_9 : decode cX5_letterAt 9 = .ok (.if_icmp .ge 19, 3) := by decide +kernel
theorem dX5_letterAt_12 : decode cX5_letterAt 12 = .ok (.iload_n 1, 1) := by decide +kernel
theorem dX5_letterAt_13 : decode cX5_letterAt 13 = .ok (.sipush 200, 3) := by decide +kernel
theorem dX5_letterAt_16 : decode cX5_letterAt 16 = .ok (.if_icmp .ge 12, 3) := by decide +kernel
theorem dX5_letterAt_19 : decode cX5_letterAt 19 = .ok (.aload_n 0, 1) := by decide +kernel
theorem dX5_letterAt_20 : decode cX5_letterAt 20 = .ok (.getfield 9, 3) := by decide +kernel
theorem dX5_letterAt_23 : decode cX5_letterAt 23 = .ok (.iload_n 1, 1) := by decide +kernel
theorem dX5_letterAt_24 : decode cX5_letterAt 24 = .ok (.caload, 1) := by decide +kernel
theorem dX5_letterAt_25 : decode cX5_letterAt 25 = .ok (.goto 4, 3) := by decide +kernel
theorem dX5_letterAt_28 : decode cX5_letterAt 28 = .ok (.iconst 0, 1) := by decide +kernel
theorem dX5_letterAt_29 : decode cX5_letterAt 29 = .ok (.ireturn, 1) := by decide +kernel
theorem dX6_init_0 : decode cX6_init 0 = .ok (.aload_n 0, 1) := by decide +kernel
theorem dX6_init_1 : decode cX6_init 1 = .ok (.invokespecial 3, 3) := by decide +kernel
theorem dX6_init_4 : decode cX6_init 4 = .ok (.aload_n 0, 1) := by decide +kernel
theorem dX6_init_5 : decode cX6_init 5 = .ok (.bipush 49, 2) := by decide +kernel
theorem dX6_init_7 : decode cX6_init 7 = .ok (.newarray .int, 2) := by decide +kernel
theorem dX6_init_9 : decode cX6_init 9 = .ok (.putfield 9, 3) := by decide +kernel
theorem dX6_init_12 : decode cX6_init 12 = .ok (.aload_n 0, 1) := by decide +kernel
theorem dX6_init_13 : decode cX6_init 13 = .ok (.bipush 49, 2) := by decide +kernel
theorem dX6_init_15 : decode cX6_init 15 = .ok (.newarray .int, 2) := by decide +kernel
theorem dX6_init_17 : decode cX6_init 17 = .ok (.putfield 15, 3) := by decide +kernel
theorem dX6_init_20 : decode cX6_init 20 = .ok (.aload_n 0, 1) := by decide +kernel
theorem dX6_init_21 : decode cX6_init 21 = .ok (.bipush 49, 2) := by decide +kernel
theorem dX6_init_23 : decode cX6_init 23 = .ok (.newarray .boolean, 2) := by decide +kernel
theorem dX6_init_25 : decode cX6_init 25 = .ok (.putfield 18, 3) := by decide +kernel
theorem dX6_init_28 : decode cX6_init 28 = .ok (.return_, 1) := by decide +kernel
set_option maxRecDepth 20000 in
theorem ggX6_clear_J7_fill_53178 : GoodIn wsX6_clear wsJ7_fill_53178 := goodIn_r _ [6] (by decide +kernel) (by decide +kernel)
set_option maxRecDepth 20000 in
theorem gX6_clear_J7_fill_53178 : GoodIn wsX6_clear (va_wsS RX6 22 yJ7_fill_53178 wsJ7_fill_53178) := goodIn_app (goodIn_of _ (by decide +kernel)) ggX6_clear_J7_fill_53178
theorem dX6_clear_0 : decode cX6_clear 0 = .ok (.aload_n 0, 1) := by decide +kernel
theorem dX6_clear_1 : decode cX6_clear 1 = .ok (.getfield 15, 3) := by decide +kernel
theorem dX6_clear_4 : decode cX6_clear 4 = .ok (.bipush (-4), 2) := by decide +kernel
theorem dX6_clear_6 : decode cX6_clear 6 = .ok (.invokestatic 22, 3) := by decide +kernel
theorem dX6_clear_9 : decode cX6_clear 9 = .ok (.iconst 0, 1) := by decide +kernel
theorem dX6_clear_10 : decode cX6_clear 10 = .ok (.istore_n 1, 1) := by decide +kernel
theorem dX6_clear_11 : decode cX6_clear 11 = .ok (.iload_n 1, 1) := by decide +kernel
theorem dX6_clear_12 : decode cX6_clear 12 = .ok (.bipush 49, 2) := by decide +kernel
theorem dX6_clear_14 : decode cX6_clear 14 = .ok (.if_icmp .ge 16, 3) := by decide +kernel
theorem dX6_clear_17 : decode cX6_clear 17 = .ok (.aload_n 0, 1) := by decide +kernel
theorem dX6_clear_18 : decode cX6_clear 18 = .ok (.getfield 18, 3) := by decide +kernel
theorem dX6_clear_21 : decode cX6_clear 21 = .ok (.iload_n 1, 1) := by decide +kernel
theorem dX6_clear_22 : decode cX6_clear 22 = .ok (.iconst 0, 1) := by decide +kernel
theorem dX6_clear_23 : decode cX6_clear 23 = .ok (.bastore, 1) := by decide +kernel
theorem dX6_clear_24 : decode cX6_clear 24 = .ok (.iinc 1 1, 3) := by decide +kernel
theorem dX6_clear_27 : decode cX6_clear 27 = .ok (.goto (-16), 3) := by decide +kernel
theorem dX6_clear_30 : decode cX6_clear 30 = .ok (.return_, 1) := by decide +kernel
set_option maxRecDepth 20000 in
theorem ggX6_startAt_X6_reach : GoodIn wsX6_startAt wsX6_reach := goodIn_r _ [5, 6, 7, 8, 9, 10] (by decide +kernel) (by decide +kernel)
set_option maxRecDepth 20000 in
theorem gX6_startAt_X6_reach : GoodIn wsX6_startAt (wsV RX6 28 RX6 yX6_reach wsX6_reach) := goodIn_app (goodIn_of _ (by decide +kernel)) ggX6_startAt_X6_reach
theorem dX6_startAt_0 : decode cX6_startAt 0 = .ok (.aload_n 0, 1) := by decide +kernel
theorem dX6_startAt_1 : decode cX6_startAt 1 = .ok (.iload_n 1, 1) := by decide +kernel
theorem dX6_startAt_2 : decode cX6_startAt 2 = .ok (.iconst 0, 1) := by decide +kernel
theorem dX6_startAt_3 : decode cX6_startAt 3 = .ok (.invokevirtual 28, 3) := by decide +kernel
theorem dX6_startAt_6 : decode cX6_startAt 6 = .ok (.return_, 1) := by decide +kernel
set_option maxRecDepth 20000 in
theorem ggX6_spread_X6_nearestOpen : GoodIn wsX6_spread wsX6_nearestOpen := goodIn_r _ [8, 1, 2, 3, 25, 26, 27, 28, 29, 30, 31, 32, 33, 34, 35, 36, 37] (by decide +kernel) (by decide +kernel)
set_option maxRecDepth 20000 in
theorem gX6_spread_X6_nearestOpen : GoodIn wsX6_spread (wsV RX6 38 RX6 yX6_nearestOpen wsX6_nearestOpen) := goodIn_app (goodIn_of _ (by decide +kernel)) ggX6_spread_X6_nearestOpen
set_option maxRecDepth 20000 in
theorem ggX6_spread_X3_cellBeside : GoodIn wsX6_spread wsX3_cellBeside := goodIn_r _ [13, 14, 15, 16, 17, 12, 18, 19, 25, 26, 27, 28, 29, 30, 31, 32, 33, 34] (by decide +kernel) (by decide +kernel)
set_option maxRecDepth 20000 in
theorem gX6_spread_X3_cellBeside : GoodIn wsX6_spread (wsV RX6 42 RX3 yX3_cellBeside wsX3_cellBeside) := goodIn_app (goodIn_of _ (by decide +kernel)) ggX6_spread_X3_cellBeside
set_option maxRecDepth 20000 in
theorem ggX6_spread_X6_reach : GoodIn wsX6_spread wsX6_reach := goodIn_r _ [23, 24, 3, 35, 36, 37] (by decide +kernel) (by decide +kernel)
set_option maxRecDepth 20000 in
theorem gX6_spread_X6_reach : GoodIn wsX6_spread (wsV RX6 28 RX6 yX6_reach wsX6_reach) := goodIn_app (goodIn_of _ (by decide +kernel)) ggX6_spread_X6_reach
theorem dX6_spread_0 : decode cX6_spread 0 = .ok (.iconst 0, 1) := by decide +kernel
theorem dX6_spread_1 : decode cX6_spread 1 = .ok (.istore_n 2, 1) := by decide +kernel
theorem dX6_spread_2 : decode cX6_spread 2 = .ok (.iload_n 2, 1) := by decide +kernel
theorem dX6_spread_3 : decode cX6_spread 3 = .ok (.aload_n 1, 1) := by decide +kernel
theorem dX6_spread_4 : decode cX6_spread 4 = .ok (.getfield 32, 3) := by decide +kernel
theorem dX6_spread_7 : decode cX6_spread 7 = .ok (.if_icmp .ge 59, 3) := by decide +kernel
theorem dX6_spread_10 : decode cX6_spread 10 = .ok (.aload_n 0, 1) := by decide +kernel
theorem dX6_spread_11 : decode cX6_spread 11 = .ok (.aload_n 1, 1) := by decide +kernel
theorem dX6_spread_12 : decode cX6_spread 12 = .ok (.invokevirtual 38, 3) := by decide +kernel
theorem dX6_spread_15 : decode cX6_spread 15 = .ok (.istore_n 3, 1) := by decide +kernel
theorem dX6_spread_16 : decode cX6_spread 16 = .ok (.iload_n 3, 1) := by decide +kernel
theorem dX6_spread_17 : decode cX6_spread 17 = .ok (.ifCond .ge 4, 3) := by decide +kernel
theorem dX6_spread_20 : decode cX6_spread 20 = .ok (.return_, 1) := by decide +kernel
theorem dX6_spread_21 : decode cX6_spread 21 = .ok (.aload_n 0, 1) := by decide +kernel
theorem dX6_spread_22 : decode cX6_spread 22 = .ok (.getfield 18, 3) := by decide +kernel
theorem dX6_spread_25 : decode cX6_spread 25 = .ok (.iload_n 3, 1) := by decide +kernel
theorem dX6_spread_26 : decode cX6_spread 26 = .ok (.iconst 1, 1) := by decide +kernel
theorem dX6_spread_27 : decode cX6_spread 27 = .ok (.bastore, 1) := by decide +kernel
theorem dX6_spread_28 : decode cX6_spread 28 = .ok (.iconst 0, 1) := by decide +kernel
theorem dX6_spread_29 : decode cX6_spread 29 = .ok (.istore 4, 2) := by decide +kernel
theorem dX6_spread_31 : decode cX6_spread 31 = .ok (.iload 4, 2) := by decide +kernel
theorem dX6_spread_33 : decode cX6_spread 33 = .ok (.iconst 4, 1) := by decide +kernel
theorem dX6_spread_34 : decode cX6_spread 34 = .ok (.if_icmp .ge 26, 3) := by decide +kernel
theorem dX6_spread_37 : decode cX6_spread 37 = .ok (.aload_n 0, 1) := by decide +kernel
theorem dX6_spread_38 : decode cX6_spread 38 = .ok (.aload_n 1, 1) := by decide +kernel
theorem dX6_spread_39 : decode cX6_spread 39 = .ok (.iload_n 3, 1) := by decide +kernel
theorem dX6_spread_40 : decode cX6_spread 40 = .ok (.iload 4, 2) := by decide +kernel
theorem dX6_spread_42 : decode cX6_spread 42 = .ok (.invokevirtual 42, 3) := by decide +kernel
theorem dX6_spread_45 : decode cX6_spread 45 = .ok (.aload_n 0, 1) := by decide +kernel
theorem dX6_spread_46 : decode cX6_spread 46 = .ok (.getfield 15, 3) := by decide +kernel
theorem dX6_spread_49 : decode cX6_spread 49 = .ok (.iload_n 3, 1) := by decide +kernel
theorem dX6_spread_50 : decode cX6_spread 50 = .ok (.iaload, 1) := by decide +kernel
theorem dX6_spread_51 : decode cX6_spread 51 = .ok (.invokevirtual 28, 3) := by decide +kernel
theorem dX6_spread_54 : decode cX6_spread 54 = .ok (.iinc 4 1, 3) := by decide +kernel
theorem dX6_spread_57 : decode cX6_spread 57 = .ok (.goto (-26), 3) := by decide +kernel
theorem dX6_spread_60 : decode cX6_spread 60 = .ok (.iinc 2 1, 3) := by decide +kernel
theorem dX6_spread_63 : decode cX6_spread 63 = .ok (.goto (-61), 3) := by decide +kernel
theorem dX6_spread_66 : decode cX6_spread 66 = .ok (.return_, 1) := by decide +kernel
theorem dX6_leastTo_0 : decode cX6_leastTo 0 = .ok (.iload_n 1, 1) := by decide +kernel
theorem dX6_leastTo_1 : decode cX6_leastTo 1 = .ok (.ifCond .lt 18, 3) := by decide +kernel
theorem dX6_leastTo_4 : decode cX6_leastTo 4 = .ok (.iload_n 1, 1) := by decide +kernel
theorem dX6_leastTo_5 : decode cX6_leastTo 5 = .ok (.bipush 49, 2) := by decide +kernel
theorem dX6_leastTo_7 : decode cX6_leastTo 7 = .ok (.if_icmp .ge 12, 3) := by decide +kernel
theorem dX6_leastTo_10 : decode cX6_leastTo 10 = .ok (.aload_n 0, 1) := by decide +kernel
theorem dX6_leastTo_11 : decode cX6_leastTo 11 = .ok (.getfield 15, 3) := by decide +kernel
theorem dX6_leastTo_14 : decode cX6_leastTo 14 = .ok (.iload_n 1, 1) := by decide +kernel
theorem dX6_leastTo_15 : decode cX6_leastTo 15 = .ok (.iaload, 1) := by decide +kernel
theorem dX6_leastTo_16 : decode cX6_leastTo 16 = .ok (.goto 5, 3) := by decide +kernel
theorem dX6_leastTo_19 : decode cX6_leastTo 19 = .ok (.bipush (-4), 2) := by decide +kernel
theorem dX6_leastTo_21 : decode cX6_leastTo 21 = .ok (.ireturn, 1) := by decide +kernel
theorem dX6_reach_0 : decode cX6_reach 0 = .ok (.iload_n 1, 1) := by decide +kernel
theorem dX6_reach_1 : decode cX6_reach 1 = .ok (.ifCond .lt 19, 3) := by decide +kernel
theorem dX6_reach_4 : decode cX6_reach 4 = .ok (.iload_n 1, 1) := by decide +kernel
theorem dX6_reach_5 : decode cX6_reach 5 = .ok (.bipush 49, 2) := by decide +kernel
theorem dX6_reach_7 : decode cX6_reach 7 = .ok (.if_icmp .ge 13, 3) := by decide +kernel
theorem dX6_reach_10 : decode cX6_reach 10 = .ok (.aload_n 0, 1) := by decide +kernel
theorem dX6_reach_11 : decode cX6_reach 11 = .ok (.getfield 9, 3) := by decide +kernel
theorem dX6_reach_14 : decode cX6_reach 14 = .ok (.iload_n 1, 1) := by decide +kernel
theorem dX6_reach_15 : decode cX6_reach 15 = .ok (.iaload, 1) := by decide +kernel
theorem dX6_reach_16 : decode cX6_reach 16 = .ok (.iconst (-1), 1) := by decide +kernel
theorem dX6_reach_17 : decode cX6_reach 17 = .ok (.if_icmp .ne 4, 3) := by decide +kernel
theorem dX6_reach_20 : decode cX6_reach 20 = .ok (.return_, 1) := by decide +kernel
theorem dX6_reach_21 : decode cX6_reach 21 = .ok (.iload_n 2, 1) := by decide +kernel
theorem dX6_reach_22 : decode cX6_reach 22 = .ok (.aload_n 0, 1) := by decide +kernel
theorem dX6_reach_23 : decode cX6_reach 23 = .ok (.getfield 9, 3) := by decide +kernel
theorem dX6_reach_26 : decode cX6_reach 26 = .ok (.iload_n 1, 1) := by decide +kernel
theorem dX6_reach_27 : decode cX6_reach 27 = .ok (.iaload, 1) := by decide +kernel
theorem dX6_reach_28 : decode cX6_reach 28 = .ok (.iadd, 1) := by decide +kernel
theorem dX6_reach_29 : decode cX6_reach 29 = .ok (.istore_n 3, 1) := by decide +kernel
theorem dX6_reach_30 : decode cX6_reach 30 = .ok (.aload_n 0, 1) := by decide +kernel
theorem dX6_reach_31 : decode cX6_reach 31 = .ok (.getfield 15, 3) := by decide +kernel
theorem dX6_reach_34 : decode cX6_reach 34 = .ok (.iload_n 1, 1) := by decide +kernel
theorem dX6_reach_35 : decode cX6_reach 35 = .ok (.iaload, 1) := by decide +kernel
theorem dX6_reach_36 : decode cX6_reach 36 = .ok (.bipush (-4), 2) := by decide +kernel
theorem dX6_reach_38 : decode cX6_reach 38 = .ok (.if_icmp .eq 13, 3) := by decide +kernel
theorem dX6_reach_41 : decode cX6_reach 41 = .ok (.iload_n 3, 1) := by decide +kernel
theorem dX6_reach_42 : decode cX6_reach 42 = .ok (.aload_n 0, 1) := by decide +kernel
theorem dX6_reach_43 : decode cX6_reach 43 = .ok (.getfield 15, 3) := by decide +kernel
theorem dX6_reach_46 : decode cX6_reach 46 = .ok (.iload_n 1, 1) := by decide +kernel
theorem dX6_reach_47 : decode cX6_reach 47 = .ok (.iaload, 1) := by decide +kernel
theorem dX6_reach_48 : decode cX6_reach 48 = .ok (.if_icmp .ge 10, 3) := by decide +kernel
theorem dX6_reach_51 : decode cX6_reach 51 = .ok (.aload_n 0, 1) := by decide +kernel
theorem dX6_reach_52 : decode cX6_reach 52 = .ok (.getfield 15, 3) := by decide +kernel
theorem dX6_reach_55 : decode cX6_reach 55 = .ok (.iload_n 1, 1) := by decide +kernel
theorem dX6_reach_56 : decode cX6_reach 56 = .ok (.iload_n 3, 1) := by decide +kernel
theorem dX6_reach_57 : decode cX6_reach 57 = .ok (.iastore, 1) := by decide +kernel
theorem dX6_reach_58 : decode cX6_reach 58 = .ok (.return_, 1) := by decide +kernel
theorem dX6_nearestOpen_0 : decode cX6_nearestOpen 0 = .ok (.bipush (-4), 2) := by decide +kernel
theorem dX6_nearestOpen_2 : decode cX6_nearestOpen 2 = .ok (.istore_n 2, 1) := by decide +kernel
theorem dX6_nearestOpen_3 : decode cX6_nearestOpen 3 = .ok (.iconst 0, 1) := by decide +kernel
theorem dX6_nearestOpen_4 : decode cX6_nearestOpen 4 = .ok (.istore_n 3, 1) := by decide +kernel
theorem dX6_nearestOpen_5 : decode cX6_nearestOpen 5 = .ok (.iload_n 3, 1) := by decide +kernel
theorem dX6_nearestOpen_6 : decode cX6_nearestOpen 6 = .ok (.aload_n 1, 1) := by decide +kernel
theorem dX6_nearestOpen_7 : decode cX6_nearestOpen 7 = .ok (.getfield 32, 3) := by decide +kernel
theorem dX6_nearestOpen_10 : decode cX6_nearestOpen 10 = .ok (.if_icmp .ge 50, 3) := by decide +kernel
theorem dX6_nearestOpen_13 : decode cX6_nearestOpen 13 = .ok (.aload_n 0, 1) := by decide +kernel
theorem dX6_nearestOpen_14 : decode cX6_nearestOpen 14 = .ok (.getfield 18, 3) := by decide +kernel
theorem dX6_nearestOpen_17 : decode cX6_nearestOpen 17 = .ok (.iload_n 3, 1) := by decide +kernel
theorem dX6_nearestOpen_18 : decode cX6_nearestOpen 18 = .ok (.baload, 1) := by decide +kernel
theorem dX6_nearestOpen_19 : decode cX6_nearestOpen 19 = .ok (.ifCond .ne 35, 3) := by decide +kernel
theorem dX6_nearestOpen_22 : decode cX6_nearestOpen 22 = .ok (.aload_n 0, 1) := by decide +kernel
theorem dX6_nearestOpen_23 : decode cX6_nearestOpen 23 = .ok (.getfield 15, 3) := by decide +kernel
theorem dX6_nearestOpen_26 : decode cX6_nearestOpen 26 = .ok (.iload_n 3, 1) := by decide +kernel
theorem dX6_nearestOpen_27 : decode cX6_nearestOpen 27 = .ok (.iaload, 1) := by decide +kernel
theorem dX6_nearestOpen_28 : decode cX6_nearestOpen 28 = .ok (.bipush (-4), 2) := by decide +kernel
theorem dX6_nearestOpen_30 : decode cX6_nearestOpen 30 = .ok (.if_icmp .eq 24, 3) := by decide +kernel
theorem dX6_nearestOpen_33 : decode cX6_nearestOpen 33 = .ok (.iload_n 2, 1) := by decide +kernel
theorem dX6_nearestOpen_34 : decode cX6_nearestOpen 34 = .ok (.ifCond .lt 18, 3) := by decide +kernel
theorem dX6_nearestOpen_37 : decode cX6_nearestOpen 37 = .ok (.aload_n 0, 1) := by decide +kernel
theorem dX6_nearestOpen_38 : decode cX6_nearestOpen 38 = .ok (.getfield 15, 3) := by decide +kernel
theorem dX6_nearestOpen_41 : decode cX6_nearestOpen 41 = .ok (.iload_n 3, 1) := by decide +kernel
theorem dX6_nearestOpen_42 : decode cX6_nearestOpen 42 = .ok (.iaload, 1) := by decide +kernel
theorem dX6_nearestOpen_43 : decode cX6_nearestOpen 43 = .ok (.aload_n 0, 1) := by decide +kernel
theorem dX6_nearestOpen_44 : decode cX6_nearestOpen 44 = .ok (.getfield 15, 3) := by decide +kernel
theorem dX6_nearestOpen_47 : decode cX6_nearestOpen 47 = .ok (.iload_n 2, 1) := by decide +kernel
theorem dX6_nearestOpen_48 : decode cX6_nearestOpen 48 = .ok (.iaload, 1) := by decide +kernel
theorem dX6_nearestOpen_49 : decode cX6_nearestOpen 49 = .ok (.if_icmp .ge 5, 3) := by decide +kernel
theorem dX6_nearestOpen_52 : decode cX6_nearestOpen 52 = .ok (.iload_n 3, 1) := by decide +kernel
theorem dX6_nearestOpen_53 : decode cX6_nearestOpen 53 = .ok (.istore_n 2, 1) := by decide +kernel
theorem dX6_nearestOpen_54 : decode cX6_nearestOpen 54 = .ok (.iinc 3 1, 3) := by decide +kernel
theorem dX6_nearestOpen_57 : decode cX6_nearestOpen 57 = .ok (.goto (-52), 3) := by decide +kernel
theorem dX6_nearestOpen_60 : decode cX6_nearestOpen 60 = .ok (.iload_n 2, 1) := by decide +kernel
theorem dX6_nearestOpen_61 : decode cX6_nearestOpen 61 = .ok (.ireturn, 1) := by decide +kernel
set_option maxRecDepth 20000 in
theorem ggX7_init_X5_init : GoodIn wsX7_init wsX5_init := goodIn_r _ [40, 41, 2, 3, 42, 43, 260, 261] (by decide +kernel) (by decide +kernel)
set_option maxRecDepth 20000 in
theorem gX7_init_X5_init_n9 : GoodIn wsX7_init (wsX5_init) := ggX7_init_X5_init
set_option maxRecDepth 20000 in
theorem ggX7_init_X2_init : GoodIn wsX7_init wsX2_init := goodIn_r _ [45, 46, 2, 3, 30, 47, 275, 276] (by decide +kernel) (by decide +kernel)
set_option maxRecDepth 20000 in
theorem gX7_init_X2_init_n18 : GoodIn wsX7_init (wsX2_init) := ggX7_init_X2_init
set_option maxRecDepth 20000 in
theorem ggX7_init_X1_init : GoodIn wsX7_init wsX1_init := goodIn_r _ [49, 50, 2, 3, 30, 51, 52, 53, 277, 278, 279, 280] (by decide +kernel) (by decide +kernel)
set_option maxRecDepth 20000 in
theorem gX7_init_X1_init_n25 : GoodIn wsX7_init (wsX1_init) := ggX7_init_X1_init
set_option maxRecDepth 20000 in
theorem ggX7_init_X4_init : GoodIn wsX7_init wsX4_init := goodIn_r _ [56, 57, 2, 3, 58, 59, 60, 61, 62, 63, 30, 64, 65, 66, 281, 282, 283, 284, 285] (by decide +kernel) (by decide +kernel)
set_option maxRecDepth 20000 in
theorem gX7_init_X4_init : GoodIn wsX7_init (wsX4_init) := ggX7_init_X4_init
set_option maxRecDepth 20000 in
theorem ggX7_init_X0_init : GoodIn wsX7_init wsX0_init := goodIn_r _ [68, 69, 2, 3, 70, 71, 30, 72, 286, 287, 288, 289] (by decide +kernel) (by decide +kernel)
set_option maxRecDepth 20000 in
theorem gX7_init_X0_init_n47 : GoodIn wsX7_init (wsX0_init) := ggX7_init_X0_init
set_option maxRecDepth 20000 in
theorem ggX7_init_X6_init : GoodIn wsX7_init wsX6_init := goodIn_r _ [74, 75, 2, 3, 30, 76, 77, 70, 78, 290, 291, 292] (by decide +kernel) (by decide +kernel)
set_option maxRecDepth 20000 in
theorem gX7_init_X6_init_n54 : GoodIn wsX7_init (wsX6_init) := ggX7_init_X6_init
set_option maxRecDepth 20000 in
theorem ggX7_init_X3_init : GoodIn wsX7_init wsX3_init := goodIn_r _ [80, 81, 2, 3, 30, 82, 83, 84, 85, 293, 294, 295, 296, 297, 298, 299, 300, 301, 302] (by decide +kernel) (by decide +kernel)
set_option maxRecDepth 20000 in
theorem gX7_init_X3_init_n68 : GoodIn wsX7_init (wsX3_init) := ggX7_init_X3_init
set_option maxRecDepth 20000 in
theorem ggX7_init_J0_length_8abf5 : GoodIn wsX7_init wsJ0_length_8abf5 := goodIn_r _ [90, 91, 92, 93, 94, 89, 95, 96, 97] (by decide +kernel) (by decide +kernel)
set_option maxRecDepth 20000 in
theorem gX7_init_J0_length_8abf5 : GoodIn wsX7_init (wsV RX7 78 RJ0 yJ0_length_8abf5 wsJ0_length_8abf5) := goodIn_app (goodIn_of _ (by decide +kernel)) ggX7_init_J0_length_8abf5
set_option maxRecDepth 20000 in
theorem ggX7_init_J0_charAt_5068e : GoodIn wsX7_init wsJ0_charAt_5068e := goodIn_r _ [101, 91, 102, 103, 104, 89, 105, 96, 97, 106, 107, 108, 109, 110, 111, 112, 113, 114, 115, 116, 117, 118, 119, 120, 121, 122, 123, 124, 125, 126, 127, 128, 129, 130, 131, 132, 133, 134] (by decide +kernel) (by decide +kernel)
set_option maxRecDepth 20000 in
theorem gX7_init_J0_charAt_5068e : GoodIn wsX7_init (wsV RX7 84 RJ0 yJ0_charAt_5068e wsJ0_charAt_5068e) := goodIn_app (goodIn_of _ (by decide +kernel)) ggX7_init_J0_charAt_5068e
set_option maxRecDepth 20000 in
theorem ggX7_init_X5_append : GoodIn wsX7_init wsX5_append := goodIn_r _ [138, 139, 43, 260, 261] (by decide +kernel) (by decide +kernel)
set_option maxRecDepth 20000 in
theorem gX7_init_X5_append : GoodIn wsX7_init (wsV RX7 88 RX5 yX5_append wsX5_append) := goodIn_app (goodIn_of _ (by decide +kernel)) ggX7_init_X5_append
set_option maxRecDepth 20000 in
theorem ggX7_init_X7_layText : GoodIn wsX7_init wsX7_layText := goodIn_r _ [144, 7, 38, 11, 37, 36, 15, 145, 20, 146, 21, 147, 148, 149, 10, 150, 151, 152, 153, 154, 155, 35, 156, 82, 83, 157, 158, 159, 160, 161, 162, 163, 164, 165, 166, 167, 168, 169, 170, 171, 172, 173, 174, 175, 176, 6, 177, 139, 43, 178, 179, 180, 181, 47, 182, 183, 184, 185, 186, 187, 188, 189, 190, 191, 192, 193, 194, 195, 196, 197, 198, 199, 200, 201, 202, 203, 204, 205, 206, 207, 208, 209, 210, 143, 211, 212, 213, 214, 215, 216, 217, 218, 219, 220, 60, 221, 222, 59, 61, 223, 224, 225, 226, 227, 228, 229, 230, 231, 232, 233, 234, 85, 235, 236, 237, 238, 239, 240, 241, 242, 84, 243, 244, 245, 14, 246, 247, 248, 51, 249, 250, 251, 52, 252, 253, 254, 255, 256, 257, 258, 259, 262, 263, 264, 265, 266, 267, 268, 269, 270, 271, 272, 273, 274, 260, 261, 281, 282, 283, 284, 285, 275, 276, 293, 294, 295, 296, 297, 298, 299, 300, 301, 302, 277, 278, 279, 280] (by decide +kernel) (by decide +kernel)
set_option maxRecDepth 20000 in
theorem gX7_init_X7_layText : GoodIn wsX7_init (wsV RX7 92 RX7 yX7_layText wsX7_layText) := goodIn_app (goodIn_of _ (by decide +kernel)) ggX7_init_X7_layText

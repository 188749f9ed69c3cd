theorem dX7_init_0 : decode cX7_init 0 = .ok (.aload_n 0, 1) := by decide +kernel
theorem dX7_init_1 : decode cX7_init 1 = .ok (.invokespecial 1, 3) := by decide +kernel
theorem dX7_init_4 : decode cX7_init 4 = .ok (.aload_n 0, 1) := by decide +kernel
theorem dX7_init_5 : decode cX7_init 5 = .ok (.new 7, 3) := by decide +kernel
theorem dX7_init_8 : decode cX7_init 8 = .ok (.dup, 1) := by decide +kernel
theorem dX7_init_9 : decode cX7_init 9 = .ok (.invokespecial 9, 3) := by decide +kernel
theorem dX7_init_12 : decode cX7_init 12 = .ok (.putfield 10, 3) := by decide +kernel
theorem dX7_init_15 : decode cX7_init 15 = .ok (.aload_n 0, 1) := by decide +kernel
theorem dX7_init_16 : decode cX7_init 16 = .ok (.new 16, 3) := by decide +kernel
theorem dX7_init_19 : decode cX7_init 19 = .ok (.dup, 1) := by decide +kernel
theorem dX7_init_20 : decode cX7_init 20 = .ok (.invokespecial 18, 3) := by decide +kernel
theorem dX7_init_23 : decode cX7_init 23 = .ok (.putfield 19, 3) := by decide +kernel
theorem dX7_init_26 : decode cX7_init 26 = .ok (.aload_n 0, 1) := by decide +kernel
theorem dX7_init_27 : decode cX7_init 27 = .ok (.new 23, 3) := by decide +kernel
theorem dX7_init_30 : decode cX7_init 30 = .ok (.dup, 1) := by decide +kernel
theorem dX7_init_31 : decode cX7_init 31 = .ok (.invokespecial 25, 3) := by decide +kernel
theorem dX7_init_34 : decode cX7_init 34 = .ok (.putfield 26, 3) := by decide +kernel
theorem dX7_init_37 : decode cX7_init 37 = .ok (.aload_n 0, 1) := by decide +kernel
theorem dX7_init_38 : decode cX7_init 38 = .ok (.new 23, 3) := by decide +kernel
theorem dX7_init_41 : decode cX7_init 41 = .ok (.dup, 1) := by decide +kernel
theorem dX7_init_42 : decode cX7_init 42 = .ok (.invokespecial 25, 3) := by decide +kernel
theorem dX7_init_45 : decode cX7_init 45 = .ok (.putfield 30, 3) := by decide +kernel
theorem dX7_init_48 : decode cX7_init 48 = .ok (.aload_n 0, 1) := by decide +kernel
theorem dX7_init_49 : decode cX7_init 49 = .ok (.new 33, 3) := by decide +kernel
theorem dX7_init_52 : decode cX7_init 52 = .ok (.dup, 1) := by decide +kernel
theorem dX7_init_53 : decode cX7_init 53 = .ok (.bipush 8, 2) := by decide +kernel
theorem dX7_init_55 : decode cX7_init 55 = .ok (.invokespecial 35, 3) := by decide +kernel
theorem dX7_init_58 : decode cX7_init 58 = .ok (.putfield 38, 3) := by decide +kernel
theorem dX7_init_61 : decode cX7_init 61 = .ok (.aload_n 0, 1) := by decide +kernel
theorem dX7_init_62 : decode cX7_init 62 = .ok (.new 33, 3) := by decide +kernel
theorem dX7_init_65 : decode cX7_init 65 = .ok (.dup, 1) := by decide +kernel
theorem dX7_init_66 : decode cX7_init 66 = .ok (.iconst 2, 1) := by decide +kernel
theorem dX7_init_67 : decode cX7_init 67 = .ok (.invokespecial 35, 3) := by decide +kernel
theorem dX7_init_70 : decode cX7_init 70 = .ok (.putfield 42, 3) := by decide +kernel
theorem dX7_init_73 : decode cX7_init 73 = .ok (.aload_n 0, 1) := by decide +kernel
theorem dX7_init_74 : decode cX7_init 74 = .ok (.new 45, 3) := by decide +kernel
theorem dX7_init_77 : decode cX7_init 77 = .ok (.dup, 1) := by decide +kernel
theorem dX7_init_78 : decode cX7_init 78 = .ok (.invokespecial 47, 3) := by decide +kernel
theorem dX7_init_81 : decode cX7_init 81 = .ok (.putfield 48, 3) := by decide +kernel
theorem dX7_init_84 : decode cX7_init 84 = .ok (.aload_n 0, 1) := by decide +kernel
theorem dX7_init_85 : decode cX7_init 85 = .ok (.new 52, 3) := by decide +kernel
theorem dX7_init_88 : decode cX7_init 88 = .ok (.dup, 1) := by decide +kernel
theorem dX7_init_89 : decode cX7_init 89 = .ok (.invokespecial 54, 3) := by decide +kernel
theorem dX7_init_92 : decode cX7_init 92 = .ok (.putfield 55, 3) := by decide +kernel
theorem dX7_init_95 : decode cX7_init 95 = .ok (.aload_n 0, 1) := by decide +kernel
theorem dX7_init_96 : decode cX7_init 96 = .ok (.bipush 6, 2) := by decide +kernel
theorem dX7_init_98 : decode cX7_init 98 = .ok (.newarray .int, 2) := by decide +kernel
theorem dX7_init_100 : decode cX7_init 100 = .ok (.putfield 59, 3) := by decide +kernel
theorem dX7_init_103 : decode cX7_init 103 = .ok (.aload_n 0, 1) := by decide +kernel
theorem dX7_init_104 : decode cX7_init 104 = .ok (.bipush 6, 2) := by decide +kernel
theorem dX7_init_106 : decode cX7_init 106 = .ok (.newarray .int, 2) := by decide +kernel
theorem dX7_init_108 : decode cX7_init 108 = .ok (.putfield 63, 3) := by decide +kernel
theorem dX7_init_111 : decode cX7_init 111 = .ok (.aload_n 0, 1) := by decide +kernel
theorem dX7_init_112 : decode cX7_init 112 = .ok (.new 66, 3) := by decide +kernel
theorem dX7_init_115 : decode cX7_init 115 = .ok (.dup, 1) := by decide +kernel
theorem dX7_init_116 : decode cX7_init 116 = .ok (.invokespecial 68, 3) := by decide +kernel
theorem dX7_init_119 : decode cX7_init 119 = .ok (.putfield 69, 3) := by decide +kernel
theorem dX7_init_122 : decode cX7_init 122 = .ok (.aload_n 0, 1) := by decide +kernel
theorem dX7_init_123 : decode cX7_init 123 = .ok (.new 66, 3) := by decide +kernel
theorem dX7_init_126 : decode cX7_init 126 = .ok (.dup, 1) := by decide +kernel
theorem dX7_init_127 : decode cX7_init 127 = .ok (.invokespecial 68, 3) := by decide +kernel
theorem dX7_init_130 : decode cX7_init 130 = .ok (.putfield 73, 3) := by decide +kernel
theorem dX7_init_133 : decode cX7_init 133 = .ok (.iconst 0, 1) := by decide +kernel
theorem dX7_init_134 : decode cX7_init 134 = .ok (.istore_n 1, 1) := by decide +kernel
theorem dX7_init_135 : decode cX7_init 135 = .ok (.iload_n 1, 1) := by decide +kernel
theorem dX7_init_136 : decode cX7_init 136 = .ok (.ldc 76, 2) := by decide +kernel
theorem dX7_init_138 : decode cX7_init 138 = .ok (.invokevirtual 78, 3) := by decide +kernel
theorem dX7_init_141 : decode cX7_init 141 = .ok (.if_icmp .ge 23, 3) := by decide +kernel
theorem dX7_init_144 : decode cX7_init 144 = .ok (.aload_n 0, 1) := by decide +kernel
theorem dX7_init_145 : decode cX7_init 145 = .ok (.getfield 10, 3) := by decide +kernel
theorem dX7_init_148 : decode cX7_init 148 = .ok (.ldc 76, 2) := by decide +kernel
theorem dX7_init_150 : decode cX7_init 150 = .ok (.iload_n 1, 1) := by decide +kernel
theorem dX7_init_151 : decode cX7_init 151 = .ok (.invokevirtual 84, 3) := by decide +kernel
theorem dX7_init_154 : decode cX7_init 154 = .ok (.invokevirtual 88, 3) := by decide +kernel
theorem dX7_init_157 : decode cX7_init 157 = .ok (.pop, 1) := by decide +kernel
theorem dX7_init_158 : decode cX7_init 158 = .ok (.iinc 1 1, 3) := by decide +kernel
theorem dX7_init_161 : decode cX7_init 161 = .ok (.goto (-26), 3) := by decide +kernel
theorem dX7_init_164 : decode cX7_init 164 = .ok (.aload_n 0, 1) := by decide +kernel
theorem dX7_init_165 : decode cX7_init 165 = .ok (.invokevirtual 92, 3) := by decide +kernel
theorem dX7_init_168 : decode cX7_init 168 = .ok (.pop, 1) := by decide +kernel
theorem dX7_init_169 : decode cX7_init 169 = .ok (.aload_n 0, 1) := by decide +kernel
theorem dX7_init_170 : decode cX7_init 170 = .ok (.getfield 10, 3) := by decide +kernel
theorem dX7_init_173 : decode cX7_init 173 = .ok (.iconst 0, 1) := by decide +kernel
theorem dX7_init_174 : decode cX7_init 174 = .ok (.putfield 96, 3) := by decide +kernel
theorem dX7_init_177 : decode cX7_init 177 = .ok (.return_, 1) := by decide +kernel
set_option maxRecDepth 20000 in
theorem ggX7_write_X5_append : GoodIn wsX7_write wsX5_append := goodIn_r _ [7, 8, 9, 23, 24] (by decide +kernel) (by decide +kernel)
set_option maxRecDepth 20000 in
theorem gX7_write_X5_append : GoodIn wsX7_write (wsV RX7 88 RX5 yX5_append wsX5_append) := goodIn_app (goodIn_of _ (by decide +kernel)) ggX7_write_X5_append
theorem dX7_write_0 : decode cX7_write 0 = .ok (.iload_n 1, 1) := by decide +kernel
theorem dX7_write_1 : decode cX7_write 1 = .ok (.bipush 32, 2) := by decide +kernel
theorem dX7_write_3 : decode cX7_write 3 = .ok (.if_icmp .lt 9, 3) := by decide +kernel
theorem dX7_write_6 : decode cX7_write 6 = .ok (.iload_n 1, 1) := by decide +kernel
theorem dX7_write_7 : decode cX7_write 7 = .ok (.bipush 126, 2) := by decide +kernel
theorem dX7_write_9 : decode cX7_write 9 = .ok (.if_icmp .le 5, 3) := by decide +kernel
theorem dX7_write_12 : decode cX7_write 12 = .ok (.iconst (-1), 1) := by decide +kernel
theorem dX7_write_13 : decode cX7_write 13 = .ok (.ireturn, 1) := by decide +kernel
theorem dX7_write_14 : decode cX7_write 14 = .ok (.aload_n 0, 1) := by decide +kernel
theorem dX7_write_15 : decode cX7_write 15 = .ok (.getfield 10, 3) := by decide +kernel
theorem dX7_write_18 : decode cX7_write 18 = .ok (.iload_n 1, 1) := by decide +kernel
theorem dX7_write_19 : decode cX7_write 19 = .ok (.i2c, 1) := by decide +kernel
theorem dX7_write_20 : decode cX7_write 20 = .ok (.invokevirtual 88, 3) := by decide +kernel
theorem dX7_write_23 : decode cX7_write 23 = .ok (.ifCond .eq 13, 3) := by decide +kernel
theorem dX7_write_26 : decode cX7_write 26 = .ok (.aload_n 0, 1) := by decide +kernel
theorem dX7_write_27 : decode cX7_write 27 = .ok (.getfield 10, 3) := by decide +kernel
theorem dX7_write_30 : decode cX7_write 30 = .ok (.getfield 96, 3) := by decide +kernel
theorem dX7_write_33 : decode cX7_write 33 = .ok (.goto 5, 3) := by decide +kernel
theorem dX7_write_36 : decode cX7_write 36 = .ok (.bipush (-3), 2) := by decide +kernel
theorem dX7_write_38 : decode cX7_write 38 = .ok (.ireturn, 1) := by decide +kernel
theorem dX7_wipe_0 : decode cX7_wipe 0 = .ok (.aload_n 0, 1) := by decide +kernel
theorem dX7_wipe_1 : decode cX7_wipe 1 = .ok (.getfield 10, 3) := by decide +kernel
theorem dX7_wipe_4 : decode cX7_wipe 4 = .ok (.getfield 96, 3) := by decide +kernel
theorem dX7_wipe_7 : decode cX7_wipe 7 = .ok (.istore_n 1, 1) := by decide +kernel
theorem dX7_wipe_8 : decode cX7_wipe 8 = .ok (.aload_n 0, 1) := by decide +kernel
theorem dX7_wipe_9 : decode cX7_wipe 9 = .ok (.getfield 10, 3) := by decide +kernel
theorem dX7_wipe_12 : decode cX7_wipe 12 = .ok (.iconst 0, 1) := by decide +kernel
theorem dX7_wipe_13 : decode cX7_wipe 13 = .ok (.putfield 96, 3) := by decide +kernel
theorem dX7_wipe_16 : decode cX7_wipe 16 = .ok (.iload_n 1, 1) := by decide +kernel
theorem dX7_wipe_17 : decode cX7_wipe 17 = .ok (.ireturn, 1) := by decide +kernel
set_option maxRecDepth 20000 in
theorem ggX7_fault_X2_readInto : GoodIn wsX7_fault wsX2_readInto := goodIn_r _ [8, 9, 10, 11, 12, 13, 14, 15, 16, 17, 18, 19, 20, 21, 22, 23, 24, 25, 26, 27, 28, 29, 30, 31, 32, 33, 34, 35, 36, 37, 38, 39, 40, 41, 42, 43, 44, 7, 45, 46, 47, 48, 49, 50, 51, 52, 53, 54, 55, 56, 57, 58, 59, 60, 61, 62, 63, 64, 65, 66, 67, 68, 69, 70, 71, 72, 73, 74, 75, 76, 77, 78, 79, 80, 81, 82, 83, 84, 85, 86, 87, 88, 89, 90, 91, 92, 93, 94, 95, 96, 97, 98, 99, 100, 101, 102, 103, 104, 105, 106, 107, 108, 109, 110, 111, 112, 113, 127, 128, 129, 130, 131, 132, 133, 134, 135, 136, 137, 138, 139, 140] (by decide +kernel) (by decide +kernel)
set_option maxRecDepth 20000 in
theorem gX7_fault_X2_readInto : GoodIn wsX7_fault (wsV RX7 99 RX2 yX2_readInto wsX2_readInto) := goodIn_app (goodIn_of _ (by decide +kernel)) ggX7_fault_X2_readInto
theorem dX7_fault_0 : decode cX7_fault 0 = .ok (.aload_n 0, 1) := by decide +kernel
theorem dX7_fault_1 : decode cX7_fault 1 = .ok (.getfield 19, 3) := by decide +kernel
theorem dX7_fault_4 : decode cX7_fault 4 = .ok (.aload_n 0, 1) := by decide +kernel
theorem dX7_fault_5 : decode cX7_fault 5 = .ok (.getfield 10, 3) := by decide +kernel
theorem dX7_fault_8 : decode cX7_fault 8 = .ok (.aload_n 0, 1) := by decide +kernel
theorem dX7_fault_9 : decode cX7_fault 9 = .ok (.getfield 73, 3) := by decide +kernel
theorem dX7_fault_12 : decode cX7_fault 12 = .ok (.invokevirtual 99, 3) := by decide +kernel
theorem dX7_fault_15 : decode cX7_fault 15 = .ok (.ireturn, 1) := by decide +kernel
set_option maxRecDepth 20000 in
theorem ggX7_lay_X7_layText : GoodIn wsX7_lay wsX7_layText := goodIn_r _ [7, 8, 9, 10, 11, 1, 12, 13, 14, 15, 16, 17, 18, 19, 20, 21, 22, 23, 24, 25, 26, 27, 28, 29, 30, 31, 32, 33, 34, 35, 36, 37, 38, 39, 40, 41, 42, 43, 44, 45, 46, 47, 48, 49, 50, 51, 52, 53, 54, 55, 56, 57, 58, 59, 60, 61, 62, 63, 64, 65, 66, 67, 68, 69, 70, 71, 72, 73, 74, 75, 76, 77, 78, 79, 80, 81, 82, 83, 84, 85, 86, 87, 88, 6, 89, 90, 91, 92, 93, 94, 95, 96, 97, 98, 99, 100, 101, 102, 103, 104, 105, 106, 107, 108, 109, 110, 111, 112, 113, 114, 115, 116, 117, 118, 119, 120, 121, 122, 123, 124, 125, 126, 127, 128, 129, 130, 131, 132, 133, 134, 135, 136, 137, 138, 139, 140, 141, 142, 143, 144, 145, 146, 147, 148, 149, 150, 151, 152, 153, 154, 155, 156, 157, 158, 169, 170, 171, 172, 173, 174, 175, 176, 177, 159, 160, 161, 162, 163, 164, 165, 166, 167, 168, 178, 179, 180, 181] (by decide +kernel) (by decide +kernel)
set_option maxRecDepth 20000 in
theorem gX7_lay_X7_layText : GoodIn wsX7_lay (wsV RX7 92 RX7 yX7_layText wsX7_layText) := goodIn_app (goodIn_of _ (by decide +kernel)) ggX7_lay_X7_layText
theorem dX7_lay_0 : decode cX7_lay 0 = .ok (.aload_n 0, 1) := by decide +kernel
theorem dX7_lay_1 : decode cX7_lay 1 = .ok (.invokevirtual 92, 3) := by decide +kernel
theorem dX7_lay_4 : decode cX7_lay 4 = .ok (.ifCond .eq 13, 3) := by decide +kernel
theorem dX7_lay_7 : decode cX7_lay 7 = .ok (.aload_n 0, 1) := by decide +kernel
theorem dX7_lay_8 : decode cX7_lay 8 = .ok (.getfield 69, 3) := by decide +kernel
theorem dX7_lay_11 : decode cX7_lay 11 = .ok (.getfield 103, 3) := by decide +kernel
theorem dX7_lay_14 : decode cX7_lay 14 = .ok (.goto 5, 3) := by decide +kernel
theorem dX7_lay_17 : decode cX7_lay 17 = .ok (.bipush (-2), 2) := by decide +kernel
theorem dX7_lay_19 : decode cX7_lay 19 = .ok (.ireturn, 1) := by decide +kernel
set_option maxRecDepth 20000 in
theorem ggX7_cell_X3_hasCell : GoodIn wsX7_cell wsX3_hasCell := goodIn_r _ [12, 13, 59, 60, 61, 62, 63, 64, 65, 66, 67, 68] (by decide +kernel) (by decide +kernel)
set_option maxRecDepth 20000 in
theorem gX7_cell_X3_hasCell : GoodIn wsX7_cell (wsV RX7 106 RX3 yX3_hasCell wsX3_hasCell) := goodIn_app (goodIn_of _ (by decide +kernel)) ggX7_cell_X3_hasCell
set_option maxRecDepth 20000 in
theorem ggX7_cell_X1_bears : GoodIn wsX7_cell wsX1_bears := goodIn_r _ [18, 19, 20, 21, 9, 10, 11, 12, 13, 22, 23, 24, 25, 26, 27, 69, 70, 71, 72, 59, 60, 61, 62, 63, 64, 65, 66, 67, 68] (by decide +kernel) (by decide +kernel)
set_option maxRecDepth 20000 in
theorem gX7_cell_X1_bears : GoodIn wsX7_cell (wsV RX7 122 RX1 yX1_bears wsX1_bears) := goodIn_app (goodIn_of _ (by decide +kernel)) ggX7_cell_X1_bears
set_option maxRecDepth 20000 in
theorem ggX7_cell_X0_sizeAround : GoodIn wsX7_cell wsX0_sizeAround := goodIn_r _ [32, 33, 34, 35, 31, 36, 37, 38, 39, 40, 41, 42, 43, 44, 9, 10, 11, 12, 13, 45, 23, 24, 25, 26, 27, 73, 74, 75, 76, 69, 70, 71, 72, 59, 60, 61, 62, 63, 64, 65, 66, 67, 68] (by decide +kernel) (by decide +kernel)
set_option maxRecDepth 20000 in
theorem gX7_cell_X0_sizeAround : GoodIn wsX7_cell (wsV RX7 126 RX0 yX0_sizeAround wsX0_sizeAround) := goodIn_app (goodIn_of _ (by decide +kernel)) ggX7_cell_X0_sizeAround
theorem dX7_cell_0 : decode cX7_cell 0 = .ok (.aload_n 0, 1) := by decide +kernel
theorem dX7_cell_1 : decode cX7_cell 1 = .ok (.getfield 69, 3) := by decide +kernel
theorem dX7_cell_4 : decode cX7_cell 4 = .ok (.iload_n 1, 1) := by decide +kernel
theorem dX7_cell_5 : decode cX7_cell 5 = .ok (.invokevirtual 106, 3) := by decide +kernel
theorem dX7_cell_8 : decode cX7_cell 8 = .ok (.ifCond .ne 5, 3) := by decide +kernel
theorem dX7_cell_11 : decode cX7_cell 11 = .ok (.iconst (-1), 1) := by decide +kernel
theorem dX7_cell_12 : decode cX7_cell 12 = .ok (.ireturn, 1) := by decide +kernel
theorem dX7_cell_13 : decode cX7_cell 13 = .ok (.iload_n 2, 1) := by decide +kernel
theorem dX7_cell_14 : decode cX7_cell 14 = .ok (.tableswitch 108 0 5 #[38, 48, 58, 68, 78, 91], 38) := by decide +kernel
theorem dX7_cell_52 : decode cX7_cell 52 = .ok (.aload_n 0, 1) := by decide +kernel
theorem dX7_cell_53 : decode cX7_cell 53 = .ok (.getfield 69, 3) := by decide +kernel
theorem dX7_cell_56 : decode cX7_cell 56 = .ok (.getfield 110, 3) := by decide +kernel
theorem dX7_cell_59 : decode cX7_cell 59 = .ok (.iload_n 1, 1) := by decide +kernel
theorem dX7_cell_60 : decode cX7_cell 60 = .ok (.iaload, 1) := by decide +kernel
theorem dX7_cell_61 : decode cX7_cell 61 = .ok (.ireturn, 1) := by decide +kernel
theorem dX7_cell_62 : decode cX7_cell 62 = .ok (.aload_n 0, 1) := by decide +kernel
theorem dX7_cell_63 : decode cX7_cell 63 = .ok (.getfield 26, 3) := by decide +kernel
theorem dX7_cell_66 : decode cX7_cell 66 = .ok (.getfield 113, 3) := by decide +kernel
theorem dX7_cell_69 : decode cX7_cell 69 = .ok (.iload_n 1, 1) := by decide +kernel
theorem dX7_cell_70 : decode cX7_cell 70 = .ok (.iaload, 1) := by decide +kernel
theorem dX7_cell_71 : decode cX7_cell 71 = .ok (.ireturn, 1) := by decide +kernel
theorem dX7_cell_72 : decode cX7_cell 72 = .ok (.aload_n 0, 1) := by decide +kernel
theorem dX7_cell_73 : decode cX7_cell 73 = .ok (.getfield 26, 3) := by decide +kernel
theorem dX7_cell_76 : decode cX7_cell 76 = .ok (.getfield 116, 3) := by decide +kernel
theorem dX7_cell_79 : decode cX7_cell 79 = .ok (.iload_n 1, 1) := by decide +kernel
theorem dX7_cell_80 : decode cX7_cell 80 = .ok (.iaload, 1) := by decide +kernel
theorem dX7_cell_81 : decode cX7_cell 81 = .ok (.ireturn, 1) := by decide +kernel
theorem dX7_cell_82 : decode cX7_cell 82 = .ok (.aload_n 0, 1) := by decide +kernel
theorem dX7_cell_83 : decode cX7_cell 83 = .ok (.getfield 69, 3) := by decide +kernel
theorem dX7_cell_86 : decode cX7_cell 86 = .ok (.getfield 119, 3) := by decide +kernel
theorem dX7_cell_89 : decode cX7_cell 89 = .ok (.iload_n 1, 1) := by decide +kernel
theorem dX7_cell_90 : decode cX7_cell 90 = .ok (.iaload, 1) := by decide +kernel
theorem dX7_cell_91 : decode cX7_cell 91 = .ok (.ireturn, 1) := by decide +kernel
theorem dX7_cell_92 : decode cX7_cell 92 = .ok (.aload_n 0, 1) := by decide +kernel
theorem dX7_cell_93 : decode cX7_cell 93 = .ok (.getfield 26, 3) := by decide +kernel
theorem dX7_cell_96 : decode cX7_cell 96 = .ok (.aload_n 0, 1) := by decide +kernel
theorem dX7_cell_97 : decode cX7_cell 97 = .ok (.getfield 69, 3) := by decide +kernel
theorem dX7_cell_100 : decode cX7_cell 100 = .ok (.iload_n 1, 1) := by decide +kernel
theorem dX7_cell_101 : decode cX7_cell 101 = .ok (.invokevirtual 122, 3) := by decide +kernel
theorem dX7_cell_104 : decode cX7_cell 104 = .ok (.ireturn, 1) := by decide +kernel
theorem dX7_cell_105 : decode cX7_cell 105 = .ok (.aload_n 0, 1) := by decide +kernel
theorem dX7_cell_106 : decode cX7_cell 106 = .ok (.getfield 48, 3) := by decide +kernel
theorem dX7_cell_109 : decode cX7_cell 109 = .ok (.aload_n 0, 1) := by decide +kernel
theorem dX7_cell_110 : decode cX7_cell 110 = .ok (.getfield 69, 3) := by decide +kernel
theorem dX7_cell_113 : decode cX7_cell 113 = .ok (.aload_n 0, 1) := by decide +kernel
theorem dX7_cell_114 : decode cX7_cell 114 = .ok (.getfield 26, 3) := by decide +kernel
theorem dX7_cell_117 : decode cX7_cell 117 = .ok (.iload_n 1, 1) := by decide +kernel
theorem dX7_cell_118 : decode cX7_cell 118 = .ok (.invokevirtual 126, 3) := by decide +kernel
theorem dX7_cell_121 : decode cX7_cell 121 = .ok (.ireturn, 1) := by decide +kernel
theorem dX7_cell_122 : decode cX7_cell 122 = .ok (.iconst (-1), 1) := by decide +kernel
theorem dX7_cell_123 : decode cX7_cell 123 = .ok (.ireturn, 1) := by decide +kernel
set_option maxRecDepth 20000 in
theorem ggX7_family_X7_isFamily : GoodIn wsX7_family wsX7_isFamily := goodIn_r _ [9] (by decide +kernel) (by decide +kernel)
set_option maxRecDepth 20000 in
theorem gX7_family_X7_isFamily : GoodIn wsX7_family (va_wsS RX7 130 yX7_isFamily wsX7_isFamily) := goodIn_app (goodIn_of _ (by decide +kernel)) ggX7_family_X7_isFamily
set_option maxRecDepth 20000 in
theorem ggX7_family_X1_cellsOf : GoodIn wsX7_family wsX1_cellsOf := goodIn_r _ [14, 15, 16, 69, 70, 71, 72, 73, 74, 75, 76, 77, 78, 79, 80, 81, 82] (by decide +kernel) (by decide +kernel)
set_option maxRecDepth 20000 in
theorem gX7_family_X1_cellsOf : GoodIn wsX7_family (wsV RX7 133 RX1 yX1_cellsOf wsX1_cellsOf) := goodIn_app (goodIn_of _ (by decide +kernel)) ggX7_family_X1_cellsOf
set_option maxRecDepth 20000 in
theorem ggX7_family_X0_measure : GoodIn wsX7_family wsX0_measure := goodIn_r _ [21, 22, 23, 24, 25, 26, 27, 28, 29, 30, 31, 32, 33, 20, 34, 35, 36, 37, 38, 39, 40, 41, 42, 43, 44, 45, 46, 47, 48, 49, 50, 51, 65, 66, 67, 68, 69, 70, 71, 72, 73, 74, 75, 76, 77, 78, 79, 80, 81, 82] (by decide +kernel) (by decide +kernel)
set_option maxRecDepth 20000 in
theorem gX7_family_X0_measure : GoodIn wsX7_family (wsV RX7 136 RX0 yX0_measure wsX0_measure) := goodIn_app (goodIn_of _ (by decide +kernel)) ggX7_family_X0_measure
theorem dX7_family_0 : decode cX7_family 0 = .ok (.iload_n 1, 1) := by decide +kernel
theorem dX7_family_1 : decode cX7_family 1 = .ok (.invokestatic 130, 3) := by decide +kernel
theorem dX7_family_4 : decode cX7_family 4 = .ok (.ifCond .ne 5, 3) := by decide +kernel
theorem dX7_family_7 : decode cX7_family 7 = .ok (.iconst (-1), 1) := by decide +kernel
theorem dX7_family_8 : decode cX7_family 8 = .ok (.ireturn, 1) := by decide +kernel
theorem dX7_family_9 : decode cX7_family 9 = .ok (.iload_n 2, 1) := by decide +kernel
theorem dX7_family_10 : decode cX7_family 10 = .ok (.tableswitch 87 0 2 #[26, 39, 63], 26) := by decide +kernel
theorem dX7_family_36 : decode cX7_family 36 = .ok (.aload_n 0, 1) := by decide +kernel
theorem dX7_family_37 : decode cX7_family 37 = .ok (.getfield 26, 3) := by decide +kernel
theorem dX7_family_40 : decode cX7_family 40 = .ok (.aload_n 0, 1) := by decide +kernel
theorem dX7_family_41 : decode cX7_family 41 = .ok (.getfield 69, 3) := by decide +kernel
theorem dX7_family_44 : decode cX7_family 44 = .ok (.iload_n 1, 1) := by decide +kernel
theorem dX7_family_45 : decode cX7_family 45 = .ok (.invokevirtual 133, 3) := by decide +kernel
theorem dX7_family_48 : decode cX7_family 48 = .ok (.ireturn, 1) := by decide +kernel
theorem dX7_family_49 : decode cX7_family 49 = .ok (.aload_n 0, 1) := by decide +kernel
theorem dX7_family_50 : decode cX7_family 50 = .ok (.getfield 48, 3) := by decide +kernel
theorem dX7_family_53 : decode cX7_family 53 = .ok (.aload_n 0, 1) := by decide +kernel
theorem dX7_family_54 : decode cX7_family 54 = .ok (.getfield 69, 3) := by decide +kernel
theorem dX7_family_57 : decode cX7_family 57 = .ok (.aload_n 0, 1) := by decide +kernel
theorem dX7_family_58 : decode cX7_family 58 = .ok (.getfield 26, 3) := by decide +kernel
theorem dX7_family_61 : decode cX7_family 61 = .ok (.iload_n 1, 1) := by decide +kernel
theorem dX7_family_62 : decode cX7_family 62 = .ok (.invokevirtual 136, 3) := by decide +kernel
theorem dX7_family_65 : decode cX7_family 65 = .ok (.aload_n 0, 1) := by decide +kernel
theorem dX7_family_66 : decode cX7_family 66 = .ok (.getfield 48, 3) := by decide +kernel
theorem dX7_family_69 : decode cX7_family 69 = .ok (.getfield 140, 3) := by decide +kernel
theorem dX7_family_72 : decode cX7_family 72 = .ok (.ireturn, 1) := by decide +kernel
theorem dX7_family_73 : decode cX7_family 73 = .ok (.aload_n 0, 1) := by decide +kernel
theorem dX7_family_74 : decode cX7_family 74 = .ok (.getfield 48, 3) := by decide +kernel
theorem dX7_family_77 : decode cX7_family 77 = .ok (.aload_n 0, 1) := by decide +kernel
theorem dX7_family_78 : decode cX7_family 78 = .ok (.getfield 69, 3) := by decide +kernel
theorem dX7_family_81 : decode cX7_family 81 = .ok (.aload_n 0, 1) := by decide +kernel
theorem dX7_family_82 : decode cX7_family 82 = .ok (.getfield 26, 3) := by decide +kernel
theorem dX7_family_85 : decode cX7_family 85 = .ok (.iload_n 1, 1) := by decide +kernel
theorem dX7_family_86 : decode cX7_family 86 = .ok (.invokevirtual 136, 3) := by decide +kernel
theorem dX7_family_89 : decode cX7_family 89 = .ok (.aload_n 0, 1) := by decide +kernel
theorem dX7_family_90 : decode cX7_family 90 = .ok (.getfield 48, 3) := by decide +kernel
theorem dX7_family_93 : decode cX7_family 93 = .ok (.getfield 143, 3) := by decide +kernel
theorem dX7_family_96 : decode cX7_family 96 = .ok (.ireturn, 1) := by decide +kernel
theorem dX7_family_97 : decode cX7_family 97 = .ok (.iconst (-1), 1) := by decide +kernel
theorem dX7_family_98 : decode cX7_family 98 = .ok (.ireturn, 1) := by decide +kernel
set_option maxRecDepth 20000 in
theorem ggX7_cold_X3_coldOn : GoodIn wsX7_cold wsX3_coldOn := goodIn_r _ [6, 7, 8, 9, 10, 11, 12, 26, 27, 28, 29, 30, 31, 32, 33, 34, 35] (by decide +kernel) (by decide +kernel)
set_option maxRecDepth 20000 in
theorem gX7_cold_X3_coldOn : GoodIn wsX7_cold (wsV RX7 146 RX3 yX3_coldOn wsX3_coldOn) := goodIn_app (goodIn_of _ (by decide +kernel)) ggX7_cold_X3_coldOn
theorem dX7_cold_0 : decode cX7_cold 0 = .ok (.iload_n 1, 1) := by decide +kernel
theorem dX7_cold_1 : decode cX7_cold 1 = .ok (.ifCond .lt 10, 3) := by decide +kernel
theorem dX7_cold_4 : decode cX7_cold 4 = .ok (.iload_n 1, 1) := by decide +kernel
theorem dX7_cold_5 : decode cX7_cold 5 = .ok (.sipush 200, 3) := by decide +kernel
theorem dX7_cold_8 : decode cX7_cold 8 = .ok (.if_icmp .lt 7, 3) := by decide +kernel
theorem dX7_cold_11 : decode cX7_cold 11 = .ok (.iconst (-1), 1) := by decide +kernel
theorem dX7_cold_12 : decode cX7_cold 12 = .ok (.goto 14, 3) := by decide +kernel
theorem dX7_cold_15 : decode cX7_cold 15 = .ok (.aload_n 0, 1) := by decide +kernel
theorem dX7_cold_16 : decode cX7_cold 16 = .ok (.getfield 69, 3) := by decide +kernel
theorem dX7_cold_19 : decode cX7_cold 19 = .ok (.iload_n 1, 1) := by decide +kernel
theorem dX7_cold_20 : decode cX7_cold 20 = .ok (.invokevirtual 146, 3) := by decide +kernel
theorem dX7_cold_23 : decode cX7_cold 23 = .ok (.bipush 20, 2) := by decide +kernel
theorem dX7_cold_25 : decode cX7_cold 25 = .ok (.iadd, 1) := by decide +kernel
theorem dX7_cold_26 : decode cX7_cold 26 = .ok (.ireturn, 1) := by decide +kernel
set_option maxRecDepth 20000 in
theorem ggX7_pass_X4_put : GoodIn wsX7_pass wsX4_put := goodIn_r _ [9, 10, 11, 12, 13, 14, 15, 16, 17, 18, 19, 20, 21, 22, 23, 24, 8, 25, 113, 114, 115, 116, 117, 109, 110, 111, 112] (by decide +kernel) (by decide +kernel)
set_option maxRecDepth 20000 in
theorem gX7_pass_X4_put : GoodIn wsX7_pass (wsV RX7 150 RX4 yX4_put wsX4_put) := goodIn_app (goodIn_of _ (by decide +kernel)) ggX7_pass_X4_put
set_option maxRecDepth 20000 in
theorem ggX7_pass_X1_passDays : GoodIn wsX7_pass wsX1_passDays := goodIn_r _ [30, 31, 32, 33, 34, 35, 36, 37, 38, 39, 40, 41, 42, 43, 44, 45, 29, 46, 47, 48, 49, 15, 16, 17, 50, 51, 52, 53, 54, 55, 56, 57, 58, 59, 60, 61, 62, 63, 64, 65, 66, 67, 68, 69, 70, 71, 72, 73, 74, 75, 76, 77, 78, 79, 80, 81, 82, 83, 84, 85, 86, 87, 88, 89, 90, 91, 92, 93, 94, 95, 109, 110, 111, 112, 118, 119, 120, 121, 122, 123, 124, 125, 126, 127] (by decide +kernel) (by decide +kernel)
set_option maxRecDepth 20000 in
theorem gX7_pass_X1_passDays : GoodIn wsX7_pass (wsV RX7 154 RX1 yX1_passDays wsX1_passDays) := goodIn_app (goodIn_of _ (by decide +kernel)) ggX7_pass_X1_passDays
theorem dX7_pass_0 : decode cX7_pass 0 = .ok (.iload_n 1, 1) := by decide +kernel
theorem dX7_pass_1 : decode cX7_pass 1 = .ok (.iconst 1, 1) := by decide +kernel
theorem dX7_pass_2 : decode cX7_pass 2 = .ok (.if_icmp .lt 9, 3) := by decide +kernel
theorem dX7_pass_5 : decode cX7_pass 5 = .ok (.iload_n 1, 1) := by decide +kernel
theorem dX7_pass_6 : decode cX7_pass 6 = .ok (.bipush 30, 2) := by decide +kernel
theorem dX7_pass_8 : decode cX7_pass 8 = .ok (.if_icmp .le 5, 3) := by decide +kernel
theorem dX7_pass_11 : decode cX7_pass 11 = .ok (.iconst (-1), 1) := by decide +kernel
theorem dX7_pass_12 : decode cX7_pass 12 = .ok (.ireturn, 1) := by decide +kernel
theorem dX7_pass_13 : decode cX7_pass 13 = .ok (.aload_n 0, 1) := by decide +kernel
theorem dX7_pass_14 : decode cX7_pass 14 = .ok (.getfield 38, 3) := by decide +kernel
theorem dX7_pass_17 : decode cX7_pass 17 = .ok (.aload_n 0, 1) := by decide +kernel
theorem dX7_pass_18 : decode cX7_pass 18 = .ok (.getfield 26, 3) := by decide +kernel
theorem dX7_pass_21 : decode cX7_pass 21 = .ok (.invokevirtual 150, 3) := by decide +kernel
theorem dX7_pass_24 : decode cX7_pass 24 = .ok (.aload_n 0, 1) := by decide +kernel
theorem dX7_pass_25 : decode cX7_pass 25 = .ok (.getfield 26, 3) := by decide +kernel
theorem dX7_pass_28 : decode cX7_pass 28 = .ok (.aload_n 0, 1) := by decide +kernel
theorem dX7_pass_29 : decode cX7_pass 29 = .ok (.getfield 69, 3) := by decide +kernel
theorem dX7_pass_32 : decode cX7_pass 32 = .ok (.iload_n 1, 1) := by decide +kernel
theorem dX7_pass_33 : decode cX7_pass 33 = .ok (.invokevirtual 154, 3) := by decide +kernel
theorem dX7_pass_36 : decode cX7_pass 36 = .ok (.aload_n 0, 1) := by decide +kernel
theorem dX7_pass_37 : decode cX7_pass 37 = .ok (.getfield 26, 3) := by decide +kernel
theorem dX7_pass_40 : decode cX7_pass 40 = .ok (.getfield 158, 3) := by decide +kernel
theorem dX7_pass_43 : decode cX7_pass 43 = .ok (.ireturn, 1) := by decide +kernel
set_option maxRecDepth 20000 in
theorem ggX7_saw_X3_hasCell : GoodIn wsX7_saw wsX3_hasCell := goodIn_r _ [9, 10, 56, 57, 58, 59, 60, 61, 62, 63, 64, 65] (by decide +kernel) (by decide +kernel)
set_option maxRecDepth 20000 in
theorem gX7_saw_X3_hasCell : GoodIn wsX7_saw (wsV RX7 106 RX3 yX3_hasCell wsX3_hasCell) := goodIn_app (goodIn_of _ (by decide +kernel)) ggX7_saw_X3_hasCell
set_option maxRecDepth 20000 in
theorem ggX7_saw_X4_put : GoodIn wsX7_saw wsX4_put := goodIn_r _ [15, 16, 17, 18, 19, 20, 21, 22, 23, 24, 25, 26, 27, 28, 29, 30, 14, 31, 66, 67, 68, 69, 70, 52, 53, 54, 55] (by decide +kernel) (by decide +kernel)
set_option maxRecDepth 20000 in
theorem gX7_saw_X4_put : GoodIn wsX7_saw (wsV RX7 150 RX4 yX4_put wsX4_put) := goodIn_app (goodIn_of _ (by decide +kernel)) ggX7_saw_X4_put
set_option maxRecDepth 20000 in
theorem ggX7_saw_X1_sawOut : GoodIn wsX7_saw wsX1_sawOut := goodIn_r _ [36, 37, 38, 52, 53, 54, 55] (by decide +kernel) (by decide +kernel)
set_option maxRecDepth 20000 in
theorem gX7_saw_X1_sawOut : GoodIn wsX7_saw (wsV RX7 161 RX1 yX1_sawOut wsX1_sawOut) := goodIn_app (goodIn_of _ (by decide +kernel)) ggX7_saw_X1_sawOut
theorem dX7_saw_0 : decode cX7_saw 0 = .ok (.aload_n 0, 1) := by decide +kernel
theorem dX7_saw_1 : decode cX7_saw 1 = .ok (.getfield 69, 3) := by decide +kernel
theorem dX7_saw_4 : decode cX7_saw 4 = .ok (.iload_n 1, 1) := by decide +kernel
theorem dX7_saw_5 : decode cX7_saw 5 = .ok (.invokevirtual 106, 3) := by decide +kernel
theorem dX7_saw_8 : decode cX7_saw 8 = .ok (.ifCond .ne 5, 3) := by decide +kernel
theorem dX7_saw_11 : decode cX7_saw 11 = .ok (.iconst (-1), 1) := by decide +kernel
theorem dX7_saw_12 : decode cX7_saw 12 = .ok (.ireturn, 1) := by decide +kernel
theorem dX7_saw_13 : decode cX7_saw 13 = .ok (.aload_n 0, 1) := by decide +kernel
theorem dX7_saw_14 : decode cX7_saw 14 = .ok (.getfield 26, 3) := by decide +kernel
theorem dX7_saw_17 : decode cX7_saw 17 = .ok (.getfield 113, 3) := by decide +kernel
theorem dX7_saw_20 : decode cX7_saw 20 = .ok (.iload_n 1, 1) := by decide +kernel
theorem dX7_saw_21 : decode cX7_saw 21 = .ok (.iaload, 1) := by decide +kernel
theorem dX7_saw_22 : decode cX7_saw 22 = .ok (.istore_n 2, 1) := by decide +kernel
theorem dX7_saw_23 : decode cX7_saw 23 = .ok (.iload_n 2, 1) := by decide +kernel
theorem dX7_saw_24 : decode cX7_saw 24 = .ok (.ifCond .ne 6, 3) := by decide +kernel
theorem dX7_saw_27 : decode cX7_saw 27 = .ok (.bipush (-2), 2) := by decide +kernel
theorem dX7_saw_29 : decode cX7_saw 29 = .ok (.ireturn, 1) := by decide +kernel
theorem dX7_saw_30 : decode cX7_saw 30 = .ok (.aload_n 0, 1) := by decide +kernel
theorem dX7_saw_31 : decode cX7_saw 31 = .ok (.getfield 38, 3) := by decide +kernel
theorem dX7_saw_34 : decode cX7_saw 34 = .ok (.aload_n 0, 1) := by decide +kernel
theorem dX7_saw_35 : decode cX7_saw 35 = .ok (.getfield 26, 3) := by decide +kernel
theorem dX7_saw_38 : decode cX7_saw 38 = .ok (.invokevirtual 150, 3) := by decide +kernel
theorem dX7_saw_41 : decode cX7_saw 41 = .ok (.aload_n 0, 1) := by decide +kernel
theorem dX7_saw_42 : decode cX7_saw 42 = .ok (.getfield 26, 3) := by decide +kernel
theorem dX7_saw_45 : decode cX7_saw 45 = .ok (.iload_n 1, 1) := by decide +kernel
theorem dX7_saw_46 : decode cX7_saw 46 = .ok (.invokevirtual 161, 3) := by decide +kernel
theorem dX7_saw_49 : decode cX7_saw 49 = .ok (.iload_n 2, 1) := by decide +kernel
theorem dX7_saw_50 : decode cX7_saw 50 = .ok (.ireturn, 1) := by decide +kernel
set_option maxRecDepth 20000 in
theorem ggX7_sell_X3_hasCell : GoodIn wsX7_sell wsX3_hasCell := goodIn_r _ [9, 10, 53, 54, 55, 56, 57, 58, 59, 60, 61, 62] (by decide +kernel) (by decide +kernel)
set_option maxRecDepth 20000 in
theorem gX7_sell_X3_hasCell : GoodIn wsX7_sell (wsV RX7 106 RX3 yX3_hasCell wsX3_hasCell) := goodIn_app (goodIn_of _ (by decide +kernel)) ggX7_sell_X3_hasCell
set_option maxRecDepth 20000 in
theorem ggX7_sell_X7_isFamily : GoodIn wsX7_sell wsX7_isFamily := goodIn_r _ [14] (by decide +kernel) (by decide +kernel)
set_option maxRecDepth 20000 in
theorem gX7_sell_X7_isFamily : GoodIn wsX7_sell (va_wsS RX7 130 yX7_isFamily wsX7_isFamily) := goodIn_app (goodIn_of _ (by decide +kernel)) ggX7_sell_X7_isFamily
set_option maxRecDepth 20000 in
theorem ggX7_sell_X4_put : GoodIn wsX7_sell wsX4_put := goodIn_r _ [19, 20, 21, 22, 23, 24, 25, 26, 27, 28, 29, 30, 31, 32, 33, 34, 18, 35, 63, 64, 65, 66, 67, 49, 50, 51, 52] (by decide +kernel) (by decide +kernel)
set_option maxRecDepth 20000 in
theorem gX7_sell_X4_put : GoodIn wsX7_sell (wsV RX7 150 RX4 yX4_put wsX4_put) := goodIn_app (goodIn_of _ (by decide +kernel)) ggX7_sell_X4_put
theorem dX7_sell_0 : decode cX7_sell 0 = .ok (.aload_n 0, 1) := by decide +kernel
theorem dX7_sell_1 : decode cX7_sell 1 = .ok (.getfield 69, 3) := by decide +kernel
theorem dX7_sell_4 : decode cX7_sell 4 = .ok (.iload_n 1, 1) := by decide +kernel
theorem dX7_sell_5 : decode cX7_sell 5 = .ok (.invokevirtual 106, 3) := by decide +kernel
theorem dX7_sell_8 : decode cX7_sell 8 = .ok (.ifCond .eq 10, 3) := by decide +kernel
theorem dX7_sell_11 : decode cX7_sell 11 = .ok (.iload_n 2, 1) := by decide +kernel
theorem dX7_sell_12 : decode cX7_sell 12 = .ok (.invokestatic 130, 3) := by decide +kernel
theorem dX7_sell_15 : decode cX7_sell 15 = .ok (.ifCond .ne 5, 3) := by decide +kernel
theorem dX7_sell_18 : decode cX7_sell 18 = .ok (.iconst (-1), 1) := by decide +kernel
theorem dX7_sell_19 : decode cX7_sell 19 = .ok (.ireturn, 1) := by decide +kernel
theorem dX7_sell_20 : decode cX7_sell 20 = .ok (.aload_n 0, 1) := by decide +kernel
theorem dX7_sell_21 : decode cX7_sell 21 = .ok (.getfield 26, 3) := by decide +kernel
theorem dX7_sell_24 : decode cX7_sell 24 = .ok (.getfield 116, 3) := by decide +kernel
theorem dX7_sell_27 : decode cX7_sell 27 = .ok (.iload_n 1, 1) := by decide +kernel
theorem dX7_sell_28 : decode cX7_sell 28 = .ok (.iaload, 1) := by decide +kernel
theorem dX7_sell_29 : decode cX7_sell 29 = .ok (.istore_n 3, 1) := by decide +kernel
theorem dX7_sell_30 : decode cX7_sell 30 = .ok (.iload_n 3, 1) := by decide +kernel
theorem dX7_sell_31 : decode cX7_sell 31 = .ok (.bipush (-4), 2) := by decide +kernel
theorem dX7_sell_33 : decode cX7_sell 33 = .ok (.if_icmp .eq 8, 3) := by decide +kernel
theorem dX7_sell_36 : decode cX7_sell 36 = .ok (.iload_n 3, 1) := by decide +kernel
theorem dX7_sell_37 : decode cX7_sell 37 = .ok (.iload_n 2, 1) := by decide +kernel
theorem dX7_sell_38 : decode cX7_sell 38 = .ok (.if_icmp .ne 6, 3) := by decide +kernel
theorem dX7_sell_41 : decode cX7_sell 41 = .ok (.bipush (-2), 2) := by decide +kernel
theorem dX7_sell_43 : decode cX7_sell 43 = .ok (.ireturn, 1) := by decide +kernel
theorem dX7_sell_44 : decode cX7_sell 44 = .ok (.aload_n 0, 1) := by decide +kernel
theorem dX7_sell_45 : decode cX7_sell 45 = .ok (.getfield 38, 3) := by decide +kernel
theorem dX7_sell_48 : decode cX7_sell 48 = .ok (.aload_n 0, 1) := by decide +kernel
theorem dX7_sell_49 : decode cX7_sell 49 = .ok (.getfield 26, 3) := by decide +kernel
theorem dX7_sell_52 : decode cX7_sell 52 = .ok (.invokevirtual 150, 3) := by decide +kernel
theorem dX7_sell_55 : decode cX7_sell 55 = .ok (.aload_n 0, 1) := by decide +kernel
theorem dX7_sell_56 : decode cX7_sell 56 = .ok (.getfield 26, 3) := by decide +kernel
theorem dX7_sell_59 : decode cX7_sell 59 = .ok (.getfield 116, 3) := by decide +kernel
theorem dX7_sell_62 : decode cX7_sell 62 = .ok (.iload_n 1, 1) := by decide +kernel
theorem dX7_sell_63 : decode cX7_sell 63 = .ok (.iload_n 2, 1) := by decide +kernel
theorem dX7_sell_64 : decode cX7_sell 64 = .ok (.iastore, 1) := by decide +kernel
theorem dX7_sell_65 : decode cX7_sell 65 = .ok (.iload_n 3, 1) := by decide +kernel
theorem dX7_sell_66 : decode cX7_sell 66 = .ok (.ireturn, 1) := by decide +kernel
set_option maxRecDepth 20000 in
theorem ggX7_undo_X4_takeInto : GoodIn wsX7_undo wsX4_takeInto := goodIn_r _ [8, 9, 10, 11, 12, 13, 14, 15, 16, 17, 18, 19, 20, 34, 35, 36, 37, 38, 39, 40, 41, 42] (by decide +kernel) (by decide +kernel)
set_option maxRecDepth 20000 in
theorem gX7_undo_X4_takeInto : GoodIn wsX7_undo (wsV RX7 164 RX4 yX4_takeInto wsX4_takeInto) := goodIn_app (goodIn_of _ (by decide +kernel)) ggX7_undo_X4_takeInto
theorem dX7_undo_0 : decode cX7_undo 0 = .ok (.aload_n 0, 1) := by decide +kernel
theorem dX7_undo_1 : decode cX7_undo 1 = .ok (.getfield 38, 3) := by decide +kernel
theorem dX7_undo_4 : decode cX7_undo 4 = .ok (.aload_n 0, 1) := by decide +kernel
theorem dX7_undo_5 : decode cX7_undo 5 = .ok (.getfield 26, 3) := by decide +kernel
theorem dX7_undo_8 : decode cX7_undo 8 = .ok (.invokevirtual 164, 3) := by decide +kernel
theorem dX7_undo_11 : decode cX7_undo 11 = .ok (.ifCond .eq 13, 3) := by decide +kernel
theorem dX7_undo_14 : decode cX7_undo 14 = .ok (.aload_n 0, 1) := by decide +kernel
theorem dX7_undo_15 : decode cX7_undo 15 = .ok (.getfield 38, 3) := by decide +kernel
theorem dX7_undo_18 : decode cX7_undo 18 = .ok (.getfield 168, 3) := by decide +kernel
theorem dX7_undo_21 : decode cX7_undo 21 = .ok (.goto 5, 3) := by decide +kernel
theorem dX7_undo_24 : decode cX7_undo 24 = .ok (.bipush (-2), 2) := by decide +kernel
theorem dX7_undo_26 : decode cX7_undo 26 = .ok (.ireturn, 1) := by decide +kernel
set_option maxRecDepth 20000 in
theorem ggX7_behind_X3_hasCell : GoodIn wsX7_behind wsX3_hasCell := goodIn_r _ [10, 11, 105, 106, 107, 108, 109, 110, 111, 112, 113, 114] (by decide +kernel) (by decide +kernel)
set_option maxRecDepth 20000 in
theorem gX7_behind_X3_hasCell : GoodIn wsX7_behind (wsV RX7 106 RX3 yX3_hasCell wsX3_hasCell) := goodIn_app (goodIn_of _ (by decide +kernel)) ggX7_behind_X3_hasCell
set_option maxRecDepth 20000 in
theorem ggX7_behind_X7_isEither : GoodIn wsX7_behind wsX7_isEither := goodIn_r _ [15] (by decide +kernel) (by decide +kernel)
set_option maxRecDepth 20000 in
theorem gX7_behind_X7_isEither : GoodIn wsX7_behind (va_wsS RX7 171 yX7_isEither wsX7_isEither) := goodIn_app (goodIn_of _ (by decide +kernel)) ggX7_behind_X7_isEither
set_option maxRecDepth 20000 in
theorem ggX7_behind_X1_setTo : GoodIn wsX7_behind wsX1_setTo := goodIn_r _ [20, 21, 22, 23, 24, 25, 26, 27, 101, 102, 103, 104] (by decide +kernel) (by decide +kernel)
set_option maxRecDepth 20000 in
theorem gX7_behind_X1_setTo : GoodIn wsX7_behind (wsV RX7 174 RX1 yX1_setTo wsX1_setTo) := goodIn_app (goodIn_of _ (by decide +kernel)) ggX7_behind_X1_setTo
set_option maxRecDepth 20000 in
theorem ggX7_behind_X1_passDays : GoodIn wsX7_behind wsX1_passDays := goodIn_r _ [31, 27, 32, 33, 34, 9, 35, 36, 37, 38, 39, 40, 41, 42, 43, 44, 19, 45, 26, 46, 22, 23, 24, 25, 47, 21, 48, 49, 50, 51, 52, 53, 54, 55, 56, 57, 58, 59, 60, 61, 62, 63, 64, 65, 66, 67, 68, 69, 70, 71, 72, 73, 74, 75, 76, 77, 78, 79, 80, 81, 82, 83, 84, 85, 86, 87, 7, 8, 10, 11, 101, 102, 103, 104, 105, 106, 107, 108, 109, 110, 111, 112, 113, 114] (by decide +kernel) (by decide +kernel)
set_option maxRecDepth 20000 in
theorem gX7_behind_X1_passDays : GoodIn wsX7_behind (wsV RX7 154 RX1 yX1_passDays wsX1_passDays) := goodIn_app (goodIn_of _ (by decide +kernel)) ggX7_behind_X1_passDays
theorem dX7_behind_0 : decode cX7_behind 0 = .ok (.iload_n 1, 1) := by decide +kernel
theorem dX7_behind_1 : decode cX7_behind 1 = .ok (.ifCond .lt 27, 3) := by decide +kernel
theorem dX7_behind_4 : decode cX7_behind 4 = .ok (.iload_n 1, 1) := by decide +kernel
theorem dX7_behind_5 : decode cX7_behind 5 = .ok (.bipush 60, 2) := by decide +kernel
theorem dX7_behind_7 : decode cX7_behind 7 = .ok (.if_icmp .gt 21, 3) := by decide +kernel
theorem dX7_behind_10 : decode cX7_behind 10 = .ok (.aload_n 0, 1) := by decide +kernel
theorem dX7_behind_11 : decode cX7_behind 11 = .ok (.getfield 69, 3) := by decide +kernel
theorem dX7_behind_14 : decode cX7_behind 14 = .ok (.iload_n 2, 1) := by decide +kernel
theorem dX7_behind_15 : decode cX7_behind 15 = .ok (.invokevirtual 106, 3) := by decide +kernel
theorem dX7_behind_18 : decode cX7_behind 18 = .ok (.ifCond .eq 10, 3) := by decide +kernel
theorem dX7_behind_21 : decode cX7_behind 21 = .ok (.iload_n 3, 1) := by decide +kernel
theorem dX7_behind_22 : decode cX7_behind 22 = .ok (.invokestatic 171, 3) := by decide +kernel
theorem dX7_behind_25 : decode cX7_behind 25 = .ok (.ifCond .ne 5, 3) := by decide +kernel
theorem dX7_behind_28 : decode cX7_behind 28 = .ok (.iconst (-1), 1) := by decide +kernel
theorem dX7_behind_29 : decode cX7_behind 29 = .ok (.ireturn, 1) := by decide +kernel
theorem dX7_behind_30 : decode cX7_behind 30 = .ok (.aload_n 0, 1) := by decide +kernel
theorem dX7_behind_31 : decode cX7_behind 31 = .ok (.getfield 30, 3) := by decide +kernel
theorem dX7_behind_34 : decode cX7_behind 34 = .ok (.aload_n 0, 1) := by decide +kernel
theorem dX7_behind_35 : decode cX7_behind 35 = .ok (.getfield 26, 3) := by decide +kernel
theorem dX7_behind_38 : decode cX7_behind 38 = .ok (.invokevirtual 174, 3) := by decide +kernel
theorem dX7_behind_41 : decode cX7_behind 41 = .ok (.aload_n 0, 1) := by decide +kernel
theorem dX7_behind_42 : decode cX7_behind 42 = .ok (.getfield 30, 3) := by decide +kernel
theorem dX7_behind_45 : decode cX7_behind 45 = .ok (.aload_n 0, 1) := by decide +kernel
theorem dX7_behind_46 : decode cX7_behind 46 = .ok (.getfield 69, 3) := by decide +kernel
theorem dX7_behind_49 : decode cX7_behind 49 = .ok (.iload_n 1, 1) := by decide +kernel
theorem dX7_behind_50 : decode cX7_behind 50 = .ok (.invokevirtual 154, 3) := by decide +kernel
theorem dX7_behind_53 : decode cX7_behind 53 = .ok (.iload_n 3, 1) := by decide +kernel
theorem dX7_behind_54 : decode cX7_behind 54 = .ok (.ifCond .ne 15, 3) := by decide +kernel
theorem dX7_behind_57 : decode cX7_behind 57 = .ok (.aload_n 0, 1) := by decide +kernel
theorem dX7_behind_58 : decode cX7_behind 58 = .ok (.getfield 30, 3) := by decide +kernel
theorem dX7_behind_61 : decode cX7_behind 61 = .ok (.getfield 113, 3) := by decide +kernel
theorem dX7_behind_64 : decode cX7_behind 64 = .ok (.iload_n 2, 1) := by decide +kernel
theorem dX7_behind_65 : decode cX7_behind 65 = .ok (.iaload, 1) := by decide +kernel
theorem dX7_behind_66 : decode cX7_behind 66 = .ok (.goto 12, 3) := by decide +kernel
theorem dX7_behind_69 : decode cX7_behind 69 = .ok (.aload_n 0, 1) := by decide +kernel
theorem dX7_behind_70 : decode cX7_behind 70 = .ok (.getfield 30, 3) := by decide +kernel
theorem dX7_behind_73 : decode cX7_behind 73 = .ok (.getfield 116, 3) := by decide +kernel
theorem dX7_behind_76 : decode cX7_behind 76 = .ok (.iload_n 2, 1) := by decide +kernel
theorem dX7_behind_77 : decode cX7_behind 77 = .ok (.iaload, 1) := by decide +kernel
theorem dX7_behind_78 : decode cX7_behind 78 = .ok (.ireturn, 1) := by decide +kernel
set_option maxRecDepth 20000 in
theorem ggX7_landless_X7_isEither : GoodIn wsX7_landless wsX7_isEither := goodIn_r _ [7] (by decide +kernel) (by decide +kernel)
set_option maxRecDepth 20000 in
theorem gX7_landless_X7_isEither : GoodIn wsX7_landless (va_wsS RX7 171 yX7_isEither wsX7_isEither) := goodIn_app (goodIn_of _ (by decide +kernel)) ggX7_landless_X7_isEither
set_option maxRecDepth 20000 in
theorem ggX7_landless_X1_setTo : GoodIn wsX7_landless wsX1_setTo := goodIn_r _ [12, 13, 14, 15, 16, 17, 18, 19, 102, 103, 104, 105] (by decide +kernel) (by decide +kernel)
set_option maxRecDepth 20000 in
theorem gX7_landless_X1_setTo : GoodIn wsX7_landless (wsV RX7 174 RX1 yX1_setTo wsX1_setTo) := goodIn_app (goodIn_of _ (by decide +kernel)) ggX7_landless_X1_setTo
set_option maxRecDepth 20000 in
theorem ggX7_landless_X1_passDays : GoodIn wsX7_landless wsX1_passDays := goodIn_r _ [23, 19, 24, 25, 26, 27, 28, 29, 30, 31, 32, 33, 34, 35, 36, 37, 11, 38, 18, 39, 14, 15, 16, 17, 40, 13, 41, 42, 43, 44, 45, 46, 47, 48, 49, 50, 51, 52, 53, 54, 55, 56, 57, 58, 59, 60, 61, 62, 63, 64, 65, 66, 67, 68, 69, 70, 71, 72, 73, 74, 75, 76, 77, 78, 79, 80, 81, 82, 83, 84, 102, 103, 104, 105, 106, 107, 108, 109, 110, 111, 112, 113, 114, 115] (by decide +kernel) (by decide +kernel)
set_option maxRecDepth 20000 in
theorem gX7_landless_X1_passDays : GoodIn wsX7_landless (wsV RX7 154 RX1 yX1_passDays wsX1_passDays) := goodIn_app (goodIn_of _ (by decide +kernel)) ggX7_landless_X1_passDays
set_option maxRecDepth 20000 in
theorem ggX7_landless_X1_hasAny : GoodIn wsX7_landless wsX1_hasAny := goodIn_r _ [88, 40, 18, 106, 107, 108, 109, 110, 111, 112, 113, 114, 115, 102, 103, 104, 105] (by decide +kernel) (by decide +kernel)
set_option maxRecDepth 20000 in
theorem gX7_landless_X1_hasAny : GoodIn wsX7_landless (wsV RX7 177 RX1 yX1_hasAny wsX1_hasAny) := goodIn_app (goodIn_of _ (by decide +kernel)) ggX7_landless_X1_hasAny
theorem dX7_landless_0 : decode cX7_landless 0 = .ok (.iload_n 1, 1) := by decide +kernel
theorem dX7_landless_1 : decode cX7_landless 1 = .ok (.invokestatic 171, 3) := by decide +kernel
theorem dX7_landless_4 : decode cX7_landless 4 = .ok (.ifCond .ne 5, 3) := by decide +kernel
theorem dX7_landless_7 : decode cX7_landless 7 = .ok (.iconst (-1), 1) := by decide +kernel
theorem dX7_landless_8 : decode cX7_landless 8 = .ok (.ireturn, 1) := by decide +kernel
theorem dX7_landless_9 : decode cX7_landless 9 = .ok (.aload_n 0, 1) := by decide +kernel
theorem dX7_landless_10 : decode cX7_landless 10 = .ok (.getfield 30, 3) := by decide +kernel
theorem dX7_landless_13 : decode cX7_landless 13 = .ok (.aload_n 0, 1) := by decide +kernel
theorem dX7_landless_14 : decode cX7_landless 14 = .ok (.getfield 26, 3) := by decide +kernel
theorem dX7_landless_17 : decode cX7_landless 17 = .ok (.invokevirtual 174, 3) := by decide +kernel
theorem dX7_landless_20 : decode cX7_landless 20 = .ok (.iconst 1, 1) := by decide +kernel
theorem dX7_landless_21 : decode cX7_landless 21 = .ok (.istore_n 2, 1) := by decide +kernel
theorem dX7_landless_22 : decode cX7_landless 22 = .ok (.iload_n 2, 1) := by decide +kernel
theorem dX7_landless_23 : decode cX7_landless 23 = .ok (.bipush 60, 2) := by decide +kernel
theorem dX7_landless_25 : decode cX7_landless 25 = .ok (.if_icmp .gt 74, 3) := by decide +kernel
theorem dX7_landless_28 : decode cX7_landless 28 = .ok (.aload_n 0, 1) := by decide +kernel
theorem dX7_landless_29 : decode cX7_landless 29 = .ok (.getfield 30, 3) := by decide +kernel
theorem dX7_landless_32 : decode cX7_landless 32 = .ok (.aload_n 0, 1) := by decide +kernel
theorem dX7_landless_33 : decode cX7_landless 33 = .ok (.getfield 69, 3) := by decide +kernel
theorem dX7_landless_36 : decode cX7_landless 36 = .ok (.iconst 1, 1) := by decide +kernel
theorem dX7_landless_37 : decode cX7_landless 37 = .ok (.invokevirtual 154, 3) := by decide +kernel
theorem dX7_landless_40 : decode cX7_landless 40 = .ok (.iconst 0, 1) := by decide +kernel
theorem dX7_landless_41 : decode cX7_landless 41 = .ok (.istore_n 3, 1) := by decide +kernel
theorem dX7_landless_42 : decode cX7_landless 42 = .ok (.iload_n 3, 1) := by decide +kernel
theorem dX7_landless_43 : decode cX7_landless 43 = .ok (.iconst 4, 1) := by decide +kernel
theorem dX7_landless_44 : decode cX7_landless 44 = .ok (.if_icmp .ge 49, 3) := by decide +kernel
theorem dX7_landless_47 : decode cX7_landless 47 = .ok (.aload_n 0, 1) := by decide +kernel
theorem dX7_landless_48 : decode cX7_landless 48 = .ok (.getfield 30, 3) := by decide +kernel
theorem dX7_landless_51 : decode cX7_landless 51 = .ok (.aload_n 0, 1) := by decide +kernel
theorem dX7_landless_52 : decode cX7_landless 52 = .ok (.getfield 69, 3) := by decide +kernel
theorem dX7_landless_55 : decode cX7_landless 55 = .ok (.iload_n 3, 1) := by decide +kernel
theorem dX7_landless_56 : decode cX7_landless 56 = .ok (.invokevirtual 177, 3) := by decide +kernel
theorem dX7_landless_59 : decode cX7_landless 59 = .ok (.ifCond .ne 28, 3) := by decide +kernel
theorem dX7_landless_62 : decode cX7_landless 62 = .ok (.aload_n 0, 1) := by decide +kernel
theorem dX7_landless_63 : decode cX7_landless 63 = .ok (.getfield 26, 3) := by decide +kernel
theorem dX7_landless_66 : decode cX7_landless 66 = .ok (.aload_n 0, 1) := by decide +kernel
theorem dX7_landless_67 : decode cX7_landless 67 = .ok (.getfield 69, 3) := by decide +kernel
theorem dX7_landless_70 : decode cX7_landless 70 = .ok (.iload_n 3, 1) := by decide +kernel
theorem dX7_landless_71 : decode cX7_landless 71 = .ok (.invokevirtual 177, 3) := by decide +kernel
theorem dX7_landless_74 : decode cX7_landless 74 = .ok (.ifCond .eq 13, 3) := by decide +kernel
theorem dX7_landless_77 : decode cX7_landless 77 = .ok (.iload_n 1, 1) := by decide +kernel
theorem dX7_landless_78 : decode cX7_landless 78 = .ok (.ifCond .ne 7, 3) := by decide +kernel
theorem dX7_landless_81 : decode cX7_landless 81 = .ok (.iload_n 3, 1) := by decide +kernel
theorem dX7_landless_82 : decode cX7_landless 82 = .ok (.goto 4, 3) := by decide +kernel
theorem dX7_landless_85 : decode cX7_landless 85 = .ok (.iload_n 2, 1) := by decide +kernel
theorem dX7_landless_86 : decode cX7_landless 86 = .ok (.ireturn, 1) := by decide +kernel
theorem dX7_landless_87 : decode cX7_landless 87 = .ok (.iinc 3 1, 3) := by decide +kernel
theorem dX7_landless_90 : decode cX7_landless 90 = .ok (.goto (-48), 3) := by decide +kernel
theorem dX7_landless_93 : decode cX7_landless 93 = .ok (.iinc 2 1, 3) := by decide +kernel
theorem dX7_landless_96 : decode cX7_landless 96 = .ok (.goto (-74), 3) := by decide +kernel
theorem dX7_landless_99 : decode cX7_landless 99 = .ok (.bipush (-4), 2) := by decide +kernel
theorem dX7_landless_101 : decode cX7_landless 101 = .ok (.ireturn, 1) := by decide +kernel
set_option maxRecDepth 20000 in
theorem ggX7_falls_X3_hasCell : GoodIn wsX7_falls wsX3_hasCell := goodIn_r _ [8, 9, 104, 105, 106, 107, 108, 109, 110, 111, 112, 113] (by decide +kernel) (by decide +kernel)
set_option maxRecDepth 20000 in
theorem gX7_falls_X3_hasCell : GoodIn wsX7_falls (wsV RX7 106 RX3 yX3_hasCell wsX3_hasCell) := goodIn_app (goodIn_of _ (by decide +kernel)) ggX7_falls_X3_hasCell
set_option maxRecDepth 20000 in
theorem ggX7_falls_X7_isWeight : GoodIn wsX7_falls wsX7_isWeight := goodIn_r _ [13] (by decide +kernel) (by decide +kernel)
set_option maxRecDepth 20000 in
theorem gX7_falls_X7_isWeight : GoodIn wsX7_falls (va_wsS RX7 181 yX7_isWeight wsX7_isWeight) := goodIn_app (goodIn_of _ (by decide +kernel)) ggX7_falls_X7_isWeight
set_option maxRecDepth 20000 in
theorem ggX7_falls_X1_setTo : GoodIn wsX7_falls wsX1_setTo := goodIn_r _ [18, 19, 20, 21, 22, 23, 24, 25, 114, 115, 116, 117] (by decide +kernel) (by decide +kernel)
set_option maxRecDepth 20000 in
theorem gX7_falls_X1_setTo : GoodIn wsX7_falls (wsV RX7 174 RX1 yX1_setTo wsX1_setTo) := goodIn_app (goodIn_of _ (by decide +kernel)) ggX7_falls_X1_setTo
set_option maxRecDepth 20000 in
theorem ggX7_falls_X1_bears : GoodIn wsX7_falls wsX1_bears := goodIn_r _ [29, 19, 30, 31, 5, 6, 7, 8, 9, 32, 33, 34, 35, 36, 37, 114, 115, 116, 117, 104, 105, 106, 107, 108, 109, 110, 111, 112, 113] (by decide +kernel) (by decide +kernel)
set_option maxRecDepth 20000 in
theorem gX7_falls_X1_bears : GoodIn wsX7_falls (wsV RX7 122 RX1 yX1_bears wsX1_bears) := goodIn_app (goodIn_of _ (by decide +kernel)) ggX7_falls_X1_bears
set_option maxRecDepth 20000 in
theorem ggX7_falls_X1_passDays : GoodIn wsX7_falls wsX1_passDays := goodIn_r _ [41, 25, 42, 43, 44, 7, 45, 46, 47, 48, 49, 50, 51, 52, 53, 54, 17, 55, 24, 56, 20, 21, 22, 23, 57, 19, 30, 58, 59, 60, 61, 62, 63, 64, 65, 66, 67, 68, 69, 70, 71, 72, 73, 74, 75, 76, 77, 78, 79, 80, 81, 82, 83, 84, 85, 86, 87, 88, 89, 90, 32, 33, 34, 35, 36, 37, 5, 6, 8, 9, 114, 115, 116, 117, 104, 105, 106, 107, 108, 109, 110, 111, 112, 113] (by decide +kernel) (by decide +kernel)
set_option maxRecDepth 20000 in
theorem gX7_falls_X1_passDays : GoodIn wsX7_falls (wsV RX7 154 RX1 yX1_passDays wsX1_passDays) := goodIn_app (goodIn_of _ (by decide +kernel)) ggX7_falls_X1_passDays
theorem dX7_falls_0 : decode cX7_falls 0 = .ok (.aload_n 0, 1) := by decide +kernel
theorem dX7_falls_1 : decode cX7_falls 1 = .ok (.getfield 69, 3) := by decide +kernel
theorem dX7_falls_4 : decode cX7_falls 4 = .ok (.iload_n 1, 1) := by decide +kernel
theorem dX7_falls_5 : decode cX7_falls 5 = .ok (.invokevirtual 106, 3) := by decide +kernel
theorem dX7_falls_8 : decode cX7_falls 8 = .ok (.ifCond .eq 10, 3) := by decide +kernel
theorem dX7_falls_11 : decode cX7_falls 11 = .ok (.iload_n 2, 1) := by decide +kernel
theorem dX7_falls_12 : decode cX7_falls 12 = .ok (.invokestatic 181, 3) := by decide +kernel
theorem dX7_falls_15 : decode cX7_falls 15 = .ok (.ifCond .ne 5, 3) := by decide +kernel
theorem dX7_falls_18 : decode cX7_falls 18 = .ok (.iconst (-1), 1) := by decide +kernel
theorem dX7_falls_19 : decode cX7_falls 19 = .ok (.ireturn, 1) := by decide +kernel
theorem dX7_falls_20 : decode cX7_falls 20 = .ok (.aload_n 0, 1) := by decide +kernel
theorem dX7_falls_21 : decode cX7_falls 21 = .ok (.getfield 30, 3) := by decide +kernel
theorem dX7_falls_24 : decode cX7_falls 24 = .ok (.aload_n 0, 1) := by decide +kernel
theorem dX7_falls_25 : decode cX7_falls 25 = .ok (.getfield 26, 3) := by decide +kernel
theorem dX7_falls_28 : decode cX7_falls 28 = .ok (.invokevirtual 174, 3) := by decide +kernel
theorem dX7_falls_31 : decode cX7_falls 31 = .ok (.iconst 0, 1) := by decide +kernel
theorem dX7_falls_32 : decode cX7_falls 32 = .ok (.istore_n 3, 1) := by decide +kernel
theorem dX7_falls_33 : decode cX7_falls 33 = .ok (.iload_n 3, 1) := by decide +kernel
theorem dX7_falls_34 : decode cX7_falls 34 = .ok (.bipush 60, 2) := by decide +kernel
theorem dX7_falls_36 : decode cX7_falls 36 = .ok (.if_icmp .gt 39, 3) := by decide +kernel
theorem dX7_falls_39 : decode cX7_falls 39 = .ok (.aload_n 0, 1) := by decide +kernel
theorem dX7_falls_40 : decode cX7_falls 40 = .ok (.getfield 30, 3) := by decide +kernel
theorem dX7_falls_43 : decode cX7_falls 43 = .ok (.aload_n 0, 1) := by decide +kernel
theorem dX7_falls_44 : decode cX7_falls 44 = .ok (.getfield 69, 3) := by decide +kernel
theorem dX7_falls_47 : decode cX7_falls 47 = .ok (.iload_n 1, 1) := by decide +kernel
theorem dX7_falls_48 : decode cX7_falls 48 = .ok (.invokevirtual 122, 3) := by decide +kernel
theorem dX7_falls_51 : decode cX7_falls 51 = .ok (.iload_n 2, 1) := by decide +kernel
theorem dX7_falls_52 : decode cX7_falls 52 = .ok (.if_icmp .ge 5, 3) := by decide +kernel
theorem dX7_falls_55 : decode cX7_falls 55 = .ok (.iload_n 3, 1) := by decide +kernel
theorem dX7_falls_56 : decode cX7_falls 56 = .ok (.ireturn, 1) := by decide +kernel
theorem dX7_falls_57 : decode cX7_falls 57 = .ok (.aload_n 0, 1) := by decide +kernel
theorem dX7_falls_58 : decode cX7_falls 58 = .ok (.getfield 30, 3) := by decide +kernel
theorem dX7_falls_61 : decode cX7_falls 61 = .ok (.aload_n 0, 1) := by decide +kernel
theorem dX7_falls_62 : decode cX7_falls 62 = .ok (.getfield 69, 3) := by decide +kernel
theorem dX7_falls_65 : decode cX7_falls 65 = .ok (.iconst 1, 1) := by decide +kernel
theorem dX7_falls_66 : decode cX7_falls 66 = .ok (.invokevirtual 154, 3) := by decide +kernel
theorem dX7_falls_69 : decode cX7_falls 69 = .ok (.iinc 3 1, 3) := by decide +kernel
theorem dX7_falls_72 : decode cX7_falls 72 = .ok (.goto (-39), 3) := by decide +kernel
theorem dX7_falls_75 : decode cX7_falls 75 = .ok (.bipush (-4), 2) := by decide +kernel
theorem dX7_falls_77 : decode cX7_falls 77 = .ok (.ireturn, 1) := by decide +kernel
set_option maxRecDepth 20000 in
theorem ggX7_toll_X7_isFamily : GoodIn wsX7_toll wsX7_isFamily := goodIn_r _ [9] (by decide +kernel) (by decide +kernel)
set_option maxRecDepth 20000 in
theorem gX7_toll_X7_isFamily : GoodIn wsX7_toll (va_wsS RX7 130 yX7_isFamily wsX7_isFamily) := goodIn_app (goodIn_of _ (by decide +kernel)) ggX7_toll_X7_isFamily
set_option maxRecDepth 20000 in
theorem ggX7_toll_X7_isWeight : GoodIn wsX7_toll wsX7_isWeight := goodIn_r _ [12] (by decide +kernel) (by decide +kernel)
set_option maxRecDepth 20000 in
theorem gX7_toll_X7_isWeight : GoodIn wsX7_toll (va_wsS RX7 181 yX7_isWeight wsX7_isWeight) := goodIn_app (goodIn_of _ (by decide +kernel)) ggX7_toll_X7_isWeight
set_option maxRecDepth 20000 in
theorem ggX7_toll_X3_hasCell : GoodIn wsX7_toll wsX3_hasCell := goodIn_r _ [17, 18, 85, 86, 87, 88, 89, 90, 91, 92, 93, 94] (by decide +kernel) (by decide +kernel)
set_option maxRecDepth 20000 in
theorem gX7_toll_X3_hasCell : GoodIn wsX7_toll (wsV RX7 106 RX3 yX3_hasCell wsX3_hasCell) := goodIn_app (goodIn_of _ (by decide +kernel)) ggX7_toll_X3_hasCell
set_option maxRecDepth 20000 in
theorem ggX7_toll_X6_clear : GoodIn wsX7_toll wsX6_clear := goodIn_r _ [23, 24, 25, 26, 27, 28, 29, 95, 96, 97] (by decide +kernel) (by decide +kernel)
set_option maxRecDepth 20000 in
theorem gX7_toll_X6_clear : GoodIn wsX7_toll (wsV RX7 184 RX6 yX6_clear wsX6_clear) := goodIn_app (goodIn_of _ (by decide +kernel)) ggX7_toll_X6_clear
set_option maxRecDepth 20000 in
theorem ggX7_toll_X1_bears : GoodIn wsX7_toll wsX1_bears := goodIn_r _ [34, 35, 36, 37, 14, 15, 16, 17, 18, 38, 39, 40, 41, 42, 43, 98, 99, 100, 101, 85, 86, 87, 88, 89, 90, 91, 92, 93, 94] (by decide +kernel) (by decide +kernel)
set_option maxRecDepth 20000 in
theorem gX7_toll_X1_bears : GoodIn wsX7_toll (wsV RX7 122 RX1 yX1_bears wsX1_bears) := goodIn_app (goodIn_of _ (by decide +kernel)) ggX7_toll_X1_bears
set_option maxRecDepth 20000 in
theorem ggX7_toll_X1_tollOf : GoodIn wsX7_toll wsX1_tollOf := goodIn_r _ [47, 48, 98, 99, 100, 101] (by decide +kernel) (by decide +kernel)
set_option maxRecDepth 20000 in
theorem gX7_toll_X1_tollOf : GoodIn wsX7_toll (wsV RX7 190 RX1 yX1_tollOf wsX1_tollOf) := goodIn_app (goodIn_of _ (by decide +kernel)) ggX7_toll_X1_tollOf
set_option maxRecDepth 20000 in
theorem ggX7_toll_X6_startAt : GoodIn wsX7_toll wsX6_startAt := goodIn_r _ [52, 53, 54, 55, 22, 56, 57, 24, 95, 96, 97] (by decide +kernel) (by decide +kernel)
set_option maxRecDepth 20000 in
theorem gX7_toll_X6_startAt : GoodIn wsX7_toll (wsV RX7 194 RX6 yX6_startAt wsX6_startAt) := goodIn_app (goodIn_of _ (by decide +kernel)) ggX7_toll_X6_startAt
set_option maxRecDepth 20000 in
theorem ggX7_toll_X6_spread : GoodIn wsX7_toll wsX6_spread := goodIn_r _ [61, 62, 25, 24, 63, 64, 65, 22, 66, 67, 39, 40, 16, 41, 42, 43, 14, 15, 17, 18, 53, 54, 55, 56, 57, 85, 86, 87, 88, 89, 90, 91, 92, 93, 94, 95, 96, 97] (by decide +kernel) (by decide +kernel)
set_option maxRecDepth 20000 in
theorem gX7_toll_X6_spread : GoodIn wsX7_toll (wsV RX7 197 RX6 yX6_spread wsX6_spread) := goodIn_app (goodIn_of _ (by decide +kernel)) ggX7_toll_X6_spread
set_option maxRecDepth 20000 in
theorem ggX7_toll_X6_leastTo : GoodIn wsX7_toll wsX6_leastTo := goodIn_r _ [71, 24, 95, 96, 97] (by decide +kernel) (by decide +kernel)
set_option maxRecDepth 20000 in
theorem gX7_toll_X6_leastTo : GoodIn wsX7_toll (wsV RX7 201 RX6 yX6_leastTo wsX6_leastTo) := goodIn_app (goodIn_of _ (by decide +kernel)) ggX7_toll_X6_leastTo
theorem dX7_toll_0 : decode cX7_toll 0 = .ok (.iload_n 1, 1) := by decide +kernel
theorem dX7_toll_1 : decode cX7_toll 1 = .ok (.invokestatic 130, 3) := by decide +kernel
theorem dX7_toll_4 : decode cX7_toll 4 = .ok (.ifCond .eq 33, 3) := by decide +kernel
theorem dX7_toll_7 : decode cX7_toll 7 = .ok (.iload_n 2, 1) := by decide +kernel
theorem dX7_toll_8 : decode cX7_toll 8 = .ok (.invokestatic 181, 3) := by decide +kernel
theorem dX7_toll_11 : decode cX7_toll 11 = .ok (.ifCond .eq 26, 3) := by decide +kernel
theorem dX7_toll_14 : decode cX7_toll 14 = .ok (.aload_n 0, 1) := by decide +kernel
theorem dX7_toll_15 : decode cX7_toll 15 = .ok (.getfield 69, 3) := by decide +kernel
theorem dX7_toll_18 : decode cX7_toll 18 = .ok (.iload_n 3, 1) := by decide +kernel
theorem dX7_toll_19 : decode cX7_toll 19 = .ok (.invokevirtual 106, 3) := by decide +kernel
theorem dX7_toll_22 : decode cX7_toll 22 = .ok (.ifCond .eq 15, 3) := by decide +kernel
theorem dX7_toll_25 : decode cX7_toll 25 = .ok (.aload_n 0, 1) := by decide +kernel
theorem dX7_toll_26 : decode cX7_toll 26 = .ok (.getfield 69, 3) := by decide +kernel
theorem dX7_toll_29 : decode cX7_toll 29 = .ok (.iload 4, 2) := by decide +kernel
theorem dX7_toll_31 : decode cX7_toll 31 = .ok (.invokevirtual 106, 3) := by decide +kernel
theorem dX7_toll_34 : decode cX7_toll 34 = .ok (.ifCond .ne 5, 3) := by decide +kernel
theorem dX7_toll_37 : decode cX7_toll 37 = .ok (.iconst (-1), 1) := by decide +kernel
theorem dX7_toll_38 : decode cX7_toll 38 = .ok (.ireturn, 1) := by decide +kernel
theorem dX7_toll_39 : decode cX7_toll 39 = .ok (.aload_n 0, 1) := by decide +kernel
theorem dX7_toll_40 : decode cX7_toll 40 = .ok (.getfield 55, 3) := by decide +kernel
theorem dX7_toll_43 : decode cX7_toll 43 = .ok (.invokevirtual 184, 3) := by decide +kernel
theorem dX7_toll_46 : decode cX7_toll 46 = .ok (.iconst 0, 1) := by decide +kernel
theorem dX7_toll_47 : decode cX7_toll 47 = .ok (.istore 5, 2) := by decide +kernel
theorem dX7_toll_49 : decode cX7_toll 49 = .ok (.iload 5, 2) := by decide +kernel
theorem dX7_toll_51 : decode cX7_toll 51 = .ok (.aload_n 0, 1) := by decide +kernel
theorem dX7_toll_52 : decode cX7_toll 52 = .ok (.getfield 69, 3) := by decide +kernel
theorem dX7_toll_55 : decode cX7_toll 55 = .ok (.getfield 103, 3) := by decide +kernel
theorem dX7_toll_58 : decode cX7_toll 58 = .ok (.if_icmp .ge 50, 3) := by decide +kernel
theorem dX7_toll_61 : decode cX7_toll 61 = .ok (.aload_n 0, 1) := by decide +kernel
theorem dX7_toll_62 : decode cX7_toll 62 = .ok (.getfield 55, 3) := by decide +kernel
theorem dX7_toll_65 : decode cX7_toll 65 = .ok (.getfield 187, 3) := by decide +kernel
theorem dX7_toll_68 : decode cX7_toll 68 = .ok (.iload 5, 2) := by decide +kernel
theorem dX7_toll_70 : decode cX7_toll 70 = .ok (.aload_n 0, 1) := by decide +kernel
theorem dX7_toll_71 : decode cX7_toll 71 = .ok (.getfield 26, 3) := by decide +kernel
theorem dX7_toll_74 : decode cX7_toll 74 = .ok (.aload_n 0, 1) := by decide +kernel
theorem dX7_toll_75 : decode cX7_toll 75 = .ok (.getfield 69, 3) := by decide +kernel
theorem dX7_toll_78 : decode cX7_toll 78 = .ok (.iload 5, 2) := by decide +kernel
theorem dX7_toll_80 : decode cX7_toll 80 = .ok (.invokevirtual 122, 3) := by decide +kernel
theorem dX7_toll_83 : decode cX7_toll 83 = .ok (.iload_n 2, 1) := by decide +kernel
theorem dX7_toll_84 : decode cX7_toll 84 = .ok (.if_icmp .ge 7, 3) := by decide +kernel
theorem dX7_toll_87 : decode cX7_toll 87 = .ok (.iconst (-1), 1) := by decide +kernel
theorem dX7_toll_88 : decode cX7_toll 88 = .ok (.goto 13, 3) := by decide +kernel
theorem dX7_toll_91 : decode cX7_toll 91 = .ok (.aload_n 0, 1) := by decide +kernel
theorem dX7_toll_92 : decode cX7_toll 92 = .ok (.getfield 26, 3) := by decide +kernel
theorem dX7_toll_95 : decode cX7_toll 95 = .ok (.iload 5, 2) := by decide +kernel
theorem dX7_toll_97 : decode cX7_toll 97 = .ok (.iload_n 1, 1) := by decide +kernel
theorem dX7_toll_98 : decode cX7_toll 98 = .ok (.invokevirtual 190, 3) := by decide +kernel
theorem dX7_toll_101 : decode cX7_toll 101 = .ok (.iastore, 1) := by decide +kernel
theorem dX7_toll_102 : decode cX7_toll 102 = .ok (.iinc 5 1, 3) := by decide +kernel
theorem dX7_toll_105 : decode cX7_toll 105 = .ok (.goto (-56), 3) := by decide +kernel
theorem dX7_toll_108 : decode cX7_toll 108 = .ok (.aload_n 0, 1) := by decide +kernel
theorem dX7_toll_109 : decode cX7_toll 109 = .ok (.getfield 55, 3) := by decide +kernel
theorem dX7_toll_112 : decode cX7_toll 112 = .ok (.iload_n 3, 1) := by decide +kernel
theorem dX7_toll_113 : decode cX7_toll 113 = .ok (.invokevirtual 194, 3) := by decide +kernel
theorem dX7_toll_116 : decode cX7_toll 116 = .ok (.aload_n 0, 1) := by decide +kernel
theorem dX7_toll_117 : decode cX7_toll 117 = .ok (.getfield 55, 3) := by decide +kernel
theorem dX7_toll_120 : decode cX7_toll 120 = .ok (.aload_n 0, 1) := by decide +kernel
theorem dX7_toll_121 : decode cX7_toll 121 = .ok (.getfield 69, 3) := by decide +kernel
theorem dX7_toll_124 : decode cX7_toll 124 = .ok (.invokevirtual 197, 3) := by decide +kernel
theorem dX7_toll_127 : decode cX7_toll 127 = .ok (.aload_n 0, 1) := by decide +kernel
theorem dX7_toll_128 : decode cX7_toll 128 = .ok (.getfield 55, 3) := by decide +kernel
theorem dX7_toll_131 : decode cX7_toll 131 = .ok (.iload 4, 2) := by decide +kernel
theorem dX7_toll_133 : decode cX7_toll 133 = .ok (.invokevirtual 201, 3) := by decide +kernel
theorem dX7_toll_136 : decode cX7_toll 136 = .ok (.ireturn, 1) := by decide +kernel
set_option maxRecDepth 20000 in
theorem ggX7_wedding_X7_isFamily : GoodIn wsX7_wedding wsX7_isFamily := goodIn_r _ [8] (by decide +kernel) (by decide +kernel)
set_option maxRecDepth 20000 in
theorem gX7_wedding_X7_isFamily : GoodIn wsX7_wedding (va_wsS RX7 130 yX7_isFamily wsX7_isFamily) := goodIn_app (goodIn_of _ (by decide +kernel)) ggX7_wedding_X7_isFamily
set_option maxRecDepth 20000 in
theorem ggX7_wedding_X7_isWeight : GoodIn wsX7_wedding wsX7_isWeight := goodIn_r _ [11] (by decide +kernel) (by decide +kernel)
set_option maxRecDepth 20000 in
theorem gX7_wedding_X7_isWeight : GoodIn wsX7_wedding (va_wsS RX7 181 yX7_isWeight wsX7_isWeight) := goodIn_app (goodIn_of _ (by decide +kernel)) ggX7_wedding_X7_isWeight
set_option maxRecDepth 20000 in
theorem ggX7_wedding_X7_isEither : GoodIn wsX7_wedding wsX7_isEither := goodIn_r _ [14] (by decide +kernel) (by decide +kernel)
set_option maxRecDepth 20000 in
theorem gX7_wedding_X7_isEither : GoodIn wsX7_wedding (va_wsS RX7 171 yX7_isEither wsX7_isEither) := goodIn_app (goodIn_of _ (by decide +kernel)) ggX7_wedding_X7_isEither
set_option maxRecDepth 20000 in
theorem ggX7_wedding_X1_bears : GoodIn wsX7_wedding wsX1_bears := goodIn_r _ [19, 20, 21, 22, 23, 24, 25, 26, 27, 28, 29, 30, 31, 32, 33, 57, 58, 59, 60, 47, 48, 49, 50, 51, 52, 53, 54, 55, 56] (by decide +kernel) (by decide +kernel)
set_option maxRecDepth 20000 in
theorem gX7_wedding_X1_bears : GoodIn wsX7_wedding (wsV RX7 122 RX1 yX1_bears wsX1_bears) := goodIn_app (goodIn_of _ (by decide +kernel)) ggX7_wedding_X1_bears
theorem dX7_wedding_0 : decode cX7_wedding 0 = .ok (.iload_n 1, 1) := by decide +kernel
theorem dX7_wedding_1 : decode cX7_wedding 1 = .ok (.invokestatic 130, 3) := by decide +kernel
theorem dX7_wedding_4 : decode cX7_wedding 4 = .ok (.ifCond .eq 29, 3) := by decide +kernel
theorem dX7_wedding_7 : decode cX7_wedding 7 = .ok (.iload_n 2, 1) := by decide +kernel
theorem dX7_wedding_8 : decode cX7_wedding 8 = .ok (.iconst 1, 1) := by decide +kernel
theorem dX7_wedding_9 : decode cX7_wedding 9 = .ok (.if_icmp .lt 24, 3) := by decide +kernel
theorem dX7_wedding_12 : decode cX7_wedding 12 = .ok (.iload_n 2, 1) := by decide +kernel
theorem dX7_wedding_13 : decode cX7_wedding 13 = .ok (.bipush 50, 2) := by decide +kernel
theorem dX7_wedding_15 : decode cX7_wedding 15 = .ok (.if_icmp .gt 18, 3) := by decide +kernel
theorem dX7_wedding_18 : decode cX7_wedding 18 = .ok (.iload_n 3, 1) := by decide +kernel
theorem dX7_wedding_19 : decode cX7_wedding 19 = .ok (.invokestatic 181, 3) := by decide +kernel
theorem dX7_wedding_22 : decode cX7_wedding 22 = .ok (.ifCond .eq 11, 3) := by decide +kernel
theorem dX7_wedding_25 : decode cX7_wedding 25 = .ok (.iload 4, 2) := by decide +kernel
theorem dX7_wedding_27 : decode cX7_wedding 27 = .ok (.invokestatic 171, 3) := by decide +kernel
theorem dX7_wedding_30 : decode cX7_wedding 30 = .ok (.ifCond .ne 5, 3) := by decide +kernel
theorem dX7_wedding_33 : decode cX7_wedding 33 = .ok (.iconst (-1), 1) := by decide +kernel
theorem dX7_wedding_34 : decode cX7_wedding 34 = .ok (.ireturn, 1) := by decide +kernel
theorem dX7_wedding_35 : decode cX7_wedding 35 = .ok (.bipush (-4), 2) := by decide +kernel
theorem dX7_wedding_37 : decode cX7_wedding 37 = .ok (.istore 5, 2) := by decide +kernel
theorem dX7_wedding_39 : decode cX7_wedding 39 = .ok (.iconst 0, 1) := by decide +kernel
theorem dX7_wedding_40 : decode cX7_wedding 40 = .ok (.istore 6, 2) := by decide +kernel
theorem dX7_wedding_42 : decode cX7_wedding 42 = .ok (.iconst 0, 1) := by decide +kernel
theorem dX7_wedding_43 : decode cX7_wedding 43 = .ok (.istore 7, 2) := by decide +kernel
theorem dX7_wedding_45 : decode cX7_wedding 45 = .ok (.iconst 0, 1) := by decide +kernel
theorem dX7_wedding_46 : decode cX7_wedding 46 = .ok (.istore 8, 2) := by decide +kernel
theorem dX7_wedding_48 : decode cX7_wedding 48 = .ok (.iload 8, 2) := by decide +kernel
theorem dX7_wedding_50 : decode cX7_wedding 50 = .ok (.aload_n 0, 1) := by decide +kernel
theorem dX7_wedding_51 : decode cX7_wedding 51 = .ok (.getfield 69, 3) := by decide +kernel
theorem dX7_wedding_54 : decode cX7_wedding 54 = .ok (.getfield 103, 3) := by decide +kernel
theorem dX7_wedding_57 : decode cX7_wedding 57 = .ok (.if_icmp .ge 68, 3) := by decide +kernel
theorem dX7_wedding_60 : decode cX7_wedding 60 = .ok (.aload_n 0, 1) := by decide +kernel
theorem dX7_wedding_61 : decode cX7_wedding 61 = .ok (.getfield 26, 3) := by decide +kernel
theorem dX7_wedding_64 : decode cX7_wedding 64 = .ok (.getfield 116, 3) := by decide +kernel
theorem dX7_wedding_67 : decode cX7_wedding 67 = .ok (.iload 8, 2) := by decide +kernel
theorem dX7_wedding_69 : decode cX7_wedding 69 = .ok (.iaload, 1) := by decide +kernel
theorem dX7_wedding_70 : decode cX7_wedding 70 = .ok (.iload_n 1, 1) := by decide +kernel
theorem dX7_wedding_71 : decode cX7_wedding 71 = .ok (.if_icmp .ne 19, 3) := by decide +kernel
theorem dX7_wedding_74 : decode cX7_wedding 74 = .ok (.aload_n 0, 1) := by decide +kernel
theorem dX7_wedding_75 : decode cX7_wedding 75 = .ok (.getfield 26, 3) := by decide +kernel
theorem dX7_wedding_78 : decode cX7_wedding 78 = .ok (.aload_n 0, 1) := by decide +kernel
theorem dX7_wedding_79 : decode cX7_wedding 79 = .ok (.getfield 69, 3) := by decide +kernel
theorem dX7_wedding_82 : decode cX7_wedding 82 = .ok (.iload 8, 2) := by decide +kernel
theorem dX7_wedding_84 : decode cX7_wedding 84 = .ok (.invokevirtual 122, 3) := by decide +kernel
theorem dX7_wedding_87 : decode cX7_wedding 87 = .ok (.goto 4, 3) := by decide +kernel
theorem dX7_wedding_90 : decode cX7_wedding 90 = .ok (.iconst 0, 1) := by decide +kernel
theorem dX7_wedding_91 : decode cX7_wedding 91 = .ok (.istore 9, 2) := by decide +kernel
theorem dX7_wedding_93 : decode cX7_wedding 93 = .ok (.iload 9, 2) := by decide +kernel
theorem dX7_wedding_95 : decode cX7_wedding 95 = .ok (.iload_n 2, 1) := by decide +kernel
theorem dX7_wedding_96 : decode cX7_wedding 96 = .ok (.iload_n 3, 1) := by decide +kernel
theorem dX7_wedding_97 : decode cX7_wedding 97 = .ok (.imul, 1) := by decide +kernel
theorem dX7_wedding_98 : decode cX7_wedding 98 = .ok (.if_icmp .lt 21, 3) := by decide +kernel
theorem dX7_wedding_101 : decode cX7_wedding 101 = .ok (.iinc 7 1, 3) := by decide +kernel
theorem dX7_wedding_104 : decode cX7_wedding 104 = .ok (.iload 9, 2) := by decide +kernel
theorem dX7_wedding_106 : decode cX7_wedding 106 = .ok (.iload 6, 2) := by decide +kernel
theorem dX7_wedding_108 : decode cX7_wedding 108 = .ok (.if_icmp .le 11, 3) := by decide +kernel
theorem dX7_wedding_111 : decode cX7_wedding 111 = .ok (.iload 8, 2) := by decide +kernel
theorem dX7_wedding_113 : decode cX7_wedding 113 = .ok (.istore 5, 2) := by decide +kernel
theorem dX7_wedding_115 : decode cX7_wedding 115 = .ok (.iload 9, 2) := by decide +kernel
theorem dX7_wedding_117 : decode cX7_wedding 117 = .ok (.istore 6, 2) := by decide +kernel
theorem dX7_wedding_119 : decode cX7_wedding 119 = .ok (.iinc 8 1, 3) := by decide +kernel
theorem dX7_wedding_122 : decode cX7_wedding 122 = .ok (.goto (-74), 3) := by decide +kernel
theorem dX7_wedding_125 : decode cX7_wedding 125 = .ok (.iload 4, 2) := by decide +kernel
theorem dX7_wedding_127 : decode cX7_wedding 127 = .ok (.ifCond .ne 8, 3) := by decide +kernel
theorem dX7_wedding_130 : decode cX7_wedding 130 = .ok (.iload 5, 2) := by decide +kernel
theorem dX7_wedding_132 : decode cX7_wedding 132 = .ok (.goto 5, 3) := by decide +kernel
theorem dX7_wedding_135 : decode cX7_wedding 135 = .ok (.iload 7, 2) := by decide +kernel
theorem dX7_wedding_137 : decode cX7_wedding 137 = .ok (.ireturn, 1) := by decide +kernel
set_option maxRecDepth 20000 in
theorem ggX7_straw_X7_isFamily : GoodIn wsX7_straw wsX7_isFamily := goodIn_r _ [9] (by decide +kernel) (by decide +kernel)
set_option maxRecDepth 20000 in
theorem gX7_straw_X7_isFamily : GoodIn wsX7_straw (va_wsS RX7 130 yX7_isFamily wsX7_isFamily) := goodIn_app (goodIn_of _ (by decide +kernel)) ggX7_straw_X7_isFamily
theorem dX7_straw_0 : decode cX7_straw 0 = .ok (.iload_n 1, 1) := by decide +kernel
theorem dX7_straw_1 : decode cX7_straw 1 = .ok (.invokestatic 130, 3) := by decide +kernel
theorem dX7_straw_4 : decode cX7_straw 4 = .ok (.ifCond .eq 37, 3) := by decide +kernel
theorem dX7_straw_7 : decode cX7_straw 7 = .ok (.iload_n 2, 1) := by decide +kernel
theorem dX7_straw_8 : decode cX7_straw 8 = .ok (.ifCond .lt 33, 3) := by decide +kernel
theorem dX7_straw_11 : decode cX7_straw 11 = .ok (.iload_n 2, 1) := by decide +kernel
theorem dX7_straw_12 : decode cX7_straw 12 = .ok (.bipush 9, 2) := by decide +kernel
theorem dX7_straw_14 : decode cX7_straw 14 = .ok (.if_icmp .gt 27, 3) := by decide +kernel
theorem dX7_straw_17 : decode cX7_straw 17 = .ok (.iload_n 3, 1) := by decide +kernel
theorem dX7_straw_18 : decode cX7_straw 18 = .ok (.ifCond .lt 23, 3) := by decide +kernel
theorem dX7_straw_21 : decode cX7_straw 21 = .ok (.iload_n 3, 1) := by decide +kernel
theorem dX7_straw_22 : decode cX7_straw 22 = .ok (.bipush 60, 2) := by decide +kernel
theorem dX7_straw_24 : decode cX7_straw 24 = .ok (.if_icmp .gt 17, 3) := by decide +kernel
theorem dX7_straw_27 : decode cX7_straw 27 = .ok (.iload 4, 2) := by decide +kernel
theorem dX7_straw_29 : decode cX7_straw 29 = .ok (.iconst 1, 1) := by decide +kernel
theorem dX7_straw_30 : decode cX7_straw 30 = .ok (.if_icmp .lt 11, 3) := by decide +kernel
theorem dX7_straw_33 : decode cX7_straw 33 = .ok (.iload 4, 2) := by decide +kernel
theorem dX7_straw_35 : decode cX7_straw 35 = .ok (.sipush 999, 3) := by decide +kernel
theorem dX7_straw_38 : decode cX7_straw 38 = .ok (.if_icmp .le 5, 3) := by decide +kernel
theorem dX7_straw_41 : decode cX7_straw 41 = .ok (.iconst (-1), 1) := by decide +kernel
theorem dX7_straw_42 : decode cX7_straw 42 = .ok (.ireturn, 1) := by decide +kernel
theorem dX7_straw_43 : decode cX7_straw 43 = .ok (.iconst 0, 1) := by decide +kernel
theorem dX7_straw_44 : decode cX7_straw 44 = .ok (.istore 5, 2) := by decide +kernel
theorem dX7_straw_46 : decode cX7_straw 46 = .ok (.iload 4, 2) := by decide +kernel
theorem dX7_straw_48 : decode cX7_straw 48 = .ok (.istore 6, 2) := by decide +kernel
theorem dX7_straw_50 : decode cX7_straw 50 = .ok (.bipush 60, 2) := by decide +kernel
theorem dX7_straw_52 : decode cX7_straw 52 = .ok (.istore 7, 2) := by decide +kernel
theorem dX7_straw_54 : decode cX7_straw 54 = .ok (.iload 7, 2) := by decide +kernel
theorem dX7_straw_56 : decode cX7_straw 56 = .ok (.iload_n 2, 1) := by decide +kernel
theorem dX7_straw_57 : decode cX7_straw 57 = .ok (.iload_n 3, 1) := by decide +kernel
theorem dX7_straw_58 : decode cX7_straw 58 = .ok (.imul, 1) := by decide +kernel
theorem dX7_straw_59 : decode cX7_straw 59 = .ok (.if_icmp .le 81, 3) := by decide +kernel
theorem dX7_straw_62 : decode cX7_straw 62 = .ok (.iconst 0, 1) := by decide +kernel
theorem dX7_straw_63 : decode cX7_straw 63 = .ok (.istore 8, 2) := by decide +kernel
theorem dX7_straw_65 : decode cX7_straw 65 = .ok (.iload 8, 2) := by decide +kernel
theorem dX7_straw_67 : decode cX7_straw 67 = .ok (.aload_n 0, 1) := by decide +kernel
theorem dX7_straw_68 : decode cX7_straw 68 = .ok (.getfield 69, 3) := by decide +kernel
theorem dX7_straw_71 : decode cX7_straw 71 = .ok (.getfield 103, 3) := by decide +kernel
theorem dX7_straw_74 : decode cX7_straw 74 = .ok (.if_icmp .ge 60, 3) := by decide +kernel
theorem dX7_straw_77 : decode cX7_straw 77 = .ok (.aload_n 0, 1) := by decide +kernel
theorem dX7_straw_78 : decode cX7_straw 78 = .ok (.getfield 26, 3) := by decide +kernel
theorem dX7_straw_81 : decode cX7_straw 81 = .ok (.getfield 116, 3) := by decide +kernel
theorem dX7_straw_84 : decode cX7_straw 84 = .ok (.iload 8, 2) := by decide +kernel
theorem dX7_straw_86 : decode cX7_straw 86 = .ok (.iaload, 1) := by decide +kernel
theorem dX7_straw_87 : decode cX7_straw 87 = .ok (.iload_n 1, 1) := by decide +kernel
theorem dX7_straw_88 : decode cX7_straw 88 = .ok (.if_icmp .ne 40, 3) := by decide +kernel
theorem dX7_straw_91 : decode cX7_straw 91 = .ok (.aload_n 0, 1) := by decide +kernel
theorem dX7_straw_92 : decode cX7_straw 92 = .ok (.getfield 26, 3) := by decide +kernel
theorem dX7_straw_95 : decode cX7_straw 95 = .ok (.getfield 113, 3) := by decide +kernel
theorem dX7_straw_98 : decode cX7_straw 98 = .ok (.iload 8, 2) := by decide +kernel
theorem dX7_straw_100 : decode cX7_straw 100 = .ok (.iaload, 1) := by decide +kernel
theorem dX7_straw_101 : decode cX7_straw 101 = .ok (.iload 7, 2) := by decide +kernel
theorem dX7_straw_103 : decode cX7_straw 103 = .ok (.if_icmp .ne 25, 3) := by decide +kernel
theorem dX7_straw_106 : decode cX7_straw 106 = .ok (.iinc 5 1, 3) := by decide +kernel
theorem dX7_straw_109 : decode cX7_straw 109 = .ok (.iload 6, 2) := by decide +kernel
theorem dX7_straw_111 : decode cX7_straw 111 = .ok (.iload 7, 2) := by decide +kernel
theorem dX7_straw_113 : decode cX7_straw 113 = .ok (.iload_n 2, 1) := by decide +kernel
theorem dX7_straw_114 : decode cX7_straw 114 = .ok (.iload_n 3, 1) := by decide +kernel
theorem dX7_straw_115 : decode cX7_straw 115 = .ok (.imul, 1) := by decide +kernel
theorem dX7_straw_116 : decode cX7_straw 116 = .ok (.isub, 1) := by decide +kernel
theorem dX7_straw_117 : decode cX7_straw 117 = .ok (.isub, 1) := by decide +kernel
theorem dX7_straw_118 : decode cX7_straw 118 = .ok (.istore 6, 2) := by decide +kernel
theorem dX7_straw_120 : decode cX7_straw 120 = .ok (.iload 6, 2) := by decide +kernel
theorem dX7_straw_122 : decode cX7_straw 122 = .ok (.ifCond .gt 6, 3) := by decide +kernel
theorem dX7_straw_125 : decode cX7_straw 125 = .ok (.iload 5, 2) := by decide +kernel
theorem dX7_straw_127 : decode cX7_straw 127 = .ok (.ireturn, 1) := by decide +kernel
theorem dX7_straw_128 : decode cX7_straw 128 = .ok (.iinc 8 1, 3) := by decide +kernel
theorem dX7_straw_131 : decode cX7_straw 131 = .ok (.goto (-66), 3) := by decide +kernel
theorem dX7_straw_134 : decode cX7_straw 134 = .ok (.iinc 7 (-1), 3) := by decide +kernel
theorem dX7_straw_137 : decode cX7_straw 137 = .ok (.goto (-83), 3) := by decide +kernel
theorem dX7_straw_140 : decode cX7_straw 140 = .ok (.bipush (-4), 2) := by decide +kernel
theorem dX7_straw_142 : decode cX7_straw 142 = .ok (.ireturn, 1) := by decide +kernel
set_option maxRecDepth 20000 in
theorem ggX7_split_X7_isFamily : GoodIn wsX7_split wsX7_isFamily := goodIn_r _ [11] (by decide +kernel) (by decide +kernel)
set_option maxRecDepth 20000 in
theorem gX7_split_X7_isFamily : GoodIn wsX7_split (va_wsS RX7 130 yX7_isFamily wsX7_isFamily) := goodIn_app (goodIn_of _ (by decide +kernel)) ggX7_split_X7_isFamily
set_option maxRecDepth 20000 in
theorem ggX7_split_X7_isEither : GoodIn wsX7_split wsX7_isEither := goodIn_r _ [14] (by decide +kernel) (by decide +kernel)
set_option maxRecDepth 20000 in
theorem gX7_split_X7_isEither : GoodIn wsX7_split (va_wsS RX7 171 yX7_isEither wsX7_isEither) := goodIn_app (goodIn_of _ (by decide +kernel)) ggX7_split_X7_isEither
set_option maxRecDepth 20000 in
theorem ggX7_split_X0_measure : GoodIn wsX7_split wsX0_measure := goodIn_r _ [19, 20, 21, 22, 23, 24, 25, 26, 27, 28, 29, 30, 31, 18, 32, 33, 34, 35, 36, 37, 38, 39, 40, 41, 42, 43, 44, 45, 46, 47, 48, 49, 79, 80, 81, 82, 83, 84, 85, 86, 87, 88, 89, 90, 91, 92, 93, 94, 95, 96] (by decide +kernel) (by decide +kernel)
set_option maxRecDepth 20000 in
theorem gX7_split_X0_measure : GoodIn wsX7_split (wsV RX7 136 RX0 yX0_measure wsX0_measure) := goodIn_app (goodIn_of _ (by decide +kernel)) ggX7_split_X0_measure
set_option maxRecDepth 20000 in
theorem ggX7_split_X1_setTo : GoodIn wsX7_split wsX1_setTo := goodIn_r _ [54, 55, 56, 57, 58, 59, 60, 61, 93, 94, 95, 96] (by decide +kernel) (by decide +kernel)
set_option maxRecDepth 20000 in
theorem gX7_split_X1_setTo : GoodIn wsX7_split (wsV RX7 174 RX1 yX1_setTo wsX1_setTo) := goodIn_app (goodIn_of _ (by decide +kernel)) ggX7_split_X1_setTo
set_option maxRecDepth 20000 in
theorem ggX7_split_X1_sawOut : GoodIn wsX7_split wsX1_sawOut := goodIn_r _ [65, 55, 60, 93, 94, 95, 96] (by decide +kernel) (by decide +kernel)
set_option maxRecDepth 20000 in
theorem gX7_split_X1_sawOut : GoodIn wsX7_split (wsV RX7 161 RX1 yX1_sawOut wsX1_sawOut) := goodIn_app (goodIn_of _ (by decide +kernel)) ggX7_split_X1_sawOut
theorem dX7_split_0 : decode cX7_split 0 = .ok (.iload_n 1, 1) := by decide +kernel
theorem dX7_split_1 : decode cX7_split 1 = .ok (.invokestatic 130, 3) := by decide +kernel
theorem dX7_split_4 : decode cX7_split 4 = .ok (.ifCond .eq 10, 3) := by decide +kernel
theorem dX7_split_7 : decode cX7_split 7 = .ok (.iload_n 2, 1) := by decide +kernel
theorem dX7_split_8 : decode cX7_split 8 = .ok (.invokestatic 171, 3) := by decide +kernel
theorem dX7_split_11 : decode cX7_split 11 = .ok (.ifCond .ne 5, 3) := by decide +kernel
theorem dX7_split_14 : decode cX7_split 14 = .ok (.iconst (-1), 1) := by decide +kernel
theorem dX7_split_15 : decode cX7_split 15 = .ok (.ireturn, 1) := by decide +kernel
theorem dX7_split_16 : decode cX7_split 16 = .ok (.aload_n 0, 1) := by decide +kernel
theorem dX7_split_17 : decode cX7_split 17 = .ok (.getfield 48, 3) := by decide +kernel
theorem dX7_split_20 : decode cX7_split 20 = .ok (.aload_n 0, 1) := by decide +kernel
theorem dX7_split_21 : decode cX7_split 21 = .ok (.getfield 69, 3) := by decide +kernel
theorem dX7_split_24 : decode cX7_split 24 = .ok (.aload_n 0, 1) := by decide +kernel
theorem dX7_split_25 : decode cX7_split 25 = .ok (.getfield 26, 3) := by decide +kernel
theorem dX7_split_28 : decode cX7_split 28 = .ok (.iload_n 1, 1) := by decide +kernel
theorem dX7_split_29 : decode cX7_split 29 = .ok (.invokevirtual 136, 3) := by decide +kernel
theorem dX7_split_32 : decode cX7_split 32 = .ok (.bipush (-4), 2) := by decide +kernel
theorem dX7_split_34 : decode cX7_split 34 = .ok (.istore_n 3, 1) := by decide +kernel
theorem dX7_split_35 : decode cX7_split 35 = .ok (.aload_n 0, 1) := by decide +kernel
theorem dX7_split_36 : decode cX7_split 36 = .ok (.getfield 48, 3) := by decide +kernel
theorem dX7_split_39 : decode cX7_split 39 = .ok (.getfield 143, 3) := by decide +kernel
theorem dX7_split_42 : decode cX7_split 42 = .ok (.istore 4, 2) := by decide +kernel
theorem dX7_split_44 : decode cX7_split 44 = .ok (.iconst 0, 1) := by decide +kernel
theorem dX7_split_45 : decode cX7_split 45 = .ok (.istore 5, 2) := by decide +kernel
theorem dX7_split_47 : decode cX7_split 47 = .ok (.iload 5, 2) := by decide +kernel
theorem dX7_split_49 : decode cX7_split 49 = .ok (.aload_n 0, 1) := by decide +kernel
theorem dX7_split_50 : decode cX7_split 50 = .ok (.getfield 69, 3) := by decide +kernel
theorem dX7_split_53 : decode cX7_split 53 = .ok (.getfield 103, 3) := by decide +kernel
theorem dX7_split_56 : decode cX7_split 56 = .ok (.if_icmp .ge 83, 3) := by decide +kernel
theorem dX7_split_59 : decode cX7_split 59 = .ok (.aload_n 0, 1) := by decide +kernel
theorem dX7_split_60 : decode cX7_split 60 = .ok (.getfield 26, 3) := by decide +kernel
theorem dX7_split_63 : decode cX7_split 63 = .ok (.getfield 116, 3) := by decide +kernel
theorem dX7_split_66 : decode cX7_split 66 = .ok (.iload 5, 2) := by decide +kernel
theorem dX7_split_68 : decode cX7_split 68 = .ok (.iaload, 1) := by decide +kernel
theorem dX7_split_69 : decode cX7_split 69 = .ok (.iload_n 1, 1) := by decide +kernel
theorem dX7_split_70 : decode cX7_split 70 = .ok (.if_icmp .ne 63, 3) := by decide +kernel
theorem dX7_split_73 : decode cX7_split 73 = .ok (.aload_n 0, 1) := by decide +kernel
theorem dX7_split_74 : decode cX7_split 74 = .ok (.getfield 30, 3) := by decide +kernel
theorem dX7_split_77 : decode cX7_split 77 = .ok (.aload_n 0, 1) := by decide +kernel
theorem dX7_split_78 : decode cX7_split 78 = .ok (.getfield 26, 3) := by decide +kernel
theorem dX7_split_81 : decode cX7_split 81 = .ok (.invokevirtual 174, 3) := by decide +kernel
theorem dX7_split_84 : decode cX7_split 84 = .ok (.aload_n 0, 1) := by decide +kernel
theorem dX7_split_85 : decode cX7_split 85 = .ok (.getfield 30, 3) := by decide +kernel
theorem dX7_split_88 : decode cX7_split 88 = .ok (.iload 5, 2) := by decide +kernel
theorem dX7_split_90 : decode cX7_split 90 = .ok (.invokevirtual 161, 3) := by decide +kernel
theorem dX7_split_93 : decode cX7_split 93 = .ok (.aload_n 0, 1) := by decide +kernel
theorem dX7_split_94 : decode cX7_split 94 = .ok (.getfield 48, 3) := by decide +kernel
theorem dX7_split_97 : decode cX7_split 97 = .ok (.aload_n 0, 1) := by decide +kernel
theorem dX7_split_98 : decode cX7_split 98 = .ok (.getfield 69, 3) := by decide +kernel
theorem dX7_split_101 : decode cX7_split 101 = .ok (.aload_n 0, 1) := by decide +kernel
theorem dX7_split_102 : decode cX7_split 102 = .ok (.getfield 30, 3) := by decide +kernel
theorem dX7_split_105 : decode cX7_split 105 = .ok (.iload_n 1, 1) := by decide +kernel
theorem dX7_split_106 : decode cX7_split 106 = .ok (.invokevirtual 136, 3) := by decide +kernel
theorem dX7_split_109 : decode cX7_split 109 = .ok (.aload_n 0, 1) := by decide +kernel
theorem dX7_split_110 : decode cX7_split 110 = .ok (.getfield 48, 3) := by decide +kernel
theorem dX7_split_113 : decode cX7_split 113 = .ok (.getfield 143, 3) := by decide +kernel
theorem dX7_split_116 : decode cX7_split 116 = .ok (.iload 4, 2) := by decide +kernel
theorem dX7_split_118 : decode cX7_split 118 = .ok (.if_icmp .ge 15, 3) := by decide +kernel
theorem dX7_split_121 : decode cX7_split 121 = .ok (.iload 5, 2) := by decide +kernel
theorem dX7_split_123 : decode cX7_split 123 = .ok (.istore_n 3, 1) := by decide +kernel
theorem dX7_split_124 : decode cX7_split 124 = .ok (.aload_n 0, 1) := by decide +kernel
theorem dX7_split_125 : decode cX7_split 125 = .ok (.getfield 48, 3) := by decide +kernel
theorem dX7_split_128 : decode cX7_split 128 = .ok (.getfield 143, 3) := by decide +kernel
theorem dX7_split_131 : decode cX7_split 131 = .ok (.istore 4, 2) := by decide +kernel
theorem dX7_split_133 : decode cX7_split 133 = .ok (.iinc 5 1, 3) := by decide +kernel
theorem dX7_split_136 : decode cX7_split 136 = .ok (.goto (-89), 3) := by decide +kernel
theorem dX7_split_139 : decode cX7_split 139 = .ok (.iload_n 3, 1) := by decide +kernel
theorem dX7_split_140 : decode cX7_split 140 = .ok (.bipush (-4), 2) := by decide +kernel
theorem dX7_split_142 : decode cX7_split 142 = .ok (.if_icmp .eq 7, 3) := by decide +kernel
theorem dX7_split_145 : decode cX7_split 145 = .ok (.iload_n 2, 1) := by decide +kernel
theorem dX7_split_146 : decode cX7_split 146 = .ok (.ifCond .ne 7, 3) := by decide +kernel
theorem dX7_split_149 : decode cX7_split 149 = .ok (.iload_n 3, 1) := by decide +kernel
theorem dX7_split_150 : decode cX7_split 150 = .ok (.goto 5, 3) := by decide +kernel
theorem dX7_split_153 : decode cX7_split 153 = .ok (.iload 4, 2) := by decide +kernel
theorem dX7_split_155 : decode cX7_split 155 = .ok (.ireturn, 1) := by decide +kernel
set_option maxRecDepth 20000 in
theorem ggX7_drill_X3_hasCell : GoodIn wsX7_drill wsX3_hasCell := goodIn_r _ [9, 10, 24, 25, 26, 27, 28, 29, 30, 31, 32, 33] (by decide +kernel) (by decide +kernel)
set_option maxRecDepth 20000 in
theorem gX7_drill_X3_hasCell : GoodIn wsX7_drill (wsV RX7 106 RX3 yX3_hasCell wsX3_hasCell) := goodIn_app (goodIn_of _ (by decide +kernel)) ggX7_drill_X3_hasCell
theorem dX7_drill_0 : decode cX7_drill 0 = .ok (.aload_n 0, 1) := by decide +kernel
theorem dX7_drill_1 : decode cX7_drill 1 = .ok (.getfield 69, 3) := by decide +kernel
theorem dX7_drill_4 : decode cX7_drill 4 = .ok (.iload_n 1, 1) := by decide +kernel
theorem dX7_drill_5 : decode cX7_drill 5 = .ok (.invokevirtual 106, 3) := by decide +kernel
theorem dX7_drill_8 : decode cX7_drill 8 = .ok (.ifCond .eq 13, 3) := by decide +kernel
theorem dX7_drill_11 : decode cX7_drill 11 = .ok (.iload_n 2, 1) := by decide +kernel
theorem dX7_drill_12 : decode cX7_drill 12 = .ok (.ifCond .lt 9, 3) := by decide +kernel
theorem dX7_drill_15 : decode cX7_drill 15 = .ok (.iload_n 2, 1) := by decide +kernel
theorem dX7_drill_16 : decode cX7_drill 16 = .ok (.bipush 60, 2) := by decide +kernel
theorem dX7_drill_18 : decode cX7_drill 18 = .ok (.if_icmp .le 5, 3) := by decide +kernel
theorem dX7_drill_21 : decode cX7_drill 21 = .ok (.iconst (-1), 1) := by decide +kernel
theorem dX7_drill_22 : decode cX7_drill 22 = .ok (.ireturn, 1) := by decide +kernel
theorem dX7_drill_23 : decode cX7_drill 23 = .ok (.aload_n 0, 1) := by decide +kernel
theorem dX7_drill_24 : decode cX7_drill 24 = .ok (.getfield 204, 3) := by decide +kernel
theorem dX7_drill_27 : decode cX7_drill 27 = .ok (.bipush 6, 2) := by decide +kernel
theorem dX7_drill_29 : decode cX7_drill 29 = .ok (.if_icmp .lt 6, 3) := by decide +kernel
theorem dX7_drill_32 : decode cX7_drill 32 = .ok (.bipush (-3), 2) := by decide +kernel
theorem dX7_drill_34 : decode cX7_drill 34 = .ok (.ireturn, 1) := by decide +kernel
theorem dX7_drill_35 : decode cX7_drill 35 = .ok (.aload_n 0, 1) := by decide +kernel
theorem dX7_drill_36 : decode cX7_drill 36 = .ok (.getfield 59, 3) := by decide +kernel
theorem dX7_drill_39 : decode cX7_drill 39 = .ok (.aload_n 0, 1) := by decide +kernel
theorem dX7_drill_40 : decode cX7_drill 40 = .ok (.getfield 204, 3) := by decide +kernel
theorem dX7_drill_43 : decode cX7_drill 43 = .ok (.iload_n 1, 1) := by decide +kernel
theorem dX7_drill_44 : decode cX7_drill 44 = .ok (.iastore, 1) := by decide +kernel
theorem dX7_drill_45 : decode cX7_drill 45 = .ok (.aload_n 0, 1) := by decide +kernel
theorem dX7_drill_46 : decode cX7_drill 46 = .ok (.getfield 63, 3) := by decide +kernel
theorem dX7_drill_49 : decode cX7_drill 49 = .ok (.aload_n 0, 1) := by decide +kernel
theorem dX7_drill_50 : decode cX7_drill 50 = .ok (.getfield 204, 3) := by decide +kernel
theorem dX7_drill_53 : decode cX7_drill 53 = .ok (.iload_n 2, 1) := by decide +kernel
theorem dX7_drill_54 : decode cX7_drill 54 = .ok (.iastore, 1) := by decide +kernel
theorem dX7_drill_55 : decode cX7_drill 55 = .ok (.aload_n 0, 1) := by decide +kernel
theorem dX7_drill_56 : decode cX7_drill 56 = .ok (.dup, 1) := by decide +kernel
theorem dX7_drill_57 : decode cX7_drill 57 = .ok (.getfield 204, 3) := by decide +kernel
theorem dX7_drill_60 : decode cX7_drill 60 = .ok (.iconst 1, 1) := by decide +kernel
theorem dX7_drill_61 : decode cX7_drill 61 = .ok (.iadd, 1) := by decide +kernel
theorem dX7_drill_62 : decode cX7_drill 62 = .ok (.putfield 204, 3) := by decide +kernel
theorem dX7_drill_65 : decode cX7_drill 65 = .ok (.aload_n 0, 1) := by decide +kernel
theorem dX7_drill_66 : decode cX7_drill 66 = .ok (.getfield 204, 3) := by decide +kernel
theorem dX7_drill_69 : decode cX7_drill 69 = .ok (.ireturn, 1) := by decide +kernel
theorem dX7_forget_0 : decode cX7_forget 0 = .ok (.aload_n 0, 1) := by decide +kernel
theorem dX7_forget_1 : decode cX7_forget 1 = .ok (.getfield 204, 3) := by decide +kernel
theorem dX7_forget_4 : decode cX7_forget 4 = .ok (.istore_n 1, 1) := by decide +kernel
theorem dX7_forget_5 : decode cX7_forget 5 = .ok (.aload_n 0, 1) := by decide +kernel
theorem dX7_forget_6 : decode cX7_forget 6 = .ok (.iconst 0, 1) := by decide +kernel
theorem dX7_forget_7 : decode cX7_forget 7 = .ok (.putfield 204, 3) := by decide +kernel
theorem dX7_forget_10 : decode cX7_forget 10 = .ok (.iload_n 1, 1) := by decide +kernel
theorem dX7_forget_11 : decode cX7_forget 11 = .ok (.ireturn, 1) := by decide +kernel
set_option maxRecDepth 20000 in
theorem ggX7_colds_X7_isEither : GoodIn wsX7_colds wsX7_isEither := goodIn_r _ [4] (by decide +kernel) (by decide +kernel)
set_option maxRecDepth 20000 in
theorem gX7_colds_X7_isEither : GoodIn wsX7_colds (va_wsS RX7 171 yX7_isEither wsX7_isEither) := goodIn_app (goodIn_of _ (by decide +kernel)) ggX7_colds_X7_isEither
set_option maxRecDepth 20000 in
theorem ggX7_colds_X7_fitsDrilled : GoodIn wsX7_colds wsX7_fitsDrilled := goodIn_r _ [8, 9, 10, 11, 12, 13, 14, 15, 16, 17, 18, 19, 20, 21, 22, 23, 24, 25, 26, 27, 28, 29, 30, 31, 32, 33, 34, 35, 36, 37, 38, 39, 40, 41, 42, 43, 44, 45, 46, 47, 48, 49, 50, 51, 52, 53, 54, 55, 56, 57, 58, 59, 60, 61, 62, 63, 64, 65, 66, 67] (by decide +kernel) (by decide +kernel)
set_option maxRecDepth 20000 in
theorem gX7_colds_X7_fitsDrilled : GoodIn wsX7_colds (wsV RX7 207 RX7 yX7_fitsDrilled wsX7_fitsDrilled) := goodIn_app (goodIn_of _ (by decide +kernel)) ggX7_colds_X7_fitsDrilled
theorem dX7_colds_0 : decode cX7_colds 0 = .ok (.iload_n 1, 1) := by decide +kernel
theorem dX7_colds_1 : decode cX7_colds 1 = .ok (.invokestatic 171, 3) := by decide +kernel
theorem dX7_colds_4 : decode cX7_colds 4 = .ok (.ifCond .ne 5, 3) := by decide +kernel
theorem dX7_colds_7 : decode cX7_colds 7 = .ok (.iconst (-1), 1) := by decide +kernel
theorem dX7_colds_8 : decode cX7_colds 8 = .ok (.ireturn, 1) := by decide +kernel
theorem dX7_colds_9 : decode cX7_colds 9 = .ok (.bipush (-4), 2) := by decide +kernel
theorem dX7_colds_11 : decode cX7_colds 11 = .ok (.istore_n 2, 1) := by decide +kernel
theorem dX7_colds_12 : decode cX7_colds 12 = .ok (.iconst 0, 1) := by decide +kernel
theorem dX7_colds_13 : decode cX7_colds 13 = .ok (.istore_n 3, 1) := by decide +kernel
theorem dX7_colds_14 : decode cX7_colds 14 = .ok (.iconst 0, 1) := by decide +kernel
theorem dX7_colds_15 : decode cX7_colds 15 = .ok (.istore 4, 2) := by decide +kernel
theorem dX7_colds_17 : decode cX7_colds 17 = .ok (.iload 4, 2) := by decide +kernel
theorem dX7_colds_19 : decode cX7_colds 19 = .ok (.bipush 40, 2) := by decide +kernel
theorem dX7_colds_21 : decode cX7_colds 21 = .ok (.if_icmp .gt 33, 3) := by decide +kernel
theorem dX7_colds_24 : decode cX7_colds 24 = .ok (.aload_n 0, 1) := by decide +kernel
theorem dX7_colds_25 : decode cX7_colds 25 = .ok (.iload 4, 2) := by decide +kernel
theorem dX7_colds_27 : decode cX7_colds 27 = .ok (.bipush 20, 2) := by decide +kernel
theorem dX7_colds_29 : decode cX7_colds 29 = .ok (.isub, 1) := by decide +kernel
theorem dX7_colds_30 : decode cX7_colds 30 = .ok (.invokevirtual 207, 3) := by decide +kernel
theorem dX7_colds_33 : decode cX7_colds 33 = .ok (.ifCond .eq 15, 3) := by decide +kernel
theorem dX7_colds_36 : decode cX7_colds 36 = .ok (.iinc 3 1, 3) := by decide +kernel
theorem dX7_colds_39 : decode cX7_colds 39 = .ok (.iload_n 2, 1) := by decide +kernel
theorem dX7_colds_40 : decode cX7_colds 40 = .ok (.bipush (-4), 2) := by decide +kernel
theorem dX7_colds_42 : decode cX7_colds 42 = .ok (.if_icmp .ne 6, 3) := by decide +kernel
theorem dX7_colds_45 : decode cX7_colds 45 = .ok (.iload 4, 2) := by decide +kernel
theorem dX7_colds_47 : decode cX7_colds 47 = .ok (.istore_n 2, 1) := by decide +kernel
theorem dX7_colds_48 : decode cX7_colds 48 = .ok (.iinc 4 1, 3) := by decide +kernel
theorem dX7_colds_51 : decode cX7_colds 51 = .ok (.goto (-34), 3) := by decide +kernel
theorem dX7_colds_54 : decode cX7_colds 54 = .ok (.iload_n 1, 1) := by decide +kernel
theorem dX7_colds_55 : decode cX7_colds 55 = .ok (.ifCond .ne 7, 3) := by decide +kernel
theorem dX7_colds_58 : decode cX7_colds 58 = .ok (.iload_n 3, 1) := by decide +kernel
theorem dX7_colds_59 : decode cX7_colds 59 = .ok (.goto 4, 3) := by decide +kernel
theorem dX7_colds_62 : decode cX7_colds 62 = .ok (.iload_n 2, 1) := by decide +kernel
theorem dX7_colds_63 : decode cX7_colds 63 = .ok (.ireturn, 1) := by decide +kernel
set_option maxRecDepth 20000 in
theorem ggX7_across_X6_clear : GoodIn wsX7_across wsX6_clear := goodIn_r _ [16, 17, 18, 19, 20, 21, 22, 79, 80, 81] (by decide +kernel) (by decide +kernel)
set_option maxRecDepth 20000 in
theorem gX7_across_X6_clear : GoodIn wsX7_across (wsV RX7 184 RX6 yX6_clear wsX6_clear) := goodIn_app (goodIn_of _ (by decide +kernel)) ggX7_across_X6_clear
set_option maxRecDepth 20000 in
theorem ggX7_across_X6_startAt : GoodIn wsX7_across wsX6_startAt := goodIn_r _ [26, 27, 28, 29, 15, 30, 31, 17, 79, 80, 81] (by decide +kernel) (by decide +kernel)
set_option maxRecDepth 20000 in
theorem gX7_across_X6_startAt : GoodIn wsX7_across (wsV RX7 194 RX6 yX6_startAt wsX6_startAt) := goodIn_app (goodIn_of _ (by decide +kernel)) ggX7_across_X6_startAt
set_option maxRecDepth 20000 in
theorem ggX7_across_X6_spread : GoodIn wsX7_across wsX6_spread := goodIn_r _ [35, 36, 18, 17, 37, 38, 39, 15, 40, 41, 42, 43, 44, 45, 46, 47, 48, 49, 50, 51, 27, 28, 29, 30, 31, 69, 70, 71, 72, 73, 74, 75, 76, 77, 78, 79, 80, 81] (by decide +kernel) (by decide +kernel)
set_option maxRecDepth 20000 in
theorem gX7_across_X6_spread : GoodIn wsX7_across (wsV RX7 197 RX6 yX6_spread wsX6_spread) := goodIn_app (goodIn_of _ (by decide +kernel)) ggX7_across_X6_spread
set_option maxRecDepth 20000 in
theorem ggX7_across_X6_leastTo : GoodIn wsX7_across wsX6_leastTo := goodIn_r _ [55, 17, 79, 80, 81] (by decide +kernel) (by decide +kernel)
set_option maxRecDepth 20000 in
theorem gX7_across_X6_leastTo : GoodIn wsX7_across (wsV RX7 201 RX6 yX6_leastTo wsX6_leastTo) := goodIn_app (goodIn_of _ (by decide +kernel)) ggX7_across_X6_leastTo
theorem dX7_across_0 : decode cX7_across 0 = .ok (.aload_n 0, 1) := by decide +kernel
theorem dX7_across_1 : decode cX7_across 1 = .ok (.getfield 55, 3) := by decide +kernel
theorem dX7_across_4 : decode cX7_across 4 = .ok (.invokevirtual 184, 3) := by decide +kernel
theorem dX7_across_7 : decode cX7_across 7 = .ok (.iconst 0, 1) := by decide +kernel
theorem dX7_across_8 : decode cX7_across 8 = .ok (.istore_n 1, 1) := by decide +kernel
theorem dX7_across_9 : decode cX7_across 9 = .ok (.iload_n 1, 1) := by decide +kernel
theorem dX7_across_10 : decode cX7_across 10 = .ok (.aload_n 0, 1) := by decide +kernel
theorem dX7_across_11 : decode cX7_across 11 = .ok (.getfield 69, 3) := by decide +kernel
theorem dX7_across_14 : decode cX7_across 14 = .ok (.getfield 103, 3) := by decide +kernel
theorem dX7_across_17 : decode cX7_across 17 = .ok (.if_icmp .ge 35, 3) := by decide +kernel
theorem dX7_across_20 : decode cX7_across 20 = .ok (.aload_n 0, 1) := by decide +kernel
theorem dX7_across_21 : decode cX7_across 21 = .ok (.getfield 55, 3) := by decide +kernel
theorem dX7_across_24 : decode cX7_across 24 = .ok (.getfield 187, 3) := by decide +kernel
theorem dX7_across_27 : decode cX7_across 27 = .ok (.iload_n 1, 1) := by decide +kernel
theorem dX7_across_28 : decode cX7_across 28 = .ok (.aload_n 0, 1) := by decide +kernel
theorem dX7_across_29 : decode cX7_across 29 = .ok (.getfield 26, 3) := by decide +kernel
theorem dX7_across_32 : decode cX7_across 32 = .ok (.getfield 113, 3) := by decide +kernel
theorem dX7_across_35 : decode cX7_across 35 = .ok (.iload_n 1, 1) := by decide +kernel
theorem dX7_across_36 : decode cX7_across 36 = .ok (.iaload, 1) := by decide +kernel
theorem dX7_across_37 : decode cX7_across 37 = .ok (.ifCond .ne 7, 3) := by decide +kernel
theorem dX7_across_40 : decode cX7_across 40 = .ok (.iconst 1, 1) := by decide +kernel
theorem dX7_across_41 : decode cX7_across 41 = .ok (.goto 4, 3) := by decide +kernel
theorem dX7_across_44 : decode cX7_across 44 = .ok (.iconst 0, 1) := by decide +kernel
theorem dX7_across_45 : decode cX7_across 45 = .ok (.iastore, 1) := by decide +kernel
theorem dX7_across_46 : decode cX7_across 46 = .ok (.iinc 1 1, 3) := by decide +kernel
theorem dX7_across_49 : decode cX7_across 49 = .ok (.goto (-40), 3) := by decide +kernel
theorem dX7_across_52 : decode cX7_across 52 = .ok (.iconst 0, 1) := by decide +kernel
theorem dX7_across_53 : decode cX7_across 53 = .ok (.istore_n 1, 1) := by decide +kernel
theorem dX7_across_54 : decode cX7_across 54 = .ok (.iload_n 1, 1) := by decide +kernel
theorem dX7_across_55 : decode cX7_across 55 = .ok (.aload_n 0, 1) := by decide +kernel
theorem dX7_across_56 : decode cX7_across 56 = .ok (.getfield 69, 3) := by decide +kernel
theorem dX7_across_59 : decode cX7_across 59 = .ok (.getfield 210, 3) := by decide +kernel
theorem dX7_across_62 : decode cX7_across 62 = .ok (.if_icmp .ge 17, 3) := by decide +kernel
theorem dX7_across_65 : decode cX7_across 65 = .ok (.aload_n 0, 1) := by decide +kernel
theorem dX7_across_66 : decode cX7_across 66 = .ok (.getfield 55, 3) := by decide +kernel
theorem dX7_across_69 : decode cX7_across 69 = .ok (.iload_n 1, 1) := by decide +kernel
theorem dX7_across_70 : decode cX7_across 70 = .ok (.invokevirtual 194, 3) := by decide +kernel
theorem dX7_across_73 : decode cX7_across 73 = .ok (.iinc 1 1, 3) := by decide +kernel
theorem dX7_across_76 : decode cX7_across 76 = .ok (.goto (-22), 3) := by decide +kernel
theorem dX7_across_79 : decode cX7_across 79 = .ok (.aload_n 0, 1) := by decide +kernel
theorem dX7_across_80 : decode cX7_across 80 = .ok (.getfield 55, 3) := by decide +kernel
theorem dX7_across_83 : decode cX7_across 83 = .ok (.aload_n 0, 1) := by decide +kernel
theorem dX7_across_84 : decode cX7_across 84 = .ok (.getfield 69, 3) := by decide +kernel
theorem dX7_across_87 : decode cX7_across 87 = .ok (.invokevirtual 197, 3) := by decide +kernel
theorem dX7_across_90 : decode cX7_across 90 = .ok (.aload_n 0, 1) := by decide +kernel
theorem dX7_across_91 : decode cX7_across 91 = .ok (.getfield 69, 3) := by decide +kernel
theorem dX7_across_94 : decode cX7_across 94 = .ok (.getfield 103, 3) := by decide +kernel
theorem dX7_across_97 : decode cX7_across 97 = .ok (.istore_n 1, 1) := by decide +kernel
theorem dX7_across_98 : decode cX7_across 98 = .ok (.aload_n 0, 1) := by decide +kernel
theorem dX7_across_99 : decode cX7_across 99 = .ok (.getfield 69, 3) := by decide +kernel
theorem dX7_across_102 : decode cX7_across 102 = .ok (.getfield 103, 3) := by decide +kernel
theorem dX7_across_105 : decode cX7_across 105 = .ok (.aload_n 0, 1) := by decide +kernel
theorem dX7_across_106 : decode cX7_across 106 = .ok (.getfield 69, 3) := by decide +kernel
theorem dX7_across_109 : decode cX7_across 109 = .ok (.getfield 210, 3) := by decide +kernel
theorem dX7_across_112 : decode cX7_across 112 = .ok (.isub, 1) := by decide +kernel
theorem dX7_across_113 : decode cX7_across 113 = .ok (.istore_n 2, 1) := by decide +kernel
theorem dX7_across_114 : decode cX7_across 114 = .ok (.iload_n 2, 1) := by decide +kernel
theorem dX7_across_115 : decode cX7_across 115 = .ok (.aload_n 0, 1) := by decide +kernel
theorem dX7_across_116 : decode cX7_across 116 = .ok (.getfield 69, 3) := by decide +kernel
theorem dX7_across_119 : decode cX7_across 119 = .ok (.getfield 103, 3) := by decide +kernel
theorem dX7_across_122 : decode cX7_across 122 = .ok (.if_icmp .ge 22, 3) := by decide +kernel
theorem dX7_across_125 : decode cX7_across 125 = .ok (.iload_n 1, 1) := by decide +kernel
theorem dX7_across_126 : decode cX7_across 126 = .ok (.aload_n 0, 1) := by decide +kernel
theorem dX7_across_127 : decode cX7_across 127 = .ok (.getfield 55, 3) := by decide +kernel
theorem dX7_across_130 : decode cX7_across 130 = .ok (.iload_n 2, 1) := by decide +kernel
theorem dX7_across_131 : decode cX7_across 131 = .ok (.invokevirtual 201, 3) := by decide +kernel
theorem dX7_across_134 : decode cX7_across 134 = .ok (.invokestatic 213, 3) := by decide +kernel
theorem dX7_across_137 : decode cX7_across 137 = .ok (.istore_n 1, 1) := by decide +kernel
theorem dX7_across_138 : decode cX7_across 138 = .ok (.iinc 2 1, 3) := by decide +kernel
theorem dX7_across_141 : decode cX7_across 141 = .ok (.goto (-27), 3) := by decide +kernel
theorem dX7_across_144 : decode cX7_across 144 = .ok (.iload_n 1, 1) := by decide +kernel
theorem dX7_across_145 : decode cX7_across 145 = .ok (.ireturn, 1) := by decide +kernel
set_option maxRecDepth 20000 in
theorem ggX7_shares_X3_hasCell : GoodIn wsX7_shares wsX3_hasCell := goodIn_r _ [9, 10, 67, 68, 69, 70, 71, 72, 73, 74, 75, 76] (by decide +kernel) (by decide +kernel)
set_option maxRecDepth 20000 in
theorem gX7_shares_X3_hasCell : GoodIn wsX7_shares (wsV RX7 106 RX3 yX3_hasCell wsX3_hasCell) := goodIn_app (goodIn_of _ (by decide +kernel)) ggX7_shares_X3_hasCell
set_option maxRecDepth 20000 in
theorem ggX7_shares_X7_isFamily : GoodIn wsX7_shares wsX7_isFamily := goodIn_r _ [14] (by decide +kernel) (by decide +kernel)
set_option maxRecDepth 20000 in
theorem gX7_shares_X7_isFamily : GoodIn wsX7_shares (va_wsS RX7 130 yX7_isFamily wsX7_isFamily) := goodIn_app (goodIn_of _ (by decide +kernel)) ggX7_shares_X7_isFamily
set_option maxRecDepth 20000 in
theorem ggX7_shares_X7_isEither : GoodIn wsX7_shares wsX7_isEither := goodIn_r _ [17] (by decide +kernel) (by decide +kernel)
set_option maxRecDepth 20000 in
theorem gX7_shares_X7_isEither : GoodIn wsX7_shares (va_wsS RX7 171 yX7_isEither wsX7_isEither) := goodIn_app (goodIn_of _ (by decide +kernel)) ggX7_shares_X7_isEither
set_option maxRecDepth 20000 in
theorem ggX7_shares_X0_sizeAround : GoodIn wsX7_shares wsX0_sizeAround := goodIn_r _ [22, 23, 24, 25, 21, 26, 27, 28, 29, 30, 31, 32, 33, 34, 6, 7, 8, 9, 10, 35, 36, 37, 38, 39, 40, 77, 78, 79, 80, 63, 64, 65, 66, 67, 68, 69, 70, 71, 72, 73, 74, 75, 76] (by decide +kernel) (by decide +kernel)
set_option maxRecDepth 20000 in
theorem gX7_shares_X0_sizeAround : GoodIn wsX7_shares (wsV RX7 126 RX0 yX0_sizeAround wsX0_sizeAround) := goodIn_app (goodIn_of _ (by decide +kernel)) ggX7_shares_X0_sizeAround
set_option maxRecDepth 20000 in
theorem ggX7_shares_X0_seenOnMapOf : GoodIn wsX7_shares wsX0_seenOnMapOf := goodIn_r _ [44, 45, 27, 46, 67, 68, 69, 70, 71, 72, 73, 74, 75, 76, 77, 78, 79, 80] (by decide +kernel) (by decide +kernel)
set_option maxRecDepth 20000 in
theorem gX7_shares_X0_seenOnMapOf : GoodIn wsX7_shares (wsV RX7 218 RX0 yX0_seenOnMapOf wsX0_seenOnMapOf) := goodIn_app (goodIn_of _ (by decide +kernel)) ggX7_shares_X0_seenOnMapOf
set_option maxRecDepth 20000 in
theorem ggX7_shares_X7_greatestDivisor : GoodIn wsX7_shares wsX7_greatestDivisor := goodIn_r _ [49] (by decide +kernel) (by decide +kernel)
set_option maxRecDepth 20000 in
theorem gX7_shares_X7_greatestDivisor : GoodIn wsX7_shares (va_wsS RX7 221 yX7_greatestDivisor wsX7_greatestDivisor) := goodIn_app (goodIn_of _ (by decide +kernel)) ggX7_shares_X7_greatestDivisor
theorem dX7_shares_0 : decode cX7_shares 0 = .ok (.aload_n 0, 1) := by decide +kernel
theorem dX7_shares_1 : decode cX7_shares 1 = .ok (.getfield 69, 3) := by decide +kernel
theorem dX7_shares_4 : decode cX7_shares 4 = .ok (.iload_n 1, 1) := by decide +kernel
theorem dX7_shares_5 : decode cX7_shares 5 = .ok (.invokevirtual 106, 3) := by decide +kernel
theorem dX7_shares_8 : decode cX7_shares 8 = .ok (.ifCond .eq 17, 3) := by decide +kernel
theorem dX7_shares_11 : decode cX7_shares 11 = .ok (.iload_n 2, 1) := by decide +kernel
theorem dX7_shares_12 : decode cX7_shares 12 = .ok (.invokestatic 130, 3) := by decide +kernel
theorem dX7_shares_15 : decode cX7_shares 15 = .ok (.ifCond .eq 10, 3) := by decide +kernel
theorem dX7_shares_18 : decode cX7_shares 18 = .ok (.iload_n 3, 1) := by decide +kernel
theorem dX7_shares_19 : decode cX7_shares 19 = .ok (.invokestatic 171, 3) := by decide +kernel
theorem dX7_shares_22 : decode cX7_shares 22 = .ok (.ifCond .ne 5, 3) := by decide +kernel
theorem dX7_shares_25 : decode cX7_shares 25 = .ok (.iconst (-1), 1) := by decide +kernel
theorem dX7_shares_26 : decode cX7_shares 26 = .ok (.ireturn, 1) := by decide +kernel
theorem dX7_shares_27 : decode cX7_shares 27 = .ok (.aload_n 0, 1) := by decide +kernel
theorem dX7_shares_28 : decode cX7_shares 28 = .ok (.getfield 26, 3) := by decide +kernel
theorem dX7_shares_31 : decode cX7_shares 31 = .ok (.getfield 116, 3) := by decide +kernel
theorem dX7_shares_34 : decode cX7_shares 34 = .ok (.iload_n 1, 1) := by decide +kernel
theorem dX7_shares_35 : decode cX7_shares 35 = .ok (.iaload, 1) := by decide +kernel
theorem dX7_shares_36 : decode cX7_shares 36 = .ok (.bipush (-4), 2) := by decide +kernel
theorem dX7_shares_38 : decode cX7_shares 38 = .ok (.if_icmp .ne 6, 3) := by decide +kernel
theorem dX7_shares_41 : decode cX7_shares 41 = .ok (.bipush (-4), 2) := by decide +kernel
theorem dX7_shares_43 : decode cX7_shares 43 = .ok (.ireturn, 1) := by decide +kernel
theorem dX7_shares_44 : decode cX7_shares 44 = .ok (.aload_n 0, 1) := by decide +kernel
theorem dX7_shares_45 : decode cX7_shares 45 = .ok (.getfield 48, 3) := by decide +kernel
theorem dX7_shares_48 : decode cX7_shares 48 = .ok (.aload_n 0, 1) := by decide +kernel
theorem dX7_shares_49 : decode cX7_shares 49 = .ok (.getfield 69, 3) := by decide +kernel
theorem dX7_shares_52 : decode cX7_shares 52 = .ok (.aload_n 0, 1) := by decide +kernel
theorem dX7_shares_53 : decode cX7_shares 53 = .ok (.getfield 26, 3) := by decide +kernel
theorem dX7_shares_56 : decode cX7_shares 56 = .ok (.iload_n 1, 1) := by decide +kernel
theorem dX7_shares_57 : decode cX7_shares 57 = .ok (.invokevirtual 126, 3) := by decide +kernel
theorem dX7_shares_60 : decode cX7_shares 60 = .ok (.istore 4, 2) := by decide +kernel
theorem dX7_shares_62 : decode cX7_shares 62 = .ok (.aload_n 0, 1) := by decide +kernel
theorem dX7_shares_63 : decode cX7_shares 63 = .ok (.getfield 48, 3) := by decide +kernel
theorem dX7_shares_66 : decode cX7_shares 66 = .ok (.aload_n 0, 1) := by decide +kernel
theorem dX7_shares_67 : decode cX7_shares 67 = .ok (.getfield 69, 3) := by decide +kernel
theorem dX7_shares_70 : decode cX7_shares 70 = .ok (.iload_n 2, 1) := by decide +kernel
theorem dX7_shares_71 : decode cX7_shares 71 = .ok (.invokevirtual 218, 3) := by decide +kernel
theorem dX7_shares_74 : decode cX7_shares 74 = .ok (.istore 5, 2) := by decide +kernel
theorem dX7_shares_76 : decode cX7_shares 76 = .ok (.iload 5, 2) := by decide +kernel
theorem dX7_shares_78 : decode cX7_shares 78 = .ok (.iload 4, 2) := by decide +kernel
theorem dX7_shares_80 : decode cX7_shares 80 = .ok (.invokestatic 221, 3) := by decide +kernel
theorem dX7_shares_83 : decode cX7_shares 83 = .ok (.istore 6, 2) := by decide +kernel
theorem dX7_shares_85 : decode cX7_shares 85 = .ok (.iload 6, 2) := by decide +kernel
theorem dX7_shares_87 : decode cX7_shares 87 = .ok (.ifCond .ne 6, 3) := by decide +kernel
theorem dX7_shares_90 : decode cX7_shares 90 = .ok (.bipush (-4), 2) := by decide +kernel
theorem dX7_shares_92 : decode cX7_shares 92 = .ok (.ireturn, 1) := by decide +kernel
theorem dX7_shares_93 : decode cX7_shares 93 = .ok (.iload_n 3, 1) := by decide +kernel
theorem dX7_shares_94 : decode cX7_shares 94 = .ok (.ifCond .ne 8, 3) := by decide +kernel
theorem dX7_shares_97 : decode cX7_shares 97 = .ok (.iload 5, 2) := by decide +kernel
theorem dX7_shares_99 : decode cX7_shares 99 = .ok (.goto 5, 3) := by decide +kernel
theorem dX7_shares_102 : decode cX7_shares 102 = .ok (.iload 4, 2) := by decide +kernel
theorem dX7_shares_104 : decode cX7_shares 104 = .ok (.iload 6, 2) := by decide +kernel
theorem dX7_shares_106 : decode cX7_shares 106 = .ok (.idiv, 1) := by decide +kernel
theorem dX7_shares_107 : decode cX7_shares 107 = .ok (.ireturn, 1) := by decide +kernel
set_option maxRecDepth 20000 in
theorem ggX7_winter_X7_isFamily : GoodIn wsX7_winter wsX7_isFamily := goodIn_r _ [7] (by decide +kernel) (by decide +kernel)
set_option maxRecDepth 20000 in
theorem gX7_winter_X7_isFamily : GoodIn wsX7_winter (va_wsS RX7 130 yX7_isFamily wsX7_isFamily) := goodIn_app (goodIn_of _ (by decide +kernel)) ggX7_winter_X7_isFamily
set_option maxRecDepth 20000 in
theorem ggX7_winter_X1_setTo : GoodIn wsX7_winter wsX1_setTo := goodIn_r _ [12, 13, 14, 15, 16, 17, 18, 19, 100, 101, 102, 103] (by decide +kernel) (by decide +kernel)
set_option maxRecDepth 20000 in
theorem gX7_winter_X1_setTo : GoodIn wsX7_winter (wsV RX7 174 RX1 yX1_setTo wsX1_setTo) := goodIn_app (goodIn_of _ (by decide +kernel)) ggX7_winter_X1_setTo
set_option maxRecDepth 20000 in
theorem ggX7_winter_X7_drawnCold : GoodIn wsX7_winter wsX7_drawnCold := goodIn_r _ [22, 23, 24, 25, 26, 27] (by decide +kernel) (by decide +kernel)
set_option maxRecDepth 20000 in
theorem gX7_winter_X7_drawnCold : GoodIn wsX7_winter (va_wsS RX7 224 yX7_drawnCold wsX7_drawnCold) := goodIn_app (goodIn_of _ (by decide +kernel)) ggX7_winter_X7_drawnCold
set_option maxRecDepth 20000 in
theorem ggX7_winter_X1_passDay : GoodIn wsX7_winter wsX1_passDay := goodIn_r _ [31, 18, 32, 14, 15, 16, 17, 33, 13, 34, 19, 35, 36, 37, 38, 39, 40, 41, 42, 43, 44, 45, 46, 47, 48, 49, 50, 51, 52, 53, 54, 55, 56, 57, 11, 58, 59, 60, 61, 62, 63, 64, 65, 66, 67, 68, 69, 70, 71, 72, 73, 74, 75, 76, 77, 78, 100, 101, 102, 103, 104, 105, 106, 107, 108, 109, 110, 111, 112, 113] (by decide +kernel) (by decide +kernel)
set_option maxRecDepth 20000 in
theorem gX7_winter_X1_passDay : GoodIn wsX7_winter (wsV RX7 227 RX1 yX1_passDay wsX1_passDay) := goodIn_app (goodIn_of _ (by decide +kernel)) ggX7_winter_X1_passDay
set_option maxRecDepth 20000 in
theorem ggX7_winter_X1_hasAny : GoodIn wsX7_winter wsX1_hasAny := goodIn_r _ [82, 33, 18, 104, 105, 106, 107, 108, 109, 110, 111, 112, 113, 100, 101, 102, 103] (by decide +kernel) (by decide +kernel)
set_option maxRecDepth 20000 in
theorem gX7_winter_X1_hasAny : GoodIn wsX7_winter (wsV RX7 177 RX1 yX1_hasAny wsX1_hasAny) := goodIn_app (goodIn_of _ (by decide +kernel)) ggX7_winter_X1_hasAny
set_option maxRecDepth 20000 in
theorem ggX7_winter_X1_cellsWithIce : GoodIn wsX7_winter wsX1_cellsWithIce := goodIn_r _ [86, 33, 13, 104, 105, 106, 107, 108, 109, 110, 111, 112, 113, 100, 101, 102, 103] (by decide +kernel) (by decide +kernel)
set_option maxRecDepth 20000 in
theorem gX7_winter_X1_cellsWithIce : GoodIn wsX7_winter (wsV RX7 230 RX1 yX1_cellsWithIce wsX1_cellsWithIce) := goodIn_app (goodIn_of _ (by decide +kernel)) ggX7_winter_X1_cellsWithIce
theorem dX7_winter_0 : decode cX7_winter 0 = .ok (.iload_n 1, 1) := by decide +kernel
theorem dX7_winter_1 : decode cX7_winter 1 = .ok (.ifCond .lt 33, 3) := by decide +kernel
theorem dX7_winter_4 : decode cX7_winter 4 = .ok (.iload_n 1, 1) := by decide +kernel
theorem dX7_winter_5 : decode cX7_winter 5 = .ok (.sipush 9999, 3) := by decide +kernel
theorem dX7_winter_8 : decode cX7_winter 8 = .ok (.if_icmp .gt 26, 3) := by decide +kernel
theorem dX7_winter_11 : decode cX7_winter 11 = .ok (.iload_n 2, 1) := by decide +kernel
theorem dX7_winter_12 : decode cX7_winter 12 = .ok (.iconst 1, 1) := by decide +kernel
theorem dX7_winter_13 : decode cX7_winter 13 = .ok (.if_icmp .lt 21, 3) := by decide +kernel
theorem dX7_winter_16 : decode cX7_winter 16 = .ok (.iload_n 2, 1) := by decide +kernel
theorem dX7_winter_17 : decode cX7_winter 17 = .ok (.bipush 60, 2) := by decide +kernel
theorem dX7_winter_19 : decode cX7_winter 19 = .ok (.if_icmp .gt 15, 3) := by decide +kernel
theorem dX7_winter_22 : decode cX7_winter 22 = .ok (.iload_n 3, 1) := by decide +kernel
theorem dX7_winter_23 : decode cX7_winter 23 = .ok (.iconst (-1), 1) := by decide +kernel
theorem dX7_winter_24 : decode cX7_winter 24 = .ok (.if_icmp .eq 12, 3) := by decide +kernel
theorem dX7_winter_27 : decode cX7_winter 27 = .ok (.iload_n 3, 1) := by decide +kernel
theorem dX7_winter_28 : decode cX7_winter 28 = .ok (.invokestatic 130, 3) := by decide +kernel
theorem dX7_winter_31 : decode cX7_winter 31 = .ok (.ifCond .ne 5, 3) := by decide +kernel
theorem dX7_winter_34 : decode cX7_winter 34 = .ok (.iconst (-1), 1) := by decide +kernel
theorem dX7_winter_35 : decode cX7_winter 35 = .ok (.ireturn, 1) := by decide +kernel
theorem dX7_winter_36 : decode cX7_winter 36 = .ok (.iconst 0, 1) := by decide +kernel
theorem dX7_winter_37 : decode cX7_winter 37 = .ok (.istore 4, 2) := by decide +kernel
theorem dX7_winter_39 : decode cX7_winter 39 = .ok (.aload_n 0, 1) := by decide +kernel
theorem dX7_winter_40 : decode cX7_winter 40 = .ok (.getfield 30, 3) := by decide +kernel
theorem dX7_winter_43 : decode cX7_winter 43 = .ok (.aload_n 0, 1) := by decide +kernel
theorem dX7_winter_44 : decode cX7_winter 44 = .ok (.getfield 26, 3) := by decide +kernel
theorem dX7_winter_47 : decode cX7_winter 47 = .ok (.invokevirtual 174, 3) := by decide +kernel
theorem dX7_winter_50 : decode cX7_winter 50 = .ok (.iconst 0, 1) := by decide +kernel
theorem dX7_winter_51 : decode cX7_winter 51 = .ok (.istore 5, 2) := by decide +kernel
theorem dX7_winter_53 : decode cX7_winter 53 = .ok (.iload 5, 2) := by decide +kernel
theorem dX7_winter_55 : decode cX7_winter 55 = .ok (.iload_n 2, 1) := by decide +kernel
theorem dX7_winter_56 : decode cX7_winter 56 = .ok (.if_icmp .ge 44, 3) := by decide +kernel
theorem dX7_winter_59 : decode cX7_winter 59 = .ok (.aload_n 0, 1) := by decide +kernel
theorem dX7_winter_60 : decode cX7_winter 60 = .ok (.getfield 30, 3) := by decide +kernel
theorem dX7_winter_63 : decode cX7_winter 63 = .ok (.aload_n 0, 1) := by decide +kernel
theorem dX7_winter_64 : decode cX7_winter 64 = .ok (.getfield 69, 3) := by decide +kernel
theorem dX7_winter_67 : decode cX7_winter 67 = .ok (.iload_n 1, 1) := by decide +kernel
theorem dX7_winter_68 : decode cX7_winter 68 = .ok (.iload 5, 2) := by decide +kernel
theorem dX7_winter_70 : decode cX7_winter 70 = .ok (.invokestatic 224, 3) := by decide +kernel
theorem dX7_winter_73 : decode cX7_winter 73 = .ok (.invokevirtual 227, 3) := by decide +kernel
theorem dX7_winter_76 : decode cX7_winter 76 = .ok (.aload_n 0, 1) := by decide +kernel
theorem dX7_winter_77 : decode cX7_winter 77 = .ok (.getfield 30, 3) := by decide +kernel
theorem dX7_winter_80 : decode cX7_winter 80 = .ok (.aload_n 0, 1) := by decide +kernel
theorem dX7_winter_81 : decode cX7_winter 81 = .ok (.getfield 69, 3) := by decide +kernel
theorem dX7_winter_84 : decode cX7_winter 84 = .ok (.iload_n 3, 1) := by decide +kernel
theorem dX7_winter_85 : decode cX7_winter 85 = .ok (.invokevirtual 177, 3) := by decide +kernel
theorem dX7_winter_88 : decode cX7_winter 88 = .ok (.ifCond .ne 6, 3) := by decide +kernel
theorem dX7_winter_91 : decode cX7_winter 91 = .ok (.iinc 4 1, 3) := by decide +kernel
theorem dX7_winter_94 : decode cX7_winter 94 = .ok (.iinc 5 1, 3) := by decide +kernel
theorem dX7_winter_97 : decode cX7_winter 97 = .ok (.goto (-44), 3) := by decide +kernel
theorem dX7_winter_100 : decode cX7_winter 100 = .ok (.iload_n 3, 1) := by decide +kernel
theorem dX7_winter_101 : decode cX7_winter 101 = .ok (.iconst (-1), 1) := by decide +kernel
theorem dX7_winter_102 : decode cX7_winter 102 = .ok (.if_icmp .ne 17, 3) := by decide +kernel
theorem dX7_winter_105 : decode cX7_winter 105 = .ok (.aload_n 0, 1) := by decide +kernel
theorem dX7_winter_106 : decode cX7_winter 106 = .ok (.getfield 30, 3) := by decide +kernel
theorem dX7_winter_109 : decode cX7_winter 109 = .ok (.aload_n 0, 1) := by decide +kernel
theorem dX7_winter_110 : decode cX7_winter 110 = .ok (.getfield 69, 3) := by decide +kernel
theorem dX7_winter_113 : decode cX7_winter 113 = .ok (.invokevirtual 230, 3) := by decide +kernel
theorem dX7_winter_116 : decode cX7_winter 116 = .ok (.goto 5, 3) := by decide +kernel
theorem dX7_winter_119 : decode cX7_winter 119 = .ok (.iload 4, 2) := by decide +kernel
theorem dX7_winter_121 : decode cX7_winter 121 = .ok (.ireturn, 1) := by decide +kernel
set_option maxRecDepth 20000 in
theorem ggX7_keep_X4_put : GoodIn wsX7_keep wsX4_put := goodIn_r _ [8, 9, 10, 11, 12, 13, 14, 15, 16, 17, 18, 19, 20, 21, 22, 23, 7, 24, 38, 39, 40, 41, 42, 43, 44, 45, 46] (by decide +kernel) (by decide +kernel)
set_option maxRecDepth 20000 in
theorem gX7_keep_X4_put : GoodIn wsX7_keep (wsV RX7 150 RX4 yX4_put wsX4_put) := goodIn_app (goodIn_of _ (by decide +kernel)) ggX7_keep_X4_put
theorem dX7_keep_0 : decode cX7_keep 0 = .ok (.aload_n 0, 1) := by decide +kernel
theorem dX7_keep_1 : decode cX7_keep 1 = .ok (.getfield 42, 3) := by decide +kernel
theorem dX7_keep_4 : decode cX7_keep 4 = .ok (.getfield 168, 3) := by decide +kernel
theorem dX7_keep_7 : decode cX7_keep 7 = .ok (.iconst 2, 1) := by decide +kernel
theorem dX7_keep_8 : decode cX7_keep 8 = .ok (.if_icmp .lt 6, 3) := by decide +kernel
theorem dX7_keep_11 : decode cX7_keep 11 = .ok (.bipush (-3), 2) := by decide +kernel
theorem dX7_keep_13 : decode cX7_keep 13 = .ok (.ireturn, 1) := by decide +kernel
theorem dX7_keep_14 : decode cX7_keep 14 = .ok (.aload_n 0, 1) := by decide +kernel
theorem dX7_keep_15 : decode cX7_keep 15 = .ok (.getfield 42, 3) := by decide +kernel
theorem dX7_keep_18 : decode cX7_keep 18 = .ok (.aload_n 0, 1) := by decide +kernel
theorem dX7_keep_19 : decode cX7_keep 19 = .ok (.getfield 26, 3) := by decide +kernel
theorem dX7_keep_22 : decode cX7_keep 22 = .ok (.invokevirtual 150, 3) := by decide +kernel
theorem dX7_keep_25 : decode cX7_keep 25 = .ok (.aload_n 0, 1) := by decide +kernel
theorem dX7_keep_26 : decode cX7_keep 26 = .ok (.getfield 42, 3) := by decide +kernel
theorem dX7_keep_29 : decode cX7_keep 29 = .ok (.getfield 168, 3) := by decide +kernel
theorem dX7_keep_32 : decode cX7_keep 32 = .ok (.ireturn, 1) := by decide +kernel
set_option maxRecDepth 20000 in
theorem ggX7_back_X4_takeInto : GoodIn wsX7_back wsX4_takeInto := goodIn_r _ [9, 10, 11, 12, 13, 14, 15, 16, 17, 18, 19, 20, 21, 35, 36, 37, 38, 39, 40, 41, 42, 43] (by decide +kernel) (by decide +kernel)
set_option maxRecDepth 20000 in
theorem gX7_back_X4_takeInto : GoodIn wsX7_back (wsV RX7 164 RX4 yX4_takeInto wsX4_takeInto) := goodIn_app (goodIn_of _ (by decide +kernel)) ggX7_back_X4_takeInto
theorem dX7_back_0 : decode cX7_back 0 = .ok (.aload_n 0, 1) := by decide +kernel
theorem dX7_back_1 : decode cX7_back 1 = .ok (.getfield 42, 3) := by decide +kernel
theorem dX7_back_4 : decode cX7_back 4 = .ok (.aload_n 0, 1) := by decide +kernel
theorem dX7_back_5 : decode cX7_back 5 = .ok (.getfield 26, 3) := by decide +kernel
theorem dX7_back_8 : decode cX7_back 8 = .ok (.invokevirtual 164, 3) := by decide +kernel
theorem dX7_back_11 : decode cX7_back 11 = .ok (.ifCond .ne 6, 3) := by decide +kernel
theorem dX7_back_14 : decode cX7_back 14 = .ok (.bipush (-2), 2) := by decide +kernel
theorem dX7_back_16 : decode cX7_back 16 = .ok (.ireturn, 1) := by decide +kernel
theorem dX7_back_17 : decode cX7_back 17 = .ok (.aload_n 0, 1) := by decide +kernel
theorem dX7_back_18 : decode cX7_back 18 = .ok (.getfield 38, 3) := by decide +kernel
theorem dX7_back_21 : decode cX7_back 21 = .ok (.iconst 0, 1) := by decide +kernel
theorem dX7_back_22 : decode cX7_back 22 = .ok (.putfield 168, 3) := by decide +kernel
theorem dX7_back_25 : decode cX7_back 25 = .ok (.aload_n 0, 1) := by decide +kernel
theorem dX7_back_26 : decode cX7_back 26 = .ok (.getfield 42, 3) := by decide +kernel
theorem dX7_back_29 : decode cX7_back 29 = .ok (.getfield 168, 3) := by decide +kernel
theorem dX7_back_32 : decode cX7_back 32 = .ok (.ireturn, 1) := by decide +kernel
set_option maxRecDepth 20000 in
theorem ggX7_count_X1_cellsWithIce : GoodIn wsX7_count wsX1_cellsWithIce := goodIn_r _ [17, 18, 19, 42, 43, 44, 45, 46, 47, 48, 49, 50, 51, 52, 53, 54, 55] (by decide +kernel) (by decide +kernel)
set_option maxRecDepth 20000 in
theorem gX7_count_X1_cellsWithIce : GoodIn wsX7_count (wsV RX7 230 RX1 yX1_cellsWithIce wsX1_cellsWithIce) := goodIn_app (goodIn_of _ (by decide +kernel)) ggX7_count_X1_cellsWithIce
set_option maxRecDepth 20000 in
theorem ggX7_count_X1_cellsOf : GoodIn wsX7_count wsX1_cellsOf := goodIn_r _ [23, 18, 24, 42, 43, 44, 45, 46, 47, 48, 49, 50, 51, 52, 53, 54, 55] (by decide +kernel) (by decide +kernel)
set_option maxRecDepth 20000 in
theorem gX7_count_X1_cellsOf : GoodIn wsX7_count (wsV RX7 133 RX1 yX1_cellsOf wsX1_cellsOf) := goodIn_app (goodIn_of _ (by decide +kernel)) ggX7_count_X1_cellsOf
set_option maxRecDepth 20000 in
theorem ggX7_count_X1_inchesInAll : GoodIn wsX7_count wsX1_inchesInAll := goodIn_r _ [28, 18, 19, 42, 43, 44, 45, 46, 47, 48, 49, 50, 51, 52, 53, 54, 55] (by decide +kernel) (by decide +kernel)
set_option maxRecDepth 20000 in
theorem gX7_count_X1_inchesInAll : GoodIn wsX7_count (wsV RX7 240 RX1 yX1_inchesInAll wsX1_inchesInAll) := goodIn_app (goodIn_of _ (by decide +kernel)) ggX7_count_X1_inchesInAll
theorem dX7_count_0 : decode cX7_count 0 = .ok (.iload_n 1, 1) := by decide +kernel
theorem dX7_count_1 : decode cX7_count 1 = .ok (.tableswitch 166 0 10 #[59, 67, 75, 83, 91, 103, 125, 137, 142, 150, 158], 59) := by decide +kernel
theorem dX7_count_60 : decode cX7_count 60 = .ok (.aload_n 0, 1) := by decide +kernel
theorem dX7_count_61 : decode cX7_count 61 = .ok (.getfield 69, 3) := by decide +kernel
theorem dX7_count_64 : decode cX7_count 64 = .ok (.getfield 103, 3) := by decide +kernel
theorem dX7_count_67 : decode cX7_count 67 = .ok (.ireturn, 1) := by decide +kernel
theorem dX7_count_68 : decode cX7_count 68 = .ok (.aload_n 0, 1) := by decide +kernel
theorem dX7_count_69 : decode cX7_count 69 = .ok (.getfield 69, 3) := by decide +kernel
theorem dX7_count_72 : decode cX7_count 72 = .ok (.getfield 234, 3) := by decide +kernel
theorem dX7_count_75 : decode cX7_count 75 = .ok (.ireturn, 1) := by decide +kernel
theorem dX7_count_76 : decode cX7_count 76 = .ok (.aload_n 0, 1) := by decide +kernel
theorem dX7_count_77 : decode cX7_count 77 = .ok (.getfield 69, 3) := by decide +kernel
theorem dX7_count_80 : decode cX7_count 80 = .ok (.getfield 237, 3) := by decide +kernel
theorem dX7_count_83 : decode cX7_count 83 = .ok (.ireturn, 1) := by decide +kernel
theorem dX7_count_84 : decode cX7_count 84 = .ok (.aload_n 0, 1) := by decide +kernel
theorem dX7_count_85 : decode cX7_count 85 = .ok (.getfield 26, 3) := by decide +kernel
theorem dX7_count_88 : decode cX7_count 88 = .ok (.getfield 158, 3) := by decide +kernel
theorem dX7_count_91 : decode cX7_count 91 = .ok (.ireturn, 1) := by decide +kernel
theorem dX7_count_92 : decode cX7_count 92 = .ok (.aload_n 0, 1) := by decide +kernel
theorem dX7_count_93 : decode cX7_count 93 = .ok (.getfield 26, 3) := by decide +kernel
theorem dX7_count_96 : decode cX7_count 96 = .ok (.aload_n 0, 1) := by decide +kernel
theorem dX7_count_97 : decode cX7_count 97 = .ok (.getfield 69, 3) := by decide +kernel
theorem dX7_count_100 : decode cX7_count 100 = .ok (.invokevirtual 230, 3) := by decide +kernel
theorem dX7_count_103 : decode cX7_count 103 = .ok (.ireturn, 1) := by decide +kernel
theorem dX7_count_104 : decode cX7_count 104 = .ok (.aload_n 0, 1) := by decide +kernel
theorem dX7_count_105 : decode cX7_count 105 = .ok (.getfield 69, 3) := by decide +kernel
theorem dX7_count_108 : decode cX7_count 108 = .ok (.getfield 103, 3) := by decide +kernel
theorem dX7_count_111 : decode cX7_count 111 = .ok (.aload_n 0, 1) := by decide +kernel
theorem dX7_count_112 : decode cX7_count 112 = .ok (.getfield 26, 3) := by decide +kernel
theorem dX7_count_115 : decode cX7_count 115 = .ok (.aload_n 0, 1) := by decide +kernel
theorem dX7_count_116 : decode cX7_count 116 = .ok (.getfield 69, 3) := by decide +kernel
theorem dX7_count_119 : decode cX7_count 119 = .ok (.bipush (-4), 2) := by decide +kernel
theorem dX7_count_121 : decode cX7_count 121 = .ok (.invokevirtual 133, 3) := by decide +kernel
theorem dX7_count_124 : decode cX7_count 124 = .ok (.isub, 1) := by decide +kernel
theorem dX7_count_125 : decode cX7_count 125 = .ok (.ireturn, 1) := by decide +kernel
theorem dX7_count_126 : decode cX7_count 126 = .ok (.aload_n 0, 1) := by decide +kernel
theorem dX7_count_127 : decode cX7_count 127 = .ok (.getfield 26, 3) := by decide +kernel
theorem dX7_count_130 : decode cX7_count 130 = .ok (.aload_n 0, 1) := by decide +kernel
theorem dX7_count_131 : decode cX7_count 131 = .ok (.getfield 69, 3) := by decide +kernel
theorem dX7_count_134 : decode cX7_count 134 = .ok (.invokevirtual 240, 3) := by decide +kernel
theorem dX7_count_137 : decode cX7_count 137 = .ok (.ireturn, 1) := by decide +kernel
theorem dX7_count_138 : decode cX7_count 138 = .ok (.aload_n 0, 1) := by decide +kernel
theorem dX7_count_139 : decode cX7_count 139 = .ok (.getfield 204, 3) := by decide +kernel
theorem dX7_count_142 : decode cX7_count 142 = .ok (.ireturn, 1) := by decide +kernel
theorem dX7_count_143 : decode cX7_count 143 = .ok (.aload_n 0, 1) := by decide +kernel
theorem dX7_count_144 : decode cX7_count 144 = .ok (.getfield 38, 3) := by decide +kernel
theorem dX7_count_147 : decode cX7_count 147 = .ok (.getfield 168, 3) := by decide +kernel
theorem dX7_count_150 : decode cX7_count 150 = .ok (.ireturn, 1) := by decide +kernel
theorem dX7_count_151 : decode cX7_count 151 = .ok (.aload_n 0, 1) := by decide +kernel
theorem dX7_count_152 : decode cX7_count 152 = .ok (.getfield 42, 3) := by decide +kernel
theorem dX7_count_155 : decode cX7_count 155 = .ok (.getfield 168, 3) := by decide +kernel
theorem dX7_count_158 : decode cX7_count 158 = .ok (.ireturn, 1) := by decide +kernel
theorem dX7_count_159 : decode cX7_count 159 = .ok (.aload_n 0, 1) := by decide +kernel
theorem dX7_count_160 : decode cX7_count 160 = .ok (.getfield 10, 3) := by decide +kernel
theorem dX7_count_163 : decode cX7_count 163 = .ok (.getfield 96, 3) := by decide +kernel
theorem dX7_count_166 : decode cX7_count 166 = .ok (.ireturn, 1) := by decide +kernel
theorem dX7_count_167 : decode cX7_count 167 = .ok (.iconst (-1), 1) := by decide +kernel
theorem dX7_count_168 : decode cX7_count 168 = .ok (.ireturn, 1) := by decide +kernel
set_option maxRecDepth 20000 in
theorem ggX7_layText_X2_readInto : GoodIn wsX7_layText wsX2_readInto := goodIn_r _ [15, 16, 17, 18, 19, 20, 21, 22, 23, 24, 25, 26, 27, 28, 29, 30, 31, 32, 33, 34, 35, 36, 37, 38, 39, 40, 41, 42, 43, 44, 45, 46, 47, 48, 49, 50, 51, 14, 52, 53, 54, 55, 56, 57, 58, 59, 60, 61, 62, 63, 64, 65, 66, 67, 68, 69, 70, 71, 72, 73, 74, 75, 76, 77, 78, 79, 80, 81, 82, 83, 84, 85, 86, 87, 88, 89, 90, 91, 92, 93, 94, 95, 96, 97, 98, 99, 100, 101, 102, 103, 104, 105, 106, 107, 108, 109, 110, 111, 112, 113, 114, 115, 116, 117, 118, 119, 120, 161, 162, 154, 155, 163, 164, 165, 166, 167, 168, 169, 170, 171, 172] (by decide +kernel) (by decide +kernel)
set_option maxRecDepth 20000 in
theorem gX7_layText_X2_readInto : GoodIn wsX7_layText (wsV RX7 99 RX2 yX2_readInto wsX2_readInto) := goodIn_app (goodIn_of _ (by decide +kernel)) ggX7_layText_X2_readInto
set_option maxRecDepth 20000 in
theorem ggX7_layText_X1_startOn : GoodIn wsX7_layText wsX1_startOn := goodIn_r _ [125, 126, 127, 128, 129, 130, 131, 93, 94, 95, 132, 133, 134, 135, 21, 136, 137, 138, 139, 124, 140, 173, 174, 175, 176, 163, 164, 165, 166, 167, 168, 169, 170, 171, 172] (by decide +kernel) (by decide +kernel)
set_option maxRecDepth 20000 in
theorem gX7_layText_X1_startOn : GoodIn wsX7_layText (wsV RX7 243 RX1 yX1_startOn wsX1_startOn) := goodIn_app (goodIn_of _ (by decide +kernel)) ggX7_layText_X1_startOn
theorem dX7_layText_0 : decode cX7_layText 0 = .ok (.aload_n 0, 1) := by decide +kernel
theorem dX7_layText_1 : decode cX7_layText 1 = .ok (.getfield 10, 3) := by decide +kernel
theorem dX7_layText_4 : decode cX7_layText 4 = .ok (.getfield 96, 3) := by decide +kernel
theorem dX7_layText_7 : decode cX7_layText 7 = .ok (.ifCond .eq 23, 3) := by decide +kernel
theorem dX7_layText_10 : decode cX7_layText 10 = .ok (.aload_n 0, 1) := by decide +kernel
theorem dX7_layText_11 : decode cX7_layText 11 = .ok (.getfield 19, 3) := by decide +kernel
theorem dX7_layText_14 : decode cX7_layText 14 = .ok (.aload_n 0, 1) := by decide +kernel
theorem dX7_layText_15 : decode cX7_layText 15 = .ok (.getfield 10, 3) := by decide +kernel
theorem dX7_layText_18 : decode cX7_layText 18 = .ok (.aload_n 0, 1) := by decide +kernel
theorem dX7_layText_19 : decode cX7_layText 19 = .ok (.getfield 73, 3) := by decide +kernel
theorem dX7_layText_22 : decode cX7_layText 22 = .ok (.invokevirtual 99, 3) := by decide +kernel
theorem dX7_layText_25 : decode cX7_layText 25 = .ok (.bipush (-4), 2) := by decide +kernel
theorem dX7_layText_27 : decode cX7_layText 27 = .ok (.if_icmp .eq 5, 3) := by decide +kernel
theorem dX7_layText_30 : decode cX7_layText 30 = .ok (.iconst 0, 1) := by decide +kernel
theorem dX7_layText_31 : decode cX7_layText 31 = .ok (.ireturn, 1) := by decide +kernel
theorem dX7_layText_32 : decode cX7_layText 32 = .ok (.aload_n 0, 1) := by decide +kernel
theorem dX7_layText_33 : decode cX7_layText 33 = .ok (.getfield 69, 3) := by decide +kernel
theorem dX7_layText_36 : decode cX7_layText 36 = .ok (.astore_n 1, 1) := by decide +kernel
theorem dX7_layText_37 : decode cX7_layText 37 = .ok (.aload_n 0, 1) := by decide +kernel
theorem dX7_layText_38 : decode cX7_layText 38 = .ok (.aload_n 0, 1) := by decide +kernel
theorem dX7_layText_39 : decode cX7_layText 39 = .ok (.getfield 73, 3) := by decide +kernel
theorem dX7_layText_42 : decode cX7_layText 42 = .ok (.putfield 69, 3) := by decide +kernel
theorem dX7_layText_45 : decode cX7_layText 45 = .ok (.aload_n 0, 1) := by decide +kernel
theorem dX7_layText_46 : decode cX7_layText 46 = .ok (.aload_n 1, 1) := by decide +kernel
theorem dX7_layText_47 : decode cX7_layText 47 = .ok (.putfield 73, 3) := by decide +kernel
theorem dX7_layText_50 : decode cX7_layText 50 = .ok (.aload_n 0, 1) := by decide +kernel
theorem dX7_layText_51 : decode cX7_layText 51 = .ok (.getfield 26, 3) := by decide +kernel
theorem dX7_layText_54 : decode cX7_layText 54 = .ok (.aload_n 0, 1) := by decide +kernel
theorem dX7_layText_55 : decode cX7_layText 55 = .ok (.getfield 69, 3) := by decide +kernel
theorem dX7_layText_58 : decode cX7_layText 58 = .ok (.invokevirtual 243, 3) := by decide +kernel
theorem dX7_layText_61 : decode cX7_layText 61 = .ok (.aload_n 0, 1) := by decide +kernel
theorem dX7_layText_62 : decode cX7_layText 62 = .ok (.iconst 0, 1) := by decide +kernel
theorem dX7_layText_63 : decode cX7_layText 63 = .ok (.putfield 204, 3) := by decide +kernel
theorem dX7_layText_66 : decode cX7_layText 66 = .ok (.aload_n 0, 1) := by decide +kernel
theorem dX7_layText_67 : decode cX7_layText 67 = .ok (.getfield 38, 3) := by decide +kernel
theorem dX7_layText_70 : decode cX7_layText 70 = .ok (.iconst 0, 1) := by decide +kernel
theorem dX7_layText_71 : decode cX7_layText 71 = .ok (.putfield 168, 3) := by decide +kernel
theorem dX7_layText_74 : decode cX7_layText 74 = .ok (.aload_n 0, 1) := by decide +kernel
theorem dX7_layText_75 : decode cX7_layText 75 = .ok (.getfield 42, 3) := by decide +kernel
theorem dX7_layText_78 : decode cX7_layText 78 = .ok (.iconst 0, 1) := by decide +kernel
theorem dX7_layText_79 : decode cX7_layText 79 = .ok (.putfield 168, 3) := by decide +kernel
theorem dX7_layText_82 : decode cX7_layText 82 = .ok (.iconst 1, 1) := by decide +kernel
theorem dX7_layText_83 : decode cX7_layText 83 = .ok (.ireturn, 1) := by decide +kernel
set_option maxRecDepth 20000 in
theorem ggX7_fitsDrilled_X3_hasCell : GoodIn wsX7_fitsDrilled wsX3_hasCell := goodIn_r _ [12, 13, 46, 47, 48, 49, 50, 51, 52, 53, 54, 55] (by decide +kernel) (by decide +kernel)
set_option maxRecDepth 20000 in
theorem gX7_fitsDrilled_X3_hasCell : GoodIn wsX7_fitsDrilled (wsV RX7 106 RX3 yX3_hasCell wsX3_hasCell) := goodIn_app (goodIn_of _ (by decide +kernel)) ggX7_fitsDrilled_X3_hasCell
set_option maxRecDepth 20000 in
theorem ggX7_fitsDrilled_X3_thickBehind : GoodIn wsX7_fitsDrilled wsX3_thickBehind := goodIn_r _ [16, 17, 18, 19, 20, 21, 22, 23, 24, 25, 11, 26, 27, 28, 29, 30, 31, 32] (by decide +kernel) (by decide +kernel)
set_option maxRecDepth 20000 in
theorem gX7_fitsDrilled_X3_thickBehind : GoodIn wsX7_fitsDrilled (va_wsS RX7 246 yX3_thickBehind wsX3_thickBehind) := goodIn_app (goodIn_of _ (by decide +kernel)) ggX7_fitsDrilled_X3_thickBehind
theorem dX7_fitsDrilled_0 : decode cX7_fitsDrilled 0 = .ok (.iconst 0, 1) := by decide +kernel
theorem dX7_fitsDrilled_1 : decode cX7_fitsDrilled 1 = .ok (.istore_n 2, 1) := by decide +kernel
theorem dX7_fitsDrilled_2 : decode cX7_fitsDrilled 2 = .ok (.iload_n 2, 1) := by decide +kernel
theorem dX7_fitsDrilled_3 : decode cX7_fitsDrilled 3 = .ok (.aload_n 0, 1) := by decide +kernel
theorem dX7_fitsDrilled_4 : decode cX7_fitsDrilled 4 = .ok (.getfield 204, 3) := by decide +kernel
theorem dX7_fitsDrilled_7 : decode cX7_fitsDrilled 7 = .ok (.if_icmp .ge 66, 3) := by decide +kernel
theorem dX7_fitsDrilled_10 : decode cX7_fitsDrilled 10 = .ok (.iload_n 2, 1) := by decide +kernel
theorem dX7_fitsDrilled_11 : decode cX7_fitsDrilled 11 = .ok (.bipush 6, 2) := by decide +kernel
theorem dX7_fitsDrilled_13 : decode cX7_fitsDrilled 13 = .ok (.if_icmp .ge 60, 3) := by decide +kernel
theorem dX7_fitsDrilled_16 : decode cX7_fitsDrilled 16 = .ok (.aload_n 0, 1) := by decide +kernel
theorem dX7_fitsDrilled_17 : decode cX7_fitsDrilled 17 = .ok (.getfield 59, 3) := by decide +kernel
theorem dX7_fitsDrilled_20 : decode cX7_fitsDrilled 20 = .ok (.iload_n 2, 1) := by decide +kernel
theorem dX7_fitsDrilled_21 : decode cX7_fitsDrilled 21 = .ok (.iaload, 1) := by decide +kernel
theorem dX7_fitsDrilled_22 : decode cX7_fitsDrilled 22 = .ok (.istore_n 3, 1) := by decide +kernel
theorem dX7_fitsDrilled_23 : decode cX7_fitsDrilled 23 = .ok (.aload_n 0, 1) := by decide +kernel
theorem dX7_fitsDrilled_24 : decode cX7_fitsDrilled 24 = .ok (.getfield 69, 3) := by decide +kernel
theorem dX7_fitsDrilled_27 : decode cX7_fitsDrilled 27 = .ok (.iload_n 3, 1) := by decide +kernel
theorem dX7_fitsDrilled_28 : decode cX7_fitsDrilled 28 = .ok (.invokevirtual 106, 3) := by decide +kernel
theorem dX7_fitsDrilled_31 : decode cX7_fitsDrilled 31 = .ok (.ifCond .eq 36, 3) := by decide +kernel
theorem dX7_fitsDrilled_34 : decode cX7_fitsDrilled 34 = .ok (.aload_n 0, 1) := by decide +kernel
theorem dX7_fitsDrilled_35 : decode cX7_fitsDrilled 35 = .ok (.getfield 69, 3) := by decide +kernel
theorem dX7_fitsDrilled_38 : decode cX7_fitsDrilled 38 = .ok (.getfield 110, 3) := by decide +kernel
theorem dX7_fitsDrilled_41 : decode cX7_fitsDrilled 41 = .ok (.iload_n 3, 1) := by decide +kernel
theorem dX7_fitsDrilled_42 : decode cX7_fitsDrilled 42 = .ok (.iaload, 1) := by decide +kernel
theorem dX7_fitsDrilled_43 : decode cX7_fitsDrilled 43 = .ok (.aload_n 0, 1) := by decide +kernel
theorem dX7_fitsDrilled_44 : decode cX7_fitsDrilled 44 = .ok (.getfield 26, 3) := by decide +kernel
theorem dX7_fitsDrilled_47 : decode cX7_fitsDrilled 47 = .ok (.getfield 113, 3) := by decide +kernel
theorem dX7_fitsDrilled_50 : decode cX7_fitsDrilled 50 = .ok (.iload_n 3, 1) := by decide +kernel
theorem dX7_fitsDrilled_51 : decode cX7_fitsDrilled 51 = .ok (.iaload, 1) := by decide +kernel
theorem dX7_fitsDrilled_52 : decode cX7_fitsDrilled 52 = .ok (.iload_n 1, 1) := by decide +kernel
theorem dX7_fitsDrilled_53 : decode cX7_fitsDrilled 53 = .ok (.invokestatic 246, 3) := by decide +kernel
theorem dX7_fitsDrilled_56 : decode cX7_fitsDrilled 56 = .ok (.aload_n 0, 1) := by decide +kernel
theorem dX7_fitsDrilled_57 : decode cX7_fitsDrilled 57 = .ok (.getfield 63, 3) := by decide +kernel
theorem dX7_fitsDrilled_60 : decode cX7_fitsDrilled 60 = .ok (.iload_n 2, 1) := by decide +kernel
theorem dX7_fitsDrilled_61 : decode cX7_fitsDrilled 61 = .ok (.iaload, 1) := by decide +kernel
theorem dX7_fitsDrilled_62 : decode cX7_fitsDrilled 62 = .ok (.if_icmp .eq 5, 3) := by decide +kernel
theorem dX7_fitsDrilled_65 : decode cX7_fitsDrilled 65 = .ok (.iconst 0, 1) := by decide +kernel
theorem dX7_fitsDrilled_66 : decode cX7_fitsDrilled 66 = .ok (.ireturn, 1) := by decide +kernel
theorem dX7_fitsDrilled_67 : decode cX7_fitsDrilled 67 = .ok (.iinc 2 1, 3) := by decide +kernel
theorem dX7_fitsDrilled_70 : decode cX7_fitsDrilled 70 = .ok (.goto (-68), 3) := by decide +kernel
theorem dX7_fitsDrilled_73 : decode cX7_fitsDrilled 73 = .ok (.iconst 1, 1) := by decide +kernel
theorem dX7_fitsDrilled_74 : decode cX7_fitsDrilled 74 = .ok (.ireturn, 1) := by decide +kernel
theorem dX7_drawnCold_0 : decode cX7_drawnCold 0 = .ok (.ldc2_w 250, 3) := by decide +kernel
theorem dX7_drawnCold_3 : decode cX7_drawnCold 3 = .ok (.iload_n 0, 1) := by decide +kernel
theorem dX7_drawnCold_4 : decode cX7_drawnCold 4 = .ok (.i2l, 1) := by decide +kernel
theorem dX7_drawnCold_5 : decode cX7_drawnCold 5 = .ok (.lmul, 1) := by decide +kernel
theorem dX7_drawnCold_6 : decode cX7_drawnCold 6 = .ok (.ldc2_w 252, 3) := by decide +kernel
theorem dX7_drawnCold_9 : decode cX7_drawnCold 9 = .ok (.iload_n 1, 1) := by decide +kernel
theorem dX7_drawnCold_10 : decode cX7_drawnCold 10 = .ok (.i2l, 1) := by decide +kernel
theorem dX7_drawnCold_11 : decode cX7_drawnCold 11 = .ok (.lmul, 1) := by decide +kernel
theorem dX7_drawnCold_12 : decode cX7_drawnCold 12 = .ok (.ladd, 1) := by decide +kernel
theorem dX7_drawnCold_13 : decode cX7_drawnCold 13 = .ok (.lconst 1, 1) := by decide +kernel
theorem dX7_drawnCold_14 : decode cX7_drawnCold 14 = .ok (.ladd, 1) := by decide +kernel
theorem dX7_drawnCold_15 : decode cX7_drawnCold 15 = .ok (.lstore_n 2, 1) := by decide +kernel
theorem dX7_drawnCold_16 : decode cX7_drawnCold 16 = .ok (.lload_n 2, 1) := by decide +kernel
theorem dX7_drawnCold_17 : decode cX7_drawnCold 17 = .ok (.lload_n 2, 1) := by decide +kernel
theorem dX7_drawnCold_18 : decode cX7_drawnCold 18 = .ok (.lmul, 1) := by decide +kernel
theorem dX7_drawnCold_19 : decode cX7_drawnCold 19 = .ok (.ldc2_w 254, 3) := by decide +kernel
theorem dX7_drawnCold_22 : decode cX7_drawnCold 22 = .ok (.lrem, 1) := by decide +kernel
theorem dX7_drawnCold_23 : decode cX7_drawnCold 23 = .ok (.ldc2_w 256, 3) := by decide +kernel
theorem dX7_drawnCold_26 : decode cX7_drawnCold 26 = .ok (.ldiv, 1) := by decide +kernel
theorem dX7_drawnCold_27 : decode cX7_drawnCold 27 = .ok (.lstore 4, 2) := by decide +kernel
theorem dX7_drawnCold_29 : decode cX7_drawnCold 29 = .ok (.lload 4, 2) := by decide +kernel
theorem dX7_drawnCold_31 : decode cX7_drawnCold 31 = .ok (.ldc2_w 258, 3) := by decide +kernel
theorem dX7_drawnCold_34 : decode cX7_drawnCold 34 = .ok (.lrem, 1) := by decide +kernel
theorem dX7_drawnCold_35 : decode cX7_drawnCold 35 = .ok (.l2i, 1) := by decide +kernel
theorem dX7_drawnCold_36 : decode cX7_drawnCold 36 = .ok (.bipush 8, 2) := by decide +kernel
theorem dX7_drawnCold_38 : decode cX7_drawnCold 38 = .ok (.isub, 1) := by decide +kernel
theorem dX7_drawnCold_39 : decode cX7_drawnCold 39 = .ok (.ireturn, 1) := by decide +kernel
theorem dX7_isFamily_0 : decode cX7_isFamily 0 = .ok (.iload_n 0, 1) := by decide +kernel
theorem dX7_isFamily_1 : decode cX7_isFamily 1 = .ok (.ifCond .lt 12, 3) := by decide +kernel
theorem dX7_isFamily_4 : decode cX7_isFamily 4 = .ok (.iload_n 0, 1) := by decide +kernel
theorem dX7_isFamily_5 : decode cX7_isFamily 5 = .ok (.iconst 4, 1) := by decide +kernel
theorem dX7_isFamily_6 : decode cX7_isFamily 6 = .ok (.if_icmp .ge 7, 3) := by decide +kernel
theorem dX7_isFamily_9 : decode cX7_isFamily 9 = .ok (.iconst 1, 1) := by decide +kernel
theorem dX7_isFamily_10 : decode cX7_isFamily 10 = .ok (.goto 4, 3) := by decide +kernel
theorem dX7_isFamily_13 : decode cX7_isFamily 13 = .ok (.iconst 0, 1) := by decide +kernel
theorem dX7_isFamily_14 : decode cX7_isFamily 14 = .ok (.ireturn, 1) := by decide +kernel
theorem dX7_isWeight_0 : decode cX7_isWeight 0 = .ok (.iload_n 0, 1) := by decide +kernel
theorem dX7_isWeight_1 : decode cX7_isWeight 1 = .ok (.iconst 1, 1) := by decide +kernel
theorem dX7_isWeight_2 : decode cX7_isWeight 2 = .ok (.if_icmp .lt 13, 3) := by decide +kernel
theorem dX7_isWeight_5 : decode cX7_isWeight 5 = .ok (.iload_n 0, 1) := by decide +kernel
theorem dX7_isWeight_6 : decode cX7_isWeight 6 = .ok (.bipush 99, 2) := by decide +kernel
theorem dX7_isWeight_8 : decode cX7_isWeight 8 = .ok (.if_icmp .gt 7, 3) := by decide +kernel
theorem dX7_isWeight_11 : decode cX7_isWeight 11 = .ok (.iconst 1, 1) := by decide +kernel
theorem dX7_isWeight_12 : decode cX7_isWeight 12 = .ok (.goto 4, 3) := by decide +kernel
theorem dX7_isWeight_15 : decode cX7_isWeight 15 = .ok (.iconst 0, 1) := by decide +kernel
theorem dX7_isWeight_16 : decode cX7_isWeight 16 = .ok (.ireturn, 1) := by decide +kernel
theorem dX7_isEither_0 : decode cX7_isEither 0 = .ok (.iload_n 0, 1) := by decide +kernel
theorem dX7_isEither_1 : decode cX7_isEither 1 = .ok (.ifCond .eq 8, 3) := by decide +kernel
theorem dX7_isEither_4 : decode cX7_isEither 4 = .ok (.iload_n 0, 1) := by decide +kernel
theorem dX7_isEither_5 : decode cX7_isEither 5 = .ok (.iconst 1, 1) := by decide +kernel
theorem dX7_isEither_6 : decode cX7_isEither 6 = .ok (.if_icmp .ne 7, 3) := by decide +kernel
theorem dX7_isEither_9 : decode cX7_isEither 9 = .ok (.iconst 1, 1) := by decide +kernel
theorem dX7_isEither_10 : decode cX7_isEither 10 = .ok (.goto 4, 3) := by decide +kernel
theorem dX7_isEither_13 : decode cX7_isEither 13 = .ok (.iconst 0, 1) := by decide +kernel
theorem dX7_isEither_14 : decode cX7_isEither 14 = .ok (.ireturn, 1) := by decide +kernel
theorem dX7_greatestDivisor_0 : decode cX7_greatestDivisor 0 = .ok (.iload_n 0, 1) := by decide +kernel
theorem dX7_greatestDivisor_1 : decode cX7_greatestDivisor 1 = .ok (.istore_n 2, 1) := by decide +kernel
theorem dX7_greatestDivisor_2 : decode cX7_greatestDivisor 2 = .ok (.iload_n 1, 1) := by decide +kernel
theorem dX7_greatestDivisor_3 : decode cX7_greatestDivisor 3 = .ok (.istore_n 3, 1) := by decide +kernel
theorem dX7_greatestDivisor_4 : decode cX7_greatestDivisor 4 = .ok (.iconst 0, 1) := by decide +kernel
theorem dX7_greatestDivisor_5 : decode cX7_greatestDivisor 5 = .ok (.istore 4, 2) := by decide +kernel
theorem dX7_greatestDivisor_7 : decode cX7_greatestDivisor 7 = .ok (.iload 4, 2) := by decide +kernel
theorem dX7_greatestDivisor_9 : decode cX7_greatestDivisor 9 = .ok (.bipush 49, 2) := by decide +kernel
theorem dX7_greatestDivisor_11 : decode cX7_greatestDivisor 11 = .ok (.if_icmp .gt 23, 3) := by decide +kernel
theorem dX7_greatestDivisor_14 : decode cX7_greatestDivisor 14 = .ok (.iload_n 2, 1) := by decide +kernel
theorem dX7_greatestDivisor_15 : decode cX7_greatestDivisor 15 = .ok (.ifCond .le 19, 3) := by decide +kernel
theorem dX7_greatestDivisor_18 : decode cX7_greatestDivisor 18 = .ok (.iload_n 3, 1) := by decide +kernel
theorem dX7_greatestDivisor_19 : decode cX7_greatestDivisor 19 = .ok (.iload_n 2, 1) := by decide +kernel
theorem dX7_greatestDivisor_20 : decode cX7_greatestDivisor 20 = .ok (.irem, 1) := by decide +kernel
theorem dX7_greatestDivisor_21 : decode cX7_greatestDivisor 21 = .ok (.istore 5, 2) := by decide +kernel
theorem dX7_greatestDivisor_23 : decode cX7_greatestDivisor 23 = .ok (.iload_n 2, 1) := by decide +kernel
theorem dX7_greatestDivisor_24 : decode cX7_greatestDivisor 24 = .ok (.istore_n 3, 1) := by decide +kernel
theorem dX7_greatestDivisor_25 : decode cX7_greatestDivisor 25 = .ok (.iload 5, 2) := by decide +kernel
theorem dX7_greatestDivisor_27 : decode cX7_greatestDivisor 27 = .ok (.istore_n 2, 1) := by decide +kernel
theorem dX7_greatestDivisor_28 : decode cX7_greatestDivisor 28 = .ok (.iinc 4 1, 3) := by decide +kernel
theorem dX7_greatestDivisor_31 : decode cX7_greatestDivisor 31 = .ok (.goto (-24), 3) := by decide +kernel
theorem dX7_greatestDivisor_34 : decode cX7_greatestDivisor 34 = .ok (.iload_n 3, 1) := by decide +kernel
theorem dX7_greatestDivisor_35 : decode cX7_greatestDivisor 35 = .ok (.ireturn, 1) := by decide +kernel
set_option maxRecDepth 20000 in
theorem ggX8_init_X8_clearTold : GoodIn wsX8_init wsX8_clearTold := goodIn_r _ [30, 31, 32, 16, 17, 23, 24, 25, 33, 57, 58, 59, 60, 61, 62, 63, 64, 65, 66, 67, 68, 69, 70, 71, 72, 73, 74, 75, 76, 77, 78, 79, 80, 81, 82, 83, 84, 85, 86, 87] (by decide +kernel) (by decide +kernel)
set_option maxRecDepth 20000 in
theorem gX8_init_X8_clearTold : GoodIn wsX8_init (wsV RX8 65 RX8 yX8_clearTold wsX8_clearTold) := goodIn_app (goodIn_of _ (by decide +kernel)) ggX8_init_X8_clearTold
set_option maxRecDepth 20000 in
theorem ggX8_init_X8_mapped : GoodIn wsX8_init wsX8_mapped := goodIn_r _ [37, 31, 32, 17, 38, 39, 29, 40, 57, 58, 59, 60, 61, 62, 63, 64, 65, 66, 67, 68, 69, 70, 71, 72, 73, 74, 75, 76, 77, 78, 79, 80, 81, 82, 83, 84, 85, 86, 87] (by decide +kernel) (by decide +kernel)
set_option maxRecDepth 20000 in
theorem gX8_init_X8_mapped : GoodIn wsX8_init (wsV RX8 68 RX8 yX8_mapped wsX8_mapped) := goodIn_app (goodIn_of _ (by decide +kernel)) ggX8_init_X8_mapped
set_option maxRecDepth 20000 in
theorem ggX8_init_X8_settles : GoodIn wsX8_init wsX8_settles := goodIn_r _ [44, 31, 4, 32, 5, 24, 45, 25, 46, 9, 18, 7, 16, 8, 17, 10, 23, 47, 48, 49, 50, 51, 29, 52, 53, 54, 55, 56, 57, 58, 59, 60, 61, 62, 63, 64, 65, 66, 67, 68, 69, 70, 71, 72, 73, 74, 75, 76, 77, 78, 79, 80, 81, 82, 83, 84, 85, 86, 87] (by decide +kernel) (by decide +kernel)
set_option maxRecDepth 20000 in
theorem gX8_init_X8_settles : GoodIn wsX8_init (wsV RX8 81 RX8 yX8_settles wsX8_settles) := goodIn_app (goodIn_of _ (by decide +kernel)) ggX8_init_X8_settles

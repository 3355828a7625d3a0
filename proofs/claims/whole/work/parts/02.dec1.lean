theorem dX10_init_0 : decode cX10_init 0 = .ok (.aload_n 0, 1) := by decide +kernel
theorem dX10_init_1 : decode cX10_init 1 = .ok (.invokespecial 3, 3) := by decide +kernel
theorem dX10_init_4 : decode cX10_init 4 = .ok (.aload_n 0, 1) := by decide +kernel
theorem dX10_init_5 : decode cX10_init 5 = .ok (.new 9, 3) := by decide +kernel
theorem dX10_init_8 : decode cX10_init 8 = .ok (.dup, 1) := by decide +kernel
theorem dX10_init_9 : decode cX10_init 9 = .ok (.invokespecial 11, 3) := by decide +kernel
theorem dX10_init_12 : decode cX10_init 12 = .ok (.putfield 12, 3) := by decide +kernel
theorem dX10_init_15 : decode cX10_init 15 = .ok (.aload_n 0, 1) := by decide +kernel
theorem dX10_init_16 : decode cX10_init 16 = .ok (.new 16, 3) := by decide +kernel
theorem dX10_init_19 : decode cX10_init 19 = .ok (.dup, 1) := by decide +kernel
theorem dX10_init_20 : decode cX10_init 20 = .ok (.invokespecial 18, 3) := by decide +kernel
theorem dX10_init_23 : decode cX10_init 23 = .ok (.putfield 19, 3) := by decide +kernel
theorem dX10_init_26 : decode cX10_init 26 = .ok (.aload_n 0, 1) := by decide +kernel
theorem dX10_init_27 : decode cX10_init 27 = .ok (.iconst (-1), 1) := by decide +kernel
theorem dX10_init_28 : decode cX10_init 28 = .ok (.putfield 23, 3) := by decide +kernel
theorem dX10_init_31 : decode cX10_init 31 = .ok (.aload_n 0, 1) := by decide +kernel
theorem dX10_init_32 : decode cX10_init 32 = .ok (.new 27, 3) := by decide +kernel
theorem dX10_init_35 : decode cX10_init 35 = .ok (.dup, 1) := by decide +kernel
theorem dX10_init_36 : decode cX10_init 36 = .ok (.invokespecial 29, 3) := by decide +kernel
theorem dX10_init_39 : decode cX10_init 39 = .ok (.putfield 30, 3) := by decide +kernel
theorem dX10_init_42 : decode cX10_init 42 = .ok (.aload_n 0, 1) := by decide +kernel
theorem dX10_init_43 : decode cX10_init 43 = .ok (.new 27, 3) := by decide +kernel
theorem dX10_init_46 : decode cX10_init 46 = .ok (.dup, 1) := by decide +kernel
theorem dX10_init_47 : decode cX10_init 47 = .ok (.invokespecial 29, 3) := by decide +kernel
theorem dX10_init_50 : decode cX10_init 50 = .ok (.putfield 34, 3) := by decide +kernel
theorem dX10_init_53 : decode cX10_init 53 = .ok (.aload_n 0, 1) := by decide +kernel
theorem dX10_init_54 : decode cX10_init 54 = .ok (.new 37, 3) := by decide +kernel
theorem dX10_init_57 : decode cX10_init 57 = .ok (.dup, 1) := by decide +kernel
theorem dX10_init_58 : decode cX10_init 58 = .ok (.invokespecial 39, 3) := by decide +kernel
theorem dX10_init_61 : decode cX10_init 61 = .ok (.putfield 40, 3) := by decide +kernel
theorem dX10_init_64 : decode cX10_init 64 = .ok (.aload_n 0, 1) := by decide +kernel
theorem dX10_init_65 : decode cX10_init 65 = .ok (.new 37, 3) := by decide +kernel
theorem dX10_init_68 : decode cX10_init 68 = .ok (.dup, 1) := by decide +kernel
theorem dX10_init_69 : decode cX10_init 69 = .ok (.invokespecial 39, 3) := by decide +kernel
theorem dX10_init_72 : decode cX10_init 72 = .ok (.putfield 44, 3) := by decide +kernel
theorem dX10_init_75 : decode cX10_init 75 = .ok (.aload_n 0, 1) := by decide +kernel
theorem dX10_init_76 : decode cX10_init 76 = .ok (.new 47, 3) := by decide +kernel
theorem dX10_init_79 : decode cX10_init 79 = .ok (.dup, 1) := by decide +kernel
theorem dX10_init_80 : decode cX10_init 80 = .ok (.invokespecial 49, 3) := by decide +kernel
theorem dX10_init_83 : decode cX10_init 83 = .ok (.putfield 50, 3) := by decide +kernel
theorem dX10_init_86 : decode cX10_init 86 = .ok (.aload_n 0, 1) := by decide +kernel
theorem dX10_init_87 : decode cX10_init 87 = .ok (.iconst 3, 1) := by decide +kernel
theorem dX10_init_88 : decode cX10_init 88 = .ok (.anewarray 37, 3) := by decide +kernel
theorem dX10_init_91 : decode cX10_init 91 = .ok (.putfield 54, 3) := by decide +kernel
theorem dX10_init_94 : decode cX10_init 94 = .ok (.aload_n 0, 1) := by decide +kernel
theorem dX10_init_95 : decode cX10_init 95 = .ok (.iconst 3, 1) := by decide +kernel
theorem dX10_init_96 : decode cX10_init 96 = .ok (.newarray .boolean, 2) := by decide +kernel
theorem dX10_init_98 : decode cX10_init 98 = .ok (.putfield 58, 3) := by decide +kernel
theorem dX10_init_101 : decode cX10_init 101 = .ok (.aload_n 0, 1) := by decide +kernel
theorem dX10_init_102 : decode cX10_init 102 = .ok (.bipush 20, 2) := by decide +kernel
theorem dX10_init_104 : decode cX10_init 104 = .ok (.newarray .int, 2) := by decide +kernel
theorem dX10_init_106 : decode cX10_init 106 = .ok (.putfield 62, 3) := by decide +kernel
theorem dX10_init_109 : decode cX10_init 109 = .ok (.aload_n 0, 1) := by decide +kernel
theorem dX10_init_110 : decode cX10_init 110 = .ok (.bipush 20, 2) := by decide +kernel
theorem dX10_init_112 : decode cX10_init 112 = .ok (.newarray .int, 2) := by decide +kernel
theorem dX10_init_114 : decode cX10_init 114 = .ok (.putfield 66, 3) := by decide +kernel
theorem dX10_init_117 : decode cX10_init 117 = .ok (.aload_n 0, 1) := by decide +kernel
theorem dX10_init_118 : decode cX10_init 118 = .ok (.new 69, 3) := by decide +kernel
theorem dX10_init_121 : decode cX10_init 121 = .ok (.dup, 1) := by decide +kernel
theorem dX10_init_122 : decode cX10_init 122 = .ok (.invokespecial 71, 3) := by decide +kernel
theorem dX10_init_125 : decode cX10_init 125 = .ok (.putfield 72, 3) := by decide +kernel
theorem dX10_init_128 : decode cX10_init 128 = .ok (.aload_n 0, 1) := by decide +kernel
theorem dX10_init_129 : decode cX10_init 129 = .ok (.new 76, 3) := by decide +kernel
theorem dX10_init_132 : decode cX10_init 132 = .ok (.dup, 1) := by decide +kernel
theorem dX10_init_133 : decode cX10_init 133 = .ok (.invokespecial 78, 3) := by decide +kernel
theorem dX10_init_136 : decode cX10_init 136 = .ok (.putfield 79, 3) := by decide +kernel
theorem dX10_init_139 : decode cX10_init 139 = .ok (.aload_n 0, 1) := by decide +kernel
theorem dX10_init_140 : decode cX10_init 140 = .ok (.new 83, 3) := by decide +kernel
theorem dX10_init_143 : decode cX10_init 143 = .ok (.dup, 1) := by decide +kernel
theorem dX10_init_144 : decode cX10_init 144 = .ok (.invokespecial 85, 3) := by decide +kernel
theorem dX10_init_147 : decode cX10_init 147 = .ok (.putfield 86, 3) := by decide +kernel
theorem dX10_init_150 : decode cX10_init 150 = .ok (.iconst 0, 1) := by decide +kernel
theorem dX10_init_151 : decode cX10_init 151 = .ok (.istore_n 1, 1) := by decide +kernel
theorem dX10_init_152 : decode cX10_init 152 = .ok (.iload_n 1, 1) := by decide +kernel
theorem dX10_init_153 : decode cX10_init 153 = .ok (.iconst 3, 1) := by decide +kernel
theorem dX10_init_154 : decode cX10_init 154 = .ok (.if_icmp .ge 22, 3) := by decide +kernel
theorem dX10_init_157 : decode cX10_init 157 = .ok (.aload_n 0, 1) := by decide +kernel
theorem dX10_init_158 : decode cX10_init 158 = .ok (.getfield 54, 3) := by decide +kernel
theorem dX10_init_161 : decode cX10_init 161 = .ok (.iload_n 1, 1) := by decide +kernel
theorem dX10_init_162 : decode cX10_init 162 = .ok (.new 37, 3) := by decide +kernel
theorem dX10_init_165 : decode cX10_init 165 = .ok (.dup, 1) := by decide +kernel
theorem dX10_init_166 : decode cX10_init 166 = .ok (.invokespecial 39, 3) := by decide +kernel
theorem dX10_init_169 : decode cX10_init 169 = .ok (.aastore, 1) := by decide +kernel
theorem dX10_init_170 : decode cX10_init 170 = .ok (.iinc 1 1, 3) := by decide +kernel
theorem dX10_init_173 : decode cX10_init 173 = .ok (.goto (-21), 3) := by decide +kernel
theorem dX10_init_176 : decode cX10_init 176 = .ok (.aload_n 0, 1) := by decide +kernel
theorem dX10_init_177 : decode cX10_init 177 = .ok (.getfield 30, 3) := by decide +kernel
theorem dX10_init_180 : decode cX10_init 180 = .ok (.invokevirtual 90, 3) := by decide +kernel
theorem dX10_init_183 : decode cX10_init 183 = .ok (.aload_n 0, 1) := by decide +kernel
theorem dX10_init_184 : decode cX10_init 184 = .ok (.invokevirtual 93, 3) := by decide +kernel
theorem dX10_init_187 : decode cX10_init 187 = .ok (.return_, 1) := by decide +kernel
theorem dX10_feed_0 : decode cX10_feed 0 = .ok (.aload_n 0, 1) := by decide +kernel
theorem dX10_feed_1 : decode cX10_feed 1 = .ok (.getfield 12, 3) := by decide +kernel
theorem dX10_feed_4 : decode cX10_feed 4 = .ok (.getfield 96, 3) := by decide +kernel
theorem dX10_feed_7 : decode cX10_feed 7 = .ok (.bipush 20, 2) := by decide +kernel
theorem dX10_feed_9 : decode cX10_feed 9 = .ok (.iadd, 1) := by decide +kernel
theorem dX10_feed_10 : decode cX10_feed 10 = .ok (.sipush 2000, 3) := by decide +kernel
theorem dX10_feed_13 : decode cX10_feed 13 = .ok (.if_icmp .le 5, 3) := by decide +kernel
theorem dX10_feed_16 : decode cX10_feed 16 = .ok (.iconst (-1), 1) := by decide +kernel
theorem dX10_feed_17 : decode cX10_feed 17 = .ok (.ireturn, 1) := by decide +kernel
theorem dX10_feed_18 : decode cX10_feed 18 = .ok (.aload_n 0, 1) := by decide +kernel
theorem dX10_feed_19 : decode cX10_feed 19 = .ok (.getfield 12, 3) := by decide +kernel
theorem dX10_feed_22 : decode cX10_feed 22 = .ok (.iload_n 1, 1) := by decide +kernel
theorem dX10_feed_23 : decode cX10_feed 23 = .ok (.invokevirtual 99, 3) := by decide +kernel
theorem dX10_feed_26 : decode cX10_feed 26 = .ok (.aload_n 0, 1) := by decide +kernel
theorem dX10_feed_27 : decode cX10_feed 27 = .ok (.getfield 12, 3) := by decide +kernel
theorem dX10_feed_30 : decode cX10_feed 30 = .ok (.iload_n 2, 1) := by decide +kernel
theorem dX10_feed_31 : decode cX10_feed 31 = .ok (.invokevirtual 99, 3) := by decide +kernel
theorem dX10_feed_34 : decode cX10_feed 34 = .ok (.aload_n 0, 1) := by decide +kernel
theorem dX10_feed_35 : decode cX10_feed 35 = .ok (.getfield 12, 3) := by decide +kernel
theorem dX10_feed_38 : decode cX10_feed 38 = .ok (.iload_n 3, 1) := by decide +kernel
theorem dX10_feed_39 : decode cX10_feed 39 = .ok (.invokevirtual 99, 3) := by decide +kernel
theorem dX10_feed_42 : decode cX10_feed 42 = .ok (.aload_n 0, 1) := by decide +kernel
theorem dX10_feed_43 : decode cX10_feed 43 = .ok (.getfield 12, 3) := by decide +kernel
theorem dX10_feed_46 : decode cX10_feed 46 = .ok (.iload 4, 2) := by decide +kernel
theorem dX10_feed_48 : decode cX10_feed 48 = .ok (.invokevirtual 99, 3) := by decide +kernel
theorem dX10_feed_51 : decode cX10_feed 51 = .ok (.aload_n 0, 1) := by decide +kernel
theorem dX10_feed_52 : decode cX10_feed 52 = .ok (.getfield 12, 3) := by decide +kernel
theorem dX10_feed_55 : decode cX10_feed 55 = .ok (.iload 5, 2) := by decide +kernel
theorem dX10_feed_57 : decode cX10_feed 57 = .ok (.invokevirtual 99, 3) := by decide +kernel
theorem dX10_feed_60 : decode cX10_feed 60 = .ok (.aload_n 0, 1) := by decide +kernel
theorem dX10_feed_61 : decode cX10_feed 61 = .ok (.getfield 12, 3) := by decide +kernel
theorem dX10_feed_64 : decode cX10_feed 64 = .ok (.getfield 96, 3) := by decide +kernel
theorem dX10_feed_67 : decode cX10_feed 67 = .ok (.ireturn, 1) := by decide +kernel
theorem dX10_back_0 : decode cX10_back 0 = .ok (.iload_n 1, 1) := by decide +kernel
theorem dX10_back_1 : decode cX10_back 1 = .ok (.ifCond .lt 14, 3) := by decide +kernel
theorem dX10_back_4 : decode cX10_back 4 = .ok (.iload_n 1, 1) := by decide +kernel
theorem dX10_back_5 : decode cX10_back 5 = .ok (.aload_n 0, 1) := by decide +kernel
theorem dX10_back_6 : decode cX10_back 6 = .ok (.getfield 12, 3) := by decide +kernel
theorem dX10_back_9 : decode cX10_back 9 = .ok (.getfield 96, 3) := by decide +kernel
theorem dX10_back_12 : decode cX10_back 12 = .ok (.if_icmp .le 5, 3) := by decide +kernel
theorem dX10_back_15 : decode cX10_back 15 = .ok (.iconst (-1), 1) := by decide +kernel
theorem dX10_back_16 : decode cX10_back 16 = .ok (.ireturn, 1) := by decide +kernel
theorem dX10_back_17 : decode cX10_back 17 = .ok (.aload_n 0, 1) := by decide +kernel
theorem dX10_back_18 : decode cX10_back 18 = .ok (.getfield 12, 3) := by decide +kernel
theorem dX10_back_21 : decode cX10_back 21 = .ok (.dup, 1) := by decide +kernel
theorem dX10_back_22 : decode cX10_back 22 = .ok (.getfield 96, 3) := by decide +kernel
theorem dX10_back_25 : decode cX10_back 25 = .ok (.iload_n 1, 1) := by decide +kernel
theorem dX10_back_26 : decode cX10_back 26 = .ok (.isub, 1) := by decide +kernel
theorem dX10_back_27 : decode cX10_back 27 = .ok (.putfield 96, 3) := by decide +kernel
theorem dX10_back_30 : decode cX10_back 30 = .ok (.aload_n 0, 1) := by decide +kernel
theorem dX10_back_31 : decode cX10_back 31 = .ok (.getfield 12, 3) := by decide +kernel
theorem dX10_back_34 : decode cX10_back 34 = .ok (.getfield 96, 3) := by decide +kernel
theorem dX10_back_37 : decode cX10_back 37 = .ok (.ireturn, 1) := by decide +kernel
theorem dX10_read_0 : decode cX10_read 0 = .ok (.aload_n 0, 1) := by decide +kernel
theorem dX10_read_1 : decode cX10_read 1 = .ok (.getfield 19, 3) := by decide +kernel
theorem dX10_read_4 : decode cX10_read 4 = .ok (.aload_n 0, 1) := by decide +kernel
theorem dX10_read_5 : decode cX10_read 5 = .ok (.getfield 12, 3) := by decide +kernel
theorem dX10_read_8 : decode cX10_read 8 = .ok (.aload_n 0, 1) := by decide +kernel
theorem dX10_read_9 : decode cX10_read 9 = .ok (.getfield 34, 3) := by decide +kernel
theorem dX10_read_12 : decode cX10_read 12 = .ok (.invokevirtual 103, 3) := by decide +kernel
theorem dX10_read_15 : decode cX10_read 15 = .ok (.istore_n 1, 1) := by decide +kernel
theorem dX10_read_16 : decode cX10_read 16 = .ok (.aload_n 0, 1) := by decide +kernel
theorem dX10_read_17 : decode cX10_read 17 = .ok (.getfield 12, 3) := by decide +kernel
theorem dX10_read_20 : decode cX10_read 20 = .ok (.iconst 0, 1) := by decide +kernel
theorem dX10_read_21 : decode cX10_read 21 = .ok (.putfield 96, 3) := by decide +kernel
theorem dX10_read_24 : decode cX10_read 24 = .ok (.aload_n 0, 1) := by decide +kernel
theorem dX10_read_25 : decode cX10_read 25 = .ok (.iload_n 1, 1) := by decide +kernel
theorem dX10_read_26 : decode cX10_read 26 = .ok (.ifCond .ne 7, 3) := by decide +kernel
theorem dX10_read_29 : decode cX10_read 29 = .ok (.iconst (-1), 1) := by decide +kernel
theorem dX10_read_30 : decode cX10_read 30 = .ok (.goto 10, 3) := by decide +kernel
theorem dX10_read_33 : decode cX10_read 33 = .ok (.aload_n 0, 1) := by decide +kernel
theorem dX10_read_34 : decode cX10_read 34 = .ok (.getfield 19, 3) := by decide +kernel
theorem dX10_read_37 : decode cX10_read 37 = .ok (.invokevirtual 107, 3) := by decide +kernel
theorem dX10_read_40 : decode cX10_read 40 = .ok (.putfield 23, 3) := by decide +kernel
theorem dX10_read_43 : decode cX10_read 43 = .ok (.iload_n 1, 1) := by decide +kernel
theorem dX10_read_44 : decode cX10_read 44 = .ok (.ifCond .ne 25, 3) := by decide +kernel
theorem dX10_read_47 : decode cX10_read 47 = .ok (.aload_n 0, 1) := by decide +kernel
theorem dX10_read_48 : decode cX10_read 48 = .ok (.getfield 30, 3) := by decide +kernel
theorem dX10_read_51 : decode cX10_read 51 = .ok (.astore_n 2, 1) := by decide +kernel
theorem dX10_read_52 : decode cX10_read 52 = .ok (.aload_n 0, 1) := by decide +kernel
theorem dX10_read_53 : decode cX10_read 53 = .ok (.aload_n 0, 1) := by decide +kernel
theorem dX10_read_54 : decode cX10_read 54 = .ok (.getfield 34, 3) := by decide +kernel
theorem dX10_read_57 : decode cX10_read 57 = .ok (.putfield 30, 3) := by decide +kernel
theorem dX10_read_60 : decode cX10_read 60 = .ok (.aload_n 0, 1) := by decide +kernel
theorem dX10_read_61 : decode cX10_read 61 = .ok (.aload_n 2, 1) := by decide +kernel
theorem dX10_read_62 : decode cX10_read 62 = .ok (.putfield 34, 3) := by decide +kernel
theorem dX10_read_65 : decode cX10_read 65 = .ok (.aload_n 0, 1) := by decide +kernel
theorem dX10_read_66 : decode cX10_read 66 = .ok (.invokevirtual 93, 3) := by decide +kernel
theorem dX10_read_69 : decode cX10_read 69 = .ok (.iload_n 1, 1) := by decide +kernel
theorem dX10_read_70 : decode cX10_read 70 = .ok (.ireturn, 1) := by decide +kernel
theorem dX10_place_0 : decode cX10_place 0 = .ok (.aload_n 0, 1) := by decide +kernel
theorem dX10_place_1 : decode cX10_place 1 = .ok (.getfield 23, 3) := by decide +kernel
theorem dX10_place_4 : decode cX10_place 4 = .ok (.ireturn, 1) := by decide +kernel
theorem dX10_beginAnew_0 : decode cX10_beginAnew 0 = .ok (.aload_n 0, 1) := by decide +kernel
theorem dX10_beginAnew_1 : decode cX10_beginAnew 1 = .ok (.getfield 40, 3) := by decide +kernel
theorem dX10_beginAnew_4 : decode cX10_beginAnew 4 = .ok (.invokevirtual 110, 3) := by decide +kernel
theorem dX10_beginAnew_7 : decode cX10_beginAnew 7 = .ok (.aload_n 0, 1) := by decide +kernel
theorem dX10_beginAnew_8 : decode cX10_beginAnew 8 = .ok (.getfield 50, 3) := by decide +kernel
theorem dX10_beginAnew_11 : decode cX10_beginAnew 11 = .ok (.invokevirtual 111, 3) := by decide +kernel
theorem dX10_beginAnew_14 : decode cX10_beginAnew 14 = .ok (.aload_n 0, 1) := by decide +kernel
theorem dX10_beginAnew_15 : decode cX10_beginAnew 15 = .ok (.iconst 0, 1) := by decide +kernel
theorem dX10_beginAnew_16 : decode cX10_beginAnew 16 = .ok (.putfield 112, 3) := by decide +kernel
theorem dX10_beginAnew_19 : decode cX10_beginAnew 19 = .ok (.iconst 0, 1) := by decide +kernel
theorem dX10_beginAnew_20 : decode cX10_beginAnew 20 = .ok (.istore_n 1, 1) := by decide +kernel
theorem dX10_beginAnew_21 : decode cX10_beginAnew 21 = .ok (.iload_n 1, 1) := by decide +kernel
theorem dX10_beginAnew_22 : decode cX10_beginAnew 22 = .ok (.iconst 3, 1) := by decide +kernel
theorem dX10_beginAnew_23 : decode cX10_beginAnew 23 = .ok (.if_icmp .ge 16, 3) := by decide +kernel
theorem dX10_beginAnew_26 : decode cX10_beginAnew 26 = .ok (.aload_n 0, 1) := by decide +kernel
theorem dX10_beginAnew_27 : decode cX10_beginAnew 27 = .ok (.getfield 58, 3) := by decide +kernel
theorem dX10_beginAnew_30 : decode cX10_beginAnew 30 = .ok (.iload_n 1, 1) := by decide +kernel
theorem dX10_beginAnew_31 : decode cX10_beginAnew 31 = .ok (.iconst 0, 1) := by decide +kernel
theorem dX10_beginAnew_32 : decode cX10_beginAnew 32 = .ok (.bastore, 1) := by decide +kernel
theorem dX10_beginAnew_33 : decode cX10_beginAnew 33 = .ok (.iinc 1 1, 3) := by decide +kernel
theorem dX10_beginAnew_36 : decode cX10_beginAnew 36 = .ok (.goto (-15), 3) := by decide +kernel
theorem dX10_beginAnew_39 : decode cX10_beginAnew 39 = .ok (.return_, 1) := by decide +kernel
theorem dX10_cell_0 : decode cX10_cell 0 = .ok (.aload_n 0, 1) := by decide +kernel
theorem dX10_cell_1 : decode cX10_cell 1 = .ok (.getfield 30, 3) := by decide +kernel
theorem dX10_cell_4 : decode cX10_cell 4 = .ok (.iload_n 1, 1) := by decide +kernel
theorem dX10_cell_5 : decode cX10_cell 5 = .ok (.iload_n 2, 1) := by decide +kernel
theorem dX10_cell_6 : decode cX10_cell 6 = .ok (.invokevirtual 115, 3) := by decide +kernel
theorem dX10_cell_9 : decode cX10_cell 9 = .ok (.ifCond .ne 5, 3) := by decide +kernel
theorem dX10_cell_12 : decode cX10_cell 12 = .ok (.iconst (-1), 1) := by decide +kernel
theorem dX10_cell_13 : decode cX10_cell 13 = .ok (.ireturn, 1) := by decide +kernel
theorem dX10_cell_14 : decode cX10_cell 14 = .ok (.iload_n 1, 1) := by decide +kernel
theorem dX10_cell_15 : decode cX10_cell 15 = .ok (.iload_n 2, 1) := by decide +kernel
theorem dX10_cell_16 : decode cX10_cell 16 = .ok (.invokestatic 119, 3) := by decide +kernel
theorem dX10_cell_19 : decode cX10_cell 19 = .ok (.istore 4, 2) := by decide +kernel
theorem dX10_cell_21 : decode cX10_cell 21 = .ok (.iload_n 3, 1) := by decide +kernel
theorem dX10_cell_22 : decode cX10_cell 22 = .ok (.tableswitch 167 0 5 #[38, 49, 60, 70, 92, 127], 38) := by decide +kernel
theorem dX10_cell_60 : decode cX10_cell 60 = .ok (.aload_n 0, 1) := by decide +kernel
theorem dX10_cell_61 : decode cX10_cell 61 = .ok (.getfield 40, 3) := by decide +kernel
theorem dX10_cell_64 : decode cX10_cell 64 = .ok (.getfield 123, 3) := by decide +kernel
theorem dX10_cell_67 : decode cX10_cell 67 = .ok (.iload 4, 2) := by decide +kernel
theorem dX10_cell_69 : decode cX10_cell 69 = .ok (.iaload, 1) := by decide +kernel
theorem dX10_cell_70 : decode cX10_cell 70 = .ok (.ireturn, 1) := by decide +kernel
theorem dX10_cell_71 : decode cX10_cell 71 = .ok (.aload_n 0, 1) := by decide +kernel
theorem dX10_cell_72 : decode cX10_cell 72 = .ok (.getfield 30, 3) := by decide +kernel
theorem dX10_cell_75 : decode cX10_cell 75 = .ok (.getfield 126, 3) := by decide +kernel
theorem dX10_cell_78 : decode cX10_cell 78 = .ok (.iload 4, 2) := by decide +kernel
theorem dX10_cell_80 : decode cX10_cell 80 = .ok (.iaload, 1) := by decide +kernel
theorem dX10_cell_81 : decode cX10_cell 81 = .ok (.ireturn, 1) := by decide +kernel
theorem dX10_cell_82 : decode cX10_cell 82 = .ok (.aload_n 0, 1) := by decide +kernel
theorem dX10_cell_83 : decode cX10_cell 83 = .ok (.getfield 40, 3) := by decide +kernel
theorem dX10_cell_86 : decode cX10_cell 86 = .ok (.iload 4, 2) := by decide +kernel
theorem dX10_cell_88 : decode cX10_cell 88 = .ok (.invokevirtual 129, 3) := by decide +kernel
theorem dX10_cell_91 : decode cX10_cell 91 = .ok (.ireturn, 1) := by decide +kernel
theorem dX10_cell_92 : decode cX10_cell 92 = .ok (.aload_n 0, 1) := by decide +kernel
theorem dX10_cell_93 : decode cX10_cell 93 = .ok (.getfield 40, 3) := by decide +kernel
theorem dX10_cell_96 : decode cX10_cell 96 = .ok (.aload_n 0, 1) := by decide +kernel
theorem dX10_cell_97 : decode cX10_cell 97 = .ok (.getfield 30, 3) := by decide +kernel
theorem dX10_cell_100 : decode cX10_cell 100 = .ok (.iload 4, 2) := by decide +kernel
theorem dX10_cell_102 : decode cX10_cell 102 = .ok (.invokevirtual 133, 3) := by decide +kernel
theorem dX10_cell_105 : decode cX10_cell 105 = .ok (.ifCond .eq 7, 3) := by decide +kernel
theorem dX10_cell_108 : decode cX10_cell 108 = .ok (.iconst 1, 1) := by decide +kernel
theorem dX10_cell_109 : decode cX10_cell 109 = .ok (.goto 4, 3) := by decide +kernel
theorem dX10_cell_112 : decode cX10_cell 112 = .ok (.iconst 0, 1) := by decide +kernel
theorem dX10_cell_113 : decode cX10_cell 113 = .ok (.ireturn, 1) := by decide +kernel
theorem dX10_cell_114 : decode cX10_cell 114 = .ok (.aload_n 0, 1) := by decide +kernel
theorem dX10_cell_115 : decode cX10_cell 115 = .ok (.getfield 40, 3) := by decide +kernel
theorem dX10_cell_118 : decode cX10_cell 118 = .ok (.aload_n 0, 1) := by decide +kernel
theorem dX10_cell_119 : decode cX10_cell 119 = .ok (.getfield 30, 3) := by decide +kernel
theorem dX10_cell_122 : decode cX10_cell 122 = .ok (.iload 4, 2) := by decide +kernel
theorem dX10_cell_124 : decode cX10_cell 124 = .ok (.invokevirtual 133, 3) := by decide +kernel
theorem dX10_cell_127 : decode cX10_cell 127 = .ok (.ifCond .eq 19, 3) := by decide +kernel
theorem dX10_cell_130 : decode cX10_cell 130 = .ok (.aload_n 0, 1) := by decide +kernel
theorem dX10_cell_131 : decode cX10_cell 131 = .ok (.getfield 40, 3) := by decide +kernel
theorem dX10_cell_134 : decode cX10_cell 134 = .ok (.aload_n 0, 1) := by decide +kernel
theorem dX10_cell_135 : decode cX10_cell 135 = .ok (.getfield 30, 3) := by decide +kernel
theorem dX10_cell_138 : decode cX10_cell 138 = .ok (.iload 4, 2) := by decide +kernel
theorem dX10_cell_140 : decode cX10_cell 140 = .ok (.invokevirtual 137, 3) := by decide +kernel
theorem dX10_cell_143 : decode cX10_cell 143 = .ok (.goto 5, 3) := by decide +kernel
theorem dX10_cell_146 : decode cX10_cell 146 = .ok (.bipush (-2), 2) := by decide +kernel
theorem dX10_cell_148 : decode cX10_cell 148 = .ok (.ireturn, 1) := by decide +kernel
theorem dX10_cell_149 : decode cX10_cell 149 = .ok (.aload_n 0, 1) := by decide +kernel
theorem dX10_cell_150 : decode cX10_cell 150 = .ok (.getfield 40, 3) := by decide +kernel
theorem dX10_cell_153 : decode cX10_cell 153 = .ok (.getfield 123, 3) := by decide +kernel
theorem dX10_cell_156 : decode cX10_cell 156 = .ok (.iload 4, 2) := by decide +kernel
theorem dX10_cell_158 : decode cX10_cell 158 = .ok (.iaload, 1) := by decide +kernel
theorem dX10_cell_159 : decode cX10_cell 159 = .ok (.ifCond .le 27, 3) := by decide +kernel
theorem dX10_cell_162 : decode cX10_cell 162 = .ok (.aload_n 0, 1) := by decide +kernel
theorem dX10_cell_163 : decode cX10_cell 163 = .ok (.getfield 40, 3) := by decide +kernel
theorem dX10_cell_166 : decode cX10_cell 166 = .ok (.iload 4, 2) := by decide +kernel
theorem dX10_cell_168 : decode cX10_cell 168 = .ok (.aload_n 0, 1) := by decide +kernel
theorem dX10_cell_169 : decode cX10_cell 169 = .ok (.getfield 40, 3) := by decide +kernel
theorem dX10_cell_172 : decode cX10_cell 172 = .ok (.getfield 123, 3) := by decide +kernel
theorem dX10_cell_175 : decode cX10_cell 175 = .ok (.iload 4, 2) := by decide +kernel
theorem dX10_cell_177 : decode cX10_cell 177 = .ok (.iaload, 1) := by decide +kernel
theorem dX10_cell_178 : decode cX10_cell 178 = .ok (.iconst 1, 1) := by decide +kernel
theorem dX10_cell_179 : decode cX10_cell 179 = .ok (.isub, 1) := by decide +kernel
theorem dX10_cell_180 : decode cX10_cell 180 = .ok (.invokevirtual 141, 3) := by decide +kernel
theorem dX10_cell_183 : decode cX10_cell 183 = .ok (.goto 5, 3) := by decide +kernel
theorem dX10_cell_186 : decode cX10_cell 186 = .ok (.bipush (-2), 2) := by decide +kernel
theorem dX10_cell_188 : decode cX10_cell 188 = .ok (.ireturn, 1) := by decide +kernel
theorem dX10_cell_189 : decode cX10_cell 189 = .ok (.iconst (-1), 1) := by decide +kernel
theorem dX10_cell_190 : decode cX10_cell 190 = .ok (.ireturn, 1) := by decide +kernel
theorem dX10_stone_0 : decode cX10_stone 0 = .ok (.aload_n 0, 1) := by decide +kernel
theorem dX10_stone_1 : decode cX10_stone 1 = .ok (.getfield 30, 3) := by decide +kernel
theorem dX10_stone_4 : decode cX10_stone 4 = .ok (.iload_n 1, 1) := by decide +kernel
theorem dX10_stone_5 : decode cX10_stone 5 = .ok (.iload_n 2, 1) := by decide +kernel
theorem dX10_stone_6 : decode cX10_stone 6 = .ok (.invokevirtual 115, 3) := by decide +kernel
theorem dX10_stone_9 : decode cX10_stone 9 = .ok (.ifCond .ne 5, 3) := by decide +kernel
theorem dX10_stone_12 : decode cX10_stone 12 = .ok (.iconst (-1), 1) := by decide +kernel
theorem dX10_stone_13 : decode cX10_stone 13 = .ok (.ireturn, 1) := by decide +kernel
theorem dX10_stone_14 : decode cX10_stone 14 = .ok (.iload_n 1, 1) := by decide +kernel
theorem dX10_stone_15 : decode cX10_stone 15 = .ok (.iload_n 2, 1) := by decide +kernel
theorem dX10_stone_16 : decode cX10_stone 16 = .ok (.invokestatic 119, 3) := by decide +kernel
theorem dX10_stone_19 : decode cX10_stone 19 = .ok (.istore 4, 2) := by decide +kernel
theorem dX10_stone_21 : decode cX10_stone 21 = .ok (.iload_n 3, 1) := by decide +kernel
theorem dX10_stone_22 : decode cX10_stone 22 = .ok (.ifCond .lt 17, 3) := by decide +kernel
theorem dX10_stone_25 : decode cX10_stone 25 = .ok (.iload_n 3, 1) := by decide +kernel
theorem dX10_stone_26 : decode cX10_stone 26 = .ok (.aload_n 0, 1) := by decide +kernel
theorem dX10_stone_27 : decode cX10_stone 27 = .ok (.getfield 40, 3) := by decide +kernel
theorem dX10_stone_30 : decode cX10_stone 30 = .ok (.getfield 123, 3) := by decide +kernel
theorem dX10_stone_33 : decode cX10_stone 33 = .ok (.iload 4, 2) := by decide +kernel
theorem dX10_stone_35 : decode cX10_stone 35 = .ok (.iaload, 1) := by decide +kernel
theorem dX10_stone_36 : decode cX10_stone 36 = .ok (.if_icmp .lt 5, 3) := by decide +kernel
theorem dX10_stone_39 : decode cX10_stone 39 = .ok (.iconst (-1), 1) := by decide +kernel
theorem dX10_stone_40 : decode cX10_stone 40 = .ok (.ireturn, 1) := by decide +kernel
theorem dX10_stone_41 : decode cX10_stone 41 = .ok (.aload_n 0, 1) := by decide +kernel
theorem dX10_stone_42 : decode cX10_stone 42 = .ok (.getfield 40, 3) := by decide +kernel
theorem dX10_stone_45 : decode cX10_stone 45 = .ok (.iload 4, 2) := by decide +kernel
theorem dX10_stone_47 : decode cX10_stone 47 = .ok (.iload_n 3, 1) := by decide +kernel
theorem dX10_stone_48 : decode cX10_stone 48 = .ok (.invokevirtual 141, 3) := by decide +kernel
theorem dX10_stone_51 : decode cX10_stone 51 = .ok (.ireturn, 1) := by decide +kernel
theorem dX10_leaver_0 : decode cX10_leaver 0 = .ok (.aload_n 0, 1) := by decide +kernel
theorem dX10_leaver_1 : decode cX10_leaver 1 = .ok (.iload_n 1, 1) := by decide +kernel
theorem dX10_leaver_2 : decode cX10_leaver 2 = .ok (.invokevirtual 144, 3) := by decide +kernel
theorem dX10_leaver_5 : decode cX10_leaver 5 = .ok (.ifCond .ne 5, 3) := by decide +kernel
theorem dX10_leaver_8 : decode cX10_leaver 8 = .ok (.iconst (-1), 1) := by decide +kernel
theorem dX10_leaver_9 : decode cX10_leaver 9 = .ok (.ireturn, 1) := by decide +kernel
theorem dX10_leaver_10 : decode cX10_leaver 10 = .ok (.iload_n 2, 1) := by decide +kernel
theorem dX10_leaver_11 : decode cX10_leaver 11 = .ok (.tableswitch 107 0 4 #[33, 46, 66, 76, 86], 33) := by decide +kernel
theorem dX10_leaver_44 : decode cX10_leaver 44 = .ok (.aload_n 0, 1) := by decide +kernel
theorem dX10_leaver_45 : decode cX10_leaver 45 = .ok (.getfield 40, 3) := by decide +kernel
theorem dX10_leaver_48 : decode cX10_leaver 48 = .ok (.aload_n 0, 1) := by decide +kernel
theorem dX10_leaver_49 : decode cX10_leaver 49 = .ok (.getfield 30, 3) := by decide +kernel
theorem dX10_leaver_52 : decode cX10_leaver 52 = .ok (.iload_n 1, 1) := by decide +kernel
theorem dX10_leaver_53 : decode cX10_leaver 53 = .ok (.invokevirtual 148, 3) := by decide +kernel
theorem dX10_leaver_56 : decode cX10_leaver 56 = .ok (.ireturn, 1) := by decide +kernel
theorem dX10_leaver_57 : decode cX10_leaver 57 = .ok (.aload_n 0, 1) := by decide +kernel
theorem dX10_leaver_58 : decode cX10_leaver 58 = .ok (.getfield 40, 3) := by decide +kernel
theorem dX10_leaver_61 : decode cX10_leaver 61 = .ok (.getfield 151, 3) := by decide +kernel
theorem dX10_leaver_64 : decode cX10_leaver 64 = .ok (.iload_n 1, 1) := by decide +kernel
theorem dX10_leaver_65 : decode cX10_leaver 65 = .ok (.iaload, 1) := by decide +kernel
theorem dX10_leaver_66 : decode cX10_leaver 66 = .ok (.aload_n 0, 1) := by decide +kernel
theorem dX10_leaver_67 : decode cX10_leaver 67 = .ok (.getfield 40, 3) := by decide +kernel
theorem dX10_leaver_70 : decode cX10_leaver 70 = .ok (.getfield 154, 3) := by decide +kernel
theorem dX10_leaver_73 : decode cX10_leaver 73 = .ok (.iload_n 1, 1) := by decide +kernel
theorem dX10_leaver_74 : decode cX10_leaver 74 = .ok (.iaload, 1) := by decide +kernel
theorem dX10_leaver_75 : decode cX10_leaver 75 = .ok (.isub, 1) := by decide +kernel
theorem dX10_leaver_76 : decode cX10_leaver 76 = .ok (.ireturn, 1) := by decide +kernel
theorem dX10_leaver_77 : decode cX10_leaver 77 = .ok (.aload_n 0, 1) := by decide +kernel
theorem dX10_leaver_78 : decode cX10_leaver 78 = .ok (.getfield 40, 3) := by decide +kernel
theorem dX10_leaver_81 : decode cX10_leaver 81 = .ok (.getfield 154, 3) := by decide +kernel
theorem dX10_leaver_84 : decode cX10_leaver 84 = .ok (.iload_n 1, 1) := by decide +kernel
theorem dX10_leaver_85 : decode cX10_leaver 85 = .ok (.iaload, 1) := by decide +kernel
theorem dX10_leaver_86 : decode cX10_leaver 86 = .ok (.ireturn, 1) := by decide +kernel
theorem dX10_leaver_87 : decode cX10_leaver 87 = .ok (.aload_n 0, 1) := by decide +kernel
theorem dX10_leaver_88 : decode cX10_leaver 88 = .ok (.getfield 30, 3) := by decide +kernel
theorem dX10_leaver_91 : decode cX10_leaver 91 = .ok (.getfield 157, 3) := by decide +kernel
theorem dX10_leaver_94 : decode cX10_leaver 94 = .ok (.iload_n 1, 1) := by decide +kernel
theorem dX10_leaver_95 : decode cX10_leaver 95 = .ok (.iaload, 1) := by decide +kernel
theorem dX10_leaver_96 : decode cX10_leaver 96 = .ok (.ireturn, 1) := by decide +kernel
theorem dX10_leaver_97 : decode cX10_leaver 97 = .ok (.aload_n 0, 1) := by decide +kernel
theorem dX10_leaver_98 : decode cX10_leaver 98 = .ok (.getfield 40, 3) := by decide +kernel
theorem dX10_leaver_101 : decode cX10_leaver 101 = .ok (.aload_n 0, 1) := by decide +kernel
theorem dX10_leaver_102 : decode cX10_leaver 102 = .ok (.getfield 30, 3) := by decide +kernel
theorem dX10_leaver_105 : decode cX10_leaver 105 = .ok (.iload_n 1, 1) := by decide +kernel
theorem dX10_leaver_106 : decode cX10_leaver 106 = .ok (.invokevirtual 160, 3) := by decide +kernel
theorem dX10_leaver_109 : decode cX10_leaver 109 = .ok (.ifCond .eq 7, 3) := by decide +kernel
theorem dX10_leaver_112 : decode cX10_leaver 112 = .ok (.iconst 1, 1) := by decide +kernel
theorem dX10_leaver_113 : decode cX10_leaver 113 = .ok (.goto 4, 3) := by decide +kernel
theorem dX10_leaver_116 : decode cX10_leaver 116 = .ok (.iconst 0, 1) := by decide +kernel
theorem dX10_leaver_117 : decode cX10_leaver 117 = .ok (.ireturn, 1) := by decide +kernel
theorem dX10_leaver_118 : decode cX10_leaver 118 = .ok (.iconst (-1), 1) := by decide +kernel
theorem dX10_leaver_119 : decode cX10_leaver 119 = .ok (.ireturn, 1) := by decide +kernel
theorem dX10_count_0 : decode cX10_count 0 = .ok (.iload_n 1, 1) := by decide +kernel
theorem dX10_count_1 : decode cX10_count 1 = .ok (.tableswitch 169 0 12 #[67, 75, 83, 91, 99, 107, 115, 123, 131, 143, 151, 159, 164], 67) := by decide +kernel
theorem dX10_count_68 : decode cX10_count 68 = .ok (.aload_n 0, 1) := by decide +kernel
theorem dX10_count_69 : decode cX10_count 69 = .ok (.getfield 30, 3) := by decide +kernel
theorem dX10_count_72 : decode cX10_count 72 = .ok (.getfield 163, 3) := by decide +kernel
theorem dX10_count_75 : decode cX10_count 75 = .ok (.ireturn, 1) := by decide +kernel
theorem dX10_count_76 : decode cX10_count 76 = .ok (.aload_n 0, 1) := by decide +kernel
theorem dX10_count_77 : decode cX10_count 77 = .ok (.getfield 30, 3) := by decide +kernel
theorem dX10_count_80 : decode cX10_count 80 = .ok (.getfield 166, 3) := by decide +kernel
theorem dX10_count_83 : decode cX10_count 83 = .ok (.ireturn, 1) := by decide +kernel
theorem dX10_count_84 : decode cX10_count 84 = .ok (.aload_n 0, 1) := by decide +kernel
theorem dX10_count_85 : decode cX10_count 85 = .ok (.getfield 30, 3) := by decide +kernel
theorem dX10_count_88 : decode cX10_count 88 = .ok (.getfield 169, 3) := by decide +kernel
theorem dX10_count_91 : decode cX10_count 91 = .ok (.ireturn, 1) := by decide +kernel
theorem dX10_count_92 : decode cX10_count 92 = .ok (.aload_n 0, 1) := by decide +kernel
theorem dX10_count_93 : decode cX10_count 93 = .ok (.getfield 30, 3) := by decide +kernel
theorem dX10_count_96 : decode cX10_count 96 = .ok (.getfield 172, 3) := by decide +kernel
theorem dX10_count_99 : decode cX10_count 99 = .ok (.ireturn, 1) := by decide +kernel
theorem dX10_count_100 : decode cX10_count 100 = .ok (.aload_n 0, 1) := by decide +kernel
theorem dX10_count_101 : decode cX10_count 101 = .ok (.getfield 30, 3) := by decide +kernel
theorem dX10_count_104 : decode cX10_count 104 = .ok (.getfield 175, 3) := by decide +kernel
theorem dX10_count_107 : decode cX10_count 107 = .ok (.ireturn, 1) := by decide +kernel
theorem dX10_count_108 : decode cX10_count 108 = .ok (.aload_n 0, 1) := by decide +kernel
theorem dX10_count_109 : decode cX10_count 109 = .ok (.getfield 40, 3) := by decide +kernel
theorem dX10_count_112 : decode cX10_count 112 = .ok (.getfield 178, 3) := by decide +kernel
theorem dX10_count_115 : decode cX10_count 115 = .ok (.ireturn, 1) := by decide +kernel
theorem dX10_count_116 : decode cX10_count 116 = .ok (.aload_n 0, 1) := by decide +kernel
theorem dX10_count_117 : decode cX10_count 117 = .ok (.getfield 40, 3) := by decide +kernel
theorem dX10_count_120 : decode cX10_count 120 = .ok (.invokevirtual 181, 3) := by decide +kernel
theorem dX10_count_123 : decode cX10_count 123 = .ok (.ireturn, 1) := by decide +kernel
theorem dX10_count_124 : decode cX10_count 124 = .ok (.aload_n 0, 1) := by decide +kernel
theorem dX10_count_125 : decode cX10_count 125 = .ok (.getfield 40, 3) := by decide +kernel
theorem dX10_count_128 : decode cX10_count 128 = .ok (.invokevirtual 184, 3) := by decide +kernel
theorem dX10_count_131 : decode cX10_count 131 = .ok (.ireturn, 1) := by decide +kernel
theorem dX10_count_132 : decode cX10_count 132 = .ok (.aload_n 0, 1) := by decide +kernel
theorem dX10_count_133 : decode cX10_count 133 = .ok (.getfield 40, 3) := by decide +kernel
theorem dX10_count_136 : decode cX10_count 136 = .ok (.aload_n 0, 1) := by decide +kernel
theorem dX10_count_137 : decode cX10_count 137 = .ok (.getfield 30, 3) := by decide +kernel
theorem dX10_count_140 : decode cX10_count 140 = .ok (.invokevirtual 187, 3) := by decide +kernel
theorem dX10_count_143 : decode cX10_count 143 = .ok (.ireturn, 1) := by decide +kernel
theorem dX10_count_144 : decode cX10_count 144 = .ok (.aload_n 0, 1) := by decide +kernel
theorem dX10_count_145 : decode cX10_count 145 = .ok (.getfield 12, 3) := by decide +kernel
theorem dX10_count_148 : decode cX10_count 148 = .ok (.getfield 96, 3) := by decide +kernel
theorem dX10_count_151 : decode cX10_count 151 = .ok (.ireturn, 1) := by decide +kernel
theorem dX10_count_152 : decode cX10_count 152 = .ok (.aload_n 0, 1) := by decide +kernel
theorem dX10_count_153 : decode cX10_count 153 = .ok (.getfield 50, 3) := by decide +kernel
theorem dX10_count_156 : decode cX10_count 156 = .ok (.getfield 191, 3) := by decide +kernel
theorem dX10_count_159 : decode cX10_count 159 = .ok (.ireturn, 1) := by decide +kernel
theorem dX10_count_160 : decode cX10_count 160 = .ok (.aload_n 0, 1) := by decide +kernel
theorem dX10_count_161 : decode cX10_count 161 = .ok (.getfield 112, 3) := by decide +kernel
theorem dX10_count_164 : decode cX10_count 164 = .ok (.ireturn, 1) := by decide +kernel
theorem dX10_count_165 : decode cX10_count 165 = .ok (.aload_n 0, 1) := by decide +kernel
theorem dX10_count_166 : decode cX10_count 166 = .ok (.invokevirtual 194, 3) := by decide +kernel
theorem dX10_count_169 : decode cX10_count 169 = .ok (.ireturn, 1) := by decide +kernel
theorem dX10_count_170 : decode cX10_count 170 = .ok (.iconst (-1), 1) := by decide +kernel
theorem dX10_count_171 : decode cX10_count 171 = .ok (.ireturn, 1) := by decide +kernel
theorem dX10_countHeld_0 : decode cX10_countHeld 0 = .ok (.iconst 0, 1) := by decide +kernel
theorem dX10_countHeld_1 : decode cX10_countHeld 1 = .ok (.istore_n 1, 1) := by decide +kernel
theorem dX10_countHeld_2 : decode cX10_countHeld 2 = .ok (.iconst 0, 1) := by decide +kernel
theorem dX10_countHeld_3 : decode cX10_countHeld 3 = .ok (.istore_n 2, 1) := by decide +kernel
theorem dX10_countHeld_4 : decode cX10_countHeld 4 = .ok (.iload_n 2, 1) := by decide +kernel
theorem dX10_countHeld_5 : decode cX10_countHeld 5 = .ok (.iconst 3, 1) := by decide +kernel
theorem dX10_countHeld_6 : decode cX10_countHeld 6 = .ok (.if_icmp .ge 21, 3) := by decide +kernel
theorem dX10_countHeld_9 : decode cX10_countHeld 9 = .ok (.aload_n 0, 1) := by decide +kernel
theorem dX10_countHeld_10 : decode cX10_countHeld 10 = .ok (.getfield 58, 3) := by decide +kernel
theorem dX10_countHeld_13 : decode cX10_countHeld 13 = .ok (.iload_n 2, 1) := by decide +kernel
theorem dX10_countHeld_14 : decode cX10_countHeld 14 = .ok (.baload, 1) := by decide +kernel
theorem dX10_countHeld_15 : decode cX10_countHeld 15 = .ok (.ifCond .eq 6, 3) := by decide +kernel
theorem dX10_countHeld_18 : decode cX10_countHeld 18 = .ok (.iinc 1 1, 3) := by decide +kernel
theorem dX10_countHeld_21 : decode cX10_countHeld 21 = .ok (.iinc 2 1, 3) := by decide +kernel
theorem dX10_countHeld_24 : decode cX10_countHeld 24 = .ok (.goto (-20), 3) := by decide +kernel
theorem dX10_countHeld_27 : decode cX10_countHeld 27 = .ok (.iload_n 1, 1) := by decide +kernel
theorem dX10_countHeld_28 : decode cX10_countHeld 28 = .ok (.ireturn, 1) := by decide +kernel
theorem dX10_isLeaver_0 : decode cX10_isLeaver 0 = .ok (.iload_n 1, 1) := by decide +kernel
theorem dX10_isLeaver_1 : decode cX10_isLeaver 1 = .ok (.ifCond .lt 18, 3) := by decide +kernel
theorem dX10_isLeaver_4 : decode cX10_isLeaver 4 = .ok (.iload_n 1, 1) := by decide +kernel
theorem dX10_isLeaver_5 : decode cX10_isLeaver 5 = .ok (.aload_n 0, 1) := by decide +kernel
theorem dX10_isLeaver_6 : decode cX10_isLeaver 6 = .ok (.getfield 30, 3) := by decide +kernel
theorem dX10_isLeaver_9 : decode cX10_isLeaver 9 = .ok (.getfield 172, 3) := by decide +kernel
theorem dX10_isLeaver_12 : decode cX10_isLeaver 12 = .ok (.if_icmp .ge 7, 3) := by decide +kernel
theorem dX10_isLeaver_15 : decode cX10_isLeaver 15 = .ok (.iconst 1, 1) := by decide +kernel
theorem dX10_isLeaver_16 : decode cX10_isLeaver 16 = .ok (.goto 4, 3) := by decide +kernel
theorem dX10_isLeaver_19 : decode cX10_isLeaver 19 = .ok (.iconst 0, 1) := by decide +kernel
theorem dX10_isLeaver_20 : decode cX10_isLeaver 20 = .ok (.ireturn, 1) := by decide +kernel
theorem dX10_cellNumber_0 : decode cX10_cellNumber 0 = .ok (.iload_n 1, 1) := by decide +kernel
theorem dX10_cellNumber_1 : decode cX10_cellNumber 1 = .ok (.bipush 12, 2) := by decide +kernel
theorem dX10_cellNumber_3 : decode cX10_cellNumber 3 = .ok (.imul, 1) := by decide +kernel
theorem dX10_cellNumber_4 : decode cX10_cellNumber 4 = .ok (.iload_n 0, 1) := by decide +kernel
theorem dX10_cellNumber_5 : decode cX10_cellNumber 5 = .ok (.iadd, 1) := by decide +kernel
theorem dX10_cellNumber_6 : decode cX10_cellNumber 6 = .ok (.ireturn, 1) := by decide +kernel
theorem dX10_cellName_0 : decode cX10_cellName 0 = .ok (.bipush 100, 2) := by decide +kernel
theorem dX10_cellName_2 : decode cX10_cellName 2 = .ok (.iload_n 0, 1) := by decide +kernel
theorem dX10_cellName_3 : decode cX10_cellName 3 = .ok (.bipush 12, 2) := by decide +kernel
theorem dX10_cellName_5 : decode cX10_cellName 5 = .ok (.idiv, 1) := by decide +kernel
theorem dX10_cellName_6 : decode cX10_cellName 6 = .ok (.imul, 1) := by decide +kernel
theorem dX10_cellName_7 : decode cX10_cellName 7 = .ok (.iload_n 0, 1) := by decide +kernel
theorem dX10_cellName_8 : decode cX10_cellName 8 = .ok (.bipush 12, 2) := by decide +kernel
theorem dX10_cellName_10 : decode cX10_cellName 10 = .ok (.irem, 1) := by decide +kernel
theorem dX10_cellName_11 : decode cX10_cellName 11 = .ok (.iadd, 1) := by decide +kernel
theorem dX10_cellName_12 : decode cX10_cellName 12 = .ok (.ireturn, 1) := by decide +kernel
theorem dX10_hurl_0 : decode cX10_hurl 0 = .ok (.aload_n 0, 1) := by decide +kernel
theorem dX10_hurl_1 : decode cX10_hurl 1 = .ok (.iload_n 1, 1) := by decide +kernel
theorem dX10_hurl_2 : decode cX10_hurl 2 = .ok (.invokevirtual 144, 3) := by decide +kernel
theorem dX10_hurl_5 : decode cX10_hurl 5 = .ok (.ifCond .eq 30, 3) := by decide +kernel
theorem dX10_hurl_8 : decode cX10_hurl 8 = .ok (.aload_n 0, 1) := by decide +kernel
theorem dX10_hurl_9 : decode cX10_hurl 9 = .ok (.getfield 30, 3) := by decide +kernel
theorem dX10_hurl_12 : decode cX10_hurl 12 = .ok (.iload_n 2, 1) := by decide +kernel
theorem dX10_hurl_13 : decode cX10_hurl 13 = .ok (.iload_n 3, 1) := by decide +kernel
theorem dX10_hurl_14 : decode cX10_hurl 14 = .ok (.invokevirtual 115, 3) := by decide +kernel
theorem dX10_hurl_17 : decode cX10_hurl 17 = .ok (.ifCond .eq 18, 3) := by decide +kernel
theorem dX10_hurl_20 : decode cX10_hurl 20 = .ok (.aload_n 0, 1) := by decide +kernel
theorem dX10_hurl_21 : decode cX10_hurl 21 = .ok (.getfield 40, 3) := by decide +kernel
theorem dX10_hurl_24 : decode cX10_hurl 24 = .ok (.aload_n 0, 1) := by decide +kernel
theorem dX10_hurl_25 : decode cX10_hurl 25 = .ok (.getfield 30, 3) := by decide +kernel
theorem dX10_hurl_28 : decode cX10_hurl 28 = .ok (.iload_n 1, 1) := by decide +kernel
theorem dX10_hurl_29 : decode cX10_hurl 29 = .ok (.invokevirtual 160, 3) := by decide +kernel
theorem dX10_hurl_32 : decode cX10_hurl 32 = .ok (.ifCond .ne 5, 3) := by decide +kernel
theorem dX10_hurl_35 : decode cX10_hurl 35 = .ok (.iconst (-1), 1) := by decide +kernel
theorem dX10_hurl_36 : decode cX10_hurl 36 = .ok (.ireturn, 1) := by decide +kernel
theorem dX10_hurl_37 : decode cX10_hurl 37 = .ok (.aload_n 0, 1) := by decide +kernel
theorem dX10_hurl_38 : decode cX10_hurl 38 = .ok (.getfield 50, 3) := by decide +kernel
theorem dX10_hurl_41 : decode cX10_hurl 41 = .ok (.aload_n 0, 1) := by decide +kernel
theorem dX10_hurl_42 : decode cX10_hurl 42 = .ok (.getfield 40, 3) := by decide +kernel
theorem dX10_hurl_45 : decode cX10_hurl 45 = .ok (.invokevirtual 197, 3) := by decide +kernel
theorem dX10_hurl_48 : decode cX10_hurl 48 = .ok (.aload_n 0, 1) := by decide +kernel
theorem dX10_hurl_49 : decode cX10_hurl 49 = .ok (.getfield 40, 3) := by decide +kernel
theorem dX10_hurl_52 : decode cX10_hurl 52 = .ok (.aload_n 0, 1) := by decide +kernel
theorem dX10_hurl_53 : decode cX10_hurl 53 = .ok (.getfield 30, 3) := by decide +kernel
theorem dX10_hurl_56 : decode cX10_hurl 56 = .ok (.iload_n 1, 1) := by decide +kernel
theorem dX10_hurl_57 : decode cX10_hurl 57 = .ok (.iload_n 2, 1) := by decide +kernel
theorem dX10_hurl_58 : decode cX10_hurl 58 = .ok (.iload_n 3, 1) := by decide +kernel
theorem dX10_hurl_59 : decode cX10_hurl 59 = .ok (.invokevirtual 201, 3) := by decide +kernel
theorem dX10_hurl_62 : decode cX10_hurl 62 = .ok (.istore 4, 2) := by decide +kernel
theorem dX10_hurl_64 : decode cX10_hurl 64 = .ok (.iload 4, 2) := by decide +kernel
theorem dX10_hurl_66 : decode cX10_hurl 66 = .ok (.bipush (-2), 2) := by decide +kernel
theorem dX10_hurl_68 : decode cX10_hurl 68 = .ok (.if_icmp .ne 8, 3) := by decide +kernel
theorem dX10_hurl_71 : decode cX10_hurl 71 = .ok (.bipush (-2), 2) := by decide +kernel
theorem dX10_hurl_73 : decode cX10_hurl 73 = .ok (.goto 12, 3) := by decide +kernel
theorem dX10_hurl_76 : decode cX10_hurl 76 = .ok (.sipush 1000, 3) := by decide +kernel
theorem dX10_hurl_79 : decode cX10_hurl 79 = .ok (.iload 4, 2) := by decide +kernel
theorem dX10_hurl_81 : decode cX10_hurl 81 = .ok (.invokestatic 205, 3) := by decide +kernel
theorem dX10_hurl_84 : decode cX10_hurl 84 = .ok (.iadd, 1) := by decide +kernel
theorem dX10_hurl_85 : decode cX10_hurl 85 = .ok (.ireturn, 1) := by decide +kernel
theorem dX10_days_0 : decode cX10_days 0 = .ok (.iload_n 1, 1) := by decide +kernel
theorem dX10_days_1 : decode cX10_days 1 = .ok (.ifCond .lt 9, 3) := by decide +kernel
theorem dX10_days_4 : decode cX10_days 4 = .ok (.iload_n 1, 1) := by decide +kernel
theorem dX10_days_5 : decode cX10_days 5 = .ok (.bipush 100, 2) := by decide +kernel
theorem dX10_days_7 : decode cX10_days 7 = .ok (.if_icmp .le 5, 3) := by decide +kernel
theorem dX10_days_10 : decode cX10_days 10 = .ok (.iconst (-1), 1) := by decide +kernel
theorem dX10_days_11 : decode cX10_days 11 = .ok (.ireturn, 1) := by decide +kernel
theorem dX10_days_12 : decode cX10_days 12 = .ok (.iload_n 1, 1) := by decide +kernel
theorem dX10_days_13 : decode cX10_days 13 = .ok (.ifCond .le 34, 3) := by decide +kernel
theorem dX10_days_16 : decode cX10_days 16 = .ok (.aload_n 0, 1) := by decide +kernel
theorem dX10_days_17 : decode cX10_days 17 = .ok (.getfield 50, 3) := by decide +kernel
theorem dX10_days_20 : decode cX10_days 20 = .ok (.aload_n 0, 1) := by decide +kernel
theorem dX10_days_21 : decode cX10_days 21 = .ok (.getfield 40, 3) := by decide +kernel
theorem dX10_days_24 : decode cX10_days 24 = .ok (.invokevirtual 197, 3) := by decide +kernel
theorem dX10_days_27 : decode cX10_days 27 = .ok (.aload_n 0, 1) := by decide +kernel
theorem dX10_days_28 : decode cX10_days 28 = .ok (.getfield 40, 3) := by decide +kernel
theorem dX10_days_31 : decode cX10_days 31 = .ok (.aload_n 0, 1) := by decide +kernel
theorem dX10_days_32 : decode cX10_days 32 = .ok (.getfield 30, 3) := by decide +kernel
theorem dX10_days_35 : decode cX10_days 35 = .ok (.iload_n 1, 1) := by decide +kernel
theorem dX10_days_36 : decode cX10_days 36 = .ok (.iconst 0, 1) := by decide +kernel
theorem dX10_days_37 : decode cX10_days 37 = .ok (.aload_n 0, 1) := by decide +kernel
theorem dX10_days_38 : decode cX10_days 38 = .ok (.getfield 30, 3) := by decide +kernel
theorem dX10_days_41 : decode cX10_days 41 = .ok (.getfield 166, 3) := by decide +kernel
theorem dX10_days_44 : decode cX10_days 44 = .ok (.invokevirtual 208, 3) := by decide +kernel
theorem dX10_days_47 : decode cX10_days 47 = .ok (.aload_n 0, 1) := by decide +kernel
theorem dX10_days_48 : decode cX10_days 48 = .ok (.getfield 40, 3) := by decide +kernel
theorem dX10_days_51 : decode cX10_days 51 = .ok (.getfield 178, 3) := by decide +kernel
theorem dX10_days_54 : decode cX10_days 54 = .ok (.ireturn, 1) := by decide +kernel
theorem dX10_undo_0 : decode cX10_undo 0 = .ok (.aload_n 0, 1) := by decide +kernel
theorem dX10_undo_1 : decode cX10_undo 1 = .ok (.getfield 50, 3) := by decide +kernel
theorem dX10_undo_4 : decode cX10_undo 4 = .ok (.aload_n 0, 1) := by decide +kernel
theorem dX10_undo_5 : decode cX10_undo 5 = .ok (.getfield 40, 3) := by decide +kernel
theorem dX10_undo_8 : decode cX10_undo 8 = .ok (.invokevirtual 212, 3) := by decide +kernel
theorem dX10_undo_11 : decode cX10_undo 11 = .ok (.ireturn, 1) := by decide +kernel
theorem dX10_hold_0 : decode cX10_hold 0 = .ok (.iload_n 1, 1) := by decide +kernel
theorem dX10_hold_1 : decode cX10_hold 1 = .ok (.ifCond .lt 8, 3) := by decide +kernel
theorem dX10_hold_4 : decode cX10_hold 4 = .ok (.iload_n 1, 1) := by decide +kernel
theorem dX10_hold_5 : decode cX10_hold 5 = .ok (.iconst 3, 1) := by decide +kernel
theorem dX10_hold_6 : decode cX10_hold 6 = .ok (.if_icmp .lt 5, 3) := by decide +kernel
theorem dX10_hold_9 : decode cX10_hold 9 = .ok (.iconst 0, 1) := by decide +kernel
theorem dX10_hold_10 : decode cX10_hold 10 = .ok (.ireturn, 1) := by decide +kernel
theorem dX10_hold_11 : decode cX10_hold 11 = .ok (.aload_n 0, 1) := by decide +kernel
theorem dX10_hold_12 : decode cX10_hold 12 = .ok (.getfield 54, 3) := by decide +kernel
theorem dX10_hold_15 : decode cX10_hold 15 = .ok (.iload_n 1, 1) := by decide +kernel
theorem dX10_hold_16 : decode cX10_hold 16 = .ok (.aaload, 1) := by decide +kernel
theorem dX10_hold_17 : decode cX10_hold 17 = .ok (.aload_n 0, 1) := by decide +kernel
theorem dX10_hold_18 : decode cX10_hold 18 = .ok (.getfield 40, 3) := by decide +kernel
theorem dX10_hold_21 : decode cX10_hold 21 = .ok (.invokevirtual 216, 3) := by decide +kernel
theorem dX10_hold_24 : decode cX10_hold 24 = .ok (.aload_n 0, 1) := by decide +kernel
theorem dX10_hold_25 : decode cX10_hold 25 = .ok (.getfield 58, 3) := by decide +kernel
theorem dX10_hold_28 : decode cX10_hold 28 = .ok (.iload_n 1, 1) := by decide +kernel
theorem dX10_hold_29 : decode cX10_hold 29 = .ok (.iconst 1, 1) := by decide +kernel
theorem dX10_hold_30 : decode cX10_hold 30 = .ok (.bastore, 1) := by decide +kernel
theorem dX10_hold_31 : decode cX10_hold 31 = .ok (.iconst 1, 1) := by decide +kernel
theorem dX10_hold_32 : decode cX10_hold 32 = .ok (.ireturn, 1) := by decide +kernel
theorem dX10_restore_0 : decode cX10_restore 0 = .ok (.iload_n 1, 1) := by decide +kernel
theorem dX10_restore_1 : decode cX10_restore 1 = .ok (.ifCond .lt 17, 3) := by decide +kernel
theorem dX10_restore_4 : decode cX10_restore 4 = .ok (.iload_n 1, 1) := by decide +kernel
theorem dX10_restore_5 : decode cX10_restore 5 = .ok (.iconst 3, 1) := by decide +kernel
theorem dX10_restore_6 : decode cX10_restore 6 = .ok (.if_icmp .ge 12, 3) := by decide +kernel
theorem dX10_restore_9 : decode cX10_restore 9 = .ok (.aload_n 0, 1) := by decide +kernel
theorem dX10_restore_10 : decode cX10_restore 10 = .ok (.getfield 58, 3) := by decide +kernel
theorem dX10_restore_13 : decode cX10_restore 13 = .ok (.iload_n 1, 1) := by decide +kernel
theorem dX10_restore_14 : decode cX10_restore 14 = .ok (.baload, 1) := by decide +kernel
theorem dX10_restore_15 : decode cX10_restore 15 = .ok (.ifCond .ne 5, 3) := by decide +kernel
theorem dX10_restore_18 : decode cX10_restore 18 = .ok (.iconst 0, 1) := by decide +kernel
theorem dX10_restore_19 : decode cX10_restore 19 = .ok (.ireturn, 1) := by decide +kernel
theorem dX10_restore_20 : decode cX10_restore 20 = .ok (.aload_n 0, 1) := by decide +kernel
theorem dX10_restore_21 : decode cX10_restore 21 = .ok (.getfield 40, 3) := by decide +kernel
theorem dX10_restore_24 : decode cX10_restore 24 = .ok (.aload_n 0, 1) := by decide +kernel
theorem dX10_restore_25 : decode cX10_restore 25 = .ok (.getfield 54, 3) := by decide +kernel
theorem dX10_restore_28 : decode cX10_restore 28 = .ok (.iload_n 1, 1) := by decide +kernel
theorem dX10_restore_29 : decode cX10_restore 29 = .ok (.aaload, 1) := by decide +kernel
theorem dX10_restore_30 : decode cX10_restore 30 = .ok (.invokevirtual 216, 3) := by decide +kernel
theorem dX10_restore_33 : decode cX10_restore 33 = .ok (.aload_n 0, 1) := by decide +kernel
theorem dX10_restore_34 : decode cX10_restore 34 = .ok (.getfield 50, 3) := by decide +kernel
theorem dX10_restore_37 : decode cX10_restore 37 = .ok (.invokevirtual 111, 3) := by decide +kernel
theorem dX10_restore_40 : decode cX10_restore 40 = .ok (.iconst 1, 1) := by decide +kernel
theorem dX10_restore_41 : decode cX10_restore 41 = .ok (.ireturn, 1) := by decide +kernel
theorem dX10_over_0 : decode cX10_over 0 = .ok (.iload_n 1, 1) := by decide +kernel
theorem dX10_over_1 : decode cX10_over 1 = .ok (.ifCond .lt 17, 3) := by decide +kernel
theorem dX10_over_4 : decode cX10_over 4 = .ok (.iload_n 1, 1) := by decide +kernel
theorem dX10_over_5 : decode cX10_over 5 = .ok (.iconst 1, 1) := by decide +kernel
theorem dX10_over_6 : decode cX10_over 6 = .ok (.if_icmp .gt 12, 3) := by decide +kernel
theorem dX10_over_9 : decode cX10_over 9 = .ok (.iload_n 2, 1) := by decide +kernel
theorem dX10_over_10 : decode cX10_over 10 = .ok (.ifCond .lt 8, 3) := by decide +kernel
theorem dX10_over_13 : decode cX10_over 13 = .ok (.iload_n 2, 1) := by decide +kernel
theorem dX10_over_14 : decode cX10_over 14 = .ok (.iconst 1, 1) := by decide +kernel
theorem dX10_over_15 : decode cX10_over 15 = .ok (.if_icmp .le 5, 3) := by decide +kernel
theorem dX10_over_18 : decode cX10_over 18 = .ok (.iconst (-1), 1) := by decide +kernel
theorem dX10_over_19 : decode cX10_over 19 = .ok (.ireturn, 1) := by decide +kernel
theorem dX10_over_20 : decode cX10_over 20 = .ok (.aload_n 0, 1) := by decide +kernel
theorem dX10_over_21 : decode cX10_over 21 = .ok (.iload_n 1, 1) := by decide +kernel
theorem dX10_over_22 : decode cX10_over 22 = .ok (.invokevirtual 219, 3) := by decide +kernel
theorem dX10_over_25 : decode cX10_over 25 = .ok (.ifCond .ne 6, 3) := by decide +kernel
theorem dX10_over_28 : decode cX10_over 28 = .ok (.bipush (-2), 2) := by decide +kernel
theorem dX10_over_30 : decode cX10_over 30 = .ok (.ireturn, 1) := by decide +kernel
theorem dX10_over_31 : decode cX10_over 31 = .ok (.iload_n 2, 1) := by decide +kernel
theorem dX10_over_32 : decode cX10_over 32 = .ok (.ifCond .ne 13, 3) := by decide +kernel
theorem dX10_over_35 : decode cX10_over 35 = .ok (.aload_n 0, 1) := by decide +kernel
theorem dX10_over_36 : decode cX10_over 36 = .ok (.getfield 72, 3) := by decide +kernel
theorem dX10_over_39 : decode cX10_over 39 = .ok (.invokevirtual 222, 3) := by decide +kernel
theorem dX10_over_42 : decode cX10_over 42 = .ok (.goto 10, 3) := by decide +kernel
theorem dX10_over_45 : decode cX10_over 45 = .ok (.aload_n 0, 1) := by decide +kernel
theorem dX10_over_46 : decode cX10_over 46 = .ok (.getfield 72, 3) := by decide +kernel
theorem dX10_over_49 : decode cX10_over 49 = .ok (.invokevirtual 225, 3) := by decide +kernel
theorem dX10_over_52 : decode cX10_over 52 = .ok (.ireturn, 1) := by decide +kernel
theorem dX10_overAt_0 : decode cX10_overAt 0 = .ok (.iload_n 1, 1) := by decide +kernel
theorem dX10_overAt_1 : decode cX10_overAt 1 = .ok (.ifCond .lt 12, 3) := by decide +kernel
theorem dX10_overAt_4 : decode cX10_overAt 4 = .ok (.iload_n 1, 1) := by decide +kernel
theorem dX10_overAt_5 : decode cX10_overAt 5 = .ok (.iconst 1, 1) := by decide +kernel
theorem dX10_overAt_6 : decode cX10_overAt 6 = .ok (.if_icmp .gt 7, 3) := by decide +kernel
theorem dX10_overAt_9 : decode cX10_overAt 9 = .ok (.iload_n 2, 1) := by decide +kernel
theorem dX10_overAt_10 : decode cX10_overAt 10 = .ok (.ifCond .ge 5, 3) := by decide +kernel
theorem dX10_overAt_13 : decode cX10_overAt 13 = .ok (.iconst (-1), 1) := by decide +kernel
theorem dX10_overAt_14 : decode cX10_overAt 14 = .ok (.ireturn, 1) := by decide +kernel
theorem dX10_overAt_15 : decode cX10_overAt 15 = .ok (.aload_n 0, 1) := by decide +kernel
theorem dX10_overAt_16 : decode cX10_overAt 16 = .ok (.iload_n 1, 1) := by decide +kernel
theorem dX10_overAt_17 : decode cX10_overAt 17 = .ok (.invokevirtual 219, 3) := by decide +kernel
theorem dX10_overAt_20 : decode cX10_overAt 20 = .ok (.ifCond .ne 6, 3) := by decide +kernel
theorem dX10_overAt_23 : decode cX10_overAt 23 = .ok (.bipush (-2), 2) := by decide +kernel
theorem dX10_overAt_25 : decode cX10_overAt 25 = .ok (.ireturn, 1) := by decide +kernel
theorem dX10_overAt_26 : decode cX10_overAt 26 = .ok (.iload_n 2, 1) := by decide +kernel
theorem dX10_overAt_27 : decode cX10_overAt 27 = .ok (.aload_n 0, 1) := by decide +kernel
theorem dX10_overAt_28 : decode cX10_overAt 28 = .ok (.getfield 72, 3) := by decide +kernel
theorem dX10_overAt_31 : decode cX10_overAt 31 = .ok (.getfield 228, 3) := by decide +kernel
theorem dX10_overAt_34 : decode cX10_overAt 34 = .ok (.if_icmp .ge 18, 3) := by decide +kernel
theorem dX10_overAt_37 : decode cX10_overAt 37 = .ok (.aload_n 0, 1) := by decide +kernel
theorem dX10_overAt_38 : decode cX10_overAt 38 = .ok (.getfield 72, 3) := by decide +kernel
theorem dX10_overAt_41 : decode cX10_overAt 41 = .ok (.getfield 229, 3) := by decide +kernel
theorem dX10_overAt_44 : decode cX10_overAt 44 = .ok (.iload_n 2, 1) := by decide +kernel
theorem dX10_overAt_45 : decode cX10_overAt 45 = .ok (.iaload, 1) := by decide +kernel
theorem dX10_overAt_46 : decode cX10_overAt 46 = .ok (.invokestatic 205, 3) := by decide +kernel
theorem dX10_overAt_49 : decode cX10_overAt 49 = .ok (.goto 4, 3) := by decide +kernel
theorem dX10_overAt_52 : decode cX10_overAt 52 = .ok (.iconst (-1), 1) := by decide +kernel
theorem dX10_overAt_53 : decode cX10_overAt 53 = .ok (.ireturn, 1) := by decide +kernel
theorem dX10_findWayOver_0 : decode cX10_findWayOver 0 = .ok (.aload_n 0, 1) := by decide +kernel
theorem dX10_findWayOver_1 : decode cX10_findWayOver 1 = .ok (.getfield 40, 3) := by decide +kernel
theorem dX10_findWayOver_4 : decode cX10_findWayOver 4 = .ok (.aload_n 0, 1) := by decide +kernel
theorem dX10_findWayOver_5 : decode cX10_findWayOver 5 = .ok (.getfield 30, 3) := by decide +kernel
theorem dX10_findWayOver_8 : decode cX10_findWayOver 8 = .ok (.aload_n 0, 1) := by decide +kernel
theorem dX10_findWayOver_9 : decode cX10_findWayOver 9 = .ok (.getfield 72, 3) := by decide +kernel
theorem dX10_findWayOver_12 : decode cX10_findWayOver 12 = .ok (.getfield 232, 3) := by decide +kernel
theorem dX10_findWayOver_15 : decode cX10_findWayOver 15 = .ok (.invokevirtual 235, 3) := by decide +kernel
theorem dX10_findWayOver_18 : decode cX10_findWayOver 18 = .ok (.iload_n 1, 1) := by decide +kernel
theorem dX10_findWayOver_19 : decode cX10_findWayOver 19 = .ok (.ifCond .ne 21, 3) := by decide +kernel
theorem dX10_findWayOver_22 : decode cX10_findWayOver 22 = .ok (.aload_n 0, 1) := by decide +kernel
theorem dX10_findWayOver_23 : decode cX10_findWayOver 23 = .ok (.getfield 72, 3) := by decide +kernel
theorem dX10_findWayOver_26 : decode cX10_findWayOver 26 = .ok (.aload_n 0, 1) := by decide +kernel
theorem dX10_findWayOver_27 : decode cX10_findWayOver 27 = .ok (.getfield 30, 3) := by decide +kernel
theorem dX10_findWayOver_30 : decode cX10_findWayOver 30 = .ok (.iconst 1, 1) := by decide +kernel
theorem dX10_findWayOver_31 : decode cX10_findWayOver 31 = .ok (.sipush 10000, 3) := by decide +kernel
theorem dX10_findWayOver_34 : decode cX10_findWayOver 34 = .ok (.invokevirtual 239, 3) := by decide +kernel
theorem dX10_findWayOver_37 : decode cX10_findWayOver 37 = .ok (.goto 18, 3) := by decide +kernel
theorem dX10_findWayOver_40 : decode cX10_findWayOver 40 = .ok (.aload_n 0, 1) := by decide +kernel
theorem dX10_findWayOver_41 : decode cX10_findWayOver 41 = .ok (.getfield 72, 3) := by decide +kernel
theorem dX10_findWayOver_44 : decode cX10_findWayOver 44 = .ok (.aload_n 0, 1) := by decide +kernel
theorem dX10_findWayOver_45 : decode cX10_findWayOver 45 = .ok (.getfield 30, 3) := by decide +kernel
theorem dX10_findWayOver_48 : decode cX10_findWayOver 48 = .ok (.sipush 1000, 3) := by decide +kernel
theorem dX10_findWayOver_51 : decode cX10_findWayOver 51 = .ok (.iconst 1, 1) := by decide +kernel
theorem dX10_findWayOver_52 : decode cX10_findWayOver 52 = .ok (.invokevirtual 239, 3) := by decide +kernel
theorem dX10_findWayOver_55 : decode cX10_findWayOver 55 = .ok (.ireturn, 1) := by decide +kernel
theorem dX10_lack_0 : decode cX10_lack 0 = .ok (.iload_n 1, 1) := by decide +kernel
theorem dX10_lack_1 : decode cX10_lack 1 = .ok (.ifCond .lt 8, 3) := by decide +kernel
theorem dX10_lack_4 : decode cX10_lack 4 = .ok (.iload_n 1, 1) := by decide +kernel
theorem dX10_lack_5 : decode cX10_lack 5 = .ok (.iconst 1, 1) := by decide +kernel
theorem dX10_lack_6 : decode cX10_lack 6 = .ok (.if_icmp .le 5, 3) := by decide +kernel
theorem dX10_lack_9 : decode cX10_lack 9 = .ok (.iconst (-1), 1) := by decide +kernel
theorem dX10_lack_10 : decode cX10_lack 10 = .ok (.ireturn, 1) := by decide +kernel
theorem dX10_lack_11 : decode cX10_lack 11 = .ok (.aload_n 0, 1) := by decide +kernel
theorem dX10_lack_12 : decode cX10_lack 12 = .ok (.invokevirtual 243, 3) := by decide +kernel
theorem dX10_lack_15 : decode cX10_lack 15 = .ok (.iload_n 1, 1) := by decide +kernel
theorem dX10_lack_16 : decode cX10_lack 16 = .ok (.ifCond .ne 13, 3) := by decide +kernel
theorem dX10_lack_19 : decode cX10_lack 19 = .ok (.aload_n 0, 1) := by decide +kernel
theorem dX10_lack_20 : decode cX10_lack 20 = .ok (.getfield 72, 3) := by decide +kernel
theorem dX10_lack_23 : decode cX10_lack 23 = .ok (.invokevirtual 225, 3) := by decide +kernel
theorem dX10_lack_26 : decode cX10_lack 26 = .ok (.goto 10, 3) := by decide +kernel
theorem dX10_lack_29 : decode cX10_lack 29 = .ok (.aload_n 0, 1) := by decide +kernel
theorem dX10_lack_30 : decode cX10_lack 30 = .ok (.getfield 72, 3) := by decide +kernel
theorem dX10_lack_33 : decode cX10_lack 33 = .ok (.invokevirtual 222, 3) := by decide +kernel
theorem dX10_lack_36 : decode cX10_lack 36 = .ok (.ireturn, 1) := by decide +kernel
theorem dX10_lackAt_0 : decode cX10_lackAt 0 = .ok (.iload_n 1, 1) := by decide +kernel
theorem dX10_lackAt_1 : decode cX10_lackAt 1 = .ok (.ifCond .ge 5, 3) := by decide +kernel
theorem dX10_lackAt_4 : decode cX10_lackAt 4 = .ok (.iconst (-1), 1) := by decide +kernel
theorem dX10_lackAt_5 : decode cX10_lackAt 5 = .ok (.ireturn, 1) := by decide +kernel
theorem dX10_lackAt_6 : decode cX10_lackAt 6 = .ok (.aload_n 0, 1) := by decide +kernel
theorem dX10_lackAt_7 : decode cX10_lackAt 7 = .ok (.invokevirtual 243, 3) := by decide +kernel
theorem dX10_lackAt_10 : decode cX10_lackAt 10 = .ok (.iload_n 1, 1) := by decide +kernel
theorem dX10_lackAt_11 : decode cX10_lackAt 11 = .ok (.aload_n 0, 1) := by decide +kernel
theorem dX10_lackAt_12 : decode cX10_lackAt 12 = .ok (.getfield 72, 3) := by decide +kernel
theorem dX10_lackAt_15 : decode cX10_lackAt 15 = .ok (.getfield 228, 3) := by decide +kernel
theorem dX10_lackAt_18 : decode cX10_lackAt 18 = .ok (.if_icmp .ge 18, 3) := by decide +kernel
theorem dX10_lackAt_21 : decode cX10_lackAt 21 = .ok (.aload_n 0, 1) := by decide +kernel
theorem dX10_lackAt_22 : decode cX10_lackAt 22 = .ok (.getfield 72, 3) := by decide +kernel
theorem dX10_lackAt_25 : decode cX10_lackAt 25 = .ok (.getfield 229, 3) := by decide +kernel
theorem dX10_lackAt_28 : decode cX10_lackAt 28 = .ok (.iload_n 1, 1) := by decide +kernel
theorem dX10_lackAt_29 : decode cX10_lackAt 29 = .ok (.iaload, 1) := by decide +kernel
theorem dX10_lackAt_30 : decode cX10_lackAt 30 = .ok (.invokestatic 205, 3) := by decide +kernel
theorem dX10_lackAt_33 : decode cX10_lackAt 33 = .ok (.goto 4, 3) := by decide +kernel
theorem dX10_lackAt_36 : decode cX10_lackAt 36 = .ok (.iconst (-1), 1) := by decide +kernel
theorem dX10_lackAt_37 : decode cX10_lackAt 37 = .ok (.ireturn, 1) := by decide +kernel
theorem dX10_grief_0 : decode cX10_grief 0 = .ok (.aload_n 0, 1) := by decide +kernel
theorem dX10_grief_1 : decode cX10_grief 1 = .ok (.invokevirtual 246, 3) := by decide +kernel
theorem dX10_grief_4 : decode cX10_grief 4 = .ok (.ifCond .eq 13, 3) := by decide +kernel
theorem dX10_grief_7 : decode cX10_grief 7 = .ok (.aload_n 0, 1) := by decide +kernel
theorem dX10_grief_8 : decode cX10_grief 8 = .ok (.getfield 86, 3) := by decide +kernel
theorem dX10_grief_11 : decode cX10_grief 11 = .ok (.invokevirtual 250, 3) := by decide +kernel
theorem dX10_grief_14 : decode cX10_grief 14 = .ok (.goto 5, 3) := by decide +kernel
theorem dX10_grief_17 : decode cX10_grief 17 = .ok (.bipush (-2), 2) := by decide +kernel
theorem dX10_grief_19 : decode cX10_grief 19 = .ok (.ireturn, 1) := by decide +kernel
theorem dX10_gives_0 : decode cX10_gives 0 = .ok (.aload_n 0, 1) := by decide +kernel
theorem dX10_gives_1 : decode cX10_gives 1 = .ok (.iload_n 1, 1) := by decide +kernel
theorem dX10_gives_2 : decode cX10_gives 2 = .ok (.invokevirtual 144, 3) := by decide +kernel
theorem dX10_gives_5 : decode cX10_gives 5 = .ok (.ifCond .ne 5, 3) := by decide +kernel
theorem dX10_gives_8 : decode cX10_gives 8 = .ok (.iconst (-1), 1) := by decide +kernel
theorem dX10_gives_9 : decode cX10_gives 9 = .ok (.ireturn, 1) := by decide +kernel
theorem dX10_gives_10 : decode cX10_gives 10 = .ok (.aload_n 0, 1) := by decide +kernel
theorem dX10_gives_11 : decode cX10_gives 11 = .ok (.invokevirtual 246, 3) := by decide +kernel
theorem dX10_gives_14 : decode cX10_gives 14 = .ok (.ifCond .eq 15, 3) := by decide +kernel
theorem dX10_gives_17 : decode cX10_gives 17 = .ok (.aload_n 0, 1) := by decide +kernel
theorem dX10_gives_18 : decode cX10_gives 18 = .ok (.getfield 86, 3) := by decide +kernel
theorem dX10_gives_21 : decode cX10_gives 21 = .ok (.getfield 251, 3) := by decide +kernel
theorem dX10_gives_24 : decode cX10_gives 24 = .ok (.iload_n 1, 1) := by decide +kernel
theorem dX10_gives_25 : decode cX10_gives 25 = .ok (.iaload, 1) := by decide +kernel
theorem dX10_gives_26 : decode cX10_gives 26 = .ok (.goto 5, 3) := by decide +kernel
theorem dX10_gives_29 : decode cX10_gives 29 = .ok (.bipush (-2), 2) := by decide +kernel
theorem dX10_gives_31 : decode cX10_gives 31 = .ok (.ireturn, 1) := by decide +kernel
theorem dX10_findLack_0 : decode cX10_findLack 0 = .ok (.aload_n 0, 1) := by decide +kernel
theorem dX10_findLack_1 : decode cX10_findLack 1 = .ok (.getfield 40, 3) := by decide +kernel
theorem dX10_findLack_4 : decode cX10_findLack 4 = .ok (.aload_n 0, 1) := by decide +kernel
theorem dX10_findLack_5 : decode cX10_findLack 5 = .ok (.getfield 30, 3) := by decide +kernel
theorem dX10_findLack_8 : decode cX10_findLack 8 = .ok (.aload_n 0, 1) := by decide +kernel
theorem dX10_findLack_9 : decode cX10_findLack 9 = .ok (.getfield 72, 3) := by decide +kernel
theorem dX10_findLack_12 : decode cX10_findLack 12 = .ok (.getfield 232, 3) := by decide +kernel
theorem dX10_findLack_15 : decode cX10_findLack 15 = .ok (.invokevirtual 254, 3) := by decide +kernel
theorem dX10_findLack_18 : decode cX10_findLack 18 = .ok (.aload_n 0, 1) := by decide +kernel
theorem dX10_findLack_19 : decode cX10_findLack 19 = .ok (.getfield 72, 3) := by decide +kernel
theorem dX10_findLack_22 : decode cX10_findLack 22 = .ok (.aload_n 0, 1) := by decide +kernel
theorem dX10_findLack_23 : decode cX10_findLack 23 = .ok (.getfield 30, 3) := by decide +kernel
theorem dX10_findLack_26 : decode cX10_findLack 26 = .ok (.sipush 1000, 3) := by decide +kernel
theorem dX10_findLack_29 : decode cX10_findLack 29 = .ok (.iconst 1, 1) := by decide +kernel
theorem dX10_findLack_30 : decode cX10_findLack 30 = .ok (.invokevirtual 239, 3) := by decide +kernel
theorem dX10_findLack_33 : decode cX10_findLack 33 = .ok (.pop, 1) := by decide +kernel
theorem dX10_findLack_34 : decode cX10_findLack 34 = .ok (.return_, 1) := by decide +kernel
theorem dX10_findGivers_0 : decode cX10_findGivers 0 = .ok (.aload_n 0, 1) := by decide +kernel
theorem dX10_findGivers_1 : decode cX10_findGivers 1 = .ok (.invokevirtual 243, 3) := by decide +kernel
theorem dX10_findGivers_4 : decode cX10_findGivers 4 = .ok (.aload_n 0, 1) := by decide +kernel
theorem dX10_findGivers_5 : decode cX10_findGivers 5 = .ok (.getfield 86, 3) := by decide +kernel
theorem dX10_findGivers_8 : decode cX10_findGivers 8 = .ok (.aload_n 0, 1) := by decide +kernel
theorem dX10_findGivers_9 : decode cX10_findGivers 9 = .ok (.getfield 30, 3) := by decide +kernel
theorem dX10_findGivers_12 : decode cX10_findGivers 12 = .ok (.aload_n 0, 1) := by decide +kernel
theorem dX10_findGivers_13 : decode cX10_findGivers 13 = .ok (.getfield 40, 3) := by decide +kernel
theorem dX10_findGivers_16 : decode cX10_findGivers 16 = .ok (.aload_n 0, 1) := by decide +kernel
theorem dX10_findGivers_17 : decode cX10_findGivers 17 = .ok (.getfield 72, 3) := by decide +kernel
theorem dX10_findGivers_20 : decode cX10_findGivers 20 = .ok (.invokevirtual 257, 3) := by decide +kernel
theorem dX10_findGivers_23 : decode cX10_findGivers 23 = .ok (.ireturn, 1) := by decide +kernel
theorem dX10_needed_0 : decode cX10_needed 0 = .ok (.aload_n 0, 1) := by decide +kernel
theorem dX10_needed_1 : decode cX10_needed 1 = .ok (.aload_n 0, 1) := by decide +kernel
theorem dX10_needed_2 : decode cX10_needed 2 = .ok (.getfield 40, 3) := by decide +kernel
theorem dX10_needed_5 : decode cX10_needed 5 = .ok (.invokevirtual 261, 3) := by decide +kernel
theorem dX10_needed_8 : decode cX10_needed 8 = .ok (.ifCond .ne 5, 3) := by decide +kernel
theorem dX10_needed_11 : decode cX10_needed 11 = .ok (.iconst 0, 1) := by decide +kernel
theorem dX10_needed_12 : decode cX10_needed 12 = .ok (.ireturn, 1) := by decide +kernel
theorem dX10_needed_13 : decode cX10_needed 13 = .ok (.iconst 0, 1) := by decide +kernel
theorem dX10_needed_14 : decode cX10_needed 14 = .ok (.istore_n 1, 1) := by decide +kernel
theorem dX10_needed_15 : decode cX10_needed 15 = .ok (.iconst 0, 1) := by decide +kernel
theorem dX10_needed_16 : decode cX10_needed 16 = .ok (.istore_n 2, 1) := by decide +kernel
theorem dX10_needed_17 : decode cX10_needed 17 = .ok (.iload_n 2, 1) := by decide +kernel
theorem dX10_needed_18 : decode cX10_needed 18 = .ok (.aload_n 0, 1) := by decide +kernel
theorem dX10_needed_19 : decode cX10_needed 19 = .ok (.getfield 30, 3) := by decide +kernel
theorem dX10_needed_22 : decode cX10_needed 22 = .ok (.getfield 172, 3) := by decide +kernel
theorem dX10_needed_25 : decode cX10_needed 25 = .ok (.if_icmp .ge 48, 3) := by decide +kernel
theorem dX10_needed_28 : decode cX10_needed 28 = .ok (.aload_n 0, 1) := by decide +kernel
theorem dX10_needed_29 : decode cX10_needed 29 = .ok (.getfield 40, 3) := by decide +kernel
theorem dX10_needed_32 : decode cX10_needed 32 = .ok (.aload_n 0, 1) := by decide +kernel
theorem dX10_needed_33 : decode cX10_needed 33 = .ok (.getfield 30, 3) := by decide +kernel
theorem dX10_needed_36 : decode cX10_needed 36 = .ok (.iload_n 2, 1) := by decide +kernel
theorem dX10_needed_37 : decode cX10_needed 37 = .ok (.aload_n 0, 1) := by decide +kernel
theorem dX10_needed_38 : decode cX10_needed 38 = .ok (.getfield 72, 3) := by decide +kernel
theorem dX10_needed_41 : decode cX10_needed 41 = .ok (.getfield 232, 3) := by decide +kernel
theorem dX10_needed_44 : decode cX10_needed 44 = .ok (.invokevirtual 264, 3) := by decide +kernel
theorem dX10_needed_47 : decode cX10_needed 47 = .ok (.aload_n 0, 1) := by decide +kernel
theorem dX10_needed_48 : decode cX10_needed 48 = .ok (.getfield 72, 3) := by decide +kernel
theorem dX10_needed_51 : decode cX10_needed 51 = .ok (.aload_n 0, 1) := by decide +kernel
theorem dX10_needed_52 : decode cX10_needed 52 = .ok (.getfield 30, 3) := by decide +kernel
theorem dX10_needed_55 : decode cX10_needed 55 = .ok (.invokevirtual 268, 3) := by decide +kernel
theorem dX10_needed_58 : decode cX10_needed 58 = .ok (.ifCond .ne 9, 3) := by decide +kernel
theorem dX10_needed_61 : decode cX10_needed 61 = .ok (.iload_n 1, 1) := by decide +kernel
theorem dX10_needed_62 : decode cX10_needed 62 = .ok (.iconst 1, 1) := by decide +kernel
theorem dX10_needed_63 : decode cX10_needed 63 = .ok (.iload_n 2, 1) := by decide +kernel
theorem dX10_needed_64 : decode cX10_needed 64 = .ok (.ishl, 1) := by decide +kernel
theorem dX10_needed_65 : decode cX10_needed 65 = .ok (.ior, 1) := by decide +kernel
theorem dX10_needed_66 : decode cX10_needed 66 = .ok (.istore_n 1, 1) := by decide +kernel
theorem dX10_needed_67 : decode cX10_needed 67 = .ok (.iinc 2 1, 3) := by decide +kernel
theorem dX10_needed_70 : decode cX10_needed 70 = .ok (.goto (-53), 3) := by decide +kernel
theorem dX10_needed_73 : decode cX10_needed 73 = .ok (.iload_n 1, 1) := by decide +kernel
theorem dX10_needed_74 : decode cX10_needed 74 = .ok (.ireturn, 1) := by decide +kernel
theorem dX10_alone_0 : decode cX10_alone 0 = .ok (.iconst 0, 1) := by decide +kernel
theorem dX10_alone_1 : decode cX10_alone 1 = .ok (.istore_n 1, 1) := by decide +kernel
theorem dX10_alone_2 : decode cX10_alone 2 = .ok (.iconst 0, 1) := by decide +kernel
theorem dX10_alone_3 : decode cX10_alone 3 = .ok (.istore_n 2, 1) := by decide +kernel
theorem dX10_alone_4 : decode cX10_alone 4 = .ok (.iload_n 2, 1) := by decide +kernel
theorem dX10_alone_5 : decode cX10_alone 5 = .ok (.aload_n 0, 1) := by decide +kernel
theorem dX10_alone_6 : decode cX10_alone 6 = .ok (.getfield 30, 3) := by decide +kernel
theorem dX10_alone_9 : decode cX10_alone 9 = .ok (.getfield 172, 3) := by decide +kernel
theorem dX10_alone_12 : decode cX10_alone 12 = .ok (.if_icmp .ge 48, 3) := by decide +kernel
theorem dX10_alone_15 : decode cX10_alone 15 = .ok (.aload_n 0, 1) := by decide +kernel
theorem dX10_alone_16 : decode cX10_alone 16 = .ok (.getfield 40, 3) := by decide +kernel
theorem dX10_alone_19 : decode cX10_alone 19 = .ok (.aload_n 0, 1) := by decide +kernel
theorem dX10_alone_20 : decode cX10_alone 20 = .ok (.getfield 30, 3) := by decide +kernel
theorem dX10_alone_23 : decode cX10_alone 23 = .ok (.iload_n 2, 1) := by decide +kernel
theorem dX10_alone_24 : decode cX10_alone 24 = .ok (.aload_n 0, 1) := by decide +kernel
theorem dX10_alone_25 : decode cX10_alone 25 = .ok (.getfield 72, 3) := by decide +kernel
theorem dX10_alone_28 : decode cX10_alone 28 = .ok (.getfield 232, 3) := by decide +kernel
theorem dX10_alone_31 : decode cX10_alone 31 = .ok (.invokevirtual 272, 3) := by decide +kernel
theorem dX10_alone_34 : decode cX10_alone 34 = .ok (.aload_n 0, 1) := by decide +kernel
theorem dX10_alone_35 : decode cX10_alone 35 = .ok (.getfield 72, 3) := by decide +kernel
theorem dX10_alone_38 : decode cX10_alone 38 = .ok (.aload_n 0, 1) := by decide +kernel
theorem dX10_alone_39 : decode cX10_alone 39 = .ok (.getfield 30, 3) := by decide +kernel
theorem dX10_alone_42 : decode cX10_alone 42 = .ok (.invokevirtual 268, 3) := by decide +kernel
theorem dX10_alone_45 : decode cX10_alone 45 = .ok (.ifCond .eq 9, 3) := by decide +kernel
theorem dX10_alone_48 : decode cX10_alone 48 = .ok (.iload_n 1, 1) := by decide +kernel
theorem dX10_alone_49 : decode cX10_alone 49 = .ok (.iconst 1, 1) := by decide +kernel
theorem dX10_alone_50 : decode cX10_alone 50 = .ok (.iload_n 2, 1) := by decide +kernel
theorem dX10_alone_51 : decode cX10_alone 51 = .ok (.ishl, 1) := by decide +kernel
theorem dX10_alone_52 : decode cX10_alone 52 = .ok (.ior, 1) := by decide +kernel
theorem dX10_alone_53 : decode cX10_alone 53 = .ok (.istore_n 1, 1) := by decide +kernel
theorem dX10_alone_54 : decode cX10_alone 54 = .ok (.iinc 2 1, 3) := by decide +kernel
theorem dX10_alone_57 : decode cX10_alone 57 = .ok (.goto (-53), 3) := by decide +kernel
theorem dX10_alone_60 : decode cX10_alone 60 = .ok (.iload_n 1, 1) := by decide +kernel
theorem dX10_alone_61 : decode cX10_alone 61 = .ok (.ireturn, 1) := by decide +kernel
theorem dX10_breaks_0 : decode cX10_breaks 0 = .ok (.aload_n 0, 1) := by decide +kernel
theorem dX10_breaks_1 : decode cX10_breaks 1 = .ok (.aload_n 0, 1) := by decide +kernel
theorem dX10_breaks_2 : decode cX10_breaks 2 = .ok (.getfield 40, 3) := by decide +kernel
theorem dX10_breaks_5 : decode cX10_breaks 5 = .ok (.invokevirtual 261, 3) := by decide +kernel
theorem dX10_breaks_8 : decode cX10_breaks 8 = .ok (.ifCond .ne 6, 3) := by decide +kernel
theorem dX10_breaks_11 : decode cX10_breaks 11 = .ok (.bipush (-3), 2) := by decide +kernel
theorem dX10_breaks_13 : decode cX10_breaks 13 = .ok (.ireturn, 1) := by decide +kernel
theorem dX10_breaks_14 : decode cX10_breaks 14 = .ok (.aload_n 0, 1) := by decide +kernel
theorem dX10_breaks_15 : decode cX10_breaks 15 = .ok (.getfield 44, 3) := by decide +kernel
theorem dX10_breaks_18 : decode cX10_breaks 18 = .ok (.aload_n 0, 1) := by decide +kernel
theorem dX10_breaks_19 : decode cX10_breaks 19 = .ok (.getfield 40, 3) := by decide +kernel
theorem dX10_breaks_22 : decode cX10_breaks 22 = .ok (.invokevirtual 216, 3) := by decide +kernel
theorem dX10_breaks_25 : decode cX10_breaks 25 = .ok (.iconst 0, 1) := by decide +kernel
theorem dX10_breaks_26 : decode cX10_breaks 26 = .ok (.istore_n 1, 1) := by decide +kernel
theorem dX10_breaks_27 : decode cX10_breaks 27 = .ok (.iload_n 1, 1) := by decide +kernel
theorem dX10_breaks_28 : decode cX10_breaks 28 = .ok (.sipush 200, 3) := by decide +kernel
theorem dX10_breaks_31 : decode cX10_breaks 31 = .ok (.if_icmp .ge 52, 3) := by decide +kernel
theorem dX10_breaks_34 : decode cX10_breaks 34 = .ok (.aload_n 0, 1) := by decide +kernel
theorem dX10_breaks_35 : decode cX10_breaks 35 = .ok (.getfield 44, 3) := by decide +kernel
theorem dX10_breaks_38 : decode cX10_breaks 38 = .ok (.getfield 178, 3) := by decide +kernel
theorem dX10_breaks_41 : decode cX10_breaks 41 = .ok (.istore_n 2, 1) := by decide +kernel
theorem dX10_breaks_42 : decode cX10_breaks 42 = .ok (.aload_n 0, 1) := by decide +kernel
theorem dX10_breaks_43 : decode cX10_breaks 43 = .ok (.getfield 44, 3) := by decide +kernel
theorem dX10_breaks_46 : decode cX10_breaks 46 = .ok (.aload_n 0, 1) := by decide +kernel
theorem dX10_breaks_47 : decode cX10_breaks 47 = .ok (.getfield 30, 3) := by decide +kernel
theorem dX10_breaks_50 : decode cX10_breaks 50 = .ok (.iconst 0, 1) := by decide +kernel
theorem dX10_breaks_51 : decode cX10_breaks 51 = .ok (.aload_n 0, 1) := by decide +kernel
theorem dX10_breaks_52 : decode cX10_breaks 52 = .ok (.getfield 30, 3) := by decide +kernel
theorem dX10_breaks_55 : decode cX10_breaks 55 = .ok (.getfield 166, 3) := by decide +kernel
theorem dX10_breaks_58 : decode cX10_breaks 58 = .ok (.invokevirtual 275, 3) := by decide +kernel
theorem dX10_breaks_61 : decode cX10_breaks 61 = .ok (.ifCond .eq 16, 3) := by decide +kernel
theorem dX10_breaks_64 : decode cX10_breaks 64 = .ok (.aload_n 0, 1) := by decide +kernel
theorem dX10_breaks_65 : decode cX10_breaks 65 = .ok (.aload_n 0, 1) := by decide +kernel
theorem dX10_breaks_66 : decode cX10_breaks 66 = .ok (.getfield 44, 3) := by decide +kernel
theorem dX10_breaks_69 : decode cX10_breaks 69 = .ok (.invokevirtual 261, 3) := by decide +kernel
theorem dX10_breaks_72 : decode cX10_breaks 72 = .ok (.ifCond .ne 5, 3) := by decide +kernel
theorem dX10_breaks_75 : decode cX10_breaks 75 = .ok (.iload_n 2, 1) := by decide +kernel
theorem dX10_breaks_76 : decode cX10_breaks 76 = .ok (.ireturn, 1) := by decide +kernel
theorem dX10_breaks_77 : decode cX10_breaks 77 = .ok (.iinc 1 1, 3) := by decide +kernel
theorem dX10_breaks_80 : decode cX10_breaks 80 = .ok (.goto (-53), 3) := by decide +kernel
theorem dX10_breaks_83 : decode cX10_breaks 83 = .ok (.bipush (-2), 2) := by decide +kernel
theorem dX10_breaks_85 : decode cX10_breaks 85 = .ok (.ireturn, 1) := by decide +kernel
theorem dX10_fords_0 : decode cX10_fords 0 = .ok (.aload_n 0, 1) := by decide +kernel
theorem dX10_fords_1 : decode cX10_fords 1 = .ok (.getfield 30, 3) := by decide +kernel
theorem dX10_fords_4 : decode cX10_fords 4 = .ok (.invokevirtual 278, 3) := by decide +kernel
theorem dX10_fords_7 : decode cX10_fords 7 = .ok (.ifCond .eq 6, 3) := by decide +kernel
theorem dX10_fords_10 : decode cX10_fords 10 = .ok (.bipush (-2), 2) := by decide +kernel
theorem dX10_fords_12 : decode cX10_fords 12 = .ok (.ireturn, 1) := by decide +kernel
theorem dX10_fords_13 : decode cX10_fords 13 = .ok (.aload_n 0, 1) := by decide +kernel
theorem dX10_fords_14 : decode cX10_fords 14 = .ok (.getfield 40, 3) := by decide +kernel
theorem dX10_fords_17 : decode cX10_fords 17 = .ok (.aload_n 0, 1) := by decide +kernel
theorem dX10_fords_18 : decode cX10_fords 18 = .ok (.getfield 30, 3) := by decide +kernel
theorem dX10_fords_21 : decode cX10_fords 21 = .ok (.aload_n 0, 1) := by decide +kernel
theorem dX10_fords_22 : decode cX10_fords 22 = .ok (.getfield 72, 3) := by decide +kernel
theorem dX10_fords_25 : decode cX10_fords 25 = .ok (.getfield 232, 3) := by decide +kernel
theorem dX10_fords_28 : decode cX10_fords 28 = .ok (.invokevirtual 281, 3) := by decide +kernel
theorem dX10_fords_31 : decode cX10_fords 31 = .ok (.aload_n 0, 1) := by decide +kernel
theorem dX10_fords_32 : decode cX10_fords 32 = .ok (.getfield 79, 3) := by decide +kernel
theorem dX10_fords_35 : decode cX10_fords 35 = .ok (.aload_n 0, 1) := by decide +kernel
theorem dX10_fords_36 : decode cX10_fords 36 = .ok (.getfield 30, 3) := by decide +kernel
theorem dX10_fords_39 : decode cX10_fords 39 = .ok (.aload_n 0, 1) := by decide +kernel
theorem dX10_fords_40 : decode cX10_fords 40 = .ok (.getfield 72, 3) := by decide +kernel
theorem dX10_fords_43 : decode cX10_fords 43 = .ok (.getfield 232, 3) := by decide +kernel
theorem dX10_fords_46 : decode cX10_fords 46 = .ok (.invokevirtual 284, 3) := by decide +kernel
theorem dX10_fords_49 : decode cX10_fords 49 = .ok (.ireturn, 1) := by decide +kernel
theorem dX10_isWayOver_0 : decode cX10_isWayOver 0 = .ok (.aload_n 1, 1) := by decide +kernel
theorem dX10_isWayOver_1 : decode cX10_isWayOver 1 = .ok (.aload_n 0, 1) := by decide +kernel
theorem dX10_isWayOver_2 : decode cX10_isWayOver 2 = .ok (.getfield 30, 3) := by decide +kernel
theorem dX10_isWayOver_5 : decode cX10_isWayOver 5 = .ok (.aload_n 0, 1) := by decide +kernel
theorem dX10_isWayOver_6 : decode cX10_isWayOver 6 = .ok (.getfield 72, 3) := by decide +kernel
theorem dX10_isWayOver_9 : decode cX10_isWayOver 9 = .ok (.getfield 232, 3) := by decide +kernel
theorem dX10_isWayOver_12 : decode cX10_isWayOver 12 = .ok (.invokevirtual 281, 3) := by decide +kernel
theorem dX10_isWayOver_15 : decode cX10_isWayOver 15 = .ok (.aload_n 0, 1) := by decide +kernel
theorem dX10_isWayOver_16 : decode cX10_isWayOver 16 = .ok (.getfield 72, 3) := by decide +kernel
theorem dX10_isWayOver_19 : decode cX10_isWayOver 19 = .ok (.aload_n 0, 1) := by decide +kernel
theorem dX10_isWayOver_20 : decode cX10_isWayOver 20 = .ok (.getfield 30, 3) := by decide +kernel
theorem dX10_isWayOver_23 : decode cX10_isWayOver 23 = .ok (.invokevirtual 268, 3) := by decide +kernel
theorem dX10_isWayOver_26 : decode cX10_isWayOver 26 = .ok (.ireturn, 1) := by decide +kernel
theorem dX10_tell_0 : decode cX10_tell 0 = .ok (.aload_n 0, 1) := by decide +kernel
theorem dX10_tell_1 : decode cX10_tell 1 = .ok (.getfield 112, 3) := by decide +kernel
theorem dX10_tell_4 : decode cX10_tell 4 = .ok (.bipush 20, 2) := by decide +kernel
theorem dX10_tell_6 : decode cX10_tell 6 = .ok (.if_icmp .ge 25, 3) := by decide +kernel
theorem dX10_tell_9 : decode cX10_tell 9 = .ok (.aload_n 0, 1) := by decide +kernel
theorem dX10_tell_10 : decode cX10_tell 10 = .ok (.getfield 30, 3) := by decide +kernel
theorem dX10_tell_13 : decode cX10_tell 13 = .ok (.iload_n 1, 1) := by decide +kernel
theorem dX10_tell_14 : decode cX10_tell 14 = .ok (.iload_n 2, 1) := by decide +kernel
theorem dX10_tell_15 : decode cX10_tell 15 = .ok (.invokevirtual 115, 3) := by decide +kernel
theorem dX10_tell_18 : decode cX10_tell 18 = .ok (.ifCond .eq 13, 3) := by decide +kernel
theorem dX10_tell_21 : decode cX10_tell 21 = .ok (.iload_n 3, 1) := by decide +kernel
theorem dX10_tell_22 : decode cX10_tell 22 = .ok (.ifCond .lt 9, 3) := by decide +kernel
theorem dX10_tell_25 : decode cX10_tell 25 = .ok (.iload_n 3, 1) := by decide +kernel
theorem dX10_tell_26 : decode cX10_tell 26 = .ok (.bipush 99, 2) := by decide +kernel
theorem dX10_tell_28 : decode cX10_tell 28 = .ok (.if_icmp .le 5, 3) := by decide +kernel
theorem dX10_tell_31 : decode cX10_tell 31 = .ok (.iconst (-1), 1) := by decide +kernel
theorem dX10_tell_32 : decode cX10_tell 32 = .ok (.ireturn, 1) := by decide +kernel
theorem dX10_tell_33 : decode cX10_tell 33 = .ok (.aload_n 0, 1) := by decide +kernel
theorem dX10_tell_34 : decode cX10_tell 34 = .ok (.getfield 62, 3) := by decide +kernel
theorem dX10_tell_37 : decode cX10_tell 37 = .ok (.aload_n 0, 1) := by decide +kernel
theorem dX10_tell_38 : decode cX10_tell 38 = .ok (.getfield 112, 3) := by decide +kernel
theorem dX10_tell_41 : decode cX10_tell 41 = .ok (.iload_n 1, 1) := by decide +kernel
theorem dX10_tell_42 : decode cX10_tell 42 = .ok (.iload_n 2, 1) := by decide +kernel
theorem dX10_tell_43 : decode cX10_tell 43 = .ok (.invokestatic 119, 3) := by decide +kernel
theorem dX10_tell_46 : decode cX10_tell 46 = .ok (.iastore, 1) := by decide +kernel
theorem dX10_tell_47 : decode cX10_tell 47 = .ok (.aload_n 0, 1) := by decide +kernel
theorem dX10_tell_48 : decode cX10_tell 48 = .ok (.getfield 66, 3) := by decide +kernel
theorem dX10_tell_51 : decode cX10_tell 51 = .ok (.aload_n 0, 1) := by decide +kernel
theorem dX10_tell_52 : decode cX10_tell 52 = .ok (.getfield 112, 3) := by decide +kernel
theorem dX10_tell_55 : decode cX10_tell 55 = .ok (.iload_n 3, 1) := by decide +kernel
theorem dX10_tell_56 : decode cX10_tell 56 = .ok (.iastore, 1) := by decide +kernel
theorem dX10_tell_57 : decode cX10_tell 57 = .ok (.aload_n 0, 1) := by decide +kernel
theorem dX10_tell_58 : decode cX10_tell 58 = .ok (.dup, 1) := by decide +kernel
theorem dX10_tell_59 : decode cX10_tell 59 = .ok (.getfield 112, 3) := by decide +kernel
theorem dX10_tell_62 : decode cX10_tell 62 = .ok (.iconst 1, 1) := by decide +kernel
theorem dX10_tell_63 : decode cX10_tell 63 = .ok (.iadd, 1) := by decide +kernel
theorem dX10_tell_64 : decode cX10_tell 64 = .ok (.putfield 112, 3) := by decide +kernel
theorem dX10_tell_67 : decode cX10_tell 67 = .ok (.aload_n 0, 1) := by decide +kernel
theorem dX10_tell_68 : decode cX10_tell 68 = .ok (.getfield 112, 3) := by decide +kernel
theorem dX10_tell_71 : decode cX10_tell 71 = .ok (.iconst 1, 1) := by decide +kernel
theorem dX10_tell_72 : decode cX10_tell 72 = .ok (.isub, 1) := by decide +kernel
theorem dX10_tell_73 : decode cX10_tell 73 = .ok (.ireturn, 1) := by decide +kernel
theorem dX10_forget_0 : decode cX10_forget 0 = .ok (.aload_n 0, 1) := by decide +kernel
theorem dX10_forget_1 : decode cX10_forget 1 = .ok (.getfield 112, 3) := by decide +kernel
theorem dX10_forget_4 : decode cX10_forget 4 = .ok (.istore_n 1, 1) := by decide +kernel
theorem dX10_forget_5 : decode cX10_forget 5 = .ok (.aload_n 0, 1) := by decide +kernel
theorem dX10_forget_6 : decode cX10_forget 6 = .ok (.iconst 0, 1) := by decide +kernel
theorem dX10_forget_7 : decode cX10_forget 7 = .ok (.putfield 112, 3) := by decide +kernel
theorem dX10_forget_10 : decode cX10_forget 10 = .ok (.iload_n 1, 1) := by decide +kernel
theorem dX10_forget_11 : decode cX10_forget 11 = .ok (.ireturn, 1) := by decide +kernel
theorem dX10_fits_0 : decode cX10_fits 0 = .ok (.aload_n 0, 1) := by decide +kernel
theorem dX10_fits_1 : decode cX10_fits 1 = .ok (.iload_n 1, 1) := by decide +kernel
theorem dX10_fits_2 : decode cX10_fits 2 = .ok (.invokevirtual 144, 3) := by decide +kernel
theorem dX10_fits_5 : decode cX10_fits 5 = .ok (.ifCond .eq 18, 3) := by decide +kernel
theorem dX10_fits_8 : decode cX10_fits 8 = .ok (.aload_n 0, 1) := by decide +kernel
theorem dX10_fits_9 : decode cX10_fits 9 = .ok (.getfield 40, 3) := by decide +kernel
theorem dX10_fits_12 : decode cX10_fits 12 = .ok (.aload_n 0, 1) := by decide +kernel
theorem dX10_fits_13 : decode cX10_fits 13 = .ok (.getfield 30, 3) := by decide +kernel
theorem dX10_fits_16 : decode cX10_fits 16 = .ok (.iload_n 1, 1) := by decide +kernel
theorem dX10_fits_17 : decode cX10_fits 17 = .ok (.invokevirtual 160, 3) := by decide +kernel
theorem dX10_fits_20 : decode cX10_fits 20 = .ok (.ifCond .ne 5, 3) := by decide +kernel
theorem dX10_fits_23 : decode cX10_fits 23 = .ok (.iconst (-1), 1) := by decide +kernel
theorem dX10_fits_24 : decode cX10_fits 24 = .ok (.ireturn, 1) := by decide +kernel
theorem dX10_fits_25 : decode cX10_fits 25 = .ok (.iload_n 2, 1) := by decide +kernel
theorem dX10_fits_26 : decode cX10_fits 26 = .ok (.ifCond .lt 27, 3) := by decide +kernel
theorem dX10_fits_29 : decode cX10_fits 29 = .ok (.iload_n 2, 1) := by decide +kernel
theorem dX10_fits_30 : decode cX10_fits 30 = .ok (.aload_n 0, 1) := by decide +kernel
theorem dX10_fits_31 : decode cX10_fits 31 = .ok (.getfield 112, 3) := by decide +kernel
theorem dX10_fits_34 : decode cX10_fits 34 = .ok (.if_icmp .gt 19, 3) := by decide +kernel
theorem dX10_fits_37 : decode cX10_fits 37 = .ok (.iload_n 3, 1) := by decide +kernel
theorem dX10_fits_38 : decode cX10_fits 38 = .ok (.ifCond .lt 15, 3) := by decide +kernel
theorem dX10_fits_41 : decode cX10_fits 41 = .ok (.iload_n 3, 1) := by decide +kernel
theorem dX10_fits_42 : decode cX10_fits 42 = .ok (.bipush 60, 2) := by decide +kernel
theorem dX10_fits_44 : decode cX10_fits 44 = .ok (.if_icmp .gt 9, 3) := by decide +kernel
theorem dX10_fits_47 : decode cX10_fits 47 = .ok (.iload 4, 2) := by decide +kernel
theorem dX10_fits_49 : decode cX10_fits 49 = .ok (.iconst (-1), 1) := by decide +kernel
theorem dX10_fits_50 : decode cX10_fits 50 = .ok (.if_icmp .ge 5, 3) := by decide +kernel
theorem dX10_fits_53 : decode cX10_fits 53 = .ok (.iconst (-1), 1) := by decide +kernel
theorem dX10_fits_54 : decode cX10_fits 54 = .ok (.ireturn, 1) := by decide +kernel
theorem dX10_fits_55 : decode cX10_fits 55 = .ok (.aload_n 0, 1) := by decide +kernel
theorem dX10_fits_56 : decode cX10_fits 56 = .ok (.iload_n 2, 1) := by decide +kernel
theorem dX10_fits_57 : decode cX10_fits 57 = .ok (.iload_n 3, 1) := by decide +kernel
theorem dX10_fits_58 : decode cX10_fits 58 = .ok (.invokevirtual 288, 3) := by decide +kernel
theorem dX10_fits_61 : decode cX10_fits 61 = .ok (.istore 5, 2) := by decide +kernel
theorem dX10_fits_63 : decode cX10_fits 63 = .ok (.iconst 0, 1) := by decide +kernel
theorem dX10_fits_64 : decode cX10_fits 64 = .ok (.istore 6, 2) := by decide +kernel
theorem dX10_fits_66 : decode cX10_fits 66 = .ok (.iconst 0, 1) := by decide +kernel
theorem dX10_fits_67 : decode cX10_fits 67 = .ok (.istore 7, 2) := by decide +kernel
theorem dX10_fits_69 : decode cX10_fits 69 = .ok (.iload 7, 2) := by decide +kernel
theorem dX10_fits_71 : decode cX10_fits 71 = .ok (.aload_n 0, 1) := by decide +kernel
theorem dX10_fits_72 : decode cX10_fits 72 = .ok (.getfield 30, 3) := by decide +kernel
theorem dX10_fits_75 : decode cX10_fits 75 = .ok (.getfield 166, 3) := by decide +kernel
theorem dX10_fits_78 : decode cX10_fits 78 = .ok (.if_icmp .ge 83, 3) := by decide +kernel
theorem dX10_fits_81 : decode cX10_fits 81 = .ok (.iload 5, 2) := by decide +kernel
theorem dX10_fits_83 : decode cX10_fits 83 = .ok (.iconst 1, 1) := by decide +kernel
theorem dX10_fits_84 : decode cX10_fits 84 = .ok (.iload 7, 2) := by decide +kernel
theorem dX10_fits_86 : decode cX10_fits 86 = .ok (.ishl, 1) := by decide +kernel
theorem dX10_fits_87 : decode cX10_fits 87 = .ok (.iconst (-1), 1) := by decide +kernel
theorem dX10_fits_88 : decode cX10_fits 88 = .ok (.ixor, 1) := by decide +kernel
theorem dX10_fits_89 : decode cX10_fits 89 = .ok (.iand, 1) := by decide +kernel
theorem dX10_fits_90 : decode cX10_fits 90 = .ok (.ifCond .eq 6, 3) := by decide +kernel
theorem dX10_fits_93 : decode cX10_fits 93 = .ok (.goto 62, 3) := by decide +kernel
theorem dX10_fits_96 : decode cX10_fits 96 = .ok (.iconst 0, 1) := by decide +kernel
theorem dX10_fits_97 : decode cX10_fits 97 = .ok (.istore 8, 2) := by decide +kernel
theorem dX10_fits_99 : decode cX10_fits 99 = .ok (.iload 8, 2) := by decide +kernel
theorem dX10_fits_101 : decode cX10_fits 101 = .ok (.aload_n 0, 1) := by decide +kernel
theorem dX10_fits_102 : decode cX10_fits 102 = .ok (.getfield 30, 3) := by decide +kernel
theorem dX10_fits_105 : decode cX10_fits 105 = .ok (.getfield 163, 3) := by decide +kernel
theorem dX10_fits_108 : decode cX10_fits 108 = .ok (.if_icmp .ge 47, 3) := by decide +kernel
theorem dX10_fits_111 : decode cX10_fits 111 = .ok (.aload_n 0, 1) := by decide +kernel
theorem dX10_fits_112 : decode cX10_fits 112 = .ok (.iload_n 1, 1) := by decide +kernel
theorem dX10_fits_113 : decode cX10_fits 113 = .ok (.iload 8, 2) := by decide +kernel
theorem dX10_fits_115 : decode cX10_fits 115 = .ok (.iload 7, 2) := by decide +kernel
theorem dX10_fits_117 : decode cX10_fits 117 = .ok (.iload_n 2, 1) := by decide +kernel
theorem dX10_fits_118 : decode cX10_fits 118 = .ok (.iload_n 3, 1) := by decide +kernel
theorem dX10_fits_119 : decode cX10_fits 119 = .ok (.invokevirtual 291, 3) := by decide +kernel
theorem dX10_fits_122 : decode cX10_fits 122 = .ok (.ifCond .ne 6, 3) := by decide +kernel
theorem dX10_fits_125 : decode cX10_fits 125 = .ok (.goto 24, 3) := by decide +kernel
theorem dX10_fits_128 : decode cX10_fits 128 = .ok (.iload 6, 2) := by decide +kernel
theorem dX10_fits_130 : decode cX10_fits 130 = .ok (.iload 4, 2) := by decide +kernel
theorem dX10_fits_132 : decode cX10_fits 132 = .ok (.if_icmp .ne 14, 3) := by decide +kernel
theorem dX10_fits_135 : decode cX10_fits 135 = .ok (.iload 8, 2) := by decide +kernel
theorem dX10_fits_137 : decode cX10_fits 137 = .ok (.iload 7, 2) := by decide +kernel
theorem dX10_fits_139 : decode cX10_fits 139 = .ok (.invokestatic 119, 3) := by decide +kernel
theorem dX10_fits_142 : decode cX10_fits 142 = .ok (.invokestatic 205, 3) := by decide +kernel
theorem dX10_fits_145 : decode cX10_fits 145 = .ok (.ireturn, 1) := by decide +kernel
theorem dX10_fits_146 : decode cX10_fits 146 = .ok (.iinc 6 1, 3) := by decide +kernel
theorem dX10_fits_149 : decode cX10_fits 149 = .ok (.iinc 8 1, 3) := by decide +kernel
theorem dX10_fits_152 : decode cX10_fits 152 = .ok (.goto (-53), 3) := by decide +kernel
theorem dX10_fits_155 : decode cX10_fits 155 = .ok (.iinc 7 1, 3) := by decide +kernel
theorem dX10_fits_158 : decode cX10_fits 158 = .ok (.goto (-89), 3) := by decide +kernel
theorem dX10_fits_161 : decode cX10_fits 161 = .ok (.iload 4, 2) := by decide +kernel
theorem dX10_fits_163 : decode cX10_fits 163 = .ok (.iconst (-1), 1) := by decide +kernel
theorem dX10_fits_164 : decode cX10_fits 164 = .ok (.if_icmp .ne 8, 3) := by decide +kernel
theorem dX10_fits_167 : decode cX10_fits 167 = .ok (.iload 6, 2) := by decide +kernel
theorem dX10_fits_169 : decode cX10_fits 169 = .ok (.goto 4, 3) := by decide +kernel
theorem dX10_fits_172 : decode cX10_fits 172 = .ok (.iconst (-1), 1) := by decide +kernel
theorem dX10_fits_173 : decode cX10_fits 173 = .ok (.ireturn, 1) := by decide +kernel
theorem dX10_rowsWrongWithout_0 : decode cX10_rowsWrongWithout 0 = .ok (.aload_n 0, 1) := by decide +kernel
theorem dX10_rowsWrongWithout_1 : decode cX10_rowsWrongWithout 1 = .ok (.getfield 44, 3) := by decide +kernel
theorem dX10_rowsWrongWithout_4 : decode cX10_rowsWrongWithout 4 = .ok (.aload_n 0, 1) := by decide +kernel
theorem dX10_rowsWrongWithout_5 : decode cX10_rowsWrongWithout 5 = .ok (.getfield 40, 3) := by decide +kernel
theorem dX10_rowsWrongWithout_8 : decode cX10_rowsWrongWithout 8 = .ok (.invokevirtual 216, 3) := by decide +kernel
theorem dX10_rowsWrongWithout_11 : decode cX10_rowsWrongWithout 11 = .ok (.aload_n 0, 1) := by decide +kernel
theorem dX10_rowsWrongWithout_12 : decode cX10_rowsWrongWithout 12 = .ok (.getfield 44, 3) := by decide +kernel
theorem dX10_rowsWrongWithout_15 : decode cX10_rowsWrongWithout 15 = .ok (.aload_n 0, 1) := by decide +kernel
theorem dX10_rowsWrongWithout_16 : decode cX10_rowsWrongWithout 16 = .ok (.getfield 30, 3) := by decide +kernel
theorem dX10_rowsWrongWithout_19 : decode cX10_rowsWrongWithout 19 = .ok (.iload_n 2, 1) := by decide +kernel
theorem dX10_rowsWrongWithout_20 : decode cX10_rowsWrongWithout 20 = .ok (.iconst 0, 1) := by decide +kernel
theorem dX10_rowsWrongWithout_21 : decode cX10_rowsWrongWithout 21 = .ok (.aload_n 0, 1) := by decide +kernel
theorem dX10_rowsWrongWithout_22 : decode cX10_rowsWrongWithout 22 = .ok (.getfield 30, 3) := by decide +kernel
theorem dX10_rowsWrongWithout_25 : decode cX10_rowsWrongWithout 25 = .ok (.getfield 166, 3) := by decide +kernel
theorem dX10_rowsWrongWithout_28 : decode cX10_rowsWrongWithout 28 = .ok (.invokevirtual 208, 3) := by decide +kernel
theorem dX10_rowsWrongWithout_31 : decode cX10_rowsWrongWithout 31 = .ok (.iconst 0, 1) := by decide +kernel
theorem dX10_rowsWrongWithout_32 : decode cX10_rowsWrongWithout 32 = .ok (.istore_n 3, 1) := by decide +kernel
theorem dX10_rowsWrongWithout_33 : decode cX10_rowsWrongWithout 33 = .ok (.iconst 0, 1) := by decide +kernel
theorem dX10_rowsWrongWithout_34 : decode cX10_rowsWrongWithout 34 = .ok (.istore 4, 2) := by decide +kernel
theorem dX10_rowsWrongWithout_36 : decode cX10_rowsWrongWithout 36 = .ok (.iload 4, 2) := by decide +kernel
theorem dX10_rowsWrongWithout_38 : decode cX10_rowsWrongWithout 38 = .ok (.aload_n 0, 1) := by decide +kernel
theorem dX10_rowsWrongWithout_39 : decode cX10_rowsWrongWithout 39 = .ok (.getfield 30, 3) := by decide +kernel
theorem dX10_rowsWrongWithout_42 : decode cX10_rowsWrongWithout 42 = .ok (.getfield 166, 3) := by decide +kernel
theorem dX10_rowsWrongWithout_45 : decode cX10_rowsWrongWithout 45 = .ok (.if_icmp .ge 26, 3) := by decide +kernel
theorem dX10_rowsWrongWithout_48 : decode cX10_rowsWrongWithout 48 = .ok (.aload_n 0, 1) := by decide +kernel
theorem dX10_rowsWrongWithout_49 : decode cX10_rowsWrongWithout 49 = .ok (.iload_n 1, 1) := by decide +kernel
theorem dX10_rowsWrongWithout_50 : decode cX10_rowsWrongWithout 50 = .ok (.iload 4, 2) := by decide +kernel
theorem dX10_rowsWrongWithout_52 : decode cX10_rowsWrongWithout 52 = .ok (.invokevirtual 295, 3) := by decide +kernel
theorem dX10_rowsWrongWithout_55 : decode cX10_rowsWrongWithout 55 = .ok (.ifCond .ne 10, 3) := by decide +kernel
theorem dX10_rowsWrongWithout_58 : decode cX10_rowsWrongWithout 58 = .ok (.iload_n 3, 1) := by decide +kernel
theorem dX10_rowsWrongWithout_59 : decode cX10_rowsWrongWithout 59 = .ok (.iconst 1, 1) := by decide +kernel
theorem dX10_rowsWrongWithout_60 : decode cX10_rowsWrongWithout 60 = .ok (.iload 4, 2) := by decide +kernel
theorem dX10_rowsWrongWithout_62 : decode cX10_rowsWrongWithout 62 = .ok (.ishl, 1) := by decide +kernel
theorem dX10_rowsWrongWithout_63 : decode cX10_rowsWrongWithout 63 = .ok (.ior, 1) := by decide +kernel
theorem dX10_rowsWrongWithout_64 : decode cX10_rowsWrongWithout 64 = .ok (.istore_n 3, 1) := by decide +kernel
theorem dX10_rowsWrongWithout_65 : decode cX10_rowsWrongWithout 65 = .ok (.iinc 4 1, 3) := by decide +kernel
theorem dX10_rowsWrongWithout_68 : decode cX10_rowsWrongWithout 68 = .ok (.goto (-32), 3) := by decide +kernel
theorem dX10_rowsWrongWithout_71 : decode cX10_rowsWrongWithout 71 = .ok (.iload_n 3, 1) := by decide +kernel
theorem dX10_rowsWrongWithout_72 : decode cX10_rowsWrongWithout 72 = .ok (.ireturn, 1) := by decide +kernel
theorem dX10_fitsAt_0 : decode cX10_fitsAt 0 = .ok (.aload_n 0, 1) := by decide +kernel
theorem dX10_fitsAt_1 : decode cX10_fitsAt 1 = .ok (.iload 4, 2) := by decide +kernel
theorem dX10_fitsAt_3 : decode cX10_fitsAt 3 = .ok (.iload_n 3, 1) := by decide +kernel
theorem dX10_fitsAt_4 : decode cX10_fitsAt 4 = .ok (.invokevirtual 298, 3) := by decide +kernel
theorem dX10_fitsAt_7 : decode cX10_fitsAt 7 = .ok (.ifCond .ne 5, 3) := by decide +kernel
theorem dX10_fitsAt_10 : decode cX10_fitsAt 10 = .ok (.iconst 1, 1) := by decide +kernel
theorem dX10_fitsAt_11 : decode cX10_fitsAt 11 = .ok (.ireturn, 1) := by decide +kernel
theorem dX10_fitsAt_12 : decode cX10_fitsAt 12 = .ok (.aload_n 0, 1) := by decide +kernel
theorem dX10_fitsAt_13 : decode cX10_fitsAt 13 = .ok (.getfield 44, 3) := by decide +kernel
theorem dX10_fitsAt_16 : decode cX10_fitsAt 16 = .ok (.aload_n 0, 1) := by decide +kernel
theorem dX10_fitsAt_17 : decode cX10_fitsAt 17 = .ok (.getfield 40, 3) := by decide +kernel
theorem dX10_fitsAt_20 : decode cX10_fitsAt 20 = .ok (.invokevirtual 216, 3) := by decide +kernel
theorem dX10_fitsAt_23 : decode cX10_fitsAt 23 = .ok (.aload_n 0, 1) := by decide +kernel
theorem dX10_fitsAt_24 : decode cX10_fitsAt 24 = .ok (.getfield 44, 3) := by decide +kernel
theorem dX10_fitsAt_27 : decode cX10_fitsAt 27 = .ok (.aload_n 0, 1) := by decide +kernel
theorem dX10_fitsAt_28 : decode cX10_fitsAt 28 = .ok (.getfield 30, 3) := by decide +kernel
theorem dX10_fitsAt_31 : decode cX10_fitsAt 31 = .ok (.iload_n 1, 1) := by decide +kernel
theorem dX10_fitsAt_32 : decode cX10_fitsAt 32 = .ok (.iload_n 2, 1) := by decide +kernel
theorem dX10_fitsAt_33 : decode cX10_fitsAt 33 = .ok (.iload_n 3, 1) := by decide +kernel
theorem dX10_fitsAt_34 : decode cX10_fitsAt 34 = .ok (.invokevirtual 201, 3) := by decide +kernel
theorem dX10_fitsAt_37 : decode cX10_fitsAt 37 = .ok (.pop, 1) := by decide +kernel
theorem dX10_fitsAt_38 : decode cX10_fitsAt 38 = .ok (.aload_n 0, 1) := by decide +kernel
theorem dX10_fitsAt_39 : decode cX10_fitsAt 39 = .ok (.getfield 44, 3) := by decide +kernel
theorem dX10_fitsAt_42 : decode cX10_fitsAt 42 = .ok (.aload_n 0, 1) := by decide +kernel
theorem dX10_fitsAt_43 : decode cX10_fitsAt 43 = .ok (.getfield 30, 3) := by decide +kernel
theorem dX10_fitsAt_46 : decode cX10_fitsAt 46 = .ok (.iload 5, 2) := by decide +kernel
theorem dX10_fitsAt_48 : decode cX10_fitsAt 48 = .ok (.iload_n 3, 1) := by decide +kernel
theorem dX10_fitsAt_49 : decode cX10_fitsAt 49 = .ok (.iload_n 3, 1) := by decide +kernel
theorem dX10_fitsAt_50 : decode cX10_fitsAt 50 = .ok (.iconst 1, 1) := by decide +kernel
theorem dX10_fitsAt_51 : decode cX10_fitsAt 51 = .ok (.iadd, 1) := by decide +kernel
theorem dX10_fitsAt_52 : decode cX10_fitsAt 52 = .ok (.invokevirtual 208, 3) := by decide +kernel
theorem dX10_fitsAt_55 : decode cX10_fitsAt 55 = .ok (.aload_n 0, 1) := by decide +kernel
theorem dX10_fitsAt_56 : decode cX10_fitsAt 56 = .ok (.iload 4, 2) := by decide +kernel
theorem dX10_fitsAt_58 : decode cX10_fitsAt 58 = .ok (.iload_n 3, 1) := by decide +kernel
theorem dX10_fitsAt_59 : decode cX10_fitsAt 59 = .ok (.invokevirtual 295, 3) := by decide +kernel
theorem dX10_fitsAt_62 : decode cX10_fitsAt 62 = .ok (.ireturn, 1) := by decide +kernel
theorem dX10_isKnownOf_0 : decode cX10_isKnownOf 0 = .ok (.iconst 0, 1) := by decide +kernel
theorem dX10_isKnownOf_1 : decode cX10_isKnownOf 1 = .ok (.istore_n 3, 1) := by decide +kernel
theorem dX10_isKnownOf_2 : decode cX10_isKnownOf 2 = .ok (.iload_n 3, 1) := by decide +kernel
theorem dX10_isKnownOf_3 : decode cX10_isKnownOf 3 = .ok (.iload_n 1, 1) := by decide +kernel
theorem dX10_isKnownOf_4 : decode cX10_isKnownOf 4 = .ok (.if_icmp .ge 30, 3) := by decide +kernel
theorem dX10_isKnownOf_7 : decode cX10_isKnownOf 7 = .ok (.iload_n 3, 1) := by decide +kernel
theorem dX10_isKnownOf_8 : decode cX10_isKnownOf 8 = .ok (.bipush 20, 2) := by decide +kernel
theorem dX10_isKnownOf_10 : decode cX10_isKnownOf 10 = .ok (.if_icmp .ge 24, 3) := by decide +kernel
theorem dX10_isKnownOf_13 : decode cX10_isKnownOf 13 = .ok (.aload_n 0, 1) := by decide +kernel
theorem dX10_isKnownOf_14 : decode cX10_isKnownOf 14 = .ok (.getfield 62, 3) := by decide +kernel
theorem dX10_isKnownOf_17 : decode cX10_isKnownOf 17 = .ok (.iload_n 3, 1) := by decide +kernel
theorem dX10_isKnownOf_18 : decode cX10_isKnownOf 18 = .ok (.iaload, 1) := by decide +kernel
theorem dX10_isKnownOf_19 : decode cX10_isKnownOf 19 = .ok (.bipush 12, 2) := by decide +kernel
theorem dX10_isKnownOf_21 : decode cX10_isKnownOf 21 = .ok (.idiv, 1) := by decide +kernel
theorem dX10_isKnownOf_22 : decode cX10_isKnownOf 22 = .ok (.iload_n 2, 1) := by decide +kernel
theorem dX10_isKnownOf_23 : decode cX10_isKnownOf 23 = .ok (.if_icmp .ne 5, 3) := by decide +kernel
theorem dX10_isKnownOf_26 : decode cX10_isKnownOf 26 = .ok (.iconst 1, 1) := by decide +kernel
theorem dX10_isKnownOf_27 : decode cX10_isKnownOf 27 = .ok (.ireturn, 1) := by decide +kernel
theorem dX10_isKnownOf_28 : decode cX10_isKnownOf 28 = .ok (.iinc 3 1, 3) := by decide +kernel
theorem dX10_isKnownOf_31 : decode cX10_isKnownOf 31 = .ok (.goto (-29), 3) := by decide +kernel
theorem dX10_isKnownOf_34 : decode cX10_isKnownOf 34 = .ok (.iconst 0, 1) := by decide +kernel
theorem dX10_isKnownOf_35 : decode cX10_isKnownOf 35 = .ok (.ireturn, 1) := by decide +kernel
theorem dX10_isKnownSo_0 : decode cX10_isKnownSo 0 = .ok (.iconst 0, 1) := by decide +kernel
theorem dX10_isKnownSo_1 : decode cX10_isKnownSo 1 = .ok (.istore_n 3, 1) := by decide +kernel
theorem dX10_isKnownSo_2 : decode cX10_isKnownSo 2 = .ok (.iload_n 3, 1) := by decide +kernel
theorem dX10_isKnownSo_3 : decode cX10_isKnownSo 3 = .ok (.iload_n 1, 1) := by decide +kernel
theorem dX10_isKnownSo_4 : decode cX10_isKnownSo 4 = .ok (.if_icmp .ge 53, 3) := by decide +kernel
theorem dX10_isKnownSo_7 : decode cX10_isKnownSo 7 = .ok (.iload_n 3, 1) := by decide +kernel
theorem dX10_isKnownSo_8 : decode cX10_isKnownSo 8 = .ok (.bipush 20, 2) := by decide +kernel
theorem dX10_isKnownSo_10 : decode cX10_isKnownSo 10 = .ok (.if_icmp .ge 47, 3) := by decide +kernel
theorem dX10_isKnownSo_13 : decode cX10_isKnownSo 13 = .ok (.aload_n 0, 1) := by decide +kernel
theorem dX10_isKnownSo_14 : decode cX10_isKnownSo 14 = .ok (.getfield 62, 3) := by decide +kernel
theorem dX10_isKnownSo_17 : decode cX10_isKnownSo 17 = .ok (.iload_n 3, 1) := by decide +kernel
theorem dX10_isKnownSo_18 : decode cX10_isKnownSo 18 = .ok (.iaload, 1) := by decide +kernel
theorem dX10_isKnownSo_19 : decode cX10_isKnownSo 19 = .ok (.bipush 12, 2) := by decide +kernel
theorem dX10_isKnownSo_21 : decode cX10_isKnownSo 21 = .ok (.idiv, 1) := by decide +kernel
theorem dX10_isKnownSo_22 : decode cX10_isKnownSo 22 = .ok (.iload_n 2, 1) := by decide +kernel
theorem dX10_isKnownSo_23 : decode cX10_isKnownSo 23 = .ok (.if_icmp .ne 28, 3) := by decide +kernel
theorem dX10_isKnownSo_26 : decode cX10_isKnownSo 26 = .ok (.aload_n 0, 1) := by decide +kernel
theorem dX10_isKnownSo_27 : decode cX10_isKnownSo 27 = .ok (.getfield 44, 3) := by decide +kernel
theorem dX10_isKnownSo_30 : decode cX10_isKnownSo 30 = .ok (.getfield 123, 3) := by decide +kernel
theorem dX10_isKnownSo_33 : decode cX10_isKnownSo 33 = .ok (.aload_n 0, 1) := by decide +kernel
theorem dX10_isKnownSo_34 : decode cX10_isKnownSo 34 = .ok (.getfield 62, 3) := by decide +kernel
theorem dX10_isKnownSo_37 : decode cX10_isKnownSo 37 = .ok (.iload_n 3, 1) := by decide +kernel
theorem dX10_isKnownSo_38 : decode cX10_isKnownSo 38 = .ok (.iaload, 1) := by decide +kernel
theorem dX10_isKnownSo_39 : decode cX10_isKnownSo 39 = .ok (.iaload, 1) := by decide +kernel
theorem dX10_isKnownSo_40 : decode cX10_isKnownSo 40 = .ok (.aload_n 0, 1) := by decide +kernel
theorem dX10_isKnownSo_41 : decode cX10_isKnownSo 41 = .ok (.getfield 66, 3) := by decide +kernel
theorem dX10_isKnownSo_44 : decode cX10_isKnownSo 44 = .ok (.iload_n 3, 1) := by decide +kernel
theorem dX10_isKnownSo_45 : decode cX10_isKnownSo 45 = .ok (.iaload, 1) := by decide +kernel
theorem dX10_isKnownSo_46 : decode cX10_isKnownSo 46 = .ok (.if_icmp .eq 5, 3) := by decide +kernel
theorem dX10_isKnownSo_49 : decode cX10_isKnownSo 49 = .ok (.iconst 0, 1) := by decide +kernel
theorem dX10_isKnownSo_50 : decode cX10_isKnownSo 50 = .ok (.ireturn, 1) := by decide +kernel
theorem dX10_isKnownSo_51 : decode cX10_isKnownSo 51 = .ok (.iinc 3 1, 3) := by decide +kernel
theorem dX10_isKnownSo_54 : decode cX10_isKnownSo 54 = .ok (.goto (-52), 3) := by decide +kernel
theorem dX10_isKnownSo_57 : decode cX10_isKnownSo 57 = .ok (.iconst 1, 1) := by decide +kernel
theorem dX10_isKnownSo_58 : decode cX10_isKnownSo 58 = .ok (.ireturn, 1) := by decide +kernel

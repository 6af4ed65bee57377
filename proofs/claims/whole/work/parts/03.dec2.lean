theorem dX5_become_61 : decode cX5_become 61 = .ok (.return_, 1) := by decide +kernel
theorem dX5_trace_0 : decode cX5_trace 0 = .ok (.aload_n 0, 1) := by decide +kernel
theorem dX5_trace_1 : decode cX5_trace 1 = .ok (.getfield 33, 3) := by decide +kernel
theorem dX5_trace_4 : decode cX5_trace 4 = .ok (.ifCond .eq 4, 3) := by decide +kernel
theorem dX5_trace_7 : decode cX5_trace 7 = .ok (.return_, 1) := by decide +kernel
theorem dX5_trace_8 : decode cX5_trace 8 = .ok (.aload_n 0, 1) := by decide +kernel
theorem dX5_trace_9 : decode cX5_trace 9 = .ok (.iconst 1, 1) := by decide +kernel
theorem dX5_trace_10 : decode cX5_trace 10 = .ok (.putfield 33, 3) := by decide +kernel
theorem dX5_trace_13 : decode cX5_trace 13 = .ok (.aload_n 0, 1) := by decide +kernel
theorem dX5_trace_14 : decode cX5_trace 14 = .ok (.getfield 43, 3) := by decide +kernel
theorem dX5_trace_17 : decode cX5_trace 17 = .ok (.ifnonnull 12, 3) := by decide +kernel
theorem dX5_trace_20 : decode cX5_trace 20 = .ok (.aload_n 0, 1) := by decide +kernel
theorem dX5_trace_21 : decode cX5_trace 21 = .ok (.sipush 602, 3) := by decide +kernel
theorem dX5_trace_24 : decode cX5_trace 24 = .ok (.newarray .long, 2) := by decide +kernel
theorem dX5_trace_26 : decode cX5_trace 26 = .ok (.putfield 43, 3) := by decide +kernel
theorem dX5_trace_29 : decode cX5_trace 29 = .ok (.aload_n 0, 1) := by decide +kernel
theorem dX5_trace_30 : decode cX5_trace 30 = .ok (.aload_n 0, 1) := by decide +kernel
theorem dX5_trace_31 : decode cX5_trace 31 = .ok (.getfield 30, 3) := by decide +kernel
theorem dX5_trace_34 : decode cX5_trace 34 = .ok (.putfield 37, 3) := by decide +kernel
theorem dX5_trace_37 : decode cX5_trace 37 = .ok (.aload_n 0, 1) := by decide +kernel
theorem dX5_trace_38 : decode cX5_trace 38 = .ok (.aload_n 0, 1) := by decide +kernel
theorem dX5_trace_39 : decode cX5_trace 39 = .ok (.getfield 30, 3) := by decide +kernel
theorem dX5_trace_42 : decode cX5_trace 42 = .ok (.iconst 1, 1) := by decide +kernel
theorem dX5_trace_43 : decode cX5_trace 43 = .ok (.isub, 1) := by decide +kernel
theorem dX5_trace_44 : decode cX5_trace 44 = .ok (.putfield 40, 3) := by decide +kernel
theorem dX5_trace_47 : decode cX5_trace 47 = .ok (.aload_n 2, 1) := by decide +kernel
theorem dX5_trace_48 : decode cX5_trace 48 = .ok (.aload_n 0, 1) := by decide +kernel
theorem dX5_trace_49 : decode cX5_trace 49 = .ok (.invokevirtual 47, 3) := by decide +kernel
theorem dX5_trace_52 : decode cX5_trace 52 = .ok (.aload_n 0, 1) := by decide +kernel
theorem dX5_trace_53 : decode cX5_trace 53 = .ok (.aload_n 2, 1) := by decide +kernel
theorem dX5_trace_54 : decode cX5_trace 54 = .ok (.invokevirtual 53, 3) := by decide +kernel
theorem dX5_trace_57 : decode cX5_trace 57 = .ok (.aload_n 0, 1) := by decide +kernel
theorem dX5_trace_58 : decode cX5_trace 58 = .ok (.getfield 30, 3) := by decide +kernel
theorem dX5_trace_61 : decode cX5_trace 61 = .ok (.istore_n 3, 1) := by decide +kernel
theorem dX5_trace_62 : decode cX5_trace 62 = .ok (.iload_n 3, 1) := by decide +kernel
theorem dX5_trace_63 : decode cX5_trace 63 = .ok (.sipush 300, 3) := by decide +kernel
theorem dX5_trace_66 : decode cX5_trace 66 = .ok (.if_icmp .gt 34, 3) := by decide +kernel
theorem dX5_trace_69 : decode cX5_trace 69 = .ok (.aload_n 2, 1) := by decide +kernel
theorem dX5_trace_70 : decode cX5_trace 70 = .ok (.getfield 57, 3) := by decide +kernel
theorem dX5_trace_73 : decode cX5_trace 73 = .ok (.ifCond .ne 27, 3) := by decide +kernel
theorem dX5_trace_76 : decode cX5_trace 76 = .ok (.aload_n 0, 1) := by decide +kernel
theorem dX5_trace_77 : decode cX5_trace 77 = .ok (.iload_n 3, 1) := by decide +kernel
theorem dX5_trace_78 : decode cX5_trace 78 = .ok (.putfield 40, 3) := by decide +kernel
theorem dX5_trace_81 : decode cX5_trace 81 = .ok (.aload_n 2, 1) := by decide +kernel
theorem dX5_trace_82 : decode cX5_trace 82 = .ok (.aload_n 1, 1) := by decide +kernel
theorem dX5_trace_83 : decode cX5_trace 83 = .ok (.iload_n 3, 1) := by decide +kernel
theorem dX5_trace_84 : decode cX5_trace 84 = .ok (.iconst 1, 1) := by decide +kernel
theorem dX5_trace_85 : decode cX5_trace 85 = .ok (.iadd, 1) := by decide +kernel
theorem dX5_trace_86 : decode cX5_trace 86 = .ok (.invokevirtual 60, 3) := by decide +kernel
theorem dX5_trace_89 : decode cX5_trace 89 = .ok (.aload_n 0, 1) := by decide +kernel
theorem dX5_trace_90 : decode cX5_trace 90 = .ok (.aload_n 2, 1) := by decide +kernel
theorem dX5_trace_91 : decode cX5_trace 91 = .ok (.invokevirtual 53, 3) := by decide +kernel
theorem dX5_trace_94 : decode cX5_trace 94 = .ok (.iinc 3 1, 3) := by decide +kernel
theorem dX5_trace_97 : decode cX5_trace 97 = .ok (.goto (-35), 3) := by decide +kernel
theorem dX5_trace_100 : decode cX5_trace 100 = .ok (.aload_n 2, 1) := by decide +kernel
theorem dX5_trace_101 : decode cX5_trace 101 = .ok (.aload_n 0, 1) := by decide +kernel
theorem dX5_trace_102 : decode cX5_trace 102 = .ok (.invokevirtual 47, 3) := by decide +kernel
theorem dX5_trace_105 : decode cX5_trace 105 = .ok (.aload_n 0, 1) := by decide +kernel
theorem dX5_trace_106 : decode cX5_trace 106 = .ok (.getfield 30, 3) := by decide +kernel
theorem dX5_trace_109 : decode cX5_trace 109 = .ok (.iconst 1, 1) := by decide +kernel
theorem dX5_trace_110 : decode cX5_trace 110 = .ok (.isub, 1) := by decide +kernel
theorem dX5_trace_111 : decode cX5_trace 111 = .ok (.istore_n 3, 1) := by decide +kernel
theorem dX5_trace_112 : decode cX5_trace 112 = .ok (.iload_n 3, 1) := by decide +kernel
theorem dX5_trace_113 : decode cX5_trace 113 = .ok (.sipush (-300), 3) := by decide +kernel
theorem dX5_trace_116 : decode cX5_trace 116 = .ok (.if_icmp .lt 45, 3) := by decide +kernel
theorem dX5_trace_119 : decode cX5_trace 119 = .ok (.aload_n 2, 1) := by decide +kernel
theorem dX5_trace_120 : decode cX5_trace 120 = .ok (.getfield 57, 3) := by decide +kernel
theorem dX5_trace_123 : decode cX5_trace 123 = .ok (.ifCond .ne 38, 3) := by decide +kernel
theorem dX5_trace_126 : decode cX5_trace 126 = .ok (.aload_n 2, 1) := by decide +kernel
theorem dX5_trace_127 : decode cX5_trace 127 = .ok (.aload_n 1, 1) := by decide +kernel
theorem dX5_trace_128 : decode cX5_trace 128 = .ok (.iload_n 3, 1) := by decide +kernel
theorem dX5_trace_129 : decode cX5_trace 129 = .ok (.invokevirtual 60, 3) := by decide +kernel
theorem dX5_trace_132 : decode cX5_trace 132 = .ok (.aload_n 0, 1) := by decide +kernel
theorem dX5_trace_133 : decode cX5_trace 133 = .ok (.aload_n 2, 1) := by decide +kernel
theorem dX5_trace_134 : decode cX5_trace 134 = .ok (.invokevirtual 53, 3) := by decide +kernel
theorem dX5_trace_137 : decode cX5_trace 137 = .ok (.aload_n 0, 1) := by decide +kernel
theorem dX5_trace_138 : decode cX5_trace 138 = .ok (.aload_n 2, 1) := by decide +kernel
theorem dX5_trace_139 : decode cX5_trace 139 = .ok (.getfield 57, 3) := by decide +kernel
theorem dX5_trace_142 : decode cX5_trace 142 = .ok (.ifCond .eq 9, 3) := by decide +kernel
theorem dX5_trace_145 : decode cX5_trace 145 = .ok (.iload_n 3, 1) := by decide +kernel
theorem dX5_trace_146 : decode cX5_trace 146 = .ok (.iconst 1, 1) := by decide +kernel
theorem dX5_trace_147 : decode cX5_trace 147 = .ok (.iadd, 1) := by decide +kernel
theorem dX5_trace_148 : decode cX5_trace 148 = .ok (.goto 4, 3) := by decide +kernel
theorem dX5_trace_151 : decode cX5_trace 151 = .ok (.iload_n 3, 1) := by decide +kernel
theorem dX5_trace_152 : decode cX5_trace 152 = .ok (.putfield 37, 3) := by decide +kernel
theorem dX5_trace_155 : decode cX5_trace 155 = .ok (.iinc 3 (-1), 3) := by decide +kernel
theorem dX5_trace_158 : decode cX5_trace 158 = .ok (.goto (-46), 3) := by decide +kernel
theorem dX5_trace_161 : decode cX5_trace 161 = .ok (.return_, 1) := by decide +kernel
theorem dX5_write_0 : decode cX5_write 0 = .ok (.aload_n 1, 1) := by decide +kernel
theorem dX5_write_1 : decode cX5_write 1 = .ok (.getfield 64, 3) := by decide +kernel
theorem dX5_write_4 : decode cX5_write 4 = .ok (.sipush (-300), 3) := by decide +kernel
theorem dX5_write_7 : decode cX5_write 7 = .ok (.isub, 1) := by decide +kernel
theorem dX5_write_8 : decode cX5_write 8 = .ok (.istore_n 2, 1) := by decide +kernel
theorem dX5_write_9 : decode cX5_write 9 = .ok (.aload_n 0, 1) := by decide +kernel
theorem dX5_write_10 : decode cX5_write 10 = .ok (.getfield 43, 3) := by decide +kernel
theorem dX5_write_13 : decode cX5_write 13 = .ok (.ifnull 38, 3) := by decide +kernel
theorem dX5_write_16 : decode cX5_write 16 = .ok (.iload_n 2, 1) := by decide +kernel
theorem dX5_write_17 : decode cX5_write 17 = .ok (.ifCond .lt 34, 3) := by decide +kernel
theorem dX5_write_20 : decode cX5_write 20 = .ok (.iload_n 2, 1) := by decide +kernel
theorem dX5_write_21 : decode cX5_write 21 = .ok (.aload_n 0, 1) := by decide +kernel
theorem dX5_write_22 : decode cX5_write 22 = .ok (.getfield 43, 3) := by decide +kernel
theorem dX5_write_25 : decode cX5_write 25 = .ok (.arraylength, 1) := by decide +kernel
theorem dX5_write_26 : decode cX5_write 26 = .ok (.if_icmp .ge 25, 3) := by decide +kernel
theorem dX5_write_29 : decode cX5_write 29 = .ok (.aload_n 0, 1) := by decide +kernel
theorem dX5_write_30 : decode cX5_write 30 = .ok (.getfield 43, 3) := by decide +kernel
theorem dX5_write_33 : decode cX5_write 33 = .ok (.iload_n 2, 1) := by decide +kernel
theorem dX5_write_34 : decode cX5_write 34 = .ok (.aload_n 1, 1) := by decide +kernel
theorem dX5_write_35 : decode cX5_write 35 = .ok (.getfield 65, 3) := by decide +kernel
theorem dX5_write_38 : decode cX5_write 38 = .ok (.bipush 32, 2) := by decide +kernel
theorem dX5_write_40 : decode cX5_write 40 = .ok (.lshl, 1) := by decide +kernel
theorem dX5_write_41 : decode cX5_write 41 = .ok (.aload_n 1, 1) := by decide +kernel
theorem dX5_write_42 : decode cX5_write 42 = .ok (.getfield 68, 3) := by decide +kernel
theorem dX5_write_45 : decode cX5_write 45 = .ok (.ldc2_w 70, 3) := by decide +kernel
theorem dX5_write_48 : decode cX5_write 48 = .ok (.land, 1) := by decide +kernel
theorem dX5_write_49 : decode cX5_write 49 = .ok (.lor, 1) := by decide +kernel
theorem dX5_write_50 : decode cX5_write 50 = .ok (.lastore, 1) := by decide +kernel
theorem dX5_write_51 : decode cX5_write 51 = .ok (.return_, 1) := by decide +kernel
theorem dX5_read_0 : decode cX5_read 0 = .ok (.iload_n 1, 1) := by decide +kernel
theorem dX5_read_1 : decode cX5_read 1 = .ok (.sipush (-300), 3) := by decide +kernel
theorem dX5_read_4 : decode cX5_read 4 = .ok (.isub, 1) := by decide +kernel
theorem dX5_read_5 : decode cX5_read 5 = .ok (.istore_n 2, 1) := by decide +kernel
theorem dX5_read_6 : decode cX5_read 6 = .ok (.aload_n 0, 1) := by decide +kernel
theorem dX5_read_7 : decode cX5_read 7 = .ok (.getfield 43, 3) := by decide +kernel
theorem dX5_read_10 : decode cX5_read 10 = .ok (.ifnull 25, 3) := by decide +kernel
theorem dX5_read_13 : decode cX5_read 13 = .ok (.iload_n 2, 1) := by decide +kernel
theorem dX5_read_14 : decode cX5_read 14 = .ok (.ifCond .lt 21, 3) := by decide +kernel
theorem dX5_read_17 : decode cX5_read 17 = .ok (.iload_n 2, 1) := by decide +kernel
theorem dX5_read_18 : decode cX5_read 18 = .ok (.aload_n 0, 1) := by decide +kernel
theorem dX5_read_19 : decode cX5_read 19 = .ok (.getfield 43, 3) := by decide +kernel
theorem dX5_read_22 : decode cX5_read 22 = .ok (.arraylength, 1) := by decide +kernel
theorem dX5_read_23 : decode cX5_read 23 = .ok (.if_icmp .ge 12, 3) := by decide +kernel
theorem dX5_read_26 : decode cX5_read 26 = .ok (.aload_n 0, 1) := by decide +kernel
theorem dX5_read_27 : decode cX5_read 27 = .ok (.getfield 43, 3) := by decide +kernel
theorem dX5_read_30 : decode cX5_read 30 = .ok (.iload_n 2, 1) := by decide +kernel
theorem dX5_read_31 : decode cX5_read 31 = .ok (.laload, 1) := by decide +kernel
theorem dX5_read_32 : decode cX5_read 32 = .ok (.goto 4, 3) := by decide +kernel
theorem dX5_read_35 : decode cX5_read 35 = .ok (.lconst 0, 1) := by decide +kernel
theorem dX5_read_36 : decode cX5_read 36 = .ok (.lreturn, 1) := by decide +kernel
theorem dX5_isThere_0 : decode cX5_isThere 0 = .ok (.iload_n 1, 1) := by decide +kernel
theorem dX5_isThere_1 : decode cX5_isThere 1 = .ok (.aload_n 0, 1) := by decide +kernel
theorem dX5_isThere_2 : decode cX5_isThere 2 = .ok (.getfield 37, 3) := by decide +kernel
theorem dX5_isThere_5 : decode cX5_isThere 5 = .ok (.if_icmp .lt 15, 3) := by decide +kernel
theorem dX5_isThere_8 : decode cX5_isThere 8 = .ok (.iload_n 1, 1) := by decide +kernel
theorem dX5_isThere_9 : decode cX5_isThere 9 = .ok (.aload_n 0, 1) := by decide +kernel
theorem dX5_isThere_10 : decode cX5_isThere 10 = .ok (.getfield 40, 3) := by decide +kernel
theorem dX5_isThere_13 : decode cX5_isThere 13 = .ok (.if_icmp .gt 7, 3) := by decide +kernel
theorem dX5_isThere_16 : decode cX5_isThere 16 = .ok (.iconst 1, 1) := by decide +kernel
theorem dX5_isThere_17 : decode cX5_isThere 17 = .ok (.goto 4, 3) := by decide +kernel
theorem dX5_isThere_20 : decode cX5_isThere 20 = .ok (.iconst 0, 1) := by decide +kernel
theorem dX5_isThere_21 : decode cX5_isThere 21 = .ok (.ireturn, 1) := by decide +kernel
theorem dX5_xAt_0 : decode cX5_xAt 0 = .ok (.aload_n 0, 1) := by decide +kernel
theorem dX5_xAt_1 : decode cX5_xAt 1 = .ok (.iload_n 1, 1) := by decide +kernel
theorem dX5_xAt_2 : decode cX5_xAt 2 = .ok (.invokevirtual 72, 3) := by decide +kernel
theorem dX5_xAt_5 : decode cX5_xAt 5 = .ok (.bipush 32, 2) := by decide +kernel
theorem dX5_xAt_7 : decode cX5_xAt 7 = .ok (.lshr, 1) := by decide +kernel
theorem dX5_xAt_8 : decode cX5_xAt 8 = .ok (.l2i, 1) := by decide +kernel
theorem dX5_xAt_9 : decode cX5_xAt 9 = .ok (.ireturn, 1) := by decide +kernel
theorem dX5_yAt_0 : decode cX5_yAt 0 = .ok (.aload_n 0, 1) := by decide +kernel
theorem dX5_yAt_1 : decode cX5_yAt 1 = .ok (.iload_n 1, 1) := by decide +kernel
theorem dX5_yAt_2 : decode cX5_yAt 2 = .ok (.invokevirtual 72, 3) := by decide +kernel
theorem dX5_yAt_5 : decode cX5_yAt 5 = .ok (.l2i, 1) := by decide +kernel
theorem dX5_yAt_6 : decode cX5_yAt 6 = .ok (.ireturn, 1) := by decide +kernel
theorem dX5_squareFromSun_0 : decode cX5_squareFromSun 0 = .ok (.aload_n 0, 1) := by decide +kernel
theorem dX5_squareFromSun_1 : decode cX5_squareFromSun 1 = .ok (.iload_n 1, 1) := by decide +kernel
theorem dX5_squareFromSun_2 : decode cX5_squareFromSun 2 = .ok (.invokevirtual 76, 3) := by decide +kernel
theorem dX5_squareFromSun_5 : decode cX5_squareFromSun 5 = .ok (.i2l, 1) := by decide +kernel
theorem dX5_squareFromSun_6 : decode cX5_squareFromSun 6 = .ok (.lstore_n 2, 1) := by decide +kernel
theorem dX5_squareFromSun_7 : decode cX5_squareFromSun 7 = .ok (.aload_n 0, 1) := by decide +kernel
theorem dX5_squareFromSun_8 : decode cX5_squareFromSun 8 = .ok (.iload_n 1, 1) := by decide +kernel
theorem dX5_squareFromSun_9 : decode cX5_squareFromSun 9 = .ok (.invokevirtual 80, 3) := by decide +kernel
theorem dX5_squareFromSun_12 : decode cX5_squareFromSun 12 = .ok (.i2l, 1) := by decide +kernel
theorem dX5_squareFromSun_13 : decode cX5_squareFromSun 13 = .ok (.lstore 4, 2) := by decide +kernel
theorem dX5_squareFromSun_15 : decode cX5_squareFromSun 15 = .ok (.lload_n 2, 1) := by decide +kernel
theorem dX5_squareFromSun_16 : decode cX5_squareFromSun 16 = .ok (.lload_n 2, 1) := by decide +kernel
theorem dX5_squareFromSun_17 : decode cX5_squareFromSun 17 = .ok (.lmul, 1) := by decide +kernel
theorem dX5_squareFromSun_18 : decode cX5_squareFromSun 18 = .ok (.lload 4, 2) := by decide +kernel
theorem dX5_squareFromSun_20 : decode cX5_squareFromSun 20 = .ok (.lload 4, 2) := by decide +kernel
theorem dX5_squareFromSun_22 : decode cX5_squareFromSun 22 = .ok (.lmul, 1) := by decide +kernel
theorem dX5_squareFromSun_23 : decode cX5_squareFromSun 23 = .ok (.ladd, 1) := by decide +kernel
theorem dX5_squareFromSun_24 : decode cX5_squareFromSun 24 = .ok (.lreturn, 1) := by decide +kernel
theorem dX5_isPass_0 : decode cX5_isPass 0 = .ok (.aload_n 0, 1) := by decide +kernel
theorem dX5_isPass_1 : decode cX5_isPass 1 = .ok (.iload_n 1, 1) := by decide +kernel
theorem dX5_isPass_2 : decode cX5_isPass 2 = .ok (.invokevirtual 83, 3) := by decide +kernel
theorem dX5_isPass_5 : decode cX5_isPass 5 = .ok (.lstore_n 2, 1) := by decide +kernel
theorem dX5_isPass_6 : decode cX5_isPass 6 = .ok (.lload_n 2, 1) := by decide +kernel
theorem dX5_isPass_7 : decode cX5_isPass 7 = .ok (.aload_n 0, 1) := by decide +kernel
theorem dX5_isPass_8 : decode cX5_isPass 8 = .ok (.iload_n 1, 1) := by decide +kernel
theorem dX5_isPass_9 : decode cX5_isPass 9 = .ok (.iconst 1, 1) := by decide +kernel
theorem dX5_isPass_10 : decode cX5_isPass 10 = .ok (.isub, 1) := by decide +kernel
theorem dX5_isPass_11 : decode cX5_isPass 11 = .ok (.invokevirtual 83, 3) := by decide +kernel
theorem dX5_isPass_14 : decode cX5_isPass 14 = .ok (.lcmp, 1) := by decide +kernel
theorem dX5_isPass_15 : decode cX5_isPass 15 = .ok (.ifCond .ge 19, 3) := by decide +kernel
theorem dX5_isPass_18 : decode cX5_isPass 18 = .ok (.lload_n 2, 1) := by decide +kernel
theorem dX5_isPass_19 : decode cX5_isPass 19 = .ok (.aload_n 0, 1) := by decide +kernel
theorem dX5_isPass_20 : decode cX5_isPass 20 = .ok (.iload_n 1, 1) := by decide +kernel
theorem dX5_isPass_21 : decode cX5_isPass 21 = .ok (.iconst 1, 1) := by decide +kernel
theorem dX5_isPass_22 : decode cX5_isPass 22 = .ok (.iadd, 1) := by decide +kernel
theorem dX5_isPass_23 : decode cX5_isPass 23 = .ok (.invokevirtual 83, 3) := by decide +kernel
theorem dX5_isPass_26 : decode cX5_isPass 26 = .ok (.lcmp, 1) := by decide +kernel
theorem dX5_isPass_27 : decode cX5_isPass 27 = .ok (.ifCond .gt 7, 3) := by decide +kernel
theorem dX5_isPass_30 : decode cX5_isPass 30 = .ok (.iconst 1, 1) := by decide +kernel
theorem dX5_isPass_31 : decode cX5_isPass 31 = .ok (.goto 4, 3) := by decide +kernel
theorem dX5_isPass_34 : decode cX5_isPass 34 = .ok (.iconst 0, 1) := by decide +kernel
theorem dX5_isPass_35 : decode cX5_isPass 35 = .ok (.ireturn, 1) := by decide +kernel
theorem dX5_turnTime_0 : decode cX5_turnTime 0 = .ok (.iconst 0, 1) := by decide +kernel
theorem dX5_turnTime_1 : decode cX5_turnTime 1 = .ok (.istore_n 1, 1) := by decide +kernel
theorem dX5_turnTime_2 : decode cX5_turnTime 2 = .ok (.iconst 1, 1) := by decide +kernel
theorem dX5_turnTime_3 : decode cX5_turnTime 3 = .ok (.istore_n 2, 1) := by decide +kernel
theorem dX5_turnTime_4 : decode cX5_turnTime 4 = .ok (.iload_n 2, 1) := by decide +kernel
theorem dX5_turnTime_5 : decode cX5_turnTime 5 = .ok (.sipush 300, 3) := by decide +kernel
theorem dX5_turnTime_8 : decode cX5_turnTime 8 = .ok (.if_icmp .ge 45, 3) := by decide +kernel
theorem dX5_turnTime_11 : decode cX5_turnTime 11 = .ok (.aload_n 0, 1) := by decide +kernel
theorem dX5_turnTime_12 : decode cX5_turnTime 12 = .ok (.iconst 0, 1) := by decide +kernel
theorem dX5_turnTime_13 : decode cX5_turnTime 13 = .ok (.invokevirtual 86, 3) := by decide +kernel
theorem dX5_turnTime_16 : decode cX5_turnTime 16 = .ok (.ifCond .eq 37, 3) := by decide +kernel
theorem dX5_turnTime_19 : decode cX5_turnTime 19 = .ok (.aload_n 0, 1) := by decide +kernel
theorem dX5_turnTime_20 : decode cX5_turnTime 20 = .ok (.iload_n 2, 1) := by decide +kernel
theorem dX5_turnTime_21 : decode cX5_turnTime 21 = .ok (.iconst 1, 1) := by decide +kernel
theorem dX5_turnTime_22 : decode cX5_turnTime 22 = .ok (.iadd, 1) := by decide +kernel
theorem dX5_turnTime_23 : decode cX5_turnTime 23 = .ok (.invokevirtual 86, 3) := by decide +kernel
theorem dX5_turnTime_26 : decode cX5_turnTime 26 = .ok (.ifCond .eq 27, 3) := by decide +kernel
theorem dX5_turnTime_29 : decode cX5_turnTime 29 = .ok (.aload_n 0, 1) := by decide +kernel
theorem dX5_turnTime_30 : decode cX5_turnTime 30 = .ok (.iload_n 2, 1) := by decide +kernel
theorem dX5_turnTime_31 : decode cX5_turnTime 31 = .ok (.invokevirtual 90, 3) := by decide +kernel
theorem dX5_turnTime_34 : decode cX5_turnTime 34 = .ok (.ifCond .eq 13, 3) := by decide +kernel
theorem dX5_turnTime_37 : decode cX5_turnTime 37 = .ok (.iload_n 1, 1) := by decide +kernel
theorem dX5_turnTime_38 : decode cX5_turnTime 38 = .ok (.ifCond .le 7, 3) := by decide +kernel
theorem dX5_turnTime_41 : decode cX5_turnTime 41 = .ok (.iload_n 2, 1) := by decide +kernel
theorem dX5_turnTime_42 : decode cX5_turnTime 42 = .ok (.iload_n 1, 1) := by decide +kernel
theorem dX5_turnTime_43 : decode cX5_turnTime 43 = .ok (.isub, 1) := by decide +kernel
theorem dX5_turnTime_44 : decode cX5_turnTime 44 = .ok (.ireturn, 1) := by decide +kernel
theorem dX5_turnTime_45 : decode cX5_turnTime 45 = .ok (.iload_n 2, 1) := by decide +kernel
theorem dX5_turnTime_46 : decode cX5_turnTime 46 = .ok (.istore_n 1, 1) := by decide +kernel
theorem dX5_turnTime_47 : decode cX5_turnTime 47 = .ok (.iinc 2 1, 3) := by decide +kernel
theorem dX5_turnTime_50 : decode cX5_turnTime 50 = .ok (.goto (-46), 3) := by decide +kernel
theorem dX5_turnTime_53 : decode cX5_turnTime 53 = .ok (.iconst 0, 1) := by decide +kernel
theorem dX5_turnTime_54 : decode cX5_turnTime 54 = .ok (.ireturn, 1) := by decide +kernel
theorem dX6_init_0 : decode cX6_init 0 = .ok (.aload_n 0, 1) := by decide +kernel
theorem dX6_init_1 : decode cX6_init 1 = .ok (.invokespecial 3, 3) := by decide +kernel
theorem dX6_init_4 : decode cX6_init 4 = .ok (.aload_n 0, 1) := by decide +kernel
theorem dX6_init_5 : decode cX6_init 5 = .ok (.new 9, 3) := by decide +kernel
theorem dX6_init_8 : decode cX6_init 8 = .ok (.dup, 1) := by decide +kernel
theorem dX6_init_9 : decode cX6_init 9 = .ok (.invokespecial 11, 3) := by decide +kernel
theorem dX6_init_12 : decode cX6_init 12 = .ok (.putfield 12, 3) := by decide +kernel
theorem dX6_init_15 : decode cX6_init 15 = .ok (.aload_n 0, 1) := by decide +kernel
theorem dX6_init_16 : decode cX6_init 16 = .ok (.new 9, 3) := by decide +kernel
theorem dX6_init_19 : decode cX6_init 19 = .ok (.dup, 1) := by decide +kernel
theorem dX6_init_20 : decode cX6_init 20 = .ok (.invokespecial 11, 3) := by decide +kernel
theorem dX6_init_23 : decode cX6_init 23 = .ok (.putfield 16, 3) := by decide +kernel
theorem dX6_init_26 : decode cX6_init 26 = .ok (.aload_n 0, 1) := by decide +kernel
theorem dX6_init_27 : decode cX6_init 27 = .ok (.bipush 12, 2) := by decide +kernel
theorem dX6_init_29 : decode cX6_init 29 = .ok (.anewarray 19, 3) := by decide +kernel
theorem dX6_init_32 : decode cX6_init 32 = .ok (.putfield 21, 3) := by decide +kernel
theorem dX6_init_35 : decode cX6_init 35 = .ok (.aload_n 0, 1) := by decide +kernel
theorem dX6_init_36 : decode cX6_init 36 = .ok (.iconst 0, 1) := by decide +kernel
theorem dX6_init_37 : decode cX6_init 37 = .ok (.putfield 25, 3) := by decide +kernel
theorem dX6_init_40 : decode cX6_init 40 = .ok (.aload_n 0, 1) := by decide +kernel
theorem dX6_init_41 : decode cX6_init 41 = .ok (.iconst (-1), 1) := by decide +kernel
theorem dX6_init_42 : decode cX6_init 42 = .ok (.putfield 29, 3) := by decide +kernel
theorem dX6_init_45 : decode cX6_init 45 = .ok (.aload_n 0, 1) := by decide +kernel
theorem dX6_init_46 : decode cX6_init 46 = .ok (.iconst (-1), 1) := by decide +kernel
theorem dX6_init_47 : decode cX6_init 47 = .ok (.putfield 32, 3) := by decide +kernel
theorem dX6_init_50 : decode cX6_init 50 = .ok (.aload_n 0, 1) := by decide +kernel
theorem dX6_init_51 : decode cX6_init 51 = .ok (.sipush 500, 3) := by decide +kernel
theorem dX6_init_54 : decode cX6_init 54 = .ok (.putfield 35, 3) := by decide +kernel
theorem dX6_init_57 : decode cX6_init 57 = .ok (.aload_n 0, 1) := by decide +kernel
theorem dX6_init_58 : decode cX6_init 58 = .ok (.sipush 500, 3) := by decide +kernel
theorem dX6_init_61 : decode cX6_init 61 = .ok (.putfield 38, 3) := by decide +kernel
theorem dX6_init_64 : decode cX6_init 64 = .ok (.aload_n 0, 1) := by decide +kernel
theorem dX6_init_65 : decode cX6_init 65 = .ok (.bipush 6, 2) := by decide +kernel
theorem dX6_init_67 : decode cX6_init 67 = .ok (.putfield 41, 3) := by decide +kernel
theorem dX6_init_70 : decode cX6_init 70 = .ok (.aload_n 0, 1) := by decide +kernel
theorem dX6_init_71 : decode cX6_init 71 = .ok (.bipush 100, 2) := by decide +kernel
theorem dX6_init_73 : decode cX6_init 73 = .ok (.anewarray 44, 3) := by decide +kernel
theorem dX6_init_76 : decode cX6_init 76 = .ok (.putfield 46, 3) := by decide +kernel
theorem dX6_init_79 : decode cX6_init 79 = .ok (.aload_n 0, 1) := by decide +kernel
theorem dX6_init_80 : decode cX6_init 80 = .ok (.iconst (-1), 1) := by decide +kernel
theorem dX6_init_81 : decode cX6_init 81 = .ok (.putfield 50, 3) := by decide +kernel
theorem dX6_init_84 : decode cX6_init 84 = .ok (.aload_n 0, 1) := by decide +kernel
theorem dX6_init_85 : decode cX6_init 85 = .ok (.sipush (-1000), 3) := by decide +kernel
theorem dX6_init_88 : decode cX6_init 88 = .ok (.putfield 53, 3) := by decide +kernel
theorem dX6_init_91 : decode cX6_init 91 = .ok (.aload_n 0, 1) := by decide +kernel
theorem dX6_init_92 : decode cX6_init 92 = .ok (.new 56, 3) := by decide +kernel
theorem dX6_init_95 : decode cX6_init 95 = .ok (.dup, 1) := by decide +kernel
theorem dX6_init_96 : decode cX6_init 96 = .ok (.invokespecial 58, 3) := by decide +kernel
theorem dX6_init_99 : decode cX6_init 99 = .ok (.putfield 59, 3) := by decide +kernel
theorem dX6_init_102 : decode cX6_init 102 = .ok (.aload_n 0, 1) := by decide +kernel
theorem dX6_init_103 : decode cX6_init 103 = .ok (.new 44, 3) := by decide +kernel
theorem dX6_init_106 : decode cX6_init 106 = .ok (.dup, 1) := by decide +kernel
theorem dX6_init_107 : decode cX6_init 107 = .ok (.invokespecial 63, 3) := by decide +kernel
theorem dX6_init_110 : decode cX6_init 110 = .ok (.putfield 64, 3) := by decide +kernel
theorem dX6_init_113 : decode cX6_init 113 = .ok (.aload_n 0, 1) := by decide +kernel
theorem dX6_init_114 : decode cX6_init 114 = .ok (.new 68, 3) := by decide +kernel
theorem dX6_init_117 : decode cX6_init 117 = .ok (.dup, 1) := by decide +kernel
theorem dX6_init_118 : decode cX6_init 118 = .ok (.invokespecial 70, 3) := by decide +kernel
theorem dX6_init_121 : decode cX6_init 121 = .ok (.putfield 71, 3) := by decide +kernel
theorem dX6_init_124 : decode cX6_init 124 = .ok (.iconst 0, 1) := by decide +kernel
theorem dX6_init_125 : decode cX6_init 125 = .ok (.istore_n 1, 1) := by decide +kernel
theorem dX6_init_126 : decode cX6_init 126 = .ok (.iload_n 1, 1) := by decide +kernel
theorem dX6_init_127 : decode cX6_init 127 = .ok (.aload_n 0, 1) := by decide +kernel
theorem dX6_init_128 : decode cX6_init 128 = .ok (.getfield 21, 3) := by decide +kernel
theorem dX6_init_131 : decode cX6_init 131 = .ok (.arraylength, 1) := by decide +kernel
theorem dX6_init_132 : decode cX6_init 132 = .ok (.if_icmp .ge 22, 3) := by decide +kernel
theorem dX6_init_135 : decode cX6_init 135 = .ok (.aload_n 0, 1) := by decide +kernel
theorem dX6_init_136 : decode cX6_init 136 = .ok (.getfield 21, 3) := by decide +kernel
theorem dX6_init_139 : decode cX6_init 139 = .ok (.iload_n 1, 1) := by decide +kernel
theorem dX6_init_140 : decode cX6_init 140 = .ok (.new 19, 3) := by decide +kernel
theorem dX6_init_143 : decode cX6_init 143 = .ok (.dup, 1) := by decide +kernel
theorem dX6_init_144 : decode cX6_init 144 = .ok (.invokespecial 75, 3) := by decide +kernel
theorem dX6_init_147 : decode cX6_init 147 = .ok (.aastore, 1) := by decide +kernel
theorem dX6_init_148 : decode cX6_init 148 = .ok (.iinc 1 1, 3) := by decide +kernel
theorem dX6_init_151 : decode cX6_init 151 = .ok (.goto (-25), 3) := by decide +kernel
theorem dX6_init_154 : decode cX6_init 154 = .ok (.return_, 1) := by decide +kernel
theorem dX6_round_0 : decode cX6_round 0 = .ok (.iload_n 2, 1) := by decide +kernel
theorem dX6_round_1 : decode cX6_round 1 = .ok (.sipush (-20000), 3) := by decide +kernel
theorem dX6_round_4 : decode cX6_round 4 = .ok (.sipush 20000, 3) := by decide +kernel
theorem dX6_round_7 : decode cX6_round 7 = .ok (.invokestatic 76, 3) := by decide +kernel
theorem dX6_round_10 : decode cX6_round 10 = .ok (.ifCond .eq 16, 3) := by decide +kernel
theorem dX6_round_13 : decode cX6_round 13 = .ok (.iload_n 3, 1) := by decide +kernel
theorem dX6_round_14 : decode cX6_round 14 = .ok (.sipush (-20000), 3) := by decide +kernel
theorem dX6_round_17 : decode cX6_round 17 = .ok (.sipush 20000, 3) := by decide +kernel
theorem dX6_round_20 : decode cX6_round 20 = .ok (.invokestatic 76, 3) := by decide +kernel
theorem dX6_round_23 : decode cX6_round 23 = .ok (.ifCond .ne 5, 3) := by decide +kernel
theorem dX6_round_26 : decode cX6_round 26 = .ok (.iconst (-1), 1) := by decide +kernel
theorem dX6_round_27 : decode cX6_round 27 = .ok (.ireturn, 1) := by decide +kernel
theorem dX6_round_28 : decode cX6_round 28 = .ok (.iload_n 1, 1) := by decide +kernel
theorem dX6_round_29 : decode cX6_round 29 = .ok (.ifCond .eq 18, 3) := by decide +kernel
theorem dX6_round_32 : decode cX6_round 32 = .ok (.aload_n 0, 1) := by decide +kernel
theorem dX6_round_33 : decode cX6_round 33 = .ok (.getfield 12, 3) := by decide +kernel
theorem dX6_round_36 : decode cX6_round 36 = .ok (.getfield 80, 3) := by decide +kernel
theorem dX6_round_39 : decode cX6_round 39 = .ok (.iload_n 2, 1) := by decide +kernel
theorem dX6_round_40 : decode cX6_round 40 = .ok (.iload_n 3, 1) := by decide +kernel
theorem dX6_round_41 : decode cX6_round 41 = .ok (.invokevirtual 84, 3) := by decide +kernel
theorem dX6_round_44 : decode cX6_round 44 = .ok (.goto 15, 3) := by decide +kernel
theorem dX6_round_47 : decode cX6_round 47 = .ok (.aload_n 0, 1) := by decide +kernel
theorem dX6_round_48 : decode cX6_round 48 = .ok (.getfield 12, 3) := by decide +kernel
theorem dX6_round_51 : decode cX6_round 51 = .ok (.getfield 90, 3) := by decide +kernel
theorem dX6_round_54 : decode cX6_round 54 = .ok (.iload_n 2, 1) := by decide +kernel
theorem dX6_round_55 : decode cX6_round 55 = .ok (.iload_n 3, 1) := by decide +kernel
theorem dX6_round_56 : decode cX6_round 56 = .ok (.invokevirtual 84, 3) := by decide +kernel
theorem dX6_round_59 : decode cX6_round 59 = .ok (.ireturn, 1) := by decide +kernel
theorem dX6_masses_0 : decode cX6_masses 0 = .ok (.iload_n 1, 1) := by decide +kernel
theorem dX6_masses_1 : decode cX6_masses 1 = .ok (.iconst 0, 1) := by decide +kernel
theorem dX6_masses_2 : decode cX6_masses 2 = .ok (.ldc 93, 2) := by decide +kernel
theorem dX6_masses_4 : decode cX6_masses 4 = .ok (.invokestatic 76, 3) := by decide +kernel
theorem dX6_masses_7 : decode cX6_masses 7 = .ok (.ifCond .eq 13, 3) := by decide +kernel
theorem dX6_masses_10 : decode cX6_masses 10 = .ok (.iload_n 2, 1) := by decide +kernel
theorem dX6_masses_11 : decode cX6_masses 11 = .ok (.iconst 0, 1) := by decide +kernel
theorem dX6_masses_12 : decode cX6_masses 12 = .ok (.ldc 93, 2) := by decide +kernel
theorem dX6_masses_14 : decode cX6_masses 14 = .ok (.invokestatic 76, 3) := by decide +kernel
theorem dX6_masses_17 : decode cX6_masses 17 = .ok (.ifCond .ne 5, 3) := by decide +kernel
theorem dX6_masses_20 : decode cX6_masses 20 = .ok (.iconst 0, 1) := by decide +kernel
theorem dX6_masses_21 : decode cX6_masses 21 = .ok (.ireturn, 1) := by decide +kernel
theorem dX6_masses_22 : decode cX6_masses 22 = .ok (.aload_n 0, 1) := by decide +kernel
theorem dX6_masses_23 : decode cX6_masses 23 = .ok (.getfield 12, 3) := by decide +kernel
theorem dX6_masses_26 : decode cX6_masses 26 = .ok (.iload_n 1, 1) := by decide +kernel
theorem dX6_masses_27 : decode cX6_masses 27 = .ok (.i2l, 1) := by decide +kernel
theorem dX6_masses_28 : decode cX6_masses 28 = .ok (.putfield 94, 3) := by decide +kernel
theorem dX6_masses_31 : decode cX6_masses 31 = .ok (.aload_n 0, 1) := by decide +kernel
theorem dX6_masses_32 : decode cX6_masses 32 = .ok (.getfield 12, 3) := by decide +kernel
theorem dX6_masses_35 : decode cX6_masses 35 = .ok (.iload_n 2, 1) := by decide +kernel
theorem dX6_masses_36 : decode cX6_masses 36 = .ok (.i2l, 1) := by decide +kernel
theorem dX6_masses_37 : decode cX6_masses 37 = .ok (.putfield 98, 3) := by decide +kernel
theorem dX6_masses_40 : decode cX6_masses 40 = .ok (.iconst 1, 1) := by decide +kernel
theorem dX6_masses_41 : decode cX6_masses 41 = .ok (.ireturn, 1) := by decide +kernel
theorem dX6_sight_0 : decode cX6_sight 0 = .ok (.aload_n 0, 1) := by decide +kernel
theorem dX6_sight_1 : decode cX6_sight 1 = .ok (.getfield 25, 3) := by decide +kernel
theorem dX6_sight_4 : decode cX6_sight 4 = .ok (.aload_n 0, 1) := by decide +kernel
theorem dX6_sight_5 : decode cX6_sight 5 = .ok (.getfield 21, 3) := by decide +kernel
theorem dX6_sight_8 : decode cX6_sight 8 = .ok (.arraylength, 1) := by decide +kernel
theorem dX6_sight_9 : decode cX6_sight 9 = .ok (.if_icmp .ge 40, 3) := by decide +kernel
theorem dX6_sight_12 : decode cX6_sight 12 = .ok (.iload_n 1, 1) := by decide +kernel
theorem dX6_sight_13 : decode cX6_sight 13 = .ok (.iconst 0, 1) := by decide +kernel
theorem dX6_sight_14 : decode cX6_sight 14 = .ok (.iconst 2, 1) := by decide +kernel
theorem dX6_sight_15 : decode cX6_sight 15 = .ok (.invokestatic 76, 3) := by decide +kernel
theorem dX6_sight_18 : decode cX6_sight 18 = .ok (.ifCond .eq 31, 3) := by decide +kernel
theorem dX6_sight_21 : decode cX6_sight 21 = .ok (.iload_n 2, 1) := by decide +kernel
theorem dX6_sight_22 : decode cX6_sight 22 = .ok (.invokestatic 101, 3) := by decide +kernel
theorem dX6_sight_25 : decode cX6_sight 25 = .ok (.ifCond .eq 24, 3) := by decide +kernel
theorem dX6_sight_28 : decode cX6_sight 28 = .ok (.iload_n 3, 1) := by decide +kernel
theorem dX6_sight_29 : decode cX6_sight 29 = .ok (.iload 4, 2) := by decide +kernel
theorem dX6_sight_31 : decode cX6_sight 31 = .ok (.invokestatic 105, 3) := by decide +kernel
theorem dX6_sight_34 : decode cX6_sight 34 = .ok (.ifCond .eq 15, 3) := by decide +kernel
theorem dX6_sight_37 : decode cX6_sight 37 = .ok (.iload 5, 2) := by decide +kernel
theorem dX6_sight_39 : decode cX6_sight 39 = .ok (.iconst 0, 1) := by decide +kernel
theorem dX6_sight_40 : decode cX6_sight 40 = .ok (.sipush 1000, 3) := by decide +kernel
theorem dX6_sight_43 : decode cX6_sight 43 = .ok (.invokestatic 76, 3) := by decide +kernel
theorem dX6_sight_46 : decode cX6_sight 46 = .ok (.ifCond .ne 5, 3) := by decide +kernel
theorem dX6_sight_49 : decode cX6_sight 49 = .ok (.iconst (-1), 1) := by decide +kernel
theorem dX6_sight_50 : decode cX6_sight 50 = .ok (.ireturn, 1) := by decide +kernel
theorem dX6_sight_51 : decode cX6_sight 51 = .ok (.aload_n 0, 1) := by decide +kernel
theorem dX6_sight_52 : decode cX6_sight 52 = .ok (.getfield 21, 3) := by decide +kernel
theorem dX6_sight_55 : decode cX6_sight 55 = .ok (.aload_n 0, 1) := by decide +kernel
theorem dX6_sight_56 : decode cX6_sight 56 = .ok (.getfield 25, 3) := by decide +kernel
theorem dX6_sight_59 : decode cX6_sight 59 = .ok (.aaload, 1) := by decide +kernel
theorem dX6_sight_60 : decode cX6_sight 60 = .ok (.astore 6, 2) := by decide +kernel
theorem dX6_sight_62 : decode cX6_sight 62 = .ok (.aload 6, 2) := by decide +kernel
theorem dX6_sight_64 : decode cX6_sight 64 = .ok (.ifnonnull 5, 3) := by decide +kernel
theorem dX6_sight_67 : decode cX6_sight 67 = .ok (.iconst (-1), 1) := by decide +kernel
theorem dX6_sight_68 : decode cX6_sight 68 = .ok (.ireturn, 1) := by decide +kernel
theorem dX6_sight_69 : decode cX6_sight 69 = .ok (.aload 6, 2) := by decide +kernel
theorem dX6_sight_71 : decode cX6_sight 71 = .ok (.iload_n 1, 1) := by decide +kernel
theorem dX6_sight_72 : decode cX6_sight 72 = .ok (.putfield 109, 3) := by decide +kernel
theorem dX6_sight_75 : decode cX6_sight 75 = .ok (.aload 6, 2) := by decide +kernel
theorem dX6_sight_77 : decode cX6_sight 77 = .ok (.iload_n 2, 1) := by decide +kernel
theorem dX6_sight_78 : decode cX6_sight 78 = .ok (.putfield 112, 3) := by decide +kernel
theorem dX6_sight_81 : decode cX6_sight 81 = .ok (.aload 6, 2) := by decide +kernel
theorem dX6_sight_83 : decode cX6_sight 83 = .ok (.iload_n 3, 1) := by decide +kernel
theorem dX6_sight_84 : decode cX6_sight 84 = .ok (.putfield 115, 3) := by decide +kernel
theorem dX6_sight_87 : decode cX6_sight 87 = .ok (.aload 6, 2) := by decide +kernel
theorem dX6_sight_89 : decode cX6_sight 89 = .ok (.iload 4, 2) := by decide +kernel
theorem dX6_sight_91 : decode cX6_sight 91 = .ok (.putfield 118, 3) := by decide +kernel
theorem dX6_sight_94 : decode cX6_sight 94 = .ok (.aload 6, 2) := by decide +kernel
theorem dX6_sight_96 : decode cX6_sight 96 = .ok (.iload 5, 2) := by decide +kernel
theorem dX6_sight_98 : decode cX6_sight 98 = .ok (.putfield 121, 3) := by decide +kernel
theorem dX6_sight_101 : decode cX6_sight 101 = .ok (.aload_n 0, 1) := by decide +kernel
theorem dX6_sight_102 : decode cX6_sight 102 = .ok (.dup, 1) := by decide +kernel
theorem dX6_sight_103 : decode cX6_sight 103 = .ok (.getfield 25, 3) := by decide +kernel
theorem dX6_sight_106 : decode cX6_sight 106 = .ok (.iconst 1, 1) := by decide +kernel
theorem dX6_sight_107 : decode cX6_sight 107 = .ok (.iadd, 1) := by decide +kernel
theorem dX6_sight_108 : decode cX6_sight 108 = .ok (.putfield 25, 3) := by decide +kernel
theorem dX6_sight_111 : decode cX6_sight 111 = .ok (.aload_n 0, 1) := by decide +kernel
theorem dX6_sight_112 : decode cX6_sight 112 = .ok (.getfield 25, 3) := by decide +kernel
theorem dX6_sight_115 : decode cX6_sight 115 = .ok (.iconst 1, 1) := by decide +kernel
theorem dX6_sight_116 : decode cX6_sight 116 = .ok (.isub, 1) := by decide +kernel
theorem dX6_sight_117 : decode cX6_sight 117 = .ok (.ireturn, 1) := by decide +kernel
theorem dX6_miss_0 : decode cX6_miss 0 = .ok (.aload_n 0, 1) := by decide +kernel
theorem dX6_miss_1 : decode cX6_miss 1 = .ok (.iload_n 1, 1) := by decide +kernel
theorem dX6_miss_2 : decode cX6_miss 2 = .ok (.invokevirtual 124, 3) := by decide +kernel
theorem dX6_miss_5 : decode cX6_miss 5 = .ok (.astore_n 3, 1) := by decide +kernel
theorem dX6_miss_6 : decode cX6_miss 6 = .ok (.aload_n 3, 1) := by decide +kernel
theorem dX6_miss_7 : decode cX6_miss 7 = .ok (.ifnull 14, 3) := by decide +kernel
theorem dX6_miss_10 : decode cX6_miss 10 = .ok (.iload_n 2, 1) := by decide +kernel
theorem dX6_miss_11 : decode cX6_miss 11 = .ok (.iconst 0, 1) := by decide +kernel
theorem dX6_miss_12 : decode cX6_miss 12 = .ok (.sipush 1000, 3) := by decide +kernel
theorem dX6_miss_15 : decode cX6_miss 15 = .ok (.invokestatic 76, 3) := by decide +kernel
theorem dX6_miss_18 : decode cX6_miss 18 = .ok (.ifCond .ne 5, 3) := by decide +kernel
theorem dX6_miss_21 : decode cX6_miss 21 = .ok (.iconst (-1), 1) := by decide +kernel
theorem dX6_miss_22 : decode cX6_miss 22 = .ok (.ireturn, 1) := by decide +kernel
theorem dX6_miss_23 : decode cX6_miss 23 = .ok (.aload_n 3, 1) := by decide +kernel
theorem dX6_miss_24 : decode cX6_miss 24 = .ok (.getfield 121, 3) := by decide +kernel
theorem dX6_miss_27 : decode cX6_miss 27 = .ok (.istore 4, 2) := by decide +kernel
theorem dX6_miss_29 : decode cX6_miss 29 = .ok (.aload_n 3, 1) := by decide +kernel
theorem dX6_miss_30 : decode cX6_miss 30 = .ok (.iload_n 2, 1) := by decide +kernel
theorem dX6_miss_31 : decode cX6_miss 31 = .ok (.putfield 121, 3) := by decide +kernel
theorem dX6_miss_34 : decode cX6_miss 34 = .ok (.iload 4, 2) := by decide +kernel
theorem dX6_miss_36 : decode cX6_miss 36 = .ok (.ireturn, 1) := by decide +kernel
theorem dX6_unsee_0 : decode cX6_unsee 0 = .ok (.aload_n 0, 1) := by decide +kernel
theorem dX6_unsee_1 : decode cX6_unsee 1 = .ok (.getfield 25, 3) := by decide +kernel
theorem dX6_unsee_4 : decode cX6_unsee 4 = .ok (.iconst 1, 1) := by decide +kernel
theorem dX6_unsee_5 : decode cX6_unsee 5 = .ok (.if_icmp .ge 5, 3) := by decide +kernel
theorem dX6_unsee_8 : decode cX6_unsee 8 = .ok (.iconst (-1), 1) := by decide +kernel
theorem dX6_unsee_9 : decode cX6_unsee 9 = .ok (.ireturn, 1) := by decide +kernel
theorem dX6_unsee_10 : decode cX6_unsee 10 = .ok (.aload_n 0, 1) := by decide +kernel
theorem dX6_unsee_11 : decode cX6_unsee 11 = .ok (.dup, 1) := by decide +kernel
theorem dX6_unsee_12 : decode cX6_unsee 12 = .ok (.getfield 25, 3) := by decide +kernel
theorem dX6_unsee_15 : decode cX6_unsee 15 = .ok (.iconst 1, 1) := by decide +kernel
theorem dX6_unsee_16 : decode cX6_unsee 16 = .ok (.isub, 1) := by decide +kernel
theorem dX6_unsee_17 : decode cX6_unsee 17 = .ok (.putfield 25, 3) := by decide +kernel
theorem dX6_unsee_20 : decode cX6_unsee 20 = .ok (.aload_n 0, 1) := by decide +kernel
theorem dX6_unsee_21 : decode cX6_unsee 21 = .ok (.aload_n 0, 1) := by decide +kernel
theorem dX6_unsee_22 : decode cX6_unsee 22 = .ok (.getfield 25, 3) := by decide +kernel
theorem dX6_unsee_25 : decode cX6_unsee 25 = .ok (.invokevirtual 128, 3) := by decide +kernel
theorem dX6_unsee_28 : decode cX6_unsee 28 = .ok (.ifCond .eq 13, 3) := by decide +kernel
theorem dX6_unsee_31 : decode cX6_unsee 31 = .ok (.aload_n 0, 1) := by decide +kernel
theorem dX6_unsee_32 : decode cX6_unsee 32 = .ok (.iconst (-1), 1) := by decide +kernel
theorem dX6_unsee_33 : decode cX6_unsee 33 = .ok (.putfield 29, 3) := by decide +kernel
theorem dX6_unsee_36 : decode cX6_unsee 36 = .ok (.aload_n 0, 1) := by decide +kernel
theorem dX6_unsee_37 : decode cX6_unsee 37 = .ok (.iconst (-1), 1) := by decide +kernel
theorem dX6_unsee_38 : decode cX6_unsee 38 = .ok (.putfield 32, 3) := by decide +kernel
theorem dX6_unsee_41 : decode cX6_unsee 41 = .ok (.aload_n 0, 1) := by decide +kernel
theorem dX6_unsee_42 : decode cX6_unsee 42 = .ok (.getfield 25, 3) := by decide +kernel
theorem dX6_unsee_45 : decode cX6_unsee 45 = .ok (.ireturn, 1) := by decide +kernel
theorem dX6_grid_0 : decode cX6_grid 0 = .ok (.iload_n 1, 1) := by decide +kernel
theorem dX6_grid_1 : decode cX6_grid 1 = .ok (.iconst 1, 1) := by decide +kernel
theorem dX6_grid_2 : decode cX6_grid 2 = .ok (.sipush 20000, 3) := by decide +kernel
theorem dX6_grid_5 : decode cX6_grid 5 = .ok (.invokestatic 76, 3) := by decide +kernel
theorem dX6_grid_8 : decode cX6_grid 8 = .ok (.ifCond .eq 24, 3) := by decide +kernel
theorem dX6_grid_11 : decode cX6_grid 11 = .ok (.iload_n 2, 1) := by decide +kernel
theorem dX6_grid_12 : decode cX6_grid 12 = .ok (.iconst 1, 1) := by decide +kernel
theorem dX6_grid_13 : decode cX6_grid 13 = .ok (.sipush 2000, 3) := by decide +kernel
theorem dX6_grid_16 : decode cX6_grid 16 = .ok (.invokestatic 76, 3) := by decide +kernel
theorem dX6_grid_19 : decode cX6_grid 19 = .ok (.ifCond .eq 13, 3) := by decide +kernel
theorem dX6_grid_22 : decode cX6_grid 22 = .ok (.iload_n 3, 1) := by decide +kernel
theorem dX6_grid_23 : decode cX6_grid 23 = .ok (.iconst 1, 1) := by decide +kernel
theorem dX6_grid_24 : decode cX6_grid 24 = .ok (.bipush 10, 2) := by decide +kernel
theorem dX6_grid_26 : decode cX6_grid 26 = .ok (.invokestatic 76, 3) := by decide +kernel
theorem dX6_grid_29 : decode cX6_grid 29 = .ok (.ifCond .ne 5, 3) := by decide +kernel
theorem dX6_grid_32 : decode cX6_grid 32 = .ok (.iconst 0, 1) := by decide +kernel
theorem dX6_grid_33 : decode cX6_grid 33 = .ok (.ireturn, 1) := by decide +kernel
theorem dX6_grid_34 : decode cX6_grid 34 = .ok (.aload_n 0, 1) := by decide +kernel
theorem dX6_grid_35 : decode cX6_grid 35 = .ok (.iload_n 1, 1) := by decide +kernel
theorem dX6_grid_36 : decode cX6_grid 36 = .ok (.putfield 35, 3) := by decide +kernel
theorem dX6_grid_39 : decode cX6_grid 39 = .ok (.aload_n 0, 1) := by decide +kernel
theorem dX6_grid_40 : decode cX6_grid 40 = .ok (.iload_n 2, 1) := by decide +kernel
theorem dX6_grid_41 : decode cX6_grid 41 = .ok (.putfield 38, 3) := by decide +kernel
theorem dX6_grid_44 : decode cX6_grid 44 = .ok (.aload_n 0, 1) := by decide +kernel
theorem dX6_grid_45 : decode cX6_grid 45 = .ok (.iload_n 3, 1) := by decide +kernel
theorem dX6_grid_46 : decode cX6_grid 46 = .ok (.putfield 41, 3) := by decide +kernel
theorem dX6_grid_49 : decode cX6_grid 49 = .ok (.iconst 1, 1) := by decide +kernel
theorem dX6_grid_50 : decode cX6_grid 50 = .ok (.ireturn, 1) := by decide +kernel
theorem dX6_base_0 : decode cX6_base 0 = .ok (.aload_n 0, 1) := by decide +kernel
theorem dX6_base_1 : decode cX6_base 1 = .ok (.iload_n 1, 1) := by decide +kernel
theorem dX6_base_2 : decode cX6_base 2 = .ok (.invokevirtual 124, 3) := by decide +kernel
theorem dX6_base_5 : decode cX6_base 5 = .ok (.astore_n 3, 1) := by decide +kernel
theorem dX6_base_6 : decode cX6_base 6 = .ok (.aload_n 0, 1) := by decide +kernel
theorem dX6_base_7 : decode cX6_base 7 = .ok (.iload_n 2, 1) := by decide +kernel
theorem dX6_base_8 : decode cX6_base 8 = .ok (.invokevirtual 124, 3) := by decide +kernel
theorem dX6_base_11 : decode cX6_base 11 = .ok (.astore 4, 2) := by decide +kernel
theorem dX6_base_13 : decode cX6_base 13 = .ok (.aload_n 3, 1) := by decide +kernel
theorem dX6_base_14 : decode cX6_base 14 = .ok (.ifnull 35, 3) := by decide +kernel
theorem dX6_base_17 : decode cX6_base 17 = .ok (.aload 4, 2) := by decide +kernel
theorem dX6_base_19 : decode cX6_base 19 = .ok (.ifnull 30, 3) := by decide +kernel
theorem dX6_base_22 : decode cX6_base 22 = .ok (.aload_n 3, 1) := by decide +kernel
theorem dX6_base_23 : decode cX6_base 23 = .ok (.getfield 109, 3) := by decide +kernel
theorem dX6_base_26 : decode cX6_base 26 = .ok (.ifCond .ne 23, 3) := by decide +kernel
theorem dX6_base_29 : decode cX6_base 29 = .ok (.aload 4, 2) := by decide +kernel
theorem dX6_base_31 : decode cX6_base 31 = .ok (.getfield 109, 3) := by decide +kernel
theorem dX6_base_34 : decode cX6_base 34 = .ok (.ifCond .ne 15, 3) := by decide +kernel
theorem dX6_base_37 : decode cX6_base 37 = .ok (.aload_n 3, 1) := by decide +kernel
theorem dX6_base_38 : decode cX6_base 38 = .ok (.getfield 112, 3) := by decide +kernel
theorem dX6_base_41 : decode cX6_base 41 = .ok (.aload 4, 2) := by decide +kernel
theorem dX6_base_43 : decode cX6_base 43 = .ok (.getfield 112, 3) := by decide +kernel
theorem dX6_base_46 : decode cX6_base 46 = .ok (.if_icmp .ne 5, 3) := by decide +kernel
theorem dX6_base_49 : decode cX6_base 49 = .ok (.iconst 0, 1) := by decide +kernel
theorem dX6_base_50 : decode cX6_base 50 = .ok (.ireturn, 1) := by decide +kernel
theorem dX6_base_51 : decode cX6_base 51 = .ok (.aload_n 0, 1) := by decide +kernel
theorem dX6_base_52 : decode cX6_base 52 = .ok (.aload_n 3, 1) := by decide +kernel
theorem dX6_base_53 : decode cX6_base 53 = .ok (.getfield 112, 3) := by decide +kernel
theorem dX6_base_56 : decode cX6_base 56 = .ok (.aload 4, 2) := by decide +kernel
theorem dX6_base_58 : decode cX6_base 58 = .ok (.getfield 112, 3) := by decide +kernel
theorem dX6_base_61 : decode cX6_base 61 = .ok (.if_icmp .ge 7, 3) := by decide +kernel
theorem dX6_base_64 : decode cX6_base 64 = .ok (.iload_n 1, 1) := by decide +kernel
theorem dX6_base_65 : decode cX6_base 65 = .ok (.goto 4, 3) := by decide +kernel
theorem dX6_base_68 : decode cX6_base 68 = .ok (.iload_n 2, 1) := by decide +kernel
theorem dX6_base_69 : decode cX6_base 69 = .ok (.putfield 29, 3) := by decide +kernel
theorem dX6_base_72 : decode cX6_base 72 = .ok (.aload_n 0, 1) := by decide +kernel
theorem dX6_base_73 : decode cX6_base 73 = .ok (.aload_n 3, 1) := by decide +kernel
theorem dX6_base_74 : decode cX6_base 74 = .ok (.getfield 112, 3) := by decide +kernel
theorem dX6_base_77 : decode cX6_base 77 = .ok (.aload 4, 2) := by decide +kernel
theorem dX6_base_79 : decode cX6_base 79 = .ok (.getfield 112, 3) := by decide +kernel
theorem dX6_base_82 : decode cX6_base 82 = .ok (.if_icmp .ge 7, 3) := by decide +kernel
theorem dX6_base_85 : decode cX6_base 85 = .ok (.iload_n 2, 1) := by decide +kernel
theorem dX6_base_86 : decode cX6_base 86 = .ok (.goto 4, 3) := by decide +kernel
theorem dX6_base_89 : decode cX6_base 89 = .ok (.iload_n 1, 1) := by decide +kernel
theorem dX6_base_90 : decode cX6_base 90 = .ok (.putfield 32, 3) := by decide +kernel
theorem dX6_base_93 : decode cX6_base 93 = .ok (.iconst 1, 1) := by decide +kernel
theorem dX6_base_94 : decode cX6_base 94 = .ok (.ireturn, 1) := by decide +kernel
theorem dX6_keep_0 : decode cX6_keep 0 = .ok (.aload_n 0, 1) := by decide +kernel
theorem dX6_keep_1 : decode cX6_keep 1 = .ok (.invokevirtual 131, 3) := by decide +kernel
theorem dX6_keep_4 : decode cX6_keep 4 = .ok (.ifCond .ne 5, 3) := by decide +kernel
theorem dX6_keep_7 : decode cX6_keep 7 = .ok (.iconst (-1), 1) := by decide +kernel
theorem dX6_keep_8 : decode cX6_keep 8 = .ok (.ireturn, 1) := by decide +kernel
theorem dX6_keep_9 : decode cX6_keep 9 = .ok (.aload_n 0, 1) := by decide +kernel
theorem dX6_keep_10 : decode cX6_keep 10 = .ok (.getfield 16, 3) := by decide +kernel
theorem dX6_keep_13 : decode cX6_keep 13 = .ok (.aload_n 0, 1) := by decide +kernel
theorem dX6_keep_14 : decode cX6_keep 14 = .ok (.getfield 12, 3) := by decide +kernel
theorem dX6_keep_17 : decode cX6_keep 17 = .ok (.invokevirtual 135, 3) := by decide +kernel
theorem dX6_keep_20 : decode cX6_keep 20 = .ok (.aload_n 0, 1) := by decide +kernel
theorem dX6_keep_21 : decode cX6_keep 21 = .ok (.aload_n 0, 1) := by decide +kernel
theorem dX6_keep_22 : decode cX6_keep 22 = .ok (.iconst (-1), 1) := by decide +kernel
theorem dX6_keep_23 : decode cX6_keep 23 = .ok (.iconst 1, 1) := by decide +kernel
theorem dX6_keep_24 : decode cX6_keep 24 = .ok (.invokevirtual 139, 3) := by decide +kernel
theorem dX6_keep_27 : decode cX6_keep 27 = .ok (.putfield 50, 3) := by decide +kernel
theorem dX6_keep_30 : decode cX6_keep 30 = .ok (.aload_n 0, 1) := by decide +kernel
theorem dX6_keep_31 : decode cX6_keep 31 = .ok (.getfield 50, 3) := by decide +kernel
theorem dX6_keep_34 : decode cX6_keep 34 = .ok (.ireturn, 1) := by decide +kernel
theorem dX6_way_0 : decode cX6_way 0 = .ok (.aload_n 0, 1) := by decide +kernel
theorem dX6_way_1 : decode cX6_way 1 = .ok (.iload_n 1, 1) := by decide +kernel
theorem dX6_way_2 : decode cX6_way 2 = .ok (.invokevirtual 143, 3) := by decide +kernel
theorem dX6_way_5 : decode cX6_way 5 = .ok (.astore_n 3, 1) := by decide +kernel
theorem dX6_way_6 : decode cX6_way 6 = .ok (.aload_n 3, 1) := by decide +kernel
theorem dX6_way_7 : decode cX6_way 7 = .ok (.ifnonnull 6, 3) := by decide +kernel
theorem dX6_way_10 : decode cX6_way 10 = .ok (.ldc 147, 2) := by decide +kernel
theorem dX6_way_12 : decode cX6_way 12 = .ok (.ireturn, 1) := by decide +kernel
theorem dX6_way_13 : decode cX6_way 13 = .ok (.iload_n 2, 1) := by decide +kernel
theorem dX6_way_14 : decode cX6_way 14 = .ok (.tableswitch 77 0 6 #[42, 47, 52, 57, 62, 67, 72], 42) := by decide +kernel
theorem dX6_way_56 : decode cX6_way 56 = .ok (.aload_n 3, 1) := by decide +kernel
theorem dX6_way_57 : decode cX6_way 57 = .ok (.getfield 148, 3) := by decide +kernel
theorem dX6_way_60 : decode cX6_way 60 = .ok (.ireturn, 1) := by decide +kernel
theorem dX6_way_61 : decode cX6_way 61 = .ok (.aload_n 3, 1) := by decide +kernel
theorem dX6_way_62 : decode cX6_way 62 = .ok (.getfield 151, 3) := by decide +kernel
theorem dX6_way_65 : decode cX6_way 65 = .ok (.ireturn, 1) := by decide +kernel
theorem dX6_way_66 : decode cX6_way 66 = .ok (.aload_n 3, 1) := by decide +kernel
theorem dX6_way_67 : decode cX6_way 67 = .ok (.getfield 154, 3) := by decide +kernel
theorem dX6_way_70 : decode cX6_way 70 = .ok (.ireturn, 1) := by decide +kernel
theorem dX6_way_71 : decode cX6_way 71 = .ok (.aload_n 3, 1) := by decide +kernel
theorem dX6_way_72 : decode cX6_way 72 = .ok (.getfield 157, 3) := by decide +kernel
theorem dX6_way_75 : decode cX6_way 75 = .ok (.ireturn, 1) := by decide +kernel
theorem dX6_way_76 : decode cX6_way 76 = .ok (.aload_n 3, 1) := by decide +kernel
theorem dX6_way_77 : decode cX6_way 77 = .ok (.getfield 160, 3) := by decide +kernel
theorem dX6_way_80 : decode cX6_way 80 = .ok (.ireturn, 1) := by decide +kernel
theorem dX6_way_81 : decode cX6_way 81 = .ok (.aload_n 3, 1) := by decide +kernel
theorem dX6_way_82 : decode cX6_way 82 = .ok (.getfield 163, 3) := by decide +kernel
theorem dX6_way_85 : decode cX6_way 85 = .ok (.ireturn, 1) := by decide +kernel
theorem dX6_way_86 : decode cX6_way 86 = .ok (.aload_n 3, 1) := by decide +kernel
theorem dX6_way_87 : decode cX6_way 87 = .ok (.getfield 166, 3) := by decide +kernel
theorem dX6_way_90 : decode cX6_way 90 = .ok (.ireturn, 1) := by decide +kernel
theorem dX6_way_91 : decode cX6_way 91 = .ok (.ldc 147, 2) := by decide +kernel
theorem dX6_way_93 : decode cX6_way 93 = .ok (.ireturn, 1) := by decide +kernel
theorem dX6_at_0 : decode cX6_at 0 = .ok (.aload_n 0, 1) := by decide +kernel
theorem dX6_at_1 : decode cX6_at 1 = .ok (.iload_n 1, 1) := by decide +kernel
theorem dX6_at_2 : decode cX6_at 2 = .ok (.invokevirtual 167, 3) := by decide +kernel
theorem dX6_at_5 : decode cX6_at 5 = .ok (.astore 4, 2) := by decide +kernel
theorem dX6_at_7 : decode cX6_at 7 = .ok (.aload 4, 2) := by decide +kernel
theorem dX6_at_9 : decode cX6_at 9 = .ok (.ifnull 12, 3) := by decide +kernel
theorem dX6_at_12 : decode cX6_at 12 = .ok (.aload 4, 2) := by decide +kernel
theorem dX6_at_14 : decode cX6_at 14 = .ok (.iload_n 2, 1) := by decide +kernel
theorem dX6_at_15 : decode cX6_at 15 = .ok (.invokevirtual 170, 3) := by decide +kernel
theorem dX6_at_18 : decode cX6_at 18 = .ok (.ifCond .ne 6, 3) := by decide +kernel
theorem dX6_at_21 : decode cX6_at 21 = .ok (.ldc 147, 2) := by decide +kernel
theorem dX6_at_23 : decode cX6_at 23 = .ok (.ireturn, 1) := by decide +kernel
theorem dX6_at_24 : decode cX6_at 24 = .ok (.iload_n 3, 1) := by decide +kernel
theorem dX6_at_25 : decode cX6_at 25 = .ok (.tableswitch 77 0 3 #[31, 38, 45, 61], 31) := by decide +kernel
theorem dX6_at_56 : decode cX6_at 56 = .ok (.aload 4, 2) := by decide +kernel
theorem dX6_at_58 : decode cX6_at 58 = .ok (.iload_n 2, 1) := by decide +kernel
theorem dX6_at_59 : decode cX6_at 59 = .ok (.invokevirtual 173, 3) := by decide +kernel
theorem dX6_at_62 : decode cX6_at 62 = .ok (.ireturn, 1) := by decide +kernel
theorem dX6_at_63 : decode cX6_at 63 = .ok (.aload 4, 2) := by decide +kernel
theorem dX6_at_65 : decode cX6_at 65 = .ok (.iload_n 2, 1) := by decide +kernel
theorem dX6_at_66 : decode cX6_at 66 = .ok (.invokevirtual 177, 3) := by decide +kernel
theorem dX6_at_69 : decode cX6_at 69 = .ok (.ireturn, 1) := by decide +kernel
theorem dX6_at_70 : decode cX6_at 70 = .ok (.aload 4, 2) := by decide +kernel
theorem dX6_at_72 : decode cX6_at 72 = .ok (.iload_n 2, 1) := by decide +kernel
theorem dX6_at_73 : decode cX6_at 73 = .ok (.iconst 1, 1) := by decide +kernel
theorem dX6_at_74 : decode cX6_at 74 = .ok (.iadd, 1) := by decide +kernel
theorem dX6_at_75 : decode cX6_at 75 = .ok (.invokevirtual 173, 3) := by decide +kernel
theorem dX6_at_78 : decode cX6_at 78 = .ok (.aload 4, 2) := by decide +kernel
theorem dX6_at_80 : decode cX6_at 80 = .ok (.iload_n 2, 1) := by decide +kernel
theorem dX6_at_81 : decode cX6_at 81 = .ok (.invokevirtual 173, 3) := by decide +kernel
theorem dX6_at_84 : decode cX6_at 84 = .ok (.isub, 1) := by decide +kernel
theorem dX6_at_85 : decode cX6_at 85 = .ok (.ireturn, 1) := by decide +kernel
theorem dX6_at_86 : decode cX6_at 86 = .ok (.aload 4, 2) := by decide +kernel
theorem dX6_at_88 : decode cX6_at 88 = .ok (.iload_n 2, 1) := by decide +kernel
theorem dX6_at_89 : decode cX6_at 89 = .ok (.iconst 1, 1) := by decide +kernel
theorem dX6_at_90 : decode cX6_at 90 = .ok (.iadd, 1) := by decide +kernel
theorem dX6_at_91 : decode cX6_at 91 = .ok (.invokevirtual 177, 3) := by decide +kernel
theorem dX6_at_94 : decode cX6_at 94 = .ok (.aload 4, 2) := by decide +kernel
theorem dX6_at_96 : decode cX6_at 96 = .ok (.iload_n 2, 1) := by decide +kernel
theorem dX6_at_97 : decode cX6_at 97 = .ok (.invokevirtual 177, 3) := by decide +kernel
theorem dX6_at_100 : decode cX6_at 100 = .ok (.isub, 1) := by decide +kernel
theorem dX6_at_101 : decode cX6_at 101 = .ok (.ireturn, 1) := by decide +kernel
theorem dX6_at_102 : decode cX6_at 102 = .ok (.ldc 147, 2) := by decide +kernel
theorem dX6_at_104 : decode cX6_at 104 = .ok (.ireturn, 1) := by decide +kernel
theorem dX6_fits_0 : decode cX6_fits 0 = .ok (.aload_n 0, 1) := by decide +kernel
theorem dX6_fits_1 : decode cX6_fits 1 = .ok (.iload_n 1, 1) := by decide +kernel
theorem dX6_fits_2 : decode cX6_fits 2 = .ok (.invokevirtual 167, 3) := by decide +kernel
theorem dX6_fits_5 : decode cX6_fits 5 = .ok (.astore_n 3, 1) := by decide +kernel
theorem dX6_fits_6 : decode cX6_fits 6 = .ok (.aload_n 0, 1) := by decide +kernel
theorem dX6_fits_7 : decode cX6_fits 7 = .ok (.iload_n 2, 1) := by decide +kernel
theorem dX6_fits_8 : decode cX6_fits 8 = .ok (.invokevirtual 124, 3) := by decide +kernel
theorem dX6_fits_11 : decode cX6_fits 11 = .ok (.astore 4, 2) := by decide +kernel
theorem dX6_fits_13 : decode cX6_fits 13 = .ok (.aload_n 3, 1) := by decide +kernel
theorem dX6_fits_14 : decode cX6_fits 14 = .ok (.ifnull 8, 3) := by decide +kernel
theorem dX6_fits_17 : decode cX6_fits 17 = .ok (.aload 4, 2) := by decide +kernel
theorem dX6_fits_19 : decode cX6_fits 19 = .ok (.ifnonnull 5, 3) := by decide +kernel
theorem dX6_fits_22 : decode cX6_fits 22 = .ok (.iconst (-1), 1) := by decide +kernel
theorem dX6_fits_23 : decode cX6_fits 23 = .ok (.ireturn, 1) := by decide +kernel
theorem dX6_fits_24 : decode cX6_fits 24 = .ok (.aload_n 0, 1) := by decide +kernel
theorem dX6_fits_25 : decode cX6_fits 25 = .ok (.aload_n 3, 1) := by decide +kernel
theorem dX6_fits_26 : decode cX6_fits 26 = .ok (.aload 4, 2) := by decide +kernel
theorem dX6_fits_28 : decode cX6_fits 28 = .ok (.invokevirtual 180, 3) := by decide +kernel
theorem dX6_fits_31 : decode cX6_fits 31 = .ok (.ifCond .eq 7, 3) := by decide +kernel
theorem dX6_fits_34 : decode cX6_fits 34 = .ok (.iconst 1, 1) := by decide +kernel
theorem dX6_fits_35 : decode cX6_fits 35 = .ok (.goto 4, 3) := by decide +kernel
theorem dX6_fits_38 : decode cX6_fits 38 = .ok (.iconst 0, 1) := by decide +kernel
theorem dX6_fits_39 : decode cX6_fits 39 = .ok (.ireturn, 1) := by decide +kernel
theorem dX6_fitting_0 : decode cX6_fitting 0 = .ok (.aload_n 0, 1) := by decide +kernel
theorem dX6_fitting_1 : decode cX6_fitting 1 = .ok (.iload_n 1, 1) := by decide +kernel
theorem dX6_fitting_2 : decode cX6_fitting 2 = .ok (.invokevirtual 124, 3) := by decide +kernel
theorem dX6_fitting_5 : decode cX6_fitting 5 = .ok (.astore_n 2, 1) := by decide +kernel
theorem dX6_fitting_6 : decode cX6_fitting 6 = .ok (.aload_n 2, 1) := by decide +kernel
theorem dX6_fitting_7 : decode cX6_fitting 7 = .ok (.ifnonnull 5, 3) := by decide +kernel
theorem dX6_fitting_10 : decode cX6_fitting 10 = .ok (.iconst (-1), 1) := by decide +kernel
theorem dX6_fitting_11 : decode cX6_fitting 11 = .ok (.ireturn, 1) := by decide +kernel
theorem dX6_fitting_12 : decode cX6_fitting 12 = .ok (.aload_n 0, 1) := by decide +kernel
theorem dX6_fitting_13 : decode cX6_fitting 13 = .ok (.invokevirtual 184, 3) := by decide +kernel
theorem dX6_fitting_16 : decode cX6_fitting 16 = .ok (.iconst 0, 1) := by decide +kernel
theorem dX6_fitting_17 : decode cX6_fitting 17 = .ok (.istore_n 3, 1) := by decide +kernel
theorem dX6_fitting_18 : decode cX6_fitting 18 = .ok (.iconst 0, 1) := by decide +kernel
theorem dX6_fitting_19 : decode cX6_fitting 19 = .ok (.istore 4, 2) := by decide +kernel
theorem dX6_fitting_21 : decode cX6_fitting 21 = .ok (.iload 4, 2) := by decide +kernel
theorem dX6_fitting_23 : decode cX6_fitting 23 = .ok (.aload_n 0, 1) := by decide +kernel
theorem dX6_fitting_24 : decode cX6_fitting 24 = .ok (.getfield 50, 3) := by decide +kernel
theorem dX6_fitting_27 : decode cX6_fitting 27 = .ok (.if_icmp .ge 35, 3) := by decide +kernel
theorem dX6_fitting_30 : decode cX6_fitting 30 = .ok (.aload_n 0, 1) := by decide +kernel
theorem dX6_fitting_31 : decode cX6_fitting 31 = .ok (.iload 4, 2) := by decide +kernel
theorem dX6_fitting_33 : decode cX6_fitting 33 = .ok (.invokevirtual 143, 3) := by decide +kernel
theorem dX6_fitting_36 : decode cX6_fitting 36 = .ok (.astore 5, 2) := by decide +kernel
theorem dX6_fitting_38 : decode cX6_fitting 38 = .ok (.aload 5, 2) := by decide +kernel
theorem dX6_fitting_40 : decode cX6_fitting 40 = .ok (.ifnull 16, 3) := by decide +kernel
theorem dX6_fitting_43 : decode cX6_fitting 43 = .ok (.aload_n 0, 1) := by decide +kernel
theorem dX6_fitting_44 : decode cX6_fitting 44 = .ok (.aload 5, 2) := by decide +kernel
theorem dX6_fitting_46 : decode cX6_fitting 46 = .ok (.aload_n 2, 1) := by decide +kernel
theorem dX6_fitting_47 : decode cX6_fitting 47 = .ok (.invokevirtual 180, 3) := by decide +kernel
theorem dX6_fitting_50 : decode cX6_fitting 50 = .ok (.ifCond .eq 6, 3) := by decide +kernel
theorem dX6_fitting_53 : decode cX6_fitting 53 = .ok (.iinc 3 1, 3) := by decide +kernel
theorem dX6_fitting_56 : decode cX6_fitting 56 = .ok (.iinc 4 1, 3) := by decide +kernel
theorem dX6_fitting_59 : decode cX6_fitting 59 = .ok (.goto (-38), 3) := by decide +kernel
theorem dX6_fitting_62 : decode cX6_fitting 62 = .ok (.iload_n 3, 1) := by decide +kernel
theorem dX6_fitting_63 : decode cX6_fitting 63 = .ok (.ireturn, 1) := by decide +kernel
theorem dX6_without_0 : decode cX6_without 0 = .ok (.aload_n 0, 1) := by decide +kernel
theorem dX6_without_1 : decode cX6_without 1 = .ok (.invokevirtual 131, 3) := by decide +kernel
theorem dX6_without_4 : decode cX6_without 4 = .ok (.ifCond .eq 19, 3) := by decide +kernel
theorem dX6_without_7 : decode cX6_without 7 = .ok (.aload_n 0, 1) := by decide +kernel
theorem dX6_without_8 : decode cX6_without 8 = .ok (.iload_n 1, 1) := by decide +kernel
theorem dX6_without_9 : decode cX6_without 9 = .ok (.invokevirtual 124, 3) := by decide +kernel
theorem dX6_without_12 : decode cX6_without 12 = .ok (.ifnull 11, 3) := by decide +kernel
theorem dX6_without_15 : decode cX6_without 15 = .ok (.aload_n 0, 1) := by decide +kernel
theorem dX6_without_16 : decode cX6_without 16 = .ok (.iload_n 1, 1) := by decide +kernel
theorem dX6_without_17 : decode cX6_without 17 = .ok (.invokevirtual 128, 3) := by decide +kernel
theorem dX6_without_20 : decode cX6_without 20 = .ok (.ifCond .eq 5, 3) := by decide +kernel
theorem dX6_without_23 : decode cX6_without 23 = .ok (.iconst (-1), 1) := by decide +kernel
theorem dX6_without_24 : decode cX6_without 24 = .ok (.ireturn, 1) := by decide +kernel
theorem dX6_without_25 : decode cX6_without 25 = .ok (.aload_n 0, 1) := by decide +kernel
theorem dX6_without_26 : decode cX6_without 26 = .ok (.iload_n 1, 1) := by decide +kernel
theorem dX6_without_27 : decode cX6_without 27 = .ok (.iconst 0, 1) := by decide +kernel
theorem dX6_without_28 : decode cX6_without 28 = .ok (.invokevirtual 139, 3) := by decide +kernel
theorem dX6_without_31 : decode cX6_without 31 = .ok (.ireturn, 1) := by decide +kernel
theorem dX6_patch_0 : decode cX6_patch 0 = .ok (.iload_n 1, 1) := by decide +kernel
theorem dX6_patch_1 : decode cX6_patch 1 = .ok (.invokestatic 101, 3) := by decide +kernel
theorem dX6_patch_4 : decode cX6_patch 4 = .ok (.ifCond .ne 5, 3) := by decide +kernel
theorem dX6_patch_7 : decode cX6_patch 7 = .ok (.iconst (-1), 1) := by decide +kernel
theorem dX6_patch_8 : decode cX6_patch 8 = .ok (.ireturn, 1) := by decide +kernel
theorem dX6_patch_9 : decode cX6_patch 9 = .ok (.aload_n 0, 1) := by decide +kernel
theorem dX6_patch_10 : decode cX6_patch 10 = .ok (.invokevirtual 184, 3) := by decide +kernel
theorem dX6_patch_13 : decode cX6_patch 13 = .ok (.aload_n 0, 1) := by decide +kernel
theorem dX6_patch_14 : decode cX6_patch 14 = .ok (.iload_n 1, 1) := by decide +kernel
theorem dX6_patch_15 : decode cX6_patch 15 = .ok (.invokevirtual 187, 3) := by decide +kernel
theorem dX6_patch_18 : decode cX6_patch 18 = .ok (.ireturn, 1) := by decide +kernel
theorem dX6_side_0 : decode cX6_side 0 = .ok (.iload_n 1, 1) := by decide +kernel
theorem dX6_side_1 : decode cX6_side 1 = .ok (.invokestatic 101, 3) := by decide +kernel
theorem dX6_side_4 : decode cX6_side 4 = .ok (.ifCond .ne 5, 3) := by decide +kernel
theorem dX6_side_7 : decode cX6_side 7 = .ok (.iconst (-1), 1) := by decide +kernel
theorem dX6_side_8 : decode cX6_side 8 = .ok (.ireturn, 1) := by decide +kernel
theorem dX6_side_9 : decode cX6_side 9 = .ok (.aload_n 0, 1) := by decide +kernel
theorem dX6_side_10 : decode cX6_side 10 = .ok (.invokevirtual 184, 3) := by decide +kernel
theorem dX6_side_13 : decode cX6_side 13 = .ok (.aload_n 0, 1) := by decide +kernel
theorem dX6_side_14 : decode cX6_side 14 = .ok (.iload_n 1, 1) := by decide +kernel
theorem dX6_side_15 : decode cX6_side 15 = .ok (.invokevirtual 190, 3) := by decide +kernel
theorem dX6_side_18 : decode cX6_side 18 = .ok (.aload_n 0, 1) := by decide +kernel
theorem dX6_side_19 : decode cX6_side 19 = .ok (.getfield 71, 3) := by decide +kernel
theorem dX6_side_22 : decode cX6_side 22 = .ok (.aload_n 0, 1) := by decide +kernel
theorem dX6_side_23 : decode cX6_side 23 = .ok (.getfield 71, 3) := by decide +kernel
theorem dX6_side_26 : decode cX6_side 26 = .ok (.iload_n 2, 1) := by decide +kernel
theorem dX6_side_27 : decode cX6_side 27 = .ok (.invokevirtual 194, 3) := by decide +kernel
theorem dX6_side_30 : decode cX6_side 30 = .ok (.invokevirtual 198, 3) := by decide +kernel
theorem dX6_side_33 : decode cX6_side 33 = .ok (.ireturn, 1) := by decide +kernel
theorem dX6_tells_0 : decode cX6_tells 0 = .ok (.iload_n 1, 1) := by decide +kernel
theorem dX6_tells_1 : decode cX6_tells 1 = .ok (.invokestatic 101, 3) := by decide +kernel
theorem dX6_tells_4 : decode cX6_tells 4 = .ok (.ifCond .eq 10, 3) := by decide +kernel
theorem dX6_tells_7 : decode cX6_tells 7 = .ok (.iload_n 2, 1) := by decide +kernel
theorem dX6_tells_8 : decode cX6_tells 8 = .ok (.invokestatic 101, 3) := by decide +kernel
theorem dX6_tells_11 : decode cX6_tells 11 = .ok (.ifCond .ne 7, 3) := by decide +kernel
theorem dX6_tells_14 : decode cX6_tells 14 = .ok (.sipush (-1000), 3) := by decide +kernel
theorem dX6_tells_17 : decode cX6_tells 17 = .ok (.ireturn, 1) := by decide +kernel
theorem dX6_tells_18 : decode cX6_tells 18 = .ok (.aload_n 0, 1) := by decide +kernel
theorem dX6_tells_19 : decode cX6_tells 19 = .ok (.invokevirtual 184, 3) := by decide +kernel
theorem dX6_tells_22 : decode cX6_tells 22 = .ok (.sipush (-1000), 3) := by decide +kernel
theorem dX6_tells_25 : decode cX6_tells 25 = .ok (.istore_n 3, 1) := by decide +kernel
theorem dX6_tells_26 : decode cX6_tells 26 = .ok (.ldc2_w 201, 3) := by decide +kernel
theorem dX6_tells_29 : decode cX6_tells 29 = .ok (.lstore 4, 2) := by decide +kernel
theorem dX6_tells_31 : decode cX6_tells 31 = .ok (.iload_n 1, 1) := by decide +kernel
theorem dX6_tells_32 : decode cX6_tells 32 = .ok (.istore 6, 2) := by decide +kernel
theorem dX6_tells_34 : decode cX6_tells 34 = .ok (.iload 6, 2) := by decide +kernel
theorem dX6_tells_36 : decode cX6_tells 36 = .ok (.iload_n 2, 1) := by decide +kernel
theorem dX6_tells_37 : decode cX6_tells 37 = .ok (.if_icmp .gt 47, 3) := by decide +kernel
theorem dX6_tells_40 : decode cX6_tells 40 = .ok (.aload_n 0, 1) := by decide +kernel
theorem dX6_tells_41 : decode cX6_tells 41 = .ok (.iload 6, 2) := by decide +kernel
theorem dX6_tells_43 : decode cX6_tells 43 = .ok (.invokevirtual 187, 3) := by decide +kernel
theorem dX6_tells_46 : decode cX6_tells 46 = .ok (.i2l, 1) := by decide +kernel
theorem dX6_tells_47 : decode cX6_tells 47 = .ok (.lstore 7, 2) := by decide +kernel
theorem dX6_tells_49 : decode cX6_tells 49 = .ok (.lload 7, 2) := by decide +kernel
theorem dX6_tells_51 : decode cX6_tells 51 = .ok (.ldc2_w 203, 3) := by decide +kernel
theorem dX6_tells_54 : decode cX6_tells 54 = .ok (.lcmp, 1) := by decide +kernel
theorem dX6_tells_55 : decode cX6_tells 55 = .ok (.ifCond .ne 8, 3) := by decide +kernel
theorem dX6_tells_58 : decode cX6_tells 58 = .ok (.ldc2_w 205, 3) := by decide +kernel
theorem dX6_tells_61 : decode cX6_tells 61 = .ok (.lstore 7, 2) := by decide +kernel
theorem dX6_tells_63 : decode cX6_tells 63 = .ok (.lload 7, 2) := by decide +kernel
theorem dX6_tells_65 : decode cX6_tells 65 = .ok (.lload 4, 2) := by decide +kernel
theorem dX6_tells_67 : decode cX6_tells 67 = .ok (.lcmp, 1) := by decide +kernel
theorem dX6_tells_68 : decode cX6_tells 68 = .ok (.ifCond .le 10, 3) := by decide +kernel
theorem dX6_tells_71 : decode cX6_tells 71 = .ok (.lload 7, 2) := by decide +kernel
theorem dX6_tells_73 : decode cX6_tells 73 = .ok (.lstore 4, 2) := by decide +kernel
theorem dX6_tells_75 : decode cX6_tells 75 = .ok (.iload 6, 2) := by decide +kernel
theorem dX6_tells_77 : decode cX6_tells 77 = .ok (.istore_n 3, 1) := by decide +kernel
theorem dX6_tells_78 : decode cX6_tells 78 = .ok (.iinc 6 1, 3) := by decide +kernel
theorem dX6_tells_81 : decode cX6_tells 81 = .ok (.goto (-47), 3) := by decide +kernel
theorem dX6_tells_84 : decode cX6_tells 84 = .ok (.iload_n 3, 1) := by decide +kernel
theorem dX6_tells_85 : decode cX6_tells 85 = .ok (.ireturn, 1) := by decide +kernel
theorem dX6_period_0 : decode cX6_period 0 = .ok (.aload_n 0, 1) := by decide +kernel
theorem dX6_period_1 : decode cX6_period 1 = .ok (.iload_n 1, 1) := by decide +kernel
theorem dX6_period_2 : decode cX6_period 2 = .ok (.invokevirtual 167, 3) := by decide +kernel
theorem dX6_period_5 : decode cX6_period 5 = .ok (.astore_n 2, 1) := by decide +kernel
theorem dX6_period_6 : decode cX6_period 6 = .ok (.aload_n 2, 1) := by decide +kernel
theorem dX6_period_7 : decode cX6_period 7 = .ok (.ifnonnull 7, 3) := by decide +kernel
theorem dX6_period_10 : decode cX6_period 10 = .ok (.iconst (-1), 1) := by decide +kernel
theorem dX6_period_11 : decode cX6_period 11 = .ok (.goto 7, 3) := by decide +kernel
theorem dX6_period_14 : decode cX6_period 14 = .ok (.aload_n 2, 1) := by decide +kernel
theorem dX6_period_15 : decode cX6_period 15 = .ok (.invokevirtual 207, 3) := by decide +kernel
theorem dX6_period_18 : decode cX6_period 18 = .ok (.ireturn, 1) := by decide +kernel
theorem dX6_span_0 : decode cX6_span 0 = .ok (.aload_n 0, 1) := by decide +kernel
theorem dX6_span_1 : decode cX6_span 1 = .ok (.getfield 50, 3) := by decide +kernel
theorem dX6_span_4 : decode cX6_span 4 = .ok (.iconst 1, 1) := by decide +kernel
theorem dX6_span_5 : decode cX6_span 5 = .ok (.if_icmp .ge 5, 3) := by decide +kernel
theorem dX6_span_8 : decode cX6_span 8 = .ok (.iconst (-1), 1) := by decide +kernel
theorem dX6_span_9 : decode cX6_span 9 = .ok (.ireturn, 1) := by decide +kernel
theorem dX6_span_10 : decode cX6_span 10 = .ok (.aload_n 0, 1) := by decide +kernel
theorem dX6_span_11 : decode cX6_span 11 = .ok (.invokevirtual 184, 3) := by decide +kernel
theorem dX6_span_14 : decode cX6_span 14 = .ok (.iconst 0, 1) := by decide +kernel
theorem dX6_span_15 : decode cX6_span 15 = .ok (.istore_n 2, 1) := by decide +kernel
theorem dX6_span_16 : decode cX6_span 16 = .ok (.iconst 0, 1) := by decide +kernel
theorem dX6_span_17 : decode cX6_span 17 = .ok (.istore_n 3, 1) := by decide +kernel
theorem dX6_span_18 : decode cX6_span 18 = .ok (.iload_n 3, 1) := by decide +kernel
theorem dX6_span_19 : decode cX6_span 19 = .ok (.aload_n 0, 1) := by decide +kernel
theorem dX6_span_20 : decode cX6_span 20 = .ok (.getfield 50, 3) := by decide +kernel
theorem dX6_span_23 : decode cX6_span 23 = .ok (.if_icmp .ge 65, 3) := by decide +kernel
theorem dX6_span_26 : decode cX6_span 26 = .ok (.aload_n 0, 1) := by decide +kernel
theorem dX6_span_27 : decode cX6_span 27 = .ok (.iload_n 3, 1) := by decide +kernel
theorem dX6_span_28 : decode cX6_span 28 = .ok (.invokevirtual 143, 3) := by decide +kernel
theorem dX6_span_31 : decode cX6_span 31 = .ok (.astore 4, 2) := by decide +kernel
theorem dX6_span_33 : decode cX6_span 33 = .ok (.aload 4, 2) := by decide +kernel
theorem dX6_span_35 : decode cX6_span 35 = .ok (.ifnonnull 7, 3) := by decide +kernel
theorem dX6_span_38 : decode cX6_span 38 = .ok (.iconst 0, 1) := by decide +kernel
theorem dX6_span_39 : decode cX6_span 39 = .ok (.goto 8, 3) := by decide +kernel
theorem dX6_span_42 : decode cX6_span 42 = .ok (.aload 4, 2) := by decide +kernel
theorem dX6_span_44 : decode cX6_span 44 = .ok (.invokevirtual 207, 3) := by decide +kernel
theorem dX6_span_47 : decode cX6_span 47 = .ok (.istore 5, 2) := by decide +kernel
theorem dX6_span_49 : decode cX6_span 49 = .ok (.iload 5, 2) := by decide +kernel
theorem dX6_span_51 : decode cX6_span 51 = .ok (.ifCond .ne 5, 3) := by decide +kernel
theorem dX6_span_54 : decode cX6_span 54 = .ok (.iconst 0, 1) := by decide +kernel
theorem dX6_span_55 : decode cX6_span 55 = .ok (.ireturn, 1) := by decide +kernel
theorem dX6_span_56 : decode cX6_span 56 = .ok (.iload_n 3, 1) := by decide +kernel
theorem dX6_span_57 : decode cX6_span 57 = .ok (.ifCond .eq 22, 3) := by decide +kernel
theorem dX6_span_60 : decode cX6_span 60 = .ok (.iload_n 1, 1) := by decide +kernel
theorem dX6_span_61 : decode cX6_span 61 = .ok (.ifCond .eq 12, 3) := by decide +kernel
theorem dX6_span_64 : decode cX6_span 64 = .ok (.iload 5, 2) := by decide +kernel
theorem dX6_span_66 : decode cX6_span 66 = .ok (.iload_n 2, 1) := by decide +kernel
theorem dX6_span_67 : decode cX6_span 67 = .ok (.if_icmp .le 15, 3) := by decide +kernel
theorem dX6_span_70 : decode cX6_span 70 = .ok (.goto 9, 3) := by decide +kernel
theorem dX6_span_73 : decode cX6_span 73 = .ok (.iload 5, 2) := by decide +kernel
theorem dX6_span_75 : decode cX6_span 75 = .ok (.iload_n 2, 1) := by decide +kernel
theorem dX6_span_76 : decode cX6_span 76 = .ok (.if_icmp .ge 6, 3) := by decide +kernel
theorem dX6_span_79 : decode cX6_span 79 = .ok (.iload 5, 2) := by decide +kernel
theorem dX6_span_81 : decode cX6_span 81 = .ok (.istore_n 2, 1) := by decide +kernel
theorem dX6_span_82 : decode cX6_span 82 = .ok (.iinc 3 1, 3) := by decide +kernel
theorem dX6_span_85 : decode cX6_span 85 = .ok (.goto (-67), 3) := by decide +kernel
theorem dX6_span_88 : decode cX6_span 88 = .ok (.iload_n 2, 1) := by decide +kernel
theorem dX6_span_89 : decode cX6_span 89 = .ok (.ireturn, 1) := by decide +kernel
theorem dX6_near_0 : decode cX6_near 0 = .ok (.iload_n 2, 1) := by decide +kernel
theorem dX6_near_1 : decode cX6_near 1 = .ok (.invokestatic 101, 3) := by decide +kernel
theorem dX6_near_4 : decode cX6_near 4 = .ok (.ifCond .eq 23, 3) := by decide +kernel
theorem dX6_near_7 : decode cX6_near 7 = .ok (.iload_n 3, 1) := by decide +kernel
theorem dX6_near_8 : decode cX6_near 8 = .ok (.invokestatic 101, 3) := by decide +kernel
theorem dX6_near_11 : decode cX6_near 11 = .ok (.ifCond .eq 16, 3) := by decide +kernel
theorem dX6_near_14 : decode cX6_near 14 = .ok (.iload_n 1, 1) := by decide +kernel
theorem dX6_near_15 : decode cX6_near 15 = .ok (.iconst (-1), 1) := by decide +kernel
theorem dX6_near_16 : decode cX6_near 16 = .ok (.if_icmp .eq 15, 3) := by decide +kernel
theorem dX6_near_19 : decode cX6_near 19 = .ok (.aload_n 0, 1) := by decide +kernel
theorem dX6_near_20 : decode cX6_near 20 = .ok (.iload_n 1, 1) := by decide +kernel
theorem dX6_near_21 : decode cX6_near 21 = .ok (.invokevirtual 167, 3) := by decide +kernel
theorem dX6_near_24 : decode cX6_near 24 = .ok (.ifnonnull 7, 3) := by decide +kernel
theorem dX6_near_27 : decode cX6_near 27 = .ok (.ldc2_w 201, 3) := by decide +kernel
theorem dX6_near_30 : decode cX6_near 30 = .ok (.lreturn, 1) := by decide +kernel
theorem dX6_near_31 : decode cX6_near 31 = .ok (.iload_n 1, 1) := by decide +kernel
theorem dX6_near_32 : decode cX6_near 32 = .ok (.iconst (-1), 1) := by decide +kernel
theorem dX6_near_33 : decode cX6_near 33 = .ok (.if_icmp .ne 7, 3) := by decide +kernel
theorem dX6_near_36 : decode cX6_near 36 = .ok (.aload_n 0, 1) := by decide +kernel
theorem dX6_near_37 : decode cX6_near 37 = .ok (.invokevirtual 184, 3) := by decide +kernel
theorem dX6_near_40 : decode cX6_near 40 = .ok (.iload_n 1, 1) := by decide +kernel
theorem dX6_near_41 : decode cX6_near 41 = .ok (.iconst (-1), 1) := by decide +kernel
theorem dX6_near_42 : decode cX6_near 42 = .ok (.if_icmp .ne 7, 3) := by decide +kernel
theorem dX6_near_45 : decode cX6_near 45 = .ok (.iconst 0, 1) := by decide +kernel
theorem dX6_near_46 : decode cX6_near 46 = .ok (.goto 4, 3) := by decide +kernel
theorem dX6_near_49 : decode cX6_near 49 = .ok (.iload_n 1, 1) := by decide +kernel
theorem dX6_near_50 : decode cX6_near 50 = .ok (.istore 4, 2) := by decide +kernel
theorem dX6_near_52 : decode cX6_near 52 = .ok (.iload_n 1, 1) := by decide +kernel
theorem dX6_near_53 : decode cX6_near 53 = .ok (.iconst (-1), 1) := by decide +kernel
theorem dX6_near_54 : decode cX6_near 54 = .ok (.if_icmp .ne 10, 3) := by decide +kernel
theorem dX6_near_57 : decode cX6_near 57 = .ok (.aload_n 0, 1) := by decide +kernel
theorem dX6_near_58 : decode cX6_near 58 = .ok (.getfield 50, 3) := by decide +kernel
theorem dX6_near_61 : decode cX6_near 61 = .ok (.goto 6, 3) := by decide +kernel
theorem dX6_near_64 : decode cX6_near 64 = .ok (.iload_n 1, 1) := by decide +kernel
theorem dX6_near_65 : decode cX6_near 65 = .ok (.iconst 1, 1) := by decide +kernel
theorem dX6_near_66 : decode cX6_near 66 = .ok (.iadd, 1) := by decide +kernel
theorem dX6_near_67 : decode cX6_near 67 = .ok (.istore 5, 2) := by decide +kernel
theorem dX6_near_69 : decode cX6_near 69 = .ok (.ldc2_w 201, 3) := by decide +kernel
theorem dX6_near_72 : decode cX6_near 72 = .ok (.lstore 6, 2) := by decide +kernel
theorem dX6_near_74 : decode cX6_near 74 = .ok (.sipush (-1000), 3) := by decide +kernel
theorem dX6_near_77 : decode cX6_near 77 = .ok (.istore 8, 2) := by decide +kernel
theorem dX6_near_79 : decode cX6_near 79 = .ok (.iload_n 2, 1) := by decide +kernel
theorem dX6_near_80 : decode cX6_near 80 = .ok (.istore 9, 2) := by decide +kernel
theorem dX6_near_82 : decode cX6_near 82 = .ok (.iload 9, 2) := by decide +kernel
theorem dX6_near_84 : decode cX6_near 84 = .ok (.iload_n 3, 1) := by decide +kernel
theorem dX6_near_85 : decode cX6_near 85 = .ok (.if_icmp .gt 74, 3) := by decide +kernel
theorem dX6_near_88 : decode cX6_near 88 = .ok (.iload 4, 2) := by decide +kernel
theorem dX6_near_90 : decode cX6_near 90 = .ok (.istore 10, 2) := by decide +kernel
theorem dX6_near_92 : decode cX6_near 92 = .ok (.iload 10, 2) := by decide +kernel
theorem dX6_near_94 : decode cX6_near 94 = .ok (.iload 5, 2) := by decide +kernel
theorem dX6_near_96 : decode cX6_near 96 = .ok (.if_icmp .ge 57, 3) := by decide +kernel
theorem dX6_near_99 : decode cX6_near 99 = .ok (.aload_n 0, 1) := by decide +kernel
theorem dX6_near_100 : decode cX6_near 100 = .ok (.aload_n 0, 1) := by decide +kernel
theorem dX6_near_101 : decode cX6_near 101 = .ok (.iload 10, 2) := by decide +kernel
theorem dX6_near_103 : decode cX6_near 103 = .ok (.invokevirtual 143, 3) := by decide +kernel
theorem dX6_near_106 : decode cX6_near 106 = .ok (.iload 9, 2) := by decide +kernel
theorem dX6_near_108 : decode cX6_near 108 = .ok (.invokevirtual 211, 3) := by decide +kernel
theorem dX6_near_111 : decode cX6_near 111 = .ok (.lstore 11, 2) := by decide +kernel
theorem dX6_near_113 : decode cX6_near 113 = .ok (.lload 11, 2) := by decide +kernel
theorem dX6_near_115 : decode cX6_near 115 = .ok (.ldc2_w 201, 3) := by decide +kernel
theorem dX6_near_118 : decode cX6_near 118 = .ok (.lcmp, 1) := by decide +kernel
theorem dX6_near_119 : decode cX6_near 119 = .ok (.ifCond .eq 28, 3) := by decide +kernel
theorem dX6_near_122 : decode cX6_near 122 = .ok (.lload 6, 2) := by decide +kernel
theorem dX6_near_124 : decode cX6_near 124 = .ok (.ldc2_w 201, 3) := by decide +kernel
theorem dX6_near_127 : decode cX6_near 127 = .ok (.lcmp, 1) := by decide +kernel
theorem dX6_near_128 : decode cX6_near 128 = .ok (.ifCond .eq 11, 3) := by decide +kernel
theorem dX6_near_131 : decode cX6_near 131 = .ok (.lload 11, 2) := by decide +kernel
theorem dX6_near_133 : decode cX6_near 133 = .ok (.lload 6, 2) := by decide +kernel
theorem dX6_near_135 : decode cX6_near 135 = .ok (.lcmp, 1) := by decide +kernel
theorem dX6_near_136 : decode cX6_near 136 = .ok (.ifCond .ge 11, 3) := by decide +kernel
theorem dX6_near_139 : decode cX6_near 139 = .ok (.lload 11, 2) := by decide +kernel
theorem dX6_near_141 : decode cX6_near 141 = .ok (.lstore 6, 2) := by decide +kernel
theorem dX6_near_143 : decode cX6_near 143 = .ok (.iload 9, 2) := by decide +kernel
theorem dX6_near_145 : decode cX6_near 145 = .ok (.istore 8, 2) := by decide +kernel
theorem dX6_near_147 : decode cX6_near 147 = .ok (.iinc 10 1, 3) := by decide +kernel
theorem dX6_near_150 : decode cX6_near 150 = .ok (.goto (-58), 3) := by decide +kernel
theorem dX6_near_153 : decode cX6_near 153 = .ok (.iinc 9 1, 3) := by decide +kernel
theorem dX6_near_156 : decode cX6_near 156 = .ok (.goto (-74), 3) := by decide +kernel
theorem dX6_near_159 : decode cX6_near 159 = .ok (.lload 6, 2) := by decide +kernel
theorem dX6_near_161 : decode cX6_near 161 = .ok (.ldc2_w 201, 3) := by decide +kernel
theorem dX6_near_164 : decode cX6_near 164 = .ok (.lcmp, 1) := by decide +kernel
theorem dX6_near_165 : decode cX6_near 165 = .ok (.ifCond .eq 9, 3) := by decide +kernel
theorem dX6_near_168 : decode cX6_near 168 = .ok (.aload_n 0, 1) := by decide +kernel
theorem dX6_near_169 : decode cX6_near 169 = .ok (.iload 8, 2) := by decide +kernel
theorem dX6_near_171 : decode cX6_near 171 = .ok (.putfield 53, 3) := by decide +kernel
theorem dX6_near_174 : decode cX6_near 174 = .ok (.lload 6, 2) := by decide +kernel
theorem dX6_near_176 : decode cX6_near 176 = .ok (.lreturn, 1) := by decide +kernel
theorem dX6_nearest_0 : decode cX6_nearest 0 = .ok (.aload_n 0, 1) := by decide +kernel
theorem dX6_nearest_1 : decode cX6_nearest 1 = .ok (.getfield 53, 3) := by decide +kernel
theorem dX6_nearest_4 : decode cX6_nearest 4 = .ok (.ireturn, 1) := by decide +kernel
theorem dX6_all_0 : decode cX6_all 0 = .ok (.iload_n 1, 1) := by decide +kernel
theorem dX6_all_1 : decode cX6_all 1 = .ok (.tableswitch 63 0 3 #[31, 36, 47, 58], 31) := by decide +kernel
theorem dX6_all_32 : decode cX6_all 32 = .ok (.aload_n 0, 1) := by decide +kernel
theorem dX6_all_33 : decode cX6_all 33 = .ok (.getfield 25, 3) := by decide +kernel
theorem dX6_all_36 : decode cX6_all 36 = .ok (.ireturn, 1) := by decide +kernel
theorem dX6_all_37 : decode cX6_all 37 = .ok (.aload_n 0, 1) := by decide +kernel
theorem dX6_all_38 : decode cX6_all 38 = .ok (.getfield 12, 3) := by decide +kernel
theorem dX6_all_41 : decode cX6_all 41 = .ok (.getfield 90, 3) := by decide +kernel
theorem dX6_all_44 : decode cX6_all 44 = .ok (.getfield 215, 3) := by decide +kernel
theorem dX6_all_47 : decode cX6_all 47 = .ok (.ireturn, 1) := by decide +kernel
theorem dX6_all_48 : decode cX6_all 48 = .ok (.aload_n 0, 1) := by decide +kernel
theorem dX6_all_49 : decode cX6_all 49 = .ok (.getfield 12, 3) := by decide +kernel
theorem dX6_all_52 : decode cX6_all 52 = .ok (.getfield 80, 3) := by decide +kernel
theorem dX6_all_55 : decode cX6_all 55 = .ok (.getfield 215, 3) := by decide +kernel
theorem dX6_all_58 : decode cX6_all 58 = .ok (.ireturn, 1) := by decide +kernel
theorem dX6_all_59 : decode cX6_all 59 = .ok (.aload_n 0, 1) := by decide +kernel
theorem dX6_all_60 : decode cX6_all 60 = .ok (.getfield 50, 3) := by decide +kernel
theorem dX6_all_63 : decode cX6_all 63 = .ok (.ireturn, 1) := by decide +kernel
theorem dX6_all_64 : decode cX6_all 64 = .ok (.iconst (-1), 1) := by decide +kernel
theorem dX6_all_65 : decode cX6_all 65 = .ok (.ireturn, 1) := by decide +kernel
theorem dX6_isWithin_0 : decode cX6_isWithin 0 = .ok (.iload_n 0, 1) := by decide +kernel
theorem dX6_isWithin_1 : decode cX6_isWithin 1 = .ok (.iload_n 1, 1) := by decide +kernel
theorem dX6_isWithin_2 : decode cX6_isWithin 2 = .ok (.if_icmp .lt 12, 3) := by decide +kernel
theorem dX6_isWithin_5 : decode cX6_isWithin 5 = .ok (.iload_n 0, 1) := by decide +kernel
theorem dX6_isWithin_6 : decode cX6_isWithin 6 = .ok (.iload_n 2, 1) := by decide +kernel
theorem dX6_isWithin_7 : decode cX6_isWithin 7 = .ok (.if_icmp .gt 7, 3) := by decide +kernel
theorem dX6_isWithin_10 : decode cX6_isWithin 10 = .ok (.iconst 1, 1) := by decide +kernel
theorem dX6_isWithin_11 : decode cX6_isWithin 11 = .ok (.goto 4, 3) := by decide +kernel
theorem dX6_isWithin_14 : decode cX6_isWithin 14 = .ok (.iconst 0, 1) := by decide +kernel
theorem dX6_isWithin_15 : decode cX6_isWithin 15 = .ok (.ireturn, 1) := by decide +kernel
theorem dX6_isStep_0 : decode cX6_isStep 0 = .ok (.iload_n 0, 1) := by decide +kernel
theorem dX6_isStep_1 : decode cX6_isStep 1 = .ok (.sipush (-300), 3) := by decide +kernel
theorem dX6_isStep_4 : decode cX6_isStep 4 = .ok (.sipush 300, 3) := by decide +kernel
theorem dX6_isStep_7 : decode cX6_isStep 7 = .ok (.invokestatic 76, 3) := by decide +kernel
theorem dX6_isStep_10 : decode cX6_isStep 10 = .ok (.ireturn, 1) := by decide +kernel
theorem dX6_isDirection_0 : decode cX6_isDirection 0 = .ok (.iload_n 0, 1) := by decide +kernel
theorem dX6_isDirection_1 : decode cX6_isDirection 1 = .ok (.sipush (-1000), 3) := by decide +kernel
theorem dX6_isDirection_4 : decode cX6_isDirection 4 = .ok (.sipush 1000, 3) := by decide +kernel
theorem dX6_isDirection_7 : decode cX6_isDirection 7 = .ok (.invokestatic 76, 3) := by decide +kernel
theorem dX6_isDirection_10 : decode cX6_isDirection 10 = .ok (.ifCond .eq 28, 3) := by decide +kernel
theorem dX6_isDirection_13 : decode cX6_isDirection 13 = .ok (.iload_n 1, 1) := by decide +kernel
theorem dX6_isDirection_14 : decode cX6_isDirection 14 = .ok (.sipush (-1000), 3) := by decide +kernel
theorem dX6_isDirection_17 : decode cX6_isDirection 17 = .ok (.sipush 1000, 3) := by decide +kernel
theorem dX6_isDirection_20 : decode cX6_isDirection 20 = .ok (.invokestatic 76, 3) := by decide +kernel
theorem dX6_isDirection_23 : decode cX6_isDirection 23 = .ok (.ifCond .eq 15, 3) := by decide +kernel
theorem dX6_isDirection_26 : decode cX6_isDirection 26 = .ok (.iload_n 0, 1) := by decide +kernel
theorem dX6_isDirection_27 : decode cX6_isDirection 27 = .ok (.ifCond .ne 7, 3) := by decide +kernel
theorem dX6_isDirection_30 : decode cX6_isDirection 30 = .ok (.iload_n 1, 1) := by decide +kernel
theorem dX6_isDirection_31 : decode cX6_isDirection 31 = .ok (.ifCond .eq 7, 3) := by decide +kernel
theorem dX6_isDirection_34 : decode cX6_isDirection 34 = .ok (.iconst 1, 1) := by decide +kernel
theorem dX6_isDirection_35 : decode cX6_isDirection 35 = .ok (.goto 4, 3) := by decide +kernel
theorem dX6_isDirection_38 : decode cX6_isDirection 38 = .ok (.iconst 0, 1) := by decide +kernel
theorem dX6_isDirection_39 : decode cX6_isDirection 39 = .ok (.ireturn, 1) := by decide +kernel
theorem dX6_sightOf_0 : decode cX6_sightOf 0 = .ok (.iload_n 1, 1) := by decide +kernel
theorem dX6_sightOf_1 : decode cX6_sightOf 1 = .ok (.ifCond .lt 29, 3) := by decide +kernel
theorem dX6_sightOf_4 : decode cX6_sightOf 4 = .ok (.iload_n 1, 1) := by decide +kernel
theorem dX6_sightOf_5 : decode cX6_sightOf 5 = .ok (.aload_n 0, 1) := by decide +kernel
theorem dX6_sightOf_6 : decode cX6_sightOf 6 = .ok (.getfield 25, 3) := by decide +kernel
theorem dX6_sightOf_9 : decode cX6_sightOf 9 = .ok (.if_icmp .ge 21, 3) := by decide +kernel
theorem dX6_sightOf_12 : decode cX6_sightOf 12 = .ok (.iload_n 1, 1) := by decide +kernel
theorem dX6_sightOf_13 : decode cX6_sightOf 13 = .ok (.aload_n 0, 1) := by decide +kernel
theorem dX6_sightOf_14 : decode cX6_sightOf 14 = .ok (.getfield 21, 3) := by decide +kernel
theorem dX6_sightOf_17 : decode cX6_sightOf 17 = .ok (.arraylength, 1) := by decide +kernel
theorem dX6_sightOf_18 : decode cX6_sightOf 18 = .ok (.if_icmp .ge 12, 3) := by decide +kernel
theorem dX6_sightOf_21 : decode cX6_sightOf 21 = .ok (.aload_n 0, 1) := by decide +kernel
theorem dX6_sightOf_22 : decode cX6_sightOf 22 = .ok (.getfield 21, 3) := by decide +kernel
theorem dX6_sightOf_25 : decode cX6_sightOf 25 = .ok (.iload_n 1, 1) := by decide +kernel
theorem dX6_sightOf_26 : decode cX6_sightOf 26 = .ok (.aaload, 1) := by decide +kernel
theorem dX6_sightOf_27 : decode cX6_sightOf 27 = .ok (.goto 4, 3) := by decide +kernel
theorem dX6_sightOf_30 : decode cX6_sightOf 30 = .ok (.aconst_null, 1) := by decide +kernel
theorem dX6_sightOf_31 : decode cX6_sightOf 31 = .ok (.areturn, 1) := by decide +kernel
theorem dX6_hasBase_0 : decode cX6_hasBase 0 = .ok (.aload_n 0, 1) := by decide +kernel
theorem dX6_hasBase_1 : decode cX6_hasBase 1 = .ok (.aload_n 0, 1) := by decide +kernel
theorem dX6_hasBase_2 : decode cX6_hasBase 2 = .ok (.getfield 29, 3) := by decide +kernel
theorem dX6_hasBase_5 : decode cX6_hasBase 5 = .ok (.invokevirtual 124, 3) := by decide +kernel
theorem dX6_hasBase_8 : decode cX6_hasBase 8 = .ok (.ifnull 18, 3) := by decide +kernel
theorem dX6_hasBase_11 : decode cX6_hasBase 11 = .ok (.aload_n 0, 1) := by decide +kernel
theorem dX6_hasBase_12 : decode cX6_hasBase 12 = .ok (.aload_n 0, 1) := by decide +kernel
theorem dX6_hasBase_13 : decode cX6_hasBase 13 = .ok (.getfield 32, 3) := by decide +kernel
theorem dX6_hasBase_16 : decode cX6_hasBase 16 = .ok (.invokevirtual 124, 3) := by decide +kernel
theorem dX6_hasBase_19 : decode cX6_hasBase 19 = .ok (.ifnull 7, 3) := by decide +kernel
theorem dX6_hasBase_22 : decode cX6_hasBase 22 = .ok (.iconst 1, 1) := by decide +kernel
theorem dX6_hasBase_23 : decode cX6_hasBase 23 = .ok (.goto 4, 3) := by decide +kernel
theorem dX6_hasBase_26 : decode cX6_hasBase 26 = .ok (.iconst 0, 1) := by decide +kernel
theorem dX6_hasBase_27 : decode cX6_hasBase 27 = .ok (.ireturn, 1) := by decide +kernel
theorem dX6_isOfBase_0 : decode cX6_isOfBase 0 = .ok (.iload_n 1, 1) := by decide +kernel
theorem dX6_isOfBase_1 : decode cX6_isOfBase 1 = .ok (.aload_n 0, 1) := by decide +kernel
theorem dX6_isOfBase_2 : decode cX6_isOfBase 2 = .ok (.getfield 29, 3) := by decide +kernel
theorem dX6_isOfBase_5 : decode cX6_isOfBase 5 = .ok (.if_icmp .eq 11, 3) := by decide +kernel
theorem dX6_isOfBase_8 : decode cX6_isOfBase 8 = .ok (.iload_n 1, 1) := by decide +kernel
theorem dX6_isOfBase_9 : decode cX6_isOfBase 9 = .ok (.aload_n 0, 1) := by decide +kernel
theorem dX6_isOfBase_10 : decode cX6_isOfBase 10 = .ok (.getfield 32, 3) := by decide +kernel
theorem dX6_isOfBase_13 : decode cX6_isOfBase 13 = .ok (.if_icmp .ne 7, 3) := by decide +kernel
theorem dX6_isOfBase_16 : decode cX6_isOfBase 16 = .ok (.iconst 1, 1) := by decide +kernel
theorem dX6_isOfBase_17 : decode cX6_isOfBase 17 = .ok (.goto 4, 3) := by decide +kernel
theorem dX6_isOfBase_20 : decode cX6_isOfBase 20 = .ok (.iconst 0, 1) := by decide +kernel
theorem dX6_isOfBase_21 : decode cX6_isOfBase 21 = .ok (.ireturn, 1) := by decide +kernel
theorem dX6_keptWay_0 : decode cX6_keptWay 0 = .ok (.iload_n 1, 1) := by decide +kernel
theorem dX6_keptWay_1 : decode cX6_keptWay 1 = .ok (.ifCond .lt 29, 3) := by decide +kernel
theorem dX6_keptWay_4 : decode cX6_keptWay 4 = .ok (.iload_n 1, 1) := by decide +kernel
theorem dX6_keptWay_5 : decode cX6_keptWay 5 = .ok (.aload_n 0, 1) := by decide +kernel
theorem dX6_keptWay_6 : decode cX6_keptWay 6 = .ok (.getfield 50, 3) := by decide +kernel
theorem dX6_keptWay_9 : decode cX6_keptWay 9 = .ok (.if_icmp .ge 21, 3) := by decide +kernel
theorem dX6_keptWay_12 : decode cX6_keptWay 12 = .ok (.iload_n 1, 1) := by decide +kernel
theorem dX6_keptWay_13 : decode cX6_keptWay 13 = .ok (.aload_n 0, 1) := by decide +kernel
theorem dX6_keptWay_14 : decode cX6_keptWay 14 = .ok (.getfield 46, 3) := by decide +kernel
theorem dX6_keptWay_17 : decode cX6_keptWay 17 = .ok (.arraylength, 1) := by decide +kernel
theorem dX6_keptWay_18 : decode cX6_keptWay 18 = .ok (.if_icmp .ge 12, 3) := by decide +kernel
theorem dX6_keptWay_21 : decode cX6_keptWay 21 = .ok (.aload_n 0, 1) := by decide +kernel
theorem dX6_keptWay_22 : decode cX6_keptWay 22 = .ok (.getfield 46, 3) := by decide +kernel
theorem dX6_keptWay_25 : decode cX6_keptWay 25 = .ok (.iload_n 1, 1) := by decide +kernel
theorem dX6_keptWay_26 : decode cX6_keptWay 26 = .ok (.aaload, 1) := by decide +kernel
theorem dX6_keptWay_27 : decode cX6_keptWay 27 = .ok (.goto 4, 3) := by decide +kernel
theorem dX6_keptWay_30 : decode cX6_keptWay 30 = .ok (.aconst_null, 1) := by decide +kernel
theorem dX6_keptWay_31 : decode cX6_keptWay 31 = .ok (.areturn, 1) := by decide +kernel
theorem dX6_tracedWay_0 : decode cX6_tracedWay 0 = .ok (.aload_n 0, 1) := by decide +kernel
theorem dX6_tracedWay_1 : decode cX6_tracedWay 1 = .ok (.iload_n 1, 1) := by decide +kernel
theorem dX6_tracedWay_2 : decode cX6_tracedWay 2 = .ok (.invokevirtual 143, 3) := by decide +kernel
theorem dX6_tracedWay_5 : decode cX6_tracedWay 5 = .ok (.astore_n 2, 1) := by decide +kernel
theorem dX6_tracedWay_6 : decode cX6_tracedWay 6 = .ok (.aload_n 2, 1) := by decide +kernel
theorem dX6_tracedWay_7 : decode cX6_tracedWay 7 = .ok (.ifnull 15, 3) := by decide +kernel
theorem dX6_tracedWay_10 : decode cX6_tracedWay 10 = .ok (.aload_n 2, 1) := by decide +kernel
theorem dX6_tracedWay_11 : decode cX6_tracedWay 11 = .ok (.aload_n 0, 1) := by decide +kernel
theorem dX6_tracedWay_12 : decode cX6_tracedWay 12 = .ok (.getfield 16, 3) := by decide +kernel
theorem dX6_tracedWay_15 : decode cX6_tracedWay 15 = .ok (.aload_n 0, 1) := by decide +kernel
theorem dX6_tracedWay_16 : decode cX6_tracedWay 16 = .ok (.getfield 59, 3) := by decide +kernel
theorem dX6_tracedWay_19 : decode cX6_tracedWay 19 = .ok (.invokevirtual 218, 3) := by decide +kernel
theorem dX6_tracedWay_22 : decode cX6_tracedWay 22 = .ok (.aload_n 2, 1) := by decide +kernel
theorem dX6_tracedWay_23 : decode cX6_tracedWay 23 = .ok (.areturn, 1) := by decide +kernel
theorem dX6_traceAll_0 : decode cX6_traceAll 0 = .ok (.iconst 0, 1) := by decide +kernel
theorem dX6_traceAll_1 : decode cX6_traceAll 1 = .ok (.istore_n 1, 1) := by decide +kernel
theorem dX6_traceAll_2 : decode cX6_traceAll 2 = .ok (.iload_n 1, 1) := by decide +kernel
theorem dX6_traceAll_3 : decode cX6_traceAll 3 = .ok (.aload_n 0, 1) := by decide +kernel
theorem dX6_traceAll_4 : decode cX6_traceAll 4 = .ok (.getfield 50, 3) := by decide +kernel
theorem dX6_traceAll_7 : decode cX6_traceAll 7 = .ok (.if_icmp .ge 31, 3) := by decide +kernel
theorem dX6_traceAll_10 : decode cX6_traceAll 10 = .ok (.aload_n 0, 1) := by decide +kernel
theorem dX6_traceAll_11 : decode cX6_traceAll 11 = .ok (.iload_n 1, 1) := by decide +kernel
theorem dX6_traceAll_12 : decode cX6_traceAll 12 = .ok (.invokevirtual 143, 3) := by decide +kernel
theorem dX6_traceAll_15 : decode cX6_traceAll 15 = .ok (.astore_n 2, 1) := by decide +kernel
theorem dX6_traceAll_16 : decode cX6_traceAll 16 = .ok (.aload_n 2, 1) := by decide +kernel
theorem dX6_traceAll_17 : decode cX6_traceAll 17 = .ok (.ifnull 15, 3) := by decide +kernel
theorem dX6_traceAll_20 : decode cX6_traceAll 20 = .ok (.aload_n 2, 1) := by decide +kernel
theorem dX6_traceAll_21 : decode cX6_traceAll 21 = .ok (.aload_n 0, 1) := by decide +kernel
theorem dX6_traceAll_22 : decode cX6_traceAll 22 = .ok (.getfield 16, 3) := by decide +kernel
theorem dX6_traceAll_25 : decode cX6_traceAll 25 = .ok (.aload_n 0, 1) := by decide +kernel
theorem dX6_traceAll_26 : decode cX6_traceAll 26 = .ok (.getfield 59, 3) := by decide +kernel
theorem dX6_traceAll_29 : decode cX6_traceAll 29 = .ok (.invokevirtual 218, 3) := by decide +kernel
theorem dX6_traceAll_32 : decode cX6_traceAll 32 = .ok (.iinc 1 1, 3) := by decide +kernel
theorem dX6_traceAll_35 : decode cX6_traceAll 35 = .ok (.goto (-33), 3) := by decide +kernel
theorem dX6_traceAll_38 : decode cX6_traceAll 38 = .ok (.return_, 1) := by decide +kernel
theorem dX6_search_0 : decode cX6_search 0 = .ok (.iconst 0, 1) := by decide +kernel
theorem dX6_search_1 : decode cX6_search 1 = .ok (.istore_n 3, 1) := by decide +kernel
theorem dX6_search_2 : decode cX6_search 2 = .ok (.iconst 0, 1) := by decide +kernel
theorem dX6_search_3 : decode cX6_search 3 = .ok (.istore 4, 2) := by decide +kernel
theorem dX6_search_5 : decode cX6_search 5 = .ok (.iload 4, 2) := by decide +kernel
theorem dX6_search_7 : decode cX6_search 7 = .ok (.aload_n 0, 1) := by decide +kernel
theorem dX6_search_8 : decode cX6_search 8 = .ok (.getfield 41, 3) := by decide +kernel
theorem dX6_search_11 : decode cX6_search 11 = .ok (.if_icmp .ge 58, 3) := by decide +kernel
theorem dX6_search_14 : decode cX6_search 14 = .ok (.iconst 0, 1) := by decide +kernel
theorem dX6_search_15 : decode cX6_search 15 = .ok (.istore 5, 2) := by decide +kernel
theorem dX6_search_17 : decode cX6_search 17 = .ok (.iload 5, 2) := by decide +kernel
theorem dX6_search_19 : decode cX6_search 19 = .ok (.aload_n 0, 1) := by decide +kernel
theorem dX6_search_20 : decode cX6_search 20 = .ok (.getfield 41, 3) := by decide +kernel
theorem dX6_search_23 : decode cX6_search 23 = .ok (.if_icmp .ge 40, 3) := by decide +kernel
theorem dX6_search_26 : decode cX6_search 26 = .ok (.aload_n 0, 1) := by decide +kernel
theorem dX6_search_27 : decode cX6_search 27 = .ok (.iload 4, 2) := by decide +kernel
theorem dX6_search_29 : decode cX6_search 29 = .ok (.iload 5, 2) := by decide +kernel
theorem dX6_search_31 : decode cX6_search 31 = .ok (.invokevirtual 222, 3) := by decide +kernel
theorem dX6_search_34 : decode cX6_search 34 = .ok (.ifCond .eq 23, 3) := by decide +kernel
theorem dX6_search_37 : decode cX6_search 37 = .ok (.aload_n 0, 1) := by decide +kernel
theorem dX6_search_38 : decode cX6_search 38 = .ok (.iload_n 1, 1) := by decide +kernel
theorem dX6_search_39 : decode cX6_search 39 = .ok (.invokevirtual 225, 3) := by decide +kernel
theorem dX6_search_42 : decode cX6_search 42 = .ok (.ifCond .eq 15, 3) := by decide +kernel
theorem dX6_search_45 : decode cX6_search 45 = .ok (.iload_n 2, 1) := by decide +kernel
theorem dX6_search_46 : decode cX6_search 46 = .ok (.ifCond .eq 8, 3) := by decide +kernel
theorem dX6_search_49 : decode cX6_search 49 = .ok (.aload_n 0, 1) := by decide +kernel
theorem dX6_search_50 : decode cX6_search 50 = .ok (.iload_n 3, 1) := by decide +kernel
theorem dX6_search_51 : decode cX6_search 51 = .ok (.invokevirtual 228, 3) := by decide +kernel
theorem dX6_search_54 : decode cX6_search 54 = .ok (.iinc 3 1, 3) := by decide +kernel
theorem dX6_search_57 : decode cX6_search 57 = .ok (.iinc 5 1, 3) := by decide +kernel
theorem dX6_search_60 : decode cX6_search 60 = .ok (.goto (-43), 3) := by decide +kernel
theorem dX6_search_63 : decode cX6_search 63 = .ok (.iinc 4 1, 3) := by decide +kernel
theorem dX6_search_66 : decode cX6_search 66 = .ok (.goto (-61), 3) := by decide +kernel
theorem dX6_search_69 : decode cX6_search 69 = .ok (.iload_n 3, 1) := by decide +kernel
theorem dX6_search_70 : decode cX6_search 70 = .ok (.ireturn, 1) := by decide +kernel
theorem dX6_store_0 : decode cX6_store 0 = .ok (.iload_n 1, 1) := by decide +kernel
theorem dX6_store_1 : decode cX6_store 1 = .ok (.ifCond .lt 12, 3) := by decide +kernel
theorem dX6_store_4 : decode cX6_store 4 = .ok (.iload_n 1, 1) := by decide +kernel
theorem dX6_store_5 : decode cX6_store 5 = .ok (.aload_n 0, 1) := by decide +kernel
theorem dX6_store_6 : decode cX6_store 6 = .ok (.getfield 46, 3) := by decide +kernel
theorem dX6_store_9 : decode cX6_store 9 = .ok (.arraylength, 1) := by decide +kernel
theorem dX6_store_10 : decode cX6_store 10 = .ok (.if_icmp .lt 4, 3) := by decide +kernel
theorem dX6_store_13 : decode cX6_store 13 = .ok (.return_, 1) := by decide +kernel
theorem dX6_store_14 : decode cX6_store 14 = .ok (.aload_n 0, 1) := by decide +kernel
theorem dX6_store_15 : decode cX6_store 15 = .ok (.getfield 46, 3) := by decide +kernel
theorem dX6_store_18 : decode cX6_store 18 = .ok (.iload_n 1, 1) := by decide +kernel
theorem dX6_store_19 : decode cX6_store 19 = .ok (.aaload, 1) := by decide +kernel
theorem dX6_store_20 : decode cX6_store 20 = .ok (.ifnonnull 16, 3) := by decide +kernel
theorem dX6_store_23 : decode cX6_store 23 = .ok (.aload_n 0, 1) := by decide +kernel
theorem dX6_store_24 : decode cX6_store 24 = .ok (.getfield 46, 3) := by decide +kernel
theorem dX6_store_27 : decode cX6_store 27 = .ok (.iload_n 1, 1) := by decide +kernel
theorem dX6_store_28 : decode cX6_store 28 = .ok (.new 44, 3) := by decide +kernel
theorem dX6_store_31 : decode cX6_store 31 = .ok (.dup, 1) := by decide +kernel
theorem dX6_store_32 : decode cX6_store 32 = .ok (.invokespecial 63, 3) := by decide +kernel
theorem dX6_store_35 : decode cX6_store 35 = .ok (.aastore, 1) := by decide +kernel
theorem dX6_store_36 : decode cX6_store 36 = .ok (.aload_n 0, 1) := by decide +kernel
theorem dX6_store_37 : decode cX6_store 37 = .ok (.getfield 46, 3) := by decide +kernel
theorem dX6_store_40 : decode cX6_store 40 = .ok (.iload_n 1, 1) := by decide +kernel
theorem dX6_store_41 : decode cX6_store 41 = .ok (.aaload, 1) := by decide +kernel
theorem dX6_store_42 : decode cX6_store 42 = .ok (.aload_n 0, 1) := by decide +kernel
theorem dX6_store_43 : decode cX6_store 43 = .ok (.getfield 64, 3) := by decide +kernel
theorem dX6_store_46 : decode cX6_store 46 = .ok (.invokevirtual 231, 3) := by decide +kernel
theorem dX6_store_49 : decode cX6_store 49 = .ok (.return_, 1) := by decide +kernel
theorem dX6_aim_0 : decode cX6_aim 0 = .ok (.aload_n 0, 1) := by decide +kernel
theorem dX6_aim_1 : decode cX6_aim 1 = .ok (.aload_n 0, 1) := by decide +kernel
theorem dX6_aim_2 : decode cX6_aim 2 = .ok (.getfield 29, 3) := by decide +kernel
theorem dX6_aim_5 : decode cX6_aim 5 = .ok (.invokevirtual 124, 3) := by decide +kernel
theorem dX6_aim_8 : decode cX6_aim 8 = .ok (.astore_n 3, 1) := by decide +kernel
theorem dX6_aim_9 : decode cX6_aim 9 = .ok (.aload_n 0, 1) := by decide +kernel
theorem dX6_aim_10 : decode cX6_aim 10 = .ok (.aload_n 0, 1) := by decide +kernel
theorem dX6_aim_11 : decode cX6_aim 11 = .ok (.getfield 32, 3) := by decide +kernel
theorem dX6_aim_14 : decode cX6_aim 14 = .ok (.invokevirtual 124, 3) := by decide +kernel
theorem dX6_aim_17 : decode cX6_aim 17 = .ok (.astore 4, 2) := by decide +kernel
theorem dX6_aim_19 : decode cX6_aim 19 = .ok (.aload_n 3, 1) := by decide +kernel
theorem dX6_aim_20 : decode cX6_aim 20 = .ok (.ifnull 20, 3) := by decide +kernel
theorem dX6_aim_23 : decode cX6_aim 23 = .ok (.aload 4, 2) := by decide +kernel
theorem dX6_aim_25 : decode cX6_aim 25 = .ok (.ifnull 15, 3) := by decide +kernel
theorem dX6_aim_28 : decode cX6_aim 28 = .ok (.aload 4, 2) := by decide +kernel
theorem dX6_aim_30 : decode cX6_aim 30 = .ok (.getfield 112, 3) := by decide +kernel
theorem dX6_aim_33 : decode cX6_aim 33 = .ok (.aload_n 3, 1) := by decide +kernel
theorem dX6_aim_34 : decode cX6_aim 34 = .ok (.getfield 112, 3) := by decide +kernel
theorem dX6_aim_37 : decode cX6_aim 37 = .ok (.if_icmp .gt 5, 3) := by decide +kernel
theorem dX6_aim_40 : decode cX6_aim 40 = .ok (.iconst 0, 1) := by decide +kernel
theorem dX6_aim_41 : decode cX6_aim 41 = .ok (.ireturn, 1) := by decide +kernel
theorem dX6_aim_42 : decode cX6_aim 42 = .ok (.aload 4, 2) := by decide +kernel
theorem dX6_aim_44 : decode cX6_aim 44 = .ok (.getfield 112, 3) := by decide +kernel
theorem dX6_aim_47 : decode cX6_aim 47 = .ok (.aload_n 3, 1) := by decide +kernel
theorem dX6_aim_48 : decode cX6_aim 48 = .ok (.getfield 112, 3) := by decide +kernel
theorem dX6_aim_51 : decode cX6_aim 51 = .ok (.isub, 1) := by decide +kernel
theorem dX6_aim_52 : decode cX6_aim 52 = .ok (.istore 5, 2) := by decide +kernel
theorem dX6_aim_54 : decode cX6_aim 54 = .ok (.aload_n 0, 1) := by decide +kernel
theorem dX6_aim_55 : decode cX6_aim 55 = .ok (.getfield 12, 3) := by decide +kernel
theorem dX6_aim_58 : decode cX6_aim 58 = .ok (.getfield 90, 3) := by decide +kernel
theorem dX6_aim_61 : decode cX6_aim 61 = .ok (.aload 4, 2) := by decide +kernel
theorem dX6_aim_63 : decode cX6_aim 63 = .ok (.getfield 112, 3) := by decide +kernel
theorem dX6_aim_66 : decode cX6_aim 66 = .ok (.invokevirtual 234, 3) := by decide +kernel
theorem dX6_aim_69 : decode cX6_aim 69 = .ok (.aload 4, 2) := by decide +kernel
theorem dX6_aim_71 : decode cX6_aim 71 = .ok (.aload 4, 2) := by decide +kernel
theorem dX6_aim_73 : decode cX6_aim 73 = .ok (.getfield 115, 3) := by decide +kernel
theorem dX6_aim_76 : decode cX6_aim 76 = .ok (.aload_n 0, 1) := by decide +kernel
theorem dX6_aim_77 : decode cX6_aim 77 = .ok (.iload_n 2, 1) := by decide +kernel
theorem dX6_aim_78 : decode cX6_aim 78 = .ok (.invokevirtual 235, 3) := by decide +kernel
theorem dX6_aim_81 : decode cX6_aim 81 = .ok (.invokevirtual 238, 3) := by decide +kernel
theorem dX6_aim_84 : decode cX6_aim 84 = .ok (.iadd, 1) := by decide +kernel
theorem dX6_aim_85 : decode cX6_aim 85 = .ok (.istore 6, 2) := by decide +kernel
theorem dX6_aim_87 : decode cX6_aim 87 = .ok (.aload_n 0, 1) := by decide +kernel
theorem dX6_aim_88 : decode cX6_aim 88 = .ok (.getfield 12, 3) := by decide +kernel
theorem dX6_aim_91 : decode cX6_aim 91 = .ok (.getfield 90, 3) := by decide +kernel
theorem dX6_aim_94 : decode cX6_aim 94 = .ok (.aload 4, 2) := by decide +kernel
theorem dX6_aim_96 : decode cX6_aim 96 = .ok (.getfield 112, 3) := by decide +kernel
theorem dX6_aim_99 : decode cX6_aim 99 = .ok (.invokevirtual 241, 3) := by decide +kernel
theorem dX6_aim_102 : decode cX6_aim 102 = .ok (.aload 4, 2) := by decide +kernel
theorem dX6_aim_104 : decode cX6_aim 104 = .ok (.aload 4, 2) := by decide +kernel
theorem dX6_aim_106 : decode cX6_aim 106 = .ok (.getfield 118, 3) := by decide +kernel
theorem dX6_aim_109 : decode cX6_aim 109 = .ok (.aload_n 0, 1) := by decide +kernel
theorem dX6_aim_110 : decode cX6_aim 110 = .ok (.iload_n 2, 1) := by decide +kernel
theorem dX6_aim_111 : decode cX6_aim 111 = .ok (.invokevirtual 235, 3) := by decide +kernel
theorem dX6_aim_114 : decode cX6_aim 114 = .ok (.invokevirtual 238, 3) := by decide +kernel
theorem dX6_aim_117 : decode cX6_aim 117 = .ok (.iadd, 1) := by decide +kernel
theorem dX6_aim_118 : decode cX6_aim 118 = .ok (.istore 7, 2) := by decide +kernel
theorem dX6_aim_120 : decode cX6_aim 120 = .ok (.aload_n 0, 1) := by decide +kernel
theorem dX6_aim_121 : decode cX6_aim 121 = .ok (.getfield 64, 3) := by decide +kernel
theorem dX6_aim_124 : decode cX6_aim 124 = .ok (.iload_n 1, 1) := by decide +kernel
theorem dX6_aim_125 : decode cX6_aim 125 = .ok (.putfield 148, 3) := by decide +kernel
theorem dX6_aim_128 : decode cX6_aim 128 = .ok (.aload_n 0, 1) := by decide +kernel
theorem dX6_aim_129 : decode cX6_aim 129 = .ok (.getfield 64, 3) := by decide +kernel
theorem dX6_aim_132 : decode cX6_aim 132 = .ok (.iload_n 2, 1) := by decide +kernel
theorem dX6_aim_133 : decode cX6_aim 133 = .ok (.putfield 151, 3) := by decide +kernel
theorem dX6_aim_136 : decode cX6_aim 136 = .ok (.aload_n 0, 1) := by decide +kernel
theorem dX6_aim_137 : decode cX6_aim 137 = .ok (.getfield 64, 3) := by decide +kernel
theorem dX6_aim_140 : decode cX6_aim 140 = .ok (.aload_n 3, 1) := by decide +kernel
theorem dX6_aim_141 : decode cX6_aim 141 = .ok (.getfield 112, 3) := by decide +kernel
theorem dX6_aim_144 : decode cX6_aim 144 = .ok (.putfield 166, 3) := by decide +kernel
theorem dX6_aim_147 : decode cX6_aim 147 = .ok (.aload_n 0, 1) := by decide +kernel
theorem dX6_aim_148 : decode cX6_aim 148 = .ok (.getfield 64, 3) := by decide +kernel
theorem dX6_aim_151 : decode cX6_aim 151 = .ok (.aload_n 0, 1) := by decide +kernel
theorem dX6_aim_152 : decode cX6_aim 152 = .ok (.getfield 12, 3) := by decide +kernel
theorem dX6_aim_155 : decode cX6_aim 155 = .ok (.getfield 90, 3) := by decide +kernel
theorem dX6_aim_158 : decode cX6_aim 158 = .ok (.aload_n 3, 1) := by decide +kernel
theorem dX6_aim_159 : decode cX6_aim 159 = .ok (.getfield 112, 3) := by decide +kernel
theorem dX6_aim_162 : decode cX6_aim 162 = .ok (.invokevirtual 234, 3) := by decide +kernel
theorem dX6_aim_165 : decode cX6_aim 165 = .ok (.aload_n 3, 1) := by decide +kernel
theorem dX6_aim_166 : decode cX6_aim 166 = .ok (.aload_n 3, 1) := by decide +kernel
theorem dX6_aim_167 : decode cX6_aim 167 = .ok (.getfield 115, 3) := by decide +kernel
theorem dX6_aim_170 : decode cX6_aim 170 = .ok (.aload_n 0, 1) := by decide +kernel
theorem dX6_aim_171 : decode cX6_aim 171 = .ok (.iload_n 1, 1) := by decide +kernel
theorem dX6_aim_172 : decode cX6_aim 172 = .ok (.invokevirtual 235, 3) := by decide +kernel
theorem dX6_aim_175 : decode cX6_aim 175 = .ok (.invokevirtual 238, 3) := by decide +kernel
theorem dX6_aim_178 : decode cX6_aim 178 = .ok (.iadd, 1) := by decide +kernel
theorem dX6_aim_179 : decode cX6_aim 179 = .ok (.putfield 154, 3) := by decide +kernel
theorem dX6_aim_182 : decode cX6_aim 182 = .ok (.aload_n 0, 1) := by decide +kernel
theorem dX6_aim_183 : decode cX6_aim 183 = .ok (.getfield 64, 3) := by decide +kernel
theorem dX6_aim_186 : decode cX6_aim 186 = .ok (.aload_n 0, 1) := by decide +kernel
theorem dX6_aim_187 : decode cX6_aim 187 = .ok (.getfield 12, 3) := by decide +kernel
theorem dX6_aim_190 : decode cX6_aim 190 = .ok (.getfield 90, 3) := by decide +kernel
theorem dX6_aim_193 : decode cX6_aim 193 = .ok (.aload_n 3, 1) := by decide +kernel
theorem dX6_aim_194 : decode cX6_aim 194 = .ok (.getfield 112, 3) := by decide +kernel
theorem dX6_aim_197 : decode cX6_aim 197 = .ok (.invokevirtual 241, 3) := by decide +kernel
theorem dX6_aim_200 : decode cX6_aim 200 = .ok (.aload_n 3, 1) := by decide +kernel
theorem dX6_aim_201 : decode cX6_aim 201 = .ok (.aload_n 3, 1) := by decide +kernel
theorem dX6_aim_202 : decode cX6_aim 202 = .ok (.getfield 118, 3) := by decide +kernel
theorem dX6_aim_205 : decode cX6_aim 205 = .ok (.aload_n 0, 1) := by decide +kernel
theorem dX6_aim_206 : decode cX6_aim 206 = .ok (.iload_n 1, 1) := by decide +kernel
theorem dX6_aim_207 : decode cX6_aim 207 = .ok (.invokevirtual 235, 3) := by decide +kernel
theorem dX6_aim_210 : decode cX6_aim 210 = .ok (.invokevirtual 238, 3) := by decide +kernel
theorem dX6_aim_213 : decode cX6_aim 213 = .ok (.iadd, 1) := by decide +kernel
theorem dX6_aim_214 : decode cX6_aim 214 = .ok (.putfield 157, 3) := by decide +kernel
theorem dX6_aim_217 : decode cX6_aim 217 = .ok (.aload_n 0, 1) := by decide +kernel
theorem dX6_aim_218 : decode cX6_aim 218 = .ok (.getfield 64, 3) := by decide +kernel
theorem dX6_aim_221 : decode cX6_aim 221 = .ok (.iload 6, 2) := by decide +kernel
theorem dX6_aim_223 : decode cX6_aim 223 = .ok (.aload_n 0, 1) := by decide +kernel
theorem dX6_aim_224 : decode cX6_aim 224 = .ok (.getfield 64, 3) := by decide +kernel
theorem dX6_aim_227 : decode cX6_aim 227 = .ok (.getfield 154, 3) := by decide +kernel
theorem dX6_aim_230 : decode cX6_aim 230 = .ok (.isub, 1) := by decide +kernel
theorem dX6_aim_231 : decode cX6_aim 231 = .ok (.iload 5, 2) := by decide +kernel
theorem dX6_aim_233 : decode cX6_aim 233 = .ok (.idiv, 1) := by decide +kernel
theorem dX6_aim_234 : decode cX6_aim 234 = .ok (.putfield 160, 3) := by decide +kernel
theorem dX6_aim_237 : decode cX6_aim 237 = .ok (.aload_n 0, 1) := by decide +kernel
theorem dX6_aim_238 : decode cX6_aim 238 = .ok (.getfield 64, 3) := by decide +kernel
theorem dX6_aim_241 : decode cX6_aim 241 = .ok (.iload 7, 2) := by decide +kernel
theorem dX6_aim_243 : decode cX6_aim 243 = .ok (.aload_n 0, 1) := by decide +kernel
theorem dX6_aim_244 : decode cX6_aim 244 = .ok (.getfield 64, 3) := by decide +kernel
theorem dX6_aim_247 : decode cX6_aim 247 = .ok (.getfield 157, 3) := by decide +kernel
theorem dX6_aim_250 : decode cX6_aim 250 = .ok (.isub, 1) := by decide +kernel
theorem dX6_aim_251 : decode cX6_aim 251 = .ok (.iload 5, 2) := by decide +kernel
theorem dX6_aim_253 : decode cX6_aim 253 = .ok (.idiv, 1) := by decide +kernel
theorem dX6_aim_254 : decode cX6_aim 254 = .ok (.putfield 163, 3) := by decide +kernel
theorem dX6_aim_257 : decode cX6_aim 257 = .ok (.iconst 0, 1) := by decide +kernel
theorem dX6_aim_258 : decode cX6_aim 258 = .ok (.istore 8, 2) := by decide +kernel
theorem dX6_aim_260 : decode cX6_aim 260 = .ok (.iload 8, 2) := by decide +kernel
theorem dX6_aim_262 : decode cX6_aim 262 = .ok (.iconst 3, 1) := by decide +kernel
theorem dX6_aim_263 : decode cX6_aim 263 = .ok (.if_icmp .ge 104, 3) := by decide +kernel
theorem dX6_aim_266 : decode cX6_aim 266 = .ok (.aload_n 0, 1) := by decide +kernel
theorem dX6_aim_267 : decode cX6_aim 267 = .ok (.getfield 59, 3) := by decide +kernel
theorem dX6_aim_270 : decode cX6_aim 270 = .ok (.aload_n 0, 1) := by decide +kernel
theorem dX6_aim_271 : decode cX6_aim 271 = .ok (.getfield 64, 3) := by decide +kernel
theorem dX6_aim_274 : decode cX6_aim 274 = .ok (.invokevirtual 242, 3) := by decide +kernel
theorem dX6_aim_277 : decode cX6_aim 277 = .ok (.aload_n 0, 1) := by decide +kernel
theorem dX6_aim_278 : decode cX6_aim 278 = .ok (.getfield 59, 3) := by decide +kernel
theorem dX6_aim_281 : decode cX6_aim 281 = .ok (.aload_n 0, 1) := by decide +kernel
theorem dX6_aim_282 : decode cX6_aim 282 = .ok (.getfield 12, 3) := by decide +kernel
theorem dX6_aim_285 : decode cX6_aim 285 = .ok (.aload 4, 2) := by decide +kernel
theorem dX6_aim_287 : decode cX6_aim 287 = .ok (.getfield 112, 3) := by decide +kernel
theorem dX6_aim_290 : decode cX6_aim 290 = .ok (.invokevirtual 245, 3) := by decide +kernel
theorem dX6_aim_293 : decode cX6_aim 293 = .ok (.aload_n 0, 1) := by decide +kernel
theorem dX6_aim_294 : decode cX6_aim 294 = .ok (.getfield 59, 3) := by decide +kernel
theorem dX6_aim_297 : decode cX6_aim 297 = .ok (.getfield 249, 3) := by decide +kernel
theorem dX6_aim_300 : decode cX6_aim 300 = .ok (.ifCond .eq 5, 3) := by decide +kernel
theorem dX6_aim_303 : decode cX6_aim 303 = .ok (.iconst 0, 1) := by decide +kernel
theorem dX6_aim_304 : decode cX6_aim 304 = .ok (.ireturn, 1) := by decide +kernel
theorem dX6_aim_305 : decode cX6_aim 305 = .ok (.aload_n 0, 1) := by decide +kernel
theorem dX6_aim_306 : decode cX6_aim 306 = .ok (.getfield 64, 3) := by decide +kernel
theorem dX6_aim_309 : decode cX6_aim 309 = .ok (.dup, 1) := by decide +kernel
theorem dX6_aim_310 : decode cX6_aim 310 = .ok (.getfield 160, 3) := by decide +kernel
theorem dX6_aim_313 : decode cX6_aim 313 = .ok (.iload 6, 2) := by decide +kernel
theorem dX6_aim_315 : decode cX6_aim 315 = .ok (.i2l, 1) := by decide +kernel
theorem dX6_aim_316 : decode cX6_aim 316 = .ok (.aload_n 0, 1) := by decide +kernel
theorem dX6_aim_317 : decode cX6_aim 317 = .ok (.getfield 59, 3) := by decide +kernel
theorem dX6_aim_320 : decode cX6_aim 320 = .ok (.getfield 253, 3) := by decide +kernel
theorem dX6_aim_323 : decode cX6_aim 323 = .ok (.lsub, 1) := by decide +kernel
theorem dX6_aim_324 : decode cX6_aim 324 = .ok (.iload 5, 2) := by decide +kernel
theorem dX6_aim_326 : decode cX6_aim 326 = .ok (.i2l, 1) := by decide +kernel
theorem dX6_aim_327 : decode cX6_aim 327 = .ok (.ldiv, 1) := by decide +kernel
theorem dX6_aim_328 : decode cX6_aim 328 = .ok (.l2i, 1) := by decide +kernel
theorem dX6_aim_329 : decode cX6_aim 329 = .ok (.iadd, 1) := by decide +kernel
theorem dX6_aim_330 : decode cX6_aim 330 = .ok (.putfield 160, 3) := by decide +kernel
theorem dX6_aim_333 : decode cX6_aim 333 = .ok (.aload_n 0, 1) := by decide +kernel
theorem dX6_aim_334 : decode cX6_aim 334 = .ok (.getfield 64, 3) := by decide +kernel
theorem dX6_aim_337 : decode cX6_aim 337 = .ok (.dup, 1) := by decide +kernel
theorem dX6_aim_338 : decode cX6_aim 338 = .ok (.getfield 163, 3) := by decide +kernel
theorem dX6_aim_341 : decode cX6_aim 341 = .ok (.iload 7, 2) := by decide +kernel
theorem dX6_aim_343 : decode cX6_aim 343 = .ok (.i2l, 1) := by decide +kernel
theorem dX6_aim_344 : decode cX6_aim 344 = .ok (.aload_n 0, 1) := by decide +kernel
theorem dX6_aim_345 : decode cX6_aim 345 = .ok (.getfield 59, 3) := by decide +kernel
theorem dX6_aim_348 : decode cX6_aim 348 = .ok (.getfield 255, 3) := by decide +kernel
theorem dX6_aim_351 : decode cX6_aim 351 = .ok (.lsub, 1) := by decide +kernel
theorem dX6_aim_352 : decode cX6_aim 352 = .ok (.iload 5, 2) := by decide +kernel
theorem dX6_aim_354 : decode cX6_aim 354 = .ok (.i2l, 1) := by decide +kernel
theorem dX6_aim_355 : decode cX6_aim 355 = .ok (.ldiv, 1) := by decide +kernel
theorem dX6_aim_356 : decode cX6_aim 356 = .ok (.l2i, 1) := by decide +kernel
theorem dX6_aim_357 : decode cX6_aim 357 = .ok (.iadd, 1) := by decide +kernel
theorem dX6_aim_358 : decode cX6_aim 358 = .ok (.putfield 163, 3) := by decide +kernel
theorem dX6_aim_361 : decode cX6_aim 361 = .ok (.iinc 8 1, 3) := by decide +kernel
theorem dX6_aim_364 : decode cX6_aim 364 = .ok (.goto (-104), 3) := by decide +kernel
theorem dX6_aim_367 : decode cX6_aim 367 = .ok (.iconst 1, 1) := by decide +kernel
theorem dX6_aim_368 : decode cX6_aim 368 = .ok (.ireturn, 1) := by decide +kernel
theorem dX6_gridDistance_0 : decode cX6_gridDistance 0 = .ok (.aload_n 0, 1) := by decide +kernel
theorem dX6_gridDistance_1 : decode cX6_gridDistance 1 = .ok (.getfield 35, 3) := by decide +kernel
theorem dX6_gridDistance_4 : decode cX6_gridDistance 4 = .ok (.aload_n 0, 1) := by decide +kernel
theorem dX6_gridDistance_5 : decode cX6_gridDistance 5 = .ok (.getfield 38, 3) := by decide +kernel
theorem dX6_gridDistance_8 : decode cX6_gridDistance 8 = .ok (.iload_n 1, 1) := by decide +kernel
theorem dX6_gridDistance_9 : decode cX6_gridDistance 9 = .ok (.imul, 1) := by decide +kernel
theorem dX6_gridDistance_10 : decode cX6_gridDistance 10 = .ok (.iadd, 1) := by decide +kernel
theorem dX6_gridDistance_11 : decode cX6_gridDistance 11 = .ok (.ireturn, 1) := by decide +kernel
theorem dX6_fitsAllBut_0 : decode cX6_fitsAllBut 0 = .ok (.aload_n 0, 1) := by decide +kernel
theorem dX6_fitsAllBut_1 : decode cX6_fitsAllBut 1 = .ok (.getfield 59, 3) := by decide +kernel
theorem dX6_fitsAllBut_4 : decode cX6_fitsAllBut 4 = .ok (.aload_n 0, 1) := by decide +kernel
theorem dX6_fitsAllBut_5 : decode cX6_fitsAllBut 5 = .ok (.getfield 64, 3) := by decide +kernel
theorem dX6_fitsAllBut_8 : decode cX6_fitsAllBut 8 = .ok (.invokevirtual 242, 3) := by decide +kernel
theorem dX6_fitsAllBut_11 : decode cX6_fitsAllBut 11 = .ok (.iconst 0, 1) := by decide +kernel
theorem dX6_fitsAllBut_12 : decode cX6_fitsAllBut 12 = .ok (.istore_n 2, 1) := by decide +kernel
theorem dX6_fitsAllBut_13 : decode cX6_fitsAllBut 13 = .ok (.iload_n 2, 1) := by decide +kernel
theorem dX6_fitsAllBut_14 : decode cX6_fitsAllBut 14 = .ok (.aload_n 0, 1) := by decide +kernel
theorem dX6_fitsAllBut_15 : decode cX6_fitsAllBut 15 = .ok (.getfield 25, 3) := by decide +kernel
theorem dX6_fitsAllBut_18 : decode cX6_fitsAllBut 18 = .ok (.if_icmp .ge 90, 3) := by decide +kernel
theorem dX6_fitsAllBut_21 : decode cX6_fitsAllBut 21 = .ok (.aload_n 0, 1) := by decide +kernel
theorem dX6_fitsAllBut_22 : decode cX6_fitsAllBut 22 = .ok (.iload_n 2, 1) := by decide +kernel
theorem dX6_fitsAllBut_23 : decode cX6_fitsAllBut 23 = .ok (.invokevirtual 124, 3) := by decide +kernel
theorem dX6_fitsAllBut_26 : decode cX6_fitsAllBut 26 = .ok (.astore_n 3, 1) := by decide +kernel
theorem dX6_fitsAllBut_27 : decode cX6_fitsAllBut 27 = .ok (.aload_n 3, 1) := by decide +kernel
theorem dX6_fitsAllBut_28 : decode cX6_fitsAllBut 28 = .ok (.ifnull 74, 3) := by decide +kernel
theorem dX6_fitsAllBut_31 : decode cX6_fitsAllBut 31 = .ok (.iload_n 2, 1) := by decide +kernel
theorem dX6_fitsAllBut_32 : decode cX6_fitsAllBut 32 = .ok (.iload_n 1, 1) := by decide +kernel
theorem dX6_fitsAllBut_33 : decode cX6_fitsAllBut 33 = .ok (.if_icmp .eq 69, 3) := by decide +kernel
theorem dX6_fitsAllBut_36 : decode cX6_fitsAllBut 36 = .ok (.aload_n 3, 1) := by decide +kernel
theorem dX6_fitsAllBut_37 : decode cX6_fitsAllBut 37 = .ok (.getfield 109, 3) := by decide +kernel
theorem dX6_fitsAllBut_40 : decode cX6_fitsAllBut 40 = .ok (.iconst 2, 1) := by decide +kernel
theorem dX6_fitsAllBut_41 : decode cX6_fitsAllBut 41 = .ok (.if_icmp .ne 6, 3) := by decide +kernel
theorem dX6_fitsAllBut_44 : decode cX6_fitsAllBut 44 = .ok (.goto 58, 3) := by decide +kernel
theorem dX6_fitsAllBut_47 : decode cX6_fitsAllBut 47 = .ok (.aload_n 0, 1) := by decide +kernel
theorem dX6_fitsAllBut_48 : decode cX6_fitsAllBut 48 = .ok (.getfield 59, 3) := by decide +kernel
theorem dX6_fitsAllBut_51 : decode cX6_fitsAllBut 51 = .ok (.aload_n 0, 1) := by decide +kernel
theorem dX6_fitsAllBut_52 : decode cX6_fitsAllBut 52 = .ok (.getfield 12, 3) := by decide +kernel
theorem dX6_fitsAllBut_55 : decode cX6_fitsAllBut 55 = .ok (.aload_n 3, 1) := by decide +kernel
theorem dX6_fitsAllBut_56 : decode cX6_fitsAllBut 56 = .ok (.getfield 112, 3) := by decide +kernel
theorem dX6_fitsAllBut_59 : decode cX6_fitsAllBut 59 = .ok (.invokevirtual 245, 3) := by decide +kernel
theorem dX6_fitsAllBut_62 : decode cX6_fitsAllBut 62 = .ok (.aload_n 0, 1) := by decide +kernel
theorem dX6_fitsAllBut_63 : decode cX6_fitsAllBut 63 = .ok (.getfield 59, 3) := by decide +kernel
theorem dX6_fitsAllBut_66 : decode cX6_fitsAllBut 66 = .ok (.getfield 249, 3) := by decide +kernel
theorem dX6_fitsAllBut_69 : decode cX6_fitsAllBut 69 = .ok (.ifCond .ne 31, 3) := by decide +kernel
theorem dX6_fitsAllBut_72 : decode cX6_fitsAllBut 72 = .ok (.aload_n 3, 1) := by decide +kernel
theorem dX6_fitsAllBut_73 : decode cX6_fitsAllBut 73 = .ok (.aload_n 0, 1) := by decide +kernel
theorem dX6_fitsAllBut_74 : decode cX6_fitsAllBut 74 = .ok (.getfield 12, 3) := by decide +kernel
theorem dX6_fitsAllBut_77 : decode cX6_fitsAllBut 77 = .ok (.getfield 90, 3) := by decide +kernel
theorem dX6_fitsAllBut_80 : decode cX6_fitsAllBut 80 = .ok (.aload_n 0, 1) := by decide +kernel
theorem dX6_fitsAllBut_81 : decode cX6_fitsAllBut 81 = .ok (.getfield 59, 3) := by decide +kernel
theorem dX6_fitsAllBut_84 : decode cX6_fitsAllBut 84 = .ok (.getfield 253, 3) := by decide +kernel
theorem dX6_fitsAllBut_87 : decode cX6_fitsAllBut 87 = .ok (.aload_n 0, 1) := by decide +kernel
theorem dX6_fitsAllBut_88 : decode cX6_fitsAllBut 88 = .ok (.getfield 59, 3) := by decide +kernel
theorem dX6_fitsAllBut_91 : decode cX6_fitsAllBut 91 = .ok (.getfield 255, 3) := by decide +kernel
theorem dX6_fitsAllBut_94 : decode cX6_fitsAllBut 94 = .ok (.invokevirtual 257, 3) := by decide +kernel
theorem dX6_fitsAllBut_97 : decode cX6_fitsAllBut 97 = .ok (.ifCond .ne 5, 3) := by decide +kernel
theorem dX6_fitsAllBut_100 : decode cX6_fitsAllBut 100 = .ok (.iconst 0, 1) := by decide +kernel
theorem dX6_fitsAllBut_101 : decode cX6_fitsAllBut 101 = .ok (.ireturn, 1) := by decide +kernel
theorem dX6_fitsAllBut_102 : decode cX6_fitsAllBut 102 = .ok (.iinc 2 1, 3) := by decide +kernel
theorem dX6_fitsAllBut_105 : decode cX6_fitsAllBut 105 = .ok (.goto (-92), 3) := by decide +kernel
theorem dX6_fitsAllBut_108 : decode cX6_fitsAllBut 108 = .ok (.iconst 1, 1) := by decide +kernel
theorem dX6_fitsAllBut_109 : decode cX6_fitsAllBut 109 = .ok (.ireturn, 1) := by decide +kernel
theorem dX6_isFitting_0 : decode cX6_isFitting 0 = .ok (.aload_n 2, 1) := by decide +kernel
theorem dX6_isFitting_1 : decode cX6_isFitting 1 = .ok (.getfield 112, 3) := by decide +kernel
theorem dX6_isFitting_4 : decode cX6_isFitting 4 = .ok (.istore_n 3, 1) := by decide +kernel

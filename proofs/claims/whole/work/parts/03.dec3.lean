theorem dX6_isFitting_5 : decode cX6_isFitting 5 = .ok (.aload_n 1, 1) := by decide +kernel
theorem dX6_isFitting_6 : decode cX6_isFitting 6 = .ok (.iload_n 3, 1) := by decide +kernel
theorem dX6_isFitting_7 : decode cX6_isFitting 7 = .ok (.invokevirtual 170, 3) := by decide +kernel
theorem dX6_isFitting_10 : decode cX6_isFitting 10 = .ok (.ifCond .eq 33, 3) := by decide +kernel
theorem dX6_isFitting_13 : decode cX6_isFitting 13 = .ok (.aload_n 2, 1) := by decide +kernel
theorem dX6_isFitting_14 : decode cX6_isFitting 14 = .ok (.aload_n 0, 1) := by decide +kernel
theorem dX6_isFitting_15 : decode cX6_isFitting 15 = .ok (.getfield 16, 3) := by decide +kernel
theorem dX6_isFitting_18 : decode cX6_isFitting 18 = .ok (.getfield 90, 3) := by decide +kernel
theorem dX6_isFitting_21 : decode cX6_isFitting 21 = .ok (.aload_n 1, 1) := by decide +kernel
theorem dX6_isFitting_22 : decode cX6_isFitting 22 = .ok (.iload_n 3, 1) := by decide +kernel
theorem dX6_isFitting_23 : decode cX6_isFitting 23 = .ok (.invokevirtual 173, 3) := by decide +kernel
theorem dX6_isFitting_26 : decode cX6_isFitting 26 = .ok (.i2l, 1) := by decide +kernel
theorem dX6_isFitting_27 : decode cX6_isFitting 27 = .ok (.aload_n 1, 1) := by decide +kernel
theorem dX6_isFitting_28 : decode cX6_isFitting 28 = .ok (.iload_n 3, 1) := by decide +kernel
theorem dX6_isFitting_29 : decode cX6_isFitting 29 = .ok (.invokevirtual 177, 3) := by decide +kernel
theorem dX6_isFitting_32 : decode cX6_isFitting 32 = .ok (.i2l, 1) := by decide +kernel
theorem dX6_isFitting_33 : decode cX6_isFitting 33 = .ok (.invokevirtual 257, 3) := by decide +kernel
theorem dX6_isFitting_36 : decode cX6_isFitting 36 = .ok (.ifCond .eq 7, 3) := by decide +kernel
theorem dX6_isFitting_39 : decode cX6_isFitting 39 = .ok (.iconst 1, 1) := by decide +kernel
theorem dX6_isFitting_40 : decode cX6_isFitting 40 = .ok (.goto 4, 3) := by decide +kernel
theorem dX6_isFitting_43 : decode cX6_isFitting 43 = .ok (.iconst 0, 1) := by decide +kernel
theorem dX6_isFitting_44 : decode cX6_isFitting 44 = .ok (.ireturn, 1) := by decide +kernel
theorem dX6_look_0 : decode cX6_look 0 = .ok (.aload_n 0, 1) := by decide +kernel
theorem dX6_look_1 : decode cX6_look 1 = .ok (.getfield 16, 3) := by decide +kernel
theorem dX6_look_4 : decode cX6_look 4 = .ok (.getfield 90, 3) := by decide +kernel
theorem dX6_look_7 : decode cX6_look 7 = .ok (.iload_n 1, 1) := by decide +kernel
theorem dX6_look_8 : decode cX6_look 8 = .ok (.invokevirtual 234, 3) := by decide +kernel
theorem dX6_look_11 : decode cX6_look 11 = .ok (.istore_n 2, 1) := by decide +kernel
theorem dX6_look_12 : decode cX6_look 12 = .ok (.aload_n 0, 1) := by decide +kernel
theorem dX6_look_13 : decode cX6_look 13 = .ok (.getfield 16, 3) := by decide +kernel
theorem dX6_look_16 : decode cX6_look 16 = .ok (.getfield 90, 3) := by decide +kernel
theorem dX6_look_19 : decode cX6_look 19 = .ok (.iload_n 1, 1) := by decide +kernel
theorem dX6_look_20 : decode cX6_look 20 = .ok (.invokevirtual 241, 3) := by decide +kernel
theorem dX6_look_23 : decode cX6_look 23 = .ok (.istore_n 3, 1) := by decide +kernel
theorem dX6_look_24 : decode cX6_look 24 = .ok (.aload_n 0, 1) := by decide +kernel
theorem dX6_look_25 : decode cX6_look 25 = .ok (.getfield 71, 3) := by decide +kernel
theorem dX6_look_28 : decode cX6_look 28 = .ok (.iconst 0, 1) := by decide +kernel
theorem dX6_look_29 : decode cX6_look 29 = .ok (.putfield 261, 3) := by decide +kernel
theorem dX6_look_32 : decode cX6_look 32 = .ok (.iconst 0, 1) := by decide +kernel
theorem dX6_look_33 : decode cX6_look 33 = .ok (.istore 4, 2) := by decide +kernel
theorem dX6_look_35 : decode cX6_look 35 = .ok (.iload 4, 2) := by decide +kernel
theorem dX6_look_37 : decode cX6_look 37 = .ok (.aload_n 0, 1) := by decide +kernel
theorem dX6_look_38 : decode cX6_look 38 = .ok (.getfield 50, 3) := by decide +kernel
theorem dX6_look_41 : decode cX6_look 41 = .ok (.if_icmp .ge 58, 3) := by decide +kernel
theorem dX6_look_44 : decode cX6_look 44 = .ok (.aload_n 0, 1) := by decide +kernel
theorem dX6_look_45 : decode cX6_look 45 = .ok (.iload 4, 2) := by decide +kernel
theorem dX6_look_47 : decode cX6_look 47 = .ok (.invokevirtual 143, 3) := by decide +kernel
theorem dX6_look_50 : decode cX6_look 50 = .ok (.astore 5, 2) := by decide +kernel
theorem dX6_look_52 : decode cX6_look 52 = .ok (.aload 5, 2) := by decide +kernel
theorem dX6_look_54 : decode cX6_look 54 = .ok (.ifnull 39, 3) := by decide +kernel
theorem dX6_look_57 : decode cX6_look 57 = .ok (.aload 5, 2) := by decide +kernel
theorem dX6_look_59 : decode cX6_look 59 = .ok (.iload_n 1, 1) := by decide +kernel
theorem dX6_look_60 : decode cX6_look 60 = .ok (.invokevirtual 170, 3) := by decide +kernel
theorem dX6_look_63 : decode cX6_look 63 = .ok (.ifCond .eq 30, 3) := by decide +kernel
theorem dX6_look_66 : decode cX6_look 66 = .ok (.aload_n 0, 1) := by decide +kernel
theorem dX6_look_67 : decode cX6_look 67 = .ok (.getfield 71, 3) := by decide +kernel
theorem dX6_look_70 : decode cX6_look 70 = .ok (.iload 4, 2) := by decide +kernel
theorem dX6_look_72 : decode cX6_look 72 = .ok (.aload 5, 2) := by decide +kernel
theorem dX6_look_74 : decode cX6_look 74 = .ok (.iload_n 1, 1) := by decide +kernel
theorem dX6_look_75 : decode cX6_look 75 = .ok (.invokevirtual 173, 3) := by decide +kernel
theorem dX6_look_78 : decode cX6_look 78 = .ok (.iload_n 2, 1) := by decide +kernel
theorem dX6_look_79 : decode cX6_look 79 = .ok (.isub, 1) := by decide +kernel
theorem dX6_look_80 : decode cX6_look 80 = .ok (.i2l, 1) := by decide +kernel
theorem dX6_look_81 : decode cX6_look 81 = .ok (.aload 5, 2) := by decide +kernel
theorem dX6_look_83 : decode cX6_look 83 = .ok (.iload_n 1, 1) := by decide +kernel
theorem dX6_look_84 : decode cX6_look 84 = .ok (.invokevirtual 177, 3) := by decide +kernel
theorem dX6_look_87 : decode cX6_look 87 = .ok (.iload_n 3, 1) := by decide +kernel
theorem dX6_look_88 : decode cX6_look 88 = .ok (.isub, 1) := by decide +kernel
theorem dX6_look_89 : decode cX6_look 89 = .ok (.i2l, 1) := by decide +kernel
theorem dX6_look_90 : decode cX6_look 90 = .ok (.invokevirtual 262, 3) := by decide +kernel
theorem dX6_look_93 : decode cX6_look 93 = .ok (.iinc 4 1, 3) := by decide +kernel
theorem dX6_look_96 : decode cX6_look 96 = .ok (.goto (-61), 3) := by decide +kernel
theorem dX6_look_99 : decode cX6_look 99 = .ok (.return_, 1) := by decide +kernel
theorem dX6_widthAt_0 : decode cX6_widthAt 0 = .ok (.aload_n 0, 1) := by decide +kernel
theorem dX6_widthAt_1 : decode cX6_widthAt 1 = .ok (.iload_n 1, 1) := by decide +kernel
theorem dX6_widthAt_2 : decode cX6_widthAt 2 = .ok (.invokevirtual 190, 3) := by decide +kernel
theorem dX6_widthAt_5 : decode cX6_widthAt 5 = .ok (.aload_n 0, 1) := by decide +kernel
theorem dX6_widthAt_6 : decode cX6_widthAt 6 = .ok (.getfield 71, 3) := by decide +kernel
theorem dX6_widthAt_9 : decode cX6_widthAt 9 = .ok (.invokevirtual 266, 3) := by decide +kernel
theorem dX6_widthAt_12 : decode cX6_widthAt 12 = .ok (.ireturn, 1) := by decide +kernel
theorem dX6_squareFromEarth_0 : decode cX6_squareFromEarth 0 = .ok (.aload_n 1, 1) := by decide +kernel
theorem dX6_squareFromEarth_1 : decode cX6_squareFromEarth 1 = .ok (.ifnull 11, 3) := by decide +kernel
theorem dX6_squareFromEarth_4 : decode cX6_squareFromEarth 4 = .ok (.aload_n 1, 1) := by decide +kernel
theorem dX6_squareFromEarth_5 : decode cX6_squareFromEarth 5 = .ok (.iload_n 2, 1) := by decide +kernel
theorem dX6_squareFromEarth_6 : decode cX6_squareFromEarth 6 = .ok (.invokevirtual 170, 3) := by decide +kernel
theorem dX6_squareFromEarth_9 : decode cX6_squareFromEarth 9 = .ok (.ifCond .ne 7, 3) := by decide +kernel
theorem dX6_squareFromEarth_12 : decode cX6_squareFromEarth 12 = .ok (.ldc2_w 201, 3) := by decide +kernel
theorem dX6_squareFromEarth_15 : decode cX6_squareFromEarth 15 = .ok (.lreturn, 1) := by decide +kernel
theorem dX6_squareFromEarth_16 : decode cX6_squareFromEarth 16 = .ok (.aload_n 1, 1) := by decide +kernel
theorem dX6_squareFromEarth_17 : decode cX6_squareFromEarth 17 = .ok (.iload_n 2, 1) := by decide +kernel
theorem dX6_squareFromEarth_18 : decode cX6_squareFromEarth 18 = .ok (.invokevirtual 173, 3) := by decide +kernel
theorem dX6_squareFromEarth_21 : decode cX6_squareFromEarth 21 = .ok (.aload_n 0, 1) := by decide +kernel
theorem dX6_squareFromEarth_22 : decode cX6_squareFromEarth 22 = .ok (.getfield 16, 3) := by decide +kernel
theorem dX6_squareFromEarth_25 : decode cX6_squareFromEarth 25 = .ok (.getfield 90, 3) := by decide +kernel
theorem dX6_squareFromEarth_28 : decode cX6_squareFromEarth 28 = .ok (.iload_n 2, 1) := by decide +kernel
theorem dX6_squareFromEarth_29 : decode cX6_squareFromEarth 29 = .ok (.invokevirtual 234, 3) := by decide +kernel
theorem dX6_squareFromEarth_32 : decode cX6_squareFromEarth 32 = .ok (.isub, 1) := by decide +kernel
theorem dX6_squareFromEarth_33 : decode cX6_squareFromEarth 33 = .ok (.i2l, 1) := by decide +kernel
theorem dX6_squareFromEarth_34 : decode cX6_squareFromEarth 34 = .ok (.lstore_n 3, 1) := by decide +kernel
theorem dX6_squareFromEarth_35 : decode cX6_squareFromEarth 35 = .ok (.aload_n 1, 1) := by decide +kernel
theorem dX6_squareFromEarth_36 : decode cX6_squareFromEarth 36 = .ok (.iload_n 2, 1) := by decide +kernel
theorem dX6_squareFromEarth_37 : decode cX6_squareFromEarth 37 = .ok (.invokevirtual 177, 3) := by decide +kernel
theorem dX6_squareFromEarth_40 : decode cX6_squareFromEarth 40 = .ok (.aload_n 0, 1) := by decide +kernel
theorem dX6_squareFromEarth_41 : decode cX6_squareFromEarth 41 = .ok (.getfield 16, 3) := by decide +kernel
theorem dX6_squareFromEarth_44 : decode cX6_squareFromEarth 44 = .ok (.getfield 90, 3) := by decide +kernel
theorem dX6_squareFromEarth_47 : decode cX6_squareFromEarth 47 = .ok (.iload_n 2, 1) := by decide +kernel
theorem dX6_squareFromEarth_48 : decode cX6_squareFromEarth 48 = .ok (.invokevirtual 241, 3) := by decide +kernel
theorem dX6_squareFromEarth_51 : decode cX6_squareFromEarth 51 = .ok (.isub, 1) := by decide +kernel
theorem dX6_squareFromEarth_52 : decode cX6_squareFromEarth 52 = .ok (.i2l, 1) := by decide +kernel
theorem dX6_squareFromEarth_53 : decode cX6_squareFromEarth 53 = .ok (.lstore 5, 2) := by decide +kernel
theorem dX6_squareFromEarth_55 : decode cX6_squareFromEarth 55 = .ok (.lload_n 3, 1) := by decide +kernel
theorem dX6_squareFromEarth_56 : decode cX6_squareFromEarth 56 = .ok (.lload_n 3, 1) := by decide +kernel
theorem dX6_squareFromEarth_57 : decode cX6_squareFromEarth 57 = .ok (.lmul, 1) := by decide +kernel
theorem dX6_squareFromEarth_58 : decode cX6_squareFromEarth 58 = .ok (.lload 5, 2) := by decide +kernel
theorem dX6_squareFromEarth_60 : decode cX6_squareFromEarth 60 = .ok (.lload 5, 2) := by decide +kernel
theorem dX6_squareFromEarth_62 : decode cX6_squareFromEarth 62 = .ok (.lmul, 1) := by decide +kernel
theorem dX6_squareFromEarth_63 : decode cX6_squareFromEarth 63 = .ok (.ladd, 1) := by decide +kernel
theorem dX6_squareFromEarth_64 : decode cX6_squareFromEarth 64 = .ok (.lreturn, 1) := by decide +kernel
theorem dX6_length_0 : decode cX6_length 0 = .ok (.lload_n 0, 1) := by decide +kernel
theorem dX6_length_1 : decode cX6_length 1 = .ok (.lload_n 0, 1) := by decide +kernel
theorem dX6_length_2 : decode cX6_length 2 = .ok (.lmul, 1) := by decide +kernel
theorem dX6_length_3 : decode cX6_length 3 = .ok (.lload_n 2, 1) := by decide +kernel
theorem dX6_length_4 : decode cX6_length 4 = .ok (.lload_n 2, 1) := by decide +kernel
theorem dX6_length_5 : decode cX6_length 5 = .ok (.lmul, 1) := by decide +kernel
theorem dX6_length_6 : decode cX6_length 6 = .ok (.ladd, 1) := by decide +kernel
theorem dX6_length_7 : decode cX6_length 7 = .ok (.lstore 4, 2) := by decide +kernel
theorem dX6_length_9 : decode cX6_length 9 = .ok (.lload_n 0, 1) := by decide +kernel
theorem dX6_length_10 : decode cX6_length 10 = .ok (.lconst 0, 1) := by decide +kernel
theorem dX6_length_11 : decode cX6_length 11 = .ok (.lcmp, 1) := by decide +kernel
theorem dX6_length_12 : decode cX6_length 12 = .ok (.ifCond .ge 8, 3) := by decide +kernel
theorem dX6_length_15 : decode cX6_length 15 = .ok (.lload_n 0, 1) := by decide +kernel
theorem dX6_length_16 : decode cX6_length 16 = .ok (.lneg, 1) := by decide +kernel
theorem dX6_length_17 : decode cX6_length 17 = .ok (.goto 4, 3) := by decide +kernel
theorem dX6_length_20 : decode cX6_length 20 = .ok (.lload_n 0, 1) := by decide +kernel
theorem dX6_length_21 : decode cX6_length 21 = .ok (.lload_n 2, 1) := by decide +kernel
theorem dX6_length_22 : decode cX6_length 22 = .ok (.lconst 0, 1) := by decide +kernel
theorem dX6_length_23 : decode cX6_length 23 = .ok (.lcmp, 1) := by decide +kernel
theorem dX6_length_24 : decode cX6_length 24 = .ok (.ifCond .ge 8, 3) := by decide +kernel
theorem dX6_length_27 : decode cX6_length 27 = .ok (.lload_n 2, 1) := by decide +kernel
theorem dX6_length_28 : decode cX6_length 28 = .ok (.lneg, 1) := by decide +kernel
theorem dX6_length_29 : decode cX6_length 29 = .ok (.goto 4, 3) := by decide +kernel
theorem dX6_length_32 : decode cX6_length 32 = .ok (.lload_n 2, 1) := by decide +kernel
theorem dX6_length_33 : decode cX6_length 33 = .ok (.ladd, 1) := by decide +kernel
theorem dX6_length_34 : decode cX6_length 34 = .ok (.lstore 6, 2) := by decide +kernel
theorem dX6_length_36 : decode cX6_length 36 = .ok (.iconst 0, 1) := by decide +kernel
theorem dX6_length_37 : decode cX6_length 37 = .ok (.istore 8, 2) := by decide +kernel
theorem dX6_length_39 : decode cX6_length 39 = .ok (.iload 8, 2) := by decide +kernel
theorem dX6_length_41 : decode cX6_length 41 = .ok (.bipush 64, 2) := by decide +kernel
theorem dX6_length_43 : decode cX6_length 43 = .ok (.if_icmp .ge 45, 3) := by decide +kernel
theorem dX6_length_46 : decode cX6_length 46 = .ok (.lload 6, 2) := by decide +kernel
theorem dX6_length_48 : decode cX6_length 48 = .ok (.lconst 0, 1) := by decide +kernel
theorem dX6_length_49 : decode cX6_length 49 = .ok (.lcmp, 1) := by decide +kernel
theorem dX6_length_50 : decode cX6_length 50 = .ok (.ifCond .le 38, 3) := by decide +kernel
theorem dX6_length_53 : decode cX6_length 53 = .ok (.lload 6, 2) := by decide +kernel
theorem dX6_length_55 : decode cX6_length 55 = .ok (.lload 4, 2) := by decide +kernel
theorem dX6_length_57 : decode cX6_length 57 = .ok (.lload 6, 2) := by decide +kernel
theorem dX6_length_59 : decode cX6_length 59 = .ok (.ldiv, 1) := by decide +kernel
theorem dX6_length_60 : decode cX6_length 60 = .ok (.ladd, 1) := by decide +kernel
theorem dX6_length_61 : decode cX6_length 61 = .ok (.ldc2_w 269, 3) := by decide +kernel
theorem dX6_length_64 : decode cX6_length 64 = .ok (.ldiv, 1) := by decide +kernel
theorem dX6_length_65 : decode cX6_length 65 = .ok (.lstore 9, 2) := by decide +kernel
theorem dX6_length_67 : decode cX6_length 67 = .ok (.lload 9, 2) := by decide +kernel
theorem dX6_length_69 : decode cX6_length 69 = .ok (.lload 6, 2) := by decide +kernel
theorem dX6_length_71 : decode cX6_length 71 = .ok (.lcmp, 1) := by decide +kernel
theorem dX6_length_72 : decode cX6_length 72 = .ok (.ifCond .lt 6, 3) := by decide +kernel
theorem dX6_length_75 : decode cX6_length 75 = .ok (.lload 6, 2) := by decide +kernel
theorem dX6_length_77 : decode cX6_length 77 = .ok (.lreturn, 1) := by decide +kernel
theorem dX6_length_78 : decode cX6_length 78 = .ok (.lload 9, 2) := by decide +kernel
theorem dX6_length_80 : decode cX6_length 80 = .ok (.lstore 6, 2) := by decide +kernel
theorem dX6_length_82 : decode cX6_length 82 = .ok (.iinc 8 1, 3) := by decide +kernel
theorem dX6_length_85 : decode cX6_length 85 = .ok (.goto (-46), 3) := by decide +kernel
theorem dX6_length_88 : decode cX6_length 88 = .ok (.lload 6, 2) := by decide +kernel
theorem dX6_length_90 : decode cX6_length 90 = .ok (.lreturn, 1) := by decide +kernel
theorem dX7_init_0 : decode cX7_init 0 = .ok (.aload_n 0, 1) := by decide +kernel
theorem dX7_init_1 : decode cX7_init 1 = .ok (.invokespecial 1, 3) := by decide +kernel
theorem dX7_init_4 : decode cX7_init 4 = .ok (.aload_n 0, 1) := by decide +kernel
theorem dX7_init_5 : decode cX7_init 5 = .ok (.iconst 2, 1) := by decide +kernel
theorem dX7_init_6 : decode cX7_init 6 = .ok (.newarray .int, 2) := by decide +kernel
theorem dX7_init_8 : decode cX7_init 8 = .ok (.putfield 7, 3) := by decide +kernel
theorem dX7_init_11 : decode cX7_init 11 = .ok (.aload_n 0, 1) := by decide +kernel
theorem dX7_init_12 : decode cX7_init 12 = .ok (.sipush 160, 3) := by decide +kernel
theorem dX7_init_15 : decode cX7_init 15 = .ok (.newarray .int, 2) := by decide +kernel
theorem dX7_init_17 : decode cX7_init 17 = .ok (.putfield 13, 3) := by decide +kernel
theorem dX7_init_20 : decode cX7_init 20 = .ok (.aload_n 0, 1) := by decide +kernel
theorem dX7_init_21 : decode cX7_init 21 = .ok (.iconst 2, 1) := by decide +kernel
theorem dX7_init_22 : decode cX7_init 22 = .ok (.newarray .int, 2) := by decide +kernel
theorem dX7_init_24 : decode cX7_init 24 = .ok (.putfield 16, 3) := by decide +kernel
theorem dX7_init_27 : decode cX7_init 27 = .ok (.aload_n 0, 1) := by decide +kernel
theorem dX7_init_28 : decode cX7_init 28 = .ok (.sipush 160, 3) := by decide +kernel
theorem dX7_init_31 : decode cX7_init 31 = .ok (.newarray .int, 2) := by decide +kernel
theorem dX7_init_33 : decode cX7_init 33 = .ok (.putfield 19, 3) := by decide +kernel
theorem dX7_init_36 : decode cX7_init 36 = .ok (.aload_n 0, 1) := by decide +kernel
theorem dX7_init_37 : decode cX7_init 37 = .ok (.iconst 2, 1) := by decide +kernel
theorem dX7_init_38 : decode cX7_init 38 = .ok (.newarray .int, 2) := by decide +kernel
theorem dX7_init_40 : decode cX7_init 40 = .ok (.putfield 22, 3) := by decide +kernel
theorem dX7_init_43 : decode cX7_init 43 = .ok (.aload_n 0, 1) := by decide +kernel
theorem dX7_init_44 : decode cX7_init 44 = .ok (.iconst 2, 1) := by decide +kernel
theorem dX7_init_45 : decode cX7_init 45 = .ok (.newarray .int, 2) := by decide +kernel
theorem dX7_init_47 : decode cX7_init 47 = .ok (.putfield 25, 3) := by decide +kernel
theorem dX7_init_50 : decode cX7_init 50 = .ok (.aload_n 0, 1) := by decide +kernel
theorem dX7_init_51 : decode cX7_init 51 = .ok (.iconst 0, 1) := by decide +kernel
theorem dX7_init_52 : decode cX7_init 52 = .ok (.putfield 28, 3) := by decide +kernel
theorem dX7_init_55 : decode cX7_init 55 = .ok (.aload_n 0, 1) := by decide +kernel
theorem dX7_init_56 : decode cX7_init 56 = .ok (.bipush 60, 2) := by decide +kernel
theorem dX7_init_58 : decode cX7_init 58 = .ok (.newarray .int, 2) := by decide +kernel
theorem dX7_init_60 : decode cX7_init 60 = .ok (.putfield 32, 3) := by decide +kernel
theorem dX7_init_63 : decode cX7_init 63 = .ok (.aload_n 0, 1) := by decide +kernel
theorem dX7_init_64 : decode cX7_init 64 = .ok (.sipush 500, 3) := by decide +kernel
theorem dX7_init_67 : decode cX7_init 67 = .ok (.putfield 35, 3) := by decide +kernel
theorem dX7_init_70 : decode cX7_init 70 = .ok (.aload_n 0, 1) := by decide +kernel
theorem dX7_init_71 : decode cX7_init 71 = .ok (.sipush 500, 3) := by decide +kernel
theorem dX7_init_74 : decode cX7_init 74 = .ok (.putfield 38, 3) := by decide +kernel
theorem dX7_init_77 : decode cX7_init 77 = .ok (.aload_n 0, 1) := by decide +kernel
theorem dX7_init_78 : decode cX7_init 78 = .ok (.bipush 6, 2) := by decide +kernel
theorem dX7_init_80 : decode cX7_init 80 = .ok (.putfield 41, 3) := by decide +kernel
theorem dX7_init_83 : decode cX7_init 83 = .ok (.aload_n 0, 1) := by decide +kernel
theorem dX7_init_84 : decode cX7_init 84 = .ok (.iconst (-1), 1) := by decide +kernel
theorem dX7_init_85 : decode cX7_init 85 = .ok (.putfield 44, 3) := by decide +kernel
theorem dX7_init_88 : decode cX7_init 88 = .ok (.aload_n 0, 1) := by decide +kernel
theorem dX7_init_89 : decode cX7_init 89 = .ok (.iconst (-1), 1) := by decide +kernel
theorem dX7_init_90 : decode cX7_init 90 = .ok (.putfield 47, 3) := by decide +kernel
theorem dX7_init_93 : decode cX7_init 93 = .ok (.aload_n 0, 1) := by decide +kernel
theorem dX7_init_94 : decode cX7_init 94 = .ok (.iconst (-1), 1) := by decide +kernel
theorem dX7_init_95 : decode cX7_init 95 = .ok (.putfield 50, 3) := by decide +kernel
theorem dX7_init_98 : decode cX7_init 98 = .ok (.aload_n 0, 1) := by decide +kernel
theorem dX7_init_99 : decode cX7_init 99 = .ok (.iconst 0, 1) := by decide +kernel
theorem dX7_init_100 : decode cX7_init 100 = .ok (.putfield 53, 3) := by decide +kernel
theorem dX7_init_103 : decode cX7_init 103 = .ok (.aload_n 0, 1) := by decide +kernel
theorem dX7_init_104 : decode cX7_init 104 = .ok (.sipush 200, 3) := by decide +kernel
theorem dX7_init_107 : decode cX7_init 107 = .ok (.newarray .int, 2) := by decide +kernel
theorem dX7_init_109 : decode cX7_init 109 = .ok (.putfield 56, 3) := by decide +kernel
theorem dX7_init_112 : decode cX7_init 112 = .ok (.aload_n 0, 1) := by decide +kernel
theorem dX7_init_113 : decode cX7_init 113 = .ok (.sipush 200, 3) := by decide +kernel
theorem dX7_init_116 : decode cX7_init 116 = .ok (.newarray .int, 2) := by decide +kernel
theorem dX7_init_118 : decode cX7_init 118 = .ok (.putfield 59, 3) := by decide +kernel
theorem dX7_init_121 : decode cX7_init 121 = .ok (.aload_n 0, 1) := by decide +kernel
theorem dX7_init_122 : decode cX7_init 122 = .ok (.ldc 62, 2) := by decide +kernel
theorem dX7_init_124 : decode cX7_init 124 = .ok (.newarray .long, 2) := by decide +kernel
theorem dX7_init_126 : decode cX7_init 126 = .ok (.putfield 63, 3) := by decide +kernel
theorem dX7_init_129 : decode cX7_init 129 = .ok (.aload_n 0, 1) := by decide +kernel
theorem dX7_init_130 : decode cX7_init 130 = .ok (.ldc 62, 2) := by decide +kernel
theorem dX7_init_132 : decode cX7_init 132 = .ok (.newarray .long, 2) := by decide +kernel
theorem dX7_init_134 : decode cX7_init 134 = .ok (.putfield 67, 3) := by decide +kernel
theorem dX7_init_137 : decode cX7_init 137 = .ok (.aload_n 0, 1) := by decide +kernel
theorem dX7_init_138 : decode cX7_init 138 = .ok (.ldc 62, 2) := by decide +kernel
theorem dX7_init_140 : decode cX7_init 140 = .ok (.newarray .long, 2) := by decide +kernel
theorem dX7_init_142 : decode cX7_init 142 = .ok (.putfield 70, 3) := by decide +kernel
theorem dX7_init_145 : decode cX7_init 145 = .ok (.aload_n 0, 1) := by decide +kernel
theorem dX7_init_146 : decode cX7_init 146 = .ok (.ldc 62, 2) := by decide +kernel
theorem dX7_init_148 : decode cX7_init 148 = .ok (.newarray .long, 2) := by decide +kernel
theorem dX7_init_150 : decode cX7_init 150 = .ok (.putfield 73, 3) := by decide +kernel
theorem dX7_init_153 : decode cX7_init 153 = .ok (.aload_n 0, 1) := by decide +kernel
theorem dX7_init_154 : decode cX7_init 154 = .ok (.sipush (-1000), 3) := by decide +kernel
theorem dX7_init_157 : decode cX7_init 157 = .ok (.putfield 76, 3) := by decide +kernel
theorem dX7_init_160 : decode cX7_init 160 = .ok (.aload_n 0, 1) := by decide +kernel
theorem dX7_init_161 : decode cX7_init 161 = .ok (.lconst 0, 1) := by decide +kernel
theorem dX7_init_162 : decode cX7_init 162 = .ok (.putfield 79, 3) := by decide +kernel
theorem dX7_init_165 : decode cX7_init 165 = .ok (.aload_n 0, 1) := by decide +kernel
theorem dX7_init_166 : decode cX7_init 166 = .ok (.lconst 0, 1) := by decide +kernel
theorem dX7_init_167 : decode cX7_init 167 = .ok (.putfield 83, 3) := by decide +kernel
theorem dX7_init_170 : decode cX7_init 170 = .ok (.aload_n 0, 1) := by decide +kernel
theorem dX7_init_171 : decode cX7_init 171 = .ok (.lconst 0, 1) := by decide +kernel
theorem dX7_init_172 : decode cX7_init 172 = .ok (.putfield 86, 3) := by decide +kernel
theorem dX7_init_175 : decode cX7_init 175 = .ok (.aload_n 0, 1) := by decide +kernel
theorem dX7_init_176 : decode cX7_init 176 = .ok (.lconst 0, 1) := by decide +kernel
theorem dX7_init_177 : decode cX7_init 177 = .ok (.putfield 89, 3) := by decide +kernel
theorem dX7_init_180 : decode cX7_init 180 = .ok (.aload_n 0, 1) := by decide +kernel
theorem dX7_init_181 : decode cX7_init 181 = .ok (.sipush 601, 3) := by decide +kernel
theorem dX7_init_184 : decode cX7_init 184 = .ok (.newarray .long, 2) := by decide +kernel
theorem dX7_init_186 : decode cX7_init 186 = .ok (.putfield 92, 3) := by decide +kernel
theorem dX7_init_189 : decode cX7_init 189 = .ok (.aload_n 0, 1) := by decide +kernel
theorem dX7_init_190 : decode cX7_init 190 = .ok (.sipush 601, 3) := by decide +kernel
theorem dX7_init_193 : decode cX7_init 193 = .ok (.newarray .long, 2) := by decide +kernel
theorem dX7_init_195 : decode cX7_init 195 = .ok (.putfield 95, 3) := by decide +kernel
theorem dX7_init_198 : decode cX7_init 198 = .ok (.aload_n 0, 1) := by decide +kernel
theorem dX7_init_199 : decode cX7_init 199 = .ok (.sipush 601, 3) := by decide +kernel
theorem dX7_init_202 : decode cX7_init 202 = .ok (.newarray .long, 2) := by decide +kernel
theorem dX7_init_204 : decode cX7_init 204 = .ok (.putfield 98, 3) := by decide +kernel
theorem dX7_init_207 : decode cX7_init 207 = .ok (.aload_n 0, 1) := by decide +kernel
theorem dX7_init_208 : decode cX7_init 208 = .ok (.sipush 601, 3) := by decide +kernel
theorem dX7_init_211 : decode cX7_init 211 = .ok (.newarray .long, 2) := by decide +kernel
theorem dX7_init_213 : decode cX7_init 213 = .ok (.putfield 101, 3) := by decide +kernel
theorem dX7_init_216 : decode cX7_init 216 = .ok (.aload_n 0, 1) := by decide +kernel
theorem dX7_init_217 : decode cX7_init 217 = .ok (.getfield 22, 3) := by decide +kernel
theorem dX7_init_220 : decode cX7_init 220 = .ok (.iconst 0, 1) := by decide +kernel
theorem dX7_init_221 : decode cX7_init 221 = .ok (.ldc 104, 2) := by decide +kernel
theorem dX7_init_223 : decode cX7_init 223 = .ok (.iastore, 1) := by decide +kernel
theorem dX7_init_224 : decode cX7_init 224 = .ok (.return_, 1) := by decide +kernel
theorem dX7_is_0 : decode cX7_is 0 = .ok (.iload_n 0, 1) := by decide +kernel
theorem dX7_is_1 : decode cX7_is 1 = .ok (.iload_n 1, 1) := by decide +kernel
theorem dX7_is_2 : decode cX7_is 2 = .ok (.if_icmp .lt 12, 3) := by decide +kernel
theorem dX7_is_5 : decode cX7_is 5 = .ok (.iload_n 0, 1) := by decide +kernel
theorem dX7_is_6 : decode cX7_is 6 = .ok (.iload_n 2, 1) := by decide +kernel
theorem dX7_is_7 : decode cX7_is 7 = .ok (.if_icmp .gt 7, 3) := by decide +kernel
theorem dX7_is_10 : decode cX7_is 10 = .ok (.iconst 1, 1) := by decide +kernel
theorem dX7_is_11 : decode cX7_is 11 = .ok (.goto 4, 3) := by decide +kernel
theorem dX7_is_14 : decode cX7_is 14 = .ok (.iconst 0, 1) := by decide +kernel
theorem dX7_is_15 : decode cX7_is 15 = .ok (.ireturn, 1) := by decide +kernel
theorem dX7_isStep_0 : decode cX7_isStep 0 = .ok (.iload_n 0, 1) := by decide +kernel
theorem dX7_isStep_1 : decode cX7_isStep 1 = .ok (.sipush (-300), 3) := by decide +kernel
theorem dX7_isStep_4 : decode cX7_isStep 4 = .ok (.sipush 300, 3) := by decide +kernel
theorem dX7_isStep_7 : decode cX7_isStep 7 = .ok (.invokestatic 105, 3) := by decide +kernel
theorem dX7_isStep_10 : decode cX7_isStep 10 = .ok (.ireturn, 1) := by decide +kernel
theorem dX7_round_0 : decode cX7_round 0 = .ok (.iload_n 1, 1) := by decide +kernel
theorem dX7_round_1 : decode cX7_round 1 = .ok (.ifCond .eq 7, 3) := by decide +kernel
theorem dX7_round_4 : decode cX7_round 4 = .ok (.iconst 1, 1) := by decide +kernel
theorem dX7_round_5 : decode cX7_round 5 = .ok (.goto 4, 3) := by decide +kernel
theorem dX7_round_8 : decode cX7_round 8 = .ok (.iconst 0, 1) := by decide +kernel
theorem dX7_round_9 : decode cX7_round 9 = .ok (.istore 4, 2) := by decide +kernel
theorem dX7_round_11 : decode cX7_round 11 = .ok (.iload_n 2, 1) := by decide +kernel
theorem dX7_round_12 : decode cX7_round 12 = .ok (.sipush (-20000), 3) := by decide +kernel
theorem dX7_round_15 : decode cX7_round 15 = .ok (.sipush 20000, 3) := by decide +kernel
theorem dX7_round_18 : decode cX7_round 18 = .ok (.invokestatic 105, 3) := by decide +kernel
theorem dX7_round_21 : decode cX7_round 21 = .ok (.ifCond .eq 28, 3) := by decide +kernel
theorem dX7_round_24 : decode cX7_round 24 = .ok (.iload_n 3, 1) := by decide +kernel
theorem dX7_round_25 : decode cX7_round 25 = .ok (.sipush (-20000), 3) := by decide +kernel
theorem dX7_round_28 : decode cX7_round 28 = .ok (.sipush 20000, 3) := by decide +kernel
theorem dX7_round_31 : decode cX7_round 31 = .ok (.invokestatic 105, 3) := by decide +kernel
theorem dX7_round_34 : decode cX7_round 34 = .ok (.ifCond .eq 15, 3) := by decide +kernel
theorem dX7_round_37 : decode cX7_round 37 = .ok (.aload_n 0, 1) := by decide +kernel
theorem dX7_round_38 : decode cX7_round 38 = .ok (.getfield 7, 3) := by decide +kernel
theorem dX7_round_41 : decode cX7_round 41 = .ok (.iload 4, 2) := by decide +kernel
theorem dX7_round_43 : decode cX7_round 43 = .ok (.iaload, 1) := by decide +kernel
theorem dX7_round_44 : decode cX7_round 44 = .ok (.bipush 40, 2) := by decide +kernel
theorem dX7_round_46 : decode cX7_round 46 = .ok (.if_icmp .ne 5, 3) := by decide +kernel
theorem dX7_round_49 : decode cX7_round 49 = .ok (.iconst (-1), 1) := by decide +kernel
theorem dX7_round_50 : decode cX7_round 50 = .ok (.ireturn, 1) := by decide +kernel
theorem dX7_round_51 : decode cX7_round 51 = .ok (.aload_n 0, 1) := by decide +kernel
theorem dX7_round_52 : decode cX7_round 52 = .ok (.getfield 13, 3) := by decide +kernel
theorem dX7_round_55 : decode cX7_round 55 = .ok (.bipush 80, 2) := by decide +kernel
theorem dX7_round_57 : decode cX7_round 57 = .ok (.iload 4, 2) := by decide +kernel
theorem dX7_round_59 : decode cX7_round 59 = .ok (.imul, 1) := by decide +kernel
theorem dX7_round_60 : decode cX7_round 60 = .ok (.iconst 2, 1) := by decide +kernel
theorem dX7_round_61 : decode cX7_round 61 = .ok (.aload_n 0, 1) := by decide +kernel
theorem dX7_round_62 : decode cX7_round 62 = .ok (.getfield 7, 3) := by decide +kernel
theorem dX7_round_65 : decode cX7_round 65 = .ok (.iload 4, 2) := by decide +kernel
theorem dX7_round_67 : decode cX7_round 67 = .ok (.iaload, 1) := by decide +kernel
theorem dX7_round_68 : decode cX7_round 68 = .ok (.imul, 1) := by decide +kernel
theorem dX7_round_69 : decode cX7_round 69 = .ok (.iadd, 1) := by decide +kernel
theorem dX7_round_70 : decode cX7_round 70 = .ok (.iload_n 2, 1) := by decide +kernel
theorem dX7_round_71 : decode cX7_round 71 = .ok (.iastore, 1) := by decide +kernel
theorem dX7_round_72 : decode cX7_round 72 = .ok (.aload_n 0, 1) := by decide +kernel
theorem dX7_round_73 : decode cX7_round 73 = .ok (.getfield 13, 3) := by decide +kernel
theorem dX7_round_76 : decode cX7_round 76 = .ok (.bipush 80, 2) := by decide +kernel
theorem dX7_round_78 : decode cX7_round 78 = .ok (.iload 4, 2) := by decide +kernel
theorem dX7_round_80 : decode cX7_round 80 = .ok (.imul, 1) := by decide +kernel
theorem dX7_round_81 : decode cX7_round 81 = .ok (.iconst 2, 1) := by decide +kernel
theorem dX7_round_82 : decode cX7_round 82 = .ok (.aload_n 0, 1) := by decide +kernel
theorem dX7_round_83 : decode cX7_round 83 = .ok (.getfield 7, 3) := by decide +kernel
theorem dX7_round_86 : decode cX7_round 86 = .ok (.iload 4, 2) := by decide +kernel
theorem dX7_round_88 : decode cX7_round 88 = .ok (.iaload, 1) := by decide +kernel
theorem dX7_round_89 : decode cX7_round 89 = .ok (.imul, 1) := by decide +kernel
theorem dX7_round_90 : decode cX7_round 90 = .ok (.iadd, 1) := by decide +kernel
theorem dX7_round_91 : decode cX7_round 91 = .ok (.iconst 1, 1) := by decide +kernel
theorem dX7_round_92 : decode cX7_round 92 = .ok (.iadd, 1) := by decide +kernel
theorem dX7_round_93 : decode cX7_round 93 = .ok (.iload_n 3, 1) := by decide +kernel
theorem dX7_round_94 : decode cX7_round 94 = .ok (.iastore, 1) := by decide +kernel
theorem dX7_round_95 : decode cX7_round 95 = .ok (.aload_n 0, 1) := by decide +kernel
theorem dX7_round_96 : decode cX7_round 96 = .ok (.getfield 7, 3) := by decide +kernel
theorem dX7_round_99 : decode cX7_round 99 = .ok (.iload 4, 2) := by decide +kernel
theorem dX7_round_101 : decode cX7_round 101 = .ok (.dup2, 1) := by decide +kernel
theorem dX7_round_102 : decode cX7_round 102 = .ok (.iaload, 1) := by decide +kernel
theorem dX7_round_103 : decode cX7_round 103 = .ok (.iconst 1, 1) := by decide +kernel
theorem dX7_round_104 : decode cX7_round 104 = .ok (.iadd, 1) := by decide +kernel
theorem dX7_round_105 : decode cX7_round 105 = .ok (.iastore, 1) := by decide +kernel
theorem dX7_round_106 : decode cX7_round 106 = .ok (.aload_n 0, 1) := by decide +kernel
theorem dX7_round_107 : decode cX7_round 107 = .ok (.getfield 7, 3) := by decide +kernel
theorem dX7_round_110 : decode cX7_round 110 = .ok (.iload 4, 2) := by decide +kernel
theorem dX7_round_112 : decode cX7_round 112 = .ok (.iaload, 1) := by decide +kernel
theorem dX7_round_113 : decode cX7_round 113 = .ok (.ireturn, 1) := by decide +kernel
theorem dX7_masses_0 : decode cX7_masses 0 = .ok (.iload_n 1, 1) := by decide +kernel
theorem dX7_masses_1 : decode cX7_masses 1 = .ok (.iconst 0, 1) := by decide +kernel
theorem dX7_masses_2 : decode cX7_masses 2 = .ok (.ldc 109, 2) := by decide +kernel
theorem dX7_masses_4 : decode cX7_masses 4 = .ok (.invokestatic 105, 3) := by decide +kernel
theorem dX7_masses_7 : decode cX7_masses 7 = .ok (.ifCond .eq 13, 3) := by decide +kernel
theorem dX7_masses_10 : decode cX7_masses 10 = .ok (.iload_n 2, 1) := by decide +kernel
theorem dX7_masses_11 : decode cX7_masses 11 = .ok (.iconst 0, 1) := by decide +kernel
theorem dX7_masses_12 : decode cX7_masses 12 = .ok (.ldc 109, 2) := by decide +kernel
theorem dX7_masses_14 : decode cX7_masses 14 = .ok (.invokestatic 105, 3) := by decide +kernel
theorem dX7_masses_17 : decode cX7_masses 17 = .ok (.ifCond .ne 5, 3) := by decide +kernel
theorem dX7_masses_20 : decode cX7_masses 20 = .ok (.iconst 0, 1) := by decide +kernel
theorem dX7_masses_21 : decode cX7_masses 21 = .ok (.ireturn, 1) := by decide +kernel
theorem dX7_masses_22 : decode cX7_masses 22 = .ok (.aload_n 0, 1) := by decide +kernel
theorem dX7_masses_23 : decode cX7_masses 23 = .ok (.getfield 22, 3) := by decide +kernel
theorem dX7_masses_26 : decode cX7_masses 26 = .ok (.iconst 0, 1) := by decide +kernel
theorem dX7_masses_27 : decode cX7_masses 27 = .ok (.iload_n 1, 1) := by decide +kernel
theorem dX7_masses_28 : decode cX7_masses 28 = .ok (.iastore, 1) := by decide +kernel
theorem dX7_masses_29 : decode cX7_masses 29 = .ok (.aload_n 0, 1) := by decide +kernel
theorem dX7_masses_30 : decode cX7_masses 30 = .ok (.getfield 22, 3) := by decide +kernel
theorem dX7_masses_33 : decode cX7_masses 33 = .ok (.iconst 1, 1) := by decide +kernel
theorem dX7_masses_34 : decode cX7_masses 34 = .ok (.iload_n 2, 1) := by decide +kernel
theorem dX7_masses_35 : decode cX7_masses 35 = .ok (.iastore, 1) := by decide +kernel
theorem dX7_masses_36 : decode cX7_masses 36 = .ok (.iconst 1, 1) := by decide +kernel
theorem dX7_masses_37 : decode cX7_masses 37 = .ok (.ireturn, 1) := by decide +kernel
theorem dX7_sight_0 : decode cX7_sight 0 = .ok (.iload_n 1, 1) := by decide +kernel
theorem dX7_sight_1 : decode cX7_sight 1 = .ok (.iconst 0, 1) := by decide +kernel
theorem dX7_sight_2 : decode cX7_sight 2 = .ok (.iconst 2, 1) := by decide +kernel
theorem dX7_sight_3 : decode cX7_sight 3 = .ok (.invokestatic 105, 3) := by decide +kernel
theorem dX7_sight_6 : decode cX7_sight 6 = .ok (.ifCond .eq 67, 3) := by decide +kernel
theorem dX7_sight_9 : decode cX7_sight 9 = .ok (.iload_n 2, 1) := by decide +kernel
theorem dX7_sight_10 : decode cX7_sight 10 = .ok (.invokestatic 110, 3) := by decide +kernel
theorem dX7_sight_13 : decode cX7_sight 13 = .ok (.ifCond .eq 60, 3) := by decide +kernel
theorem dX7_sight_16 : decode cX7_sight 16 = .ok (.iload_n 3, 1) := by decide +kernel
theorem dX7_sight_17 : decode cX7_sight 17 = .ok (.sipush (-1000), 3) := by decide +kernel
theorem dX7_sight_20 : decode cX7_sight 20 = .ok (.sipush 1000, 3) := by decide +kernel
theorem dX7_sight_23 : decode cX7_sight 23 = .ok (.invokestatic 105, 3) := by decide +kernel
theorem dX7_sight_26 : decode cX7_sight 26 = .ok (.ifCond .eq 47, 3) := by decide +kernel
theorem dX7_sight_29 : decode cX7_sight 29 = .ok (.iload 4, 2) := by decide +kernel
theorem dX7_sight_31 : decode cX7_sight 31 = .ok (.sipush (-1000), 3) := by decide +kernel
theorem dX7_sight_34 : decode cX7_sight 34 = .ok (.sipush 1000, 3) := by decide +kernel
theorem dX7_sight_37 : decode cX7_sight 37 = .ok (.invokestatic 105, 3) := by decide +kernel
theorem dX7_sight_40 : decode cX7_sight 40 = .ok (.ifCond .eq 33, 3) := by decide +kernel
theorem dX7_sight_43 : decode cX7_sight 43 = .ok (.iload_n 3, 1) := by decide +kernel
theorem dX7_sight_44 : decode cX7_sight 44 = .ok (.ifCond .ne 8, 3) := by decide +kernel
theorem dX7_sight_47 : decode cX7_sight 47 = .ok (.iload 4, 2) := by decide +kernel
theorem dX7_sight_49 : decode cX7_sight 49 = .ok (.ifCond .eq 24, 3) := by decide +kernel
theorem dX7_sight_52 : decode cX7_sight 52 = .ok (.iload 5, 2) := by decide +kernel
theorem dX7_sight_54 : decode cX7_sight 54 = .ok (.iconst 0, 1) := by decide +kernel
theorem dX7_sight_55 : decode cX7_sight 55 = .ok (.sipush 1000, 3) := by decide +kernel
theorem dX7_sight_58 : decode cX7_sight 58 = .ok (.invokestatic 105, 3) := by decide +kernel
theorem dX7_sight_61 : decode cX7_sight 61 = .ok (.ifCond .eq 12, 3) := by decide +kernel
theorem dX7_sight_64 : decode cX7_sight 64 = .ok (.aload_n 0, 1) := by decide +kernel
theorem dX7_sight_65 : decode cX7_sight 65 = .ok (.getfield 28, 3) := by decide +kernel
theorem dX7_sight_68 : decode cX7_sight 68 = .ok (.bipush 12, 2) := by decide +kernel
theorem dX7_sight_70 : decode cX7_sight 70 = .ok (.if_icmp .ne 5, 3) := by decide +kernel
theorem dX7_sight_73 : decode cX7_sight 73 = .ok (.iconst (-1), 1) := by decide +kernel
theorem dX7_sight_74 : decode cX7_sight 74 = .ok (.ireturn, 1) := by decide +kernel
theorem dX7_sight_75 : decode cX7_sight 75 = .ok (.iconst 5, 1) := by decide +kernel
theorem dX7_sight_76 : decode cX7_sight 76 = .ok (.aload_n 0, 1) := by decide +kernel
theorem dX7_sight_77 : decode cX7_sight 77 = .ok (.getfield 28, 3) := by decide +kernel
theorem dX7_sight_80 : decode cX7_sight 80 = .ok (.imul, 1) := by decide +kernel
theorem dX7_sight_81 : decode cX7_sight 81 = .ok (.istore 6, 2) := by decide +kernel
theorem dX7_sight_83 : decode cX7_sight 83 = .ok (.aload_n 0, 1) := by decide +kernel
theorem dX7_sight_84 : decode cX7_sight 84 = .ok (.getfield 32, 3) := by decide +kernel
theorem dX7_sight_87 : decode cX7_sight 87 = .ok (.iload 6, 2) := by decide +kernel
theorem dX7_sight_89 : decode cX7_sight 89 = .ok (.iload_n 1, 1) := by decide +kernel
theorem dX7_sight_90 : decode cX7_sight 90 = .ok (.iastore, 1) := by decide +kernel
theorem dX7_sight_91 : decode cX7_sight 91 = .ok (.aload_n 0, 1) := by decide +kernel
theorem dX7_sight_92 : decode cX7_sight 92 = .ok (.getfield 32, 3) := by decide +kernel
theorem dX7_sight_95 : decode cX7_sight 95 = .ok (.iload 6, 2) := by decide +kernel
theorem dX7_sight_97 : decode cX7_sight 97 = .ok (.iconst 1, 1) := by decide +kernel
theorem dX7_sight_98 : decode cX7_sight 98 = .ok (.iadd, 1) := by decide +kernel
theorem dX7_sight_99 : decode cX7_sight 99 = .ok (.iload_n 2, 1) := by decide +kernel
theorem dX7_sight_100 : decode cX7_sight 100 = .ok (.iastore, 1) := by decide +kernel
theorem dX7_sight_101 : decode cX7_sight 101 = .ok (.aload_n 0, 1) := by decide +kernel
theorem dX7_sight_102 : decode cX7_sight 102 = .ok (.getfield 32, 3) := by decide +kernel
theorem dX7_sight_105 : decode cX7_sight 105 = .ok (.iload 6, 2) := by decide +kernel
theorem dX7_sight_107 : decode cX7_sight 107 = .ok (.iconst 2, 1) := by decide +kernel
theorem dX7_sight_108 : decode cX7_sight 108 = .ok (.iadd, 1) := by decide +kernel
theorem dX7_sight_109 : decode cX7_sight 109 = .ok (.iload_n 3, 1) := by decide +kernel
theorem dX7_sight_110 : decode cX7_sight 110 = .ok (.iastore, 1) := by decide +kernel
theorem dX7_sight_111 : decode cX7_sight 111 = .ok (.aload_n 0, 1) := by decide +kernel
theorem dX7_sight_112 : decode cX7_sight 112 = .ok (.getfield 32, 3) := by decide +kernel
theorem dX7_sight_115 : decode cX7_sight 115 = .ok (.iload 6, 2) := by decide +kernel
theorem dX7_sight_117 : decode cX7_sight 117 = .ok (.iconst 3, 1) := by decide +kernel
theorem dX7_sight_118 : decode cX7_sight 118 = .ok (.iadd, 1) := by decide +kernel
theorem dX7_sight_119 : decode cX7_sight 119 = .ok (.iload 4, 2) := by decide +kernel
theorem dX7_sight_121 : decode cX7_sight 121 = .ok (.iastore, 1) := by decide +kernel
theorem dX7_sight_122 : decode cX7_sight 122 = .ok (.aload_n 0, 1) := by decide +kernel
theorem dX7_sight_123 : decode cX7_sight 123 = .ok (.getfield 32, 3) := by decide +kernel
theorem dX7_sight_126 : decode cX7_sight 126 = .ok (.iload 6, 2) := by decide +kernel
theorem dX7_sight_128 : decode cX7_sight 128 = .ok (.iconst 4, 1) := by decide +kernel
theorem dX7_sight_129 : decode cX7_sight 129 = .ok (.iadd, 1) := by decide +kernel
theorem dX7_sight_130 : decode cX7_sight 130 = .ok (.iload 5, 2) := by decide +kernel
theorem dX7_sight_132 : decode cX7_sight 132 = .ok (.iastore, 1) := by decide +kernel
theorem dX7_sight_133 : decode cX7_sight 133 = .ok (.aload_n 0, 1) := by decide +kernel
theorem dX7_sight_134 : decode cX7_sight 134 = .ok (.dup, 1) := by decide +kernel
theorem dX7_sight_135 : decode cX7_sight 135 = .ok (.getfield 28, 3) := by decide +kernel
theorem dX7_sight_138 : decode cX7_sight 138 = .ok (.iconst 1, 1) := by decide +kernel
theorem dX7_sight_139 : decode cX7_sight 139 = .ok (.iadd, 1) := by decide +kernel
theorem dX7_sight_140 : decode cX7_sight 140 = .ok (.putfield 28, 3) := by decide +kernel
theorem dX7_sight_143 : decode cX7_sight 143 = .ok (.aload_n 0, 1) := by decide +kernel
theorem dX7_sight_144 : decode cX7_sight 144 = .ok (.getfield 28, 3) := by decide +kernel
theorem dX7_sight_147 : decode cX7_sight 147 = .ok (.iconst 1, 1) := by decide +kernel
theorem dX7_sight_148 : decode cX7_sight 148 = .ok (.isub, 1) := by decide +kernel
theorem dX7_sight_149 : decode cX7_sight 149 = .ok (.ireturn, 1) := by decide +kernel
theorem dX7_isSight_0 : decode cX7_isSight 0 = .ok (.iload_n 1, 1) := by decide +kernel
theorem dX7_isSight_1 : decode cX7_isSight 1 = .ok (.ifCond .lt 15, 3) := by decide +kernel
theorem dX7_isSight_4 : decode cX7_isSight 4 = .ok (.iload_n 1, 1) := by decide +kernel
theorem dX7_isSight_5 : decode cX7_isSight 5 = .ok (.aload_n 0, 1) := by decide +kernel
theorem dX7_isSight_6 : decode cX7_isSight 6 = .ok (.getfield 28, 3) := by decide +kernel
theorem dX7_isSight_9 : decode cX7_isSight 9 = .ok (.if_icmp .ge 7, 3) := by decide +kernel
theorem dX7_isSight_12 : decode cX7_isSight 12 = .ok (.iconst 1, 1) := by decide +kernel
theorem dX7_isSight_13 : decode cX7_isSight 13 = .ok (.goto 4, 3) := by decide +kernel
theorem dX7_isSight_16 : decode cX7_isSight 16 = .ok (.iconst 0, 1) := by decide +kernel
theorem dX7_isSight_17 : decode cX7_isSight 17 = .ok (.ireturn, 1) := by decide +kernel
theorem dX7_miss_0 : decode cX7_miss 0 = .ok (.aload_n 0, 1) := by decide +kernel
theorem dX7_miss_1 : decode cX7_miss 1 = .ok (.iload_n 1, 1) := by decide +kernel
theorem dX7_miss_2 : decode cX7_miss 2 = .ok (.invokevirtual 114, 3) := by decide +kernel
theorem dX7_miss_5 : decode cX7_miss 5 = .ok (.ifCond .eq 14, 3) := by decide +kernel
theorem dX7_miss_8 : decode cX7_miss 8 = .ok (.iload_n 2, 1) := by decide +kernel
theorem dX7_miss_9 : decode cX7_miss 9 = .ok (.iconst 0, 1) := by decide +kernel
theorem dX7_miss_10 : decode cX7_miss 10 = .ok (.sipush 1000, 3) := by decide +kernel
theorem dX7_miss_13 : decode cX7_miss 13 = .ok (.invokestatic 105, 3) := by decide +kernel
theorem dX7_miss_16 : decode cX7_miss 16 = .ok (.ifCond .ne 5, 3) := by decide +kernel
theorem dX7_miss_19 : decode cX7_miss 19 = .ok (.iconst (-1), 1) := by decide +kernel
theorem dX7_miss_20 : decode cX7_miss 20 = .ok (.ireturn, 1) := by decide +kernel
theorem dX7_miss_21 : decode cX7_miss 21 = .ok (.aload_n 0, 1) := by decide +kernel
theorem dX7_miss_22 : decode cX7_miss 22 = .ok (.getfield 32, 3) := by decide +kernel
theorem dX7_miss_25 : decode cX7_miss 25 = .ok (.iconst 5, 1) := by decide +kernel
theorem dX7_miss_26 : decode cX7_miss 26 = .ok (.iload_n 1, 1) := by decide +kernel
theorem dX7_miss_27 : decode cX7_miss 27 = .ok (.imul, 1) := by decide +kernel
theorem dX7_miss_28 : decode cX7_miss 28 = .ok (.iconst 4, 1) := by decide +kernel
theorem dX7_miss_29 : decode cX7_miss 29 = .ok (.iadd, 1) := by decide +kernel
theorem dX7_miss_30 : decode cX7_miss 30 = .ok (.iaload, 1) := by decide +kernel
theorem dX7_miss_31 : decode cX7_miss 31 = .ok (.istore_n 3, 1) := by decide +kernel
theorem dX7_miss_32 : decode cX7_miss 32 = .ok (.aload_n 0, 1) := by decide +kernel
theorem dX7_miss_33 : decode cX7_miss 33 = .ok (.getfield 32, 3) := by decide +kernel
theorem dX7_miss_36 : decode cX7_miss 36 = .ok (.iconst 5, 1) := by decide +kernel
theorem dX7_miss_37 : decode cX7_miss 37 = .ok (.iload_n 1, 1) := by decide +kernel
theorem dX7_miss_38 : decode cX7_miss 38 = .ok (.imul, 1) := by decide +kernel
theorem dX7_miss_39 : decode cX7_miss 39 = .ok (.iconst 4, 1) := by decide +kernel
theorem dX7_miss_40 : decode cX7_miss 40 = .ok (.iadd, 1) := by decide +kernel
theorem dX7_miss_41 : decode cX7_miss 41 = .ok (.iload_n 2, 1) := by decide +kernel
theorem dX7_miss_42 : decode cX7_miss 42 = .ok (.iastore, 1) := by decide +kernel
theorem dX7_miss_43 : decode cX7_miss 43 = .ok (.iload_n 3, 1) := by decide +kernel
theorem dX7_miss_44 : decode cX7_miss 44 = .ok (.ireturn, 1) := by decide +kernel
theorem dX7_unsee_0 : decode cX7_unsee 0 = .ok (.aload_n 0, 1) := by decide +kernel
theorem dX7_unsee_1 : decode cX7_unsee 1 = .ok (.getfield 28, 3) := by decide +kernel
theorem dX7_unsee_4 : decode cX7_unsee 4 = .ok (.ifCond .ne 5, 3) := by decide +kernel
theorem dX7_unsee_7 : decode cX7_unsee 7 = .ok (.iconst (-1), 1) := by decide +kernel
theorem dX7_unsee_8 : decode cX7_unsee 8 = .ok (.ireturn, 1) := by decide +kernel
theorem dX7_unsee_9 : decode cX7_unsee 9 = .ok (.aload_n 0, 1) := by decide +kernel
theorem dX7_unsee_10 : decode cX7_unsee 10 = .ok (.dup, 1) := by decide +kernel
theorem dX7_unsee_11 : decode cX7_unsee 11 = .ok (.getfield 28, 3) := by decide +kernel
theorem dX7_unsee_14 : decode cX7_unsee 14 = .ok (.iconst 1, 1) := by decide +kernel
theorem dX7_unsee_15 : decode cX7_unsee 15 = .ok (.isub, 1) := by decide +kernel
theorem dX7_unsee_16 : decode cX7_unsee 16 = .ok (.putfield 28, 3) := by decide +kernel
theorem dX7_unsee_19 : decode cX7_unsee 19 = .ok (.aload_n 0, 1) := by decide +kernel
theorem dX7_unsee_20 : decode cX7_unsee 20 = .ok (.getfield 44, 3) := by decide +kernel
theorem dX7_unsee_23 : decode cX7_unsee 23 = .ok (.aload_n 0, 1) := by decide +kernel
theorem dX7_unsee_24 : decode cX7_unsee 24 = .ok (.getfield 28, 3) := by decide +kernel
theorem dX7_unsee_27 : decode cX7_unsee 27 = .ok (.if_icmp .eq 14, 3) := by decide +kernel
theorem dX7_unsee_30 : decode cX7_unsee 30 = .ok (.aload_n 0, 1) := by decide +kernel
theorem dX7_unsee_31 : decode cX7_unsee 31 = .ok (.getfield 47, 3) := by decide +kernel
theorem dX7_unsee_34 : decode cX7_unsee 34 = .ok (.aload_n 0, 1) := by decide +kernel
theorem dX7_unsee_35 : decode cX7_unsee 35 = .ok (.getfield 28, 3) := by decide +kernel
theorem dX7_unsee_38 : decode cX7_unsee 38 = .ok (.if_icmp .ne 13, 3) := by decide +kernel
theorem dX7_unsee_41 : decode cX7_unsee 41 = .ok (.aload_n 0, 1) := by decide +kernel
theorem dX7_unsee_42 : decode cX7_unsee 42 = .ok (.iconst (-1), 1) := by decide +kernel
theorem dX7_unsee_43 : decode cX7_unsee 43 = .ok (.putfield 44, 3) := by decide +kernel
theorem dX7_unsee_46 : decode cX7_unsee 46 = .ok (.aload_n 0, 1) := by decide +kernel
theorem dX7_unsee_47 : decode cX7_unsee 47 = .ok (.iconst (-1), 1) := by decide +kernel
theorem dX7_unsee_48 : decode cX7_unsee 48 = .ok (.putfield 47, 3) := by decide +kernel
theorem dX7_unsee_51 : decode cX7_unsee 51 = .ok (.aload_n 0, 1) := by decide +kernel
theorem dX7_unsee_52 : decode cX7_unsee 52 = .ok (.getfield 28, 3) := by decide +kernel
theorem dX7_unsee_55 : decode cX7_unsee 55 = .ok (.ireturn, 1) := by decide +kernel
theorem dX7_grid_0 : decode cX7_grid 0 = .ok (.iload_n 1, 1) := by decide +kernel
theorem dX7_grid_1 : decode cX7_grid 1 = .ok (.iconst 1, 1) := by decide +kernel
theorem dX7_grid_2 : decode cX7_grid 2 = .ok (.sipush 20000, 3) := by decide +kernel
theorem dX7_grid_5 : decode cX7_grid 5 = .ok (.invokestatic 105, 3) := by decide +kernel
theorem dX7_grid_8 : decode cX7_grid 8 = .ok (.ifCond .eq 24, 3) := by decide +kernel
theorem dX7_grid_11 : decode cX7_grid 11 = .ok (.iload_n 2, 1) := by decide +kernel
theorem dX7_grid_12 : decode cX7_grid 12 = .ok (.iconst 1, 1) := by decide +kernel
theorem dX7_grid_13 : decode cX7_grid 13 = .ok (.sipush 2000, 3) := by decide +kernel
theorem dX7_grid_16 : decode cX7_grid 16 = .ok (.invokestatic 105, 3) := by decide +kernel
theorem dX7_grid_19 : decode cX7_grid 19 = .ok (.ifCond .eq 13, 3) := by decide +kernel
theorem dX7_grid_22 : decode cX7_grid 22 = .ok (.iload_n 3, 1) := by decide +kernel
theorem dX7_grid_23 : decode cX7_grid 23 = .ok (.iconst 1, 1) := by decide +kernel
theorem dX7_grid_24 : decode cX7_grid 24 = .ok (.bipush 10, 2) := by decide +kernel
theorem dX7_grid_26 : decode cX7_grid 26 = .ok (.invokestatic 105, 3) := by decide +kernel
theorem dX7_grid_29 : decode cX7_grid 29 = .ok (.ifCond .ne 5, 3) := by decide +kernel
theorem dX7_grid_32 : decode cX7_grid 32 = .ok (.iconst 0, 1) := by decide +kernel
theorem dX7_grid_33 : decode cX7_grid 33 = .ok (.ireturn, 1) := by decide +kernel
theorem dX7_grid_34 : decode cX7_grid 34 = .ok (.aload_n 0, 1) := by decide +kernel
theorem dX7_grid_35 : decode cX7_grid 35 = .ok (.iload_n 1, 1) := by decide +kernel
theorem dX7_grid_36 : decode cX7_grid 36 = .ok (.putfield 35, 3) := by decide +kernel
theorem dX7_grid_39 : decode cX7_grid 39 = .ok (.aload_n 0, 1) := by decide +kernel
theorem dX7_grid_40 : decode cX7_grid 40 = .ok (.iload_n 2, 1) := by decide +kernel
theorem dX7_grid_41 : decode cX7_grid 41 = .ok (.putfield 38, 3) := by decide +kernel
theorem dX7_grid_44 : decode cX7_grid 44 = .ok (.aload_n 0, 1) := by decide +kernel
theorem dX7_grid_45 : decode cX7_grid 45 = .ok (.iload_n 3, 1) := by decide +kernel
theorem dX7_grid_46 : decode cX7_grid 46 = .ok (.putfield 41, 3) := by decide +kernel
theorem dX7_grid_49 : decode cX7_grid 49 = .ok (.iconst 1, 1) := by decide +kernel
theorem dX7_grid_50 : decode cX7_grid 50 = .ok (.ireturn, 1) := by decide +kernel
theorem dX7_base_0 : decode cX7_base 0 = .ok (.aload_n 0, 1) := by decide +kernel
theorem dX7_base_1 : decode cX7_base 1 = .ok (.iload_n 1, 1) := by decide +kernel
theorem dX7_base_2 : decode cX7_base 2 = .ok (.invokevirtual 114, 3) := by decide +kernel
theorem dX7_base_5 : decode cX7_base 5 = .ok (.ifCond .eq 56, 3) := by decide +kernel
theorem dX7_base_8 : decode cX7_base 8 = .ok (.aload_n 0, 1) := by decide +kernel
theorem dX7_base_9 : decode cX7_base 9 = .ok (.iload_n 2, 1) := by decide +kernel
theorem dX7_base_10 : decode cX7_base 10 = .ok (.invokevirtual 114, 3) := by decide +kernel
theorem dX7_base_13 : decode cX7_base 13 = .ok (.ifCond .eq 48, 3) := by decide +kernel
theorem dX7_base_16 : decode cX7_base 16 = .ok (.aload_n 0, 1) := by decide +kernel
theorem dX7_base_17 : decode cX7_base 17 = .ok (.getfield 32, 3) := by decide +kernel
theorem dX7_base_20 : decode cX7_base 20 = .ok (.iconst 5, 1) := by decide +kernel
theorem dX7_base_21 : decode cX7_base 21 = .ok (.iload_n 1, 1) := by decide +kernel
theorem dX7_base_22 : decode cX7_base 22 = .ok (.imul, 1) := by decide +kernel
theorem dX7_base_23 : decode cX7_base 23 = .ok (.iaload, 1) := by decide +kernel
theorem dX7_base_24 : decode cX7_base 24 = .ok (.ifCond .ne 37, 3) := by decide +kernel
theorem dX7_base_27 : decode cX7_base 27 = .ok (.aload_n 0, 1) := by decide +kernel
theorem dX7_base_28 : decode cX7_base 28 = .ok (.getfield 32, 3) := by decide +kernel
theorem dX7_base_31 : decode cX7_base 31 = .ok (.iconst 5, 1) := by decide +kernel
theorem dX7_base_32 : decode cX7_base 32 = .ok (.iload_n 2, 1) := by decide +kernel
theorem dX7_base_33 : decode cX7_base 33 = .ok (.imul, 1) := by decide +kernel
theorem dX7_base_34 : decode cX7_base 34 = .ok (.iaload, 1) := by decide +kernel
theorem dX7_base_35 : decode cX7_base 35 = .ok (.ifCond .ne 26, 3) := by decide +kernel
theorem dX7_base_38 : decode cX7_base 38 = .ok (.aload_n 0, 1) := by decide +kernel
theorem dX7_base_39 : decode cX7_base 39 = .ok (.getfield 32, 3) := by decide +kernel
theorem dX7_base_42 : decode cX7_base 42 = .ok (.iconst 5, 1) := by decide +kernel
theorem dX7_base_43 : decode cX7_base 43 = .ok (.iload_n 1, 1) := by decide +kernel
theorem dX7_base_44 : decode cX7_base 44 = .ok (.imul, 1) := by decide +kernel
theorem dX7_base_45 : decode cX7_base 45 = .ok (.iconst 1, 1) := by decide +kernel
theorem dX7_base_46 : decode cX7_base 46 = .ok (.iadd, 1) := by decide +kernel
theorem dX7_base_47 : decode cX7_base 47 = .ok (.iaload, 1) := by decide +kernel
theorem dX7_base_48 : decode cX7_base 48 = .ok (.aload_n 0, 1) := by decide +kernel
theorem dX7_base_49 : decode cX7_base 49 = .ok (.getfield 32, 3) := by decide +kernel
theorem dX7_base_52 : decode cX7_base 52 = .ok (.iconst 5, 1) := by decide +kernel
theorem dX7_base_53 : decode cX7_base 53 = .ok (.iload_n 2, 1) := by decide +kernel
theorem dX7_base_54 : decode cX7_base 54 = .ok (.imul, 1) := by decide +kernel
theorem dX7_base_55 : decode cX7_base 55 = .ok (.iconst 1, 1) := by decide +kernel
theorem dX7_base_56 : decode cX7_base 56 = .ok (.iadd, 1) := by decide +kernel
theorem dX7_base_57 : decode cX7_base 57 = .ok (.iaload, 1) := by decide +kernel
theorem dX7_base_58 : decode cX7_base 58 = .ok (.if_icmp .ne 5, 3) := by decide +kernel
theorem dX7_base_61 : decode cX7_base 61 = .ok (.iconst 0, 1) := by decide +kernel
theorem dX7_base_62 : decode cX7_base 62 = .ok (.ireturn, 1) := by decide +kernel
theorem dX7_base_63 : decode cX7_base 63 = .ok (.aload_n 0, 1) := by decide +kernel
theorem dX7_base_64 : decode cX7_base 64 = .ok (.aload_n 0, 1) := by decide +kernel
theorem dX7_base_65 : decode cX7_base 65 = .ok (.getfield 32, 3) := by decide +kernel
theorem dX7_base_68 : decode cX7_base 68 = .ok (.iconst 5, 1) := by decide +kernel
theorem dX7_base_69 : decode cX7_base 69 = .ok (.iload_n 1, 1) := by decide +kernel
theorem dX7_base_70 : decode cX7_base 70 = .ok (.imul, 1) := by decide +kernel
theorem dX7_base_71 : decode cX7_base 71 = .ok (.iconst 1, 1) := by decide +kernel
theorem dX7_base_72 : decode cX7_base 72 = .ok (.iadd, 1) := by decide +kernel
theorem dX7_base_73 : decode cX7_base 73 = .ok (.iaload, 1) := by decide +kernel
theorem dX7_base_74 : decode cX7_base 74 = .ok (.aload_n 0, 1) := by decide +kernel
theorem dX7_base_75 : decode cX7_base 75 = .ok (.getfield 32, 3) := by decide +kernel
theorem dX7_base_78 : decode cX7_base 78 = .ok (.iconst 5, 1) := by decide +kernel
theorem dX7_base_79 : decode cX7_base 79 = .ok (.iload_n 2, 1) := by decide +kernel
theorem dX7_base_80 : decode cX7_base 80 = .ok (.imul, 1) := by decide +kernel
theorem dX7_base_81 : decode cX7_base 81 = .ok (.iconst 1, 1) := by decide +kernel
theorem dX7_base_82 : decode cX7_base 82 = .ok (.iadd, 1) := by decide +kernel
theorem dX7_base_83 : decode cX7_base 83 = .ok (.iaload, 1) := by decide +kernel
theorem dX7_base_84 : decode cX7_base 84 = .ok (.if_icmp .ge 7, 3) := by decide +kernel
theorem dX7_base_87 : decode cX7_base 87 = .ok (.iload_n 1, 1) := by decide +kernel
theorem dX7_base_88 : decode cX7_base 88 = .ok (.goto 4, 3) := by decide +kernel
theorem dX7_base_91 : decode cX7_base 91 = .ok (.iload_n 2, 1) := by decide +kernel
theorem dX7_base_92 : decode cX7_base 92 = .ok (.putfield 44, 3) := by decide +kernel
theorem dX7_base_95 : decode cX7_base 95 = .ok (.aload_n 0, 1) := by decide +kernel
theorem dX7_base_96 : decode cX7_base 96 = .ok (.aload_n 0, 1) := by decide +kernel
theorem dX7_base_97 : decode cX7_base 97 = .ok (.getfield 44, 3) := by decide +kernel
theorem dX7_base_100 : decode cX7_base 100 = .ok (.iload_n 1, 1) := by decide +kernel
theorem dX7_base_101 : decode cX7_base 101 = .ok (.if_icmp .ne 7, 3) := by decide +kernel
theorem dX7_base_104 : decode cX7_base 104 = .ok (.iload_n 2, 1) := by decide +kernel
theorem dX7_base_105 : decode cX7_base 105 = .ok (.goto 4, 3) := by decide +kernel
theorem dX7_base_108 : decode cX7_base 108 = .ok (.iload_n 1, 1) := by decide +kernel
theorem dX7_base_109 : decode cX7_base 109 = .ok (.putfield 47, 3) := by decide +kernel
theorem dX7_base_112 : decode cX7_base 112 = .ok (.iconst 1, 1) := by decide +kernel
theorem dX7_base_113 : decode cX7_base 113 = .ok (.ireturn, 1) := by decide +kernel
theorem dX7_place_0 : decode cX7_place 0 = .ok (.aload_n 1, 1) := by decide +kernel
theorem dX7_place_1 : decode cX7_place 1 = .ok (.iload_n 2, 1) := by decide +kernel
theorem dX7_place_2 : decode cX7_place 2 = .ok (.iaload, 1) := by decide +kernel
theorem dX7_place_3 : decode cX7_place 3 = .ok (.ifCond .ne 5, 3) := by decide +kernel
theorem dX7_place_6 : decode cX7_place 6 = .ok (.iconst 0, 1) := by decide +kernel
theorem dX7_place_7 : decode cX7_place 7 = .ok (.ireturn, 1) := by decide +kernel
theorem dX7_place_8 : decode cX7_place 8 = .ok (.iload_n 3, 1) := by decide +kernel
theorem dX7_place_9 : decode cX7_place 9 = .ok (.aload_n 1, 1) := by decide +kernel
theorem dX7_place_10 : decode cX7_place 10 = .ok (.iload_n 2, 1) := by decide +kernel
theorem dX7_place_11 : decode cX7_place 11 = .ok (.iaload, 1) := by decide +kernel
theorem dX7_place_12 : decode cX7_place 12 = .ok (.irem, 1) := by decide +kernel
theorem dX7_place_13 : decode cX7_place 13 = .ok (.istore 5, 2) := by decide +kernel
theorem dX7_place_15 : decode cX7_place 15 = .ok (.iload 5, 2) := by decide +kernel
theorem dX7_place_17 : decode cX7_place 17 = .ok (.ifCond .ge 12, 3) := by decide +kernel
theorem dX7_place_20 : decode cX7_place 20 = .ok (.iload 5, 2) := by decide +kernel
theorem dX7_place_22 : decode cX7_place 22 = .ok (.aload_n 1, 1) := by decide +kernel
theorem dX7_place_23 : decode cX7_place 23 = .ok (.iload_n 2, 1) := by decide +kernel
theorem dX7_place_24 : decode cX7_place 24 = .ok (.iaload, 1) := by decide +kernel
theorem dX7_place_25 : decode cX7_place 25 = .ok (.iadd, 1) := by decide +kernel
theorem dX7_place_26 : decode cX7_place 26 = .ok (.goto 5, 3) := by decide +kernel
theorem dX7_place_29 : decode cX7_place 29 = .ok (.iload 5, 2) := by decide +kernel
theorem dX7_place_31 : decode cX7_place 31 = .ok (.istore 5, 2) := by decide +kernel
theorem dX7_place_33 : decode cX7_place 33 = .ok (.aload_n 0, 1) := by decide +kernel
theorem dX7_place_34 : decode cX7_place 34 = .ok (.bipush 80, 2) := by decide +kernel
theorem dX7_place_36 : decode cX7_place 36 = .ok (.iload_n 2, 1) := by decide +kernel
theorem dX7_place_37 : decode cX7_place 37 = .ok (.imul, 1) := by decide +kernel
theorem dX7_place_38 : decode cX7_place 38 = .ok (.iconst 2, 1) := by decide +kernel
theorem dX7_place_39 : decode cX7_place 39 = .ok (.iload 5, 2) := by decide +kernel
theorem dX7_place_41 : decode cX7_place 41 = .ok (.imul, 1) := by decide +kernel
theorem dX7_place_42 : decode cX7_place 42 = .ok (.iadd, 1) := by decide +kernel
theorem dX7_place_43 : decode cX7_place 43 = .ok (.iload 4, 2) := by decide +kernel
theorem dX7_place_45 : decode cX7_place 45 = .ok (.iadd, 1) := by decide +kernel
theorem dX7_place_46 : decode cX7_place 46 = .ok (.iaload, 1) := by decide +kernel
theorem dX7_place_47 : decode cX7_place 47 = .ok (.ireturn, 1) := by decide +kernel
theorem dX7_now_0 : decode cX7_now 0 = .ok (.aload_n 0, 1) := by decide +kernel
theorem dX7_now_1 : decode cX7_now 1 = .ok (.getfield 13, 3) := by decide +kernel
theorem dX7_now_4 : decode cX7_now 4 = .ok (.aload_n 0, 1) := by decide +kernel
theorem dX7_now_5 : decode cX7_now 5 = .ok (.getfield 7, 3) := by decide +kernel
theorem dX7_now_8 : decode cX7_now 8 = .ok (.iload_n 1, 1) := by decide +kernel
theorem dX7_now_9 : decode cX7_now 9 = .ok (.iload_n 2, 1) := by decide +kernel
theorem dX7_now_10 : decode cX7_now 10 = .ok (.iload_n 3, 1) := by decide +kernel
theorem dX7_now_11 : decode cX7_now 11 = .ok (.invokestatic 117, 3) := by decide +kernel
theorem dX7_now_14 : decode cX7_now 14 = .ok (.ireturn, 1) := by decide +kernel
theorem dX7_then_0 : decode cX7_then 0 = .ok (.aload_n 0, 1) := by decide +kernel
theorem dX7_then_1 : decode cX7_then 1 = .ok (.getfield 19, 3) := by decide +kernel
theorem dX7_then_4 : decode cX7_then 4 = .ok (.aload_n 0, 1) := by decide +kernel
theorem dX7_then_5 : decode cX7_then 5 = .ok (.getfield 16, 3) := by decide +kernel
theorem dX7_then_8 : decode cX7_then 8 = .ok (.iload_n 1, 1) := by decide +kernel
theorem dX7_then_9 : decode cX7_then 9 = .ok (.iload_n 2, 1) := by decide +kernel
theorem dX7_then_10 : decode cX7_then 10 = .ok (.iload_n 3, 1) := by decide +kernel
theorem dX7_then_11 : decode cX7_then 11 = .ok (.invokestatic 117, 3) := by decide +kernel
theorem dX7_then_14 : decode cX7_then 14 = .ok (.ireturn, 1) := by decide +kernel
theorem dX7_root_0 : decode cX7_root 0 = .ok (.lconst 0, 1) := by decide +kernel
theorem dX7_root_1 : decode cX7_root 1 = .ok (.lstore_n 2, 1) := by decide +kernel
theorem dX7_root_2 : decode cX7_root 2 = .ok (.ldc2_w 121, 3) := by decide +kernel
theorem dX7_root_5 : decode cX7_root 5 = .ok (.lstore 4, 2) := by decide +kernel
theorem dX7_root_7 : decode cX7_root 7 = .ok (.lload 4, 2) := by decide +kernel
theorem dX7_root_9 : decode cX7_root 9 = .ok (.lconst 0, 1) := by decide +kernel
theorem dX7_root_10 : decode cX7_root 10 = .ok (.lcmp, 1) := by decide +kernel
theorem dX7_root_11 : decode cX7_root 11 = .ok (.ifCond .le 31, 3) := by decide +kernel
theorem dX7_root_14 : decode cX7_root 14 = .ok (.lload_n 2, 1) := by decide +kernel
theorem dX7_root_15 : decode cX7_root 15 = .ok (.lload 4, 2) := by decide +kernel
theorem dX7_root_17 : decode cX7_root 17 = .ok (.ladd, 1) := by decide +kernel
theorem dX7_root_18 : decode cX7_root 18 = .ok (.lload_n 2, 1) := by decide +kernel
theorem dX7_root_19 : decode cX7_root 19 = .ok (.lload 4, 2) := by decide +kernel
theorem dX7_root_21 : decode cX7_root 21 = .ok (.ladd, 1) := by decide +kernel
theorem dX7_root_22 : decode cX7_root 22 = .ok (.lmul, 1) := by decide +kernel
theorem dX7_root_23 : decode cX7_root 23 = .ok (.lload_n 0, 1) := by decide +kernel
theorem dX7_root_24 : decode cX7_root 24 = .ok (.lcmp, 1) := by decide +kernel
theorem dX7_root_25 : decode cX7_root 25 = .ok (.ifCond .gt 8, 3) := by decide +kernel
theorem dX7_root_28 : decode cX7_root 28 = .ok (.lload_n 2, 1) := by decide +kernel
theorem dX7_root_29 : decode cX7_root 29 = .ok (.lload 4, 2) := by decide +kernel
theorem dX7_root_31 : decode cX7_root 31 = .ok (.ladd, 1) := by decide +kernel
theorem dX7_root_32 : decode cX7_root 32 = .ok (.lstore_n 2, 1) := by decide +kernel
theorem dX7_root_33 : decode cX7_root 33 = .ok (.lload 4, 2) := by decide +kernel
theorem dX7_root_35 : decode cX7_root 35 = .ok (.iconst 1, 1) := by decide +kernel
theorem dX7_root_36 : decode cX7_root 36 = .ok (.lshr, 1) := by decide +kernel
theorem dX7_root_37 : decode cX7_root 37 = .ok (.lstore 4, 2) := by decide +kernel
theorem dX7_root_39 : decode cX7_root 39 = .ok (.goto (-32), 3) := by decide +kernel
theorem dX7_root_42 : decode cX7_root 42 = .ok (.lload_n 2, 1) := by decide +kernel
theorem dX7_root_43 : decode cX7_root 43 = .ok (.lreturn, 1) := by decide +kernel
theorem dX7_pull_0 : decode cX7_pull 0 = .ok (.lload_n 2, 1) := by decide +kernel
theorem dX7_pull_1 : decode cX7_pull 1 = .ok (.lload_n 2, 1) := by decide +kernel
theorem dX7_pull_2 : decode cX7_pull 2 = .ok (.lmul, 1) := by decide +kernel
theorem dX7_pull_3 : decode cX7_pull 3 = .ok (.lload 4, 2) := by decide +kernel
theorem dX7_pull_5 : decode cX7_pull 5 = .ok (.lload 4, 2) := by decide +kernel
theorem dX7_pull_7 : decode cX7_pull 7 = .ok (.lmul, 1) := by decide +kernel
theorem dX7_pull_8 : decode cX7_pull 8 = .ok (.ladd, 1) := by decide +kernel
theorem dX7_pull_9 : decode cX7_pull 9 = .ok (.lstore 6, 2) := by decide +kernel
theorem dX7_pull_11 : decode cX7_pull 11 = .ok (.lload 6, 2) := by decide +kernel
theorem dX7_pull_13 : decode cX7_pull 13 = .ok (.lconst 0, 1) := by decide +kernel
theorem dX7_pull_14 : decode cX7_pull 14 = .ok (.lcmp, 1) := by decide +kernel
theorem dX7_pull_15 : decode cX7_pull 15 = .ok (.ifCond .ne 7, 3) := by decide +kernel
theorem dX7_pull_18 : decode cX7_pull 18 = .ok (.lconst 0, 1) := by decide +kernel
theorem dX7_pull_19 : decode cX7_pull 19 = .ok (.goto 15, 3) := by decide +kernel
theorem dX7_pull_22 : decode cX7_pull 22 = .ok (.lload_n 0, 1) := by decide +kernel
theorem dX7_pull_23 : decode cX7_pull 23 = .ok (.lload_n 2, 1) := by decide +kernel
theorem dX7_pull_24 : decode cX7_pull 24 = .ok (.lmul, 1) := by decide +kernel
theorem dX7_pull_25 : decode cX7_pull 25 = .ok (.lload 6, 2) := by decide +kernel
theorem dX7_pull_27 : decode cX7_pull 27 = .ok (.lload 6, 2) := by decide +kernel
theorem dX7_pull_29 : decode cX7_pull 29 = .ok (.invokestatic 123, 3) := by decide +kernel
theorem dX7_pull_32 : decode cX7_pull 32 = .ok (.lmul, 1) := by decide +kernel
theorem dX7_pull_33 : decode cX7_pull 33 = .ok (.ldiv, 1) := by decide +kernel
theorem dX7_pull_34 : decode cX7_pull 34 = .ok (.lreturn, 1) := by decide +kernel
theorem dX7_isLost_0 : decode cX7_isLost 0 = .ok (.lload_n 0, 1) := by decide +kernel
theorem dX7_isLost_1 : decode cX7_isLost 1 = .ok (.lload_n 0, 1) := by decide +kernel
theorem dX7_isLost_2 : decode cX7_isLost 2 = .ok (.lmul, 1) := by decide +kernel
theorem dX7_isLost_3 : decode cX7_isLost 3 = .ok (.lload_n 2, 1) := by decide +kernel
theorem dX7_isLost_4 : decode cX7_isLost 4 = .ok (.lload_n 2, 1) := by decide +kernel
theorem dX7_isLost_5 : decode cX7_isLost 5 = .ok (.lmul, 1) := by decide +kernel
theorem dX7_isLost_6 : decode cX7_isLost 6 = .ok (.ladd, 1) := by decide +kernel
theorem dX7_isLost_7 : decode cX7_isLost 7 = .ok (.ldc2_w 127, 3) := by decide +kernel
theorem dX7_isLost_10 : decode cX7_isLost 10 = .ok (.lcmp, 1) := by decide +kernel
theorem dX7_isLost_11 : decode cX7_isLost 11 = .ok (.ifCond .lt 35, 3) := by decide +kernel
theorem dX7_isLost_14 : decode cX7_isLost 14 = .ok (.lload_n 0, 1) := by decide +kernel
theorem dX7_isLost_15 : decode cX7_isLost 15 = .ok (.ldc2_w 129, 3) := by decide +kernel
theorem dX7_isLost_18 : decode cX7_isLost 18 = .ok (.lcmp, 1) := by decide +kernel
theorem dX7_isLost_19 : decode cX7_isLost 19 = .ok (.ifCond .lt 27, 3) := by decide +kernel
theorem dX7_isLost_22 : decode cX7_isLost 22 = .ok (.lload_n 0, 1) := by decide +kernel
theorem dX7_isLost_23 : decode cX7_isLost 23 = .ok (.ldc2_w 131, 3) := by decide +kernel
theorem dX7_isLost_26 : decode cX7_isLost 26 = .ok (.lcmp, 1) := by decide +kernel
theorem dX7_isLost_27 : decode cX7_isLost 27 = .ok (.ifCond .gt 19, 3) := by decide +kernel
theorem dX7_isLost_30 : decode cX7_isLost 30 = .ok (.lload_n 2, 1) := by decide +kernel
theorem dX7_isLost_31 : decode cX7_isLost 31 = .ok (.ldc2_w 129, 3) := by decide +kernel
theorem dX7_isLost_34 : decode cX7_isLost 34 = .ok (.lcmp, 1) := by decide +kernel
theorem dX7_isLost_35 : decode cX7_isLost 35 = .ok (.ifCond .lt 11, 3) := by decide +kernel
theorem dX7_isLost_38 : decode cX7_isLost 38 = .ok (.lload_n 2, 1) := by decide +kernel
theorem dX7_isLost_39 : decode cX7_isLost 39 = .ok (.ldc2_w 131, 3) := by decide +kernel
theorem dX7_isLost_42 : decode cX7_isLost 42 = .ok (.lcmp, 1) := by decide +kernel
theorem dX7_isLost_43 : decode cX7_isLost 43 = .ok (.ifCond .le 7, 3) := by decide +kernel
theorem dX7_isLost_46 : decode cX7_isLost 46 = .ok (.iconst 1, 1) := by decide +kernel
theorem dX7_isLost_47 : decode cX7_isLost 47 = .ok (.goto 4, 3) := by decide +kernel
theorem dX7_isLost_50 : decode cX7_isLost 50 = .ok (.iconst 0, 1) := by decide +kernel
theorem dX7_isLost_51 : decode cX7_isLost 51 = .ok (.ireturn, 1) := by decide +kernel
theorem dX7_pulls_0 : decode cX7_pulls 0 = .ok (.aload_n 0, 1) := by decide +kernel
theorem dX7_pulls_1 : decode cX7_pulls 1 = .ok (.iconst 1, 1) := by decide +kernel
theorem dX7_pulls_2 : decode cX7_pulls 2 = .ok (.iload_n 1, 1) := by decide +kernel
theorem dX7_pulls_3 : decode cX7_pulls 3 = .ok (.iconst 0, 1) := by decide +kernel
theorem dX7_pulls_4 : decode cX7_pulls 4 = .ok (.invokevirtual 133, 3) := by decide +kernel
theorem dX7_pulls_7 : decode cX7_pulls 7 = .ok (.i2l, 1) := by decide +kernel
theorem dX7_pulls_8 : decode cX7_pulls 8 = .ok (.aload_n 0, 1) := by decide +kernel
theorem dX7_pulls_9 : decode cX7_pulls 9 = .ok (.getfield 79, 3) := by decide +kernel
theorem dX7_pulls_12 : decode cX7_pulls 12 = .ok (.lsub, 1) := by decide +kernel
theorem dX7_pulls_13 : decode cX7_pulls 13 = .ok (.lstore_n 3, 1) := by decide +kernel
theorem dX7_pulls_14 : decode cX7_pulls 14 = .ok (.aload_n 0, 1) := by decide +kernel
theorem dX7_pulls_15 : decode cX7_pulls 15 = .ok (.iconst 1, 1) := by decide +kernel
theorem dX7_pulls_16 : decode cX7_pulls 16 = .ok (.iload_n 1, 1) := by decide +kernel
theorem dX7_pulls_17 : decode cX7_pulls 17 = .ok (.iconst 1, 1) := by decide +kernel
theorem dX7_pulls_18 : decode cX7_pulls 18 = .ok (.invokevirtual 133, 3) := by decide +kernel
theorem dX7_pulls_21 : decode cX7_pulls 21 = .ok (.i2l, 1) := by decide +kernel
theorem dX7_pulls_22 : decode cX7_pulls 22 = .ok (.aload_n 0, 1) := by decide +kernel
theorem dX7_pulls_23 : decode cX7_pulls 23 = .ok (.getfield 83, 3) := by decide +kernel
theorem dX7_pulls_26 : decode cX7_pulls 26 = .ok (.lsub, 1) := by decide +kernel
theorem dX7_pulls_27 : decode cX7_pulls 27 = .ok (.lstore 5, 2) := by decide +kernel
theorem dX7_pulls_29 : decode cX7_pulls 29 = .ok (.aload_n 0, 1) := by decide +kernel
theorem dX7_pulls_30 : decode cX7_pulls 30 = .ok (.getfield 22, 3) := by decide +kernel
theorem dX7_pulls_33 : decode cX7_pulls 33 = .ok (.iconst 0, 1) := by decide +kernel
theorem dX7_pulls_34 : decode cX7_pulls 34 = .ok (.iaload, 1) := by decide +kernel
theorem dX7_pulls_35 : decode cX7_pulls 35 = .ok (.i2l, 1) := by decide +kernel
theorem dX7_pulls_36 : decode cX7_pulls 36 = .ok (.aload_n 0, 1) := by decide +kernel
theorem dX7_pulls_37 : decode cX7_pulls 37 = .ok (.getfield 79, 3) := by decide +kernel
theorem dX7_pulls_40 : decode cX7_pulls 40 = .ok (.lneg, 1) := by decide +kernel
theorem dX7_pulls_41 : decode cX7_pulls 41 = .ok (.aload_n 0, 1) := by decide +kernel
theorem dX7_pulls_42 : decode cX7_pulls 42 = .ok (.getfield 83, 3) := by decide +kernel
theorem dX7_pulls_45 : decode cX7_pulls 45 = .ok (.lneg, 1) := by decide +kernel
theorem dX7_pulls_46 : decode cX7_pulls 46 = .ok (.invokestatic 137, 3) := by decide +kernel
theorem dX7_pulls_49 : decode cX7_pulls 49 = .ok (.aload_n 0, 1) := by decide +kernel
theorem dX7_pulls_50 : decode cX7_pulls 50 = .ok (.getfield 22, 3) := by decide +kernel
theorem dX7_pulls_53 : decode cX7_pulls 53 = .ok (.iconst 1, 1) := by decide +kernel
theorem dX7_pulls_54 : decode cX7_pulls 54 = .ok (.iaload, 1) := by decide +kernel
theorem dX7_pulls_55 : decode cX7_pulls 55 = .ok (.i2l, 1) := by decide +kernel
theorem dX7_pulls_56 : decode cX7_pulls 56 = .ok (.lload_n 3, 1) := by decide +kernel
theorem dX7_pulls_57 : decode cX7_pulls 57 = .ok (.lload 5, 2) := by decide +kernel
theorem dX7_pulls_59 : decode cX7_pulls 59 = .ok (.invokestatic 137, 3) := by decide +kernel
theorem dX7_pulls_62 : decode cX7_pulls 62 = .ok (.ladd, 1) := by decide +kernel
theorem dX7_pulls_63 : decode cX7_pulls 63 = .ok (.lstore 7, 2) := by decide +kernel
theorem dX7_pulls_65 : decode cX7_pulls 65 = .ok (.aload_n 0, 1) := by decide +kernel
theorem dX7_pulls_66 : decode cX7_pulls 66 = .ok (.getfield 22, 3) := by decide +kernel
theorem dX7_pulls_69 : decode cX7_pulls 69 = .ok (.iconst 0, 1) := by decide +kernel
theorem dX7_pulls_70 : decode cX7_pulls 70 = .ok (.iaload, 1) := by decide +kernel
theorem dX7_pulls_71 : decode cX7_pulls 71 = .ok (.i2l, 1) := by decide +kernel
theorem dX7_pulls_72 : decode cX7_pulls 72 = .ok (.aload_n 0, 1) := by decide +kernel
theorem dX7_pulls_73 : decode cX7_pulls 73 = .ok (.getfield 83, 3) := by decide +kernel
theorem dX7_pulls_76 : decode cX7_pulls 76 = .ok (.lneg, 1) := by decide +kernel
theorem dX7_pulls_77 : decode cX7_pulls 77 = .ok (.aload_n 0, 1) := by decide +kernel
theorem dX7_pulls_78 : decode cX7_pulls 78 = .ok (.getfield 79, 3) := by decide +kernel
theorem dX7_pulls_81 : decode cX7_pulls 81 = .ok (.lneg, 1) := by decide +kernel
theorem dX7_pulls_82 : decode cX7_pulls 82 = .ok (.invokestatic 137, 3) := by decide +kernel
theorem dX7_pulls_85 : decode cX7_pulls 85 = .ok (.aload_n 0, 1) := by decide +kernel
theorem dX7_pulls_86 : decode cX7_pulls 86 = .ok (.getfield 22, 3) := by decide +kernel
theorem dX7_pulls_89 : decode cX7_pulls 89 = .ok (.iconst 1, 1) := by decide +kernel
theorem dX7_pulls_90 : decode cX7_pulls 90 = .ok (.iaload, 1) := by decide +kernel
theorem dX7_pulls_91 : decode cX7_pulls 91 = .ok (.i2l, 1) := by decide +kernel
theorem dX7_pulls_92 : decode cX7_pulls 92 = .ok (.lload 5, 2) := by decide +kernel
theorem dX7_pulls_94 : decode cX7_pulls 94 = .ok (.lload_n 3, 1) := by decide +kernel
theorem dX7_pulls_95 : decode cX7_pulls 95 = .ok (.invokestatic 137, 3) := by decide +kernel
theorem dX7_pulls_98 : decode cX7_pulls 98 = .ok (.ladd, 1) := by decide +kernel
theorem dX7_pulls_99 : decode cX7_pulls 99 = .ok (.lstore 9, 2) := by decide +kernel
theorem dX7_pulls_101 : decode cX7_pulls 101 = .ok (.aload_n 0, 1) := by decide +kernel
theorem dX7_pulls_102 : decode cX7_pulls 102 = .ok (.dup, 1) := by decide +kernel
theorem dX7_pulls_103 : decode cX7_pulls 103 = .ok (.getfield 86, 3) := by decide +kernel
theorem dX7_pulls_106 : decode cX7_pulls 106 = .ok (.iload_n 2, 1) := by decide +kernel
theorem dX7_pulls_107 : decode cX7_pulls 107 = .ok (.i2l, 1) := by decide +kernel
theorem dX7_pulls_108 : decode cX7_pulls 108 = .ok (.lload 7, 2) := by decide +kernel
theorem dX7_pulls_110 : decode cX7_pulls 110 = .ok (.lmul, 1) := by decide +kernel
theorem dX7_pulls_111 : decode cX7_pulls 111 = .ok (.ladd, 1) := by decide +kernel
theorem dX7_pulls_112 : decode cX7_pulls 112 = .ok (.putfield 86, 3) := by decide +kernel
theorem dX7_pulls_115 : decode cX7_pulls 115 = .ok (.aload_n 0, 1) := by decide +kernel
theorem dX7_pulls_116 : decode cX7_pulls 116 = .ok (.dup, 1) := by decide +kernel
theorem dX7_pulls_117 : decode cX7_pulls 117 = .ok (.getfield 89, 3) := by decide +kernel
theorem dX7_pulls_120 : decode cX7_pulls 120 = .ok (.iload_n 2, 1) := by decide +kernel
theorem dX7_pulls_121 : decode cX7_pulls 121 = .ok (.i2l, 1) := by decide +kernel
theorem dX7_pulls_122 : decode cX7_pulls 122 = .ok (.lload 9, 2) := by decide +kernel
theorem dX7_pulls_124 : decode cX7_pulls 124 = .ok (.lmul, 1) := by decide +kernel
theorem dX7_pulls_125 : decode cX7_pulls 125 = .ok (.ladd, 1) := by decide +kernel
theorem dX7_pulls_126 : decode cX7_pulls 126 = .ok (.putfield 89, 3) := by decide +kernel
theorem dX7_pulls_129 : decode cX7_pulls 129 = .ok (.return_, 1) := by decide +kernel
theorem dX7_goesOn_0 : decode cX7_goesOn 0 = .ok (.aload_n 0, 1) := by decide +kernel
theorem dX7_goesOn_1 : decode cX7_goesOn 1 = .ok (.dup, 1) := by decide +kernel
theorem dX7_goesOn_2 : decode cX7_goesOn 2 = .ok (.getfield 79, 3) := by decide +kernel
theorem dX7_goesOn_5 : decode cX7_goesOn 5 = .ok (.aload_n 0, 1) := by decide +kernel
theorem dX7_goesOn_6 : decode cX7_goesOn 6 = .ok (.getfield 86, 3) := by decide +kernel
theorem dX7_goesOn_9 : decode cX7_goesOn 9 = .ok (.ladd, 1) := by decide +kernel
theorem dX7_goesOn_10 : decode cX7_goesOn 10 = .ok (.putfield 79, 3) := by decide +kernel
theorem dX7_goesOn_13 : decode cX7_goesOn 13 = .ok (.aload_n 0, 1) := by decide +kernel
theorem dX7_goesOn_14 : decode cX7_goesOn 14 = .ok (.dup, 1) := by decide +kernel
theorem dX7_goesOn_15 : decode cX7_goesOn 15 = .ok (.getfield 83, 3) := by decide +kernel
theorem dX7_goesOn_18 : decode cX7_goesOn 18 = .ok (.aload_n 0, 1) := by decide +kernel
theorem dX7_goesOn_19 : decode cX7_goesOn 19 = .ok (.getfield 89, 3) := by decide +kernel
theorem dX7_goesOn_22 : decode cX7_goesOn 22 = .ok (.ladd, 1) := by decide +kernel
theorem dX7_goesOn_23 : decode cX7_goesOn 23 = .ok (.putfield 83, 3) := by decide +kernel
theorem dX7_goesOn_26 : decode cX7_goesOn 26 = .ok (.aload_n 0, 1) := by decide +kernel
theorem dX7_goesOn_27 : decode cX7_goesOn 27 = .ok (.getfield 79, 3) := by decide +kernel
theorem dX7_goesOn_30 : decode cX7_goesOn 30 = .ok (.aload_n 0, 1) := by decide +kernel
theorem dX7_goesOn_31 : decode cX7_goesOn 31 = .ok (.getfield 83, 3) := by decide +kernel
theorem dX7_goesOn_34 : decode cX7_goesOn 34 = .ok (.invokestatic 141, 3) := by decide +kernel
theorem dX7_goesOn_37 : decode cX7_goesOn 37 = .ok (.ifCond .eq 5, 3) := by decide +kernel
theorem dX7_goesOn_40 : decode cX7_goesOn 40 = .ok (.iconst 0, 1) := by decide +kernel
theorem dX7_goesOn_41 : decode cX7_goesOn 41 = .ok (.ireturn, 1) := by decide +kernel
theorem dX7_goesOn_42 : decode cX7_goesOn 42 = .ok (.aload_n 0, 1) := by decide +kernel
theorem dX7_goesOn_43 : decode cX7_goesOn 43 = .ok (.iload_n 1, 1) := by decide +kernel
theorem dX7_goesOn_44 : decode cX7_goesOn 44 = .ok (.iconst 1, 1) := by decide +kernel
theorem dX7_goesOn_45 : decode cX7_goesOn 45 = .ok (.iadd, 1) := by decide +kernel
theorem dX7_goesOn_46 : decode cX7_goesOn 46 = .ok (.iconst 1, 1) := by decide +kernel
theorem dX7_goesOn_47 : decode cX7_goesOn 47 = .ok (.invokevirtual 145, 3) := by decide +kernel
theorem dX7_goesOn_50 : decode cX7_goesOn 50 = .ok (.iconst 1, 1) := by decide +kernel
theorem dX7_goesOn_51 : decode cX7_goesOn 51 = .ok (.ireturn, 1) := by decide +kernel
theorem dX7_goesBack_0 : decode cX7_goesBack 0 = .ok (.aload_n 0, 1) := by decide +kernel
theorem dX7_goesBack_1 : decode cX7_goesBack 1 = .ok (.iload_n 1, 1) := by decide +kernel
theorem dX7_goesBack_2 : decode cX7_goesBack 2 = .ok (.iconst (-1), 1) := by decide +kernel
theorem dX7_goesBack_3 : decode cX7_goesBack 3 = .ok (.invokevirtual 145, 3) := by decide +kernel
theorem dX7_goesBack_6 : decode cX7_goesBack 6 = .ok (.aload_n 0, 1) := by decide +kernel
theorem dX7_goesBack_7 : decode cX7_goesBack 7 = .ok (.dup, 1) := by decide +kernel
theorem dX7_goesBack_8 : decode cX7_goesBack 8 = .ok (.getfield 79, 3) := by decide +kernel
theorem dX7_goesBack_11 : decode cX7_goesBack 11 = .ok (.aload_n 0, 1) := by decide +kernel
theorem dX7_goesBack_12 : decode cX7_goesBack 12 = .ok (.getfield 86, 3) := by decide +kernel
theorem dX7_goesBack_15 : decode cX7_goesBack 15 = .ok (.lsub, 1) := by decide +kernel
theorem dX7_goesBack_16 : decode cX7_goesBack 16 = .ok (.putfield 79, 3) := by decide +kernel
theorem dX7_goesBack_19 : decode cX7_goesBack 19 = .ok (.aload_n 0, 1) := by decide +kernel
theorem dX7_goesBack_20 : decode cX7_goesBack 20 = .ok (.dup, 1) := by decide +kernel
theorem dX7_goesBack_21 : decode cX7_goesBack 21 = .ok (.getfield 83, 3) := by decide +kernel
theorem dX7_goesBack_24 : decode cX7_goesBack 24 = .ok (.aload_n 0, 1) := by decide +kernel
theorem dX7_goesBack_25 : decode cX7_goesBack 25 = .ok (.getfield 89, 3) := by decide +kernel
theorem dX7_goesBack_28 : decode cX7_goesBack 28 = .ok (.lsub, 1) := by decide +kernel
theorem dX7_goesBack_29 : decode cX7_goesBack 29 = .ok (.putfield 83, 3) := by decide +kernel
theorem dX7_goesBack_32 : decode cX7_goesBack 32 = .ok (.aload_n 0, 1) := by decide +kernel
theorem dX7_goesBack_33 : decode cX7_goesBack 33 = .ok (.getfield 79, 3) := by decide +kernel
theorem dX7_goesBack_36 : decode cX7_goesBack 36 = .ok (.aload_n 0, 1) := by decide +kernel
theorem dX7_goesBack_37 : decode cX7_goesBack 37 = .ok (.getfield 83, 3) := by decide +kernel
theorem dX7_goesBack_40 : decode cX7_goesBack 40 = .ok (.invokestatic 141, 3) := by decide +kernel
theorem dX7_goesBack_43 : decode cX7_goesBack 43 = .ok (.ifCond .ne 7, 3) := by decide +kernel
theorem dX7_goesBack_46 : decode cX7_goesBack 46 = .ok (.iconst 1, 1) := by decide +kernel
theorem dX7_goesBack_47 : decode cX7_goesBack 47 = .ok (.goto 4, 3) := by decide +kernel
theorem dX7_goesBack_50 : decode cX7_goesBack 50 = .ok (.iconst 0, 1) := by decide +kernel
theorem dX7_goesBack_51 : decode cX7_goesBack 51 = .ok (.ireturn, 1) := by decide +kernel
theorem dX7_seenX_0 : decode cX7_seenX 0 = .ok (.aload_n 0, 1) := by decide +kernel
theorem dX7_seenX_1 : decode cX7_seenX 1 = .ok (.iconst 0, 1) := by decide +kernel
theorem dX7_seenX_2 : decode cX7_seenX 2 = .ok (.aload_n 0, 1) := by decide +kernel
theorem dX7_seenX_3 : decode cX7_seenX 3 = .ok (.getfield 32, 3) := by decide +kernel
theorem dX7_seenX_6 : decode cX7_seenX 6 = .ok (.iconst 5, 1) := by decide +kernel
theorem dX7_seenX_7 : decode cX7_seenX 7 = .ok (.iload_n 1, 1) := by decide +kernel
theorem dX7_seenX_8 : decode cX7_seenX 8 = .ok (.imul, 1) := by decide +kernel
theorem dX7_seenX_9 : decode cX7_seenX 9 = .ok (.iconst 1, 1) := by decide +kernel
theorem dX7_seenX_10 : decode cX7_seenX 10 = .ok (.iadd, 1) := by decide +kernel
theorem dX7_seenX_11 : decode cX7_seenX 11 = .ok (.iaload, 1) := by decide +kernel
theorem dX7_seenX_12 : decode cX7_seenX 12 = .ok (.iconst 0, 1) := by decide +kernel
theorem dX7_seenX_13 : decode cX7_seenX 13 = .ok (.invokevirtual 133, 3) := by decide +kernel
theorem dX7_seenX_16 : decode cX7_seenX 16 = .ok (.i2l, 1) := by decide +kernel
theorem dX7_seenX_17 : decode cX7_seenX 17 = .ok (.aload_n 0, 1) := by decide +kernel
theorem dX7_seenX_18 : decode cX7_seenX 18 = .ok (.getfield 32, 3) := by decide +kernel
theorem dX7_seenX_21 : decode cX7_seenX 21 = .ok (.iconst 5, 1) := by decide +kernel
theorem dX7_seenX_22 : decode cX7_seenX 22 = .ok (.iload_n 1, 1) := by decide +kernel
theorem dX7_seenX_23 : decode cX7_seenX 23 = .ok (.imul, 1) := by decide +kernel
theorem dX7_seenX_24 : decode cX7_seenX 24 = .ok (.iconst 2, 1) := by decide +kernel
theorem dX7_seenX_25 : decode cX7_seenX 25 = .ok (.iadd, 1) := by decide +kernel
theorem dX7_seenX_26 : decode cX7_seenX 26 = .ok (.iaload, 1) := by decide +kernel
theorem dX7_seenX_27 : decode cX7_seenX 27 = .ok (.i2l, 1) := by decide +kernel
theorem dX7_seenX_28 : decode cX7_seenX 28 = .ok (.lload_n 2, 1) := by decide +kernel
theorem dX7_seenX_29 : decode cX7_seenX 29 = .ok (.lmul, 1) := by decide +kernel
theorem dX7_seenX_30 : decode cX7_seenX 30 = .ok (.aload_n 0, 1) := by decide +kernel
theorem dX7_seenX_31 : decode cX7_seenX 31 = .ok (.getfield 32, 3) := by decide +kernel
theorem dX7_seenX_34 : decode cX7_seenX 34 = .ok (.iconst 5, 1) := by decide +kernel
theorem dX7_seenX_35 : decode cX7_seenX 35 = .ok (.iload_n 1, 1) := by decide +kernel
theorem dX7_seenX_36 : decode cX7_seenX 36 = .ok (.imul, 1) := by decide +kernel
theorem dX7_seenX_37 : decode cX7_seenX 37 = .ok (.iconst 2, 1) := by decide +kernel
theorem dX7_seenX_38 : decode cX7_seenX 38 = .ok (.iadd, 1) := by decide +kernel
theorem dX7_seenX_39 : decode cX7_seenX 39 = .ok (.iaload, 1) := by decide +kernel
theorem dX7_seenX_40 : decode cX7_seenX 40 = .ok (.i2l, 1) := by decide +kernel
theorem dX7_seenX_41 : decode cX7_seenX 41 = .ok (.aload_n 0, 1) := by decide +kernel
theorem dX7_seenX_42 : decode cX7_seenX 42 = .ok (.getfield 32, 3) := by decide +kernel
theorem dX7_seenX_45 : decode cX7_seenX 45 = .ok (.iconst 5, 1) := by decide +kernel
theorem dX7_seenX_46 : decode cX7_seenX 46 = .ok (.iload_n 1, 1) := by decide +kernel
theorem dX7_seenX_47 : decode cX7_seenX 47 = .ok (.imul, 1) := by decide +kernel
theorem dX7_seenX_48 : decode cX7_seenX 48 = .ok (.iconst 2, 1) := by decide +kernel
theorem dX7_seenX_49 : decode cX7_seenX 49 = .ok (.iadd, 1) := by decide +kernel
theorem dX7_seenX_50 : decode cX7_seenX 50 = .ok (.iaload, 1) := by decide +kernel
theorem dX7_seenX_51 : decode cX7_seenX 51 = .ok (.i2l, 1) := by decide +kernel
theorem dX7_seenX_52 : decode cX7_seenX 52 = .ok (.lmul, 1) := by decide +kernel
theorem dX7_seenX_53 : decode cX7_seenX 53 = .ok (.aload_n 0, 1) := by decide +kernel
theorem dX7_seenX_54 : decode cX7_seenX 54 = .ok (.getfield 32, 3) := by decide +kernel
theorem dX7_seenX_57 : decode cX7_seenX 57 = .ok (.iconst 5, 1) := by decide +kernel
theorem dX7_seenX_58 : decode cX7_seenX 58 = .ok (.iload_n 1, 1) := by decide +kernel
theorem dX7_seenX_59 : decode cX7_seenX 59 = .ok (.imul, 1) := by decide +kernel
theorem dX7_seenX_60 : decode cX7_seenX 60 = .ok (.iconst 3, 1) := by decide +kernel
theorem dX7_seenX_61 : decode cX7_seenX 61 = .ok (.iadd, 1) := by decide +kernel
theorem dX7_seenX_62 : decode cX7_seenX 62 = .ok (.iaload, 1) := by decide +kernel
theorem dX7_seenX_63 : decode cX7_seenX 63 = .ok (.i2l, 1) := by decide +kernel
theorem dX7_seenX_64 : decode cX7_seenX 64 = .ok (.aload_n 0, 1) := by decide +kernel
theorem dX7_seenX_65 : decode cX7_seenX 65 = .ok (.getfield 32, 3) := by decide +kernel
theorem dX7_seenX_68 : decode cX7_seenX 68 = .ok (.iconst 5, 1) := by decide +kernel
theorem dX7_seenX_69 : decode cX7_seenX 69 = .ok (.iload_n 1, 1) := by decide +kernel
theorem dX7_seenX_70 : decode cX7_seenX 70 = .ok (.imul, 1) := by decide +kernel
theorem dX7_seenX_71 : decode cX7_seenX 71 = .ok (.iconst 3, 1) := by decide +kernel
theorem dX7_seenX_72 : decode cX7_seenX 72 = .ok (.iadd, 1) := by decide +kernel
theorem dX7_seenX_73 : decode cX7_seenX 73 = .ok (.iaload, 1) := by decide +kernel
theorem dX7_seenX_74 : decode cX7_seenX 74 = .ok (.i2l, 1) := by decide +kernel
theorem dX7_seenX_75 : decode cX7_seenX 75 = .ok (.lmul, 1) := by decide +kernel
theorem dX7_seenX_76 : decode cX7_seenX 76 = .ok (.ladd, 1) := by decide +kernel
theorem dX7_seenX_77 : decode cX7_seenX 77 = .ok (.invokestatic 123, 3) := by decide +kernel
theorem dX7_seenX_80 : decode cX7_seenX 80 = .ok (.ldiv, 1) := by decide +kernel
theorem dX7_seenX_81 : decode cX7_seenX 81 = .ok (.ladd, 1) := by decide +kernel
theorem dX7_seenX_82 : decode cX7_seenX 82 = .ok (.lreturn, 1) := by decide +kernel
theorem dX7_seenY_0 : decode cX7_seenY 0 = .ok (.aload_n 0, 1) := by decide +kernel
theorem dX7_seenY_1 : decode cX7_seenY 1 = .ok (.iconst 0, 1) := by decide +kernel
theorem dX7_seenY_2 : decode cX7_seenY 2 = .ok (.aload_n 0, 1) := by decide +kernel
theorem dX7_seenY_3 : decode cX7_seenY 3 = .ok (.getfield 32, 3) := by decide +kernel
theorem dX7_seenY_6 : decode cX7_seenY 6 = .ok (.iconst 5, 1) := by decide +kernel
theorem dX7_seenY_7 : decode cX7_seenY 7 = .ok (.iload_n 1, 1) := by decide +kernel
theorem dX7_seenY_8 : decode cX7_seenY 8 = .ok (.imul, 1) := by decide +kernel
theorem dX7_seenY_9 : decode cX7_seenY 9 = .ok (.iconst 1, 1) := by decide +kernel
theorem dX7_seenY_10 : decode cX7_seenY 10 = .ok (.iadd, 1) := by decide +kernel
theorem dX7_seenY_11 : decode cX7_seenY 11 = .ok (.iaload, 1) := by decide +kernel
theorem dX7_seenY_12 : decode cX7_seenY 12 = .ok (.iconst 1, 1) := by decide +kernel
theorem dX7_seenY_13 : decode cX7_seenY 13 = .ok (.invokevirtual 133, 3) := by decide +kernel
theorem dX7_seenY_16 : decode cX7_seenY 16 = .ok (.i2l, 1) := by decide +kernel
theorem dX7_seenY_17 : decode cX7_seenY 17 = .ok (.aload_n 0, 1) := by decide +kernel
theorem dX7_seenY_18 : decode cX7_seenY 18 = .ok (.getfield 32, 3) := by decide +kernel
theorem dX7_seenY_21 : decode cX7_seenY 21 = .ok (.iconst 5, 1) := by decide +kernel
theorem dX7_seenY_22 : decode cX7_seenY 22 = .ok (.iload_n 1, 1) := by decide +kernel
theorem dX7_seenY_23 : decode cX7_seenY 23 = .ok (.imul, 1) := by decide +kernel
theorem dX7_seenY_24 : decode cX7_seenY 24 = .ok (.iconst 3, 1) := by decide +kernel
theorem dX7_seenY_25 : decode cX7_seenY 25 = .ok (.iadd, 1) := by decide +kernel
theorem dX7_seenY_26 : decode cX7_seenY 26 = .ok (.iaload, 1) := by decide +kernel
theorem dX7_seenY_27 : decode cX7_seenY 27 = .ok (.i2l, 1) := by decide +kernel
theorem dX7_seenY_28 : decode cX7_seenY 28 = .ok (.lload_n 2, 1) := by decide +kernel
theorem dX7_seenY_29 : decode cX7_seenY 29 = .ok (.lmul, 1) := by decide +kernel
theorem dX7_seenY_30 : decode cX7_seenY 30 = .ok (.aload_n 0, 1) := by decide +kernel
theorem dX7_seenY_31 : decode cX7_seenY 31 = .ok (.getfield 32, 3) := by decide +kernel
theorem dX7_seenY_34 : decode cX7_seenY 34 = .ok (.iconst 5, 1) := by decide +kernel
theorem dX7_seenY_35 : decode cX7_seenY 35 = .ok (.iload_n 1, 1) := by decide +kernel
theorem dX7_seenY_36 : decode cX7_seenY 36 = .ok (.imul, 1) := by decide +kernel
theorem dX7_seenY_37 : decode cX7_seenY 37 = .ok (.iconst 2, 1) := by decide +kernel
theorem dX7_seenY_38 : decode cX7_seenY 38 = .ok (.iadd, 1) := by decide +kernel
theorem dX7_seenY_39 : decode cX7_seenY 39 = .ok (.iaload, 1) := by decide +kernel
theorem dX7_seenY_40 : decode cX7_seenY 40 = .ok (.i2l, 1) := by decide +kernel
theorem dX7_seenY_41 : decode cX7_seenY 41 = .ok (.aload_n 0, 1) := by decide +kernel
theorem dX7_seenY_42 : decode cX7_seenY 42 = .ok (.getfield 32, 3) := by decide +kernel
theorem dX7_seenY_45 : decode cX7_seenY 45 = .ok (.iconst 5, 1) := by decide +kernel
theorem dX7_seenY_46 : decode cX7_seenY 46 = .ok (.iload_n 1, 1) := by decide +kernel
theorem dX7_seenY_47 : decode cX7_seenY 47 = .ok (.imul, 1) := by decide +kernel
theorem dX7_seenY_48 : decode cX7_seenY 48 = .ok (.iconst 2, 1) := by decide +kernel
theorem dX7_seenY_49 : decode cX7_seenY 49 = .ok (.iadd, 1) := by decide +kernel
theorem dX7_seenY_50 : decode cX7_seenY 50 = .ok (.iaload, 1) := by decide +kernel
theorem dX7_seenY_51 : decode cX7_seenY 51 = .ok (.i2l, 1) := by decide +kernel
theorem dX7_seenY_52 : decode cX7_seenY 52 = .ok (.lmul, 1) := by decide +kernel
theorem dX7_seenY_53 : decode cX7_seenY 53 = .ok (.aload_n 0, 1) := by decide +kernel
theorem dX7_seenY_54 : decode cX7_seenY 54 = .ok (.getfield 32, 3) := by decide +kernel
theorem dX7_seenY_57 : decode cX7_seenY 57 = .ok (.iconst 5, 1) := by decide +kernel
theorem dX7_seenY_58 : decode cX7_seenY 58 = .ok (.iload_n 1, 1) := by decide +kernel
theorem dX7_seenY_59 : decode cX7_seenY 59 = .ok (.imul, 1) := by decide +kernel
theorem dX7_seenY_60 : decode cX7_seenY 60 = .ok (.iconst 3, 1) := by decide +kernel
theorem dX7_seenY_61 : decode cX7_seenY 61 = .ok (.iadd, 1) := by decide +kernel
theorem dX7_seenY_62 : decode cX7_seenY 62 = .ok (.iaload, 1) := by decide +kernel
theorem dX7_seenY_63 : decode cX7_seenY 63 = .ok (.i2l, 1) := by decide +kernel
theorem dX7_seenY_64 : decode cX7_seenY 64 = .ok (.aload_n 0, 1) := by decide +kernel
theorem dX7_seenY_65 : decode cX7_seenY 65 = .ok (.getfield 32, 3) := by decide +kernel
theorem dX7_seenY_68 : decode cX7_seenY 68 = .ok (.iconst 5, 1) := by decide +kernel
theorem dX7_seenY_69 : decode cX7_seenY 69 = .ok (.iload_n 1, 1) := by decide +kernel
theorem dX7_seenY_70 : decode cX7_seenY 70 = .ok (.imul, 1) := by decide +kernel
theorem dX7_seenY_71 : decode cX7_seenY 71 = .ok (.iconst 3, 1) := by decide +kernel
theorem dX7_seenY_72 : decode cX7_seenY 72 = .ok (.iadd, 1) := by decide +kernel
theorem dX7_seenY_73 : decode cX7_seenY 73 = .ok (.iaload, 1) := by decide +kernel
theorem dX7_seenY_74 : decode cX7_seenY 74 = .ok (.i2l, 1) := by decide +kernel
theorem dX7_seenY_75 : decode cX7_seenY 75 = .ok (.lmul, 1) := by decide +kernel
theorem dX7_seenY_76 : decode cX7_seenY 76 = .ok (.ladd, 1) := by decide +kernel
theorem dX7_seenY_77 : decode cX7_seenY 77 = .ok (.invokestatic 123, 3) := by decide +kernel
theorem dX7_seenY_80 : decode cX7_seenY 80 = .ok (.ldiv, 1) := by decide +kernel
theorem dX7_seenY_81 : decode cX7_seenY 81 = .ok (.ladd, 1) := by decide +kernel
theorem dX7_seenY_82 : decode cX7_seenY 82 = .ok (.lreturn, 1) := by decide +kernel
theorem dX7_begins_0 : decode cX7_begins 0 = .ok (.aload_n 0, 1) := by decide +kernel
theorem dX7_begins_1 : decode cX7_begins 1 = .ok (.aload_n 0, 1) := by decide +kernel
theorem dX7_begins_2 : decode cX7_begins 2 = .ok (.getfield 44, 3) := by decide +kernel
theorem dX7_begins_5 : decode cX7_begins 5 = .ok (.aload_n 0, 1) := by decide +kernel
theorem dX7_begins_6 : decode cX7_begins 6 = .ok (.getfield 35, 3) := by decide +kernel
theorem dX7_begins_9 : decode cX7_begins 9 = .ok (.i2l, 1) := by decide +kernel
theorem dX7_begins_10 : decode cX7_begins 10 = .ok (.aload_n 0, 1) := by decide +kernel
theorem dX7_begins_11 : decode cX7_begins 11 = .ok (.getfield 38, 3) := by decide +kernel
theorem dX7_begins_14 : decode cX7_begins 14 = .ok (.i2l, 1) := by decide +kernel
theorem dX7_begins_15 : decode cX7_begins 15 = .ok (.iload_n 1, 1) := by decide +kernel
theorem dX7_begins_16 : decode cX7_begins 16 = .ok (.i2l, 1) := by decide +kernel
theorem dX7_begins_17 : decode cX7_begins 17 = .ok (.lmul, 1) := by decide +kernel
theorem dX7_begins_18 : decode cX7_begins 18 = .ok (.ladd, 1) := by decide +kernel
theorem dX7_begins_19 : decode cX7_begins 19 = .ok (.invokevirtual 149, 3) := by decide +kernel
theorem dX7_begins_22 : decode cX7_begins 22 = .ok (.lstore_n 3, 1) := by decide +kernel
theorem dX7_begins_23 : decode cX7_begins 23 = .ok (.aload_n 0, 1) := by decide +kernel
theorem dX7_begins_24 : decode cX7_begins 24 = .ok (.aload_n 0, 1) := by decide +kernel
theorem dX7_begins_25 : decode cX7_begins 25 = .ok (.getfield 44, 3) := by decide +kernel
theorem dX7_begins_28 : decode cX7_begins 28 = .ok (.aload_n 0, 1) := by decide +kernel
theorem dX7_begins_29 : decode cX7_begins 29 = .ok (.getfield 35, 3) := by decide +kernel
theorem dX7_begins_32 : decode cX7_begins 32 = .ok (.i2l, 1) := by decide +kernel
theorem dX7_begins_33 : decode cX7_begins 33 = .ok (.aload_n 0, 1) := by decide +kernel
theorem dX7_begins_34 : decode cX7_begins 34 = .ok (.getfield 38, 3) := by decide +kernel
theorem dX7_begins_37 : decode cX7_begins 37 = .ok (.i2l, 1) := by decide +kernel
theorem dX7_begins_38 : decode cX7_begins 38 = .ok (.iload_n 1, 1) := by decide +kernel
theorem dX7_begins_39 : decode cX7_begins 39 = .ok (.i2l, 1) := by decide +kernel
theorem dX7_begins_40 : decode cX7_begins 40 = .ok (.lmul, 1) := by decide +kernel
theorem dX7_begins_41 : decode cX7_begins 41 = .ok (.ladd, 1) := by decide +kernel
theorem dX7_begins_42 : decode cX7_begins 42 = .ok (.invokevirtual 153, 3) := by decide +kernel
theorem dX7_begins_45 : decode cX7_begins 45 = .ok (.lstore 5, 2) := by decide +kernel
theorem dX7_begins_47 : decode cX7_begins 47 = .ok (.aload_n 0, 1) := by decide +kernel
theorem dX7_begins_48 : decode cX7_begins 48 = .ok (.aload_n 0, 1) := by decide +kernel
theorem dX7_begins_49 : decode cX7_begins 49 = .ok (.getfield 47, 3) := by decide +kernel
theorem dX7_begins_52 : decode cX7_begins 52 = .ok (.aload_n 0, 1) := by decide +kernel
theorem dX7_begins_53 : decode cX7_begins 53 = .ok (.getfield 35, 3) := by decide +kernel
theorem dX7_begins_56 : decode cX7_begins 56 = .ok (.i2l, 1) := by decide +kernel
theorem dX7_begins_57 : decode cX7_begins 57 = .ok (.aload_n 0, 1) := by decide +kernel
theorem dX7_begins_58 : decode cX7_begins 58 = .ok (.getfield 38, 3) := by decide +kernel
theorem dX7_begins_61 : decode cX7_begins 61 = .ok (.i2l, 1) := by decide +kernel
theorem dX7_begins_62 : decode cX7_begins 62 = .ok (.iload_n 2, 1) := by decide +kernel
theorem dX7_begins_63 : decode cX7_begins 63 = .ok (.i2l, 1) := by decide +kernel
theorem dX7_begins_64 : decode cX7_begins 64 = .ok (.lmul, 1) := by decide +kernel
theorem dX7_begins_65 : decode cX7_begins 65 = .ok (.ladd, 1) := by decide +kernel
theorem dX7_begins_66 : decode cX7_begins 66 = .ok (.invokevirtual 149, 3) := by decide +kernel
theorem dX7_begins_69 : decode cX7_begins 69 = .ok (.lstore 7, 2) := by decide +kernel
theorem dX7_begins_71 : decode cX7_begins 71 = .ok (.aload_n 0, 1) := by decide +kernel
theorem dX7_begins_72 : decode cX7_begins 72 = .ok (.aload_n 0, 1) := by decide +kernel
theorem dX7_begins_73 : decode cX7_begins 73 = .ok (.getfield 47, 3) := by decide +kernel
theorem dX7_begins_76 : decode cX7_begins 76 = .ok (.aload_n 0, 1) := by decide +kernel
theorem dX7_begins_77 : decode cX7_begins 77 = .ok (.getfield 35, 3) := by decide +kernel
theorem dX7_begins_80 : decode cX7_begins 80 = .ok (.i2l, 1) := by decide +kernel
theorem dX7_begins_81 : decode cX7_begins 81 = .ok (.aload_n 0, 1) := by decide +kernel
theorem dX7_begins_82 : decode cX7_begins 82 = .ok (.getfield 38, 3) := by decide +kernel
theorem dX7_begins_85 : decode cX7_begins 85 = .ok (.i2l, 1) := by decide +kernel
theorem dX7_begins_86 : decode cX7_begins 86 = .ok (.iload_n 2, 1) := by decide +kernel
theorem dX7_begins_87 : decode cX7_begins 87 = .ok (.i2l, 1) := by decide +kernel
theorem dX7_begins_88 : decode cX7_begins 88 = .ok (.lmul, 1) := by decide +kernel
theorem dX7_begins_89 : decode cX7_begins 89 = .ok (.ladd, 1) := by decide +kernel
theorem dX7_begins_90 : decode cX7_begins 90 = .ok (.invokevirtual 153, 3) := by decide +kernel
theorem dX7_begins_93 : decode cX7_begins 93 = .ok (.lstore 9, 2) := by decide +kernel
theorem dX7_begins_95 : decode cX7_begins 95 = .ok (.aload_n 0, 1) := by decide +kernel
theorem dX7_begins_96 : decode cX7_begins 96 = .ok (.getfield 32, 3) := by decide +kernel
theorem dX7_begins_99 : decode cX7_begins 99 = .ok (.iconst 5, 1) := by decide +kernel
theorem dX7_begins_100 : decode cX7_begins 100 = .ok (.aload_n 0, 1) := by decide +kernel
theorem dX7_begins_101 : decode cX7_begins 101 = .ok (.getfield 44, 3) := by decide +kernel
theorem dX7_begins_104 : decode cX7_begins 104 = .ok (.imul, 1) := by decide +kernel
theorem dX7_begins_105 : decode cX7_begins 105 = .ok (.iconst 1, 1) := by decide +kernel
theorem dX7_begins_106 : decode cX7_begins 106 = .ok (.iadd, 1) := by decide +kernel
theorem dX7_begins_107 : decode cX7_begins 107 = .ok (.iaload, 1) := by decide +kernel
theorem dX7_begins_108 : decode cX7_begins 108 = .ok (.istore 11, 2) := by decide +kernel
theorem dX7_begins_110 : decode cX7_begins 110 = .ok (.aload_n 0, 1) := by decide +kernel
theorem dX7_begins_111 : decode cX7_begins 111 = .ok (.getfield 32, 3) := by decide +kernel
theorem dX7_begins_114 : decode cX7_begins 114 = .ok (.iconst 5, 1) := by decide +kernel
theorem dX7_begins_115 : decode cX7_begins 115 = .ok (.aload_n 0, 1) := by decide +kernel
theorem dX7_begins_116 : decode cX7_begins 116 = .ok (.getfield 47, 3) := by decide +kernel
theorem dX7_begins_119 : decode cX7_begins 119 = .ok (.imul, 1) := by decide +kernel
theorem dX7_begins_120 : decode cX7_begins 120 = .ok (.iconst 1, 1) := by decide +kernel
theorem dX7_begins_121 : decode cX7_begins 121 = .ok (.iadd, 1) := by decide +kernel
theorem dX7_begins_122 : decode cX7_begins 122 = .ok (.iaload, 1) := by decide +kernel
theorem dX7_begins_123 : decode cX7_begins 123 = .ok (.istore 12, 2) := by decide +kernel
theorem dX7_begins_125 : decode cX7_begins 125 = .ok (.lload 7, 2) := by decide +kernel
theorem dX7_begins_127 : decode cX7_begins 127 = .ok (.lload_n 3, 1) := by decide +kernel
theorem dX7_begins_128 : decode cX7_begins 128 = .ok (.lsub, 1) := by decide +kernel
theorem dX7_begins_129 : decode cX7_begins 129 = .ok (.iload 12, 2) := by decide +kernel
theorem dX7_begins_131 : decode cX7_begins 131 = .ok (.iload 11, 2) := by decide +kernel
theorem dX7_begins_133 : decode cX7_begins 133 = .ok (.isub, 1) := by decide +kernel
theorem dX7_begins_134 : decode cX7_begins 134 = .ok (.i2l, 1) := by decide +kernel
theorem dX7_begins_135 : decode cX7_begins 135 = .ok (.ldiv, 1) := by decide +kernel
theorem dX7_begins_136 : decode cX7_begins 136 = .ok (.lstore 13, 2) := by decide +kernel
theorem dX7_begins_138 : decode cX7_begins 138 = .ok (.lload 9, 2) := by decide +kernel
theorem dX7_begins_140 : decode cX7_begins 140 = .ok (.lload 5, 2) := by decide +kernel
theorem dX7_begins_142 : decode cX7_begins 142 = .ok (.lsub, 1) := by decide +kernel
theorem dX7_begins_143 : decode cX7_begins 143 = .ok (.iload 12, 2) := by decide +kernel
theorem dX7_begins_145 : decode cX7_begins 145 = .ok (.iload 11, 2) := by decide +kernel
theorem dX7_begins_147 : decode cX7_begins 147 = .ok (.isub, 1) := by decide +kernel
theorem dX7_begins_148 : decode cX7_begins 148 = .ok (.i2l, 1) := by decide +kernel
theorem dX7_begins_149 : decode cX7_begins 149 = .ok (.ldiv, 1) := by decide +kernel
theorem dX7_begins_150 : decode cX7_begins 150 = .ok (.lstore 15, 2) := by decide +kernel
theorem dX7_begins_152 : decode cX7_begins 152 = .ok (.lload_n 3, 1) := by decide +kernel
theorem dX7_begins_153 : decode cX7_begins 153 = .ok (.lload 5, 2) := by decide +kernel
theorem dX7_begins_155 : decode cX7_begins 155 = .ok (.invokestatic 141, 3) := by decide +kernel
theorem dX7_begins_158 : decode cX7_begins 158 = .ok (.ifCond .ne 7, 3) := by decide +kernel
theorem dX7_begins_161 : decode cX7_begins 161 = .ok (.iconst 1, 1) := by decide +kernel
theorem dX7_begins_162 : decode cX7_begins 162 = .ok (.goto 4, 3) := by decide +kernel
theorem dX7_begins_165 : decode cX7_begins 165 = .ok (.iconst 0, 1) := by decide +kernel
theorem dX7_begins_166 : decode cX7_begins 166 = .ok (.istore 17, 2) := by decide +kernel
theorem dX7_begins_168 : decode cX7_begins 168 = .ok (.iconst 0, 1) := by decide +kernel
theorem dX7_begins_169 : decode cX7_begins 169 = .ok (.istore 18, 2) := by decide +kernel
theorem dX7_begins_171 : decode cX7_begins 171 = .ok (.iload 18, 2) := by decide +kernel
theorem dX7_begins_173 : decode cX7_begins 173 = .ok (.iconst 3, 1) := by decide +kernel
theorem dX7_begins_174 : decode cX7_begins 174 = .ok (.if_icmp .ge 113, 3) := by decide +kernel
theorem dX7_begins_177 : decode cX7_begins 177 = .ok (.iload 17, 2) := by decide +kernel
theorem dX7_begins_179 : decode cX7_begins 179 = .ok (.ifCond .eq 108, 3) := by decide +kernel
theorem dX7_begins_182 : decode cX7_begins 182 = .ok (.aload_n 0, 1) := by decide +kernel
theorem dX7_begins_183 : decode cX7_begins 183 = .ok (.lload_n 3, 1) := by decide +kernel
theorem dX7_begins_184 : decode cX7_begins 184 = .ok (.putfield 79, 3) := by decide +kernel
theorem dX7_begins_187 : decode cX7_begins 187 = .ok (.aload_n 0, 1) := by decide +kernel
theorem dX7_begins_188 : decode cX7_begins 188 = .ok (.lload 5, 2) := by decide +kernel
theorem dX7_begins_190 : decode cX7_begins 190 = .ok (.putfield 83, 3) := by decide +kernel
theorem dX7_begins_193 : decode cX7_begins 193 = .ok (.aload_n 0, 1) := by decide +kernel
theorem dX7_begins_194 : decode cX7_begins 194 = .ok (.lload 13, 2) := by decide +kernel
theorem dX7_begins_196 : decode cX7_begins 196 = .ok (.putfield 86, 3) := by decide +kernel
theorem dX7_begins_199 : decode cX7_begins 199 = .ok (.aload_n 0, 1) := by decide +kernel
theorem dX7_begins_200 : decode cX7_begins 200 = .ok (.lload 15, 2) := by decide +kernel
theorem dX7_begins_202 : decode cX7_begins 202 = .ok (.putfield 89, 3) := by decide +kernel
theorem dX7_begins_205 : decode cX7_begins 205 = .ok (.iload 11, 2) := by decide +kernel
theorem dX7_begins_207 : decode cX7_begins 207 = .ok (.istore 19, 2) := by decide +kernel
theorem dX7_begins_209 : decode cX7_begins 209 = .ok (.iload 19, 2) := by decide +kernel
theorem dX7_begins_211 : decode cX7_begins 211 = .ok (.iload 12, 2) := by decide +kernel
theorem dX7_begins_213 : decode cX7_begins 213 = .ok (.if_icmp .ge 22, 3) := by decide +kernel
theorem dX7_begins_216 : decode cX7_begins 216 = .ok (.iload 17, 2) := by decide +kernel
theorem dX7_begins_218 : decode cX7_begins 218 = .ok (.ifCond .eq 17, 3) := by decide +kernel
theorem dX7_begins_221 : decode cX7_begins 221 = .ok (.aload_n 0, 1) := by decide +kernel
theorem dX7_begins_222 : decode cX7_begins 222 = .ok (.iload 19, 2) := by decide +kernel
theorem dX7_begins_224 : decode cX7_begins 224 = .ok (.invokevirtual 156, 3) := by decide +kernel
theorem dX7_begins_227 : decode cX7_begins 227 = .ok (.istore 17, 2) := by decide +kernel
theorem dX7_begins_229 : decode cX7_begins 229 = .ok (.iinc 19 1, 3) := by decide +kernel
theorem dX7_begins_232 : decode cX7_begins 232 = .ok (.goto (-23), 3) := by decide +kernel
theorem dX7_begins_235 : decode cX7_begins 235 = .ok (.iload 17, 2) := by decide +kernel
theorem dX7_begins_237 : decode cX7_begins 237 = .ok (.ifCond .ne 6, 3) := by decide +kernel
theorem dX7_begins_240 : decode cX7_begins 240 = .ok (.goto 41, 3) := by decide +kernel
theorem dX7_begins_243 : decode cX7_begins 243 = .ok (.lload 13, 2) := by decide +kernel
theorem dX7_begins_245 : decode cX7_begins 245 = .ok (.lload 7, 2) := by decide +kernel
theorem dX7_begins_247 : decode cX7_begins 247 = .ok (.aload_n 0, 1) := by decide +kernel
theorem dX7_begins_248 : decode cX7_begins 248 = .ok (.getfield 79, 3) := by decide +kernel
theorem dX7_begins_251 : decode cX7_begins 251 = .ok (.lsub, 1) := by decide +kernel
theorem dX7_begins_252 : decode cX7_begins 252 = .ok (.iload 12, 2) := by decide +kernel
theorem dX7_begins_254 : decode cX7_begins 254 = .ok (.iload 11, 2) := by decide +kernel
theorem dX7_begins_256 : decode cX7_begins 256 = .ok (.isub, 1) := by decide +kernel
theorem dX7_begins_257 : decode cX7_begins 257 = .ok (.i2l, 1) := by decide +kernel
theorem dX7_begins_258 : decode cX7_begins 258 = .ok (.ldiv, 1) := by decide +kernel
theorem dX7_begins_259 : decode cX7_begins 259 = .ok (.ladd, 1) := by decide +kernel
theorem dX7_begins_260 : decode cX7_begins 260 = .ok (.lstore 13, 2) := by decide +kernel
theorem dX7_begins_262 : decode cX7_begins 262 = .ok (.lload 15, 2) := by decide +kernel
theorem dX7_begins_264 : decode cX7_begins 264 = .ok (.lload 9, 2) := by decide +kernel
theorem dX7_begins_266 : decode cX7_begins 266 = .ok (.aload_n 0, 1) := by decide +kernel
theorem dX7_begins_267 : decode cX7_begins 267 = .ok (.getfield 83, 3) := by decide +kernel
theorem dX7_begins_270 : decode cX7_begins 270 = .ok (.lsub, 1) := by decide +kernel
theorem dX7_begins_271 : decode cX7_begins 271 = .ok (.iload 12, 2) := by decide +kernel
theorem dX7_begins_273 : decode cX7_begins 273 = .ok (.iload 11, 2) := by decide +kernel
theorem dX7_begins_275 : decode cX7_begins 275 = .ok (.isub, 1) := by decide +kernel
theorem dX7_begins_276 : decode cX7_begins 276 = .ok (.i2l, 1) := by decide +kernel
theorem dX7_begins_277 : decode cX7_begins 277 = .ok (.ldiv, 1) := by decide +kernel
theorem dX7_begins_278 : decode cX7_begins 278 = .ok (.ladd, 1) := by decide +kernel
theorem dX7_begins_279 : decode cX7_begins 279 = .ok (.lstore 15, 2) := by decide +kernel
theorem dX7_begins_281 : decode cX7_begins 281 = .ok (.iinc 18 1, 3) := by decide +kernel
theorem dX7_begins_284 : decode cX7_begins 284 = .ok (.goto (-113), 3) := by decide +kernel
theorem dX7_begins_287 : decode cX7_begins 287 = .ok (.aload_n 0, 1) := by decide +kernel
theorem dX7_begins_288 : decode cX7_begins 288 = .ok (.lload_n 3, 1) := by decide +kernel
theorem dX7_begins_289 : decode cX7_begins 289 = .ok (.putfield 79, 3) := by decide +kernel
theorem dX7_begins_292 : decode cX7_begins 292 = .ok (.aload_n 0, 1) := by decide +kernel
theorem dX7_begins_293 : decode cX7_begins 293 = .ok (.lload 5, 2) := by decide +kernel
theorem dX7_begins_295 : decode cX7_begins 295 = .ok (.putfield 83, 3) := by decide +kernel
theorem dX7_begins_298 : decode cX7_begins 298 = .ok (.aload_n 0, 1) := by decide +kernel
theorem dX7_begins_299 : decode cX7_begins 299 = .ok (.lload 13, 2) := by decide +kernel
theorem dX7_begins_301 : decode cX7_begins 301 = .ok (.putfield 86, 3) := by decide +kernel
theorem dX7_begins_304 : decode cX7_begins 304 = .ok (.aload_n 0, 1) := by decide +kernel
theorem dX7_begins_305 : decode cX7_begins 305 = .ok (.lload 15, 2) := by decide +kernel
theorem dX7_begins_307 : decode cX7_begins 307 = .ok (.putfield 89, 3) := by decide +kernel
theorem dX7_begins_310 : decode cX7_begins 310 = .ok (.return_, 1) := by decide +kernel
theorem dX7_stores_0 : decode cX7_stores 0 = .ok (.sipush 601, 3) := by decide +kernel
theorem dX7_stores_3 : decode cX7_stores 3 = .ok (.iload_n 1, 1) := by decide +kernel
theorem dX7_stores_4 : decode cX7_stores 4 = .ok (.imul, 1) := by decide +kernel
theorem dX7_stores_5 : decode cX7_stores 5 = .ok (.iload_n 2, 1) := by decide +kernel
theorem dX7_stores_6 : decode cX7_stores 6 = .ok (.iadd, 1) := by decide +kernel
theorem dX7_stores_7 : decode cX7_stores 7 = .ok (.sipush 300, 3) := by decide +kernel
theorem dX7_stores_10 : decode cX7_stores 10 = .ok (.iadd, 1) := by decide +kernel
theorem dX7_stores_11 : decode cX7_stores 11 = .ok (.istore_n 3, 1) := by decide +kernel
theorem dX7_stores_12 : decode cX7_stores 12 = .ok (.aload_n 0, 1) := by decide +kernel
theorem dX7_stores_13 : decode cX7_stores 13 = .ok (.getfield 63, 3) := by decide +kernel
theorem dX7_stores_16 : decode cX7_stores 16 = .ok (.iload_n 3, 1) := by decide +kernel
theorem dX7_stores_17 : decode cX7_stores 17 = .ok (.aload_n 0, 1) := by decide +kernel
theorem dX7_stores_18 : decode cX7_stores 18 = .ok (.getfield 79, 3) := by decide +kernel
theorem dX7_stores_21 : decode cX7_stores 21 = .ok (.lastore, 1) := by decide +kernel
theorem dX7_stores_22 : decode cX7_stores 22 = .ok (.aload_n 0, 1) := by decide +kernel
theorem dX7_stores_23 : decode cX7_stores 23 = .ok (.getfield 67, 3) := by decide +kernel
theorem dX7_stores_26 : decode cX7_stores 26 = .ok (.iload_n 3, 1) := by decide +kernel
theorem dX7_stores_27 : decode cX7_stores 27 = .ok (.aload_n 0, 1) := by decide +kernel
theorem dX7_stores_28 : decode cX7_stores 28 = .ok (.getfield 83, 3) := by decide +kernel
theorem dX7_stores_31 : decode cX7_stores 31 = .ok (.lastore, 1) := by decide +kernel
theorem dX7_stores_32 : decode cX7_stores 32 = .ok (.aload_n 0, 1) := by decide +kernel
theorem dX7_stores_33 : decode cX7_stores 33 = .ok (.getfield 70, 3) := by decide +kernel
theorem dX7_stores_36 : decode cX7_stores 36 = .ok (.iload_n 3, 1) := by decide +kernel
theorem dX7_stores_37 : decode cX7_stores 37 = .ok (.aload_n 0, 1) := by decide +kernel
theorem dX7_stores_38 : decode cX7_stores 38 = .ok (.getfield 86, 3) := by decide +kernel
theorem dX7_stores_41 : decode cX7_stores 41 = .ok (.lastore, 1) := by decide +kernel
theorem dX7_stores_42 : decode cX7_stores 42 = .ok (.aload_n 0, 1) := by decide +kernel
theorem dX7_stores_43 : decode cX7_stores 43 = .ok (.getfield 73, 3) := by decide +kernel
theorem dX7_stores_46 : decode cX7_stores 46 = .ok (.iload_n 3, 1) := by decide +kernel
theorem dX7_stores_47 : decode cX7_stores 47 = .ok (.aload_n 0, 1) := by decide +kernel
theorem dX7_stores_48 : decode cX7_stores 48 = .ok (.getfield 89, 3) := by decide +kernel
theorem dX7_stores_51 : decode cX7_stores 51 = .ok (.lastore, 1) := by decide +kernel
theorem dX7_stores_52 : decode cX7_stores 52 = .ok (.return_, 1) := by decide +kernel
theorem dX7_follows_0 : decode cX7_follows 0 = .ok (.aload_n 0, 1) := by decide +kernel
theorem dX7_follows_1 : decode cX7_follows 1 = .ok (.getfield 79, 3) := by decide +kernel
theorem dX7_follows_4 : decode cX7_follows 4 = .ok (.lstore_n 3, 1) := by decide +kernel
theorem dX7_follows_5 : decode cX7_follows 5 = .ok (.aload_n 0, 1) := by decide +kernel
theorem dX7_follows_6 : decode cX7_follows 6 = .ok (.getfield 83, 3) := by decide +kernel
theorem dX7_follows_9 : decode cX7_follows 9 = .ok (.lstore 5, 2) := by decide +kernel
theorem dX7_follows_11 : decode cX7_follows 11 = .ok (.aload_n 0, 1) := by decide +kernel
theorem dX7_follows_12 : decode cX7_follows 12 = .ok (.getfield 86, 3) := by decide +kernel
theorem dX7_follows_15 : decode cX7_follows 15 = .ok (.lstore 7, 2) := by decide +kernel
theorem dX7_follows_17 : decode cX7_follows 17 = .ok (.aload_n 0, 1) := by decide +kernel
theorem dX7_follows_18 : decode cX7_follows 18 = .ok (.getfield 89, 3) := by decide +kernel
theorem dX7_follows_21 : decode cX7_follows 21 = .ok (.lstore 9, 2) := by decide +kernel
theorem dX7_follows_23 : decode cX7_follows 23 = .ok (.aload_n 0, 1) := by decide +kernel
theorem dX7_follows_24 : decode cX7_follows 24 = .ok (.getfield 59, 3) := by decide +kernel
theorem dX7_follows_27 : decode cX7_follows 27 = .ok (.iconst 2, 1) := by decide +kernel
theorem dX7_follows_28 : decode cX7_follows 28 = .ok (.iload_n 1, 1) := by decide +kernel
theorem dX7_follows_29 : decode cX7_follows 29 = .ok (.imul, 1) := by decide +kernel
theorem dX7_follows_30 : decode cX7_follows 30 = .ok (.iload_n 2, 1) := by decide +kernel
theorem dX7_follows_31 : decode cX7_follows 31 = .ok (.iconst 1, 1) := by decide +kernel
theorem dX7_follows_32 : decode cX7_follows 32 = .ok (.iadd, 1) := by decide +kernel
theorem dX7_follows_33 : decode cX7_follows 33 = .ok (.iastore, 1) := by decide +kernel
theorem dX7_follows_34 : decode cX7_follows 34 = .ok (.aload_n 0, 1) := by decide +kernel
theorem dX7_follows_35 : decode cX7_follows 35 = .ok (.getfield 59, 3) := by decide +kernel
theorem dX7_follows_38 : decode cX7_follows 38 = .ok (.iconst 2, 1) := by decide +kernel
theorem dX7_follows_39 : decode cX7_follows 39 = .ok (.iload_n 1, 1) := by decide +kernel
theorem dX7_follows_40 : decode cX7_follows 40 = .ok (.imul, 1) := by decide +kernel
theorem dX7_follows_41 : decode cX7_follows 41 = .ok (.iconst 1, 1) := by decide +kernel
theorem dX7_follows_42 : decode cX7_follows 42 = .ok (.iadd, 1) := by decide +kernel
theorem dX7_follows_43 : decode cX7_follows 43 = .ok (.iload_n 2, 1) := by decide +kernel
theorem dX7_follows_44 : decode cX7_follows 44 = .ok (.iastore, 1) := by decide +kernel
theorem dX7_follows_45 : decode cX7_follows 45 = .ok (.lload_n 3, 1) := by decide +kernel
theorem dX7_follows_46 : decode cX7_follows 46 = .ok (.lload 5, 2) := by decide +kernel
theorem dX7_follows_48 : decode cX7_follows 48 = .ok (.invokestatic 141, 3) := by decide +kernel
theorem dX7_follows_51 : decode cX7_follows 51 = .ok (.ifCond .eq 4, 3) := by decide +kernel
theorem dX7_follows_54 : decode cX7_follows 54 = .ok (.return_, 1) := by decide +kernel
theorem dX7_follows_55 : decode cX7_follows 55 = .ok (.aload_n 0, 1) := by decide +kernel
theorem dX7_follows_56 : decode cX7_follows 56 = .ok (.getfield 59, 3) := by decide +kernel
theorem dX7_follows_59 : decode cX7_follows 59 = .ok (.iconst 2, 1) := by decide +kernel
theorem dX7_follows_60 : decode cX7_follows 60 = .ok (.iload_n 1, 1) := by decide +kernel
theorem dX7_follows_61 : decode cX7_follows 61 = .ok (.imul, 1) := by decide +kernel
theorem dX7_follows_62 : decode cX7_follows 62 = .ok (.iload_n 2, 1) := by decide +kernel
theorem dX7_follows_63 : decode cX7_follows 63 = .ok (.iastore, 1) := by decide +kernel
theorem dX7_follows_64 : decode cX7_follows 64 = .ok (.aload_n 0, 1) := by decide +kernel
theorem dX7_follows_65 : decode cX7_follows 65 = .ok (.iload_n 1, 1) := by decide +kernel
theorem dX7_follows_66 : decode cX7_follows 66 = .ok (.iload_n 2, 1) := by decide +kernel
theorem dX7_follows_67 : decode cX7_follows 67 = .ok (.invokevirtual 159, 3) := by decide +kernel
theorem dX7_follows_70 : decode cX7_follows 70 = .ok (.iconst 1, 1) := by decide +kernel
theorem dX7_follows_71 : decode cX7_follows 71 = .ok (.istore 11, 2) := by decide +kernel
theorem dX7_follows_73 : decode cX7_follows 73 = .ok (.iload_n 2, 1) := by decide +kernel
theorem dX7_follows_74 : decode cX7_follows 74 = .ok (.istore 12, 2) := by decide +kernel
theorem dX7_follows_76 : decode cX7_follows 76 = .ok (.iload 12, 2) := by decide +kernel
theorem dX7_follows_78 : decode cX7_follows 78 = .ok (.sipush 300, 3) := by decide +kernel
theorem dX7_follows_81 : decode cX7_follows 81 = .ok (.if_icmp .ge 53, 3) := by decide +kernel
theorem dX7_follows_84 : decode cX7_follows 84 = .ok (.iload 11, 2) := by decide +kernel
theorem dX7_follows_86 : decode cX7_follows 86 = .ok (.ifCond .eq 48, 3) := by decide +kernel
theorem dX7_follows_89 : decode cX7_follows 89 = .ok (.aload_n 0, 1) := by decide +kernel
theorem dX7_follows_90 : decode cX7_follows 90 = .ok (.iload 12, 2) := by decide +kernel
theorem dX7_follows_92 : decode cX7_follows 92 = .ok (.invokevirtual 156, 3) := by decide +kernel
theorem dX7_follows_95 : decode cX7_follows 95 = .ok (.istore 11, 2) := by decide +kernel
theorem dX7_follows_97 : decode cX7_follows 97 = .ok (.iload 11, 2) := by decide +kernel
theorem dX7_follows_99 : decode cX7_follows 99 = .ok (.ifCond .ne 6, 3) := by decide +kernel
theorem dX7_follows_102 : decode cX7_follows 102 = .ok (.goto 26, 3) := by decide +kernel
theorem dX7_follows_105 : decode cX7_follows 105 = .ok (.aload_n 0, 1) := by decide +kernel
theorem dX7_follows_106 : decode cX7_follows 106 = .ok (.iload_n 1, 1) := by decide +kernel
theorem dX7_follows_107 : decode cX7_follows 107 = .ok (.iload 12, 2) := by decide +kernel
theorem dX7_follows_109 : decode cX7_follows 109 = .ok (.iconst 1, 1) := by decide +kernel
theorem dX7_follows_110 : decode cX7_follows 110 = .ok (.iadd, 1) := by decide +kernel
theorem dX7_follows_111 : decode cX7_follows 111 = .ok (.invokevirtual 159, 3) := by decide +kernel
theorem dX7_follows_114 : decode cX7_follows 114 = .ok (.aload_n 0, 1) := by decide +kernel
theorem dX7_follows_115 : decode cX7_follows 115 = .ok (.getfield 59, 3) := by decide +kernel
theorem dX7_follows_118 : decode cX7_follows 118 = .ok (.iconst 2, 1) := by decide +kernel
theorem dX7_follows_119 : decode cX7_follows 119 = .ok (.iload_n 1, 1) := by decide +kernel
theorem dX7_follows_120 : decode cX7_follows 120 = .ok (.imul, 1) := by decide +kernel
theorem dX7_follows_121 : decode cX7_follows 121 = .ok (.iconst 1, 1) := by decide +kernel
theorem dX7_follows_122 : decode cX7_follows 122 = .ok (.iadd, 1) := by decide +kernel
theorem dX7_follows_123 : decode cX7_follows 123 = .ok (.iload 12, 2) := by decide +kernel
theorem dX7_follows_125 : decode cX7_follows 125 = .ok (.iconst 1, 1) := by decide +kernel
theorem dX7_follows_126 : decode cX7_follows 126 = .ok (.iadd, 1) := by decide +kernel
theorem dX7_follows_127 : decode cX7_follows 127 = .ok (.iastore, 1) := by decide +kernel
theorem dX7_follows_128 : decode cX7_follows 128 = .ok (.iinc 12 1, 3) := by decide +kernel
theorem dX7_follows_131 : decode cX7_follows 131 = .ok (.goto (-55), 3) := by decide +kernel
theorem dX7_follows_134 : decode cX7_follows 134 = .ok (.aload_n 0, 1) := by decide +kernel
theorem dX7_follows_135 : decode cX7_follows 135 = .ok (.lload_n 3, 1) := by decide +kernel
theorem dX7_follows_136 : decode cX7_follows 136 = .ok (.putfield 79, 3) := by decide +kernel
theorem dX7_follows_139 : decode cX7_follows 139 = .ok (.aload_n 0, 1) := by decide +kernel
theorem dX7_follows_140 : decode cX7_follows 140 = .ok (.lload 5, 2) := by decide +kernel
theorem dX7_follows_142 : decode cX7_follows 142 = .ok (.putfield 83, 3) := by decide +kernel
theorem dX7_follows_145 : decode cX7_follows 145 = .ok (.aload_n 0, 1) := by decide +kernel
theorem dX7_follows_146 : decode cX7_follows 146 = .ok (.lload 7, 2) := by decide +kernel
theorem dX7_follows_148 : decode cX7_follows 148 = .ok (.putfield 86, 3) := by decide +kernel
theorem dX7_follows_151 : decode cX7_follows 151 = .ok (.aload_n 0, 1) := by decide +kernel
theorem dX7_follows_152 : decode cX7_follows 152 = .ok (.lload 9, 2) := by decide +kernel
theorem dX7_follows_154 : decode cX7_follows 154 = .ok (.putfield 89, 3) := by decide +kernel
theorem dX7_follows_157 : decode cX7_follows 157 = .ok (.iconst 1, 1) := by decide +kernel
theorem dX7_follows_158 : decode cX7_follows 158 = .ok (.istore 11, 2) := by decide +kernel
theorem dX7_follows_160 : decode cX7_follows 160 = .ok (.iload_n 2, 1) := by decide +kernel
theorem dX7_follows_161 : decode cX7_follows 161 = .ok (.istore 12, 2) := by decide +kernel
theorem dX7_follows_163 : decode cX7_follows 163 = .ok (.iload 12, 2) := by decide +kernel
theorem dX7_follows_165 : decode cX7_follows 165 = .ok (.sipush (-300), 3) := by decide +kernel
theorem dX7_follows_168 : decode cX7_follows 168 = .ok (.if_icmp .le 51, 3) := by decide +kernel
theorem dX7_follows_171 : decode cX7_follows 171 = .ok (.iload 11, 2) := by decide +kernel
theorem dX7_follows_173 : decode cX7_follows 173 = .ok (.ifCond .eq 46, 3) := by decide +kernel
theorem dX7_follows_176 : decode cX7_follows 176 = .ok (.aload_n 0, 1) := by decide +kernel
theorem dX7_follows_177 : decode cX7_follows 177 = .ok (.iload 12, 2) := by decide +kernel
theorem dX7_follows_179 : decode cX7_follows 179 = .ok (.invokevirtual 162, 3) := by decide +kernel
theorem dX7_follows_182 : decode cX7_follows 182 = .ok (.istore 11, 2) := by decide +kernel
theorem dX7_follows_184 : decode cX7_follows 184 = .ok (.iload 11, 2) := by decide +kernel
theorem dX7_follows_186 : decode cX7_follows 186 = .ok (.ifCond .ne 6, 3) := by decide +kernel
theorem dX7_follows_189 : decode cX7_follows 189 = .ok (.goto 24, 3) := by decide +kernel
theorem dX7_follows_192 : decode cX7_follows 192 = .ok (.aload_n 0, 1) := by decide +kernel
theorem dX7_follows_193 : decode cX7_follows 193 = .ok (.iload_n 1, 1) := by decide +kernel
theorem dX7_follows_194 : decode cX7_follows 194 = .ok (.iload 12, 2) := by decide +kernel
theorem dX7_follows_196 : decode cX7_follows 196 = .ok (.iconst 1, 1) := by decide +kernel
theorem dX7_follows_197 : decode cX7_follows 197 = .ok (.isub, 1) := by decide +kernel
theorem dX7_follows_198 : decode cX7_follows 198 = .ok (.invokevirtual 159, 3) := by decide +kernel
theorem dX7_follows_201 : decode cX7_follows 201 = .ok (.aload_n 0, 1) := by decide +kernel
theorem dX7_follows_202 : decode cX7_follows 202 = .ok (.getfield 59, 3) := by decide +kernel
theorem dX7_follows_205 : decode cX7_follows 205 = .ok (.iconst 2, 1) := by decide +kernel
theorem dX7_follows_206 : decode cX7_follows 206 = .ok (.iload_n 1, 1) := by decide +kernel
theorem dX7_follows_207 : decode cX7_follows 207 = .ok (.imul, 1) := by decide +kernel
theorem dX7_follows_208 : decode cX7_follows 208 = .ok (.iload 12, 2) := by decide +kernel
theorem dX7_follows_210 : decode cX7_follows 210 = .ok (.iconst 1, 1) := by decide +kernel
theorem dX7_follows_211 : decode cX7_follows 211 = .ok (.isub, 1) := by decide +kernel
theorem dX7_follows_212 : decode cX7_follows 212 = .ok (.iastore, 1) := by decide +kernel
theorem dX7_follows_213 : decode cX7_follows 213 = .ok (.iinc 12 (-1), 3) := by decide +kernel
theorem dX7_follows_216 : decode cX7_follows 216 = .ok (.goto (-53), 3) := by decide +kernel
theorem dX7_follows_219 : decode cX7_follows 219 = .ok (.return_, 1) := by decide +kernel
theorem dX7_isThere_0 : decode cX7_isThere 0 = .ok (.iload_n 2, 1) := by decide +kernel
theorem dX7_isThere_1 : decode cX7_isThere 1 = .ok (.aload_n 0, 1) := by decide +kernel

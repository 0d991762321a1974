theorem dX11_doubt_108 : decode cX11_doubt 108 = .ok (.goto (-71), 3) := by decide +kernel
theorem dX11_doubt_111 : decode cX11_doubt 111 = .ok (.iload_n 2, 1) := by decide +kernel
theorem dX11_doubt_112 : decode cX11_doubt 112 = .ok (.ireturn, 1) := by decide +kernel
theorem dX11_wisest_0 : decode cX11_wisest 0 = .ok (.iload_n 1, 1) := by decide +kernel
theorem dX11_wisest_1 : decode cX11_wisest 1 = .ok (.i2l, 1) := by decide +kernel
theorem dX11_wisest_2 : decode cX11_wisest 2 = .ok (.lconst 0, 1) := by decide +kernel
theorem dX11_wisest_3 : decode cX11_wisest 3 = .ok (.ldc2_w 147, 3) := by decide +kernel
theorem dX11_wisest_6 : decode cX11_wisest 6 = .ok (.invokestatic 46, 3) := by decide +kernel
theorem dX11_wisest_9 : decode cX11_wisest 9 = .ok (.ifCond .ne 10, 3) := by decide +kernel
theorem dX11_wisest_12 : decode cX11_wisest 12 = .ok (.aload_n 0, 1) := by decide +kernel
theorem dX11_wisest_13 : decode cX11_wisest 13 = .ok (.ldc 38, 2) := by decide +kernel
theorem dX11_wisest_15 : decode cX11_wisest 15 = .ok (.invokevirtual 40, 3) := by decide +kernel
theorem dX11_wisest_18 : decode cX11_wisest 18 = .ok (.ireturn, 1) := by decide +kernel
theorem dX11_wisest_19 : decode cX11_wisest 19 = .ok (.aload_n 0, 1) := by decide +kernel
theorem dX11_wisest_20 : decode cX11_wisest 20 = .ok (.getfield 7, 3) := by decide +kernel
theorem dX11_wisest_23 : decode cX11_wisest 23 = .ok (.aload_n 0, 1) := by decide +kernel
theorem dX11_wisest_24 : decode cX11_wisest 24 = .ok (.getfield 19, 3) := by decide +kernel
theorem dX11_wisest_27 : decode cX11_wisest 27 = .ok (.invokestatic 151, 3) := by decide +kernel
theorem dX11_wisest_30 : decode cX11_wisest 30 = .ok (.aload_n 0, 1) := by decide +kernel
theorem dX11_wisest_31 : decode cX11_wisest 31 = .ok (.iload_n 1, 1) := by decide +kernel
theorem dX11_wisest_32 : decode cX11_wisest 32 = .ok (.invokevirtual 137, 3) := by decide +kernel
theorem dX11_wisest_35 : decode cX11_wisest 35 = .ok (.iconst (-1), 1) := by decide +kernel
theorem dX11_wisest_36 : decode cX11_wisest 36 = .ok (.istore_n 2, 1) := by decide +kernel
theorem dX11_wisest_37 : decode cX11_wisest 37 = .ok (.iconst 0, 1) := by decide +kernel
theorem dX11_wisest_38 : decode cX11_wisest 38 = .ok (.istore_n 3, 1) := by decide +kernel
theorem dX11_wisest_39 : decode cX11_wisest 39 = .ok (.iload_n 3, 1) := by decide +kernel
theorem dX11_wisest_40 : decode cX11_wisest 40 = .ok (.aload_n 0, 1) := by decide +kernel
theorem dX11_wisest_41 : decode cX11_wisest 41 = .ok (.getfield 7, 3) := by decide +kernel
theorem dX11_wisest_44 : decode cX11_wisest 44 = .ok (.iconst 0, 1) := by decide +kernel
theorem dX11_wisest_45 : decode cX11_wisest 45 = .ok (.iaload, 1) := by decide +kernel
theorem dX11_wisest_46 : decode cX11_wisest 46 = .ok (.if_icmp .ge 40, 3) := by decide +kernel
theorem dX11_wisest_49 : decode cX11_wisest 49 = .ok (.iload_n 2, 1) := by decide +kernel
theorem dX11_wisest_50 : decode cX11_wisest 50 = .ok (.ifCond .lt 24, 3) := by decide +kernel
theorem dX11_wisest_53 : decode cX11_wisest 53 = .ok (.aload_n 0, 1) := by decide +kernel
theorem dX11_wisest_54 : decode cX11_wisest 54 = .ok (.iload_n 3, 1) := by decide +kernel
theorem dX11_wisest_55 : decode cX11_wisest 55 = .ok (.iconst 1, 1) := by decide +kernel
theorem dX11_wisest_56 : decode cX11_wisest 56 = .ok (.invokevirtual 58, 3) := by decide +kernel
theorem dX11_wisest_59 : decode cX11_wisest 59 = .ok (.invokestatic 80, 3) := by decide +kernel
theorem dX11_wisest_62 : decode cX11_wisest 62 = .ok (.aload_n 0, 1) := by decide +kernel
theorem dX11_wisest_63 : decode cX11_wisest 63 = .ok (.iload_n 2, 1) := by decide +kernel
theorem dX11_wisest_64 : decode cX11_wisest 64 = .ok (.iconst 1, 1) := by decide +kernel
theorem dX11_wisest_65 : decode cX11_wisest 65 = .ok (.invokevirtual 58, 3) := by decide +kernel
theorem dX11_wisest_68 : decode cX11_wisest 68 = .ok (.invokestatic 80, 3) := by decide +kernel
theorem dX11_wisest_71 : decode cX11_wisest 71 = .ok (.if_icmp .le 7, 3) := by decide +kernel
theorem dX11_wisest_74 : decode cX11_wisest 74 = .ok (.iload_n 3, 1) := by decide +kernel
theorem dX11_wisest_75 : decode cX11_wisest 75 = .ok (.goto 4, 3) := by decide +kernel
theorem dX11_wisest_78 : decode cX11_wisest 78 = .ok (.iload_n 2, 1) := by decide +kernel
theorem dX11_wisest_79 : decode cX11_wisest 79 = .ok (.istore_n 2, 1) := by decide +kernel
theorem dX11_wisest_80 : decode cX11_wisest 80 = .ok (.iinc 3 1, 3) := by decide +kernel
theorem dX11_wisest_83 : decode cX11_wisest 83 = .ok (.goto (-44), 3) := by decide +kernel
theorem dX11_wisest_86 : decode cX11_wisest 86 = .ok (.aload_n 0, 1) := by decide +kernel
theorem dX11_wisest_87 : decode cX11_wisest 87 = .ok (.getfield 19, 3) := by decide +kernel
theorem dX11_wisest_90 : decode cX11_wisest 90 = .ok (.aload_n 0, 1) := by decide +kernel
theorem dX11_wisest_91 : decode cX11_wisest 91 = .ok (.getfield 7, 3) := by decide +kernel
theorem dX11_wisest_94 : decode cX11_wisest 94 = .ok (.invokestatic 151, 3) := by decide +kernel
theorem dX11_wisest_97 : decode cX11_wisest 97 = .ok (.aload_n 0, 1) := by decide +kernel
theorem dX11_wisest_98 : decode cX11_wisest 98 = .ok (.iload_n 2, 1) := by decide +kernel
theorem dX11_wisest_99 : decode cX11_wisest 99 = .ok (.invokevirtual 160, 3) := by decide +kernel
theorem dX11_wisest_102 : decode cX11_wisest 102 = .ok (.ireturn, 1) := by decide +kernel
theorem dX11_feed_0 : decode cX11_feed 0 = .ok (.iload_n 2, 1) := by decide +kernel
theorem dX11_feed_1 : decode cX11_feed 1 = .ok (.i2l, 1) := by decide +kernel
theorem dX11_feed_2 : decode cX11_feed 2 = .ok (.lconst 1, 1) := by decide +kernel
theorem dX11_feed_3 : decode cX11_feed 3 = .ok (.ldc2_w 171, 3) := by decide +kernel
theorem dX11_feed_6 : decode cX11_feed 6 = .ok (.invokestatic 46, 3) := by decide +kernel
theorem dX11_feed_9 : decode cX11_feed 9 = .ok (.ifCond .ne 10, 3) := by decide +kernel
theorem dX11_feed_12 : decode cX11_feed 12 = .ok (.aload_n 0, 1) := by decide +kernel
theorem dX11_feed_13 : decode cX11_feed 13 = .ok (.ldc 38, 2) := by decide +kernel
theorem dX11_feed_15 : decode cX11_feed 15 = .ok (.invokevirtual 40, 3) := by decide +kernel
theorem dX11_feed_18 : decode cX11_feed 18 = .ok (.ireturn, 1) := by decide +kernel
theorem dX11_feed_19 : decode cX11_feed 19 = .ok (.aload_n 0, 1) := by decide +kernel
theorem dX11_feed_20 : decode cX11_feed 20 = .ok (.getfield 173, 3) := by decide +kernel
theorem dX11_feed_23 : decode cX11_feed 23 = .ok (.iload_n 2, 1) := by decide +kernel
theorem dX11_feed_24 : decode cX11_feed 24 = .ok (.iadd, 1) := by decide +kernel
theorem dX11_feed_25 : decode cX11_feed 25 = .ok (.bipush 120, 2) := by decide +kernel
theorem dX11_feed_27 : decode cX11_feed 27 = .ok (.if_icmp .le 10, 3) := by decide +kernel
theorem dX11_feed_30 : decode cX11_feed 30 = .ok (.aload_n 0, 1) := by decide +kernel
theorem dX11_feed_31 : decode cX11_feed 31 = .ok (.ldc 66, 2) := by decide +kernel
theorem dX11_feed_33 : decode cX11_feed 33 = .ok (.invokevirtual 40, 3) := by decide +kernel
theorem dX11_feed_36 : decode cX11_feed 36 = .ok (.ireturn, 1) := by decide +kernel
theorem dX11_feed_37 : decode cX11_feed 37 = .ok (.iload_n 2, 1) := by decide +kernel
theorem dX11_feed_38 : decode cX11_feed 38 = .ok (.iconst 1, 1) := by decide +kernel
theorem dX11_feed_39 : decode cX11_feed 39 = .ok (.isub, 1) := by decide +kernel
theorem dX11_feed_40 : decode cX11_feed 40 = .ok (.istore_n 3, 1) := by decide +kernel
theorem dX11_feed_41 : decode cX11_feed 41 = .ok (.iload_n 3, 1) := by decide +kernel
theorem dX11_feed_42 : decode cX11_feed 42 = .ok (.ifCond .lt 38, 3) := by decide +kernel
theorem dX11_feed_45 : decode cX11_feed 45 = .ok (.aload_n 0, 1) := by decide +kernel
theorem dX11_feed_46 : decode cX11_feed 46 = .ok (.getfield 25, 3) := by decide +kernel
theorem dX11_feed_49 : decode cX11_feed 49 = .ok (.aload_n 0, 1) := by decide +kernel
theorem dX11_feed_50 : decode cX11_feed 50 = .ok (.getfield 173, 3) := by decide +kernel
theorem dX11_feed_53 : decode cX11_feed 53 = .ok (.iload_n 1, 1) := by decide +kernel
theorem dX11_feed_54 : decode cX11_feed 54 = .ok (.bipush 8, 2) := by decide +kernel
theorem dX11_feed_56 : decode cX11_feed 56 = .ok (.iload_n 3, 1) := by decide +kernel
theorem dX11_feed_57 : decode cX11_feed 57 = .ok (.imul, 1) := by decide +kernel
theorem dX11_feed_58 : decode cX11_feed 58 = .ok (.ishr, 1) := by decide +kernel
theorem dX11_feed_59 : decode cX11_feed 59 = .ok (.sipush 255, 3) := by decide +kernel
theorem dX11_feed_62 : decode cX11_feed 62 = .ok (.iand, 1) := by decide +kernel
theorem dX11_feed_63 : decode cX11_feed 63 = .ok (.iastore, 1) := by decide +kernel
theorem dX11_feed_64 : decode cX11_feed 64 = .ok (.aload_n 0, 1) := by decide +kernel
theorem dX11_feed_65 : decode cX11_feed 65 = .ok (.dup, 1) := by decide +kernel
theorem dX11_feed_66 : decode cX11_feed 66 = .ok (.getfield 173, 3) := by decide +kernel
theorem dX11_feed_69 : decode cX11_feed 69 = .ok (.iconst 1, 1) := by decide +kernel
theorem dX11_feed_70 : decode cX11_feed 70 = .ok (.iadd, 1) := by decide +kernel
theorem dX11_feed_71 : decode cX11_feed 71 = .ok (.putfield 173, 3) := by decide +kernel
theorem dX11_feed_74 : decode cX11_feed 74 = .ok (.iinc 3 (-1), 3) := by decide +kernel
theorem dX11_feed_77 : decode cX11_feed 77 = .ok (.goto (-36), 3) := by decide +kernel
theorem dX11_feed_80 : decode cX11_feed 80 = .ok (.aload_n 0, 1) := by decide +kernel
theorem dX11_feed_81 : decode cX11_feed 81 = .ok (.getfield 173, 3) := by decide +kernel
theorem dX11_feed_84 : decode cX11_feed 84 = .ok (.ireturn, 1) := by decide +kernel
theorem dX11_wipe_0 : decode cX11_wipe 0 = .ok (.aload_n 0, 1) := by decide +kernel
theorem dX11_wipe_1 : decode cX11_wipe 1 = .ok (.getfield 173, 3) := by decide +kernel
theorem dX11_wipe_4 : decode cX11_wipe 4 = .ok (.istore_n 1, 1) := by decide +kernel
theorem dX11_wipe_5 : decode cX11_wipe 5 = .ok (.aload_n 0, 1) := by decide +kernel
theorem dX11_wipe_6 : decode cX11_wipe 6 = .ok (.iconst 0, 1) := by decide +kernel
theorem dX11_wipe_7 : decode cX11_wipe 7 = .ok (.putfield 173, 3) := by decide +kernel
theorem dX11_wipe_10 : decode cX11_wipe 10 = .ok (.iload_n 1, 1) := by decide +kernel
theorem dX11_wipe_11 : decode cX11_wipe 11 = .ok (.ireturn, 1) := by decide +kernel
theorem dX11_isLetter_0 : decode cX11_isLetter 0 = .ok (.iload_n 0, 1) := by decide +kernel
theorem dX11_isLetter_1 : decode cX11_isLetter 1 = .ok (.bipush 97, 2) := by decide +kernel
theorem dX11_isLetter_3 : decode cX11_isLetter 3 = .ok (.if_icmp .lt 13, 3) := by decide +kernel
theorem dX11_isLetter_6 : decode cX11_isLetter 6 = .ok (.iload_n 0, 1) := by decide +kernel
theorem dX11_isLetter_7 : decode cX11_isLetter 7 = .ok (.bipush 122, 2) := by decide +kernel
theorem dX11_isLetter_9 : decode cX11_isLetter 9 = .ok (.if_icmp .gt 7, 3) := by decide +kernel
theorem dX11_isLetter_12 : decode cX11_isLetter 12 = .ok (.iconst 1, 1) := by decide +kernel
theorem dX11_isLetter_13 : decode cX11_isLetter 13 = .ok (.goto 4, 3) := by decide +kernel
theorem dX11_isLetter_16 : decode cX11_isLetter 16 = .ok (.iconst 0, 1) := by decide +kernel
theorem dX11_isLetter_17 : decode cX11_isLetter 17 = .ok (.ireturn, 1) := by decide +kernel
theorem dX11_isDigit_0 : decode cX11_isDigit 0 = .ok (.iload_n 0, 1) := by decide +kernel
theorem dX11_isDigit_1 : decode cX11_isDigit 1 = .ok (.bipush 48, 2) := by decide +kernel
theorem dX11_isDigit_3 : decode cX11_isDigit 3 = .ok (.if_icmp .lt 13, 3) := by decide +kernel
theorem dX11_isDigit_6 : decode cX11_isDigit 6 = .ok (.iload_n 0, 1) := by decide +kernel
theorem dX11_isDigit_7 : decode cX11_isDigit 7 = .ok (.bipush 57, 2) := by decide +kernel
theorem dX11_isDigit_9 : decode cX11_isDigit 9 = .ok (.if_icmp .gt 7, 3) := by decide +kernel
theorem dX11_isDigit_12 : decode cX11_isDigit 12 = .ok (.iconst 1, 1) := by decide +kernel
theorem dX11_isDigit_13 : decode cX11_isDigit 13 = .ok (.goto 4, 3) := by decide +kernel
theorem dX11_isDigit_16 : decode cX11_isDigit 16 = .ok (.iconst 0, 1) := by decide +kernel
theorem dX11_isDigit_17 : decode cX11_isDigit 17 = .ok (.ireturn, 1) := by decide +kernel
theorem dX11_byteAt_0 : decode cX11_byteAt 0 = .ok (.iload_n 1, 1) := by decide +kernel
theorem dX11_byteAt_1 : decode cX11_byteAt 1 = .ok (.aload_n 0, 1) := by decide +kernel
theorem dX11_byteAt_2 : decode cX11_byteAt 2 = .ok (.getfield 173, 3) := by decide +kernel
theorem dX11_byteAt_5 : decode cX11_byteAt 5 = .ok (.if_icmp .ge 12, 3) := by decide +kernel
theorem dX11_byteAt_8 : decode cX11_byteAt 8 = .ok (.aload_n 0, 1) := by decide +kernel
theorem dX11_byteAt_9 : decode cX11_byteAt 9 = .ok (.getfield 25, 3) := by decide +kernel
theorem dX11_byteAt_12 : decode cX11_byteAt 12 = .ok (.iload_n 1, 1) := by decide +kernel
theorem dX11_byteAt_13 : decode cX11_byteAt 13 = .ok (.iaload, 1) := by decide +kernel
theorem dX11_byteAt_14 : decode cX11_byteAt 14 = .ok (.goto 4, 3) := by decide +kernel
theorem dX11_byteAt_17 : decode cX11_byteAt 17 = .ok (.iconst (-1), 1) := by decide +kernel
theorem dX11_byteAt_18 : decode cX11_byteAt 18 = .ok (.ireturn, 1) := by decide +kernel
theorem dX11_nextToken_0 : decode cX11_nextToken 0 = .ok (.aload_n 0, 1) := by decide +kernel
theorem dX11_nextToken_1 : decode cX11_nextToken 1 = .ok (.aload_n 0, 1) := by decide +kernel
theorem dX11_nextToken_2 : decode cX11_nextToken 2 = .ok (.getfield 177, 3) := by decide +kernel
theorem dX11_nextToken_5 : decode cX11_nextToken 5 = .ok (.putfield 180, 3) := by decide +kernel
theorem dX11_nextToken_8 : decode cX11_nextToken 8 = .ok (.aload_n 0, 1) := by decide +kernel
theorem dX11_nextToken_9 : decode cX11_nextToken 9 = .ok (.aload_n 0, 1) := by decide +kernel
theorem dX11_nextToken_10 : decode cX11_nextToken 10 = .ok (.getfield 180, 3) := by decide +kernel
theorem dX11_nextToken_13 : decode cX11_nextToken 13 = .ok (.invokevirtual 183, 3) := by decide +kernel
theorem dX11_nextToken_16 : decode cX11_nextToken 16 = .ok (.bipush 32, 2) := by decide +kernel
theorem dX11_nextToken_18 : decode cX11_nextToken 18 = .ok (.if_icmp .ne 16, 3) := by decide +kernel
theorem dX11_nextToken_21 : decode cX11_nextToken 21 = .ok (.aload_n 0, 1) := by decide +kernel
theorem dX11_nextToken_22 : decode cX11_nextToken 22 = .ok (.dup, 1) := by decide +kernel
theorem dX11_nextToken_23 : decode cX11_nextToken 23 = .ok (.getfield 180, 3) := by decide +kernel
theorem dX11_nextToken_26 : decode cX11_nextToken 26 = .ok (.iconst 1, 1) := by decide +kernel
theorem dX11_nextToken_27 : decode cX11_nextToken 27 = .ok (.iadd, 1) := by decide +kernel
theorem dX11_nextToken_28 : decode cX11_nextToken 28 = .ok (.putfield 180, 3) := by decide +kernel
theorem dX11_nextToken_31 : decode cX11_nextToken 31 = .ok (.goto (-23), 3) := by decide +kernel
theorem dX11_nextToken_34 : decode cX11_nextToken 34 = .ok (.aload_n 0, 1) := by decide +kernel
theorem dX11_nextToken_35 : decode cX11_nextToken 35 = .ok (.aload_n 0, 1) := by decide +kernel
theorem dX11_nextToken_36 : decode cX11_nextToken 36 = .ok (.getfield 180, 3) := by decide +kernel
theorem dX11_nextToken_39 : decode cX11_nextToken 39 = .ok (.putfield 177, 3) := by decide +kernel
theorem dX11_nextToken_42 : decode cX11_nextToken 42 = .ok (.aload_n 0, 1) := by decide +kernel
theorem dX11_nextToken_43 : decode cX11_nextToken 43 = .ok (.aload_n 0, 1) := by decide +kernel
theorem dX11_nextToken_44 : decode cX11_nextToken 44 = .ok (.getfield 180, 3) := by decide +kernel
theorem dX11_nextToken_47 : decode cX11_nextToken 47 = .ok (.invokevirtual 183, 3) := by decide +kernel
theorem dX11_nextToken_50 : decode cX11_nextToken 50 = .ok (.istore_n 1, 1) := by decide +kernel
theorem dX11_nextToken_51 : decode cX11_nextToken 51 = .ok (.aload_n 0, 1) := by decide +kernel
theorem dX11_nextToken_52 : decode cX11_nextToken 52 = .ok (.iload_n 1, 1) := by decide +kernel
theorem dX11_nextToken_53 : decode cX11_nextToken 53 = .ok (.ifCond .ge 7, 3) := by decide +kernel
theorem dX11_nextToken_56 : decode cX11_nextToken 56 = .ok (.iconst 0, 1) := by decide +kernel
theorem dX11_nextToken_57 : decode cX11_nextToken 57 = .ok (.goto 36, 3) := by decide +kernel
theorem dX11_nextToken_60 : decode cX11_nextToken 60 = .ok (.iload_n 1, 1) := by decide +kernel
theorem dX11_nextToken_61 : decode cX11_nextToken 61 = .ok (.invokestatic 186, 3) := by decide +kernel
theorem dX11_nextToken_64 : decode cX11_nextToken 64 = .ok (.ifCond .eq 7, 3) := by decide +kernel
theorem dX11_nextToken_67 : decode cX11_nextToken 67 = .ok (.iconst 1, 1) := by decide +kernel
theorem dX11_nextToken_68 : decode cX11_nextToken 68 = .ok (.goto 25, 3) := by decide +kernel
theorem dX11_nextToken_71 : decode cX11_nextToken 71 = .ok (.iload_n 1, 1) := by decide +kernel
theorem dX11_nextToken_72 : decode cX11_nextToken 72 = .ok (.invokestatic 189, 3) := by decide +kernel
theorem dX11_nextToken_75 : decode cX11_nextToken 75 = .ok (.ifCond .eq 7, 3) := by decide +kernel
theorem dX11_nextToken_78 : decode cX11_nextToken 78 = .ok (.iconst 2, 1) := by decide +kernel
theorem dX11_nextToken_79 : decode cX11_nextToken 79 = .ok (.goto 14, 3) := by decide +kernel
theorem dX11_nextToken_82 : decode cX11_nextToken 82 = .ok (.iload_n 1, 1) := by decide +kernel
theorem dX11_nextToken_83 : decode cX11_nextToken 83 = .ok (.bipush 59, 2) := by decide +kernel
theorem dX11_nextToken_85 : decode cX11_nextToken 85 = .ok (.if_icmp .ne 7, 3) := by decide +kernel
theorem dX11_nextToken_88 : decode cX11_nextToken 88 = .ok (.iconst 3, 1) := by decide +kernel
theorem dX11_nextToken_89 : decode cX11_nextToken 89 = .ok (.goto 4, 3) := by decide +kernel
theorem dX11_nextToken_92 : decode cX11_nextToken 92 = .ok (.iconst 4, 1) := by decide +kernel
theorem dX11_nextToken_93 : decode cX11_nextToken 93 = .ok (.putfield 192, 3) := by decide +kernel
theorem dX11_nextToken_96 : decode cX11_nextToken 96 = .ok (.aload_n 0, 1) := by decide +kernel
theorem dX11_nextToken_97 : decode cX11_nextToken 97 = .ok (.iconst 0, 1) := by decide +kernel
theorem dX11_nextToken_98 : decode cX11_nextToken 98 = .ok (.putfield 195, 3) := by decide +kernel
theorem dX11_nextToken_101 : decode cX11_nextToken 101 = .ok (.aload_n 0, 1) := by decide +kernel
theorem dX11_nextToken_102 : decode cX11_nextToken 102 = .ok (.getfield 192, 3) := by decide +kernel
theorem dX11_nextToken_105 : decode cX11_nextToken 105 = .ok (.iconst 1, 1) := by decide +kernel
theorem dX11_nextToken_106 : decode cX11_nextToken 106 = .ok (.if_icmp .ne 30, 3) := by decide +kernel
theorem dX11_nextToken_109 : decode cX11_nextToken 109 = .ok (.aload_n 0, 1) := by decide +kernel
theorem dX11_nextToken_110 : decode cX11_nextToken 110 = .ok (.aload_n 0, 1) := by decide +kernel
theorem dX11_nextToken_111 : decode cX11_nextToken 111 = .ok (.getfield 177, 3) := by decide +kernel
theorem dX11_nextToken_114 : decode cX11_nextToken 114 = .ok (.invokevirtual 183, 3) := by decide +kernel
theorem dX11_nextToken_117 : decode cX11_nextToken 117 = .ok (.invokestatic 186, 3) := by decide +kernel
theorem dX11_nextToken_120 : decode cX11_nextToken 120 = .ok (.ifCond .eq 16, 3) := by decide +kernel
theorem dX11_nextToken_123 : decode cX11_nextToken 123 = .ok (.aload_n 0, 1) := by decide +kernel
theorem dX11_nextToken_124 : decode cX11_nextToken 124 = .ok (.dup, 1) := by decide +kernel
theorem dX11_nextToken_125 : decode cX11_nextToken 125 = .ok (.getfield 177, 3) := by decide +kernel
theorem dX11_nextToken_128 : decode cX11_nextToken 128 = .ok (.iconst 1, 1) := by decide +kernel
theorem dX11_nextToken_129 : decode cX11_nextToken 129 = .ok (.iadd, 1) := by decide +kernel
theorem dX11_nextToken_130 : decode cX11_nextToken 130 = .ok (.putfield 177, 3) := by decide +kernel
theorem dX11_nextToken_133 : decode cX11_nextToken 133 = .ok (.goto (-32), 3) := by decide +kernel
theorem dX11_nextToken_136 : decode cX11_nextToken 136 = .ok (.aload_n 0, 1) := by decide +kernel
theorem dX11_nextToken_137 : decode cX11_nextToken 137 = .ok (.getfield 192, 3) := by decide +kernel
theorem dX11_nextToken_140 : decode cX11_nextToken 140 = .ok (.iconst 2, 1) := by decide +kernel
theorem dX11_nextToken_141 : decode cX11_nextToken 141 = .ok (.if_icmp .ne 70, 3) := by decide +kernel
theorem dX11_nextToken_144 : decode cX11_nextToken 144 = .ok (.aload_n 0, 1) := by decide +kernel
theorem dX11_nextToken_145 : decode cX11_nextToken 145 = .ok (.aload_n 0, 1) := by decide +kernel
theorem dX11_nextToken_146 : decode cX11_nextToken 146 = .ok (.getfield 177, 3) := by decide +kernel
theorem dX11_nextToken_149 : decode cX11_nextToken 149 = .ok (.invokevirtual 183, 3) := by decide +kernel
theorem dX11_nextToken_152 : decode cX11_nextToken 152 = .ok (.invokestatic 189, 3) := by decide +kernel
theorem dX11_nextToken_155 : decode cX11_nextToken 155 = .ok (.ifCond .eq 56, 3) := by decide +kernel
theorem dX11_nextToken_158 : decode cX11_nextToken 158 = .ok (.aload_n 0, 1) := by decide +kernel
theorem dX11_nextToken_159 : decode cX11_nextToken 159 = .ok (.aload_n 0, 1) := by decide +kernel
theorem dX11_nextToken_160 : decode cX11_nextToken 160 = .ok (.getfield 195, 3) := by decide +kernel
theorem dX11_nextToken_163 : decode cX11_nextToken 163 = .ok (.sipush 999, 3) := by decide +kernel
theorem dX11_nextToken_166 : decode cX11_nextToken 166 = .ok (.if_icmp .le 10, 3) := by decide +kernel
theorem dX11_nextToken_169 : decode cX11_nextToken 169 = .ok (.aload_n 0, 1) := by decide +kernel
theorem dX11_nextToken_170 : decode cX11_nextToken 170 = .ok (.getfield 195, 3) := by decide +kernel
theorem dX11_nextToken_173 : decode cX11_nextToken 173 = .ok (.goto 22, 3) := by decide +kernel
theorem dX11_nextToken_176 : decode cX11_nextToken 176 = .ok (.bipush 10, 2) := by decide +kernel
theorem dX11_nextToken_178 : decode cX11_nextToken 178 = .ok (.aload_n 0, 1) := by decide +kernel
theorem dX11_nextToken_179 : decode cX11_nextToken 179 = .ok (.getfield 195, 3) := by decide +kernel
theorem dX11_nextToken_182 : decode cX11_nextToken 182 = .ok (.imul, 1) := by decide +kernel
theorem dX11_nextToken_183 : decode cX11_nextToken 183 = .ok (.aload_n 0, 1) := by decide +kernel
theorem dX11_nextToken_184 : decode cX11_nextToken 184 = .ok (.aload_n 0, 1) := by decide +kernel
theorem dX11_nextToken_185 : decode cX11_nextToken 185 = .ok (.getfield 177, 3) := by decide +kernel
theorem dX11_nextToken_188 : decode cX11_nextToken 188 = .ok (.invokevirtual 183, 3) := by decide +kernel
theorem dX11_nextToken_191 : decode cX11_nextToken 191 = .ok (.iadd, 1) := by decide +kernel
theorem dX11_nextToken_192 : decode cX11_nextToken 192 = .ok (.bipush 48, 2) := by decide +kernel
theorem dX11_nextToken_194 : decode cX11_nextToken 194 = .ok (.isub, 1) := by decide +kernel
theorem dX11_nextToken_195 : decode cX11_nextToken 195 = .ok (.putfield 195, 3) := by decide +kernel
theorem dX11_nextToken_198 : decode cX11_nextToken 198 = .ok (.aload_n 0, 1) := by decide +kernel
theorem dX11_nextToken_199 : decode cX11_nextToken 199 = .ok (.dup, 1) := by decide +kernel
theorem dX11_nextToken_200 : decode cX11_nextToken 200 = .ok (.getfield 177, 3) := by decide +kernel
theorem dX11_nextToken_203 : decode cX11_nextToken 203 = .ok (.iconst 1, 1) := by decide +kernel
theorem dX11_nextToken_204 : decode cX11_nextToken 204 = .ok (.iadd, 1) := by decide +kernel
theorem dX11_nextToken_205 : decode cX11_nextToken 205 = .ok (.putfield 177, 3) := by decide +kernel
theorem dX11_nextToken_208 : decode cX11_nextToken 208 = .ok (.goto (-72), 3) := by decide +kernel
theorem dX11_nextToken_211 : decode cX11_nextToken 211 = .ok (.aload_n 0, 1) := by decide +kernel
theorem dX11_nextToken_212 : decode cX11_nextToken 212 = .ok (.dup, 1) := by decide +kernel
theorem dX11_nextToken_213 : decode cX11_nextToken 213 = .ok (.getfield 177, 3) := by decide +kernel
theorem dX11_nextToken_216 : decode cX11_nextToken 216 = .ok (.aload_n 0, 1) := by decide +kernel
theorem dX11_nextToken_217 : decode cX11_nextToken 217 = .ok (.getfield 192, 3) := by decide +kernel
theorem dX11_nextToken_220 : decode cX11_nextToken 220 = .ok (.iconst 2, 1) := by decide +kernel
theorem dX11_nextToken_221 : decode cX11_nextToken 221 = .ok (.if_icmp .le 7, 3) := by decide +kernel
theorem dX11_nextToken_224 : decode cX11_nextToken 224 = .ok (.iconst 1, 1) := by decide +kernel
theorem dX11_nextToken_225 : decode cX11_nextToken 225 = .ok (.goto 4, 3) := by decide +kernel
theorem dX11_nextToken_228 : decode cX11_nextToken 228 = .ok (.iconst 0, 1) := by decide +kernel
theorem dX11_nextToken_229 : decode cX11_nextToken 229 = .ok (.iadd, 1) := by decide +kernel
theorem dX11_nextToken_230 : decode cX11_nextToken 230 = .ok (.putfield 177, 3) := by decide +kernel
theorem dX11_nextToken_233 : decode cX11_nextToken 233 = .ok (.return_, 1) := by decide +kernel
theorem dX11_has3_0 : decode cX11_has3 0 = .ok (.aload_n 0, 1) := by decide +kernel
theorem dX11_has3_1 : decode cX11_has3 1 = .ok (.aload_n 0, 1) := by decide +kernel
theorem dX11_has3_2 : decode cX11_has3 2 = .ok (.getfield 180, 3) := by decide +kernel
theorem dX11_has3_5 : decode cX11_has3 5 = .ok (.iload_n 1, 1) := by decide +kernel
theorem dX11_has3_6 : decode cX11_has3 6 = .ok (.iadd, 1) := by decide +kernel
theorem dX11_has3_7 : decode cX11_has3 7 = .ok (.invokevirtual 183, 3) := by decide +kernel
theorem dX11_has3_10 : decode cX11_has3 10 = .ok (.iload_n 2, 1) := by decide +kernel
theorem dX11_has3_11 : decode cX11_has3 11 = .ok (.if_icmp .ne 40, 3) := by decide +kernel
theorem dX11_has3_14 : decode cX11_has3 14 = .ok (.aload_n 0, 1) := by decide +kernel
theorem dX11_has3_15 : decode cX11_has3 15 = .ok (.aload_n 0, 1) := by decide +kernel
theorem dX11_has3_16 : decode cX11_has3 16 = .ok (.getfield 180, 3) := by decide +kernel
theorem dX11_has3_19 : decode cX11_has3 19 = .ok (.iload_n 1, 1) := by decide +kernel
theorem dX11_has3_20 : decode cX11_has3 20 = .ok (.iadd, 1) := by decide +kernel
theorem dX11_has3_21 : decode cX11_has3 21 = .ok (.iconst 1, 1) := by decide +kernel
theorem dX11_has3_22 : decode cX11_has3 22 = .ok (.iadd, 1) := by decide +kernel
theorem dX11_has3_23 : decode cX11_has3 23 = .ok (.invokevirtual 183, 3) := by decide +kernel
theorem dX11_has3_26 : decode cX11_has3 26 = .ok (.iload_n 3, 1) := by decide +kernel
theorem dX11_has3_27 : decode cX11_has3 27 = .ok (.if_icmp .ne 24, 3) := by decide +kernel
theorem dX11_has3_30 : decode cX11_has3 30 = .ok (.aload_n 0, 1) := by decide +kernel
theorem dX11_has3_31 : decode cX11_has3 31 = .ok (.aload_n 0, 1) := by decide +kernel
theorem dX11_has3_32 : decode cX11_has3 32 = .ok (.getfield 180, 3) := by decide +kernel
theorem dX11_has3_35 : decode cX11_has3 35 = .ok (.iload_n 1, 1) := by decide +kernel
theorem dX11_has3_36 : decode cX11_has3 36 = .ok (.iadd, 1) := by decide +kernel
theorem dX11_has3_37 : decode cX11_has3 37 = .ok (.iconst 2, 1) := by decide +kernel
theorem dX11_has3_38 : decode cX11_has3 38 = .ok (.iadd, 1) := by decide +kernel
theorem dX11_has3_39 : decode cX11_has3 39 = .ok (.invokevirtual 183, 3) := by decide +kernel
theorem dX11_has3_42 : decode cX11_has3 42 = .ok (.iload 4, 2) := by decide +kernel
theorem dX11_has3_44 : decode cX11_has3 44 = .ok (.if_icmp .ne 7, 3) := by decide +kernel
theorem dX11_has3_47 : decode cX11_has3 47 = .ok (.iconst 1, 1) := by decide +kernel
theorem dX11_has3_48 : decode cX11_has3 48 = .ok (.goto 4, 3) := by decide +kernel
theorem dX11_has3_51 : decode cX11_has3 51 = .ok (.iconst 0, 1) := by decide +kernel
theorem dX11_has3_52 : decode cX11_has3 52 = .ok (.ireturn, 1) := by decide +kernel
theorem dX11_isWord_0 : decode cX11_isWord 0 = .ok (.aload_n 0, 1) := by decide +kernel
theorem dX11_isWord_1 : decode cX11_isWord 1 = .ok (.getfield 192, 3) := by decide +kernel
theorem dX11_isWord_4 : decode cX11_isWord 4 = .ok (.iconst 1, 1) := by decide +kernel
theorem dX11_isWord_5 : decode cX11_isWord 5 = .ok (.if_icmp .ne 20, 3) := by decide +kernel
theorem dX11_isWord_8 : decode cX11_isWord 8 = .ok (.aload_n 0, 1) := by decide +kernel
theorem dX11_isWord_9 : decode cX11_isWord 9 = .ok (.getfield 177, 3) := by decide +kernel
theorem dX11_isWord_12 : decode cX11_isWord 12 = .ok (.aload_n 0, 1) := by decide +kernel
theorem dX11_isWord_13 : decode cX11_isWord 13 = .ok (.getfield 180, 3) := by decide +kernel
theorem dX11_isWord_16 : decode cX11_isWord 16 = .ok (.isub, 1) := by decide +kernel
theorem dX11_isWord_17 : decode cX11_isWord 17 = .ok (.iload_n 1, 1) := by decide +kernel
theorem dX11_isWord_18 : decode cX11_isWord 18 = .ok (.if_icmp .ne 7, 3) := by decide +kernel
theorem dX11_isWord_21 : decode cX11_isWord 21 = .ok (.iconst 1, 1) := by decide +kernel
theorem dX11_isWord_22 : decode cX11_isWord 22 = .ok (.goto 4, 3) := by decide +kernel
theorem dX11_isWord_25 : decode cX11_isWord 25 = .ok (.iconst 0, 1) := by decide +kernel
theorem dX11_isWord_26 : decode cX11_isWord 26 = .ok (.ireturn, 1) := by decide +kernel
theorem dX11_fails_0 : decode cX11_fails 0 = .ok (.aload_n 0, 1) := by decide +kernel
theorem dX11_fails_1 : decode cX11_fails 1 = .ok (.aload_n 0, 1) := by decide +kernel
theorem dX11_fails_2 : decode cX11_fails 2 = .ok (.getfield 180, 3) := by decide +kernel
theorem dX11_fails_5 : decode cX11_fails 5 = .ok (.putfield 198, 3) := by decide +kernel
theorem dX11_fails_8 : decode cX11_fails 8 = .ok (.iconst 0, 1) := by decide +kernel
theorem dX11_fails_9 : decode cX11_fails 9 = .ok (.ireturn, 1) := by decide +kernel
theorem dX11_isFour_0 : decode cX11_isFour 0 = .ok (.aload_n 0, 1) := by decide +kernel
theorem dX11_isFour_1 : decode cX11_isFour 1 = .ok (.iconst 4, 1) := by decide +kernel
theorem dX11_isFour_2 : decode cX11_isFour 2 = .ok (.invokevirtual 201, 3) := by decide +kernel
theorem dX11_isFour_5 : decode cX11_isFour 5 = .ok (.ifCond .eq 30, 3) := by decide +kernel
theorem dX11_isFour_8 : decode cX11_isFour 8 = .ok (.aload_n 0, 1) := by decide +kernel
theorem dX11_isFour_9 : decode cX11_isFour 9 = .ok (.iconst 0, 1) := by decide +kernel
theorem dX11_isFour_10 : decode cX11_isFour 10 = .ok (.iload_n 1, 1) := by decide +kernel
theorem dX11_isFour_11 : decode cX11_isFour 11 = .ok (.iload_n 2, 1) := by decide +kernel
theorem dX11_isFour_12 : decode cX11_isFour 12 = .ok (.iload_n 3, 1) := by decide +kernel
theorem dX11_isFour_13 : decode cX11_isFour 13 = .ok (.invokevirtual 204, 3) := by decide +kernel
theorem dX11_isFour_16 : decode cX11_isFour 16 = .ok (.ifCond .eq 19, 3) := by decide +kernel
theorem dX11_isFour_19 : decode cX11_isFour 19 = .ok (.aload_n 0, 1) := by decide +kernel
theorem dX11_isFour_20 : decode cX11_isFour 20 = .ok (.iconst 1, 1) := by decide +kernel
theorem dX11_isFour_21 : decode cX11_isFour 21 = .ok (.iload_n 2, 1) := by decide +kernel
theorem dX11_isFour_22 : decode cX11_isFour 22 = .ok (.iload_n 3, 1) := by decide +kernel
theorem dX11_isFour_23 : decode cX11_isFour 23 = .ok (.iload 4, 2) := by decide +kernel
theorem dX11_isFour_25 : decode cX11_isFour 25 = .ok (.invokevirtual 204, 3) := by decide +kernel
theorem dX11_isFour_28 : decode cX11_isFour 28 = .ok (.ifCond .eq 7, 3) := by decide +kernel
theorem dX11_isFour_31 : decode cX11_isFour 31 = .ok (.iconst 1, 1) := by decide +kernel
theorem dX11_isFour_32 : decode cX11_isFour 32 = .ok (.goto 4, 3) := by decide +kernel
theorem dX11_isFour_35 : decode cX11_isFour 35 = .ok (.iconst 0, 1) := by decide +kernel
theorem dX11_isFour_36 : decode cX11_isFour 36 = .ok (.ireturn, 1) := by decide +kernel
theorem dX11_isFive_0 : decode cX11_isFive 0 = .ok (.aload_n 0, 1) := by decide +kernel
theorem dX11_isFive_1 : decode cX11_isFive 1 = .ok (.iconst 5, 1) := by decide +kernel
theorem dX11_isFive_2 : decode cX11_isFive 2 = .ok (.invokevirtual 201, 3) := by decide +kernel
theorem dX11_isFive_5 : decode cX11_isFive 5 = .ok (.ifCond .eq 31, 3) := by decide +kernel
theorem dX11_isFive_8 : decode cX11_isFive 8 = .ok (.aload_n 0, 1) := by decide +kernel
theorem dX11_isFive_9 : decode cX11_isFive 9 = .ok (.iconst 0, 1) := by decide +kernel
theorem dX11_isFive_10 : decode cX11_isFive 10 = .ok (.iload_n 1, 1) := by decide +kernel
theorem dX11_isFive_11 : decode cX11_isFive 11 = .ok (.iload_n 2, 1) := by decide +kernel
theorem dX11_isFive_12 : decode cX11_isFive 12 = .ok (.iload_n 3, 1) := by decide +kernel
theorem dX11_isFive_13 : decode cX11_isFive 13 = .ok (.invokevirtual 204, 3) := by decide +kernel
theorem dX11_isFive_16 : decode cX11_isFive 16 = .ok (.ifCond .eq 20, 3) := by decide +kernel
theorem dX11_isFive_19 : decode cX11_isFive 19 = .ok (.aload_n 0, 1) := by decide +kernel
theorem dX11_isFive_20 : decode cX11_isFive 20 = .ok (.iconst 2, 1) := by decide +kernel
theorem dX11_isFive_21 : decode cX11_isFive 21 = .ok (.iload_n 3, 1) := by decide +kernel
theorem dX11_isFive_22 : decode cX11_isFive 22 = .ok (.iload 4, 2) := by decide +kernel
theorem dX11_isFive_24 : decode cX11_isFive 24 = .ok (.iload 5, 2) := by decide +kernel
theorem dX11_isFive_26 : decode cX11_isFive 26 = .ok (.invokevirtual 204, 3) := by decide +kernel
theorem dX11_isFive_29 : decode cX11_isFive 29 = .ok (.ifCond .eq 7, 3) := by decide +kernel
theorem dX11_isFive_32 : decode cX11_isFive 32 = .ok (.iconst 1, 1) := by decide +kernel
theorem dX11_isFive_33 : decode cX11_isFive 33 = .ok (.goto 4, 3) := by decide +kernel
theorem dX11_isFive_36 : decode cX11_isFive 36 = .ok (.iconst 0, 1) := by decide +kernel
theorem dX11_isFive_37 : decode cX11_isFive 37 = .ok (.ireturn, 1) := by decide +kernel
theorem dX11_isSix_0 : decode cX11_isSix 0 = .ok (.aload_n 0, 1) := by decide +kernel
theorem dX11_isSix_1 : decode cX11_isSix 1 = .ok (.bipush 6, 2) := by decide +kernel
theorem dX11_isSix_3 : decode cX11_isSix 3 = .ok (.invokevirtual 201, 3) := by decide +kernel
theorem dX11_isSix_6 : decode cX11_isSix 6 = .ok (.ifCond .eq 32, 3) := by decide +kernel
theorem dX11_isSix_9 : decode cX11_isSix 9 = .ok (.aload_n 0, 1) := by decide +kernel
theorem dX11_isSix_10 : decode cX11_isSix 10 = .ok (.iconst 0, 1) := by decide +kernel
theorem dX11_isSix_11 : decode cX11_isSix 11 = .ok (.iload_n 1, 1) := by decide +kernel
theorem dX11_isSix_12 : decode cX11_isSix 12 = .ok (.iload_n 2, 1) := by decide +kernel
theorem dX11_isSix_13 : decode cX11_isSix 13 = .ok (.iload_n 3, 1) := by decide +kernel
theorem dX11_isSix_14 : decode cX11_isSix 14 = .ok (.invokevirtual 204, 3) := by decide +kernel
theorem dX11_isSix_17 : decode cX11_isSix 17 = .ok (.ifCond .eq 21, 3) := by decide +kernel
theorem dX11_isSix_20 : decode cX11_isSix 20 = .ok (.aload_n 0, 1) := by decide +kernel
theorem dX11_isSix_21 : decode cX11_isSix 21 = .ok (.iconst 3, 1) := by decide +kernel
theorem dX11_isSix_22 : decode cX11_isSix 22 = .ok (.iload 4, 2) := by decide +kernel
theorem dX11_isSix_24 : decode cX11_isSix 24 = .ok (.iload 5, 2) := by decide +kernel
theorem dX11_isSix_26 : decode cX11_isSix 26 = .ok (.iload 6, 2) := by decide +kernel
theorem dX11_isSix_28 : decode cX11_isSix 28 = .ok (.invokevirtual 204, 3) := by decide +kernel
theorem dX11_isSix_31 : decode cX11_isSix 31 = .ok (.ifCond .eq 7, 3) := by decide +kernel
theorem dX11_isSix_34 : decode cX11_isSix 34 = .ok (.iconst 1, 1) := by decide +kernel
theorem dX11_isSix_35 : decode cX11_isSix 35 = .ok (.goto 4, 3) := by decide +kernel
theorem dX11_isSix_38 : decode cX11_isSix 38 = .ok (.iconst 0, 1) := by decide +kernel
theorem dX11_isSix_39 : decode cX11_isSix 39 = .ok (.ireturn, 1) := by decide +kernel
theorem dX11_kindHere_0 : decode cX11_kindHere 0 = .ok (.aload_n 0, 1) := by decide +kernel
theorem dX11_kindHere_1 : decode cX11_kindHere 1 = .ok (.bipush 112, 2) := by decide +kernel
theorem dX11_kindHere_3 : decode cX11_kindHere 3 = .ok (.bipush 101, 2) := by decide +kernel
theorem dX11_kindHere_5 : decode cX11_kindHere 5 = .ok (.bipush 114, 2) := by decide +kernel
theorem dX11_kindHere_7 : decode cX11_kindHere 7 = .ok (.bipush 115, 2) := by decide +kernel
theorem dX11_kindHere_9 : decode cX11_kindHere 9 = .ok (.bipush 111, 2) := by decide +kernel
theorem dX11_kindHere_11 : decode cX11_kindHere 11 = .ok (.bipush 110, 2) := by decide +kernel
theorem dX11_kindHere_13 : decode cX11_kindHere 13 = .ok (.invokevirtual 208, 3) := by decide +kernel
theorem dX11_kindHere_16 : decode cX11_kindHere 16 = .ok (.ifCond .eq 5, 3) := by decide +kernel
theorem dX11_kindHere_19 : decode cX11_kindHere 19 = .ok (.iconst 0, 1) := by decide +kernel
theorem dX11_kindHere_20 : decode cX11_kindHere 20 = .ok (.ireturn, 1) := by decide +kernel
theorem dX11_kindHere_21 : decode cX11_kindHere 21 = .ok (.aload_n 0, 1) := by decide +kernel
theorem dX11_kindHere_22 : decode cX11_kindHere 22 = .ok (.bipush 97, 2) := by decide +kernel
theorem dX11_kindHere_24 : decode cX11_kindHere 24 = .ok (.bipush 99, 2) := by decide +kernel
theorem dX11_kindHere_26 : decode cX11_kindHere 26 = .ok (.bipush 116, 2) := by decide +kernel
theorem dX11_kindHere_28 : decode cX11_kindHere 28 = .ok (.bipush 111, 2) := by decide +kernel
theorem dX11_kindHere_30 : decode cX11_kindHere 30 = .ok (.bipush 114, 2) := by decide +kernel
theorem dX11_kindHere_32 : decode cX11_kindHere 32 = .ok (.invokevirtual 212, 3) := by decide +kernel
theorem dX11_kindHere_35 : decode cX11_kindHere 35 = .ok (.ifCond .eq 5, 3) := by decide +kernel
theorem dX11_kindHere_38 : decode cX11_kindHere 38 = .ok (.iconst 1, 1) := by decide +kernel
theorem dX11_kindHere_39 : decode cX11_kindHere 39 = .ok (.ireturn, 1) := by decide +kernel
theorem dX11_kindHere_40 : decode cX11_kindHere 40 = .ok (.aload_n 0, 1) := by decide +kernel
theorem dX11_kindHere_41 : decode cX11_kindHere 41 = .ok (.bipush 7, 2) := by decide +kernel
theorem dX11_kindHere_43 : decode cX11_kindHere 43 = .ok (.invokevirtual 201, 3) := by decide +kernel
theorem dX11_kindHere_46 : decode cX11_kindHere 46 = .ok (.ifCond .eq 47, 3) := by decide +kernel
theorem dX11_kindHere_49 : decode cX11_kindHere 49 = .ok (.aload_n 0, 1) := by decide +kernel
theorem dX11_kindHere_50 : decode cX11_kindHere 50 = .ok (.iconst 0, 1) := by decide +kernel
theorem dX11_kindHere_51 : decode cX11_kindHere 51 = .ok (.bipush 103, 2) := by decide +kernel
theorem dX11_kindHere_53 : decode cX11_kindHere 53 = .ok (.bipush 101, 2) := by decide +kernel
theorem dX11_kindHere_55 : decode cX11_kindHere 55 = .ok (.bipush 110, 2) := by decide +kernel
theorem dX11_kindHere_57 : decode cX11_kindHere 57 = .ok (.invokevirtual 204, 3) := by decide +kernel
theorem dX11_kindHere_60 : decode cX11_kindHere 60 = .ok (.ifCond .eq 33, 3) := by decide +kernel
theorem dX11_kindHere_63 : decode cX11_kindHere 63 = .ok (.aload_n 0, 1) := by decide +kernel
theorem dX11_kindHere_64 : decode cX11_kindHere 64 = .ok (.iconst 3, 1) := by decide +kernel
theorem dX11_kindHere_65 : decode cX11_kindHere 65 = .ok (.bipush 101, 2) := by decide +kernel
theorem dX11_kindHere_67 : decode cX11_kindHere 67 = .ok (.bipush 114, 2) := by decide +kernel
theorem dX11_kindHere_69 : decode cX11_kindHere 69 = .ok (.bipush 97, 2) := by decide +kernel
theorem dX11_kindHere_71 : decode cX11_kindHere 71 = .ok (.invokevirtual 204, 3) := by decide +kernel
theorem dX11_kindHere_74 : decode cX11_kindHere 74 = .ok (.ifCond .eq 19, 3) := by decide +kernel
theorem dX11_kindHere_77 : decode cX11_kindHere 77 = .ok (.aload_n 0, 1) := by decide +kernel
theorem dX11_kindHere_78 : decode cX11_kindHere 78 = .ok (.iconst 4, 1) := by decide +kernel
theorem dX11_kindHere_79 : decode cX11_kindHere 79 = .ok (.bipush 114, 2) := by decide +kernel
theorem dX11_kindHere_81 : decode cX11_kindHere 81 = .ok (.bipush 97, 2) := by decide +kernel
theorem dX11_kindHere_83 : decode cX11_kindHere 83 = .ok (.bipush 108, 2) := by decide +kernel
theorem dX11_kindHere_85 : decode cX11_kindHere 85 = .ok (.invokevirtual 204, 3) := by decide +kernel
theorem dX11_kindHere_88 : decode cX11_kindHere 88 = .ok (.ifCond .eq 5, 3) := by decide +kernel
theorem dX11_kindHere_91 : decode cX11_kindHere 91 = .ok (.iconst 2, 1) := by decide +kernel
theorem dX11_kindHere_92 : decode cX11_kindHere 92 = .ok (.ireturn, 1) := by decide +kernel
theorem dX11_kindHere_93 : decode cX11_kindHere 93 = .ok (.aload_n 0, 1) := by decide +kernel
theorem dX11_kindHere_94 : decode cX11_kindHere 94 = .ok (.bipush 119, 2) := by decide +kernel
theorem dX11_kindHere_96 : decode cX11_kindHere 96 = .ok (.bipush 105, 2) := by decide +kernel
theorem dX11_kindHere_98 : decode cX11_kindHere 98 = .ok (.bipush 102, 2) := by decide +kernel
theorem dX11_kindHere_100 : decode cX11_kindHere 100 = .ok (.bipush 101, 2) := by decide +kernel
theorem dX11_kindHere_102 : decode cX11_kindHere 102 = .ok (.invokevirtual 216, 3) := by decide +kernel
theorem dX11_kindHere_105 : decode cX11_kindHere 105 = .ok (.ifCond .eq 5, 3) := by decide +kernel
theorem dX11_kindHere_108 : decode cX11_kindHere 108 = .ok (.iconst 3, 1) := by decide +kernel
theorem dX11_kindHere_109 : decode cX11_kindHere 109 = .ok (.ireturn, 1) := by decide +kernel
theorem dX11_kindHere_110 : decode cX11_kindHere 110 = .ok (.aload_n 0, 1) := by decide +kernel
theorem dX11_kindHere_111 : decode cX11_kindHere 111 = .ok (.bipush 108, 2) := by decide +kernel
theorem dX11_kindHere_113 : decode cX11_kindHere 113 = .ok (.bipush 111, 2) := by decide +kernel
theorem dX11_kindHere_115 : decode cX11_kindHere 115 = .ok (.bipush 118, 2) := by decide +kernel
theorem dX11_kindHere_117 : decode cX11_kindHere 117 = .ok (.bipush 101, 2) := by decide +kernel
theorem dX11_kindHere_119 : decode cX11_kindHere 119 = .ok (.bipush 114, 2) := by decide +kernel
theorem dX11_kindHere_121 : decode cX11_kindHere 121 = .ok (.invokevirtual 212, 3) := by decide +kernel
theorem dX11_kindHere_124 : decode cX11_kindHere 124 = .ok (.ifCond .eq 5, 3) := by decide +kernel
theorem dX11_kindHere_127 : decode cX11_kindHere 127 = .ok (.iconst 4, 1) := by decide +kernel
theorem dX11_kindHere_128 : decode cX11_kindHere 128 = .ok (.ireturn, 1) := by decide +kernel
theorem dX11_kindHere_129 : decode cX11_kindHere 129 = .ok (.aload_n 0, 1) := by decide +kernel
theorem dX11_kindHere_130 : decode cX11_kindHere 130 = .ok (.iconst 3, 1) := by decide +kernel
theorem dX11_kindHere_131 : decode cX11_kindHere 131 = .ok (.invokevirtual 201, 3) := by decide +kernel
theorem dX11_kindHere_134 : decode cX11_kindHere 134 = .ok (.ifCond .eq 21, 3) := by decide +kernel
theorem dX11_kindHere_137 : decode cX11_kindHere 137 = .ok (.aload_n 0, 1) := by decide +kernel
theorem dX11_kindHere_138 : decode cX11_kindHere 138 = .ok (.iconst 0, 1) := by decide +kernel
theorem dX11_kindHere_139 : decode cX11_kindHere 139 = .ok (.bipush 115, 2) := by decide +kernel
theorem dX11_kindHere_141 : decode cX11_kindHere 141 = .ok (.bipush 112, 2) := by decide +kernel
theorem dX11_kindHere_143 : decode cX11_kindHere 143 = .ok (.bipush 121, 2) := by decide +kernel
theorem dX11_kindHere_145 : decode cX11_kindHere 145 = .ok (.invokevirtual 204, 3) := by decide +kernel
theorem dX11_kindHere_148 : decode cX11_kindHere 148 = .ok (.ifCond .eq 7, 3) := by decide +kernel
theorem dX11_kindHere_151 : decode cX11_kindHere 151 = .ok (.iconst 5, 1) := by decide +kernel
theorem dX11_kindHere_152 : decode cX11_kindHere 152 = .ok (.goto 4, 3) := by decide +kernel
theorem dX11_kindHere_155 : decode cX11_kindHere 155 = .ok (.iconst (-1), 1) := by decide +kernel
theorem dX11_kindHere_156 : decode cX11_kindHere 156 = .ok (.ireturn, 1) := by decide +kernel
theorem dX11_isNumber_0 : decode cX11_isNumber 0 = .ok (.aload_n 0, 1) := by decide +kernel
theorem dX11_isNumber_1 : decode cX11_isNumber 1 = .ok (.getfield 192, 3) := by decide +kernel
theorem dX11_isNumber_4 : decode cX11_isNumber 4 = .ok (.iconst 2, 1) := by decide +kernel
theorem dX11_isNumber_5 : decode cX11_isNumber 5 = .ok (.if_icmp .ne 18, 3) := by decide +kernel
theorem dX11_isNumber_8 : decode cX11_isNumber 8 = .ok (.aload_n 0, 1) := by decide +kernel
theorem dX11_isNumber_9 : decode cX11_isNumber 9 = .ok (.getfield 195, 3) := by decide +kernel
theorem dX11_isNumber_12 : decode cX11_isNumber 12 = .ok (.i2l, 1) := by decide +kernel
theorem dX11_isNumber_13 : decode cX11_isNumber 13 = .ok (.iload_n 1, 1) := by decide +kernel
theorem dX11_isNumber_14 : decode cX11_isNumber 14 = .ok (.i2l, 1) := by decide +kernel
theorem dX11_isNumber_15 : decode cX11_isNumber 15 = .ok (.iload_n 2, 1) := by decide +kernel
theorem dX11_isNumber_16 : decode cX11_isNumber 16 = .ok (.i2l, 1) := by decide +kernel
theorem dX11_isNumber_17 : decode cX11_isNumber 17 = .ok (.invokestatic 46, 3) := by decide +kernel
theorem dX11_isNumber_20 : decode cX11_isNumber 20 = .ok (.ifCond .ne 10, 3) := by decide +kernel
theorem dX11_isNumber_23 : decode cX11_isNumber 23 = .ok (.aload_n 0, 1) := by decide +kernel
theorem dX11_isNumber_24 : decode cX11_isNumber 24 = .ok (.invokevirtual 219, 3) := by decide +kernel
theorem dX11_isNumber_27 : decode cX11_isNumber 27 = .ok (.ifCond .eq 7, 3) := by decide +kernel
theorem dX11_isNumber_30 : decode cX11_isNumber 30 = .ok (.iconst 1, 1) := by decide +kernel
theorem dX11_isNumber_31 : decode cX11_isNumber 31 = .ok (.goto 4, 3) := by decide +kernel
theorem dX11_isNumber_34 : decode cX11_isNumber 34 = .ok (.iconst 0, 1) := by decide +kernel
theorem dX11_isNumber_35 : decode cX11_isNumber 35 = .ok (.ireturn, 1) := by decide +kernel
theorem dX11_knowsHere_0 : decode cX11_knowsHere 0 = .ok (.iconst 0, 1) := by decide +kernel
theorem dX11_knowsHere_1 : decode cX11_knowsHere 1 = .ok (.istore_n 2, 1) := by decide +kernel
theorem dX11_knowsHere_2 : decode cX11_knowsHere 2 = .ok (.aload_n 0, 1) := by decide +kernel
theorem dX11_knowsHere_3 : decode cX11_knowsHere 3 = .ok (.invokevirtual 222, 3) := by decide +kernel
theorem dX11_knowsHere_6 : decode cX11_knowsHere 6 = .ok (.iload_n 2, 1) := by decide +kernel
theorem dX11_knowsHere_7 : decode cX11_knowsHere 7 = .ok (.ifCond .eq 11, 3) := by decide +kernel
theorem dX11_knowsHere_10 : decode cX11_knowsHere 10 = .ok (.aload_n 0, 1) := by decide +kernel
theorem dX11_knowsHere_11 : decode cX11_knowsHere 11 = .ok (.getfield 192, 3) := by decide +kernel
theorem dX11_knowsHere_14 : decode cX11_knowsHere 14 = .ok (.iconst 2, 1) := by decide +kernel
theorem dX11_knowsHere_15 : decode cX11_knowsHere 15 = .ok (.if_icmp .ne 52, 3) := by decide +kernel
theorem dX11_knowsHere_18 : decode cX11_knowsHere 18 = .ok (.iload_n 2, 1) := by decide +kernel
theorem dX11_knowsHere_19 : decode cX11_knowsHere 19 = .ok (.iconst 4, 1) := by decide +kernel
theorem dX11_knowsHere_20 : decode cX11_knowsHere 20 = .ok (.if_icmp .eq 13, 3) := by decide +kernel
theorem dX11_knowsHere_23 : decode cX11_knowsHere 23 = .ok (.aload_n 0, 1) := by decide +kernel
theorem dX11_knowsHere_24 : decode cX11_knowsHere 24 = .ok (.iconst 0, 1) := by decide +kernel
theorem dX11_knowsHere_25 : decode cX11_knowsHere 25 = .ok (.bipush 9, 2) := by decide +kernel
theorem dX11_knowsHere_27 : decode cX11_knowsHere 27 = .ok (.invokevirtual 225, 3) := by decide +kernel
theorem dX11_knowsHere_30 : decode cX11_knowsHere 30 = .ok (.ifCond .ne 8, 3) := by decide +kernel
theorem dX11_knowsHere_33 : decode cX11_knowsHere 33 = .ok (.aload_n 0, 1) := by decide +kernel
theorem dX11_knowsHere_34 : decode cX11_knowsHere 34 = .ok (.invokevirtual 219, 3) := by decide +kernel
theorem dX11_knowsHere_37 : decode cX11_knowsHere 37 = .ok (.ireturn, 1) := by decide +kernel
theorem dX11_knowsHere_38 : decode cX11_knowsHere 38 = .ok (.aload_n 0, 1) := by decide +kernel
theorem dX11_knowsHere_39 : decode cX11_knowsHere 39 = .ok (.getfield 7, 3) := by decide +kernel
theorem dX11_knowsHere_42 : decode cX11_knowsHere 42 = .ok (.iload_n 1, 1) := by decide +kernel
theorem dX11_knowsHere_43 : decode cX11_knowsHere 43 = .ok (.iconst 1, 1) := by decide +kernel
theorem dX11_knowsHere_44 : decode cX11_knowsHere 44 = .ok (.invokestatic 61, 3) := by decide +kernel
theorem dX11_knowsHere_47 : decode cX11_knowsHere 47 = .ok (.dup2, 1) := by decide +kernel
theorem dX11_knowsHere_48 : decode cX11_knowsHere 48 = .ok (.iaload, 1) := by decide +kernel
theorem dX11_knowsHere_49 : decode cX11_knowsHere 49 = .ok (.iconst 1, 1) := by decide +kernel
theorem dX11_knowsHere_50 : decode cX11_knowsHere 50 = .ok (.aload_n 0, 1) := by decide +kernel
theorem dX11_knowsHere_51 : decode cX11_knowsHere 51 = .ok (.getfield 195, 3) := by decide +kernel
theorem dX11_knowsHere_54 : decode cX11_knowsHere 54 = .ok (.ishl, 1) := by decide +kernel
theorem dX11_knowsHere_55 : decode cX11_knowsHere 55 = .ok (.ior, 1) := by decide +kernel
theorem dX11_knowsHere_56 : decode cX11_knowsHere 56 = .ok (.iastore, 1) := by decide +kernel
theorem dX11_knowsHere_57 : decode cX11_knowsHere 57 = .ok (.aload_n 0, 1) := by decide +kernel
theorem dX11_knowsHere_58 : decode cX11_knowsHere 58 = .ok (.invokevirtual 222, 3) := by decide +kernel
theorem dX11_knowsHere_61 : decode cX11_knowsHere 61 = .ok (.iinc 2 1, 3) := by decide +kernel
theorem dX11_knowsHere_64 : decode cX11_knowsHere 64 = .ok (.goto (-58), 3) := by decide +kernel
theorem dX11_knowsHere_67 : decode cX11_knowsHere 67 = .ok (.iconst 1, 1) := by decide +kernel
theorem dX11_knowsHere_68 : decode cX11_knowsHere 68 = .ok (.ireturn, 1) := by decide +kernel
theorem dX11_personHere_0 : decode cX11_personHere 0 = .ok (.aload_n 0, 1) := by decide +kernel
theorem dX11_personHere_1 : decode cX11_personHere 1 = .ok (.getfield 7, 3) := by decide +kernel
theorem dX11_personHere_4 : decode cX11_personHere 4 = .ok (.iconst 0, 1) := by decide +kernel
theorem dX11_personHere_5 : decode cX11_personHere 5 = .ok (.iaload, 1) := by decide +kernel
theorem dX11_personHere_6 : decode cX11_personHere 6 = .ok (.bipush 8, 2) := by decide +kernel
theorem dX11_personHere_8 : decode cX11_personHere 8 = .ok (.if_icmp .ne 8, 3) := by decide +kernel
theorem dX11_personHere_11 : decode cX11_personHere 11 = .ok (.aload_n 0, 1) := by decide +kernel
theorem dX11_personHere_12 : decode cX11_personHere 12 = .ok (.invokevirtual 219, 3) := by decide +kernel
theorem dX11_personHere_15 : decode cX11_personHere 15 = .ok (.ireturn, 1) := by decide +kernel
theorem dX11_personHere_16 : decode cX11_personHere 16 = .ok (.aload_n 0, 1) := by decide +kernel
theorem dX11_personHere_17 : decode cX11_personHere 17 = .ok (.iload_n 1, 1) := by decide +kernel
theorem dX11_personHere_18 : decode cX11_personHere 18 = .ok (.invokevirtual 67, 3) := by decide +kernel
theorem dX11_personHere_21 : decode cX11_personHere 21 = .ok (.aload_n 0, 1) := by decide +kernel
theorem dX11_personHere_22 : decode cX11_personHere 22 = .ok (.getfield 7, 3) := by decide +kernel
theorem dX11_personHere_25 : decode cX11_personHere 25 = .ok (.iconst 0, 1) := by decide +kernel
theorem dX11_personHere_26 : decode cX11_personHere 26 = .ok (.iaload, 1) := by decide +kernel
theorem dX11_personHere_27 : decode cX11_personHere 27 = .ok (.iconst 1, 1) := by decide +kernel
theorem dX11_personHere_28 : decode cX11_personHere 28 = .ok (.isub, 1) := by decide +kernel
theorem dX11_personHere_29 : decode cX11_personHere 29 = .ok (.istore_n 2, 1) := by decide +kernel
theorem dX11_personHere_30 : decode cX11_personHere 30 = .ok (.aload_n 0, 1) := by decide +kernel
theorem dX11_personHere_31 : decode cX11_personHere 31 = .ok (.invokevirtual 222, 3) := by decide +kernel
theorem dX11_personHere_34 : decode cX11_personHere 34 = .ok (.aload_n 0, 1) := by decide +kernel
theorem dX11_personHere_35 : decode cX11_personHere 35 = .ok (.bipush 107, 2) := by decide +kernel
theorem dX11_personHere_37 : decode cX11_personHere 37 = .ok (.bipush 110, 2) := by decide +kernel
theorem dX11_personHere_39 : decode cX11_personHere 39 = .ok (.bipush 111, 2) := by decide +kernel
theorem dX11_personHere_41 : decode cX11_personHere 41 = .ok (.bipush 119, 2) := by decide +kernel
theorem dX11_personHere_43 : decode cX11_personHere 43 = .ok (.bipush 115, 2) := by decide +kernel
theorem dX11_personHere_45 : decode cX11_personHere 45 = .ok (.invokevirtual 212, 3) := by decide +kernel
theorem dX11_personHere_48 : decode cX11_personHere 48 = .ok (.ifCond .eq 13, 3) := by decide +kernel
theorem dX11_personHere_51 : decode cX11_personHere 51 = .ok (.aload_n 0, 1) := by decide +kernel
theorem dX11_personHere_52 : decode cX11_personHere 52 = .ok (.iload_n 2, 1) := by decide +kernel
theorem dX11_personHere_53 : decode cX11_personHere 53 = .ok (.invokevirtual 228, 3) := by decide +kernel
theorem dX11_personHere_56 : decode cX11_personHere 56 = .ok (.ifCond .ne 5, 3) := by decide +kernel
theorem dX11_personHere_59 : decode cX11_personHere 59 = .ok (.iconst 0, 1) := by decide +kernel
theorem dX11_personHere_60 : decode cX11_personHere 60 = .ok (.ireturn, 1) := by decide +kernel
theorem dX11_personHere_61 : decode cX11_personHere 61 = .ok (.aload_n 0, 1) := by decide +kernel
theorem dX11_personHere_62 : decode cX11_personHere 62 = .ok (.iconst 2, 1) := by decide +kernel
theorem dX11_personHere_63 : decode cX11_personHere 63 = .ok (.invokevirtual 201, 3) := by decide +kernel
theorem dX11_personHere_66 : decode cX11_personHere 66 = .ok (.ifCond .eq 78, 3) := by decide +kernel
theorem dX11_personHere_69 : decode cX11_personHere 69 = .ok (.aload_n 0, 1) := by decide +kernel
theorem dX11_personHere_70 : decode cX11_personHere 70 = .ok (.aload_n 0, 1) := by decide +kernel
theorem dX11_personHere_71 : decode cX11_personHere 71 = .ok (.getfield 180, 3) := by decide +kernel
theorem dX11_personHere_74 : decode cX11_personHere 74 = .ok (.invokevirtual 183, 3) := by decide +kernel
theorem dX11_personHere_77 : decode cX11_personHere 77 = .ok (.bipush 111, 2) := by decide +kernel
theorem dX11_personHere_79 : decode cX11_personHere 79 = .ok (.if_icmp .ne 65, 3) := by decide +kernel
theorem dX11_personHere_82 : decode cX11_personHere 82 = .ok (.aload_n 0, 1) := by decide +kernel
theorem dX11_personHere_83 : decode cX11_personHere 83 = .ok (.aload_n 0, 1) := by decide +kernel
theorem dX11_personHere_84 : decode cX11_personHere 84 = .ok (.getfield 180, 3) := by decide +kernel
theorem dX11_personHere_87 : decode cX11_personHere 87 = .ok (.iconst 1, 1) := by decide +kernel
theorem dX11_personHere_88 : decode cX11_personHere 88 = .ok (.iadd, 1) := by decide +kernel
theorem dX11_personHere_89 : decode cX11_personHere 89 = .ok (.invokevirtual 183, 3) := by decide +kernel
theorem dX11_personHere_92 : decode cX11_personHere 92 = .ok (.bipush 110, 2) := by decide +kernel
theorem dX11_personHere_94 : decode cX11_personHere 94 = .ok (.if_icmp .ne 50, 3) := by decide +kernel
theorem dX11_personHere_97 : decode cX11_personHere 97 = .ok (.aload_n 0, 1) := by decide +kernel
theorem dX11_personHere_98 : decode cX11_personHere 98 = .ok (.invokevirtual 222, 3) := by decide +kernel
theorem dX11_personHere_101 : decode cX11_personHere 101 = .ok (.aload_n 0, 1) := by decide +kernel
theorem dX11_personHere_102 : decode cX11_personHere 102 = .ok (.iconst 0, 1) := by decide +kernel
theorem dX11_personHere_103 : decode cX11_personHere 103 = .ok (.iconst 1, 1) := by decide +kernel
theorem dX11_personHere_104 : decode cX11_personHere 104 = .ok (.invokevirtual 225, 3) := by decide +kernel
theorem dX11_personHere_107 : decode cX11_personHere 107 = .ok (.ifCond .eq 14, 3) := by decide +kernel
theorem dX11_personHere_110 : decode cX11_personHere 110 = .ok (.aload_n 0, 1) := by decide +kernel
theorem dX11_personHere_111 : decode cX11_personHere 111 = .ok (.aload_n 0, 1) := by decide +kernel
theorem dX11_personHere_112 : decode cX11_personHere 112 = .ok (.getfield 195, 3) := by decide +kernel
theorem dX11_personHere_115 : decode cX11_personHere 115 = .ok (.invokevirtual 110, 3) := by decide +kernel
theorem dX11_personHere_118 : decode cX11_personHere 118 = .ok (.ifCond .lt 8, 3) := by decide +kernel
theorem dX11_personHere_121 : decode cX11_personHere 121 = .ok (.aload_n 0, 1) := by decide +kernel
theorem dX11_personHere_122 : decode cX11_personHere 122 = .ok (.invokevirtual 219, 3) := by decide +kernel
theorem dX11_personHere_125 : decode cX11_personHere 125 = .ok (.ireturn, 1) := by decide +kernel
theorem dX11_personHere_126 : decode cX11_personHere 126 = .ok (.aload_n 0, 1) := by decide +kernel
theorem dX11_personHere_127 : decode cX11_personHere 127 = .ok (.getfield 7, 3) := by decide +kernel
theorem dX11_personHere_130 : decode cX11_personHere 130 = .ok (.iload_n 2, 1) := by decide +kernel
theorem dX11_personHere_131 : decode cX11_personHere 131 = .ok (.iconst 3, 1) := by decide +kernel
theorem dX11_personHere_132 : decode cX11_personHere 132 = .ok (.invokestatic 61, 3) := by decide +kernel
theorem dX11_personHere_135 : decode cX11_personHere 135 = .ok (.aload_n 0, 1) := by decide +kernel
theorem dX11_personHere_136 : decode cX11_personHere 136 = .ok (.getfield 195, 3) := by decide +kernel
theorem dX11_personHere_139 : decode cX11_personHere 139 = .ok (.iastore, 1) := by decide +kernel
theorem dX11_personHere_140 : decode cX11_personHere 140 = .ok (.aload_n 0, 1) := by decide +kernel
theorem dX11_personHere_141 : decode cX11_personHere 141 = .ok (.invokevirtual 222, 3) := by decide +kernel
theorem dX11_personHere_144 : decode cX11_personHere 144 = .ok (.iconst 1, 1) := by decide +kernel
theorem dX11_personHere_145 : decode cX11_personHere 145 = .ok (.ireturn, 1) := by decide +kernel
theorem dX11_secretHere_0 : decode cX11_secretHere 0 = .ok (.aload_n 0, 1) := by decide +kernel
theorem dX11_secretHere_1 : decode cX11_secretHere 1 = .ok (.invokevirtual 222, 3) := by decide +kernel
theorem dX11_secretHere_4 : decode cX11_secretHere 4 = .ok (.aload_n 0, 1) := by decide +kernel
theorem dX11_secretHere_5 : decode cX11_secretHere 5 = .ok (.iconst 0, 1) := by decide +kernel
theorem dX11_secretHere_6 : decode cX11_secretHere 6 = .ok (.bipush 9, 2) := by decide +kernel
theorem dX11_secretHere_8 : decode cX11_secretHere 8 = .ok (.invokevirtual 225, 3) := by decide +kernel
theorem dX11_secretHere_11 : decode cX11_secretHere 11 = .ok (.ifCond .ne 5, 3) := by decide +kernel
theorem dX11_secretHere_14 : decode cX11_secretHere 14 = .ok (.iconst 0, 1) := by decide +kernel
theorem dX11_secretHere_15 : decode cX11_secretHere 15 = .ok (.ireturn, 1) := by decide +kernel
theorem dX11_secretHere_16 : decode cX11_secretHere 16 = .ok (.aload_n 0, 1) := by decide +kernel
theorem dX11_secretHere_17 : decode cX11_secretHere 17 = .ok (.getfield 7, 3) := by decide +kernel
theorem dX11_secretHere_20 : decode cX11_secretHere 20 = .ok (.iconst 2, 1) := by decide +kernel
theorem dX11_secretHere_21 : decode cX11_secretHere 21 = .ok (.iload_n 1, 1) := by decide +kernel
theorem dX11_secretHere_22 : decode cX11_secretHere 22 = .ok (.ifCond .eq 19, 3) := by decide +kernel
theorem dX11_secretHere_25 : decode cX11_secretHere 25 = .ok (.aload_n 0, 1) := by decide +kernel
theorem dX11_secretHere_26 : decode cX11_secretHere 26 = .ok (.getfield 7, 3) := by decide +kernel
theorem dX11_secretHere_29 : decode cX11_secretHere 29 = .ok (.iconst 2, 1) := by decide +kernel
theorem dX11_secretHere_30 : decode cX11_secretHere 30 = .ok (.iaload, 1) := by decide +kernel
theorem dX11_secretHere_31 : decode cX11_secretHere 31 = .ok (.iconst 1, 1) := by decide +kernel
theorem dX11_secretHere_32 : decode cX11_secretHere 32 = .ok (.aload_n 0, 1) := by decide +kernel
theorem dX11_secretHere_33 : decode cX11_secretHere 33 = .ok (.getfield 195, 3) := by decide +kernel
theorem dX11_secretHere_36 : decode cX11_secretHere 36 = .ok (.ishl, 1) := by decide +kernel
theorem dX11_secretHere_37 : decode cX11_secretHere 37 = .ok (.ior, 1) := by decide +kernel
theorem dX11_secretHere_38 : decode cX11_secretHere 38 = .ok (.goto 18, 3) := by decide +kernel
theorem dX11_secretHere_41 : decode cX11_secretHere 41 = .ok (.aload_n 0, 1) := by decide +kernel
theorem dX11_secretHere_42 : decode cX11_secretHere 42 = .ok (.getfield 7, 3) := by decide +kernel
theorem dX11_secretHere_45 : decode cX11_secretHere 45 = .ok (.iconst 2, 1) := by decide +kernel
theorem dX11_secretHere_46 : decode cX11_secretHere 46 = .ok (.iaload, 1) := by decide +kernel
theorem dX11_secretHere_47 : decode cX11_secretHere 47 = .ok (.iconst 1, 1) := by decide +kernel
theorem dX11_secretHere_48 : decode cX11_secretHere 48 = .ok (.aload_n 0, 1) := by decide +kernel
theorem dX11_secretHere_49 : decode cX11_secretHere 49 = .ok (.getfield 195, 3) := by decide +kernel
theorem dX11_secretHere_52 : decode cX11_secretHere 52 = .ok (.ishl, 1) := by decide +kernel
theorem dX11_secretHere_53 : decode cX11_secretHere 53 = .ok (.iconst (-1), 1) := by decide +kernel
theorem dX11_secretHere_54 : decode cX11_secretHere 54 = .ok (.ixor, 1) := by decide +kernel
theorem dX11_secretHere_55 : decode cX11_secretHere 55 = .ok (.iand, 1) := by decide +kernel
theorem dX11_secretHere_56 : decode cX11_secretHere 56 = .ok (.iastore, 1) := by decide +kernel
theorem dX11_secretHere_57 : decode cX11_secretHere 57 = .ok (.aload_n 0, 1) := by decide +kernel
theorem dX11_secretHere_58 : decode cX11_secretHere 58 = .ok (.invokevirtual 222, 3) := by decide +kernel
theorem dX11_secretHere_61 : decode cX11_secretHere 61 = .ok (.iconst 1, 1) := by decide +kernel
theorem dX11_secretHere_62 : decode cX11_secretHere 62 = .ok (.ireturn, 1) := by decide +kernel
theorem dX11_itemHere_0 : decode cX11_itemHere 0 = .ok (.aload_n 0, 1) := by decide +kernel
theorem dX11_itemHere_1 : decode cX11_itemHere 1 = .ok (.invokevirtual 231, 3) := by decide +kernel
theorem dX11_itemHere_4 : decode cX11_itemHere 4 = .ok (.istore_n 1, 1) := by decide +kernel
theorem dX11_itemHere_5 : decode cX11_itemHere 5 = .ok (.iload_n 1, 1) := by decide +kernel
theorem dX11_itemHere_6 : decode cX11_itemHere 6 = .ok (.ifCond .lt 9, 3) := by decide +kernel
theorem dX11_itemHere_9 : decode cX11_itemHere 9 = .ok (.aload_n 0, 1) := by decide +kernel
theorem dX11_itemHere_10 : decode cX11_itemHere 10 = .ok (.iload_n 1, 1) := by decide +kernel
theorem dX11_itemHere_11 : decode cX11_itemHere 11 = .ok (.invokevirtual 234, 3) := by decide +kernel
theorem dX11_itemHere_14 : decode cX11_itemHere 14 = .ok (.ireturn, 1) := by decide +kernel
theorem dX11_itemHere_15 : decode cX11_itemHere 15 = .ok (.aload_n 0, 1) := by decide +kernel
theorem dX11_itemHere_16 : decode cX11_itemHere 16 = .ok (.bipush 115, 2) := by decide +kernel
theorem dX11_itemHere_18 : decode cX11_itemHere 18 = .ok (.bipush 104, 2) := by decide +kernel
theorem dX11_itemHere_20 : decode cX11_itemHere 20 = .ok (.bipush 97, 2) := by decide +kernel
theorem dX11_itemHere_22 : decode cX11_itemHere 22 = .ok (.bipush 109, 2) := by decide +kernel
theorem dX11_itemHere_24 : decode cX11_itemHere 24 = .ok (.invokevirtual 216, 3) := by decide +kernel
theorem dX11_itemHere_27 : decode cX11_itemHere 27 = .ok (.istore_n 2, 1) := by decide +kernel
theorem dX11_itemHere_28 : decode cX11_itemHere 28 = .ok (.iload_n 2, 1) := by decide +kernel
theorem dX11_itemHere_29 : decode cX11_itemHere 29 = .ok (.ifCond .ne 18, 3) := by decide +kernel
theorem dX11_itemHere_32 : decode cX11_itemHere 32 = .ok (.aload_n 0, 1) := by decide +kernel
theorem dX11_itemHere_33 : decode cX11_itemHere 33 = .ok (.bipush 116, 2) := by decide +kernel
theorem dX11_itemHere_35 : decode cX11_itemHere 35 = .ok (.bipush 114, 2) := by decide +kernel
theorem dX11_itemHere_37 : decode cX11_itemHere 37 = .ok (.bipush 117, 2) := by decide +kernel
theorem dX11_itemHere_39 : decode cX11_itemHere 39 = .ok (.bipush 101, 2) := by decide +kernel
theorem dX11_itemHere_41 : decode cX11_itemHere 41 = .ok (.invokevirtual 216, 3) := by decide +kernel
theorem dX11_itemHere_44 : decode cX11_itemHere 44 = .ok (.ifCond .eq 11, 3) := by decide +kernel
theorem dX11_itemHere_47 : decode cX11_itemHere 47 = .ok (.aload_n 0, 1) := by decide +kernel
theorem dX11_itemHere_48 : decode cX11_itemHere 48 = .ok (.iload_n 2, 1) := by decide +kernel
theorem dX11_itemHere_49 : decode cX11_itemHere 49 = .ok (.invokevirtual 237, 3) := by decide +kernel
theorem dX11_itemHere_52 : decode cX11_itemHere 52 = .ok (.goto 7, 3) := by decide +kernel
theorem dX11_itemHere_55 : decode cX11_itemHere 55 = .ok (.aload_n 0, 1) := by decide +kernel
theorem dX11_itemHere_56 : decode cX11_itemHere 56 = .ok (.invokevirtual 219, 3) := by decide +kernel
theorem dX11_itemHere_59 : decode cX11_itemHere 59 = .ok (.ireturn, 1) := by decide +kernel
theorem dX11_park_0 : decode cX11_park 0 = .ok (.aload_n 0, 1) := by decide +kernel
theorem dX11_park_1 : decode cX11_park 1 = .ok (.getfield 7, 3) := by decide +kernel
theorem dX11_park_4 : decode cX11_park 4 = .ok (.aload_n 0, 1) := by decide +kernel
theorem dX11_park_5 : decode cX11_park 5 = .ok (.getfield 16, 3) := by decide +kernel
theorem dX11_park_8 : decode cX11_park 8 = .ok (.invokestatic 151, 3) := by decide +kernel
theorem dX11_park_11 : decode cX11_park 11 = .ok (.aload_n 0, 1) := by decide +kernel
theorem dX11_park_12 : decode cX11_park 12 = .ok (.iconst 0, 1) := by decide +kernel
theorem dX11_park_13 : decode cX11_park 13 = .ok (.putfield 177, 3) := by decide +kernel
theorem dX11_park_16 : decode cX11_park 16 = .ok (.aload_n 0, 1) := by decide +kernel
theorem dX11_park_17 : decode cX11_park 17 = .ok (.invokevirtual 222, 3) := by decide +kernel
theorem dX11_park_20 : decode cX11_park 20 = .ok (.iconst 1, 1) := by decide +kernel
theorem dX11_park_21 : decode cX11_park 21 = .ok (.istore_n 1, 1) := by decide +kernel
theorem dX11_park_22 : decode cX11_park 22 = .ok (.aload_n 0, 1) := by decide +kernel
theorem dX11_park_23 : decode cX11_park 23 = .ok (.invokevirtual 241, 3) := by decide +kernel
theorem dX11_park_26 : decode cX11_park 26 = .ok (.istore_n 2, 1) := by decide +kernel
theorem dX11_park_27 : decode cX11_park 27 = .ok (.iload_n 2, 1) := by decide +kernel
theorem dX11_park_28 : decode cX11_park 28 = .ok (.ifCond .eq 26, 3) := by decide +kernel
theorem dX11_park_31 : decode cX11_park 31 = .ok (.aload_n 0, 1) := by decide +kernel
theorem dX11_park_32 : decode cX11_park 32 = .ok (.getfield 192, 3) := by decide +kernel
theorem dX11_park_35 : decode cX11_park 35 = .ok (.iconst 3, 1) := by decide +kernel
theorem dX11_park_36 : decode cX11_park 36 = .ok (.if_icmp .ne 18, 3) := by decide +kernel
theorem dX11_park_39 : decode cX11_park 39 = .ok (.aload_n 0, 1) := by decide +kernel
theorem dX11_park_40 : decode cX11_park 40 = .ok (.invokevirtual 222, 3) := by decide +kernel
theorem dX11_park_43 : decode cX11_park 43 = .ok (.aload_n 0, 1) := by decide +kernel
theorem dX11_park_44 : decode cX11_park 44 = .ok (.invokevirtual 241, 3) := by decide +kernel
theorem dX11_park_47 : decode cX11_park 47 = .ok (.istore_n 2, 1) := by decide +kernel
theorem dX11_park_48 : decode cX11_park 48 = .ok (.iinc 1 1, 3) := by decide +kernel
theorem dX11_park_51 : decode cX11_park 51 = .ok (.goto (-24), 3) := by decide +kernel
theorem dX11_park_54 : decode cX11_park 54 = .ok (.iload_n 2, 1) := by decide +kernel
theorem dX11_park_55 : decode cX11_park 55 = .ok (.ifCond .eq 21, 3) := by decide +kernel
theorem dX11_park_58 : decode cX11_park 58 = .ok (.aload_n 0, 1) := by decide +kernel
theorem dX11_park_59 : decode cX11_park 59 = .ok (.getfield 192, 3) := by decide +kernel
theorem dX11_park_62 : decode cX11_park 62 = .ok (.ifCond .eq 10, 3) := by decide +kernel
theorem dX11_park_65 : decode cX11_park 65 = .ok (.aload_n 0, 1) := by decide +kernel
theorem dX11_park_66 : decode cX11_park 66 = .ok (.invokevirtual 219, 3) := by decide +kernel
theorem dX11_park_69 : decode cX11_park 69 = .ok (.ifCond .eq 7, 3) := by decide +kernel
theorem dX11_park_72 : decode cX11_park 72 = .ok (.iconst 1, 1) := by decide +kernel
theorem dX11_park_73 : decode cX11_park 73 = .ok (.goto 4, 3) := by decide +kernel
theorem dX11_park_76 : decode cX11_park 76 = .ok (.iconst 0, 1) := by decide +kernel
theorem dX11_park_77 : decode cX11_park 77 = .ok (.istore_n 2, 1) := by decide +kernel
theorem dX11_park_78 : decode cX11_park 78 = .ok (.aload_n 0, 1) := by decide +kernel
theorem dX11_park_79 : decode cX11_park 79 = .ok (.iconst 0, 1) := by decide +kernel
theorem dX11_park_80 : decode cX11_park 80 = .ok (.putfield 173, 3) := by decide +kernel
theorem dX11_park_83 : decode cX11_park 83 = .ok (.iload_n 2, 1) := by decide +kernel
theorem dX11_park_84 : decode cX11_park 84 = .ok (.ifCond .ne 14, 3) := by decide +kernel
theorem dX11_park_87 : decode cX11_park 87 = .ok (.aload_n 0, 1) := by decide +kernel
theorem dX11_park_88 : decode cX11_park 88 = .ok (.getfield 16, 3) := by decide +kernel
theorem dX11_park_91 : decode cX11_park 91 = .ok (.aload_n 0, 1) := by decide +kernel
theorem dX11_park_92 : decode cX11_park 92 = .ok (.getfield 7, 3) := by decide +kernel
theorem dX11_park_95 : decode cX11_park 95 = .ok (.invokestatic 151, 3) := by decide +kernel
theorem dX11_park_98 : decode cX11_park 98 = .ok (.iload_n 2, 1) := by decide +kernel
theorem dX11_park_99 : decode cX11_park 99 = .ok (.ifCond .eq 7, 3) := by decide +kernel
theorem dX11_park_102 : decode cX11_park 102 = .ok (.iload_n 1, 1) := by decide +kernel
theorem dX11_park_103 : decode cX11_park 103 = .ok (.goto 9, 3) := by decide +kernel
theorem dX11_park_106 : decode cX11_park 106 = .ok (.iconst (-1), 1) := by decide +kernel
theorem dX11_park_107 : decode cX11_park 107 = .ok (.aload_n 0, 1) := by decide +kernel
theorem dX11_park_108 : decode cX11_park 108 = .ok (.getfield 198, 3) := by decide +kernel
theorem dX11_park_111 : decode cX11_park 111 = .ok (.isub, 1) := by decide +kernel
theorem dX11_park_112 : decode cX11_park 112 = .ok (.ireturn, 1) := by decide +kernel
theorem dX11_isSheet_0 : decode cX11_isSheet 0 = .ok (.iload_n 0, 1) := by decide +kernel
theorem dX11_isSheet_1 : decode cX11_isSheet 1 = .ok (.ifCond .lt 12, 3) := by decide +kernel
theorem dX11_isSheet_4 : decode cX11_isSheet 4 = .ok (.iload_n 0, 1) := by decide +kernel
theorem dX11_isSheet_5 : decode cX11_isSheet 5 = .ok (.iconst 4, 1) := by decide +kernel
theorem dX11_isSheet_6 : decode cX11_isSheet 6 = .ok (.if_icmp .ge 7, 3) := by decide +kernel
theorem dX11_isSheet_9 : decode cX11_isSheet 9 = .ok (.iconst 1, 1) := by decide +kernel
theorem dX11_isSheet_10 : decode cX11_isSheet 10 = .ok (.goto 4, 3) := by decide +kernel
theorem dX11_isSheet_13 : decode cX11_isSheet 13 = .ok (.iconst 0, 1) := by decide +kernel
theorem dX11_isSheet_14 : decode cX11_isSheet 14 = .ok (.ireturn, 1) := by decide +kernel
theorem dX11_narrow_0 : decode cX11_narrow 0 = .ok (.iload_n 0, 1) := by decide +kernel
theorem dX11_narrow_1 : decode cX11_narrow 1 = .ok (.bipush 8, 2) := by decide +kernel
theorem dX11_narrow_3 : decode cX11_narrow 3 = .ok (.if_icmp .ne 10, 3) := by decide +kernel
theorem dX11_narrow_6 : decode cX11_narrow 6 = .ok (.lload_n 1, 1) := by decide +kernel
theorem dX11_narrow_7 : decode cX11_narrow 7 = .ok (.l2i, 1) := by decide +kernel
theorem dX11_narrow_8 : decode cX11_narrow 8 = .ok (.i2b, 1) := by decide +kernel
theorem dX11_narrow_9 : decode cX11_narrow 9 = .ok (.i2l, 1) := by decide +kernel
theorem dX11_narrow_10 : decode cX11_narrow 10 = .ok (.goto 17, 3) := by decide +kernel
theorem dX11_narrow_13 : decode cX11_narrow 13 = .ok (.iload_n 0, 1) := by decide +kernel
theorem dX11_narrow_14 : decode cX11_narrow 14 = .ok (.bipush 16, 2) := by decide +kernel
theorem dX11_narrow_16 : decode cX11_narrow 16 = .ok (.if_icmp .ne 10, 3) := by decide +kernel
theorem dX11_narrow_19 : decode cX11_narrow 19 = .ok (.lload_n 1, 1) := by decide +kernel
theorem dX11_narrow_20 : decode cX11_narrow 20 = .ok (.l2i, 1) := by decide +kernel
theorem dX11_narrow_21 : decode cX11_narrow 21 = .ok (.i2s, 1) := by decide +kernel
theorem dX11_narrow_22 : decode cX11_narrow 22 = .ok (.i2l, 1) := by decide +kernel
theorem dX11_narrow_23 : decode cX11_narrow 23 = .ok (.goto 4, 3) := by decide +kernel
theorem dX11_narrow_26 : decode cX11_narrow 26 = .ok (.lload_n 1, 1) := by decide +kernel
theorem dX11_narrow_27 : decode cX11_narrow 27 = .ok (.lreturn, 1) := by decide +kernel
theorem dX11_sheet_0 : decode cX11_sheet 0 = .ok (.iload_n 1, 1) := by decide +kernel
theorem dX11_sheet_1 : decode cX11_sheet 1 = .ok (.invokestatic 244, 3) := by decide +kernel
theorem dX11_sheet_4 : decode cX11_sheet 4 = .ok (.ifCond .eq 25, 3) := by decide +kernel
theorem dX11_sheet_7 : decode cX11_sheet 7 = .ok (.iload_n 2, 1) := by decide +kernel
theorem dX11_sheet_8 : decode cX11_sheet 8 = .ok (.ifCond .eq 28, 3) := by decide +kernel
theorem dX11_sheet_11 : decode cX11_sheet 11 = .ok (.iload_n 2, 1) := by decide +kernel
theorem dX11_sheet_12 : decode cX11_sheet 12 = .ok (.bipush 8, 2) := by decide +kernel
theorem dX11_sheet_14 : decode cX11_sheet 14 = .ok (.if_icmp .eq 22, 3) := by decide +kernel
theorem dX11_sheet_17 : decode cX11_sheet 17 = .ok (.iload_n 2, 1) := by decide +kernel
theorem dX11_sheet_18 : decode cX11_sheet 18 = .ok (.bipush 16, 2) := by decide +kernel
theorem dX11_sheet_20 : decode cX11_sheet 20 = .ok (.if_icmp .eq 16, 3) := by decide +kernel
theorem dX11_sheet_23 : decode cX11_sheet 23 = .ok (.iload_n 2, 1) := by decide +kernel
theorem dX11_sheet_24 : decode cX11_sheet 24 = .ok (.bipush 64, 2) := by decide +kernel
theorem dX11_sheet_26 : decode cX11_sheet 26 = .ok (.if_icmp .eq 10, 3) := by decide +kernel
theorem dX11_sheet_29 : decode cX11_sheet 29 = .ok (.aload_n 0, 1) := by decide +kernel
theorem dX11_sheet_30 : decode cX11_sheet 30 = .ok (.ldc 38, 2) := by decide +kernel
theorem dX11_sheet_32 : decode cX11_sheet 32 = .ok (.invokevirtual 40, 3) := by decide +kernel
theorem dX11_sheet_35 : decode cX11_sheet 35 = .ok (.ireturn, 1) := by decide +kernel
theorem dX11_sheet_36 : decode cX11_sheet 36 = .ok (.iload_n 3, 1) := by decide +kernel
theorem dX11_sheet_37 : decode cX11_sheet 37 = .ok (.ifCond .ge 10, 3) := by decide +kernel
theorem dX11_sheet_40 : decode cX11_sheet 40 = .ok (.aload_n 0, 1) := by decide +kernel
theorem dX11_sheet_41 : decode cX11_sheet 41 = .ok (.ldc 247, 2) := by decide +kernel
theorem dX11_sheet_43 : decode cX11_sheet 43 = .ok (.invokevirtual 40, 3) := by decide +kernel
theorem dX11_sheet_46 : decode cX11_sheet 46 = .ok (.ireturn, 1) := by decide +kernel
theorem dX11_sheet_47 : decode cX11_sheet 47 = .ok (.iload_n 3, 1) := by decide +kernel
theorem dX11_sheet_48 : decode cX11_sheet 48 = .ok (.bipush 40, 2) := by decide +kernel
theorem dX11_sheet_50 : decode cX11_sheet 50 = .ok (.if_icmp .le 10, 3) := by decide +kernel
theorem dX11_sheet_53 : decode cX11_sheet 53 = .ok (.aload_n 0, 1) := by decide +kernel
theorem dX11_sheet_54 : decode cX11_sheet 54 = .ok (.ldc 38, 2) := by decide +kernel
theorem dX11_sheet_56 : decode cX11_sheet 56 = .ok (.invokevirtual 40, 3) := by decide +kernel
theorem dX11_sheet_59 : decode cX11_sheet 59 = .ok (.ireturn, 1) := by decide +kernel
theorem dX11_sheet_60 : decode cX11_sheet 60 = .ok (.aload_n 0, 1) := by decide +kernel
theorem dX11_sheet_61 : decode cX11_sheet 61 = .ok (.getfield 28, 3) := by decide +kernel
theorem dX11_sheet_64 : decode cX11_sheet 64 = .ok (.iload_n 1, 1) := by decide +kernel
theorem dX11_sheet_65 : decode cX11_sheet 65 = .ok (.iload_n 2, 1) := by decide +kernel
theorem dX11_sheet_66 : decode cX11_sheet 66 = .ok (.ifCond .ne 7, 3) := by decide +kernel
theorem dX11_sheet_69 : decode cX11_sheet 69 = .ok (.iconst (-1), 1) := by decide +kernel
theorem dX11_sheet_70 : decode cX11_sheet 70 = .ok (.goto 4, 3) := by decide +kernel
theorem dX11_sheet_73 : decode cX11_sheet 73 = .ok (.iload_n 2, 1) := by decide +kernel
theorem dX11_sheet_74 : decode cX11_sheet 74 = .ok (.iastore, 1) := by decide +kernel
theorem dX11_sheet_75 : decode cX11_sheet 75 = .ok (.aload_n 0, 1) := by decide +kernel
theorem dX11_sheet_76 : decode cX11_sheet 76 = .ok (.getfield 31, 3) := by decide +kernel
theorem dX11_sheet_79 : decode cX11_sheet 79 = .ok (.iload_n 1, 1) := by decide +kernel
theorem dX11_sheet_80 : decode cX11_sheet 80 = .ok (.iload_n 2, 1) := by decide +kernel
theorem dX11_sheet_81 : decode cX11_sheet 81 = .ok (.ifCond .ne 7, 3) := by decide +kernel
theorem dX11_sheet_84 : decode cX11_sheet 84 = .ok (.iconst 0, 1) := by decide +kernel
theorem dX11_sheet_85 : decode cX11_sheet 85 = .ok (.goto 4, 3) := by decide +kernel
theorem dX11_sheet_88 : decode cX11_sheet 88 = .ok (.iload_n 3, 1) := by decide +kernel
theorem dX11_sheet_89 : decode cX11_sheet 89 = .ok (.iastore, 1) := by decide +kernel
theorem dX11_sheet_90 : decode cX11_sheet 90 = .ok (.iconst 0, 1) := by decide +kernel
theorem dX11_sheet_91 : decode cX11_sheet 91 = .ok (.istore 4, 2) := by decide +kernel
theorem dX11_sheet_93 : decode cX11_sheet 93 = .ok (.iload 4, 2) := by decide +kernel
theorem dX11_sheet_95 : decode cX11_sheet 95 = .ok (.bipush 40, 2) := by decide +kernel
theorem dX11_sheet_97 : decode cX11_sheet 97 = .ok (.if_icmp .ge 22, 3) := by decide +kernel
theorem dX11_sheet_100 : decode cX11_sheet 100 = .ok (.aload_n 0, 1) := by decide +kernel
theorem dX11_sheet_101 : decode cX11_sheet 101 = .ok (.getfield 34, 3) := by decide +kernel
theorem dX11_sheet_104 : decode cX11_sheet 104 = .ok (.bipush 40, 2) := by decide +kernel
theorem dX11_sheet_106 : decode cX11_sheet 106 = .ok (.iload_n 1, 1) := by decide +kernel
theorem dX11_sheet_107 : decode cX11_sheet 107 = .ok (.imul, 1) := by decide +kernel
theorem dX11_sheet_108 : decode cX11_sheet 108 = .ok (.iload 4, 2) := by decide +kernel
theorem dX11_sheet_110 : decode cX11_sheet 110 = .ok (.iadd, 1) := by decide +kernel
theorem dX11_sheet_111 : decode cX11_sheet 111 = .ok (.lconst 0, 1) := by decide +kernel
theorem dX11_sheet_112 : decode cX11_sheet 112 = .ok (.lastore, 1) := by decide +kernel
theorem dX11_sheet_113 : decode cX11_sheet 113 = .ok (.iinc 4 1, 3) := by decide +kernel
theorem dX11_sheet_116 : decode cX11_sheet 116 = .ok (.goto (-23), 3) := by decide +kernel
theorem dX11_sheet_119 : decode cX11_sheet 119 = .ok (.aload_n 0, 1) := by decide +kernel
theorem dX11_sheet_120 : decode cX11_sheet 120 = .ok (.getfield 31, 3) := by decide +kernel
theorem dX11_sheet_123 : decode cX11_sheet 123 = .ok (.iload_n 1, 1) := by decide +kernel
theorem dX11_sheet_124 : decode cX11_sheet 124 = .ok (.iaload, 1) := by decide +kernel
theorem dX11_sheet_125 : decode cX11_sheet 125 = .ok (.ireturn, 1) := by decide +kernel
theorem dX11_write_0 : decode cX11_write 0 = .ok (.iload_n 1, 1) := by decide +kernel
theorem dX11_write_1 : decode cX11_write 1 = .ok (.invokestatic 244, 3) := by decide +kernel
theorem dX11_write_4 : decode cX11_write 4 = .ok (.ifCond .ne 11, 3) := by decide +kernel
theorem dX11_write_7 : decode cX11_write 7 = .ok (.aload_n 0, 1) := by decide +kernel
theorem dX11_write_8 : decode cX11_write 8 = .ok (.ldc 38, 2) := by decide +kernel
theorem dX11_write_10 : decode cX11_write 10 = .ok (.invokevirtual 40, 3) := by decide +kernel
theorem dX11_write_13 : decode cX11_write 13 = .ok (.i2l, 1) := by decide +kernel
theorem dX11_write_14 : decode cX11_write 14 = .ok (.lreturn, 1) := by decide +kernel
theorem dX11_write_15 : decode cX11_write 15 = .ok (.aload_n 0, 1) := by decide +kernel
theorem dX11_write_16 : decode cX11_write 16 = .ok (.getfield 28, 3) := by decide +kernel
theorem dX11_write_19 : decode cX11_write 19 = .ok (.iload_n 1, 1) := by decide +kernel
theorem dX11_write_20 : decode cX11_write 20 = .ok (.iaload, 1) := by decide +kernel
theorem dX11_write_21 : decode cX11_write 21 = .ok (.ifCond .ge 11, 3) := by decide +kernel
theorem dX11_write_24 : decode cX11_write 24 = .ok (.aload_n 0, 1) := by decide +kernel
theorem dX11_write_25 : decode cX11_write 25 = .ok (.ldc 248, 2) := by decide +kernel
theorem dX11_write_27 : decode cX11_write 27 = .ok (.invokevirtual 40, 3) := by decide +kernel
theorem dX11_write_30 : decode cX11_write 30 = .ok (.i2l, 1) := by decide +kernel
theorem dX11_write_31 : decode cX11_write 31 = .ok (.lreturn, 1) := by decide +kernel
theorem dX11_write_32 : decode cX11_write 32 = .ok (.iload_n 2, 1) := by decide +kernel
theorem dX11_write_33 : decode cX11_write 33 = .ok (.i2l, 1) := by decide +kernel
theorem dX11_write_34 : decode cX11_write 34 = .ok (.lconst 0, 1) := by decide +kernel
theorem dX11_write_35 : decode cX11_write 35 = .ok (.aload_n 0, 1) := by decide +kernel
theorem dX11_write_36 : decode cX11_write 36 = .ok (.getfield 31, 3) := by decide +kernel
theorem dX11_write_39 : decode cX11_write 39 = .ok (.iload_n 1, 1) := by decide +kernel
theorem dX11_write_40 : decode cX11_write 40 = .ok (.iaload, 1) := by decide +kernel
theorem dX11_write_41 : decode cX11_write 41 = .ok (.iconst 1, 1) := by decide +kernel
theorem dX11_write_42 : decode cX11_write 42 = .ok (.isub, 1) := by decide +kernel
theorem dX11_write_43 : decode cX11_write 43 = .ok (.i2l, 1) := by decide +kernel
theorem dX11_write_44 : decode cX11_write 44 = .ok (.invokestatic 46, 3) := by decide +kernel
theorem dX11_write_47 : decode cX11_write 47 = .ok (.ifCond .ne 11, 3) := by decide +kernel
theorem dX11_write_50 : decode cX11_write 50 = .ok (.aload_n 0, 1) := by decide +kernel
theorem dX11_write_51 : decode cX11_write 51 = .ok (.ldc 38, 2) := by decide +kernel
theorem dX11_write_53 : decode cX11_write 53 = .ok (.invokevirtual 40, 3) := by decide +kernel
theorem dX11_write_56 : decode cX11_write 56 = .ok (.i2l, 1) := by decide +kernel
theorem dX11_write_57 : decode cX11_write 57 = .ok (.lreturn, 1) := by decide +kernel
theorem dX11_write_58 : decode cX11_write 58 = .ok (.aload_n 0, 1) := by decide +kernel
theorem dX11_write_59 : decode cX11_write 59 = .ok (.getfield 34, 3) := by decide +kernel
theorem dX11_write_62 : decode cX11_write 62 = .ok (.bipush 40, 2) := by decide +kernel
theorem dX11_write_64 : decode cX11_write 64 = .ok (.iload_n 1, 1) := by decide +kernel
theorem dX11_write_65 : decode cX11_write 65 = .ok (.imul, 1) := by decide +kernel
theorem dX11_write_66 : decode cX11_write 66 = .ok (.iload_n 2, 1) := by decide +kernel
theorem dX11_write_67 : decode cX11_write 67 = .ok (.iadd, 1) := by decide +kernel
theorem dX11_write_68 : decode cX11_write 68 = .ok (.laload, 1) := by decide +kernel
theorem dX11_write_69 : decode cX11_write 69 = .ok (.lstore 5, 2) := by decide +kernel
theorem dX11_write_71 : decode cX11_write 71 = .ok (.aload_n 0, 1) := by decide +kernel
theorem dX11_write_72 : decode cX11_write 72 = .ok (.getfield 34, 3) := by decide +kernel
theorem dX11_write_75 : decode cX11_write 75 = .ok (.bipush 40, 2) := by decide +kernel
theorem dX11_write_77 : decode cX11_write 77 = .ok (.iload_n 1, 1) := by decide +kernel
theorem dX11_write_78 : decode cX11_write 78 = .ok (.imul, 1) := by decide +kernel
theorem dX11_write_79 : decode cX11_write 79 = .ok (.iload_n 2, 1) := by decide +kernel
theorem dX11_write_80 : decode cX11_write 80 = .ok (.iadd, 1) := by decide +kernel
theorem dX11_write_81 : decode cX11_write 81 = .ok (.aload_n 0, 1) := by decide +kernel
theorem dX11_write_82 : decode cX11_write 82 = .ok (.getfield 28, 3) := by decide +kernel
theorem dX11_write_85 : decode cX11_write 85 = .ok (.iload_n 1, 1) := by decide +kernel
theorem dX11_write_86 : decode cX11_write 86 = .ok (.iaload, 1) := by decide +kernel
theorem dX11_write_87 : decode cX11_write 87 = .ok (.lload_n 3, 1) := by decide +kernel
theorem dX11_write_88 : decode cX11_write 88 = .ok (.invokestatic 249, 3) := by decide +kernel
theorem dX11_write_91 : decode cX11_write 91 = .ok (.lastore, 1) := by decide +kernel
theorem dX11_write_92 : decode cX11_write 92 = .ok (.lload 5, 2) := by decide +kernel
theorem dX11_write_94 : decode cX11_write 94 = .ok (.lreturn, 1) := by decide +kernel
theorem dX11_copy_0 : decode cX11_copy 0 = .ok (.iload_n 1, 1) := by decide +kernel
theorem dX11_copy_1 : decode cX11_copy 1 = .ok (.invokestatic 244, 3) := by decide +kernel
theorem dX11_copy_4 : decode cX11_copy 4 = .ok (.ifCond .eq 10, 3) := by decide +kernel
theorem dX11_copy_7 : decode cX11_copy 7 = .ok (.iload_n 3, 1) := by decide +kernel
theorem dX11_copy_8 : decode cX11_copy 8 = .ok (.invokestatic 244, 3) := by decide +kernel
theorem dX11_copy_11 : decode cX11_copy 11 = .ok (.ifCond .ne 10, 3) := by decide +kernel
theorem dX11_copy_14 : decode cX11_copy 14 = .ok (.aload_n 0, 1) := by decide +kernel
theorem dX11_copy_15 : decode cX11_copy 15 = .ok (.ldc 38, 2) := by decide +kernel
theorem dX11_copy_17 : decode cX11_copy 17 = .ok (.invokevirtual 40, 3) := by decide +kernel
theorem dX11_copy_20 : decode cX11_copy 20 = .ok (.ireturn, 1) := by decide +kernel
theorem dX11_copy_21 : decode cX11_copy 21 = .ok (.aload_n 0, 1) := by decide +kernel
theorem dX11_copy_22 : decode cX11_copy 22 = .ok (.getfield 28, 3) := by decide +kernel
theorem dX11_copy_25 : decode cX11_copy 25 = .ok (.iload_n 1, 1) := by decide +kernel
theorem dX11_copy_26 : decode cX11_copy 26 = .ok (.iaload, 1) := by decide +kernel
theorem dX11_copy_27 : decode cX11_copy 27 = .ok (.ifCond .lt 12, 3) := by decide +kernel
theorem dX11_copy_30 : decode cX11_copy 30 = .ok (.aload_n 0, 1) := by decide +kernel
theorem dX11_copy_31 : decode cX11_copy 31 = .ok (.getfield 28, 3) := by decide +kernel
theorem dX11_copy_34 : decode cX11_copy 34 = .ok (.iload_n 3, 1) := by decide +kernel
theorem dX11_copy_35 : decode cX11_copy 35 = .ok (.iaload, 1) := by decide +kernel
theorem dX11_copy_36 : decode cX11_copy 36 = .ok (.ifCond .ge 10, 3) := by decide +kernel
theorem dX11_copy_39 : decode cX11_copy 39 = .ok (.aload_n 0, 1) := by decide +kernel
theorem dX11_copy_40 : decode cX11_copy 40 = .ok (.ldc 248, 2) := by decide +kernel
theorem dX11_copy_42 : decode cX11_copy 42 = .ok (.invokevirtual 40, 3) := by decide +kernel
theorem dX11_copy_45 : decode cX11_copy 45 = .ok (.ireturn, 1) := by decide +kernel
theorem dX11_copy_46 : decode cX11_copy 46 = .ok (.aload_n 0, 1) := by decide +kernel
theorem dX11_copy_47 : decode cX11_copy 47 = .ok (.getfield 28, 3) := by decide +kernel
theorem dX11_copy_50 : decode cX11_copy 50 = .ok (.iload_n 1, 1) := by decide +kernel
theorem dX11_copy_51 : decode cX11_copy 51 = .ok (.iaload, 1) := by decide +kernel
theorem dX11_copy_52 : decode cX11_copy 52 = .ok (.aload_n 0, 1) := by decide +kernel
theorem dX11_copy_53 : decode cX11_copy 53 = .ok (.getfield 28, 3) := by decide +kernel
theorem dX11_copy_56 : decode cX11_copy 56 = .ok (.iload_n 3, 1) := by decide +kernel
theorem dX11_copy_57 : decode cX11_copy 57 = .ok (.iaload, 1) := by decide +kernel
theorem dX11_copy_58 : decode cX11_copy 58 = .ok (.if_icmp .eq 10, 3) := by decide +kernel
theorem dX11_copy_61 : decode cX11_copy 61 = .ok (.aload_n 0, 1) := by decide +kernel
theorem dX11_copy_62 : decode cX11_copy 62 = .ok (.ldc 107, 2) := by decide +kernel
theorem dX11_copy_64 : decode cX11_copy 64 = .ok (.invokevirtual 40, 3) := by decide +kernel
theorem dX11_copy_67 : decode cX11_copy 67 = .ok (.ireturn, 1) := by decide +kernel
theorem dX11_copy_68 : decode cX11_copy 68 = .ok (.iload_n 2, 1) := by decide +kernel
theorem dX11_copy_69 : decode cX11_copy 69 = .ok (.ifCond .lt 40, 3) := by decide +kernel
theorem dX11_copy_72 : decode cX11_copy 72 = .ok (.iload 4, 2) := by decide +kernel
theorem dX11_copy_74 : decode cX11_copy 74 = .ok (.ifCond .lt 35, 3) := by decide +kernel
theorem dX11_copy_77 : decode cX11_copy 77 = .ok (.iload 5, 2) := by decide +kernel
theorem dX11_copy_79 : decode cX11_copy 79 = .ok (.ifCond .lt 30, 3) := by decide +kernel
theorem dX11_copy_82 : decode cX11_copy 82 = .ok (.iload 5, 2) := by decide +kernel
theorem dX11_copy_84 : decode cX11_copy 84 = .ok (.aload_n 0, 1) := by decide +kernel
theorem dX11_copy_85 : decode cX11_copy 85 = .ok (.getfield 31, 3) := by decide +kernel
theorem dX11_copy_88 : decode cX11_copy 88 = .ok (.iload_n 1, 1) := by decide +kernel
theorem dX11_copy_89 : decode cX11_copy 89 = .ok (.iaload, 1) := by decide +kernel
theorem dX11_copy_90 : decode cX11_copy 90 = .ok (.iload_n 2, 1) := by decide +kernel
theorem dX11_copy_91 : decode cX11_copy 91 = .ok (.isub, 1) := by decide +kernel
theorem dX11_copy_92 : decode cX11_copy 92 = .ok (.if_icmp .gt 17, 3) := by decide +kernel
theorem dX11_copy_95 : decode cX11_copy 95 = .ok (.iload 5, 2) := by decide +kernel
theorem dX11_copy_97 : decode cX11_copy 97 = .ok (.aload_n 0, 1) := by decide +kernel
theorem dX11_copy_98 : decode cX11_copy 98 = .ok (.getfield 31, 3) := by decide +kernel
theorem dX11_copy_101 : decode cX11_copy 101 = .ok (.iload_n 3, 1) := by decide +kernel
theorem dX11_copy_102 : decode cX11_copy 102 = .ok (.iaload, 1) := by decide +kernel
theorem dX11_copy_103 : decode cX11_copy 103 = .ok (.iload 4, 2) := by decide +kernel
theorem dX11_copy_105 : decode cX11_copy 105 = .ok (.isub, 1) := by decide +kernel
theorem dX11_copy_106 : decode cX11_copy 106 = .ok (.if_icmp .le 10, 3) := by decide +kernel
theorem dX11_copy_109 : decode cX11_copy 109 = .ok (.aload_n 0, 1) := by decide +kernel
theorem dX11_copy_110 : decode cX11_copy 110 = .ok (.ldc 38, 2) := by decide +kernel
theorem dX11_copy_112 : decode cX11_copy 112 = .ok (.invokevirtual 40, 3) := by decide +kernel
theorem dX11_copy_115 : decode cX11_copy 115 = .ok (.ireturn, 1) := by decide +kernel
theorem dX11_copy_116 : decode cX11_copy 116 = .ok (.bipush 40, 2) := by decide +kernel
theorem dX11_copy_118 : decode cX11_copy 118 = .ok (.iload_n 1, 1) := by decide +kernel
theorem dX11_copy_119 : decode cX11_copy 119 = .ok (.imul, 1) := by decide +kernel
theorem dX11_copy_120 : decode cX11_copy 120 = .ok (.iload_n 2, 1) := by decide +kernel
theorem dX11_copy_121 : decode cX11_copy 121 = .ok (.iadd, 1) := by decide +kernel
theorem dX11_copy_122 : decode cX11_copy 122 = .ok (.istore 6, 2) := by decide +kernel
theorem dX11_copy_124 : decode cX11_copy 124 = .ok (.bipush 40, 2) := by decide +kernel
theorem dX11_copy_126 : decode cX11_copy 126 = .ok (.iload_n 3, 1) := by decide +kernel
theorem dX11_copy_127 : decode cX11_copy 127 = .ok (.imul, 1) := by decide +kernel
theorem dX11_copy_128 : decode cX11_copy 128 = .ok (.iload 4, 2) := by decide +kernel
theorem dX11_copy_130 : decode cX11_copy 130 = .ok (.iadd, 1) := by decide +kernel
theorem dX11_copy_131 : decode cX11_copy 131 = .ok (.istore 7, 2) := by decide +kernel
theorem dX11_copy_133 : decode cX11_copy 133 = .ok (.iconst 0, 1) := by decide +kernel
theorem dX11_copy_134 : decode cX11_copy 134 = .ok (.istore 8, 2) := by decide +kernel
theorem dX11_copy_136 : decode cX11_copy 136 = .ok (.iload 8, 2) := by decide +kernel
theorem dX11_copy_138 : decode cX11_copy 138 = .ok (.iload 5, 2) := by decide +kernel
theorem dX11_copy_140 : decode cX11_copy 140 = .ok (.if_icmp .ge 50, 3) := by decide +kernel
theorem dX11_copy_143 : decode cX11_copy 143 = .ok (.iload 6, 2) := by decide +kernel
theorem dX11_copy_145 : decode cX11_copy 145 = .ok (.iload 7, 2) := by decide +kernel
theorem dX11_copy_147 : decode cX11_copy 147 = .ok (.if_icmp .ge 13, 3) := by decide +kernel
theorem dX11_copy_150 : decode cX11_copy 150 = .ok (.iload 5, 2) := by decide +kernel
theorem dX11_copy_152 : decode cX11_copy 152 = .ok (.iconst 1, 1) := by decide +kernel
theorem dX11_copy_153 : decode cX11_copy 153 = .ok (.isub, 1) := by decide +kernel
theorem dX11_copy_154 : decode cX11_copy 154 = .ok (.iload 8, 2) := by decide +kernel
theorem dX11_copy_156 : decode cX11_copy 156 = .ok (.isub, 1) := by decide +kernel
theorem dX11_copy_157 : decode cX11_copy 157 = .ok (.goto 5, 3) := by decide +kernel
theorem dX11_copy_160 : decode cX11_copy 160 = .ok (.iload 8, 2) := by decide +kernel
theorem dX11_copy_162 : decode cX11_copy 162 = .ok (.istore 9, 2) := by decide +kernel
theorem dX11_copy_164 : decode cX11_copy 164 = .ok (.aload_n 0, 1) := by decide +kernel
theorem dX11_copy_165 : decode cX11_copy 165 = .ok (.getfield 34, 3) := by decide +kernel
theorem dX11_copy_168 : decode cX11_copy 168 = .ok (.iload 7, 2) := by decide +kernel
theorem dX11_copy_170 : decode cX11_copy 170 = .ok (.iload 9, 2) := by decide +kernel
theorem dX11_copy_172 : decode cX11_copy 172 = .ok (.iadd, 1) := by decide +kernel
theorem dX11_copy_173 : decode cX11_copy 173 = .ok (.aload_n 0, 1) := by decide +kernel
theorem dX11_copy_174 : decode cX11_copy 174 = .ok (.getfield 34, 3) := by decide +kernel
theorem dX11_copy_177 : decode cX11_copy 177 = .ok (.iload 6, 2) := by decide +kernel
theorem dX11_copy_179 : decode cX11_copy 179 = .ok (.iload 9, 2) := by decide +kernel
theorem dX11_copy_181 : decode cX11_copy 181 = .ok (.iadd, 1) := by decide +kernel
theorem dX11_copy_182 : decode cX11_copy 182 = .ok (.laload, 1) := by decide +kernel
theorem dX11_copy_183 : decode cX11_copy 183 = .ok (.lastore, 1) := by decide +kernel
theorem dX11_copy_184 : decode cX11_copy 184 = .ok (.iinc 8 1, 3) := by decide +kernel
theorem dX11_copy_187 : decode cX11_copy 187 = .ok (.goto (-51), 3) := by decide +kernel
theorem dX11_copy_190 : decode cX11_copy 190 = .ok (.iload 5, 2) := by decide +kernel
theorem dX11_copy_192 : decode cX11_copy 192 = .ok (.ireturn, 1) := by decide +kernel
theorem dX11_wants_0 : decode cX11_wants 0 = .ok (.iload_n 1, 1) := by decide +kernel
theorem dX11_wants_1 : decode cX11_wants 1 = .ok (.invokestatic 244, 3) := by decide +kernel
theorem dX11_wants_4 : decode cX11_wants 4 = .ok (.ifCond .ne 8, 3) := by decide +kernel
theorem dX11_wants_7 : decode cX11_wants 7 = .ok (.ldc 38, 2) := by decide +kernel
theorem dX11_wants_9 : decode cX11_wants 9 = .ok (.goto 18, 3) := by decide +kernel
theorem dX11_wants_12 : decode cX11_wants 12 = .ok (.aload_n 0, 1) := by decide +kernel
theorem dX11_wants_13 : decode cX11_wants 13 = .ok (.getfield 28, 3) := by decide +kernel
theorem dX11_wants_16 : decode cX11_wants 16 = .ok (.iload_n 1, 1) := by decide +kernel
theorem dX11_wants_17 : decode cX11_wants 17 = .ok (.iaload, 1) := by decide +kernel
theorem dX11_wants_18 : decode cX11_wants 18 = .ok (.ifCond .ge 8, 3) := by decide +kernel
theorem dX11_wants_21 : decode cX11_wants 21 = .ok (.ldc 248, 2) := by decide +kernel
theorem dX11_wants_23 : decode cX11_wants 23 = .ok (.goto 4, 3) := by decide +kernel
theorem dX11_wants_26 : decode cX11_wants 26 = .ok (.iconst 0, 1) := by decide +kernel
theorem dX11_wants_27 : decode cX11_wants 27 = .ok (.ireturn, 1) := by decide +kernel
theorem dX11_lays_0 : decode cX11_lays 0 = .ok (.aload_n 0, 1) := by decide +kernel
theorem dX11_lays_1 : decode cX11_lays 1 = .ok (.iload_n 1, 1) := by decide +kernel
theorem dX11_lays_2 : decode cX11_lays 2 = .ok (.invokevirtual 253, 3) := by decide +kernel
theorem dX11_lays_5 : decode cX11_lays 5 = .ok (.ifCond .eq 13, 3) := by decide +kernel
theorem dX11_lays_8 : decode cX11_lays 8 = .ok (.aload_n 0, 1) := by decide +kernel
theorem dX11_lays_9 : decode cX11_lays 9 = .ok (.aload_n 0, 1) := by decide +kernel
theorem dX11_lays_10 : decode cX11_lays 10 = .ok (.iload_n 1, 1) := by decide +kernel
theorem dX11_lays_11 : decode cX11_lays 11 = .ok (.invokevirtual 253, 3) := by decide +kernel
theorem dX11_lays_14 : decode cX11_lays 14 = .ok (.invokevirtual 40, 3) := by decide +kernel
theorem dX11_lays_17 : decode cX11_lays 17 = .ok (.ireturn, 1) := by decide +kernel
theorem dX11_lays_18 : decode cX11_lays 18 = .ok (.iconst 0, 1) := by decide +kernel
theorem dX11_lays_19 : decode cX11_lays 19 = .ok (.istore_n 2, 1) := by decide +kernel
theorem dX11_lays_20 : decode cX11_lays 20 = .ok (.iconst 0, 1) := by decide +kernel
theorem dX11_lays_21 : decode cX11_lays 21 = .ok (.istore_n 3, 1) := by decide +kernel
theorem dX11_lays_22 : decode cX11_lays 22 = .ok (.iload_n 3, 1) := by decide +kernel
theorem dX11_lays_23 : decode cX11_lays 23 = .ok (.aload_n 0, 1) := by decide +kernel
theorem dX11_lays_24 : decode cX11_lays 24 = .ok (.getfield 31, 3) := by decide +kernel
theorem dX11_lays_27 : decode cX11_lays 27 = .ok (.iload_n 1, 1) := by decide +kernel
theorem dX11_lays_28 : decode cX11_lays 28 = .ok (.iaload, 1) := by decide +kernel
theorem dX11_lays_29 : decode cX11_lays 29 = .ok (.if_icmp .ge 57, 3) := by decide +kernel
theorem dX11_lays_32 : decode cX11_lays 32 = .ok (.iload_n 3, 1) := by decide +kernel
theorem dX11_lays_33 : decode cX11_lays 33 = .ok (.aload_n 0, 1) := by decide +kernel
theorem dX11_lays_34 : decode cX11_lays 34 = .ok (.getfield 7, 3) := by decide +kernel
theorem dX11_lays_37 : decode cX11_lays 37 = .ok (.iconst 0, 1) := by decide +kernel
theorem dX11_lays_38 : decode cX11_lays 38 = .ok (.iaload, 1) := by decide +kernel
theorem dX11_lays_39 : decode cX11_lays 39 = .ok (.if_icmp .ge 47, 3) := by decide +kernel
theorem dX11_lays_42 : decode cX11_lays 42 = .ok (.aload_n 0, 1) := by decide +kernel
theorem dX11_lays_43 : decode cX11_lays 43 = .ok (.getfield 34, 3) := by decide +kernel
theorem dX11_lays_46 : decode cX11_lays 46 = .ok (.bipush 40, 2) := by decide +kernel
theorem dX11_lays_48 : decode cX11_lays 48 = .ok (.iload_n 1, 1) := by decide +kernel
theorem dX11_lays_49 : decode cX11_lays 49 = .ok (.imul, 1) := by decide +kernel
theorem dX11_lays_50 : decode cX11_lays 50 = .ok (.iload_n 3, 1) := by decide +kernel
theorem dX11_lays_51 : decode cX11_lays 51 = .ok (.iadd, 1) := by decide +kernel
theorem dX11_lays_52 : decode cX11_lays 52 = .ok (.laload, 1) := by decide +kernel
theorem dX11_lays_53 : decode cX11_lays 53 = .ok (.lstore 4, 2) := by decide +kernel
theorem dX11_lays_55 : decode cX11_lays 55 = .ok (.lload 4, 2) := by decide +kernel
theorem dX11_lays_57 : decode cX11_lays 57 = .ok (.lconst 0, 1) := by decide +kernel
theorem dX11_lays_58 : decode cX11_lays 58 = .ok (.ldc2_w 44, 3) := by decide +kernel
theorem dX11_lays_61 : decode cX11_lays 61 = .ok (.invokestatic 46, 3) := by decide +kernel
theorem dX11_lays_64 : decode cX11_lays 64 = .ok (.ifCond .eq 16, 3) := by decide +kernel
theorem dX11_lays_67 : decode cX11_lays 67 = .ok (.aload_n 0, 1) := by decide +kernel
theorem dX11_lays_68 : decode cX11_lays 68 = .ok (.iload_n 3, 1) := by decide +kernel
theorem dX11_lays_69 : decode cX11_lays 69 = .ok (.lload 4, 2) := by decide +kernel
theorem dX11_lays_71 : decode cX11_lays 71 = .ok (.l2i, 1) := by decide +kernel
theorem dX11_lays_72 : decode cX11_lays 72 = .ok (.invokevirtual 100, 3) := by decide +kernel
theorem dX11_lays_75 : decode cX11_lays 75 = .ok (.istore 6, 2) := by decide +kernel
theorem dX11_lays_77 : decode cX11_lays 77 = .ok (.iinc 2 1, 3) := by decide +kernel
theorem dX11_lays_80 : decode cX11_lays 80 = .ok (.iinc 3 1, 3) := by decide +kernel
theorem dX11_lays_83 : decode cX11_lays 83 = .ok (.goto (-61), 3) := by decide +kernel
theorem dX11_lays_86 : decode cX11_lays 86 = .ok (.iload_n 2, 1) := by decide +kernel
theorem dX11_lays_87 : decode cX11_lays 87 = .ok (.ireturn, 1) := by decide +kernel
theorem dX11_book_0 : decode cX11_book 0 = .ok (.aload_n 0, 1) := by decide +kernel
theorem dX11_book_1 : decode cX11_book 1 = .ok (.iload_n 1, 1) := by decide +kernel
theorem dX11_book_2 : decode cX11_book 2 = .ok (.invokevirtual 253, 3) := by decide +kernel
theorem dX11_book_5 : decode cX11_book 5 = .ok (.ifCond .eq 11, 3) := by decide +kernel
theorem dX11_book_8 : decode cX11_book 8 = .ok (.aload_n 0, 1) := by decide +kernel
theorem dX11_book_9 : decode cX11_book 9 = .ok (.iload_n 1, 1) := by decide +kernel
theorem dX11_book_10 : decode cX11_book 10 = .ok (.invokevirtual 253, 3) := by decide +kernel
theorem dX11_book_13 : decode cX11_book 13 = .ok (.goto 17, 3) := by decide +kernel
theorem dX11_book_16 : decode cX11_book 16 = .ok (.aload_n 0, 1) := by decide +kernel
theorem dX11_book_17 : decode cX11_book 17 = .ok (.iload_n 2, 1) := by decide +kernel
theorem dX11_book_18 : decode cX11_book 18 = .ok (.invokevirtual 83, 3) := by decide +kernel
theorem dX11_book_21 : decode cX11_book 21 = .ok (.ifCond .eq 7, 3) := by decide +kernel
theorem dX11_book_24 : decode cX11_book 24 = .ok (.iconst 0, 1) := by decide +kernel
theorem dX11_book_25 : decode cX11_book 25 = .ok (.goto 5, 3) := by decide +kernel
theorem dX11_book_28 : decode cX11_book 28 = .ok (.ldc 38, 2) := by decide +kernel
theorem dX11_book_30 : decode cX11_book 30 = .ok (.istore_n 3, 1) := by decide +kernel
theorem dX11_book_31 : decode cX11_book 31 = .ok (.iload_n 3, 1) := by decide +kernel
theorem dX11_book_32 : decode cX11_book 32 = .ok (.ifCond .eq 9, 3) := by decide +kernel
theorem dX11_book_35 : decode cX11_book 35 = .ok (.aload_n 0, 1) := by decide +kernel
theorem dX11_book_36 : decode cX11_book 36 = .ok (.iload_n 3, 1) := by decide +kernel
theorem dX11_book_37 : decode cX11_book 37 = .ok (.invokevirtual 40, 3) := by decide +kernel
theorem dX11_book_40 : decode cX11_book 40 = .ok (.ireturn, 1) := by decide +kernel
theorem dX11_book_41 : decode cX11_book 41 = .ok (.aload_n 0, 1) := by decide +kernel
theorem dX11_book_42 : decode cX11_book 42 = .ok (.getfield 7, 3) := by decide +kernel
theorem dX11_book_45 : decode cX11_book 45 = .ok (.aload_n 0, 1) := by decide +kernel
theorem dX11_book_46 : decode cX11_book 46 = .ok (.getfield 19, 3) := by decide +kernel
theorem dX11_book_49 : decode cX11_book 49 = .ok (.invokestatic 151, 3) := by decide +kernel
theorem dX11_book_52 : decode cX11_book 52 = .ok (.iconst 0, 1) := by decide +kernel
theorem dX11_book_53 : decode cX11_book 53 = .ok (.istore 4, 2) := by decide +kernel
theorem dX11_book_55 : decode cX11_book 55 = .ok (.iload 4, 2) := by decide +kernel
theorem dX11_book_57 : decode cX11_book 57 = .ok (.aload_n 0, 1) := by decide +kernel
theorem dX11_book_58 : decode cX11_book 58 = .ok (.getfield 31, 3) := by decide +kernel
theorem dX11_book_61 : decode cX11_book 61 = .ok (.iload_n 1, 1) := by decide +kernel
theorem dX11_book_62 : decode cX11_book 62 = .ok (.iaload, 1) := by decide +kernel
theorem dX11_book_63 : decode cX11_book 63 = .ok (.if_icmp .ge 41, 3) := by decide +kernel
theorem dX11_book_66 : decode cX11_book 66 = .ok (.aload_n 0, 1) := by decide +kernel
theorem dX11_book_67 : decode cX11_book 67 = .ok (.getfield 34, 3) := by decide +kernel
theorem dX11_book_70 : decode cX11_book 70 = .ok (.bipush 40, 2) := by decide +kernel
theorem dX11_book_72 : decode cX11_book 72 = .ok (.iload_n 1, 1) := by decide +kernel
theorem dX11_book_73 : decode cX11_book 73 = .ok (.imul, 1) := by decide +kernel
theorem dX11_book_74 : decode cX11_book 74 = .ok (.iload 4, 2) := by decide +kernel
theorem dX11_book_76 : decode cX11_book 76 = .ok (.iadd, 1) := by decide +kernel
theorem dX11_book_77 : decode cX11_book 77 = .ok (.aload_n 0, 1) := by decide +kernel
theorem dX11_book_78 : decode cX11_book 78 = .ok (.getfield 28, 3) := by decide +kernel
theorem dX11_book_81 : decode cX11_book 81 = .ok (.iload_n 1, 1) := by decide +kernel
theorem dX11_book_82 : decode cX11_book 82 = .ok (.iaload, 1) := by decide +kernel
theorem dX11_book_83 : decode cX11_book 83 = .ok (.aload_n 0, 1) := by decide +kernel
theorem dX11_book_84 : decode cX11_book 84 = .ok (.iload_n 2, 1) := by decide +kernel
theorem dX11_book_85 : decode cX11_book 85 = .ok (.iconst 1, 1) := by decide +kernel
theorem dX11_book_86 : decode cX11_book 86 = .ok (.invokevirtual 58, 3) := by decide +kernel
theorem dX11_book_89 : decode cX11_book 89 = .ok (.i2l, 1) := by decide +kernel
theorem dX11_book_90 : decode cX11_book 90 = .ok (.invokestatic 249, 3) := by decide +kernel
theorem dX11_book_93 : decode cX11_book 93 = .ok (.lastore, 1) := by decide +kernel
theorem dX11_book_94 : decode cX11_book 94 = .ok (.aload_n 0, 1) := by decide +kernel
theorem dX11_book_95 : decode cX11_book 95 = .ok (.invokevirtual 131, 3) := by decide +kernel
theorem dX11_book_98 : decode cX11_book 98 = .ok (.iinc 4 1, 3) := by decide +kernel
theorem dX11_book_101 : decode cX11_book 101 = .ok (.goto (-46), 3) := by decide +kernel
theorem dX11_book_104 : decode cX11_book 104 = .ok (.aload_n 0, 1) := by decide +kernel
theorem dX11_book_105 : decode cX11_book 105 = .ok (.getfield 19, 3) := by decide +kernel
theorem dX11_book_108 : decode cX11_book 108 = .ok (.aload_n 0, 1) := by decide +kernel
theorem dX11_book_109 : decode cX11_book 109 = .ok (.getfield 7, 3) := by decide +kernel
theorem dX11_book_112 : decode cX11_book 112 = .ok (.invokestatic 151, 3) := by decide +kernel
theorem dX11_book_115 : decode cX11_book 115 = .ok (.aload_n 0, 1) := by decide +kernel
theorem dX11_book_116 : decode cX11_book 116 = .ok (.getfield 31, 3) := by decide +kernel
theorem dX11_book_119 : decode cX11_book 119 = .ok (.iload_n 1, 1) := by decide +kernel
theorem dX11_book_120 : decode cX11_book 120 = .ok (.iaload, 1) := by decide +kernel
theorem dX11_book_121 : decode cX11_book 121 = .ok (.ireturn, 1) := by decide +kernel
theorem dX11_isSo_0 : decode cX11_isSo 0 = .ok (.iconst 1, 1) := by decide +kernel
theorem dX11_isSo_1 : decode cX11_isSo 1 = .ok (.istore_n 3, 1) := by decide +kernel
theorem dX11_isSo_2 : decode cX11_isSo 2 = .ok (.iconst 0, 1) := by decide +kernel
theorem dX11_isSo_3 : decode cX11_isSo 3 = .ok (.istore 4, 2) := by decide +kernel
theorem dX11_isSo_5 : decode cX11_isSo 5 = .ok (.iload 4, 2) := by decide +kernel
theorem dX11_isSo_7 : decode cX11_isSo 7 = .ok (.aload_n 0, 1) := by decide +kernel
theorem dX11_isSo_8 : decode cX11_isSo 8 = .ok (.getfield 31, 3) := by decide +kernel
theorem dX11_isSo_11 : decode cX11_isSo 11 = .ok (.iload_n 1, 1) := by decide +kernel
theorem dX11_isSo_12 : decode cX11_isSo 12 = .ok (.iaload, 1) := by decide +kernel
theorem dX11_isSo_13 : decode cX11_isSo 13 = .ok (.if_icmp .ge 46, 3) := by decide +kernel
theorem dX11_isSo_16 : decode cX11_isSo 16 = .ok (.iload_n 3, 1) := by decide +kernel
theorem dX11_isSo_17 : decode cX11_isSo 17 = .ok (.ifCond .eq 42, 3) := by decide +kernel
theorem dX11_isSo_20 : decode cX11_isSo 20 = .ok (.aload_n 0, 1) := by decide +kernel
theorem dX11_isSo_21 : decode cX11_isSo 21 = .ok (.getfield 34, 3) := by decide +kernel
theorem dX11_isSo_24 : decode cX11_isSo 24 = .ok (.bipush 40, 2) := by decide +kernel
theorem dX11_isSo_26 : decode cX11_isSo 26 = .ok (.iload_n 1, 1) := by decide +kernel
theorem dX11_isSo_27 : decode cX11_isSo 27 = .ok (.imul, 1) := by decide +kernel
theorem dX11_isSo_28 : decode cX11_isSo 28 = .ok (.iload 4, 2) := by decide +kernel
theorem dX11_isSo_30 : decode cX11_isSo 30 = .ok (.iadd, 1) := by decide +kernel
theorem dX11_isSo_31 : decode cX11_isSo 31 = .ok (.laload, 1) := by decide +kernel
theorem dX11_isSo_32 : decode cX11_isSo 32 = .ok (.aload_n 0, 1) := by decide +kernel
theorem dX11_isSo_33 : decode cX11_isSo 33 = .ok (.iload_n 2, 1) := by decide +kernel
theorem dX11_isSo_34 : decode cX11_isSo 34 = .ok (.iconst 1, 1) := by decide +kernel
theorem dX11_isSo_35 : decode cX11_isSo 35 = .ok (.invokevirtual 58, 3) := by decide +kernel
theorem dX11_isSo_38 : decode cX11_isSo 38 = .ok (.i2l, 1) := by decide +kernel
theorem dX11_isSo_39 : decode cX11_isSo 39 = .ok (.lcmp, 1) := by decide +kernel
theorem dX11_isSo_40 : decode cX11_isSo 40 = .ok (.ifCond .ne 7, 3) := by decide +kernel
theorem dX11_isSo_43 : decode cX11_isSo 43 = .ok (.iconst 1, 1) := by decide +kernel
theorem dX11_isSo_44 : decode cX11_isSo 44 = .ok (.goto 4, 3) := by decide +kernel
theorem dX11_isSo_47 : decode cX11_isSo 47 = .ok (.iconst 0, 1) := by decide +kernel
theorem dX11_isSo_48 : decode cX11_isSo 48 = .ok (.istore_n 3, 1) := by decide +kernel
theorem dX11_isSo_49 : decode cX11_isSo 49 = .ok (.aload_n 0, 1) := by decide +kernel
theorem dX11_isSo_50 : decode cX11_isSo 50 = .ok (.invokevirtual 131, 3) := by decide +kernel
theorem dX11_isSo_53 : decode cX11_isSo 53 = .ok (.iinc 4 1, 3) := by decide +kernel
theorem dX11_isSo_56 : decode cX11_isSo 56 = .ok (.goto (-51), 3) := by decide +kernel
theorem dX11_isSo_59 : decode cX11_isSo 59 = .ok (.iload_n 3, 1) := by decide +kernel
theorem dX11_isSo_60 : decode cX11_isSo 60 = .ok (.ireturn, 1) := by decide +kernel
theorem dX11_read_0 : decode cX11_read 0 = .ok (.aload_n 0, 1) := by decide +kernel
theorem dX11_read_1 : decode cX11_read 1 = .ok (.iload_n 1, 1) := by decide +kernel
theorem dX11_read_2 : decode cX11_read 2 = .ok (.invokevirtual 253, 3) := by decide +kernel
theorem dX11_read_5 : decode cX11_read 5 = .ok (.ifCond .eq 11, 3) := by decide +kernel
theorem dX11_read_8 : decode cX11_read 8 = .ok (.aload_n 0, 1) := by decide +kernel
theorem dX11_read_9 : decode cX11_read 9 = .ok (.iload_n 1, 1) := by decide +kernel
theorem dX11_read_10 : decode cX11_read 10 = .ok (.invokevirtual 253, 3) := by decide +kernel
theorem dX11_read_13 : decode cX11_read 13 = .ok (.goto 30, 3) := by decide +kernel
theorem dX11_read_16 : decode cX11_read 16 = .ok (.aload_n 0, 1) := by decide +kernel
theorem dX11_read_17 : decode cX11_read 17 = .ok (.iload_n 2, 1) := by decide +kernel
theorem dX11_read_18 : decode cX11_read 18 = .ok (.invokevirtual 83, 3) := by decide +kernel
theorem dX11_read_21 : decode cX11_read 21 = .ok (.ifCond .eq 20, 3) := by decide +kernel
theorem dX11_read_24 : decode cX11_read 24 = .ok (.aload_n 0, 1) := by decide +kernel
theorem dX11_read_25 : decode cX11_read 25 = .ok (.iload_n 3, 1) := by decide +kernel

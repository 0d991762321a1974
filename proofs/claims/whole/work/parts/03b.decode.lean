theorem dX8_hear_6 : decode cX8_hear 6 = .ok (.getfield 15, 3) := by decide +kernel
theorem dX8_hear_9 : decode cX8_hear 9 = .ok (.iload_n 3, 1) := by decide +kernel
theorem dX8_hear_10 : decode cX8_hear 10 = .ok (.ior, 1) := by decide +kernel
theorem dX8_hear_11 : decode cX8_hear 11 = .ok (.putfield 15, 3) := by decide +kernel
theorem dX8_hear_14 : decode cX8_hear 14 = .ok (.aload_n 0, 1) := by decide +kernel
theorem dX8_hear_15 : decode cX8_hear 15 = .ok (.iload_n 2, 1) := by decide +kernel
theorem dX8_hear_16 : decode cX8_hear 16 = .ok (.ifCond .eq 12, 3) := by decide +kernel
theorem dX8_hear_19 : decode cX8_hear 19 = .ok (.aload_n 0, 1) := by decide +kernel
theorem dX8_hear_20 : decode cX8_hear 20 = .ok (.getfield 18, 3) := by decide +kernel
theorem dX8_hear_23 : decode cX8_hear 23 = .ok (.iload_n 3, 1) := by decide +kernel
theorem dX8_hear_24 : decode cX8_hear 24 = .ok (.ior, 1) := by decide +kernel
theorem dX8_hear_25 : decode cX8_hear 25 = .ok (.goto 11, 3) := by decide +kernel
theorem dX8_hear_28 : decode cX8_hear 28 = .ok (.aload_n 0, 1) := by decide +kernel
theorem dX8_hear_29 : decode cX8_hear 29 = .ok (.getfield 18, 3) := by decide +kernel
theorem dX8_hear_32 : decode cX8_hear 32 = .ok (.iload_n 3, 1) := by decide +kernel
theorem dX8_hear_33 : decode cX8_hear 33 = .ok (.iconst (-1), 1) := by decide +kernel
theorem dX8_hear_34 : decode cX8_hear 34 = .ok (.ixor, 1) := by decide +kernel
theorem dX8_hear_35 : decode cX8_hear 35 = .ok (.iand, 1) := by decide +kernel
theorem dX8_hear_36 : decode cX8_hear 36 = .ok (.putfield 18, 3) := by decide +kernel
theorem dX8_hear_39 : decode cX8_hear 39 = .ok (.aload_n 0, 1) := by decide +kernel
theorem dX8_hear_40 : decode cX8_hear 40 = .ok (.aload_n 0, 1) := by decide +kernel
theorem dX8_hear_41 : decode cX8_hear 41 = .ok (.getfield 21, 3) := by decide +kernel
theorem dX8_hear_44 : decode cX8_hear 44 = .ok (.iconst 1, 1) := by decide +kernel
theorem dX8_hear_45 : decode cX8_hear 45 = .ok (.iadd, 1) := by decide +kernel
theorem dX8_hear_46 : decode cX8_hear 46 = .ok (.sipush 9999, 3) := by decide +kernel
theorem dX8_hear_49 : decode cX8_hear 49 = .ok (.invokestatic 34, 3) := by decide +kernel
theorem dX8_hear_52 : decode cX8_hear 52 = .ok (.putfield 21, 3) := by decide +kernel
theorem dX8_hear_55 : decode cX8_hear 55 = .ok (.return_, 1) := by decide +kernel
theorem dX8_hearItself_0 : decode cX8_hearItself 0 = .ok (.aload_n 0, 1) := by decide +kernel
theorem dX8_hearItself_1 : decode cX8_hearItself 1 = .ok (.getfield 15, 3) := by decide +kernel
theorem dX8_hearItself_4 : decode cX8_hearItself 4 = .ok (.iload_n 1, 1) := by decide +kernel
theorem dX8_hearItself_5 : decode cX8_hearItself 5 = .ok (.invokestatic 40, 3) := by decide +kernel
theorem dX8_hearItself_8 : decode cX8_hearItself 8 = .ok (.ifCond .eq 15, 3) := by decide +kernel
theorem dX8_hearItself_11 : decode cX8_hearItself 11 = .ok (.aload_n 0, 1) := by decide +kernel
theorem dX8_hearItself_12 : decode cX8_hearItself 12 = .ok (.dup, 1) := by decide +kernel
theorem dX8_hearItself_13 : decode cX8_hearItself 13 = .ok (.getfield 18, 3) := by decide +kernel
theorem dX8_hearItself_16 : decode cX8_hearItself 16 = .ok (.iconst 1, 1) := by decide +kernel
theorem dX8_hearItself_17 : decode cX8_hearItself 17 = .ok (.iload_n 1, 1) := by decide +kernel
theorem dX8_hearItself_18 : decode cX8_hearItself 18 = .ok (.ishl, 1) := by decide +kernel
theorem dX8_hearItself_19 : decode cX8_hearItself 19 = .ok (.ior, 1) := by decide +kernel
theorem dX8_hearItself_20 : decode cX8_hearItself 20 = .ok (.putfield 18, 3) := by decide +kernel
theorem dX8_hearItself_23 : decode cX8_hearItself 23 = .ok (.return_, 1) := by decide +kernel
theorem dX9_init_0 : decode cX9_init 0 = .ok (.aload_n 0, 1) := by decide +kernel
theorem dX9_init_1 : decode cX9_init 1 = .ok (.invokespecial 3, 3) := by decide +kernel
theorem dX9_init_4 : decode cX9_init 4 = .ok (.return_, 1) := by decide +kernel
theorem dX9_says_0 : decode cX9_says 0 = .ok (.iconst (-1), 1) := by decide +kernel
theorem dX9_says_1 : decode cX9_says 1 = .ok (.ireturn, 1) := by decide +kernel
theorem dX9_believes_0 : decode cX9_believes 0 = .ok (.aload_n 0, 1) := by decide +kernel
theorem dX9_believes_1 : decode cX9_believes 1 = .ok (.iload_n 1, 1) := by decide +kernel
theorem dX9_believes_2 : decode cX9_believes 2 = .ok (.iload_n 2, 1) := by decide +kernel
theorem dX9_believes_3 : decode cX9_believes 3 = .ok (.invokespecial 9, 3) := by decide +kernel
theorem dX9_believes_6 : decode cX9_believes 6 = .ok (.ifCond .ne 8, 3) := by decide +kernel
theorem dX9_believes_9 : decode cX9_believes 9 = .ok (.iload_n 2, 1) := by decide +kernel
theorem dX9_believes_10 : decode cX9_believes 10 = .ok (.iconst 5, 1) := by decide +kernel
theorem dX9_believes_11 : decode cX9_believes 11 = .ok (.if_icmp .lt 7, 3) := by decide +kernel
theorem dX9_believes_14 : decode cX9_believes 14 = .ok (.iconst 1, 1) := by decide +kernel
theorem dX9_believes_15 : decode cX9_believes 15 = .ok (.goto 4, 3) := by decide +kernel
theorem dX9_believes_18 : decode cX9_believes 18 = .ok (.iconst 0, 1) := by decide +kernel
theorem dX9_believes_19 : decode cX9_believes 19 = .ok (.ireturn, 1) := by decide +kernel
theorem dX9_stays_0 : decode cX9_stays 0 = .ok (.iconst 2, 1) := by decide +kernel
theorem dX9_stays_1 : decode cX9_stays 1 = .ok (.aload_n 0, 1) := by decide +kernel
theorem dX9_stays_2 : decode cX9_stays 2 = .ok (.aload_n 1, 1) := by decide +kernel
theorem dX9_stays_3 : decode cX9_stays 3 = .ok (.invokespecial 13, 3) := by decide +kernel
theorem dX9_stays_6 : decode cX9_stays 6 = .ok (.imul, 1) := by decide +kernel
theorem dX9_stays_7 : decode cX9_stays 7 = .ok (.ireturn, 1) := by decide +kernel
theorem dX10_init_0 : decode cX10_init 0 = .ok (.aload_n 0, 1) := by decide +kernel
theorem dX10_init_1 : decode cX10_init 1 = .ok (.invokespecial 1, 3) := by decide +kernel
theorem dX10_init_4 : decode cX10_init 4 = .ok (.bipush 6, 2) := by decide +kernel
theorem dX10_init_6 : decode cX10_init 6 = .ok (.anewarray 7, 3) := by decide +kernel
theorem dX10_init_9 : decode cX10_init 9 = .ok (.dup, 1) := by decide +kernel
theorem dX10_init_10 : decode cX10_init 10 = .ok (.iconst 0, 1) := by decide +kernel
theorem dX10_init_11 : decode cX10_init 11 = .ok (.new 7, 3) := by decide +kernel
theorem dX10_init_14 : decode cX10_init 14 = .ok (.dup, 1) := by decide +kernel
theorem dX10_init_15 : decode cX10_init 15 = .ok (.invokespecial 9, 3) := by decide +kernel
theorem dX10_init_18 : decode cX10_init 18 = .ok (.aastore, 1) := by decide +kernel
theorem dX10_init_19 : decode cX10_init 19 = .ok (.dup, 1) := by decide +kernel
theorem dX10_init_20 : decode cX10_init 20 = .ok (.iconst 1, 1) := by decide +kernel
theorem dX10_init_21 : decode cX10_init 21 = .ok (.new 10, 3) := by decide +kernel
theorem dX10_init_24 : decode cX10_init 24 = .ok (.dup, 1) := by decide +kernel
theorem dX10_init_25 : decode cX10_init 25 = .ok (.invokespecial 12, 3) := by decide +kernel
theorem dX10_init_28 : decode cX10_init 28 = .ok (.aastore, 1) := by decide +kernel
theorem dX10_init_29 : decode cX10_init 29 = .ok (.dup, 1) := by decide +kernel
theorem dX10_init_30 : decode cX10_init 30 = .ok (.iconst 2, 1) := by decide +kernel
theorem dX10_init_31 : decode cX10_init 31 = .ok (.new 13, 3) := by decide +kernel
theorem dX10_init_34 : decode cX10_init 34 = .ok (.dup, 1) := by decide +kernel
theorem dX10_init_35 : decode cX10_init 35 = .ok (.invokespecial 15, 3) := by decide +kernel
theorem dX10_init_38 : decode cX10_init 38 = .ok (.aastore, 1) := by decide +kernel
theorem dX10_init_39 : decode cX10_init 39 = .ok (.dup, 1) := by decide +kernel
theorem dX10_init_40 : decode cX10_init 40 = .ok (.iconst 3, 1) := by decide +kernel
theorem dX10_init_41 : decode cX10_init 41 = .ok (.new 16, 3) := by decide +kernel
theorem dX10_init_44 : decode cX10_init 44 = .ok (.dup, 1) := by decide +kernel
theorem dX10_init_45 : decode cX10_init 45 = .ok (.invokespecial 18, 3) := by decide +kernel
theorem dX10_init_48 : decode cX10_init 48 = .ok (.aastore, 1) := by decide +kernel
theorem dX10_init_49 : decode cX10_init 49 = .ok (.dup, 1) := by decide +kernel
theorem dX10_init_50 : decode cX10_init 50 = .ok (.iconst 4, 1) := by decide +kernel
theorem dX10_init_51 : decode cX10_init 51 = .ok (.new 19, 3) := by decide +kernel
theorem dX10_init_54 : decode cX10_init 54 = .ok (.dup, 1) := by decide +kernel
theorem dX10_init_55 : decode cX10_init 55 = .ok (.invokespecial 21, 3) := by decide +kernel
theorem dX10_init_58 : decode cX10_init 58 = .ok (.aastore, 1) := by decide +kernel
theorem dX10_init_59 : decode cX10_init 59 = .ok (.dup, 1) := by decide +kernel
theorem dX10_init_60 : decode cX10_init 60 = .ok (.iconst 5, 1) := by decide +kernel
theorem dX10_init_61 : decode cX10_init 61 = .ok (.new 22, 3) := by decide +kernel
theorem dX10_init_64 : decode cX10_init 64 = .ok (.dup, 1) := by decide +kernel
theorem dX10_init_65 : decode cX10_init 65 = .ok (.invokespecial 24, 3) := by decide +kernel
theorem dX10_init_68 : decode cX10_init 68 = .ok (.aastore, 1) := by decide +kernel
theorem dX10_init_69 : decode cX10_init 69 = .ok (.astore_n 1, 1) := by decide +kernel
theorem dX10_init_70 : decode cX10_init 70 = .ok (.aload_n 0, 1) := by decide +kernel
theorem dX10_init_71 : decode cX10_init 71 = .ok (.new 25, 3) := by decide +kernel
theorem dX10_init_74 : decode cX10_init 74 = .ok (.dup, 1) := by decide +kernel
theorem dX10_init_75 : decode cX10_init 75 = .ok (.aload_n 1, 1) := by decide +kernel
theorem dX10_init_76 : decode cX10_init 76 = .ok (.invokespecial 27, 3) := by decide +kernel
theorem dX10_init_79 : decode cX10_init 79 = .ok (.putfield 30, 3) := by decide +kernel
theorem dX10_init_82 : decode cX10_init 82 = .ok (.aload_n 0, 1) := by decide +kernel
theorem dX10_init_83 : decode cX10_init 83 = .ok (.new 25, 3) := by decide +kernel
theorem dX10_init_86 : decode cX10_init 86 = .ok (.dup, 1) := by decide +kernel
theorem dX10_init_87 : decode cX10_init 87 = .ok (.aload_n 1, 1) := by decide +kernel
theorem dX10_init_88 : decode cX10_init 88 = .ok (.invokespecial 27, 3) := by decide +kernel
theorem dX10_init_91 : decode cX10_init 91 = .ok (.putfield 36, 3) := by decide +kernel
theorem dX10_init_94 : decode cX10_init 94 = .ok (.aload_n 0, 1) := by decide +kernel
theorem dX10_init_95 : decode cX10_init 95 = .ok (.new 25, 3) := by decide +kernel
theorem dX10_init_98 : decode cX10_init 98 = .ok (.dup, 1) := by decide +kernel
theorem dX10_init_99 : decode cX10_init 99 = .ok (.aload_n 1, 1) := by decide +kernel
theorem dX10_init_100 : decode cX10_init 100 = .ok (.invokespecial 27, 3) := by decide +kernel
theorem dX10_init_103 : decode cX10_init 103 = .ok (.putfield 39, 3) := by decide +kernel
theorem dX10_init_106 : decode cX10_init 106 = .ok (.aload_n 0, 1) := by decide +kernel
theorem dX10_init_107 : decode cX10_init 107 = .ok (.iconst 0, 1) := by decide +kernel
theorem dX10_init_108 : decode cX10_init 108 = .ok (.putfield 42, 3) := by decide +kernel
theorem dX10_init_111 : decode cX10_init 111 = .ok (.aload_n 0, 1) := by decide +kernel
theorem dX10_init_112 : decode cX10_init 112 = .ok (.new 46, 3) := by decide +kernel
theorem dX10_init_115 : decode cX10_init 115 = .ok (.dup, 1) := by decide +kernel
theorem dX10_init_116 : decode cX10_init 116 = .ok (.invokespecial 48, 3) := by decide +kernel
theorem dX10_init_119 : decode cX10_init 119 = .ok (.putfield 49, 3) := by decide +kernel
theorem dX10_init_122 : decode cX10_init 122 = .ok (.aload_n 0, 1) := by decide +kernel
theorem dX10_init_123 : decode cX10_init 123 = .ok (.iconst 4, 1) := by decide +kernel
theorem dX10_init_124 : decode cX10_init 124 = .ok (.anewarray 53, 3) := by decide +kernel
theorem dX10_init_127 : decode cX10_init 127 = .ok (.putfield 55, 3) := by decide +kernel
theorem dX10_init_130 : decode cX10_init 130 = .ok (.iconst 0, 1) := by decide +kernel
theorem dX10_init_131 : decode cX10_init 131 = .ok (.istore_n 2, 1) := by decide +kernel
theorem dX10_init_132 : decode cX10_init 132 = .ok (.iload_n 2, 1) := by decide +kernel
theorem dX10_init_133 : decode cX10_init 133 = .ok (.iconst 4, 1) := by decide +kernel
theorem dX10_init_134 : decode cX10_init 134 = .ok (.if_icmp .ge 22, 3) := by decide +kernel
theorem dX10_init_137 : decode cX10_init 137 = .ok (.aload_n 0, 1) := by decide +kernel
theorem dX10_init_138 : decode cX10_init 138 = .ok (.getfield 55, 3) := by decide +kernel
theorem dX10_init_141 : decode cX10_init 141 = .ok (.iload_n 2, 1) := by decide +kernel
theorem dX10_init_142 : decode cX10_init 142 = .ok (.new 53, 3) := by decide +kernel
theorem dX10_init_145 : decode cX10_init 145 = .ok (.dup, 1) := by decide +kernel
theorem dX10_init_146 : decode cX10_init 146 = .ok (.invokespecial 59, 3) := by decide +kernel
theorem dX10_init_149 : decode cX10_init 149 = .ok (.aastore, 1) := by decide +kernel
theorem dX10_init_150 : decode cX10_init 150 = .ok (.iinc 2 1, 3) := by decide +kernel
theorem dX10_init_153 : decode cX10_init 153 = .ok (.goto (-21), 3) := by decide +kernel
theorem dX10_init_156 : decode cX10_init 156 = .ok (.aload_n 0, 1) := by decide +kernel
theorem dX10_init_157 : decode cX10_init 157 = .ok (.bipush 7, 2) := by decide +kernel
theorem dX10_init_159 : decode cX10_init 159 = .ok (.newarray .int, 2) := by decide +kernel
theorem dX10_init_161 : decode cX10_init 161 = .ok (.putfield 60, 3) := by decide +kernel
theorem dX10_init_164 : decode cX10_init 164 = .ok (.aload_n 0, 1) := by decide +kernel
theorem dX10_init_165 : decode cX10_init 165 = .ok (.bipush 10, 2) := by decide +kernel
theorem dX10_init_167 : decode cX10_init 167 = .ok (.newarray .int, 2) := by decide +kernel
theorem dX10_init_169 : decode cX10_init 169 = .ok (.putfield 64, 3) := by decide +kernel
theorem dX10_init_172 : decode cX10_init 172 = .ok (.return_, 1) := by decide +kernel
theorem dX10_sham_0 : decode cX10_sham 0 = .ok (.iload_n 1, 1) := by decide +kernel
theorem dX10_sham_1 : decode cX10_sham 1 = .ok (.invokestatic 67, 3) := by decide +kernel
theorem dX10_sham_4 : decode cX10_sham 4 = .ok (.ifCond .ne 10, 3) := by decide +kernel
theorem dX10_sham_7 : decode cX10_sham 7 = .ok (.aload_n 0, 1) := by decide +kernel
theorem dX10_sham_8 : decode cX10_sham 8 = .ok (.ldc 71, 2) := by decide +kernel
theorem dX10_sham_10 : decode cX10_sham 10 = .ok (.invokevirtual 72, 3) := by decide +kernel
theorem dX10_sham_13 : decode cX10_sham 13 = .ok (.ireturn, 1) := by decide +kernel
theorem dX10_sham_14 : decode cX10_sham 14 = .ok (.aload_n 0, 1) := by decide +kernel
theorem dX10_sham_15 : decode cX10_sham 15 = .ok (.getfield 30, 3) := by decide +kernel
theorem dX10_sham_18 : decode cX10_sham 18 = .ok (.getfield 76, 3) := by decide +kernel
theorem dX10_sham_21 : decode cX10_sham 21 = .ok (.istore_n 2, 1) := by decide +kernel
theorem dX10_sham_22 : decode cX10_sham 22 = .ok (.aload_n 0, 1) := by decide +kernel
theorem dX10_sham_23 : decode cX10_sham 23 = .ok (.getfield 30, 3) := by decide +kernel
theorem dX10_sham_26 : decode cX10_sham 26 = .ok (.iload_n 1, 1) := by decide +kernel
theorem dX10_sham_27 : decode cX10_sham 27 = .ok (.putfield 76, 3) := by decide +kernel
theorem dX10_sham_30 : decode cX10_sham 30 = .ok (.iload_n 2, 1) := by decide +kernel
theorem dX10_sham_31 : decode cX10_sham 31 = .ok (.ireturn, 1) := by decide +kernel
theorem dX10_who_0 : decode cX10_who 0 = .ok (.iload_n 1, 1) := by decide +kernel
theorem dX10_who_1 : decode cX10_who 1 = .ok (.invokestatic 80, 3) := by decide +kernel
theorem dX10_who_4 : decode cX10_who 4 = .ok (.ifCond .eq 12, 3) := by decide +kernel
theorem dX10_who_7 : decode cX10_who 7 = .ok (.iload_n 2, 1) := by decide +kernel
theorem dX10_who_8 : decode cX10_who 8 = .ok (.ifCond .lt 8, 3) := by decide +kernel
theorem dX10_who_11 : decode cX10_who 11 = .ok (.iload_n 2, 1) := by decide +kernel
theorem dX10_who_12 : decode cX10_who 12 = .ok (.iconst 1, 1) := by decide +kernel
theorem dX10_who_13 : decode cX10_who 13 = .ok (.if_icmp .le 10, 3) := by decide +kernel
theorem dX10_who_16 : decode cX10_who 16 = .ok (.aload_n 0, 1) := by decide +kernel
theorem dX10_who_17 : decode cX10_who 17 = .ok (.ldc 71, 2) := by decide +kernel
theorem dX10_who_19 : decode cX10_who 19 = .ok (.invokevirtual 72, 3) := by decide +kernel
theorem dX10_who_22 : decode cX10_who 22 = .ok (.ireturn, 1) := by decide +kernel
theorem dX10_who_23 : decode cX10_who 23 = .ok (.iconst 0, 1) := by decide +kernel
theorem dX10_who_24 : decode cX10_who 24 = .ok (.istore_n 3, 1) := by decide +kernel
theorem dX10_who_25 : decode cX10_who 25 = .ok (.iconst 0, 1) := by decide +kernel
theorem dX10_who_26 : decode cX10_who 26 = .ok (.istore 4, 2) := by decide +kernel
theorem dX10_who_28 : decode cX10_who 28 = .ok (.iload 4, 2) := by decide +kernel
theorem dX10_who_30 : decode cX10_who 30 = .ok (.aload_n 0, 1) := by decide +kernel
theorem dX10_who_31 : decode cX10_who 31 = .ok (.getfield 30, 3) := by decide +kernel
theorem dX10_who_34 : decode cX10_who 34 = .ok (.getfield 83, 3) := by decide +kernel
theorem dX10_who_37 : decode cX10_who 37 = .ok (.if_icmp .ge 47, 3) := by decide +kernel
theorem dX10_who_40 : decode cX10_who 40 = .ok (.aload_n 0, 1) := by decide +kernel
theorem dX10_who_41 : decode cX10_who 41 = .ok (.getfield 30, 3) := by decide +kernel
theorem dX10_who_44 : decode cX10_who 44 = .ok (.iload 4, 2) := by decide +kernel
theorem dX10_who_46 : decode cX10_who 46 = .ok (.invokevirtual 86, 3) := by decide +kernel
theorem dX10_who_49 : decode cX10_who 49 = .ok (.astore 5, 2) := by decide +kernel
theorem dX10_who_51 : decode cX10_who 51 = .ok (.iload_n 3, 1) := by decide +kernel
theorem dX10_who_52 : decode cX10_who 52 = .ok (.iload_n 2, 1) := by decide +kernel
theorem dX10_who_53 : decode cX10_who 53 = .ok (.ifCond .ne 11, 3) := by decide +kernel
theorem dX10_who_56 : decode cX10_who 56 = .ok (.aload 5, 2) := by decide +kernel
theorem dX10_who_58 : decode cX10_who 58 = .ok (.getfield 90, 3) := by decide +kernel
theorem dX10_who_61 : decode cX10_who 61 = .ok (.goto 8, 3) := by decide +kernel
theorem dX10_who_64 : decode cX10_who 64 = .ok (.aload 5, 2) := by decide +kernel
theorem dX10_who_66 : decode cX10_who 66 = .ok (.getfield 95, 3) := by decide +kernel
theorem dX10_who_69 : decode cX10_who 69 = .ok (.iload_n 1, 1) := by decide +kernel
theorem dX10_who_70 : decode cX10_who 70 = .ok (.ishr, 1) := by decide +kernel
theorem dX10_who_71 : decode cX10_who 71 = .ok (.iconst 1, 1) := by decide +kernel
theorem dX10_who_72 : decode cX10_who 72 = .ok (.iand, 1) := by decide +kernel
theorem dX10_who_73 : decode cX10_who 73 = .ok (.iload 4, 2) := by decide +kernel
theorem dX10_who_75 : decode cX10_who 75 = .ok (.ishl, 1) := by decide +kernel
theorem dX10_who_76 : decode cX10_who 76 = .ok (.ior, 1) := by decide +kernel
theorem dX10_who_77 : decode cX10_who 77 = .ok (.istore_n 3, 1) := by decide +kernel
theorem dX10_who_78 : decode cX10_who 78 = .ok (.iinc 4 1, 3) := by decide +kernel
theorem dX10_who_81 : decode cX10_who 81 = .ok (.goto (-53), 3) := by decide +kernel
theorem dX10_who_84 : decode cX10_who 84 = .ok (.iload_n 3, 1) := by decide +kernel
theorem dX10_who_85 : decode cX10_who 85 = .ok (.ireturn, 1) := by decide +kernel
theorem dX10_person_0 : decode cX10_person 0 = .ok (.iload_n 1, 1) := by decide +kernel
theorem dX10_person_1 : decode cX10_person 1 = .ok (.invokestatic 98, 3) := by decide +kernel
theorem dX10_person_4 : decode cX10_person 4 = .ok (.ifCond .ne 10, 3) := by decide +kernel
theorem dX10_person_7 : decode cX10_person 7 = .ok (.aload_n 0, 1) := by decide +kernel
theorem dX10_person_8 : decode cX10_person 8 = .ok (.ldc 71, 2) := by decide +kernel
theorem dX10_person_10 : decode cX10_person 10 = .ok (.invokevirtual 72, 3) := by decide +kernel
theorem dX10_person_13 : decode cX10_person 13 = .ok (.ireturn, 1) := by decide +kernel
theorem dX10_person_14 : decode cX10_person 14 = .ok (.aload_n 0, 1) := by decide +kernel
theorem dX10_person_15 : decode cX10_person 15 = .ok (.getfield 30, 3) := by decide +kernel
theorem dX10_person_18 : decode cX10_person 18 = .ok (.invokevirtual 101, 3) := by decide +kernel
theorem dX10_person_21 : decode cX10_person 21 = .ok (.ifCond .eq 10, 3) := by decide +kernel
theorem dX10_person_24 : decode cX10_person 24 = .ok (.aload_n 0, 1) := by decide +kernel
theorem dX10_person_25 : decode cX10_person 25 = .ok (.ldc 105, 2) := by decide +kernel
theorem dX10_person_27 : decode cX10_person 27 = .ok (.invokevirtual 72, 3) := by decide +kernel
theorem dX10_person_30 : decode cX10_person 30 = .ok (.ireturn, 1) := by decide +kernel
theorem dX10_person_31 : decode cX10_person 31 = .ok (.aload_n 0, 1) := by decide +kernel
theorem dX10_person_32 : decode cX10_person 32 = .ok (.getfield 30, 3) := by decide +kernel
theorem dX10_person_35 : decode cX10_person 35 = .ok (.iload_n 1, 1) := by decide +kernel
theorem dX10_person_36 : decode cX10_person 36 = .ok (.invokevirtual 106, 3) := by decide +kernel
theorem dX10_person_39 : decode cX10_person 39 = .ok (.ireturn, 1) := by decide +kernel
theorem dX10_of_0 : decode cX10_of 0 = .ok (.aload_n 0, 1) := by decide +kernel
theorem dX10_of_1 : decode cX10_of 1 = .ok (.getfield 30, 3) := by decide +kernel
theorem dX10_of_4 : decode cX10_of 4 = .ok (.iload_n 1, 1) := by decide +kernel
theorem dX10_of_5 : decode cX10_of 5 = .ok (.invokevirtual 109, 3) := by decide +kernel
theorem dX10_of_8 : decode cX10_of 8 = .ok (.ifCond .ne 10, 3) := by decide +kernel
theorem dX10_of_11 : decode cX10_of 11 = .ok (.aload_n 0, 1) := by decide +kernel
theorem dX10_of_12 : decode cX10_of 12 = .ok (.ldc 71, 2) := by decide +kernel
theorem dX10_of_14 : decode cX10_of 14 = .ok (.invokevirtual 72, 3) := by decide +kernel
theorem dX10_of_17 : decode cX10_of 17 = .ok (.ireturn, 1) := by decide +kernel
theorem dX10_of_18 : decode cX10_of 18 = .ok (.aload_n 0, 1) := by decide +kernel
theorem dX10_of_19 : decode cX10_of 19 = .ok (.getfield 30, 3) := by decide +kernel
theorem dX10_of_22 : decode cX10_of 22 = .ok (.iload_n 1, 1) := by decide +kernel
theorem dX10_of_23 : decode cX10_of 23 = .ok (.invokevirtual 86, 3) := by decide +kernel
theorem dX10_of_26 : decode cX10_of 26 = .ok (.astore_n 3, 1) := by decide +kernel
theorem dX10_of_27 : decode cX10_of 27 = .ok (.iload_n 2, 1) := by decide +kernel
theorem dX10_of_28 : decode cX10_of 28 = .ok (.tableswitch 96 0 7 #[48, 53, 58, 63, 68, 73, 78, 87], 48) := by decide +kernel
theorem dX10_of_76 : decode cX10_of 76 = .ok (.aload_n 3, 1) := by decide +kernel
theorem dX10_of_77 : decode cX10_of 77 = .ok (.getfield 112, 3) := by decide +kernel
theorem dX10_of_80 : decode cX10_of 80 = .ok (.ireturn, 1) := by decide +kernel
theorem dX10_of_81 : decode cX10_of 81 = .ok (.aload_n 3, 1) := by decide +kernel
theorem dX10_of_82 : decode cX10_of 82 = .ok (.getfield 90, 3) := by decide +kernel
theorem dX10_of_85 : decode cX10_of 85 = .ok (.ireturn, 1) := by decide +kernel
theorem dX10_of_86 : decode cX10_of 86 = .ok (.aload_n 3, 1) := by decide +kernel
theorem dX10_of_87 : decode cX10_of 87 = .ok (.getfield 95, 3) := by decide +kernel
theorem dX10_of_90 : decode cX10_of 90 = .ok (.ireturn, 1) := by decide +kernel
theorem dX10_of_91 : decode cX10_of 91 = .ok (.aload_n 3, 1) := by decide +kernel
theorem dX10_of_92 : decode cX10_of 92 = .ok (.getfield 115, 3) := by decide +kernel
theorem dX10_of_95 : decode cX10_of 95 = .ok (.ireturn, 1) := by decide +kernel
theorem dX10_of_96 : decode cX10_of 96 = .ok (.aload_n 3, 1) := by decide +kernel
theorem dX10_of_97 : decode cX10_of 97 = .ok (.getfield 118, 3) := by decide +kernel
theorem dX10_of_100 : decode cX10_of 100 = .ok (.ireturn, 1) := by decide +kernel
theorem dX10_of_101 : decode cX10_of 101 = .ok (.aload_n 3, 1) := by decide +kernel
theorem dX10_of_102 : decode cX10_of 102 = .ok (.getfield 121, 3) := by decide +kernel
theorem dX10_of_105 : decode cX10_of 105 = .ok (.ireturn, 1) := by decide +kernel
theorem dX10_of_106 : decode cX10_of 106 = .ok (.aload_n 0, 1) := by decide +kernel
theorem dX10_of_107 : decode cX10_of 107 = .ok (.getfield 30, 3) := by decide +kernel
theorem dX10_of_110 : decode cX10_of 110 = .ok (.iload_n 1, 1) := by decide +kernel
theorem dX10_of_111 : decode cX10_of 111 = .ok (.invokevirtual 124, 3) := by decide +kernel
theorem dX10_of_114 : decode cX10_of 114 = .ok (.ireturn, 1) := by decide +kernel
theorem dX10_of_115 : decode cX10_of 115 = .ok (.aload_n 0, 1) := by decide +kernel
theorem dX10_of_116 : decode cX10_of 116 = .ok (.getfield 30, 3) := by decide +kernel
theorem dX10_of_119 : decode cX10_of 119 = .ok (.iload_n 1, 1) := by decide +kernel
theorem dX10_of_120 : decode cX10_of 120 = .ok (.invokevirtual 127, 3) := by decide +kernel
theorem dX10_of_123 : decode cX10_of 123 = .ok (.ireturn, 1) := by decide +kernel
theorem dX10_of_124 : decode cX10_of 124 = .ok (.aload_n 0, 1) := by decide +kernel
theorem dX10_of_125 : decode cX10_of 125 = .ok (.ldc 71, 2) := by decide +kernel
theorem dX10_of_127 : decode cX10_of 127 = .ok (.invokevirtual 72, 3) := by decide +kernel
theorem dX10_of_130 : decode cX10_of 130 = .ok (.ireturn, 1) := by decide +kernel
theorem dX10_set_0 : decode cX10_set 0 = .ok (.aload_n 0, 1) := by decide +kernel
theorem dX10_set_1 : decode cX10_set 1 = .ok (.getfield 30, 3) := by decide +kernel
theorem dX10_set_4 : decode cX10_set 4 = .ok (.iload_n 1, 1) := by decide +kernel
theorem dX10_set_5 : decode cX10_set 5 = .ok (.invokevirtual 109, 3) := by decide +kernel
theorem dX10_set_8 : decode cX10_set 8 = .ok (.ifCond .ne 10, 3) := by decide +kernel
theorem dX10_set_11 : decode cX10_set 11 = .ok (.aload_n 0, 1) := by decide +kernel
theorem dX10_set_12 : decode cX10_set 12 = .ok (.ldc 71, 2) := by decide +kernel
theorem dX10_set_14 : decode cX10_set 14 = .ok (.invokevirtual 72, 3) := by decide +kernel
theorem dX10_set_17 : decode cX10_set 17 = .ok (.ireturn, 1) := by decide +kernel
theorem dX10_set_18 : decode cX10_set 18 = .ok (.aload_n 0, 1) := by decide +kernel
theorem dX10_set_19 : decode cX10_set 19 = .ok (.getfield 30, 3) := by decide +kernel
theorem dX10_set_22 : decode cX10_set 22 = .ok (.iload_n 1, 1) := by decide +kernel
theorem dX10_set_23 : decode cX10_set 23 = .ok (.invokevirtual 86, 3) := by decide +kernel
theorem dX10_set_26 : decode cX10_set 26 = .ok (.astore 4, 2) := by decide +kernel
theorem dX10_set_28 : decode cX10_set 28 = .ok (.iload_n 2, 1) := by decide +kernel
theorem dX10_set_29 : decode cX10_set 29 = .ok (.tableswitch 120 1 5 #[35, 58, 120, 120, 93], 35) := by decide +kernel
theorem dX10_set_64 : decode cX10_set 64 = .ok (.iload_n 3, 1) := by decide +kernel
theorem dX10_set_65 : decode cX10_set 65 = .ok (.invokestatic 67, 3) := by decide +kernel
theorem dX10_set_68 : decode cX10_set 68 = .ok (.ifCond .eq 12, 3) := by decide +kernel
theorem dX10_set_71 : decode cX10_set 71 = .ok (.aload 4, 2) := by decide +kernel
theorem dX10_set_73 : decode cX10_set 73 = .ok (.iload_n 3, 1) := by decide +kernel
theorem dX10_set_74 : decode cX10_set 74 = .ok (.invokevirtual 130, 3) := by decide +kernel
theorem dX10_set_77 : decode cX10_set 77 = .ok (.goto 9, 3) := by decide +kernel
theorem dX10_set_80 : decode cX10_set 80 = .ok (.aload_n 0, 1) := by decide +kernel
theorem dX10_set_81 : decode cX10_set 81 = .ok (.ldc 71, 2) := by decide +kernel
theorem dX10_set_83 : decode cX10_set 83 = .ok (.invokevirtual 72, 3) := by decide +kernel
theorem dX10_set_86 : decode cX10_set 86 = .ok (.ireturn, 1) := by decide +kernel
theorem dX10_set_87 : decode cX10_set 87 = .ok (.iload_n 3, 1) := by decide +kernel
theorem dX10_set_88 : decode cX10_set 88 = .ok (.invokestatic 67, 3) := by decide +kernel
theorem dX10_set_91 : decode cX10_set 91 = .ok (.ifCond .eq 24, 3) := by decide +kernel
theorem dX10_set_94 : decode cX10_set 94 = .ok (.iload_n 3, 1) := by decide +kernel
theorem dX10_set_95 : decode cX10_set 95 = .ok (.aload 4, 2) := by decide +kernel
theorem dX10_set_97 : decode cX10_set 97 = .ok (.getfield 90, 3) := by decide +kernel
theorem dX10_set_100 : decode cX10_set 100 = .ok (.iconst (-1), 1) := by decide +kernel
theorem dX10_set_101 : decode cX10_set 101 = .ok (.ixor, 1) := by decide +kernel
theorem dX10_set_102 : decode cX10_set 102 = .ok (.iand, 1) := by decide +kernel
theorem dX10_set_103 : decode cX10_set 103 = .ok (.ifCond .ne 12, 3) := by decide +kernel
theorem dX10_set_106 : decode cX10_set 106 = .ok (.aload 4, 2) := by decide +kernel
theorem dX10_set_108 : decode cX10_set 108 = .ok (.iload_n 3, 1) := by decide +kernel
theorem dX10_set_109 : decode cX10_set 109 = .ok (.invokevirtual 133, 3) := by decide +kernel
theorem dX10_set_112 : decode cX10_set 112 = .ok (.goto 9, 3) := by decide +kernel
theorem dX10_set_115 : decode cX10_set 115 = .ok (.aload_n 0, 1) := by decide +kernel
theorem dX10_set_116 : decode cX10_set 116 = .ok (.ldc 71, 2) := by decide +kernel
theorem dX10_set_118 : decode cX10_set 118 = .ok (.invokevirtual 72, 3) := by decide +kernel
theorem dX10_set_121 : decode cX10_set 121 = .ok (.ireturn, 1) := by decide +kernel
theorem dX10_set_122 : decode cX10_set 122 = .ok (.iload_n 3, 1) := by decide +kernel
theorem dX10_set_123 : decode cX10_set 123 = .ok (.ifCond .lt 19, 3) := by decide +kernel
theorem dX10_set_126 : decode cX10_set 126 = .ok (.iload_n 3, 1) := by decide +kernel
theorem dX10_set_127 : decode cX10_set 127 = .ok (.sipush 9999, 3) := by decide +kernel
theorem dX10_set_130 : decode cX10_set 130 = .ok (.if_icmp .gt 12, 3) := by decide +kernel
theorem dX10_set_133 : decode cX10_set 133 = .ok (.aload 4, 2) := by decide +kernel
theorem dX10_set_135 : decode cX10_set 135 = .ok (.iload_n 3, 1) := by decide +kernel
theorem dX10_set_136 : decode cX10_set 136 = .ok (.invokevirtual 136, 3) := by decide +kernel
theorem dX10_set_139 : decode cX10_set 139 = .ok (.goto 9, 3) := by decide +kernel
theorem dX10_set_142 : decode cX10_set 142 = .ok (.aload_n 0, 1) := by decide +kernel
theorem dX10_set_143 : decode cX10_set 143 = .ok (.ldc 71, 2) := by decide +kernel
theorem dX10_set_145 : decode cX10_set 145 = .ok (.invokevirtual 72, 3) := by decide +kernel
theorem dX10_set_148 : decode cX10_set 148 = .ok (.ireturn, 1) := by decide +kernel
theorem dX10_set_149 : decode cX10_set 149 = .ok (.aload_n 0, 1) := by decide +kernel
theorem dX10_set_150 : decode cX10_set 150 = .ok (.ldc 71, 2) := by decide +kernel
theorem dX10_set_152 : decode cX10_set 152 = .ok (.invokevirtual 72, 3) := by decide +kernel
theorem dX10_set_155 : decode cX10_set 155 = .ok (.ireturn, 1) := by decide +kernel
theorem dX10_turn_0 : decode cX10_turn 0 = .ok (.aload_n 0, 1) := by decide +kernel
theorem dX10_turn_1 : decode cX10_turn 1 = .ok (.getfield 30, 3) := by decide +kernel
theorem dX10_turn_4 : decode cX10_turn 4 = .ok (.iload_n 1, 1) := by decide +kernel
theorem dX10_turn_5 : decode cX10_turn 5 = .ok (.invokevirtual 109, 3) := by decide +kernel
theorem dX10_turn_8 : decode cX10_turn 8 = .ok (.ifCond .eq 10, 3) := by decide +kernel
theorem dX10_turn_11 : decode cX10_turn 11 = .ok (.iload_n 2, 1) := by decide +kernel
theorem dX10_turn_12 : decode cX10_turn 12 = .ok (.invokestatic 98, 3) := by decide +kernel
theorem dX10_turn_15 : decode cX10_turn 15 = .ok (.ifCond .ne 10, 3) := by decide +kernel
theorem dX10_turn_18 : decode cX10_turn 18 = .ok (.aload_n 0, 1) := by decide +kernel
theorem dX10_turn_19 : decode cX10_turn 19 = .ok (.ldc 71, 2) := by decide +kernel
theorem dX10_turn_21 : decode cX10_turn 21 = .ok (.invokevirtual 72, 3) := by decide +kernel
theorem dX10_turn_24 : decode cX10_turn 24 = .ok (.ireturn, 1) := by decide +kernel
theorem dX10_turn_25 : decode cX10_turn 25 = .ok (.aload_n 0, 1) := by decide +kernel
theorem dX10_turn_26 : decode cX10_turn 26 = .ok (.getfield 30, 3) := by decide +kernel
theorem dX10_turn_29 : decode cX10_turn 29 = .ok (.iload_n 1, 1) := by decide +kernel
theorem dX10_turn_30 : decode cX10_turn 30 = .ok (.invokevirtual 86, 3) := by decide +kernel
theorem dX10_turn_33 : decode cX10_turn 33 = .ok (.astore_n 3, 1) := by decide +kernel
theorem dX10_turn_34 : decode cX10_turn 34 = .ok (.aload_n 3, 1) := by decide +kernel
theorem dX10_turn_35 : decode cX10_turn 35 = .ok (.getfield 112, 3) := by decide +kernel
theorem dX10_turn_38 : decode cX10_turn 38 = .ok (.istore 4, 2) := by decide +kernel
theorem dX10_turn_40 : decode cX10_turn 40 = .ok (.aload_n 3, 1) := by decide +kernel
theorem dX10_turn_41 : decode cX10_turn 41 = .ok (.iload_n 2, 1) := by decide +kernel
theorem dX10_turn_42 : decode cX10_turn 42 = .ok (.putfield 112, 3) := by decide +kernel
theorem dX10_turn_45 : decode cX10_turn 45 = .ok (.iload 4, 2) := by decide +kernel
theorem dX10_turn_47 : decode cX10_turn 47 = .ok (.ireturn, 1) := by decide +kernel
theorem dX10_as_0 : decode cX10_as 0 = .ok (.aload_n 0, 1) := by decide +kernel
theorem dX10_as_1 : decode cX10_as 1 = .ok (.getfield 30, 3) := by decide +kernel
theorem dX10_as_4 : decode cX10_as 4 = .ok (.iload_n 1, 1) := by decide +kernel
theorem dX10_as_5 : decode cX10_as 5 = .ok (.invokevirtual 109, 3) := by decide +kernel
theorem dX10_as_8 : decode cX10_as 8 = .ok (.ifCond .eq 10, 3) := by decide +kernel
theorem dX10_as_11 : decode cX10_as 11 = .ok (.iload_n 2, 1) := by decide +kernel
theorem dX10_as_12 : decode cX10_as 12 = .ok (.invokestatic 98, 3) := by decide +kernel
theorem dX10_as_15 : decode cX10_as 15 = .ok (.ifCond .ne 10, 3) := by decide +kernel
theorem dX10_as_18 : decode cX10_as 18 = .ok (.aload_n 0, 1) := by decide +kernel
theorem dX10_as_19 : decode cX10_as 19 = .ok (.ldc 71, 2) := by decide +kernel
theorem dX10_as_21 : decode cX10_as 21 = .ok (.invokevirtual 72, 3) := by decide +kernel
theorem dX10_as_24 : decode cX10_as 24 = .ok (.ireturn, 1) := by decide +kernel
theorem dX10_as_25 : decode cX10_as 25 = .ok (.aload_n 0, 1) := by decide +kernel
theorem dX10_as_26 : decode cX10_as 26 = .ok (.getfield 30, 3) := by decide +kernel
theorem dX10_as_29 : decode cX10_as 29 = .ok (.iload_n 1, 1) := by decide +kernel
theorem dX10_as_30 : decode cX10_as 30 = .ok (.invokevirtual 86, 3) := by decide +kernel
theorem dX10_as_33 : decode cX10_as 33 = .ok (.astore_n 3, 1) := by decide +kernel
theorem dX10_as_34 : decode cX10_as 34 = .ok (.aload_n 3, 1) := by decide +kernel
theorem dX10_as_35 : decode cX10_as 35 = .ok (.getfield 112, 3) := by decide +kernel
theorem dX10_as_38 : decode cX10_as 38 = .ok (.iload_n 2, 1) := by decide +kernel
theorem dX10_as_39 : decode cX10_as 39 = .ok (.invokestatic 139, 3) := by decide +kernel
theorem dX10_as_42 : decode cX10_as 42 = .ok (.ifCond .eq 10, 3) := by decide +kernel
theorem dX10_as_45 : decode cX10_as 45 = .ok (.aload_n 3, 1) := by decide +kernel
theorem dX10_as_46 : decode cX10_as 46 = .ok (.getfield 121, 3) := by decide +kernel
theorem dX10_as_49 : decode cX10_as 49 = .ok (.goto 9, 3) := by decide +kernel
theorem dX10_as_52 : decode cX10_as 52 = .ok (.aload_n 0, 1) := by decide +kernel
theorem dX10_as_53 : decode cX10_as 53 = .ok (.ldc 143, 2) := by decide +kernel
theorem dX10_as_55 : decode cX10_as 55 = .ok (.invokevirtual 72, 3) := by decide +kernel
theorem dX10_as_58 : decode cX10_as 58 = .ok (.ireturn, 1) := by decide +kernel
theorem dX10_sit_0 : decode cX10_sit 0 = .ok (.aload_n 0, 1) := by decide +kernel
theorem dX10_sit_1 : decode cX10_sit 1 = .ok (.getfield 30, 3) := by decide +kernel
theorem dX10_sit_4 : decode cX10_sit 4 = .ok (.iload_n 1, 1) := by decide +kernel
theorem dX10_sit_5 : decode cX10_sit 5 = .ok (.invokevirtual 109, 3) := by decide +kernel
theorem dX10_sit_8 : decode cX10_sit 8 = .ok (.ifCond .eq 13, 3) := by decide +kernel
theorem dX10_sit_11 : decode cX10_sit 11 = .ok (.iload_n 2, 1) := by decide +kernel
theorem dX10_sit_12 : decode cX10_sit 12 = .ok (.iconst (-1), 1) := by decide +kernel
theorem dX10_sit_13 : decode cX10_sit 13 = .ok (.if_icmp .lt 8, 3) := by decide +kernel
theorem dX10_sit_16 : decode cX10_sit 16 = .ok (.iload_n 2, 1) := by decide +kernel
theorem dX10_sit_17 : decode cX10_sit 17 = .ok (.iconst 2, 1) := by decide +kernel
theorem dX10_sit_18 : decode cX10_sit 18 = .ok (.if_icmp .lt 10, 3) := by decide +kernel
theorem dX10_sit_21 : decode cX10_sit 21 = .ok (.aload_n 0, 1) := by decide +kernel
theorem dX10_sit_22 : decode cX10_sit 22 = .ok (.ldc 71, 2) := by decide +kernel
theorem dX10_sit_24 : decode cX10_sit 24 = .ok (.invokevirtual 72, 3) := by decide +kernel
theorem dX10_sit_27 : decode cX10_sit 27 = .ok (.ireturn, 1) := by decide +kernel
theorem dX10_sit_28 : decode cX10_sit 28 = .ok (.iload_n 2, 1) := by decide +kernel
theorem dX10_sit_29 : decode cX10_sit 29 = .ok (.iconst (-1), 1) := by decide +kernel
theorem dX10_sit_30 : decode cX10_sit 30 = .ok (.if_icmp .ne 7, 3) := by decide +kernel
theorem dX10_sit_33 : decode cX10_sit 33 = .ok (.iconst (-1), 1) := by decide +kernel
theorem dX10_sit_34 : decode cX10_sit 34 = .ok (.goto 11, 3) := by decide +kernel
theorem dX10_sit_37 : decode cX10_sit 37 = .ok (.aload_n 0, 1) := by decide +kernel
theorem dX10_sit_38 : decode cX10_sit 38 = .ok (.getfield 30, 3) := by decide +kernel
theorem dX10_sit_41 : decode cX10_sit 41 = .ok (.iload_n 2, 1) := by decide +kernel
theorem dX10_sit_42 : decode cX10_sit 42 = .ok (.invokevirtual 144, 3) := by decide +kernel
theorem dX10_sit_45 : decode cX10_sit 45 = .ok (.istore_n 3, 1) := by decide +kernel
theorem dX10_sit_46 : decode cX10_sit 46 = .ok (.iload_n 3, 1) := by decide +kernel
theorem dX10_sit_47 : decode cX10_sit 47 = .ok (.iconst (-1), 1) := by decide +kernel
theorem dX10_sit_48 : decode cX10_sit 48 = .ok (.if_icmp .eq 15, 3) := by decide +kernel
theorem dX10_sit_51 : decode cX10_sit 51 = .ok (.iload_n 3, 1) := by decide +kernel
theorem dX10_sit_52 : decode cX10_sit 52 = .ok (.iload_n 1, 1) := by decide +kernel
theorem dX10_sit_53 : decode cX10_sit 53 = .ok (.if_icmp .eq 10, 3) := by decide +kernel
theorem dX10_sit_56 : decode cX10_sit 56 = .ok (.aload_n 0, 1) := by decide +kernel
theorem dX10_sit_57 : decode cX10_sit 57 = .ok (.ldc 147, 2) := by decide +kernel
theorem dX10_sit_59 : decode cX10_sit 59 = .ok (.invokevirtual 72, 3) := by decide +kernel
theorem dX10_sit_62 : decode cX10_sit 62 = .ok (.ireturn, 1) := by decide +kernel
theorem dX10_sit_63 : decode cX10_sit 63 = .ok (.aload_n 0, 1) := by decide +kernel
theorem dX10_sit_64 : decode cX10_sit 64 = .ok (.getfield 30, 3) := by decide +kernel
theorem dX10_sit_67 : decode cX10_sit 67 = .ok (.iload_n 1, 1) := by decide +kernel
theorem dX10_sit_68 : decode cX10_sit 68 = .ok (.invokevirtual 86, 3) := by decide +kernel
theorem dX10_sit_71 : decode cX10_sit 71 = .ok (.astore 4, 2) := by decide +kernel
theorem dX10_sit_73 : decode cX10_sit 73 = .ok (.aload 4, 2) := by decide +kernel
theorem dX10_sit_75 : decode cX10_sit 75 = .ok (.getfield 115, 3) := by decide +kernel
theorem dX10_sit_78 : decode cX10_sit 78 = .ok (.istore 5, 2) := by decide +kernel
theorem dX10_sit_80 : decode cX10_sit 80 = .ok (.aload 4, 2) := by decide +kernel
theorem dX10_sit_82 : decode cX10_sit 82 = .ok (.iload_n 2, 1) := by decide +kernel
theorem dX10_sit_83 : decode cX10_sit 83 = .ok (.invokevirtual 148, 3) := by decide +kernel
theorem dX10_sit_86 : decode cX10_sit 86 = .ok (.iload 5, 2) := by decide +kernel
theorem dX10_sit_88 : decode cX10_sit 88 = .ok (.ireturn, 1) := by decide +kernel
theorem dX10_trusts_0 : decode cX10_trusts 0 = .ok (.aload_n 0, 1) := by decide +kernel
theorem dX10_trusts_1 : decode cX10_trusts 1 = .ok (.getfield 30, 3) := by decide +kernel
theorem dX10_trusts_4 : decode cX10_trusts 4 = .ok (.iload_n 1, 1) := by decide +kernel
theorem dX10_trusts_5 : decode cX10_trusts 5 = .ok (.invokevirtual 109, 3) := by decide +kernel
theorem dX10_trusts_8 : decode cX10_trusts 8 = .ok (.ifCond .eq 10, 3) := by decide +kernel
theorem dX10_trusts_11 : decode cX10_trusts 11 = .ok (.iload_n 2, 1) := by decide +kernel
theorem dX10_trusts_12 : decode cX10_trusts 12 = .ok (.invokestatic 80, 3) := by decide +kernel
theorem dX10_trusts_15 : decode cX10_trusts 15 = .ok (.ifCond .ne 10, 3) := by decide +kernel
theorem dX10_trusts_18 : decode cX10_trusts 18 = .ok (.aload_n 0, 1) := by decide +kernel
theorem dX10_trusts_19 : decode cX10_trusts 19 = .ok (.ldc 71, 2) := by decide +kernel
theorem dX10_trusts_21 : decode cX10_trusts 21 = .ok (.invokevirtual 72, 3) := by decide +kernel
theorem dX10_trusts_24 : decode cX10_trusts 24 = .ok (.ireturn, 1) := by decide +kernel
theorem dX10_trusts_25 : decode cX10_trusts 25 = .ok (.aload_n 0, 1) := by decide +kernel
theorem dX10_trusts_26 : decode cX10_trusts 26 = .ok (.getfield 30, 3) := by decide +kernel
theorem dX10_trusts_29 : decode cX10_trusts 29 = .ok (.iload_n 1, 1) := by decide +kernel
theorem dX10_trusts_30 : decode cX10_trusts 30 = .ok (.iload_n 2, 1) := by decide +kernel
theorem dX10_trusts_31 : decode cX10_trusts 31 = .ok (.invokevirtual 152, 3) := by decide +kernel
theorem dX10_trusts_34 : decode cX10_trusts 34 = .ok (.ifCond .eq 7, 3) := by decide +kernel
theorem dX10_trusts_37 : decode cX10_trusts 37 = .ok (.iconst 1, 1) := by decide +kernel
theorem dX10_trusts_38 : decode cX10_trusts 38 = .ok (.goto 4, 3) := by decide +kernel
theorem dX10_trusts_41 : decode cX10_trusts 41 = .ok (.iconst 0, 1) := by decide +kernel
theorem dX10_trusts_42 : decode cX10_trusts 42 = .ok (.ireturn, 1) := by decide +kernel
theorem dX10_hours_0 : decode cX10_hours 0 = .ok (.iload_n 1, 1) := by decide +kernel
theorem dX10_hours_1 : decode cX10_hours 1 = .ok (.iconst 1, 1) := by decide +kernel
theorem dX10_hours_2 : decode cX10_hours 2 = .ok (.if_icmp .lt 9, 3) := by decide +kernel
theorem dX10_hours_5 : decode cX10_hours 5 = .ok (.iload_n 1, 1) := by decide +kernel
theorem dX10_hours_6 : decode cX10_hours 6 = .ok (.bipush 100, 2) := by decide +kernel
theorem dX10_hours_8 : decode cX10_hours 8 = .ok (.if_icmp .le 10, 3) := by decide +kernel
theorem dX10_hours_11 : decode cX10_hours 11 = .ok (.aload_n 0, 1) := by decide +kernel
theorem dX10_hours_12 : decode cX10_hours 12 = .ok (.ldc 71, 2) := by decide +kernel
theorem dX10_hours_14 : decode cX10_hours 14 = .ok (.invokevirtual 72, 3) := by decide +kernel
theorem dX10_hours_17 : decode cX10_hours 17 = .ok (.ireturn, 1) := by decide +kernel
theorem dX10_hours_18 : decode cX10_hours 18 = .ok (.aload_n 0, 1) := by decide +kernel
theorem dX10_hours_19 : decode cX10_hours 19 = .ok (.getfield 30, 3) := by decide +kernel
theorem dX10_hours_22 : decode cX10_hours 22 = .ok (.getfield 155, 3) := by decide +kernel
theorem dX10_hours_25 : decode cX10_hours 25 = .ok (.ldc 158, 2) := by decide +kernel
theorem dX10_hours_27 : decode cX10_hours 27 = .ok (.iload_n 1, 1) := by decide +kernel
theorem dX10_hours_28 : decode cX10_hours 28 = .ok (.isub, 1) := by decide +kernel
theorem dX10_hours_29 : decode cX10_hours 29 = .ok (.if_icmp .le 10, 3) := by decide +kernel
theorem dX10_hours_32 : decode cX10_hours 32 = .ok (.aload_n 0, 1) := by decide +kernel
theorem dX10_hours_33 : decode cX10_hours 33 = .ok (.ldc 147, 2) := by decide +kernel
theorem dX10_hours_35 : decode cX10_hours 35 = .ok (.invokevirtual 72, 3) := by decide +kernel
theorem dX10_hours_38 : decode cX10_hours 38 = .ok (.ireturn, 1) := by decide +kernel
theorem dX10_hours_39 : decode cX10_hours 39 = .ok (.aload_n 0, 1) := by decide +kernel
theorem dX10_hours_40 : decode cX10_hours 40 = .ok (.getfield 30, 3) := by decide +kernel
theorem dX10_hours_43 : decode cX10_hours 43 = .ok (.iload_n 1, 1) := by decide +kernel
theorem dX10_hours_44 : decode cX10_hours 44 = .ok (.invokevirtual 159, 3) := by decide +kernel
theorem dX10_hours_47 : decode cX10_hours 47 = .ok (.aload_n 0, 1) := by decide +kernel
theorem dX10_hours_48 : decode cX10_hours 48 = .ok (.getfield 30, 3) := by decide +kernel
theorem dX10_hours_51 : decode cX10_hours 51 = .ok (.invokevirtual 162, 3) := by decide +kernel
theorem dX10_hours_54 : decode cX10_hours 54 = .ok (.ireturn, 1) := by decide +kernel
theorem dX10_now_0 : decode cX10_now 0 = .ok (.iload_n 1, 1) := by decide +kernel
theorem dX10_now_1 : decode cX10_now 1 = .ok (.tableswitch 121 0 7 #[47, 55, 63, 79, 88, 97, 105, 113], 47) := by decide +kernel
theorem dX10_now_48 : decode cX10_now 48 = .ok (.aload_n 0, 1) := by decide +kernel
theorem dX10_now_49 : decode cX10_now 49 = .ok (.getfield 30, 3) := by decide +kernel
theorem dX10_now_52 : decode cX10_now 52 = .ok (.getfield 155, 3) := by decide +kernel
theorem dX10_now_55 : decode cX10_now 55 = .ok (.ireturn, 1) := by decide +kernel
theorem dX10_now_56 : decode cX10_now 56 = .ok (.aload_n 0, 1) := by decide +kernel
theorem dX10_now_57 : decode cX10_now 57 = .ok (.getfield 30, 3) := by decide +kernel
theorem dX10_now_60 : decode cX10_now 60 = .ok (.invokevirtual 166, 3) := by decide +kernel
theorem dX10_now_63 : decode cX10_now 63 = .ok (.ireturn, 1) := by decide +kernel
theorem dX10_now_64 : decode cX10_now 64 = .ok (.aload_n 0, 1) := by decide +kernel
theorem dX10_now_65 : decode cX10_now 65 = .ok (.getfield 30, 3) := by decide +kernel
theorem dX10_now_68 : decode cX10_now 68 = .ok (.invokevirtual 169, 3) := by decide +kernel
theorem dX10_now_71 : decode cX10_now 71 = .ok (.ifCond .eq 7, 3) := by decide +kernel
theorem dX10_now_74 : decode cX10_now 74 = .ok (.iconst 1, 1) := by decide +kernel
theorem dX10_now_75 : decode cX10_now 75 = .ok (.goto 4, 3) := by decide +kernel
theorem dX10_now_78 : decode cX10_now 78 = .ok (.iconst 0, 1) := by decide +kernel
theorem dX10_now_79 : decode cX10_now 79 = .ok (.ireturn, 1) := by decide +kernel
theorem dX10_now_80 : decode cX10_now 80 = .ok (.aload_n 0, 1) := by decide +kernel
theorem dX10_now_81 : decode cX10_now 81 = .ok (.getfield 30, 3) := by decide +kernel
theorem dX10_now_84 : decode cX10_now 84 = .ok (.iconst 0, 1) := by decide +kernel
theorem dX10_now_85 : decode cX10_now 85 = .ok (.invokevirtual 144, 3) := by decide +kernel
theorem dX10_now_88 : decode cX10_now 88 = .ok (.ireturn, 1) := by decide +kernel
theorem dX10_now_89 : decode cX10_now 89 = .ok (.aload_n 0, 1) := by decide +kernel
theorem dX10_now_90 : decode cX10_now 90 = .ok (.getfield 30, 3) := by decide +kernel
theorem dX10_now_93 : decode cX10_now 93 = .ok (.iconst 1, 1) := by decide +kernel
theorem dX10_now_94 : decode cX10_now 94 = .ok (.invokevirtual 144, 3) := by decide +kernel
theorem dX10_now_97 : decode cX10_now 97 = .ok (.ireturn, 1) := by decide +kernel
theorem dX10_now_98 : decode cX10_now 98 = .ok (.aload_n 0, 1) := by decide +kernel
theorem dX10_now_99 : decode cX10_now 99 = .ok (.getfield 30, 3) := by decide +kernel
theorem dX10_now_102 : decode cX10_now 102 = .ok (.invokevirtual 172, 3) := by decide +kernel
theorem dX10_now_105 : decode cX10_now 105 = .ok (.ireturn, 1) := by decide +kernel
theorem dX10_now_106 : decode cX10_now 106 = .ok (.aload_n 0, 1) := by decide +kernel
theorem dX10_now_107 : decode cX10_now 107 = .ok (.getfield 30, 3) := by decide +kernel
theorem dX10_now_110 : decode cX10_now 110 = .ok (.getfield 76, 3) := by decide +kernel
theorem dX10_now_113 : decode cX10_now 113 = .ok (.ireturn, 1) := by decide +kernel
theorem dX10_now_114 : decode cX10_now 114 = .ok (.aload_n 0, 1) := by decide +kernel
theorem dX10_now_115 : decode cX10_now 115 = .ok (.getfield 30, 3) := by decide +kernel
theorem dX10_now_118 : decode cX10_now 118 = .ok (.getfield 175, 3) := by decide +kernel
theorem dX10_now_121 : decode cX10_now 121 = .ok (.ireturn, 1) := by decide +kernel
theorem dX10_now_122 : decode cX10_now 122 = .ok (.aload_n 0, 1) := by decide +kernel
theorem dX10_now_123 : decode cX10_now 123 = .ok (.ldc 71, 2) := by decide +kernel
theorem dX10_now_125 : decode cX10_now 125 = .ok (.invokevirtual 72, 3) := by decide +kernel
theorem dX10_now_128 : decode cX10_now 128 = .ok (.ireturn, 1) := by decide +kernel
theorem dX10_on_0 : decode cX10_on 0 = .ok (.aload_n 0, 1) := by decide +kernel
theorem dX10_on_1 : decode cX10_on 1 = .ok (.getfield 30, 3) := by decide +kernel
theorem dX10_on_4 : decode cX10_on 4 = .ok (.iload_n 1, 1) := by decide +kernel
theorem dX10_on_5 : decode cX10_on 5 = .ok (.invokevirtual 109, 3) := by decide +kernel
theorem dX10_on_8 : decode cX10_on 8 = .ok (.ifCond .eq 23, 3) := by decide +kernel
theorem dX10_on_11 : decode cX10_on 11 = .ok (.iload_n 2, 1) := by decide +kernel
theorem dX10_on_12 : decode cX10_on 12 = .ok (.ifCond .lt 19, 3) := by decide +kernel
theorem dX10_on_15 : decode cX10_on 15 = .ok (.iload_n 2, 1) := by decide +kernel
theorem dX10_on_16 : decode cX10_on 16 = .ok (.sipush 200, 3) := by decide +kernel
theorem dX10_on_19 : decode cX10_on 19 = .ok (.if_icmp .gt 12, 3) := by decide +kernel
theorem dX10_on_22 : decode cX10_on 22 = .ok (.iload_n 3, 1) := by decide +kernel
theorem dX10_on_23 : decode cX10_on 23 = .ok (.ifCond .lt 8, 3) := by decide +kernel
theorem dX10_on_26 : decode cX10_on 26 = .ok (.iload_n 3, 1) := by decide +kernel
theorem dX10_on_27 : decode cX10_on 27 = .ok (.iconst 2, 1) := by decide +kernel
theorem dX10_on_28 : decode cX10_on 28 = .ok (.if_icmp .le 10, 3) := by decide +kernel
theorem dX10_on_31 : decode cX10_on 31 = .ok (.aload_n 0, 1) := by decide +kernel
theorem dX10_on_32 : decode cX10_on 32 = .ok (.ldc 71, 2) := by decide +kernel
theorem dX10_on_34 : decode cX10_on 34 = .ok (.invokevirtual 72, 3) := by decide +kernel
theorem dX10_on_37 : decode cX10_on 37 = .ok (.ireturn, 1) := by decide +kernel
theorem dX10_on_38 : decode cX10_on 38 = .ok (.aload_n 0, 1) := by decide +kernel
theorem dX10_on_39 : decode cX10_on 39 = .ok (.getfield 36, 3) := by decide +kernel
theorem dX10_on_42 : decode cX10_on 42 = .ok (.aload_n 0, 1) := by decide +kernel
theorem dX10_on_43 : decode cX10_on 43 = .ok (.getfield 30, 3) := by decide +kernel
theorem dX10_on_46 : decode cX10_on 46 = .ok (.invokevirtual 178, 3) := by decide +kernel
theorem dX10_on_49 : decode cX10_on 49 = .ok (.aload_n 0, 1) := by decide +kernel
theorem dX10_on_50 : decode cX10_on 50 = .ok (.getfield 36, 3) := by decide +kernel
theorem dX10_on_53 : decode cX10_on 53 = .ok (.iload_n 2, 1) := by decide +kernel
theorem dX10_on_54 : decode cX10_on 54 = .ok (.invokevirtual 159, 3) := by decide +kernel
theorem dX10_on_57 : decode cX10_on 57 = .ok (.aload_n 0, 1) := by decide +kernel
theorem dX10_on_58 : decode cX10_on 58 = .ok (.getfield 36, 3) := by decide +kernel
theorem dX10_on_61 : decode cX10_on 61 = .ok (.iload_n 1, 1) := by decide +kernel
theorem dX10_on_62 : decode cX10_on 62 = .ok (.invokevirtual 86, 3) := by decide +kernel
theorem dX10_on_65 : decode cX10_on 65 = .ok (.astore 4, 2) := by decide +kernel
theorem dX10_on_67 : decode cX10_on 67 = .ok (.iload_n 3, 1) := by decide +kernel
theorem dX10_on_68 : decode cX10_on 68 = .ok (.ifCond .ne 9, 3) := by decide +kernel
theorem dX10_on_71 : decode cX10_on 71 = .ok (.aload 4, 2) := by decide +kernel
theorem dX10_on_73 : decode cX10_on 73 = .ok (.getfield 90, 3) := by decide +kernel
theorem dX10_on_76 : decode cX10_on 76 = .ok (.ireturn, 1) := by decide +kernel
theorem dX10_on_77 : decode cX10_on 77 = .ok (.iload_n 3, 1) := by decide +kernel
theorem dX10_on_78 : decode cX10_on 78 = .ok (.iconst 1, 1) := by decide +kernel
theorem dX10_on_79 : decode cX10_on 79 = .ok (.if_icmp .ne 11, 3) := by decide +kernel
theorem dX10_on_82 : decode cX10_on 82 = .ok (.aload 4, 2) := by decide +kernel
theorem dX10_on_84 : decode cX10_on 84 = .ok (.getfield 95, 3) := by decide +kernel
theorem dX10_on_87 : decode cX10_on 87 = .ok (.goto 8, 3) := by decide +kernel
theorem dX10_on_90 : decode cX10_on 90 = .ok (.aload 4, 2) := by decide +kernel
theorem dX10_on_92 : decode cX10_on 92 = .ok (.getfield 115, 3) := by decide +kernel
theorem dX10_on_95 : decode cX10_on 95 = .ok (.ireturn, 1) := by decide +kernel
theorem dX10_knows_0 : decode cX10_knows 0 = .ok (.aload_n 0, 1) := by decide +kernel
theorem dX10_knows_1 : decode cX10_knows 1 = .ok (.getfield 30, 3) := by decide +kernel
theorem dX10_knows_4 : decode cX10_knows 4 = .ok (.iload_n 1, 1) := by decide +kernel
theorem dX10_knows_5 : decode cX10_knows 5 = .ok (.invokevirtual 109, 3) := by decide +kernel
theorem dX10_knows_8 : decode cX10_knows 8 = .ok (.ifCond .eq 10, 3) := by decide +kernel
theorem dX10_knows_11 : decode cX10_knows 11 = .ok (.iload_n 2, 1) := by decide +kernel
theorem dX10_knows_12 : decode cX10_knows 12 = .ok (.invokestatic 80, 3) := by decide +kernel
theorem dX10_knows_15 : decode cX10_knows 15 = .ok (.ifCond .ne 10, 3) := by decide +kernel
theorem dX10_knows_18 : decode cX10_knows 18 = .ok (.aload_n 0, 1) := by decide +kernel
theorem dX10_knows_19 : decode cX10_knows 19 = .ok (.ldc 71, 2) := by decide +kernel
theorem dX10_knows_21 : decode cX10_knows 21 = .ok (.invokevirtual 72, 3) := by decide +kernel
theorem dX10_knows_24 : decode cX10_knows 24 = .ok (.ireturn, 1) := by decide +kernel
theorem dX10_knows_25 : decode cX10_knows 25 = .ok (.aload_n 0, 1) := by decide +kernel
theorem dX10_knows_26 : decode cX10_knows 26 = .ok (.iconst 0, 1) := by decide +kernel
theorem dX10_knows_27 : decode cX10_knows 27 = .ok (.iload_n 1, 1) := by decide +kernel
theorem dX10_knows_28 : decode cX10_knows 28 = .ok (.iload_n 2, 1) := by decide +kernel
theorem dX10_knows_29 : decode cX10_knows 29 = .ok (.invokevirtual 182, 3) := by decide +kernel
theorem dX10_knows_32 : decode cX10_knows 32 = .ok (.ireturn, 1) := by decide +kernel
theorem dX10_out_0 : decode cX10_out 0 = .ok (.iload_n 1, 1) := by decide +kernel
theorem dX10_out_1 : decode cX10_out 1 = .ok (.invokestatic 80, 3) := by decide +kernel
theorem dX10_out_4 : decode cX10_out 4 = .ok (.ifCond .ne 10, 3) := by decide +kernel
theorem dX10_out_7 : decode cX10_out 7 = .ok (.aload_n 0, 1) := by decide +kernel
theorem dX10_out_8 : decode cX10_out 8 = .ok (.ldc 71, 2) := by decide +kernel
theorem dX10_out_10 : decode cX10_out 10 = .ok (.invokevirtual 72, 3) := by decide +kernel
theorem dX10_out_13 : decode cX10_out 13 = .ok (.ireturn, 1) := by decide +kernel
theorem dX10_out_14 : decode cX10_out 14 = .ok (.aload_n 0, 1) := by decide +kernel
theorem dX10_out_15 : decode cX10_out 15 = .ok (.iconst 1, 1) := by decide +kernel
theorem dX10_out_16 : decode cX10_out 16 = .ok (.iconst (-1), 1) := by decide +kernel
theorem dX10_out_17 : decode cX10_out 17 = .ok (.iload_n 1, 1) := by decide +kernel
theorem dX10_out_18 : decode cX10_out 18 = .ok (.invokevirtual 182, 3) := by decide +kernel
theorem dX10_out_21 : decode cX10_out 21 = .ok (.ireturn, 1) := by decide +kernel
theorem dX10_meet_0 : decode cX10_meet 0 = .ok (.aload_n 0, 1) := by decide +kernel
theorem dX10_meet_1 : decode cX10_meet 1 = .ok (.iload_n 1, 1) := by decide +kernel
theorem dX10_meet_2 : decode cX10_meet 2 = .ok (.iload_n 2, 1) := by decide +kernel
theorem dX10_meet_3 : decode cX10_meet 3 = .ok (.invokevirtual 186, 3) := by decide +kernel
theorem dX10_meet_6 : decode cX10_meet 6 = .ok (.ifCond .ne 10, 3) := by decide +kernel
theorem dX10_meet_9 : decode cX10_meet 9 = .ok (.aload_n 0, 1) := by decide +kernel
theorem dX10_meet_10 : decode cX10_meet 10 = .ok (.ldc 71, 2) := by decide +kernel
theorem dX10_meet_12 : decode cX10_meet 12 = .ok (.invokevirtual 72, 3) := by decide +kernel
theorem dX10_meet_15 : decode cX10_meet 15 = .ok (.ireturn, 1) := by decide +kernel
theorem dX10_meet_16 : decode cX10_meet 16 = .ok (.aload_n 0, 1) := by decide +kernel
theorem dX10_meet_17 : decode cX10_meet 17 = .ok (.iconst 2, 1) := by decide +kernel
theorem dX10_meet_18 : decode cX10_meet 18 = .ok (.iload_n 1, 1) := by decide +kernel
theorem dX10_meet_19 : decode cX10_meet 19 = .ok (.iload_n 2, 1) := by decide +kernel
theorem dX10_meet_20 : decode cX10_meet 20 = .ok (.invokevirtual 182, 3) := by decide +kernel
theorem dX10_meet_23 : decode cX10_meet 23 = .ok (.ireturn, 1) := by decide +kernel
theorem dX10_kind_0 : decode cX10_kind 0 = .ok (.aload_n 0, 1) := by decide +kernel
theorem dX10_kind_1 : decode cX10_kind 1 = .ok (.getfield 30, 3) := by decide +kernel
theorem dX10_kind_4 : decode cX10_kind 4 = .ok (.iload_n 1, 1) := by decide +kernel
theorem dX10_kind_5 : decode cX10_kind 5 = .ok (.invokevirtual 109, 3) := by decide +kernel
theorem dX10_kind_8 : decode cX10_kind 8 = .ok (.ifCond .eq 14, 3) := by decide +kernel
theorem dX10_kind_11 : decode cX10_kind 11 = .ok (.iload_n 2, 1) := by decide +kernel
theorem dX10_kind_12 : decode cX10_kind 12 = .ok (.iconst 1, 1) := by decide +kernel
theorem dX10_kind_13 : decode cX10_kind 13 = .ok (.if_icmp .lt 9, 3) := by decide +kernel
theorem dX10_kind_16 : decode cX10_kind 16 = .ok (.iload_n 2, 1) := by decide +kernel
theorem dX10_kind_17 : decode cX10_kind 17 = .ok (.bipush 100, 2) := by decide +kernel
theorem dX10_kind_19 : decode cX10_kind 19 = .ok (.if_icmp .le 10, 3) := by decide +kernel
theorem dX10_kind_22 : decode cX10_kind 22 = .ok (.aload_n 0, 1) := by decide +kernel
theorem dX10_kind_23 : decode cX10_kind 23 = .ok (.ldc 71, 2) := by decide +kernel
theorem dX10_kind_25 : decode cX10_kind 25 = .ok (.invokevirtual 72, 3) := by decide +kernel
theorem dX10_kind_28 : decode cX10_kind 28 = .ok (.ireturn, 1) := by decide +kernel
theorem dX10_kind_29 : decode cX10_kind 29 = .ok (.iconst 0, 1) := by decide +kernel
theorem dX10_kind_30 : decode cX10_kind 30 = .ok (.istore_n 3, 1) := by decide +kernel
theorem dX10_kind_31 : decode cX10_kind 31 = .ok (.iload_n 3, 1) := by decide +kernel
theorem dX10_kind_32 : decode cX10_kind 32 = .ok (.bipush 6, 2) := by decide +kernel
theorem dX10_kind_34 : decode cX10_kind 34 = .ok (.if_icmp .ge 22, 3) := by decide +kernel
theorem dX10_kind_37 : decode cX10_kind 37 = .ok (.aload_n 0, 1) := by decide +kernel
theorem dX10_kind_38 : decode cX10_kind 38 = .ok (.getfield 64, 3) := by decide +kernel
theorem dX10_kind_41 : decode cX10_kind 41 = .ok (.iload_n 3, 1) := by decide +kernel
theorem dX10_kind_42 : decode cX10_kind 42 = .ok (.aload_n 0, 1) := by decide +kernel
theorem dX10_kind_43 : decode cX10_kind 43 = .ok (.iload_n 1, 1) := by decide +kernel
theorem dX10_kind_44 : decode cX10_kind 44 = .ok (.iload_n 3, 1) := by decide +kernel
theorem dX10_kind_45 : decode cX10_kind 45 = .ok (.iload_n 2, 1) := by decide +kernel
theorem dX10_kind_46 : decode cX10_kind 46 = .ok (.invokevirtual 189, 3) := by decide +kernel
theorem dX10_kind_49 : decode cX10_kind 49 = .ok (.iastore, 1) := by decide +kernel
theorem dX10_kind_50 : decode cX10_kind 50 = .ok (.iinc 3 1, 3) := by decide +kernel
theorem dX10_kind_53 : decode cX10_kind 53 = .ok (.goto (-22), 3) := by decide +kernel
theorem dX10_kind_56 : decode cX10_kind 56 = .ok (.aload_n 0, 1) := by decide +kernel
theorem dX10_kind_57 : decode cX10_kind 57 = .ok (.bipush 6, 2) := by decide +kernel
theorem dX10_kind_59 : decode cX10_kind 59 = .ok (.invokevirtual 192, 3) := by decide +kernel
theorem dX10_kind_62 : decode cX10_kind 62 = .ok (.ireturn, 1) := by decide +kernel
theorem dX10_forget_0 : decode cX10_forget 0 = .ok (.aload_n 0, 1) := by decide +kernel
theorem dX10_forget_1 : decode cX10_forget 1 = .ok (.getfield 30, 3) := by decide +kernel
theorem dX10_forget_4 : decode cX10_forget 4 = .ok (.iload_n 1, 1) := by decide +kernel
theorem dX10_forget_5 : decode cX10_forget 5 = .ok (.invokevirtual 109, 3) := by decide +kernel
theorem dX10_forget_8 : decode cX10_forget 8 = .ok (.ifCond .eq 14, 3) := by decide +kernel
theorem dX10_forget_11 : decode cX10_forget 11 = .ok (.iload_n 2, 1) := by decide +kernel
theorem dX10_forget_12 : decode cX10_forget 12 = .ok (.iconst 1, 1) := by decide +kernel
theorem dX10_forget_13 : decode cX10_forget 13 = .ok (.if_icmp .lt 9, 3) := by decide +kernel
theorem dX10_forget_16 : decode cX10_forget 16 = .ok (.iload_n 2, 1) := by decide +kernel
theorem dX10_forget_17 : decode cX10_forget 17 = .ok (.bipush 60, 2) := by decide +kernel
theorem dX10_forget_19 : decode cX10_forget 19 = .ok (.if_icmp .le 10, 3) := by decide +kernel
theorem dX10_forget_22 : decode cX10_forget 22 = .ok (.aload_n 0, 1) := by decide +kernel
theorem dX10_forget_23 : decode cX10_forget 23 = .ok (.ldc 71, 2) := by decide +kernel
theorem dX10_forget_25 : decode cX10_forget 25 = .ok (.invokevirtual 72, 3) := by decide +kernel
theorem dX10_forget_28 : decode cX10_forget 28 = .ok (.ireturn, 1) := by decide +kernel
theorem dX10_forget_29 : decode cX10_forget 29 = .ok (.aload_n 0, 1) := by decide +kernel
theorem dX10_forget_30 : decode cX10_forget 30 = .ok (.getfield 30, 3) := by decide +kernel
theorem dX10_forget_33 : decode cX10_forget 33 = .ok (.iload_n 1, 1) := by decide +kernel
theorem dX10_forget_34 : decode cX10_forget 34 = .ok (.invokevirtual 86, 3) := by decide +kernel
theorem dX10_forget_37 : decode cX10_forget 37 = .ok (.getfield 90, 3) := by decide +kernel
theorem dX10_forget_40 : decode cX10_forget 40 = .ok (.istore_n 3, 1) := by decide +kernel
theorem dX10_forget_41 : decode cX10_forget 41 = .ok (.iload_n 3, 1) := by decide +kernel
theorem dX10_forget_42 : decode cX10_forget 42 = .ok (.ifCond .ne 10, 3) := by decide +kernel
theorem dX10_forget_45 : decode cX10_forget 45 = .ok (.aload_n 0, 1) := by decide +kernel
theorem dX10_forget_46 : decode cX10_forget 46 = .ok (.ldc 195, 2) := by decide +kernel
theorem dX10_forget_48 : decode cX10_forget 48 = .ok (.invokevirtual 72, 3) := by decide +kernel
theorem dX10_forget_51 : decode cX10_forget 51 = .ok (.ireturn, 1) := by decide +kernel
theorem dX10_forget_52 : decode cX10_forget 52 = .ok (.iconst 0, 1) := by decide +kernel
theorem dX10_forget_53 : decode cX10_forget 53 = .ok (.istore 4, 2) := by decide +kernel
theorem dX10_forget_55 : decode cX10_forget 55 = .ok (.iload 4, 2) := by decide +kernel
theorem dX10_forget_57 : decode cX10_forget 57 = .ok (.bipush 10, 2) := by decide +kernel
theorem dX10_forget_59 : decode cX10_forget 59 = .ok (.if_icmp .ge 37, 3) := by decide +kernel
theorem dX10_forget_62 : decode cX10_forget 62 = .ok (.aload_n 0, 1) := by decide +kernel
theorem dX10_forget_63 : decode cX10_forget 63 = .ok (.getfield 64, 3) := by decide +kernel
theorem dX10_forget_66 : decode cX10_forget 66 = .ok (.iload 4, 2) := by decide +kernel
theorem dX10_forget_68 : decode cX10_forget 68 = .ok (.iload_n 3, 1) := by decide +kernel
theorem dX10_forget_69 : decode cX10_forget 69 = .ok (.iload 4, 2) := by decide +kernel
theorem dX10_forget_71 : decode cX10_forget 71 = .ok (.invokestatic 196, 3) := by decide +kernel
theorem dX10_forget_74 : decode cX10_forget 74 = .ok (.ifCond .eq 14, 3) := by decide +kernel
theorem dX10_forget_77 : decode cX10_forget 77 = .ok (.aload_n 0, 1) := by decide +kernel
theorem dX10_forget_78 : decode cX10_forget 78 = .ok (.iload_n 1, 1) := by decide +kernel
theorem dX10_forget_79 : decode cX10_forget 79 = .ok (.iload 4, 2) := by decide +kernel
theorem dX10_forget_81 : decode cX10_forget 81 = .ok (.iload_n 2, 1) := by decide +kernel
theorem dX10_forget_82 : decode cX10_forget 82 = .ok (.invokevirtual 199, 3) := by decide +kernel
theorem dX10_forget_85 : decode cX10_forget 85 = .ok (.goto 4, 3) := by decide +kernel
theorem dX10_forget_88 : decode cX10_forget 88 = .ok (.iconst (-1), 1) := by decide +kernel
theorem dX10_forget_89 : decode cX10_forget 89 = .ok (.iastore, 1) := by decide +kernel
theorem dX10_forget_90 : decode cX10_forget 90 = .ok (.iinc 4 1, 3) := by decide +kernel
theorem dX10_forget_93 : decode cX10_forget 93 = .ok (.goto (-38), 3) := by decide +kernel
theorem dX10_forget_96 : decode cX10_forget 96 = .ok (.aload_n 0, 1) := by decide +kernel
theorem dX10_forget_97 : decode cX10_forget 97 = .ok (.bipush 10, 2) := by decide +kernel
theorem dX10_forget_99 : decode cX10_forget 99 = .ok (.invokevirtual 192, 3) := by decide +kernel
theorem dX10_forget_102 : decode cX10_forget 102 = .ok (.ireturn, 1) := by decide +kernel
theorem dX10_confide_0 : decode cX10_confide 0 = .ok (.aload_n 0, 1) := by decide +kernel
theorem dX10_confide_1 : decode cX10_confide 1 = .ok (.getfield 30, 3) := by decide +kernel
theorem dX10_confide_4 : decode cX10_confide 4 = .ok (.iload_n 1, 1) := by decide +kernel
theorem dX10_confide_5 : decode cX10_confide 5 = .ok (.invokevirtual 109, 3) := by decide +kernel
theorem dX10_confide_8 : decode cX10_confide 8 = .ok (.ifCond .eq 14, 3) := by decide +kernel
theorem dX10_confide_11 : decode cX10_confide 11 = .ok (.iload_n 2, 1) := by decide +kernel
theorem dX10_confide_12 : decode cX10_confide 12 = .ok (.iconst 1, 1) := by decide +kernel
theorem dX10_confide_13 : decode cX10_confide 13 = .ok (.if_icmp .lt 9, 3) := by decide +kernel
theorem dX10_confide_16 : decode cX10_confide 16 = .ok (.iload_n 2, 1) := by decide +kernel
theorem dX10_confide_17 : decode cX10_confide 17 = .ok (.bipush 60, 2) := by decide +kernel
theorem dX10_confide_19 : decode cX10_confide 19 = .ok (.if_icmp .le 10, 3) := by decide +kernel
theorem dX10_confide_22 : decode cX10_confide 22 = .ok (.aload_n 0, 1) := by decide +kernel
theorem dX10_confide_23 : decode cX10_confide 23 = .ok (.ldc 71, 2) := by decide +kernel
theorem dX10_confide_25 : decode cX10_confide 25 = .ok (.invokevirtual 72, 3) := by decide +kernel
theorem dX10_confide_28 : decode cX10_confide 28 = .ok (.ireturn, 1) := by decide +kernel
theorem dX10_confide_29 : decode cX10_confide 29 = .ok (.aload_n 0, 1) := by decide +kernel
theorem dX10_confide_30 : decode cX10_confide 30 = .ok (.getfield 30, 3) := by decide +kernel
theorem dX10_confide_33 : decode cX10_confide 33 = .ok (.iload_n 1, 1) := by decide +kernel
theorem dX10_confide_34 : decode cX10_confide 34 = .ok (.invokevirtual 86, 3) := by decide +kernel
theorem dX10_confide_37 : decode cX10_confide 37 = .ok (.getfield 90, 3) := by decide +kernel
theorem dX10_confide_40 : decode cX10_confide 40 = .ok (.istore_n 3, 1) := by decide +kernel
theorem dX10_confide_41 : decode cX10_confide 41 = .ok (.iload_n 3, 1) := by decide +kernel
theorem dX10_confide_42 : decode cX10_confide 42 = .ok (.sipush 1023, 3) := by decide +kernel
theorem dX10_confide_45 : decode cX10_confide 45 = .ok (.if_icmp .ne 10, 3) := by decide +kernel
theorem dX10_confide_48 : decode cX10_confide 48 = .ok (.aload_n 0, 1) := by decide +kernel
theorem dX10_confide_49 : decode cX10_confide 49 = .ok (.ldc 195, 2) := by decide +kernel
theorem dX10_confide_51 : decode cX10_confide 51 = .ok (.invokevirtual 72, 3) := by decide +kernel
theorem dX10_confide_54 : decode cX10_confide 54 = .ok (.ireturn, 1) := by decide +kernel
theorem dX10_confide_55 : decode cX10_confide 55 = .ok (.iconst 0, 1) := by decide +kernel
theorem dX10_confide_56 : decode cX10_confide 56 = .ok (.istore 4, 2) := by decide +kernel
theorem dX10_confide_58 : decode cX10_confide 58 = .ok (.iload 4, 2) := by decide +kernel
theorem dX10_confide_60 : decode cX10_confide 60 = .ok (.bipush 10, 2) := by decide +kernel
theorem dX10_confide_62 : decode cX10_confide 62 = .ok (.if_icmp .ge 37, 3) := by decide +kernel
theorem dX10_confide_65 : decode cX10_confide 65 = .ok (.aload_n 0, 1) := by decide +kernel
theorem dX10_confide_66 : decode cX10_confide 66 = .ok (.getfield 64, 3) := by decide +kernel
theorem dX10_confide_69 : decode cX10_confide 69 = .ok (.iload 4, 2) := by decide +kernel
theorem dX10_confide_71 : decode cX10_confide 71 = .ok (.iload_n 3, 1) := by decide +kernel
theorem dX10_confide_72 : decode cX10_confide 72 = .ok (.iload 4, 2) := by decide +kernel
theorem dX10_confide_74 : decode cX10_confide 74 = .ok (.invokestatic 196, 3) := by decide +kernel
theorem dX10_confide_77 : decode cX10_confide 77 = .ok (.ifCond .eq 7, 3) := by decide +kernel
theorem dX10_confide_80 : decode cX10_confide 80 = .ok (.iconst (-1), 1) := by decide +kernel
theorem dX10_confide_81 : decode cX10_confide 81 = .ok (.goto 11, 3) := by decide +kernel
theorem dX10_confide_84 : decode cX10_confide 84 = .ok (.aload_n 0, 1) := by decide +kernel
theorem dX10_confide_85 : decode cX10_confide 85 = .ok (.iload_n 1, 1) := by decide +kernel
theorem dX10_confide_86 : decode cX10_confide 86 = .ok (.iload 4, 2) := by decide +kernel
theorem dX10_confide_88 : decode cX10_confide 88 = .ok (.iload_n 2, 1) := by decide +kernel
theorem dX10_confide_89 : decode cX10_confide 89 = .ok (.invokevirtual 202, 3) := by decide +kernel
theorem dX10_confide_92 : decode cX10_confide 92 = .ok (.iastore, 1) := by decide +kernel
theorem dX10_confide_93 : decode cX10_confide 93 = .ok (.iinc 4 1, 3) := by decide +kernel
theorem dX10_confide_96 : decode cX10_confide 96 = .ok (.goto (-38), 3) := by decide +kernel
theorem dX10_confide_99 : decode cX10_confide 99 = .ok (.aload_n 0, 1) := by decide +kernel
theorem dX10_confide_100 : decode cX10_confide 100 = .ok (.bipush 10, 2) := by decide +kernel
theorem dX10_confide_102 : decode cX10_confide 102 = .ok (.invokevirtual 192, 3) := by decide +kernel
theorem dX10_confide_105 : decode cX10_confide 105 = .ok (.ireturn, 1) := by decide +kernel
theorem dX10_enough_0 : decode cX10_enough 0 = .ok (.aload_n 0, 1) := by decide +kernel
theorem dX10_enough_1 : decode cX10_enough 1 = .ok (.getfield 30, 3) := by decide +kernel
theorem dX10_enough_4 : decode cX10_enough 4 = .ok (.iload_n 1, 1) := by decide +kernel
theorem dX10_enough_5 : decode cX10_enough 5 = .ok (.invokevirtual 109, 3) := by decide +kernel
theorem dX10_enough_8 : decode cX10_enough 8 = .ok (.ifCond .eq 14, 3) := by decide +kernel
theorem dX10_enough_11 : decode cX10_enough 11 = .ok (.iload_n 2, 1) := by decide +kernel
theorem dX10_enough_12 : decode cX10_enough 12 = .ok (.iconst 1, 1) := by decide +kernel
theorem dX10_enough_13 : decode cX10_enough 13 = .ok (.if_icmp .lt 9, 3) := by decide +kernel
theorem dX10_enough_16 : decode cX10_enough 16 = .ok (.iload_n 2, 1) := by decide +kernel
theorem dX10_enough_17 : decode cX10_enough 17 = .ok (.bipush 99, 2) := by decide +kernel
theorem dX10_enough_19 : decode cX10_enough 19 = .ok (.if_icmp .le 10, 3) := by decide +kernel
theorem dX10_enough_22 : decode cX10_enough 22 = .ok (.aload_n 0, 1) := by decide +kernel
theorem dX10_enough_23 : decode cX10_enough 23 = .ok (.ldc 71, 2) := by decide +kernel
theorem dX10_enough_25 : decode cX10_enough 25 = .ok (.invokevirtual 72, 3) := by decide +kernel
theorem dX10_enough_28 : decode cX10_enough 28 = .ok (.ireturn, 1) := by decide +kernel
theorem dX10_enough_29 : decode cX10_enough 29 = .ok (.aload_n 0, 1) := by decide +kernel
theorem dX10_enough_30 : decode cX10_enough 30 = .ok (.iconst 3, 1) := by decide +kernel
theorem dX10_enough_31 : decode cX10_enough 31 = .ok (.iload_n 1, 1) := by decide +kernel
theorem dX10_enough_32 : decode cX10_enough 32 = .ok (.aload_n 0, 1) := by decide +kernel
theorem dX10_enough_33 : decode cX10_enough 33 = .ok (.getfield 30, 3) := by decide +kernel
theorem dX10_enough_36 : decode cX10_enough 36 = .ok (.iload_n 1, 1) := by decide +kernel
theorem dX10_enough_37 : decode cX10_enough 37 = .ok (.invokevirtual 86, 3) := by decide +kernel
theorem dX10_enough_40 : decode cX10_enough 40 = .ok (.getfield 121, 3) := by decide +kernel
theorem dX10_enough_43 : decode cX10_enough 43 = .ok (.iload_n 2, 1) := by decide +kernel
theorem dX10_enough_44 : decode cX10_enough 44 = .ok (.iadd, 1) := by decide +kernel
theorem dX10_enough_45 : decode cX10_enough 45 = .ok (.invokevirtual 182, 3) := by decide +kernel
theorem dX10_enough_48 : decode cX10_enough 48 = .ok (.ireturn, 1) := by decide +kernel
theorem dX10_doubt_0 : decode cX10_doubt 0 = .ok (.iload_n 1, 1) := by decide +kernel
theorem dX10_doubt_1 : decode cX10_doubt 1 = .ok (.iconst 1, 1) := by decide +kernel
theorem dX10_doubt_2 : decode cX10_doubt 2 = .ok (.if_icmp .lt 9, 3) := by decide +kernel
theorem dX10_doubt_5 : decode cX10_doubt 5 = .ok (.iload_n 1, 1) := by decide +kernel
theorem dX10_doubt_6 : decode cX10_doubt 6 = .ok (.bipush 60, 2) := by decide +kernel
theorem dX10_doubt_8 : decode cX10_doubt 8 = .ok (.if_icmp .le 10, 3) := by decide +kernel
theorem dX10_doubt_11 : decode cX10_doubt 11 = .ok (.aload_n 0, 1) := by decide +kernel
theorem dX10_doubt_12 : decode cX10_doubt 12 = .ok (.ldc 71, 2) := by decide +kernel
theorem dX10_doubt_14 : decode cX10_doubt 14 = .ok (.invokevirtual 72, 3) := by decide +kernel
theorem dX10_doubt_17 : decode cX10_doubt 17 = .ok (.ireturn, 1) := by decide +kernel
theorem dX10_doubt_18 : decode cX10_doubt 18 = .ok (.iconst 0, 1) := by decide +kernel
theorem dX10_doubt_19 : decode cX10_doubt 19 = .ok (.istore_n 2, 1) := by decide +kernel
theorem dX10_doubt_20 : decode cX10_doubt 20 = .ok (.iload_n 2, 1) := by decide +kernel
theorem dX10_doubt_21 : decode cX10_doubt 21 = .ok (.bipush 10, 2) := by decide +kernel
theorem dX10_doubt_23 : decode cX10_doubt 23 = .ok (.if_icmp .ge 21, 3) := by decide +kernel
theorem dX10_doubt_26 : decode cX10_doubt 26 = .ok (.aload_n 0, 1) := by decide +kernel
theorem dX10_doubt_27 : decode cX10_doubt 27 = .ok (.getfield 64, 3) := by decide +kernel
theorem dX10_doubt_30 : decode cX10_doubt 30 = .ok (.iload_n 2, 1) := by decide +kernel
theorem dX10_doubt_31 : decode cX10_doubt 31 = .ok (.aload_n 0, 1) := by decide +kernel
theorem dX10_doubt_32 : decode cX10_doubt 32 = .ok (.iload_n 2, 1) := by decide +kernel
theorem dX10_doubt_33 : decode cX10_doubt 33 = .ok (.iload_n 1, 1) := by decide +kernel
theorem dX10_doubt_34 : decode cX10_doubt 34 = .ok (.invokevirtual 205, 3) := by decide +kernel
theorem dX10_doubt_37 : decode cX10_doubt 37 = .ok (.iastore, 1) := by decide +kernel
theorem dX10_doubt_38 : decode cX10_doubt 38 = .ok (.iinc 2 1, 3) := by decide +kernel
theorem dX10_doubt_41 : decode cX10_doubt 41 = .ok (.goto (-21), 3) := by decide +kernel
theorem dX10_doubt_44 : decode cX10_doubt 44 = .ok (.aload_n 0, 1) := by decide +kernel
theorem dX10_doubt_45 : decode cX10_doubt 45 = .ok (.bipush 10, 2) := by decide +kernel
theorem dX10_doubt_47 : decode cX10_doubt 47 = .ok (.invokevirtual 192, 3) := by decide +kernel
theorem dX10_doubt_50 : decode cX10_doubt 50 = .ok (.ireturn, 1) := by decide +kernel
theorem dX10_wisest_0 : decode cX10_wisest 0 = .ok (.iload_n 1, 1) := by decide +kernel
theorem dX10_wisest_1 : decode cX10_wisest 1 = .ok (.ifCond .lt 10, 3) := by decide +kernel
theorem dX10_wisest_4 : decode cX10_wisest 4 = .ok (.iload_n 1, 1) := by decide +kernel
theorem dX10_wisest_5 : decode cX10_wisest 5 = .ok (.sipush 200, 3) := by decide +kernel
theorem dX10_wisest_8 : decode cX10_wisest 8 = .ok (.if_icmp .le 10, 3) := by decide +kernel
theorem dX10_wisest_11 : decode cX10_wisest 11 = .ok (.aload_n 0, 1) := by decide +kernel
theorem dX10_wisest_12 : decode cX10_wisest 12 = .ok (.ldc 71, 2) := by decide +kernel
theorem dX10_wisest_14 : decode cX10_wisest 14 = .ok (.invokevirtual 72, 3) := by decide +kernel
theorem dX10_wisest_17 : decode cX10_wisest 17 = .ok (.ireturn, 1) := by decide +kernel
theorem dX10_wisest_18 : decode cX10_wisest 18 = .ok (.aload_n 0, 1) := by decide +kernel
theorem dX10_wisest_19 : decode cX10_wisest 19 = .ok (.getfield 30, 3) := by decide +kernel
theorem dX10_wisest_22 : decode cX10_wisest 22 = .ok (.getfield 83, 3) := by decide +kernel
theorem dX10_wisest_25 : decode cX10_wisest 25 = .ok (.ifCond .ne 10, 3) := by decide +kernel
theorem dX10_wisest_28 : decode cX10_wisest 28 = .ok (.aload_n 0, 1) := by decide +kernel
theorem dX10_wisest_29 : decode cX10_wisest 29 = .ok (.ldc 195, 2) := by decide +kernel
theorem dX10_wisest_31 : decode cX10_wisest 31 = .ok (.invokevirtual 72, 3) := by decide +kernel
theorem dX10_wisest_34 : decode cX10_wisest 34 = .ok (.ireturn, 1) := by decide +kernel
theorem dX10_wisest_35 : decode cX10_wisest 35 = .ok (.aload_n 0, 1) := by decide +kernel
theorem dX10_wisest_36 : decode cX10_wisest 36 = .ok (.getfield 36, 3) := by decide +kernel
theorem dX10_wisest_39 : decode cX10_wisest 39 = .ok (.aload_n 0, 1) := by decide +kernel
theorem dX10_wisest_40 : decode cX10_wisest 40 = .ok (.getfield 30, 3) := by decide +kernel
theorem dX10_wisest_43 : decode cX10_wisest 43 = .ok (.invokevirtual 178, 3) := by decide +kernel
theorem dX10_wisest_46 : decode cX10_wisest 46 = .ok (.aload_n 0, 1) := by decide +kernel
theorem dX10_wisest_47 : decode cX10_wisest 47 = .ok (.getfield 36, 3) := by decide +kernel
theorem dX10_wisest_50 : decode cX10_wisest 50 = .ok (.iload_n 1, 1) := by decide +kernel
theorem dX10_wisest_51 : decode cX10_wisest 51 = .ok (.invokevirtual 159, 3) := by decide +kernel
theorem dX10_wisest_54 : decode cX10_wisest 54 = .ok (.iconst 0, 1) := by decide +kernel
theorem dX10_wisest_55 : decode cX10_wisest 55 = .ok (.istore_n 2, 1) := by decide +kernel
theorem dX10_wisest_56 : decode cX10_wisest 56 = .ok (.iload_n 2, 1) := by decide +kernel
theorem dX10_wisest_57 : decode cX10_wisest 57 = .ok (.aload_n 0, 1) := by decide +kernel
theorem dX10_wisest_58 : decode cX10_wisest 58 = .ok (.getfield 36, 3) := by decide +kernel
theorem dX10_wisest_61 : decode cX10_wisest 61 = .ok (.getfield 83, 3) := by decide +kernel
theorem dX10_wisest_64 : decode cX10_wisest 64 = .ok (.if_icmp .ge 29, 3) := by decide +kernel
theorem dX10_wisest_67 : decode cX10_wisest 67 = .ok (.aload_n 0, 1) := by decide +kernel
theorem dX10_wisest_68 : decode cX10_wisest 68 = .ok (.getfield 64, 3) := by decide +kernel
theorem dX10_wisest_71 : decode cX10_wisest 71 = .ok (.iload_n 2, 1) := by decide +kernel
theorem dX10_wisest_72 : decode cX10_wisest 72 = .ok (.aload_n 0, 1) := by decide +kernel
theorem dX10_wisest_73 : decode cX10_wisest 73 = .ok (.getfield 36, 3) := by decide +kernel
theorem dX10_wisest_76 : decode cX10_wisest 76 = .ok (.iload_n 2, 1) := by decide +kernel
theorem dX10_wisest_77 : decode cX10_wisest 77 = .ok (.invokevirtual 86, 3) := by decide +kernel
theorem dX10_wisest_80 : decode cX10_wisest 80 = .ok (.getfield 90, 3) := by decide +kernel
theorem dX10_wisest_83 : decode cX10_wisest 83 = .ok (.invokestatic 209, 3) := by decide +kernel
theorem dX10_wisest_86 : decode cX10_wisest 86 = .ok (.iastore, 1) := by decide +kernel
theorem dX10_wisest_87 : decode cX10_wisest 87 = .ok (.iinc 2 1, 3) := by decide +kernel
theorem dX10_wisest_90 : decode cX10_wisest 90 = .ok (.goto (-34), 3) := by decide +kernel
theorem dX10_wisest_93 : decode cX10_wisest 93 = .ok (.aload_n 0, 1) := by decide +kernel
theorem dX10_wisest_94 : decode cX10_wisest 94 = .ok (.aload_n 0, 1) := by decide +kernel
theorem dX10_wisest_95 : decode cX10_wisest 95 = .ok (.getfield 36, 3) := by decide +kernel
theorem dX10_wisest_98 : decode cX10_wisest 98 = .ok (.getfield 83, 3) := by decide +kernel
theorem dX10_wisest_101 : decode cX10_wisest 101 = .ok (.invokevirtual 192, 3) := by decide +kernel
theorem dX10_wisest_104 : decode cX10_wisest 104 = .ok (.ireturn, 1) := by decide +kernel
theorem dX10_feed_0 : decode cX10_feed 0 = .ok (.iload_n 2, 1) := by decide +kernel
theorem dX10_feed_1 : decode cX10_feed 1 = .ok (.iconst 1, 1) := by decide +kernel
theorem dX10_feed_2 : decode cX10_feed 2 = .ok (.if_icmp .lt 8, 3) := by decide +kernel
theorem dX10_feed_5 : decode cX10_feed 5 = .ok (.iload_n 2, 1) := by decide +kernel
theorem dX10_feed_6 : decode cX10_feed 6 = .ok (.iconst 4, 1) := by decide +kernel
theorem dX10_feed_7 : decode cX10_feed 7 = .ok (.if_icmp .le 10, 3) := by decide +kernel
theorem dX10_feed_10 : decode cX10_feed 10 = .ok (.aload_n 0, 1) := by decide +kernel
theorem dX10_feed_11 : decode cX10_feed 11 = .ok (.ldc 71, 2) := by decide +kernel
theorem dX10_feed_13 : decode cX10_feed 13 = .ok (.invokevirtual 72, 3) := by decide +kernel
theorem dX10_feed_16 : decode cX10_feed 16 = .ok (.ireturn, 1) := by decide +kernel
theorem dX10_feed_17 : decode cX10_feed 17 = .ok (.iload_n 2, 1) := by decide +kernel
theorem dX10_feed_18 : decode cX10_feed 18 = .ok (.bipush 120, 2) := by decide +kernel
theorem dX10_feed_20 : decode cX10_feed 20 = .ok (.aload_n 0, 1) := by decide +kernel
theorem dX10_feed_21 : decode cX10_feed 21 = .ok (.getfield 49, 3) := by decide +kernel
theorem dX10_feed_24 : decode cX10_feed 24 = .ok (.getfield 214, 3) := by decide +kernel
theorem dX10_feed_27 : decode cX10_feed 27 = .ok (.isub, 1) := by decide +kernel
theorem dX10_feed_28 : decode cX10_feed 28 = .ok (.if_icmp .le 10, 3) := by decide +kernel
theorem dX10_feed_31 : decode cX10_feed 31 = .ok (.aload_n 0, 1) := by decide +kernel
theorem dX10_feed_32 : decode cX10_feed 32 = .ok (.ldc 105, 2) := by decide +kernel
theorem dX10_feed_34 : decode cX10_feed 34 = .ok (.invokevirtual 72, 3) := by decide +kernel
theorem dX10_feed_37 : decode cX10_feed 37 = .ok (.ireturn, 1) := by decide +kernel
theorem dX10_feed_38 : decode cX10_feed 38 = .ok (.iload_n 2, 1) := by decide +kernel
theorem dX10_feed_39 : decode cX10_feed 39 = .ok (.iconst 1, 1) := by decide +kernel
theorem dX10_feed_40 : decode cX10_feed 40 = .ok (.isub, 1) := by decide +kernel
theorem dX10_feed_41 : decode cX10_feed 41 = .ok (.istore_n 3, 1) := by decide +kernel
theorem dX10_feed_42 : decode cX10_feed 42 = .ok (.iload_n 3, 1) := by decide +kernel
theorem dX10_feed_43 : decode cX10_feed 43 = .ok (.ifCond .lt 26, 3) := by decide +kernel
theorem dX10_feed_46 : decode cX10_feed 46 = .ok (.aload_n 0, 1) := by decide +kernel
theorem dX10_feed_47 : decode cX10_feed 47 = .ok (.getfield 49, 3) := by decide +kernel
theorem dX10_feed_50 : decode cX10_feed 50 = .ok (.iload_n 1, 1) := by decide +kernel
theorem dX10_feed_51 : decode cX10_feed 51 = .ok (.bipush 8, 2) := by decide +kernel
theorem dX10_feed_53 : decode cX10_feed 53 = .ok (.iload_n 3, 1) := by decide +kernel
theorem dX10_feed_54 : decode cX10_feed 54 = .ok (.imul, 1) := by decide +kernel
theorem dX10_feed_55 : decode cX10_feed 55 = .ok (.ishr, 1) := by decide +kernel
theorem dX10_feed_56 : decode cX10_feed 56 = .ok (.sipush 255, 3) := by decide +kernel
theorem dX10_feed_59 : decode cX10_feed 59 = .ok (.iand, 1) := by decide +kernel
theorem dX10_feed_60 : decode cX10_feed 60 = .ok (.invokevirtual 217, 3) := by decide +kernel
theorem dX10_feed_63 : decode cX10_feed 63 = .ok (.iinc 3 (-1), 3) := by decide +kernel
theorem dX10_feed_66 : decode cX10_feed 66 = .ok (.goto (-24), 3) := by decide +kernel
theorem dX10_feed_69 : decode cX10_feed 69 = .ok (.aload_n 0, 1) := by decide +kernel
theorem dX10_feed_70 : decode cX10_feed 70 = .ok (.getfield 49, 3) := by decide +kernel
theorem dX10_feed_73 : decode cX10_feed 73 = .ok (.getfield 214, 3) := by decide +kernel
theorem dX10_feed_76 : decode cX10_feed 76 = .ok (.ireturn, 1) := by decide +kernel
theorem dX10_wipe_0 : decode cX10_wipe 0 = .ok (.aload_n 0, 1) := by decide +kernel
theorem dX10_wipe_1 : decode cX10_wipe 1 = .ok (.getfield 49, 3) := by decide +kernel
theorem dX10_wipe_4 : decode cX10_wipe 4 = .ok (.getfield 214, 3) := by decide +kernel
theorem dX10_wipe_7 : decode cX10_wipe 7 = .ok (.istore_n 1, 1) := by decide +kernel
theorem dX10_wipe_8 : decode cX10_wipe 8 = .ok (.aload_n 0, 1) := by decide +kernel
theorem dX10_wipe_9 : decode cX10_wipe 9 = .ok (.getfield 49, 3) := by decide +kernel
theorem dX10_wipe_12 : decode cX10_wipe 12 = .ok (.iconst 0, 1) := by decide +kernel
theorem dX10_wipe_13 : decode cX10_wipe 13 = .ok (.putfield 214, 3) := by decide +kernel
theorem dX10_wipe_16 : decode cX10_wipe 16 = .ok (.iload_n 1, 1) := by decide +kernel
theorem dX10_wipe_17 : decode cX10_wipe 17 = .ok (.ireturn, 1) := by decide +kernel
theorem dX10_park_0 : decode cX10_park 0 = .ok (.aload_n 0, 1) := by decide +kernel
theorem dX10_park_1 : decode cX10_park 1 = .ok (.getfield 36, 3) := by decide +kernel
theorem dX10_park_4 : decode cX10_park 4 = .ok (.aload_n 0, 1) := by decide +kernel
theorem dX10_park_5 : decode cX10_park 5 = .ok (.getfield 30, 3) := by decide +kernel
theorem dX10_park_8 : decode cX10_park 8 = .ok (.invokevirtual 178, 3) := by decide +kernel
theorem dX10_park_11 : decode cX10_park 11 = .ok (.aload_n 0, 1) := by decide +kernel
theorem dX10_park_12 : decode cX10_park 12 = .ok (.getfield 49, 3) := by decide +kernel
theorem dX10_park_15 : decode cX10_park 15 = .ok (.aload_n 0, 1) := by decide +kernel
theorem dX10_park_16 : decode cX10_park 16 = .ok (.getfield 36, 3) := by decide +kernel
theorem dX10_park_19 : decode cX10_park 19 = .ok (.invokevirtual 220, 3) := by decide +kernel
theorem dX10_park_22 : decode cX10_park 22 = .ok (.istore_n 1, 1) := by decide +kernel
theorem dX10_park_23 : decode cX10_park 23 = .ok (.iload_n 1, 1) := by decide +kernel
theorem dX10_park_24 : decode cX10_park 24 = .ok (.ifCond .le 14, 3) := by decide +kernel
theorem dX10_park_27 : decode cX10_park 27 = .ok (.aload_n 0, 1) := by decide +kernel
theorem dX10_park_28 : decode cX10_park 28 = .ok (.getfield 30, 3) := by decide +kernel
theorem dX10_park_31 : decode cX10_park 31 = .ok (.aload_n 0, 1) := by decide +kernel
theorem dX10_park_32 : decode cX10_park 32 = .ok (.getfield 36, 3) := by decide +kernel
theorem dX10_park_35 : decode cX10_park 35 = .ok (.invokevirtual 178, 3) := by decide +kernel
theorem dX10_park_38 : decode cX10_park 38 = .ok (.aload_n 0, 1) := by decide +kernel
theorem dX10_park_39 : decode cX10_park 39 = .ok (.getfield 49, 3) := by decide +kernel
theorem dX10_park_42 : decode cX10_park 42 = .ok (.iconst 0, 1) := by decide +kernel
theorem dX10_park_43 : decode cX10_park 43 = .ok (.putfield 214, 3) := by decide +kernel
theorem dX10_park_46 : decode cX10_park 46 = .ok (.iload_n 1, 1) := by decide +kernel
theorem dX10_park_47 : decode cX10_park 47 = .ok (.ireturn, 1) := by decide +kernel
theorem dX10_sheet_0 : decode cX10_sheet 0 = .ok (.iload_n 1, 1) := by decide +kernel
theorem dX10_sheet_1 : decode cX10_sheet 1 = .ok (.invokestatic 224, 3) := by decide +kernel
theorem dX10_sheet_4 : decode cX10_sheet 4 = .ok (.ifCond .eq 25, 3) := by decide +kernel
theorem dX10_sheet_7 : decode cX10_sheet 7 = .ok (.iload_n 2, 1) := by decide +kernel
theorem dX10_sheet_8 : decode cX10_sheet 8 = .ok (.ifCond .eq 28, 3) := by decide +kernel
theorem dX10_sheet_11 : decode cX10_sheet 11 = .ok (.iload_n 2, 1) := by decide +kernel
theorem dX10_sheet_12 : decode cX10_sheet 12 = .ok (.bipush 8, 2) := by decide +kernel
theorem dX10_sheet_14 : decode cX10_sheet 14 = .ok (.if_icmp .eq 22, 3) := by decide +kernel
theorem dX10_sheet_17 : decode cX10_sheet 17 = .ok (.iload_n 2, 1) := by decide +kernel
theorem dX10_sheet_18 : decode cX10_sheet 18 = .ok (.bipush 16, 2) := by decide +kernel
theorem dX10_sheet_20 : decode cX10_sheet 20 = .ok (.if_icmp .eq 16, 3) := by decide +kernel
theorem dX10_sheet_23 : decode cX10_sheet 23 = .ok (.iload_n 2, 1) := by decide +kernel
theorem dX10_sheet_24 : decode cX10_sheet 24 = .ok (.bipush 64, 2) := by decide +kernel
theorem dX10_sheet_26 : decode cX10_sheet 26 = .ok (.if_icmp .eq 10, 3) := by decide +kernel
theorem dX10_sheet_29 : decode cX10_sheet 29 = .ok (.aload_n 0, 1) := by decide +kernel
theorem dX10_sheet_30 : decode cX10_sheet 30 = .ok (.ldc 71, 2) := by decide +kernel
theorem dX10_sheet_32 : decode cX10_sheet 32 = .ok (.invokevirtual 72, 3) := by decide +kernel
theorem dX10_sheet_35 : decode cX10_sheet 35 = .ok (.ireturn, 1) := by decide +kernel
theorem dX10_sheet_36 : decode cX10_sheet 36 = .ok (.iload_n 3, 1) := by decide +kernel
theorem dX10_sheet_37 : decode cX10_sheet 37 = .ok (.ifCond .ge 10, 3) := by decide +kernel
theorem dX10_sheet_40 : decode cX10_sheet 40 = .ok (.aload_n 0, 1) := by decide +kernel
theorem dX10_sheet_41 : decode cX10_sheet 41 = .ok (.ldc 227, 2) := by decide +kernel
theorem dX10_sheet_43 : decode cX10_sheet 43 = .ok (.invokevirtual 72, 3) := by decide +kernel
theorem dX10_sheet_46 : decode cX10_sheet 46 = .ok (.ireturn, 1) := by decide +kernel
theorem dX10_sheet_47 : decode cX10_sheet 47 = .ok (.iload_n 3, 1) := by decide +kernel
theorem dX10_sheet_48 : decode cX10_sheet 48 = .ok (.bipush 40, 2) := by decide +kernel
theorem dX10_sheet_50 : decode cX10_sheet 50 = .ok (.if_icmp .le 10, 3) := by decide +kernel
theorem dX10_sheet_53 : decode cX10_sheet 53 = .ok (.aload_n 0, 1) := by decide +kernel
theorem dX10_sheet_54 : decode cX10_sheet 54 = .ok (.ldc 71, 2) := by decide +kernel
theorem dX10_sheet_56 : decode cX10_sheet 56 = .ok (.invokevirtual 72, 3) := by decide +kernel
theorem dX10_sheet_59 : decode cX10_sheet 59 = .ok (.ireturn, 1) := by decide +kernel
theorem dX10_sheet_60 : decode cX10_sheet 60 = .ok (.iload_n 2, 1) := by decide +kernel
theorem dX10_sheet_61 : decode cX10_sheet 61 = .ok (.ifCond .ne 7, 3) := by decide +kernel
theorem dX10_sheet_64 : decode cX10_sheet 64 = .ok (.iconst 0, 1) := by decide +kernel
theorem dX10_sheet_65 : decode cX10_sheet 65 = .ok (.goto 4, 3) := by decide +kernel
theorem dX10_sheet_68 : decode cX10_sheet 68 = .ok (.iload_n 3, 1) := by decide +kernel
theorem dX10_sheet_69 : decode cX10_sheet 69 = .ok (.istore 4, 2) := by decide +kernel
theorem dX10_sheet_71 : decode cX10_sheet 71 = .ok (.aload_n 0, 1) := by decide +kernel
theorem dX10_sheet_72 : decode cX10_sheet 72 = .ok (.getfield 55, 3) := by decide +kernel
theorem dX10_sheet_75 : decode cX10_sheet 75 = .ok (.iload_n 1, 1) := by decide +kernel
theorem dX10_sheet_76 : decode cX10_sheet 76 = .ok (.aaload, 1) := by decide +kernel
theorem dX10_sheet_77 : decode cX10_sheet 77 = .ok (.iload_n 2, 1) := by decide +kernel
theorem dX10_sheet_78 : decode cX10_sheet 78 = .ok (.iload 4, 2) := by decide +kernel
theorem dX10_sheet_80 : decode cX10_sheet 80 = .ok (.invokevirtual 228, 3) := by decide +kernel
theorem dX10_sheet_83 : decode cX10_sheet 83 = .ok (.iload 4, 2) := by decide +kernel
theorem dX10_sheet_85 : decode cX10_sheet 85 = .ok (.ireturn, 1) := by decide +kernel
theorem dX10_write_0 : decode cX10_write 0 = .ok (.aload_n 0, 1) := by decide +kernel
theorem dX10_write_1 : decode cX10_write 1 = .ok (.iload_n 1, 1) := by decide +kernel
theorem dX10_write_2 : decode cX10_write 2 = .ok (.invokevirtual 232, 3) := by decide +kernel
theorem dX10_write_5 : decode cX10_write 5 = .ok (.istore 5, 2) := by decide +kernel
theorem dX10_write_7 : decode cX10_write 7 = .ok (.iload 5, 2) := by decide +kernel
theorem dX10_write_9 : decode cX10_write 9 = .ok (.ifCond .eq 11, 3) := by decide +kernel
theorem dX10_write_12 : decode cX10_write 12 = .ok (.aload_n 0, 1) := by decide +kernel
theorem dX10_write_13 : decode cX10_write 13 = .ok (.iload 5, 2) := by decide +kernel
theorem dX10_write_15 : decode cX10_write 15 = .ok (.invokevirtual 72, 3) := by decide +kernel
theorem dX10_write_18 : decode cX10_write 18 = .ok (.i2l, 1) := by decide +kernel
theorem dX10_write_19 : decode cX10_write 19 = .ok (.lreturn, 1) := by decide +kernel
theorem dX10_write_20 : decode cX10_write 20 = .ok (.iload_n 2, 1) := by decide +kernel
theorem dX10_write_21 : decode cX10_write 21 = .ok (.ifCond .lt 16, 3) := by decide +kernel
theorem dX10_write_24 : decode cX10_write 24 = .ok (.iload_n 2, 1) := by decide +kernel
theorem dX10_write_25 : decode cX10_write 25 = .ok (.aload_n 0, 1) := by decide +kernel
theorem dX10_write_26 : decode cX10_write 26 = .ok (.getfield 55, 3) := by decide +kernel
theorem dX10_write_29 : decode cX10_write 29 = .ok (.iload_n 1, 1) := by decide +kernel
theorem dX10_write_30 : decode cX10_write 30 = .ok (.aaload, 1) := by decide +kernel
theorem dX10_write_31 : decode cX10_write 31 = .ok (.getfield 235, 3) := by decide +kernel
theorem dX10_write_34 : decode cX10_write 34 = .ok (.if_icmp .lt 11, 3) := by decide +kernel
theorem dX10_write_37 : decode cX10_write 37 = .ok (.aload_n 0, 1) := by decide +kernel
theorem dX10_write_38 : decode cX10_write 38 = .ok (.ldc 71, 2) := by decide +kernel
theorem dX10_write_40 : decode cX10_write 40 = .ok (.invokevirtual 72, 3) := by decide +kernel
theorem dX10_write_43 : decode cX10_write 43 = .ok (.i2l, 1) := by decide +kernel
theorem dX10_write_44 : decode cX10_write 44 = .ok (.lreturn, 1) := by decide +kernel
theorem dX10_write_45 : decode cX10_write 45 = .ok (.aload_n 0, 1) := by decide +kernel
theorem dX10_write_46 : decode cX10_write 46 = .ok (.getfield 55, 3) := by decide +kernel
theorem dX10_write_49 : decode cX10_write 49 = .ok (.iload_n 1, 1) := by decide +kernel
theorem dX10_write_50 : decode cX10_write 50 = .ok (.aaload, 1) := by decide +kernel
theorem dX10_write_51 : decode cX10_write 51 = .ok (.iload_n 2, 1) := by decide +kernel
theorem dX10_write_52 : decode cX10_write 52 = .ok (.lload_n 3, 1) := by decide +kernel
theorem dX10_write_53 : decode cX10_write 53 = .ok (.invokevirtual 236, 3) := by decide +kernel
theorem dX10_write_56 : decode cX10_write 56 = .ok (.lreturn, 1) := by decide +kernel
theorem dX10_copy_0 : decode cX10_copy 0 = .ok (.iload_n 1, 1) := by decide +kernel
theorem dX10_copy_1 : decode cX10_copy 1 = .ok (.invokestatic 224, 3) := by decide +kernel
theorem dX10_copy_4 : decode cX10_copy 4 = .ok (.ifCond .eq 10, 3) := by decide +kernel
theorem dX10_copy_7 : decode cX10_copy 7 = .ok (.iload_n 3, 1) := by decide +kernel
theorem dX10_copy_8 : decode cX10_copy 8 = .ok (.invokestatic 224, 3) := by decide +kernel
theorem dX10_copy_11 : decode cX10_copy 11 = .ok (.ifCond .ne 10, 3) := by decide +kernel
theorem dX10_copy_14 : decode cX10_copy 14 = .ok (.aload_n 0, 1) := by decide +kernel
theorem dX10_copy_15 : decode cX10_copy 15 = .ok (.ldc 71, 2) := by decide +kernel
theorem dX10_copy_17 : decode cX10_copy 17 = .ok (.invokevirtual 72, 3) := by decide +kernel
theorem dX10_copy_20 : decode cX10_copy 20 = .ok (.ireturn, 1) := by decide +kernel
theorem dX10_copy_21 : decode cX10_copy 21 = .ok (.aload_n 0, 1) := by decide +kernel
theorem dX10_copy_22 : decode cX10_copy 22 = .ok (.getfield 55, 3) := by decide +kernel
theorem dX10_copy_25 : decode cX10_copy 25 = .ok (.iload_n 1, 1) := by decide +kernel
theorem dX10_copy_26 : decode cX10_copy 26 = .ok (.aaload, 1) := by decide +kernel
theorem dX10_copy_27 : decode cX10_copy 27 = .ok (.astore 6, 2) := by decide +kernel
theorem dX10_copy_29 : decode cX10_copy 29 = .ok (.aload_n 0, 1) := by decide +kernel
theorem dX10_copy_30 : decode cX10_copy 30 = .ok (.getfield 55, 3) := by decide +kernel
theorem dX10_copy_33 : decode cX10_copy 33 = .ok (.iload_n 3, 1) := by decide +kernel
theorem dX10_copy_34 : decode cX10_copy 34 = .ok (.aaload, 1) := by decide +kernel
theorem dX10_copy_35 : decode cX10_copy 35 = .ok (.astore 7, 2) := by decide +kernel
theorem dX10_copy_37 : decode cX10_copy 37 = .ok (.aload 6, 2) := by decide +kernel
theorem dX10_copy_39 : decode cX10_copy 39 = .ok (.invokevirtual 240, 3) := by decide +kernel
theorem dX10_copy_42 : decode cX10_copy 42 = .ok (.ifCond .ne 11, 3) := by decide +kernel
theorem dX10_copy_45 : decode cX10_copy 45 = .ok (.aload 7, 2) := by decide +kernel
theorem dX10_copy_47 : decode cX10_copy 47 = .ok (.invokevirtual 240, 3) := by decide +kernel
theorem dX10_copy_50 : decode cX10_copy 50 = .ok (.ifCond .eq 10, 3) := by decide +kernel
theorem dX10_copy_53 : decode cX10_copy 53 = .ok (.aload_n 0, 1) := by decide +kernel
theorem dX10_copy_54 : decode cX10_copy 54 = .ok (.ldc 243, 2) := by decide +kernel
theorem dX10_copy_56 : decode cX10_copy 56 = .ok (.invokevirtual 72, 3) := by decide +kernel
theorem dX10_copy_59 : decode cX10_copy 59 = .ok (.ireturn, 1) := by decide +kernel
theorem dX10_copy_60 : decode cX10_copy 60 = .ok (.aload 6, 2) := by decide +kernel
theorem dX10_copy_62 : decode cX10_copy 62 = .ok (.getfield 244, 3) := by decide +kernel
theorem dX10_copy_65 : decode cX10_copy 65 = .ok (.aload 7, 2) := by decide +kernel
theorem dX10_copy_67 : decode cX10_copy 67 = .ok (.getfield 244, 3) := by decide +kernel
theorem dX10_copy_70 : decode cX10_copy 70 = .ok (.if_icmp .eq 10, 3) := by decide +kernel
theorem dX10_copy_73 : decode cX10_copy 73 = .ok (.aload_n 0, 1) := by decide +kernel
theorem dX10_copy_74 : decode cX10_copy 74 = .ok (.ldc 143, 2) := by decide +kernel
theorem dX10_copy_76 : decode cX10_copy 76 = .ok (.invokevirtual 72, 3) := by decide +kernel
theorem dX10_copy_79 : decode cX10_copy 79 = .ok (.ireturn, 1) := by decide +kernel
theorem dX10_copy_80 : decode cX10_copy 80 = .ok (.aload 6, 2) := by decide +kernel
theorem dX10_copy_82 : decode cX10_copy 82 = .ok (.iload_n 2, 1) := by decide +kernel
theorem dX10_copy_83 : decode cX10_copy 83 = .ok (.iload 5, 2) := by decide +kernel
theorem dX10_copy_85 : decode cX10_copy 85 = .ok (.invokevirtual 247, 3) := by decide +kernel
theorem dX10_copy_88 : decode cX10_copy 88 = .ok (.ifCond .eq 15, 3) := by decide +kernel
theorem dX10_copy_91 : decode cX10_copy 91 = .ok (.aload 7, 2) := by decide +kernel
theorem dX10_copy_93 : decode cX10_copy 93 = .ok (.iload 4, 2) := by decide +kernel
theorem dX10_copy_95 : decode cX10_copy 95 = .ok (.iload 5, 2) := by decide +kernel
theorem dX10_copy_97 : decode cX10_copy 97 = .ok (.invokevirtual 247, 3) := by decide +kernel
theorem dX10_copy_100 : decode cX10_copy 100 = .ok (.ifCond .ne 10, 3) := by decide +kernel
theorem dX10_copy_103 : decode cX10_copy 103 = .ok (.aload_n 0, 1) := by decide +kernel
theorem dX10_copy_104 : decode cX10_copy 104 = .ok (.ldc 71, 2) := by decide +kernel
theorem dX10_copy_106 : decode cX10_copy 106 = .ok (.invokevirtual 72, 3) := by decide +kernel
theorem dX10_copy_109 : decode cX10_copy 109 = .ok (.ireturn, 1) := by decide +kernel
theorem dX10_copy_110 : decode cX10_copy 110 = .ok (.aload 6, 2) := by decide +kernel
theorem dX10_copy_112 : decode cX10_copy 112 = .ok (.getfield 250, 3) := by decide +kernel
theorem dX10_copy_115 : decode cX10_copy 115 = .ok (.iload_n 2, 1) := by decide +kernel
theorem dX10_copy_116 : decode cX10_copy 116 = .ok (.aload 7, 2) := by decide +kernel
theorem dX10_copy_118 : decode cX10_copy 118 = .ok (.getfield 250, 3) := by decide +kernel
theorem dX10_copy_121 : decode cX10_copy 121 = .ok (.iload 4, 2) := by decide +kernel
theorem dX10_copy_123 : decode cX10_copy 123 = .ok (.iload 5, 2) := by decide +kernel
theorem dX10_copy_125 : decode cX10_copy 125 = .ok (.invokestatic 254, 3) := by decide +kernel
theorem dX10_copy_128 : decode cX10_copy 128 = .ok (.iload 5, 2) := by decide +kernel
theorem dX10_copy_130 : decode cX10_copy 130 = .ok (.ireturn, 1) := by decide +kernel
theorem dX10_lays_0 : decode cX10_lays 0 = .ok (.aload_n 0, 1) := by decide +kernel
theorem dX10_lays_1 : decode cX10_lays 1 = .ok (.iload_n 1, 1) := by decide +kernel
theorem dX10_lays_2 : decode cX10_lays 2 = .ok (.invokevirtual 232, 3) := by decide +kernel
theorem dX10_lays_5 : decode cX10_lays 5 = .ok (.istore_n 2, 1) := by decide +kernel
theorem dX10_lays_6 : decode cX10_lays 6 = .ok (.iload_n 2, 1) := by decide +kernel
theorem dX10_lays_7 : decode cX10_lays 7 = .ok (.ifCond .eq 9, 3) := by decide +kernel
theorem dX10_lays_10 : decode cX10_lays 10 = .ok (.aload_n 0, 1) := by decide +kernel
theorem dX10_lays_11 : decode cX10_lays 11 = .ok (.iload_n 2, 1) := by decide +kernel
theorem dX10_lays_12 : decode cX10_lays 12 = .ok (.invokevirtual 72, 3) := by decide +kernel
theorem dX10_lays_15 : decode cX10_lays 15 = .ok (.ireturn, 1) := by decide +kernel
theorem dX10_lays_16 : decode cX10_lays 16 = .ok (.aload_n 0, 1) := by decide +kernel
theorem dX10_lays_17 : decode cX10_lays 17 = .ok (.getfield 55, 3) := by decide +kernel
theorem dX10_lays_20 : decode cX10_lays 20 = .ok (.iload_n 1, 1) := by decide +kernel
theorem dX10_lays_21 : decode cX10_lays 21 = .ok (.aaload, 1) := by decide +kernel
theorem dX10_lays_22 : decode cX10_lays 22 = .ok (.astore_n 3, 1) := by decide +kernel
theorem dX10_lays_23 : decode cX10_lays 23 = .ok (.iconst 0, 1) := by decide +kernel
theorem dX10_lays_24 : decode cX10_lays 24 = .ok (.istore 4, 2) := by decide +kernel
theorem dX10_lays_26 : decode cX10_lays 26 = .ok (.iconst 0, 1) := by decide +kernel
theorem dX10_lays_27 : decode cX10_lays 27 = .ok (.istore 5, 2) := by decide +kernel
theorem dX10_lays_29 : decode cX10_lays 29 = .ok (.iload 5, 2) := by decide +kernel
theorem dX10_lays_31 : decode cX10_lays 31 = .ok (.aload_n 3, 1) := by decide +kernel
theorem dX10_lays_32 : decode cX10_lays 32 = .ok (.getfield 235, 3) := by decide +kernel
theorem dX10_lays_35 : decode cX10_lays 35 = .ok (.if_icmp .ge 65, 3) := by decide +kernel
theorem dX10_lays_38 : decode cX10_lays 38 = .ok (.iload 5, 2) := by decide +kernel
theorem dX10_lays_40 : decode cX10_lays 40 = .ok (.aload_n 0, 1) := by decide +kernel
theorem dX10_lays_41 : decode cX10_lays 41 = .ok (.getfield 30, 3) := by decide +kernel
theorem dX10_lays_44 : decode cX10_lays 44 = .ok (.getfield 83, 3) := by decide +kernel
theorem dX10_lays_47 : decode cX10_lays 47 = .ok (.if_icmp .ge 53, 3) := by decide +kernel
theorem dX10_lays_50 : decode cX10_lays 50 = .ok (.aload_n 3, 1) := by decide +kernel
theorem dX10_lays_51 : decode cX10_lays 51 = .ok (.getfield 250, 3) := by decide +kernel
theorem dX10_lays_54 : decode cX10_lays 54 = .ok (.iload 5, 2) := by decide +kernel
theorem dX10_lays_56 : decode cX10_lays 56 = .ok (.laload, 1) := by decide +kernel
theorem dX10_lays_57 : decode cX10_lays 57 = .ok (.lstore 6, 2) := by decide +kernel
theorem dX10_lays_59 : decode cX10_lays 59 = .ok (.lload 6, 2) := by decide +kernel
theorem dX10_lays_61 : decode cX10_lays 61 = .ok (.lconst 0, 1) := by decide +kernel
theorem dX10_lays_62 : decode cX10_lays 62 = .ok (.lcmp, 1) := by decide +kernel
theorem dX10_lays_63 : decode cX10_lays 63 = .ok (.ifCond .lt 31, 3) := by decide +kernel
theorem dX10_lays_66 : decode cX10_lays 66 = .ok (.lload 6, 2) := by decide +kernel
theorem dX10_lays_68 : decode cX10_lays 68 = .ok (.ldc2_w 260, 3) := by decide +kernel
theorem dX10_lays_71 : decode cX10_lays 71 = .ok (.lcmp, 1) := by decide +kernel
theorem dX10_lays_72 : decode cX10_lays 72 = .ok (.ifCond .gt 22, 3) := by decide +kernel
theorem dX10_lays_75 : decode cX10_lays 75 = .ok (.aload_n 0, 1) := by decide +kernel
theorem dX10_lays_76 : decode cX10_lays 76 = .ok (.getfield 30, 3) := by decide +kernel
theorem dX10_lays_79 : decode cX10_lays 79 = .ok (.iload 5, 2) := by decide +kernel
theorem dX10_lays_81 : decode cX10_lays 81 = .ok (.invokevirtual 86, 3) := by decide +kernel
theorem dX10_lays_84 : decode cX10_lays 84 = .ok (.lload 6, 2) := by decide +kernel
theorem dX10_lays_86 : decode cX10_lays 86 = .ok (.l2i, 1) := by decide +kernel
theorem dX10_lays_87 : decode cX10_lays 87 = .ok (.invokevirtual 130, 3) := by decide +kernel
theorem dX10_lays_90 : decode cX10_lays 90 = .ok (.pop, 1) := by decide +kernel
theorem dX10_lays_91 : decode cX10_lays 91 = .ok (.iinc 4 1, 3) := by decide +kernel
theorem dX10_lays_94 : decode cX10_lays 94 = .ok (.iinc 5 1, 3) := by decide +kernel
theorem dX10_lays_97 : decode cX10_lays 97 = .ok (.goto (-68), 3) := by decide +kernel
theorem dX10_lays_100 : decode cX10_lays 100 = .ok (.iload 4, 2) := by decide +kernel
theorem dX10_lays_102 : decode cX10_lays 102 = .ok (.ireturn, 1) := by decide +kernel
theorem dX10_book_0 : decode cX10_book 0 = .ok (.aload_n 0, 1) := by decide +kernel
theorem dX10_book_1 : decode cX10_book 1 = .ok (.iload_n 1, 1) := by decide +kernel
theorem dX10_book_2 : decode cX10_book 2 = .ok (.invokevirtual 232, 3) := by decide +kernel
theorem dX10_book_5 : decode cX10_book 5 = .ok (.istore_n 3, 1) := by decide +kernel
theorem dX10_book_6 : decode cX10_book 6 = .ok (.iload_n 3, 1) := by decide +kernel
theorem dX10_book_7 : decode cX10_book 7 = .ok (.ifCond .eq 9, 3) := by decide +kernel
theorem dX10_book_10 : decode cX10_book 10 = .ok (.aload_n 0, 1) := by decide +kernel
theorem dX10_book_11 : decode cX10_book 11 = .ok (.iload_n 3, 1) := by decide +kernel
theorem dX10_book_12 : decode cX10_book 12 = .ok (.invokevirtual 72, 3) := by decide +kernel
theorem dX10_book_15 : decode cX10_book 15 = .ok (.ireturn, 1) := by decide +kernel
theorem dX10_book_16 : decode cX10_book 16 = .ok (.aload_n 0, 1) := by decide +kernel
theorem dX10_book_17 : decode cX10_book 17 = .ok (.getfield 30, 3) := by decide +kernel
theorem dX10_book_20 : decode cX10_book 20 = .ok (.iload_n 2, 1) := by decide +kernel
theorem dX10_book_21 : decode cX10_book 21 = .ok (.invokevirtual 109, 3) := by decide +kernel
theorem dX10_book_24 : decode cX10_book 24 = .ok (.ifCond .ne 10, 3) := by decide +kernel
theorem dX10_book_27 : decode cX10_book 27 = .ok (.aload_n 0, 1) := by decide +kernel
theorem dX10_book_28 : decode cX10_book 28 = .ok (.ldc 71, 2) := by decide +kernel
theorem dX10_book_30 : decode cX10_book 30 = .ok (.invokevirtual 72, 3) := by decide +kernel
theorem dX10_book_33 : decode cX10_book 33 = .ok (.ireturn, 1) := by decide +kernel
theorem dX10_book_34 : decode cX10_book 34 = .ok (.aload_n 0, 1) := by decide +kernel

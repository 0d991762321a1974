theorem dX10_book_35 : decode cX10_book 35 = .ok (.getfield 55, 3) := by decide +kernel
theorem dX10_book_38 : decode cX10_book 38 = .ok (.iload_n 1, 1) := by decide +kernel
theorem dX10_book_39 : decode cX10_book 39 = .ok (.aaload, 1) := by decide +kernel
theorem dX10_book_40 : decode cX10_book 40 = .ok (.astore 4, 2) := by decide +kernel
theorem dX10_book_42 : decode cX10_book 42 = .ok (.aload_n 0, 1) := by decide +kernel
theorem dX10_book_43 : decode cX10_book 43 = .ok (.getfield 36, 3) := by decide +kernel
theorem dX10_book_46 : decode cX10_book 46 = .ok (.aload_n 0, 1) := by decide +kernel
theorem dX10_book_47 : decode cX10_book 47 = .ok (.getfield 30, 3) := by decide +kernel
theorem dX10_book_50 : decode cX10_book 50 = .ok (.invokevirtual 178, 3) := by decide +kernel
theorem dX10_book_53 : decode cX10_book 53 = .ok (.iconst 0, 1) := by decide +kernel
theorem dX10_book_54 : decode cX10_book 54 = .ok (.istore 5, 2) := by decide +kernel
theorem dX10_book_56 : decode cX10_book 56 = .ok (.iload 5, 2) := by decide +kernel
theorem dX10_book_58 : decode cX10_book 58 = .ok (.aload 4, 2) := by decide +kernel
theorem dX10_book_60 : decode cX10_book 60 = .ok (.getfield 235, 3) := by decide +kernel
theorem dX10_book_63 : decode cX10_book 63 = .ok (.if_icmp .ge 37, 3) := by decide +kernel
theorem dX10_book_66 : decode cX10_book 66 = .ok (.aload 4, 2) := by decide +kernel
theorem dX10_book_68 : decode cX10_book 68 = .ok (.iload 5, 2) := by decide +kernel
theorem dX10_book_70 : decode cX10_book 70 = .ok (.aload_n 0, 1) := by decide +kernel
theorem dX10_book_71 : decode cX10_book 71 = .ok (.getfield 36, 3) := by decide +kernel
theorem dX10_book_74 : decode cX10_book 74 = .ok (.iload_n 2, 1) := by decide +kernel
theorem dX10_book_75 : decode cX10_book 75 = .ok (.invokevirtual 86, 3) := by decide +kernel
theorem dX10_book_78 : decode cX10_book 78 = .ok (.getfield 90, 3) := by decide +kernel
theorem dX10_book_81 : decode cX10_book 81 = .ok (.i2l, 1) := by decide +kernel
theorem dX10_book_82 : decode cX10_book 82 = .ok (.invokevirtual 236, 3) := by decide +kernel
theorem dX10_book_85 : decode cX10_book 85 = .ok (.pop2, 1) := by decide +kernel
theorem dX10_book_86 : decode cX10_book 86 = .ok (.aload_n 0, 1) := by decide +kernel
theorem dX10_book_87 : decode cX10_book 87 = .ok (.getfield 36, 3) := by decide +kernel
theorem dX10_book_90 : decode cX10_book 90 = .ok (.iconst 1, 1) := by decide +kernel
theorem dX10_book_91 : decode cX10_book 91 = .ok (.invokevirtual 159, 3) := by decide +kernel
theorem dX10_book_94 : decode cX10_book 94 = .ok (.iinc 5 1, 3) := by decide +kernel
theorem dX10_book_97 : decode cX10_book 97 = .ok (.goto (-41), 3) := by decide +kernel
theorem dX10_book_100 : decode cX10_book 100 = .ok (.aload 4, 2) := by decide +kernel
theorem dX10_book_102 : decode cX10_book 102 = .ok (.getfield 235, 3) := by decide +kernel
theorem dX10_book_105 : decode cX10_book 105 = .ok (.ireturn, 1) := by decide +kernel
theorem dX10_read_0 : decode cX10_read 0 = .ok (.aload_n 0, 1) := by decide +kernel
theorem dX10_read_1 : decode cX10_read 1 = .ok (.iload_n 1, 1) := by decide +kernel
theorem dX10_read_2 : decode cX10_read 2 = .ok (.invokevirtual 232, 3) := by decide +kernel
theorem dX10_read_5 : decode cX10_read 5 = .ok (.istore 4, 2) := by decide +kernel
theorem dX10_read_7 : decode cX10_read 7 = .ok (.iload 4, 2) := by decide +kernel
theorem dX10_read_9 : decode cX10_read 9 = .ok (.ifCond .eq 10, 3) := by decide +kernel
theorem dX10_read_12 : decode cX10_read 12 = .ok (.aload_n 0, 1) := by decide +kernel
theorem dX10_read_13 : decode cX10_read 13 = .ok (.iload 4, 2) := by decide +kernel
theorem dX10_read_15 : decode cX10_read 15 = .ok (.invokevirtual 72, 3) := by decide +kernel
theorem dX10_read_18 : decode cX10_read 18 = .ok (.ireturn, 1) := by decide +kernel
theorem dX10_read_19 : decode cX10_read 19 = .ok (.aload_n 0, 1) := by decide +kernel
theorem dX10_read_20 : decode cX10_read 20 = .ok (.iload_n 2, 1) := by decide +kernel
theorem dX10_read_21 : decode cX10_read 21 = .ok (.iload_n 3, 1) := by decide +kernel
theorem dX10_read_22 : decode cX10_read 22 = .ok (.invokevirtual 186, 3) := by decide +kernel
theorem dX10_read_25 : decode cX10_read 25 = .ok (.ifCond .ne 10, 3) := by decide +kernel
theorem dX10_read_28 : decode cX10_read 28 = .ok (.aload_n 0, 1) := by decide +kernel
theorem dX10_read_29 : decode cX10_read 29 = .ok (.ldc 71, 2) := by decide +kernel
theorem dX10_read_31 : decode cX10_read 31 = .ok (.invokevirtual 72, 3) := by decide +kernel
theorem dX10_read_34 : decode cX10_read 34 = .ok (.ireturn, 1) := by decide +kernel
theorem dX10_read_35 : decode cX10_read 35 = .ok (.iconst 0, 1) := by decide +kernel
theorem dX10_read_36 : decode cX10_read 36 = .ok (.istore 5, 2) := by decide +kernel
theorem dX10_read_38 : decode cX10_read 38 = .ok (.iconst 0, 1) := by decide +kernel
theorem dX10_read_39 : decode cX10_read 39 = .ok (.istore 6, 2) := by decide +kernel
theorem dX10_read_41 : decode cX10_read 41 = .ok (.iload 6, 2) := by decide +kernel
theorem dX10_read_43 : decode cX10_read 43 = .ok (.bipush 36, 2) := by decide +kernel
theorem dX10_read_45 : decode cX10_read 45 = .ok (.if_icmp .ge 69, 3) := by decide +kernel
theorem dX10_read_48 : decode cX10_read 48 = .ok (.aload_n 0, 1) := by decide +kernel
theorem dX10_read_49 : decode cX10_read 49 = .ok (.getfield 36, 3) := by decide +kernel
theorem dX10_read_52 : decode cX10_read 52 = .ok (.aload_n 0, 1) := by decide +kernel
theorem dX10_read_53 : decode cX10_read 53 = .ok (.getfield 30, 3) := by decide +kernel
theorem dX10_read_56 : decode cX10_read 56 = .ok (.invokevirtual 178, 3) := by decide +kernel
theorem dX10_read_59 : decode cX10_read 59 = .ok (.aload_n 0, 1) := by decide +kernel
theorem dX10_read_60 : decode cX10_read 60 = .ok (.getfield 36, 3) := by decide +kernel
theorem dX10_read_63 : decode cX10_read 63 = .ok (.iload_n 2, 1) := by decide +kernel
theorem dX10_read_64 : decode cX10_read 64 = .ok (.invokevirtual 86, 3) := by decide +kernel
theorem dX10_read_67 : decode cX10_read 67 = .ok (.iload 6, 2) := by decide +kernel
theorem dX10_read_69 : decode cX10_read 69 = .ok (.bipush 6, 2) := by decide +kernel
theorem dX10_read_71 : decode cX10_read 71 = .ok (.idiv, 1) := by decide +kernel
theorem dX10_read_72 : decode cX10_read 72 = .ok (.putfield 112, 3) := by decide +kernel
theorem dX10_read_75 : decode cX10_read 75 = .ok (.aload_n 0, 1) := by decide +kernel
theorem dX10_read_76 : decode cX10_read 76 = .ok (.getfield 36, 3) := by decide +kernel
theorem dX10_read_79 : decode cX10_read 79 = .ok (.iload_n 3, 1) := by decide +kernel
theorem dX10_read_80 : decode cX10_read 80 = .ok (.invokevirtual 86, 3) := by decide +kernel
theorem dX10_read_83 : decode cX10_read 83 = .ok (.iload 6, 2) := by decide +kernel
theorem dX10_read_85 : decode cX10_read 85 = .ok (.bipush 6, 2) := by decide +kernel
theorem dX10_read_87 : decode cX10_read 87 = .ok (.irem, 1) := by decide +kernel
theorem dX10_read_88 : decode cX10_read 88 = .ok (.putfield 112, 3) := by decide +kernel
theorem dX10_read_91 : decode cX10_read 91 = .ok (.aload_n 0, 1) := by decide +kernel
theorem dX10_read_92 : decode cX10_read 92 = .ok (.aload_n 0, 1) := by decide +kernel
theorem dX10_read_93 : decode cX10_read 93 = .ok (.getfield 55, 3) := by decide +kernel
theorem dX10_read_96 : decode cX10_read 96 = .ok (.iload_n 1, 1) := by decide +kernel
theorem dX10_read_97 : decode cX10_read 97 = .ok (.aaload, 1) := by decide +kernel
theorem dX10_read_98 : decode cX10_read 98 = .ok (.iload_n 2, 1) := by decide +kernel
theorem dX10_read_99 : decode cX10_read 99 = .ok (.invokevirtual 262, 3) := by decide +kernel
theorem dX10_read_102 : decode cX10_read 102 = .ok (.ifCond .eq 6, 3) := by decide +kernel
theorem dX10_read_105 : decode cX10_read 105 = .ok (.iinc 5 1, 3) := by decide +kernel
theorem dX10_read_108 : decode cX10_read 108 = .ok (.iinc 6 1, 3) := by decide +kernel
theorem dX10_read_111 : decode cX10_read 111 = .ok (.goto (-70), 3) := by decide +kernel
theorem dX10_read_114 : decode cX10_read 114 = .ok (.iload 5, 2) := by decide +kernel
theorem dX10_read_116 : decode cX10_read 116 = .ok (.ireturn, 1) := by decide +kernel
theorem dX10_image_0 : decode cX10_image 0 = .ok (.aload_n 0, 1) := by decide +kernel
theorem dX10_image_1 : decode cX10_image 1 = .ok (.getfield 39, 3) := by decide +kernel
theorem dX10_image_4 : decode cX10_image 4 = .ok (.aload_n 0, 1) := by decide +kernel
theorem dX10_image_5 : decode cX10_image 5 = .ok (.getfield 30, 3) := by decide +kernel
theorem dX10_image_8 : decode cX10_image 8 = .ok (.invokevirtual 178, 3) := by decide +kernel
theorem dX10_image_11 : decode cX10_image 11 = .ok (.aload_n 0, 1) := by decide +kernel
theorem dX10_image_12 : decode cX10_image 12 = .ok (.iconst 1, 1) := by decide +kernel
theorem dX10_image_13 : decode cX10_image 13 = .ok (.putfield 42, 3) := by decide +kernel
theorem dX10_image_16 : decode cX10_image 16 = .ok (.iconst 1, 1) := by decide +kernel
theorem dX10_image_17 : decode cX10_image 17 = .ok (.ireturn, 1) := by decide +kernel
theorem dX10_undo_0 : decode cX10_undo 0 = .ok (.aload_n 0, 1) := by decide +kernel
theorem dX10_undo_1 : decode cX10_undo 1 = .ok (.getfield 42, 3) := by decide +kernel
theorem dX10_undo_4 : decode cX10_undo 4 = .ok (.ifCond .ne 10, 3) := by decide +kernel
theorem dX10_undo_7 : decode cX10_undo 7 = .ok (.aload_n 0, 1) := by decide +kernel
theorem dX10_undo_8 : decode cX10_undo 8 = .ok (.ldc 195, 2) := by decide +kernel
theorem dX10_undo_10 : decode cX10_undo 10 = .ok (.invokevirtual 72, 3) := by decide +kernel
theorem dX10_undo_13 : decode cX10_undo 13 = .ok (.ireturn, 1) := by decide +kernel
theorem dX10_undo_14 : decode cX10_undo 14 = .ok (.aload_n 0, 1) := by decide +kernel
theorem dX10_undo_15 : decode cX10_undo 15 = .ok (.getfield 30, 3) := by decide +kernel
theorem dX10_undo_18 : decode cX10_undo 18 = .ok (.aload_n 0, 1) := by decide +kernel
theorem dX10_undo_19 : decode cX10_undo 19 = .ok (.getfield 39, 3) := by decide +kernel
theorem dX10_undo_22 : decode cX10_undo 22 = .ok (.invokevirtual 178, 3) := by decide +kernel
theorem dX10_undo_25 : decode cX10_undo 25 = .ok (.aload_n 0, 1) := by decide +kernel
theorem dX10_undo_26 : decode cX10_undo 26 = .ok (.getfield 30, 3) := by decide +kernel
theorem dX10_undo_29 : decode cX10_undo 29 = .ok (.getfield 83, 3) := by decide +kernel
theorem dX10_undo_32 : decode cX10_undo 32 = .ok (.ireturn, 1) := by decide +kernel
theorem dX10_tear_0 : decode cX10_tear 0 = .ok (.aload_n 0, 1) := by decide +kernel
theorem dX10_tear_1 : decode cX10_tear 1 = .ok (.getfield 42, 3) := by decide +kernel
theorem dX10_tear_4 : decode cX10_tear 4 = .ok (.ifCond .eq 7, 3) := by decide +kernel
theorem dX10_tear_7 : decode cX10_tear 7 = .ok (.iconst 1, 1) := by decide +kernel
theorem dX10_tear_8 : decode cX10_tear 8 = .ok (.goto 4, 3) := by decide +kernel
theorem dX10_tear_11 : decode cX10_tear 11 = .ok (.iconst 0, 1) := by decide +kernel
theorem dX10_tear_12 : decode cX10_tear 12 = .ok (.istore_n 1, 1) := by decide +kernel
theorem dX10_tear_13 : decode cX10_tear 13 = .ok (.aload_n 0, 1) := by decide +kernel
theorem dX10_tear_14 : decode cX10_tear 14 = .ok (.iconst 0, 1) := by decide +kernel
theorem dX10_tear_15 : decode cX10_tear 15 = .ok (.putfield 42, 3) := by decide +kernel
theorem dX10_tear_18 : decode cX10_tear 18 = .ok (.iload_n 1, 1) := by decide +kernel
theorem dX10_tear_19 : decode cX10_tear 19 = .ok (.ireturn, 1) := by decide +kernel
theorem dX10_count_0 : decode cX10_count 0 = .ok (.iload_n 1, 1) := by decide +kernel
theorem dX10_count_1 : decode cX10_count 1 = .ok (.tableswitch 63 0 3 #[31, 39, 47, 55], 31) := by decide +kernel
theorem dX10_count_32 : decode cX10_count 32 = .ok (.aload_n 0, 1) := by decide +kernel
theorem dX10_count_33 : decode cX10_count 33 = .ok (.getfield 30, 3) := by decide +kernel
theorem dX10_count_36 : decode cX10_count 36 = .ok (.getfield 83, 3) := by decide +kernel
theorem dX10_count_39 : decode cX10_count 39 = .ok (.ireturn, 1) := by decide +kernel
theorem dX10_count_40 : decode cX10_count 40 = .ok (.aload_n 0, 1) := by decide +kernel
theorem dX10_count_41 : decode cX10_count 41 = .ok (.getfield 49, 3) := by decide +kernel
theorem dX10_count_44 : decode cX10_count 44 = .ok (.getfield 214, 3) := by decide +kernel
theorem dX10_count_47 : decode cX10_count 47 = .ok (.ireturn, 1) := by decide +kernel
theorem dX10_count_48 : decode cX10_count 48 = .ok (.aload_n 0, 1) := by decide +kernel
theorem dX10_count_49 : decode cX10_count 49 = .ok (.getfield 30, 3) := by decide +kernel
theorem dX10_count_52 : decode cX10_count 52 = .ok (.invokevirtual 162, 3) := by decide +kernel
theorem dX10_count_55 : decode cX10_count 55 = .ok (.ireturn, 1) := by decide +kernel
theorem dX10_count_56 : decode cX10_count 56 = .ok (.aload_n 0, 1) := by decide +kernel
theorem dX10_count_57 : decode cX10_count 57 = .ok (.getfield 30, 3) := by decide +kernel
theorem dX10_count_60 : decode cX10_count 60 = .ok (.invokevirtual 266, 3) := by decide +kernel
theorem dX10_count_63 : decode cX10_count 63 = .ok (.ireturn, 1) := by decide +kernel
theorem dX10_count_64 : decode cX10_count 64 = .ok (.aload_n 0, 1) := by decide +kernel
theorem dX10_count_65 : decode cX10_count 65 = .ok (.ldc 71, 2) := by decide +kernel
theorem dX10_count_67 : decode cX10_count 67 = .ok (.invokevirtual 72, 3) := by decide +kernel
theorem dX10_count_70 : decode cX10_count 70 = .ok (.ireturn, 1) := by decide +kernel
theorem dX10_status_0 : decode cX10_status 0 = .ok (.iload_n 1, 1) := by decide +kernel
theorem dX10_status_1 : decode cX10_status 1 = .ok (.iconst (-1), 1) := by decide +kernel
theorem dX10_status_2 : decode cX10_status 2 = .ok (.if_icmp .lt 9, 3) := by decide +kernel
theorem dX10_status_5 : decode cX10_status 5 = .ok (.iload_n 1, 1) := by decide +kernel
theorem dX10_status_6 : decode cX10_status 6 = .ok (.bipush 7, 2) := by decide +kernel
theorem dX10_status_8 : decode cX10_status 8 = .ok (.if_icmp .lt 10, 3) := by decide +kernel
theorem dX10_status_11 : decode cX10_status 11 = .ok (.aload_n 0, 1) := by decide +kernel
theorem dX10_status_12 : decode cX10_status 12 = .ok (.ldc 71, 2) := by decide +kernel
theorem dX10_status_14 : decode cX10_status 14 = .ok (.invokevirtual 72, 3) := by decide +kernel
theorem dX10_status_17 : decode cX10_status 17 = .ok (.ireturn, 1) := by decide +kernel
theorem dX10_status_18 : decode cX10_status 18 = .ok (.iload_n 1, 1) := by decide +kernel
theorem dX10_status_19 : decode cX10_status 19 = .ok (.ifCond .lt 10, 3) := by decide +kernel
theorem dX10_status_22 : decode cX10_status 22 = .ok (.aload_n 0, 1) := by decide +kernel
theorem dX10_status_23 : decode cX10_status 23 = .ok (.getfield 60, 3) := by decide +kernel
theorem dX10_status_26 : decode cX10_status 26 = .ok (.iload_n 1, 1) := by decide +kernel
theorem dX10_status_27 : decode cX10_status 27 = .ok (.iaload, 1) := by decide +kernel
theorem dX10_status_28 : decode cX10_status 28 = .ok (.ireturn, 1) := by decide +kernel
theorem dX10_status_29 : decode cX10_status 29 = .ok (.iconst 0, 1) := by decide +kernel
theorem dX10_status_30 : decode cX10_status 30 = .ok (.istore_n 2, 1) := by decide +kernel
theorem dX10_status_31 : decode cX10_status 31 = .ok (.iconst 0, 1) := by decide +kernel
theorem dX10_status_32 : decode cX10_status 32 = .ok (.istore_n 3, 1) := by decide +kernel
theorem dX10_status_33 : decode cX10_status 33 = .ok (.iload_n 3, 1) := by decide +kernel
theorem dX10_status_34 : decode cX10_status 34 = .ok (.bipush 7, 2) := by decide +kernel
theorem dX10_status_36 : decode cX10_status 36 = .ok (.if_icmp .ge 18, 3) := by decide +kernel
theorem dX10_status_39 : decode cX10_status 39 = .ok (.iload_n 2, 1) := by decide +kernel
theorem dX10_status_40 : decode cX10_status 40 = .ok (.aload_n 0, 1) := by decide +kernel
theorem dX10_status_41 : decode cX10_status 41 = .ok (.getfield 60, 3) := by decide +kernel
theorem dX10_status_44 : decode cX10_status 44 = .ok (.iload_n 3, 1) := by decide +kernel
theorem dX10_status_45 : decode cX10_status 45 = .ok (.iaload, 1) := by decide +kernel
theorem dX10_status_46 : decode cX10_status 46 = .ok (.iadd, 1) := by decide +kernel
theorem dX10_status_47 : decode cX10_status 47 = .ok (.istore_n 2, 1) := by decide +kernel
theorem dX10_status_48 : decode cX10_status 48 = .ok (.iinc 3 1, 3) := by decide +kernel
theorem dX10_status_51 : decode cX10_status 51 = .ok (.goto (-18), 3) := by decide +kernel
theorem dX10_status_54 : decode cX10_status 54 = .ok (.iload_n 2, 1) := by decide +kernel
theorem dX10_status_55 : decode cX10_status 55 = .ok (.ireturn, 1) := by decide +kernel
theorem dX10_finding_0 : decode cX10_finding 0 = .ok (.ldc 71, 2) := by decide +kernel
theorem dX10_finding_2 : decode cX10_finding 2 = .ok (.iload_n 1, 1) := by decide +kernel
theorem dX10_finding_3 : decode cX10_finding 3 = .ok (.isub, 1) := by decide +kernel
theorem dX10_finding_4 : decode cX10_finding 4 = .ok (.istore_n 2, 1) := by decide +kernel
theorem dX10_finding_5 : decode cX10_finding 5 = .ok (.iload_n 2, 1) := by decide +kernel
theorem dX10_finding_6 : decode cX10_finding 6 = .ok (.ifCond .lt 19, 3) := by decide +kernel
theorem dX10_finding_9 : decode cX10_finding 9 = .ok (.iload_n 2, 1) := by decide +kernel
theorem dX10_finding_10 : decode cX10_finding 10 = .ok (.bipush 7, 2) := by decide +kernel
theorem dX10_finding_12 : decode cX10_finding 12 = .ok (.if_icmp .ge 13, 3) := by decide +kernel
theorem dX10_finding_15 : decode cX10_finding 15 = .ok (.aload_n 0, 1) := by decide +kernel
theorem dX10_finding_16 : decode cX10_finding 16 = .ok (.getfield 60, 3) := by decide +kernel
theorem dX10_finding_19 : decode cX10_finding 19 = .ok (.iload_n 2, 1) := by decide +kernel
theorem dX10_finding_20 : decode cX10_finding 20 = .ok (.dup2, 1) := by decide +kernel
theorem dX10_finding_21 : decode cX10_finding 21 = .ok (.iaload, 1) := by decide +kernel
theorem dX10_finding_22 : decode cX10_finding 22 = .ok (.iconst 1, 1) := by decide +kernel
theorem dX10_finding_23 : decode cX10_finding 23 = .ok (.iadd, 1) := by decide +kernel
theorem dX10_finding_24 : decode cX10_finding 24 = .ok (.iastore, 1) := by decide +kernel
theorem dX10_finding_25 : decode cX10_finding 25 = .ok (.iload_n 1, 1) := by decide +kernel
theorem dX10_finding_26 : decode cX10_finding 26 = .ok (.ireturn, 1) := by decide +kernel
theorem dX10_faultOfSheet_0 : decode cX10_faultOfSheet 0 = .ok (.iload_n 1, 1) := by decide +kernel
theorem dX10_faultOfSheet_1 : decode cX10_faultOfSheet 1 = .ok (.invokestatic 224, 3) := by decide +kernel
theorem dX10_faultOfSheet_4 : decode cX10_faultOfSheet 4 = .ok (.ifCond .ne 6, 3) := by decide +kernel
theorem dX10_faultOfSheet_7 : decode cX10_faultOfSheet 7 = .ok (.ldc 71, 2) := by decide +kernel
theorem dX10_faultOfSheet_9 : decode cX10_faultOfSheet 9 = .ok (.ireturn, 1) := by decide +kernel
theorem dX10_faultOfSheet_10 : decode cX10_faultOfSheet 10 = .ok (.aload_n 0, 1) := by decide +kernel
theorem dX10_faultOfSheet_11 : decode cX10_faultOfSheet 11 = .ok (.getfield 55, 3) := by decide +kernel
theorem dX10_faultOfSheet_14 : decode cX10_faultOfSheet 14 = .ok (.iload_n 1, 1) := by decide +kernel
theorem dX10_faultOfSheet_15 : decode cX10_faultOfSheet 15 = .ok (.aaload, 1) := by decide +kernel
theorem dX10_faultOfSheet_16 : decode cX10_faultOfSheet 16 = .ok (.invokevirtual 240, 3) := by decide +kernel
theorem dX10_faultOfSheet_19 : decode cX10_faultOfSheet 19 = .ok (.ifCond .eq 8, 3) := by decide +kernel
theorem dX10_faultOfSheet_22 : decode cX10_faultOfSheet 22 = .ok (.ldc 243, 2) := by decide +kernel
theorem dX10_faultOfSheet_24 : decode cX10_faultOfSheet 24 = .ok (.goto 4, 3) := by decide +kernel
theorem dX10_faultOfSheet_27 : decode cX10_faultOfSheet 27 = .ok (.iconst 0, 1) := by decide +kernel
theorem dX10_faultOfSheet_28 : decode cX10_faultOfSheet 28 = .ok (.ireturn, 1) := by decide +kernel
theorem dX10_areTwo_0 : decode cX10_areTwo 0 = .ok (.aload_n 0, 1) := by decide +kernel
theorem dX10_areTwo_1 : decode cX10_areTwo 1 = .ok (.getfield 30, 3) := by decide +kernel
theorem dX10_areTwo_4 : decode cX10_areTwo 4 = .ok (.iload_n 1, 1) := by decide +kernel
theorem dX10_areTwo_5 : decode cX10_areTwo 5 = .ok (.invokevirtual 109, 3) := by decide +kernel
theorem dX10_areTwo_8 : decode cX10_areTwo 8 = .ok (.ifCond .eq 23, 3) := by decide +kernel
theorem dX10_areTwo_11 : decode cX10_areTwo 11 = .ok (.aload_n 0, 1) := by decide +kernel
theorem dX10_areTwo_12 : decode cX10_areTwo 12 = .ok (.getfield 30, 3) := by decide +kernel
theorem dX10_areTwo_15 : decode cX10_areTwo 15 = .ok (.iload_n 2, 1) := by decide +kernel
theorem dX10_areTwo_16 : decode cX10_areTwo 16 = .ok (.invokevirtual 109, 3) := by decide +kernel
theorem dX10_areTwo_19 : decode cX10_areTwo 19 = .ok (.ifCond .eq 12, 3) := by decide +kernel
theorem dX10_areTwo_22 : decode cX10_areTwo 22 = .ok (.iload_n 1, 1) := by decide +kernel
theorem dX10_areTwo_23 : decode cX10_areTwo 23 = .ok (.iload_n 2, 1) := by decide +kernel
theorem dX10_areTwo_24 : decode cX10_areTwo 24 = .ok (.if_icmp .eq 7, 3) := by decide +kernel
theorem dX10_areTwo_27 : decode cX10_areTwo 27 = .ok (.iconst 1, 1) := by decide +kernel
theorem dX10_areTwo_28 : decode cX10_areTwo 28 = .ok (.goto 4, 3) := by decide +kernel
theorem dX10_areTwo_31 : decode cX10_areTwo 31 = .ok (.iconst 0, 1) := by decide +kernel
theorem dX10_areTwo_32 : decode cX10_areTwo 32 = .ok (.ireturn, 1) := by decide +kernel
theorem dX10_firstHour_0 : decode cX10_firstHour 0 = .ok (.aload_n 0, 1) := by decide +kernel
theorem dX10_firstHour_1 : decode cX10_firstHour 1 = .ok (.getfield 36, 3) := by decide +kernel
theorem dX10_firstHour_4 : decode cX10_firstHour 4 = .ok (.aload_n 0, 1) := by decide +kernel
theorem dX10_firstHour_5 : decode cX10_firstHour 5 = .ok (.getfield 30, 3) := by decide +kernel
theorem dX10_firstHour_8 : decode cX10_firstHour 8 = .ok (.invokevirtual 178, 3) := by decide +kernel
theorem dX10_firstHour_11 : decode cX10_firstHour 11 = .ok (.iconst 0, 1) := by decide +kernel
theorem dX10_firstHour_12 : decode cX10_firstHour 12 = .ok (.istore 4, 2) := by decide +kernel
theorem dX10_firstHour_14 : decode cX10_firstHour 14 = .ok (.iload 4, 2) := by decide +kernel
theorem dX10_firstHour_16 : decode cX10_firstHour 16 = .ok (.sipush 200, 3) := by decide +kernel
theorem dX10_firstHour_19 : decode cX10_firstHour 19 = .ok (.if_icmp .gt 30, 3) := by decide +kernel
theorem dX10_firstHour_22 : decode cX10_firstHour 22 = .ok (.aload_n 0, 1) := by decide +kernel
theorem dX10_firstHour_23 : decode cX10_firstHour 23 = .ok (.iload_n 1, 1) := by decide +kernel
theorem dX10_firstHour_24 : decode cX10_firstHour 24 = .ok (.iload_n 2, 1) := by decide +kernel
theorem dX10_firstHour_25 : decode cX10_firstHour 25 = .ok (.iload_n 3, 1) := by decide +kernel
theorem dX10_firstHour_26 : decode cX10_firstHour 26 = .ok (.invokevirtual 269, 3) := by decide +kernel
theorem dX10_firstHour_29 : decode cX10_firstHour 29 = .ok (.ifCond .eq 6, 3) := by decide +kernel
theorem dX10_firstHour_32 : decode cX10_firstHour 32 = .ok (.iload 4, 2) := by decide +kernel
theorem dX10_firstHour_34 : decode cX10_firstHour 34 = .ok (.ireturn, 1) := by decide +kernel
theorem dX10_firstHour_35 : decode cX10_firstHour 35 = .ok (.aload_n 0, 1) := by decide +kernel
theorem dX10_firstHour_36 : decode cX10_firstHour 36 = .ok (.getfield 36, 3) := by decide +kernel
theorem dX10_firstHour_39 : decode cX10_firstHour 39 = .ok (.iconst 1, 1) := by decide +kernel
theorem dX10_firstHour_40 : decode cX10_firstHour 40 = .ok (.invokevirtual 159, 3) := by decide +kernel
theorem dX10_firstHour_43 : decode cX10_firstHour 43 = .ok (.iinc 4 1, 3) := by decide +kernel
theorem dX10_firstHour_46 : decode cX10_firstHour 46 = .ok (.goto (-32), 3) := by decide +kernel
theorem dX10_firstHour_49 : decode cX10_firstHour 49 = .ok (.aload_n 0, 1) := by decide +kernel
theorem dX10_firstHour_50 : decode cX10_firstHour 50 = .ok (.ldc 195, 2) := by decide +kernel
theorem dX10_firstHour_52 : decode cX10_firstHour 52 = .ok (.invokevirtual 72, 3) := by decide +kernel
theorem dX10_firstHour_55 : decode cX10_firstHour 55 = .ok (.ireturn, 1) := by decide +kernel
theorem dX10_isSoAhead_0 : decode cX10_isSoAhead 0 = .ok (.iload_n 1, 1) := by decide +kernel
theorem dX10_isSoAhead_1 : decode cX10_isSoAhead 1 = .ok (.tableswitch 91 0 2 #[27, 43, 55], 27) := by decide +kernel
theorem dX10_isSoAhead_28 : decode cX10_isSoAhead 28 = .ok (.aload_n 0, 1) := by decide +kernel
theorem dX10_isSoAhead_29 : decode cX10_isSoAhead 29 = .ok (.getfield 36, 3) := by decide +kernel
theorem dX10_isSoAhead_32 : decode cX10_isSoAhead 32 = .ok (.iload_n 2, 1) := by decide +kernel
theorem dX10_isSoAhead_33 : decode cX10_isSoAhead 33 = .ok (.invokevirtual 86, 3) := by decide +kernel
theorem dX10_isSoAhead_36 : decode cX10_isSoAhead 36 = .ok (.getfield 90, 3) := by decide +kernel
theorem dX10_isSoAhead_39 : decode cX10_isSoAhead 39 = .ok (.iload_n 3, 1) := by decide +kernel
theorem dX10_isSoAhead_40 : decode cX10_isSoAhead 40 = .ok (.invokestatic 196, 3) := by decide +kernel
theorem dX10_isSoAhead_43 : decode cX10_isSoAhead 43 = .ok (.ireturn, 1) := by decide +kernel
theorem dX10_isSoAhead_44 : decode cX10_isSoAhead 44 = .ok (.aload_n 0, 1) := by decide +kernel
theorem dX10_isSoAhead_45 : decode cX10_isSoAhead 45 = .ok (.getfield 36, 3) := by decide +kernel
theorem dX10_isSoAhead_48 : decode cX10_isSoAhead 48 = .ok (.invokevirtual 172, 3) := by decide +kernel
theorem dX10_isSoAhead_51 : decode cX10_isSoAhead 51 = .ok (.iload_n 3, 1) := by decide +kernel
theorem dX10_isSoAhead_52 : decode cX10_isSoAhead 52 = .ok (.invokestatic 196, 3) := by decide +kernel
theorem dX10_isSoAhead_55 : decode cX10_isSoAhead 55 = .ok (.ireturn, 1) := by decide +kernel
theorem dX10_isSoAhead_56 : decode cX10_isSoAhead 56 = .ok (.aload_n 0, 1) := by decide +kernel
theorem dX10_isSoAhead_57 : decode cX10_isSoAhead 57 = .ok (.getfield 36, 3) := by decide +kernel
theorem dX10_isSoAhead_60 : decode cX10_isSoAhead 60 = .ok (.iload_n 2, 1) := by decide +kernel
theorem dX10_isSoAhead_61 : decode cX10_isSoAhead 61 = .ok (.invokevirtual 86, 3) := by decide +kernel
theorem dX10_isSoAhead_64 : decode cX10_isSoAhead 64 = .ok (.getfield 115, 3) := by decide +kernel
theorem dX10_isSoAhead_67 : decode cX10_isSoAhead 67 = .ok (.iconst (-1), 1) := by decide +kernel
theorem dX10_isSoAhead_68 : decode cX10_isSoAhead 68 = .ok (.if_icmp .eq 22, 3) := by decide +kernel
theorem dX10_isSoAhead_71 : decode cX10_isSoAhead 71 = .ok (.aload_n 0, 1) := by decide +kernel
theorem dX10_isSoAhead_72 : decode cX10_isSoAhead 72 = .ok (.getfield 36, 3) := by decide +kernel
theorem dX10_isSoAhead_75 : decode cX10_isSoAhead 75 = .ok (.iload_n 3, 1) := by decide +kernel
theorem dX10_isSoAhead_76 : decode cX10_isSoAhead 76 = .ok (.invokevirtual 86, 3) := by decide +kernel
theorem dX10_isSoAhead_79 : decode cX10_isSoAhead 79 = .ok (.getfield 115, 3) := by decide +kernel
theorem dX10_isSoAhead_82 : decode cX10_isSoAhead 82 = .ok (.iconst (-1), 1) := by decide +kernel
theorem dX10_isSoAhead_83 : decode cX10_isSoAhead 83 = .ok (.if_icmp .eq 7, 3) := by decide +kernel
theorem dX10_isSoAhead_86 : decode cX10_isSoAhead 86 = .ok (.iconst 1, 1) := by decide +kernel
theorem dX10_isSoAhead_87 : decode cX10_isSoAhead 87 = .ok (.goto 4, 3) := by decide +kernel
theorem dX10_isSoAhead_90 : decode cX10_isSoAhead 90 = .ok (.iconst 0, 1) := by decide +kernel
theorem dX10_isSoAhead_91 : decode cX10_isSoAhead 91 = .ok (.ireturn, 1) := by decide +kernel
theorem dX10_isSoAhead_92 : decode cX10_isSoAhead 92 = .ok (.aload_n 0, 1) := by decide +kernel
theorem dX10_isSoAhead_93 : decode cX10_isSoAhead 93 = .ok (.getfield 36, 3) := by decide +kernel
theorem dX10_isSoAhead_96 : decode cX10_isSoAhead 96 = .ok (.iload_n 2, 1) := by decide +kernel
theorem dX10_isSoAhead_97 : decode cX10_isSoAhead 97 = .ok (.invokevirtual 86, 3) := by decide +kernel
theorem dX10_isSoAhead_100 : decode cX10_isSoAhead 100 = .ok (.getfield 121, 3) := by decide +kernel
theorem dX10_isSoAhead_103 : decode cX10_isSoAhead 103 = .ok (.iload_n 3, 1) := by decide +kernel
theorem dX10_isSoAhead_104 : decode cX10_isSoAhead 104 = .ok (.if_icmp .lt 7, 3) := by decide +kernel
theorem dX10_isSoAhead_107 : decode cX10_isSoAhead 107 = .ok (.iconst 1, 1) := by decide +kernel
theorem dX10_isSoAhead_108 : decode cX10_isSoAhead 108 = .ok (.goto 4, 3) := by decide +kernel
theorem dX10_isSoAhead_111 : decode cX10_isSoAhead 111 = .ok (.iconst 0, 1) := by decide +kernel
theorem dX10_isSoAhead_112 : decode cX10_isSoAhead 112 = .ok (.ireturn, 1) := by decide +kernel
theorem dX10_learntAs_0 : decode cX10_learntAs 0 = .ok (.aload_n 0, 1) := by decide +kernel
theorem dX10_learntAs_1 : decode cX10_learntAs 1 = .ok (.getfield 36, 3) := by decide +kernel
theorem dX10_learntAs_4 : decode cX10_learntAs 4 = .ok (.aload_n 0, 1) := by decide +kernel
theorem dX10_learntAs_5 : decode cX10_learntAs 5 = .ok (.getfield 30, 3) := by decide +kernel
theorem dX10_learntAs_8 : decode cX10_learntAs 8 = .ok (.invokevirtual 178, 3) := by decide +kernel
theorem dX10_learntAs_11 : decode cX10_learntAs 11 = .ok (.aload_n 0, 1) := by decide +kernel
theorem dX10_learntAs_12 : decode cX10_learntAs 12 = .ok (.getfield 36, 3) := by decide +kernel
theorem dX10_learntAs_15 : decode cX10_learntAs 15 = .ok (.iload_n 1, 1) := by decide +kernel
theorem dX10_learntAs_16 : decode cX10_learntAs 16 = .ok (.invokevirtual 86, 3) := by decide +kernel
theorem dX10_learntAs_19 : decode cX10_learntAs 19 = .ok (.astore 4, 2) := by decide +kernel
theorem dX10_learntAs_21 : decode cX10_learntAs 21 = .ok (.aload 4, 2) := by decide +kernel
theorem dX10_learntAs_23 : decode cX10_learntAs 23 = .ok (.iload_n 2, 1) := by decide +kernel
theorem dX10_learntAs_24 : decode cX10_learntAs 24 = .ok (.putfield 112, 3) := by decide +kernel
theorem dX10_learntAs_27 : decode cX10_learntAs 27 = .ok (.aload_n 0, 1) := by decide +kernel
theorem dX10_learntAs_28 : decode cX10_learntAs 28 = .ok (.getfield 36, 3) := by decide +kernel
theorem dX10_learntAs_31 : decode cX10_learntAs 31 = .ok (.iload_n 3, 1) := by decide +kernel
theorem dX10_learntAs_32 : decode cX10_learntAs 32 = .ok (.invokevirtual 159, 3) := by decide +kernel
theorem dX10_learntAs_35 : decode cX10_learntAs 35 = .ok (.aload 4, 2) := by decide +kernel
theorem dX10_learntAs_37 : decode cX10_learntAs 37 = .ok (.getfield 90, 3) := by decide +kernel
theorem dX10_learntAs_40 : decode cX10_learntAs 40 = .ok (.invokestatic 209, 3) := by decide +kernel
theorem dX10_learntAs_43 : decode cX10_learntAs 43 = .ok (.ireturn, 1) := by decide +kernel
theorem dX10_heardWithout_0 : decode cX10_heardWithout 0 = .ok (.aload_n 0, 1) := by decide +kernel
theorem dX10_heardWithout_1 : decode cX10_heardWithout 1 = .ok (.getfield 36, 3) := by decide +kernel
theorem dX10_heardWithout_4 : decode cX10_heardWithout 4 = .ok (.aload_n 0, 1) := by decide +kernel
theorem dX10_heardWithout_5 : decode cX10_heardWithout 5 = .ok (.getfield 30, 3) := by decide +kernel
theorem dX10_heardWithout_8 : decode cX10_heardWithout 8 = .ok (.invokevirtual 178, 3) := by decide +kernel
theorem dX10_heardWithout_11 : decode cX10_heardWithout 11 = .ok (.aload_n 0, 1) := by decide +kernel
theorem dX10_heardWithout_12 : decode cX10_heardWithout 12 = .ok (.getfield 36, 3) := by decide +kernel
theorem dX10_heardWithout_15 : decode cX10_heardWithout 15 = .ok (.iload_n 1, 1) := by decide +kernel
theorem dX10_heardWithout_16 : decode cX10_heardWithout 16 = .ok (.invokevirtual 86, 3) := by decide +kernel
theorem dX10_heardWithout_19 : decode cX10_heardWithout 19 = .ok (.astore 4, 2) := by decide +kernel
theorem dX10_heardWithout_21 : decode cX10_heardWithout 21 = .ok (.aload 4, 2) := by decide +kernel
theorem dX10_heardWithout_23 : decode cX10_heardWithout 23 = .ok (.aload 4, 2) := by decide +kernel
theorem dX10_heardWithout_25 : decode cX10_heardWithout 25 = .ok (.getfield 90, 3) := by decide +kernel
theorem dX10_heardWithout_28 : decode cX10_heardWithout 28 = .ok (.iconst 1, 1) := by decide +kernel
theorem dX10_heardWithout_29 : decode cX10_heardWithout 29 = .ok (.iload_n 2, 1) := by decide +kernel
theorem dX10_heardWithout_30 : decode cX10_heardWithout 30 = .ok (.ishl, 1) := by decide +kernel
theorem dX10_heardWithout_31 : decode cX10_heardWithout 31 = .ok (.iconst (-1), 1) := by decide +kernel
theorem dX10_heardWithout_32 : decode cX10_heardWithout 32 = .ok (.ixor, 1) := by decide +kernel
theorem dX10_heardWithout_33 : decode cX10_heardWithout 33 = .ok (.iand, 1) := by decide +kernel
theorem dX10_heardWithout_34 : decode cX10_heardWithout 34 = .ok (.invokevirtual 130, 3) := by decide +kernel
theorem dX10_heardWithout_37 : decode cX10_heardWithout 37 = .ok (.pop, 1) := by decide +kernel
theorem dX10_heardWithout_38 : decode cX10_heardWithout 38 = .ok (.aload_n 0, 1) := by decide +kernel
theorem dX10_heardWithout_39 : decode cX10_heardWithout 39 = .ok (.getfield 36, 3) := by decide +kernel
theorem dX10_heardWithout_42 : decode cX10_heardWithout 42 = .ok (.iload_n 3, 1) := by decide +kernel
theorem dX10_heardWithout_43 : decode cX10_heardWithout 43 = .ok (.invokevirtual 159, 3) := by decide +kernel
theorem dX10_heardWithout_46 : decode cX10_heardWithout 46 = .ok (.aload_n 0, 1) := by decide +kernel
theorem dX10_heardWithout_47 : decode cX10_heardWithout 47 = .ok (.getfield 36, 3) := by decide +kernel
theorem dX10_heardWithout_50 : decode cX10_heardWithout 50 = .ok (.invokevirtual 162, 3) := by decide +kernel
theorem dX10_heardWithout_53 : decode cX10_heardWithout 53 = .ok (.ireturn, 1) := by decide +kernel
theorem dX10_spreadFrom_0 : decode cX10_spreadFrom 0 = .ok (.aload_n 0, 1) := by decide +kernel
theorem dX10_spreadFrom_1 : decode cX10_spreadFrom 1 = .ok (.getfield 36, 3) := by decide +kernel
theorem dX10_spreadFrom_4 : decode cX10_spreadFrom 4 = .ok (.aload_n 0, 1) := by decide +kernel
theorem dX10_spreadFrom_5 : decode cX10_spreadFrom 5 = .ok (.getfield 30, 3) := by decide +kernel
theorem dX10_spreadFrom_8 : decode cX10_spreadFrom 8 = .ok (.invokevirtual 178, 3) := by decide +kernel
theorem dX10_spreadFrom_11 : decode cX10_spreadFrom 11 = .ok (.aload_n 0, 1) := by decide +kernel
theorem dX10_spreadFrom_12 : decode cX10_spreadFrom 12 = .ok (.getfield 36, 3) := by decide +kernel
theorem dX10_spreadFrom_15 : decode cX10_spreadFrom 15 = .ok (.iload_n 1, 1) := by decide +kernel
theorem dX10_spreadFrom_16 : decode cX10_spreadFrom 16 = .ok (.invokevirtual 86, 3) := by decide +kernel
theorem dX10_spreadFrom_19 : decode cX10_spreadFrom 19 = .ok (.astore 4, 2) := by decide +kernel
theorem dX10_spreadFrom_21 : decode cX10_spreadFrom 21 = .ok (.aload 4, 2) := by decide +kernel
theorem dX10_spreadFrom_23 : decode cX10_spreadFrom 23 = .ok (.dup, 1) := by decide +kernel
theorem dX10_spreadFrom_24 : decode cX10_spreadFrom 24 = .ok (.getfield 90, 3) := by decide +kernel
theorem dX10_spreadFrom_27 : decode cX10_spreadFrom 27 = .ok (.iconst 1, 1) := by decide +kernel
theorem dX10_spreadFrom_28 : decode cX10_spreadFrom 28 = .ok (.iload_n 2, 1) := by decide +kernel
theorem dX10_spreadFrom_29 : decode cX10_spreadFrom 29 = .ok (.ishl, 1) := by decide +kernel
theorem dX10_spreadFrom_30 : decode cX10_spreadFrom 30 = .ok (.ior, 1) := by decide +kernel
theorem dX10_spreadFrom_31 : decode cX10_spreadFrom 31 = .ok (.putfield 90, 3) := by decide +kernel
theorem dX10_spreadFrom_34 : decode cX10_spreadFrom 34 = .ok (.aload 4, 2) := by decide +kernel
theorem dX10_spreadFrom_36 : decode cX10_spreadFrom 36 = .ok (.dup, 1) := by decide +kernel
theorem dX10_spreadFrom_37 : decode cX10_spreadFrom 37 = .ok (.getfield 95, 3) := by decide +kernel
theorem dX10_spreadFrom_40 : decode cX10_spreadFrom 40 = .ok (.iconst 1, 1) := by decide +kernel
theorem dX10_spreadFrom_41 : decode cX10_spreadFrom 41 = .ok (.iload_n 2, 1) := by decide +kernel
theorem dX10_spreadFrom_42 : decode cX10_spreadFrom 42 = .ok (.ishl, 1) := by decide +kernel
theorem dX10_spreadFrom_43 : decode cX10_spreadFrom 43 = .ok (.ior, 1) := by decide +kernel
theorem dX10_spreadFrom_44 : decode cX10_spreadFrom 44 = .ok (.putfield 95, 3) := by decide +kernel
theorem dX10_spreadFrom_47 : decode cX10_spreadFrom 47 = .ok (.aload_n 0, 1) := by decide +kernel
theorem dX10_spreadFrom_48 : decode cX10_spreadFrom 48 = .ok (.getfield 36, 3) := by decide +kernel
theorem dX10_spreadFrom_51 : decode cX10_spreadFrom 51 = .ok (.iload_n 3, 1) := by decide +kernel
theorem dX10_spreadFrom_52 : decode cX10_spreadFrom 52 = .ok (.invokevirtual 159, 3) := by decide +kernel
theorem dX10_spreadFrom_55 : decode cX10_spreadFrom 55 = .ok (.aload_n 0, 1) := by decide +kernel
theorem dX10_spreadFrom_56 : decode cX10_spreadFrom 56 = .ok (.getfield 36, 3) := by decide +kernel
theorem dX10_spreadFrom_59 : decode cX10_spreadFrom 59 = .ok (.iload_n 2, 1) := by decide +kernel
theorem dX10_spreadFrom_60 : decode cX10_spreadFrom 60 = .ok (.invokevirtual 273, 3) := by decide +kernel
theorem dX10_spreadFrom_63 : decode cX10_spreadFrom 63 = .ok (.ireturn, 1) := by decide +kernel
theorem dX10_believedIfTurned_0 : decode cX10_believedIfTurned 0 = .ok (.aload_n 0, 1) := by decide +kernel
theorem dX10_believedIfTurned_1 : decode cX10_believedIfTurned 1 = .ok (.getfield 36, 3) := by decide +kernel
theorem dX10_believedIfTurned_4 : decode cX10_believedIfTurned 4 = .ok (.aload_n 0, 1) := by decide +kernel
theorem dX10_believedIfTurned_5 : decode cX10_believedIfTurned 5 = .ok (.getfield 30, 3) := by decide +kernel
theorem dX10_believedIfTurned_8 : decode cX10_believedIfTurned 8 = .ok (.invokevirtual 178, 3) := by decide +kernel
theorem dX10_believedIfTurned_11 : decode cX10_believedIfTurned 11 = .ok (.aload_n 0, 1) := by decide +kernel
theorem dX10_believedIfTurned_12 : decode cX10_believedIfTurned 12 = .ok (.getfield 36, 3) := by decide +kernel
theorem dX10_believedIfTurned_15 : decode cX10_believedIfTurned 15 = .ok (.dup, 1) := by decide +kernel
theorem dX10_believedIfTurned_16 : decode cX10_believedIfTurned 16 = .ok (.getfield 76, 3) := by decide +kernel
theorem dX10_believedIfTurned_19 : decode cX10_believedIfTurned 19 = .ok (.iconst 1, 1) := by decide +kernel
theorem dX10_believedIfTurned_20 : decode cX10_believedIfTurned 20 = .ok (.iload_n 1, 1) := by decide +kernel
theorem dX10_believedIfTurned_21 : decode cX10_believedIfTurned 21 = .ok (.ishl, 1) := by decide +kernel
theorem dX10_believedIfTurned_22 : decode cX10_believedIfTurned 22 = .ok (.ixor, 1) := by decide +kernel
theorem dX10_believedIfTurned_23 : decode cX10_believedIfTurned 23 = .ok (.putfield 76, 3) := by decide +kernel
theorem dX10_believedIfTurned_26 : decode cX10_believedIfTurned 26 = .ok (.aload_n 0, 1) := by decide +kernel
theorem dX10_believedIfTurned_27 : decode cX10_believedIfTurned 27 = .ok (.getfield 36, 3) := by decide +kernel
theorem dX10_believedIfTurned_30 : decode cX10_believedIfTurned 30 = .ok (.iload_n 2, 1) := by decide +kernel
theorem dX10_believedIfTurned_31 : decode cX10_believedIfTurned 31 = .ok (.invokevirtual 159, 3) := by decide +kernel
theorem dX10_believedIfTurned_34 : decode cX10_believedIfTurned 34 = .ok (.aload_n 0, 1) := by decide +kernel
theorem dX10_believedIfTurned_35 : decode cX10_believedIfTurned 35 = .ok (.getfield 36, 3) := by decide +kernel
theorem dX10_believedIfTurned_38 : decode cX10_believedIfTurned 38 = .ok (.invokevirtual 266, 3) := by decide +kernel
theorem dX10_believedIfTurned_41 : decode cX10_believedIfTurned 41 = .ok (.ireturn, 1) := by decide +kernel
theorem dX10_goesAsTold_0 : decode cX10_goesAsTold 0 = .ok (.iconst 0, 1) := by decide +kernel
theorem dX10_goesAsTold_1 : decode cX10_goesAsTold 1 = .ok (.istore_n 3, 1) := by decide +kernel
theorem dX10_goesAsTold_2 : decode cX10_goesAsTold 2 = .ok (.iload_n 3, 1) := by decide +kernel
theorem dX10_goesAsTold_3 : decode cX10_goesAsTold 3 = .ok (.aload_n 1, 1) := by decide +kernel
theorem dX10_goesAsTold_4 : decode cX10_goesAsTold 4 = .ok (.getfield 235, 3) := by decide +kernel
theorem dX10_goesAsTold_7 : decode cX10_goesAsTold 7 = .ok (.if_icmp .ge 41, 3) := by decide +kernel
theorem dX10_goesAsTold_10 : decode cX10_goesAsTold 10 = .ok (.aload_n 1, 1) := by decide +kernel
theorem dX10_goesAsTold_11 : decode cX10_goesAsTold 11 = .ok (.getfield 250, 3) := by decide +kernel
theorem dX10_goesAsTold_14 : decode cX10_goesAsTold 14 = .ok (.iload_n 3, 1) := by decide +kernel
theorem dX10_goesAsTold_15 : decode cX10_goesAsTold 15 = .ok (.laload, 1) := by decide +kernel
theorem dX10_goesAsTold_16 : decode cX10_goesAsTold 16 = .ok (.aload_n 0, 1) := by decide +kernel
theorem dX10_goesAsTold_17 : decode cX10_goesAsTold 17 = .ok (.getfield 36, 3) := by decide +kernel
theorem dX10_goesAsTold_20 : decode cX10_goesAsTold 20 = .ok (.iload_n 2, 1) := by decide +kernel
theorem dX10_goesAsTold_21 : decode cX10_goesAsTold 21 = .ok (.invokevirtual 86, 3) := by decide +kernel
theorem dX10_goesAsTold_24 : decode cX10_goesAsTold 24 = .ok (.getfield 90, 3) := by decide +kernel
theorem dX10_goesAsTold_27 : decode cX10_goesAsTold 27 = .ok (.i2l, 1) := by decide +kernel
theorem dX10_goesAsTold_28 : decode cX10_goesAsTold 28 = .ok (.lcmp, 1) := by decide +kernel
theorem dX10_goesAsTold_29 : decode cX10_goesAsTold 29 = .ok (.ifCond .eq 5, 3) := by decide +kernel
theorem dX10_goesAsTold_32 : decode cX10_goesAsTold 32 = .ok (.iconst 0, 1) := by decide +kernel
theorem dX10_goesAsTold_33 : decode cX10_goesAsTold 33 = .ok (.ireturn, 1) := by decide +kernel
theorem dX10_goesAsTold_34 : decode cX10_goesAsTold 34 = .ok (.aload_n 0, 1) := by decide +kernel
theorem dX10_goesAsTold_35 : decode cX10_goesAsTold 35 = .ok (.getfield 36, 3) := by decide +kernel
theorem dX10_goesAsTold_38 : decode cX10_goesAsTold 38 = .ok (.iconst 1, 1) := by decide +kernel
theorem dX10_goesAsTold_39 : decode cX10_goesAsTold 39 = .ok (.invokevirtual 159, 3) := by decide +kernel
theorem dX10_goesAsTold_42 : decode cX10_goesAsTold 42 = .ok (.iinc 3 1, 3) := by decide +kernel
theorem dX10_goesAsTold_45 : decode cX10_goesAsTold 45 = .ok (.goto (-43), 3) := by decide +kernel
theorem dX10_goesAsTold_48 : decode cX10_goesAsTold 48 = .ok (.iconst 1, 1) := by decide +kernel
theorem dX10_goesAsTold_49 : decode cX10_goesAsTold 49 = .ok (.ireturn, 1) := by decide +kernel
theorem dX10_leastOfBest_0 : decode cX10_leastOfBest 0 = .ok (.iconst 0, 1) := by decide +kernel
theorem dX10_leastOfBest_1 : decode cX10_leastOfBest 1 = .ok (.istore_n 2, 1) := by decide +kernel
theorem dX10_leastOfBest_2 : decode cX10_leastOfBest 2 = .ok (.iconst 1, 1) := by decide +kernel
theorem dX10_leastOfBest_3 : decode cX10_leastOfBest 3 = .ok (.istore_n 3, 1) := by decide +kernel
theorem dX10_leastOfBest_4 : decode cX10_leastOfBest 4 = .ok (.iload_n 3, 1) := by decide +kernel
theorem dX10_leastOfBest_5 : decode cX10_leastOfBest 5 = .ok (.iload_n 1, 1) := by decide +kernel
theorem dX10_leastOfBest_6 : decode cX10_leastOfBest 6 = .ok (.if_icmp .ge 32, 3) := by decide +kernel
theorem dX10_leastOfBest_9 : decode cX10_leastOfBest 9 = .ok (.iload_n 3, 1) := by decide +kernel
theorem dX10_leastOfBest_10 : decode cX10_leastOfBest 10 = .ok (.bipush 10, 2) := by decide +kernel
theorem dX10_leastOfBest_12 : decode cX10_leastOfBest 12 = .ok (.if_icmp .ge 26, 3) := by decide +kernel
theorem dX10_leastOfBest_15 : decode cX10_leastOfBest 15 = .ok (.aload_n 0, 1) := by decide +kernel
theorem dX10_leastOfBest_16 : decode cX10_leastOfBest 16 = .ok (.getfield 64, 3) := by decide +kernel
theorem dX10_leastOfBest_19 : decode cX10_leastOfBest 19 = .ok (.iload_n 3, 1) := by decide +kernel
theorem dX10_leastOfBest_20 : decode cX10_leastOfBest 20 = .ok (.iaload, 1) := by decide +kernel
theorem dX10_leastOfBest_21 : decode cX10_leastOfBest 21 = .ok (.aload_n 0, 1) := by decide +kernel
theorem dX10_leastOfBest_22 : decode cX10_leastOfBest 22 = .ok (.getfield 64, 3) := by decide +kernel
theorem dX10_leastOfBest_25 : decode cX10_leastOfBest 25 = .ok (.iload_n 2, 1) := by decide +kernel
theorem dX10_leastOfBest_26 : decode cX10_leastOfBest 26 = .ok (.iaload, 1) := by decide +kernel
theorem dX10_leastOfBest_27 : decode cX10_leastOfBest 27 = .ok (.if_icmp .le 5, 3) := by decide +kernel
theorem dX10_leastOfBest_30 : decode cX10_leastOfBest 30 = .ok (.iload_n 3, 1) := by decide +kernel
theorem dX10_leastOfBest_31 : decode cX10_leastOfBest 31 = .ok (.istore_n 2, 1) := by decide +kernel
theorem dX10_leastOfBest_32 : decode cX10_leastOfBest 32 = .ok (.iinc 3 1, 3) := by decide +kernel
theorem dX10_leastOfBest_35 : decode cX10_leastOfBest 35 = .ok (.goto (-31), 3) := by decide +kernel
theorem dX10_leastOfBest_38 : decode cX10_leastOfBest 38 = .ok (.iload_n 2, 1) := by decide +kernel
theorem dX10_leastOfBest_39 : decode cX10_leastOfBest 39 = .ok (.ireturn, 1) := by decide +kernel
theorem dX10_isSecret_0 : decode cX10_isSecret 0 = .ok (.iload_n 0, 1) := by decide +kernel
theorem dX10_isSecret_1 : decode cX10_isSecret 1 = .ok (.ifCond .lt 13, 3) := by decide +kernel
theorem dX10_isSecret_4 : decode cX10_isSecret 4 = .ok (.iload_n 0, 1) := by decide +kernel
theorem dX10_isSecret_5 : decode cX10_isSecret 5 = .ok (.bipush 10, 2) := by decide +kernel
theorem dX10_isSecret_7 : decode cX10_isSecret 7 = .ok (.if_icmp .ge 7, 3) := by decide +kernel
theorem dX10_isSecret_10 : decode cX10_isSecret 10 = .ok (.iconst 1, 1) := by decide +kernel
theorem dX10_isSecret_11 : decode cX10_isSecret 11 = .ok (.goto 4, 3) := by decide +kernel
theorem dX10_isSecret_14 : decode cX10_isSecret 14 = .ok (.iconst 0, 1) := by decide +kernel
theorem dX10_isSecret_15 : decode cX10_isSecret 15 = .ok (.ireturn, 1) := by decide +kernel
theorem dX10_isSetOfSecrets_0 : decode cX10_isSetOfSecrets 0 = .ok (.iload_n 0, 1) := by decide +kernel
theorem dX10_isSetOfSecrets_1 : decode cX10_isSetOfSecrets 1 = .ok (.ifCond .lt 14, 3) := by decide +kernel
theorem dX10_isSetOfSecrets_4 : decode cX10_isSetOfSecrets 4 = .ok (.iload_n 0, 1) := by decide +kernel
theorem dX10_isSetOfSecrets_5 : decode cX10_isSetOfSecrets 5 = .ok (.sipush 1023, 3) := by decide +kernel
theorem dX10_isSetOfSecrets_8 : decode cX10_isSetOfSecrets 8 = .ok (.if_icmp .gt 7, 3) := by decide +kernel
theorem dX10_isSetOfSecrets_11 : decode cX10_isSetOfSecrets 11 = .ok (.iconst 1, 1) := by decide +kernel
theorem dX10_isSetOfSecrets_12 : decode cX10_isSetOfSecrets 12 = .ok (.goto 4, 3) := by decide +kernel
theorem dX10_isSetOfSecrets_15 : decode cX10_isSetOfSecrets 15 = .ok (.iconst 0, 1) := by decide +kernel
theorem dX10_isSetOfSecrets_16 : decode cX10_isSetOfSecrets 16 = .ok (.ireturn, 1) := by decide +kernel
theorem dX10_isKind_0 : decode cX10_isKind 0 = .ok (.iload_n 0, 1) := by decide +kernel
theorem dX10_isKind_1 : decode cX10_isKind 1 = .ok (.ifCond .lt 13, 3) := by decide +kernel
theorem dX10_isKind_4 : decode cX10_isKind 4 = .ok (.iload_n 0, 1) := by decide +kernel
theorem dX10_isKind_5 : decode cX10_isKind 5 = .ok (.bipush 6, 2) := by decide +kernel
theorem dX10_isKind_7 : decode cX10_isKind 7 = .ok (.if_icmp .ge 7, 3) := by decide +kernel
theorem dX10_isKind_10 : decode cX10_isKind 10 = .ok (.iconst 1, 1) := by decide +kernel
theorem dX10_isKind_11 : decode cX10_isKind 11 = .ok (.goto 4, 3) := by decide +kernel
theorem dX10_isKind_14 : decode cX10_isKind 14 = .ok (.iconst 0, 1) := by decide +kernel
theorem dX10_isKind_15 : decode cX10_isKind 15 = .ok (.ireturn, 1) := by decide +kernel
theorem dX10_isSheet_0 : decode cX10_isSheet 0 = .ok (.iload_n 0, 1) := by decide +kernel
theorem dX10_isSheet_1 : decode cX10_isSheet 1 = .ok (.ifCond .lt 12, 3) := by decide +kernel
theorem dX10_isSheet_4 : decode cX10_isSheet 4 = .ok (.iload_n 0, 1) := by decide +kernel
theorem dX10_isSheet_5 : decode cX10_isSheet 5 = .ok (.iconst 4, 1) := by decide +kernel
theorem dX10_isSheet_6 : decode cX10_isSheet 6 = .ok (.if_icmp .ge 7, 3) := by decide +kernel
theorem dX10_isSheet_9 : decode cX10_isSheet 9 = .ok (.iconst 1, 1) := by decide +kernel
theorem dX10_isSheet_10 : decode cX10_isSheet 10 = .ok (.goto 4, 3) := by decide +kernel
theorem dX10_isSheet_13 : decode cX10_isSheet 13 = .ok (.iconst 0, 1) := by decide +kernel
theorem dX10_isSheet_14 : decode cX10_isSheet 14 = .ok (.ireturn, 1) := by decide +kernel
theorem dX10_isUnder_0 : decode cX10_isUnder 0 = .ok (.iload_n 0, 1) := by decide +kernel
theorem dX10_isUnder_1 : decode cX10_isUnder 1 = .ok (.istore_n 2, 1) := by decide +kernel
theorem dX10_isUnder_2 : decode cX10_isUnder 2 = .ok (.iconst 0, 1) := by decide +kernel
theorem dX10_isUnder_3 : decode cX10_isUnder 3 = .ok (.istore_n 3, 1) := by decide +kernel
theorem dX10_isUnder_4 : decode cX10_isUnder 4 = .ok (.iload_n 3, 1) := by decide +kernel
theorem dX10_isUnder_5 : decode cX10_isUnder 5 = .ok (.bipush 6, 2) := by decide +kernel
theorem dX10_isUnder_7 : decode cX10_isUnder 7 = .ok (.if_icmp .ge 29, 3) := by decide +kernel
theorem dX10_isUnder_10 : decode cX10_isUnder 10 = .ok (.iload_n 2, 1) := by decide +kernel
theorem dX10_isUnder_11 : decode cX10_isUnder 11 = .ok (.invokestatic 98, 3) := by decide +kernel
theorem dX10_isUnder_14 : decode cX10_isUnder 14 = .ok (.ifCond .eq 22, 3) := by decide +kernel
theorem dX10_isUnder_17 : decode cX10_isUnder 17 = .ok (.iload_n 2, 1) := by decide +kernel
theorem dX10_isUnder_18 : decode cX10_isUnder 18 = .ok (.iload_n 1, 1) := by decide +kernel
theorem dX10_isUnder_19 : decode cX10_isUnder 19 = .ok (.if_icmp .ne 5, 3) := by decide +kernel
theorem dX10_isUnder_22 : decode cX10_isUnder 22 = .ok (.iconst 1, 1) := by decide +kernel
theorem dX10_isUnder_23 : decode cX10_isUnder 23 = .ok (.ireturn, 1) := by decide +kernel
theorem dX10_isUnder_24 : decode cX10_isUnder 24 = .ok (.getstatic 276, 3) := by decide +kernel
theorem dX10_isUnder_27 : decode cX10_isUnder 27 = .ok (.iload_n 2, 1) := by decide +kernel
theorem dX10_isUnder_28 : decode cX10_isUnder 28 = .ok (.iaload, 1) := by decide +kernel
theorem dX10_isUnder_29 : decode cX10_isUnder 29 = .ok (.istore_n 2, 1) := by decide +kernel
theorem dX10_isUnder_30 : decode cX10_isUnder 30 = .ok (.iinc 3 1, 3) := by decide +kernel
theorem dX10_isUnder_33 : decode cX10_isUnder 33 = .ok (.goto (-29), 3) := by decide +kernel
theorem dX10_isUnder_36 : decode cX10_isUnder 36 = .ok (.iconst 0, 1) := by decide +kernel
theorem dX10_isUnder_37 : decode cX10_isUnder 37 = .ok (.ireturn, 1) := by decide +kernel
theorem dX10_holds_0 : decode cX10_holds 0 = .ok (.iload_n 0, 1) := by decide +kernel
theorem dX10_holds_1 : decode cX10_holds 1 = .ok (.iload_n 1, 1) := by decide +kernel
theorem dX10_holds_2 : decode cX10_holds 2 = .ok (.ishr, 1) := by decide +kernel
theorem dX10_holds_3 : decode cX10_holds 3 = .ok (.iconst 1, 1) := by decide +kernel
theorem dX10_holds_4 : decode cX10_holds 4 = .ok (.iand, 1) := by decide +kernel
theorem dX10_holds_5 : decode cX10_holds 5 = .ok (.ifCond .eq 7, 3) := by decide +kernel
theorem dX10_holds_8 : decode cX10_holds 8 = .ok (.iconst 1, 1) := by decide +kernel
theorem dX10_holds_9 : decode cX10_holds 9 = .ok (.goto 4, 3) := by decide +kernel
theorem dX10_holds_12 : decode cX10_holds 12 = .ok (.iconst 0, 1) := by decide +kernel
theorem dX10_holds_13 : decode cX10_holds 13 = .ok (.ireturn, 1) := by decide +kernel
theorem dX10_least_0 : decode cX10_least 0 = .ok (.iconst 0, 1) := by decide +kernel
theorem dX10_least_1 : decode cX10_least 1 = .ok (.istore_n 1, 1) := by decide +kernel
theorem dX10_least_2 : decode cX10_least 2 = .ok (.iload_n 1, 1) := by decide +kernel
theorem dX10_least_3 : decode cX10_least 3 = .ok (.bipush 10, 2) := by decide +kernel
theorem dX10_least_5 : decode cX10_least 5 = .ok (.if_icmp .ge 19, 3) := by decide +kernel
theorem dX10_least_8 : decode cX10_least 8 = .ok (.iload_n 0, 1) := by decide +kernel
theorem dX10_least_9 : decode cX10_least 9 = .ok (.iload_n 1, 1) := by decide +kernel
theorem dX10_least_10 : decode cX10_least 10 = .ok (.invokestatic 196, 3) := by decide +kernel
theorem dX10_least_13 : decode cX10_least 13 = .ok (.ifCond .eq 5, 3) := by decide +kernel
theorem dX10_least_16 : decode cX10_least 16 = .ok (.iload_n 1, 1) := by decide +kernel
theorem dX10_least_17 : decode cX10_least 17 = .ok (.ireturn, 1) := by decide +kernel
theorem dX10_least_18 : decode cX10_least 18 = .ok (.iinc 1 1, 3) := by decide +kernel
theorem dX10_least_21 : decode cX10_least 21 = .ok (.goto (-19), 3) := by decide +kernel
theorem dX10_least_24 : decode cX10_least 24 = .ok (.iconst (-1), 1) := by decide +kernel
theorem dX10_least_25 : decode cX10_least 25 = .ok (.ireturn, 1) := by decide +kernel
theorem dX10_greatest_0 : decode cX10_greatest 0 = .ok (.bipush 9, 2) := by decide +kernel
theorem dX10_greatest_2 : decode cX10_greatest 2 = .ok (.istore_n 1, 1) := by decide +kernel
theorem dX10_greatest_3 : decode cX10_greatest 3 = .ok (.iload_n 1, 1) := by decide +kernel
theorem dX10_greatest_4 : decode cX10_greatest 4 = .ok (.ifCond .lt 19, 3) := by decide +kernel
theorem dX10_greatest_7 : decode cX10_greatest 7 = .ok (.iload_n 0, 1) := by decide +kernel
theorem dX10_greatest_8 : decode cX10_greatest 8 = .ok (.iload_n 1, 1) := by decide +kernel
theorem dX10_greatest_9 : decode cX10_greatest 9 = .ok (.invokestatic 196, 3) := by decide +kernel
theorem dX10_greatest_12 : decode cX10_greatest 12 = .ok (.ifCond .eq 5, 3) := by decide +kernel
theorem dX10_greatest_15 : decode cX10_greatest 15 = .ok (.iload_n 1, 1) := by decide +kernel
theorem dX10_greatest_16 : decode cX10_greatest 16 = .ok (.ireturn, 1) := by decide +kernel
theorem dX10_greatest_17 : decode cX10_greatest 17 = .ok (.iinc 1 (-1), 3) := by decide +kernel
theorem dX10_greatest_20 : decode cX10_greatest 20 = .ok (.goto (-17), 3) := by decide +kernel
theorem dX10_greatest_23 : decode cX10_greatest 23 = .ok (.iconst (-1), 1) := by decide +kernel
theorem dX10_greatest_24 : decode cX10_greatest 24 = .ok (.ireturn, 1) := by decide +kernel
theorem dX11_init_0 : decode cX11_init 0 = .ok (.aload_n 0, 1) := by decide +kernel
theorem dX11_init_1 : decode cX11_init 1 = .ok (.invokespecial 1, 3) := by decide +kernel
theorem dX11_init_4 : decode cX11_init 4 = .ok (.aload_n 0, 1) := by decide +kernel
theorem dX11_init_5 : decode cX11_init 5 = .ok (.bipush 52, 2) := by decide +kernel
theorem dX11_init_7 : decode cX11_init 7 = .ok (.newarray .int, 2) := by decide +kernel
theorem dX11_init_9 : decode cX11_init 9 = .ok (.putfield 7, 3) := by decide +kernel
theorem dX11_init_12 : decode cX11_init 12 = .ok (.aload_n 0, 1) := by decide +kernel
theorem dX11_init_13 : decode cX11_init 13 = .ok (.bipush 52, 2) := by decide +kernel
theorem dX11_init_15 : decode cX11_init 15 = .ok (.newarray .int, 2) := by decide +kernel
theorem dX11_init_17 : decode cX11_init 17 = .ok (.putfield 13, 3) := by decide +kernel
theorem dX11_init_20 : decode cX11_init 20 = .ok (.aload_n 0, 1) := by decide +kernel
theorem dX11_init_21 : decode cX11_init 21 = .ok (.bipush 52, 2) := by decide +kernel
theorem dX11_init_23 : decode cX11_init 23 = .ok (.newarray .int, 2) := by decide +kernel
theorem dX11_init_25 : decode cX11_init 25 = .ok (.putfield 16, 3) := by decide +kernel
theorem dX11_init_28 : decode cX11_init 28 = .ok (.aload_n 0, 1) := by decide +kernel
theorem dX11_init_29 : decode cX11_init 29 = .ok (.bipush 52, 2) := by decide +kernel
theorem dX11_init_31 : decode cX11_init 31 = .ok (.newarray .int, 2) := by decide +kernel
theorem dX11_init_33 : decode cX11_init 33 = .ok (.putfield 19, 3) := by decide +kernel
theorem dX11_init_36 : decode cX11_init 36 = .ok (.aload_n 0, 1) := by decide +kernel
theorem dX11_init_37 : decode cX11_init 37 = .ok (.bipush 8, 2) := by decide +kernel
theorem dX11_init_39 : decode cX11_init 39 = .ok (.newarray .int, 2) := by decide +kernel
theorem dX11_init_41 : decode cX11_init 41 = .ok (.putfield 22, 3) := by decide +kernel
theorem dX11_init_44 : decode cX11_init 44 = .ok (.aload_n 0, 1) := by decide +kernel
theorem dX11_init_45 : decode cX11_init 45 = .ok (.bipush 120, 2) := by decide +kernel
theorem dX11_init_47 : decode cX11_init 47 = .ok (.newarray .int, 2) := by decide +kernel
theorem dX11_init_49 : decode cX11_init 49 = .ok (.putfield 25, 3) := by decide +kernel
theorem dX11_init_52 : decode cX11_init 52 = .ok (.aload_n 0, 1) := by decide +kernel
theorem dX11_init_53 : decode cX11_init 53 = .ok (.iconst 4, 1) := by decide +kernel
theorem dX11_init_54 : decode cX11_init 54 = .ok (.newarray .int, 2) := by decide +kernel
theorem dX11_init_56 : decode cX11_init 56 = .ok (.dup, 1) := by decide +kernel
theorem dX11_init_57 : decode cX11_init 57 = .ok (.iconst 0, 1) := by decide +kernel
theorem dX11_init_58 : decode cX11_init 58 = .ok (.iconst (-1), 1) := by decide +kernel
theorem dX11_init_59 : decode cX11_init 59 = .ok (.iastore, 1) := by decide +kernel
theorem dX11_init_60 : decode cX11_init 60 = .ok (.dup, 1) := by decide +kernel
theorem dX11_init_61 : decode cX11_init 61 = .ok (.iconst 1, 1) := by decide +kernel
theorem dX11_init_62 : decode cX11_init 62 = .ok (.iconst (-1), 1) := by decide +kernel
theorem dX11_init_63 : decode cX11_init 63 = .ok (.iastore, 1) := by decide +kernel
theorem dX11_init_64 : decode cX11_init 64 = .ok (.dup, 1) := by decide +kernel
theorem dX11_init_65 : decode cX11_init 65 = .ok (.iconst 2, 1) := by decide +kernel
theorem dX11_init_66 : decode cX11_init 66 = .ok (.iconst (-1), 1) := by decide +kernel
theorem dX11_init_67 : decode cX11_init 67 = .ok (.iastore, 1) := by decide +kernel
theorem dX11_init_68 : decode cX11_init 68 = .ok (.dup, 1) := by decide +kernel
theorem dX11_init_69 : decode cX11_init 69 = .ok (.iconst 3, 1) := by decide +kernel
theorem dX11_init_70 : decode cX11_init 70 = .ok (.iconst (-1), 1) := by decide +kernel
theorem dX11_init_71 : decode cX11_init 71 = .ok (.iastore, 1) := by decide +kernel
theorem dX11_init_72 : decode cX11_init 72 = .ok (.putfield 28, 3) := by decide +kernel
theorem dX11_init_75 : decode cX11_init 75 = .ok (.aload_n 0, 1) := by decide +kernel
theorem dX11_init_76 : decode cX11_init 76 = .ok (.iconst 4, 1) := by decide +kernel
theorem dX11_init_77 : decode cX11_init 77 = .ok (.newarray .int, 2) := by decide +kernel
theorem dX11_init_79 : decode cX11_init 79 = .ok (.putfield 31, 3) := by decide +kernel
theorem dX11_init_82 : decode cX11_init 82 = .ok (.aload_n 0, 1) := by decide +kernel
theorem dX11_init_83 : decode cX11_init 83 = .ok (.sipush 160, 3) := by decide +kernel
theorem dX11_init_86 : decode cX11_init 86 = .ok (.newarray .long, 2) := by decide +kernel
theorem dX11_init_88 : decode cX11_init 88 = .ok (.putfield 34, 3) := by decide +kernel
theorem dX11_init_91 : decode cX11_init 91 = .ok (.aload_n 0, 1) := by decide +kernel
theorem dX11_init_92 : decode cX11_init 92 = .ok (.getfield 7, 3) := by decide +kernel
theorem dX11_init_95 : decode cX11_init 95 = .ok (.iconst 3, 1) := by decide +kernel
theorem dX11_init_96 : decode cX11_init 96 = .ok (.iconst (-1), 1) := by decide +kernel
theorem dX11_init_97 : decode cX11_init 97 = .ok (.iastore, 1) := by decide +kernel
theorem dX11_init_98 : decode cX11_init 98 = .ok (.return_, 1) := by decide +kernel
theorem dX11_isIn_0 : decode cX11_isIn 0 = .ok (.lload_n 0, 1) := by decide +kernel
theorem dX11_isIn_1 : decode cX11_isIn 1 = .ok (.lload_n 2, 1) := by decide +kernel
theorem dX11_isIn_2 : decode cX11_isIn 2 = .ok (.lcmp, 1) := by decide +kernel
theorem dX11_isIn_3 : decode cX11_isIn 3 = .ok (.ifCond .lt 14, 3) := by decide +kernel
theorem dX11_isIn_6 : decode cX11_isIn 6 = .ok (.lload_n 0, 1) := by decide +kernel
theorem dX11_isIn_7 : decode cX11_isIn 7 = .ok (.lload 4, 2) := by decide +kernel
theorem dX11_isIn_9 : decode cX11_isIn 9 = .ok (.lcmp, 1) := by decide +kernel
theorem dX11_isIn_10 : decode cX11_isIn 10 = .ok (.ifCond .gt 7, 3) := by decide +kernel
theorem dX11_isIn_13 : decode cX11_isIn 13 = .ok (.iconst 1, 1) := by decide +kernel
theorem dX11_isIn_14 : decode cX11_isIn 14 = .ok (.goto 4, 3) := by decide +kernel
theorem dX11_isIn_17 : decode cX11_isIn 17 = .ok (.iconst 0, 1) := by decide +kernel
theorem dX11_isIn_18 : decode cX11_isIn 18 = .ok (.ireturn, 1) := by decide +kernel
theorem dX11_finds_0 : decode cX11_finds 0 = .ok (.aload_n 0, 1) := by decide +kernel
theorem dX11_finds_1 : decode cX11_finds 1 = .ok (.getfield 22, 3) := by decide +kernel
theorem dX11_finds_4 : decode cX11_finds 4 = .ok (.iconst 0, 1) := by decide +kernel
theorem dX11_finds_5 : decode cX11_finds 5 = .ok (.dup2, 1) := by decide +kernel
theorem dX11_finds_6 : decode cX11_finds 6 = .ok (.iaload, 1) := by decide +kernel
theorem dX11_finds_7 : decode cX11_finds 7 = .ok (.iconst 1, 1) := by decide +kernel
theorem dX11_finds_8 : decode cX11_finds 8 = .ok (.iadd, 1) := by decide +kernel
theorem dX11_finds_9 : decode cX11_finds 9 = .ok (.iastore, 1) := by decide +kernel
theorem dX11_finds_10 : decode cX11_finds 10 = .ok (.aload_n 0, 1) := by decide +kernel
theorem dX11_finds_11 : decode cX11_finds 11 = .ok (.getfield 22, 3) := by decide +kernel
theorem dX11_finds_14 : decode cX11_finds 14 = .ok (.ldc 38, 2) := by decide +kernel
theorem dX11_finds_16 : decode cX11_finds 16 = .ok (.iload_n 1, 1) := by decide +kernel
theorem dX11_finds_17 : decode cX11_finds 17 = .ok (.isub, 1) := by decide +kernel
theorem dX11_finds_18 : decode cX11_finds 18 = .ok (.iconst 1, 1) := by decide +kernel
theorem dX11_finds_19 : decode cX11_finds 19 = .ok (.iadd, 1) := by decide +kernel
theorem dX11_finds_20 : decode cX11_finds 20 = .ok (.dup2, 1) := by decide +kernel
theorem dX11_finds_21 : decode cX11_finds 21 = .ok (.iaload, 1) := by decide +kernel
theorem dX11_finds_22 : decode cX11_finds 22 = .ok (.iconst 1, 1) := by decide +kernel
theorem dX11_finds_23 : decode cX11_finds 23 = .ok (.iadd, 1) := by decide +kernel
theorem dX11_finds_24 : decode cX11_finds 24 = .ok (.iastore, 1) := by decide +kernel
theorem dX11_finds_25 : decode cX11_finds 25 = .ok (.iload_n 1, 1) := by decide +kernel
theorem dX11_finds_26 : decode cX11_finds 26 = .ok (.ireturn, 1) := by decide +kernel
theorem dX11_becomes_0 : decode cX11_becomes 0 = .ok (.aload_n 0, 1) := by decide +kernel
theorem dX11_becomes_1 : decode cX11_becomes 1 = .ok (.getfield 7, 3) := by decide +kernel
theorem dX11_becomes_4 : decode cX11_becomes 4 = .ok (.iload_n 1, 1) := by decide +kernel
theorem dX11_becomes_5 : decode cX11_becomes 5 = .ok (.iaload, 1) := by decide +kernel
theorem dX11_becomes_6 : decode cX11_becomes 6 = .ok (.istore_n 3, 1) := by decide +kernel
theorem dX11_becomes_7 : decode cX11_becomes 7 = .ok (.aload_n 0, 1) := by decide +kernel
theorem dX11_becomes_8 : decode cX11_becomes 8 = .ok (.getfield 7, 3) := by decide +kernel
theorem dX11_becomes_11 : decode cX11_becomes 11 = .ok (.iload_n 1, 1) := by decide +kernel
theorem dX11_becomes_12 : decode cX11_becomes 12 = .ok (.iload_n 2, 1) := by decide +kernel
theorem dX11_becomes_13 : decode cX11_becomes 13 = .ok (.iastore, 1) := by decide +kernel
theorem dX11_becomes_14 : decode cX11_becomes 14 = .ok (.iload_n 3, 1) := by decide +kernel
theorem dX11_becomes_15 : decode cX11_becomes 15 = .ok (.ireturn, 1) := by decide +kernel
theorem dX11_copyRow_0 : decode cX11_copyRow 0 = .ok (.iconst 0, 1) := by decide +kernel
theorem dX11_copyRow_1 : decode cX11_copyRow 1 = .ok (.istore_n 2, 1) := by decide +kernel
theorem dX11_copyRow_2 : decode cX11_copyRow 2 = .ok (.iload_n 2, 1) := by decide +kernel
theorem dX11_copyRow_3 : decode cX11_copyRow 3 = .ok (.bipush 52, 2) := by decide +kernel
theorem dX11_copyRow_5 : decode cX11_copyRow 5 = .ok (.if_icmp .ge 15, 3) := by decide +kernel
theorem dX11_copyRow_8 : decode cX11_copyRow 8 = .ok (.aload_n 1, 1) := by decide +kernel
theorem dX11_copyRow_9 : decode cX11_copyRow 9 = .ok (.iload_n 2, 1) := by decide +kernel
theorem dX11_copyRow_10 : decode cX11_copyRow 10 = .ok (.aload_n 0, 1) := by decide +kernel
theorem dX11_copyRow_11 : decode cX11_copyRow 11 = .ok (.iload_n 2, 1) := by decide +kernel
theorem dX11_copyRow_12 : decode cX11_copyRow 12 = .ok (.iaload, 1) := by decide +kernel
theorem dX11_copyRow_13 : decode cX11_copyRow 13 = .ok (.iastore, 1) := by decide +kernel
theorem dX11_copyRow_14 : decode cX11_copyRow 14 = .ok (.iinc 2 1, 3) := by decide +kernel
theorem dX11_copyRow_17 : decode cX11_copyRow 17 = .ok (.goto (-15), 3) := by decide +kernel
theorem dX11_copyRow_20 : decode cX11_copyRow 20 = .ok (.return_, 1) := by decide +kernel
theorem dX11_isSecret_0 : decode cX11_isSecret 0 = .ok (.iload_n 0, 1) := by decide +kernel
theorem dX11_isSecret_1 : decode cX11_isSecret 1 = .ok (.ifCond .lt 13, 3) := by decide +kernel
theorem dX11_isSecret_4 : decode cX11_isSecret 4 = .ok (.iload_n 0, 1) := by decide +kernel
theorem dX11_isSecret_5 : decode cX11_isSecret 5 = .ok (.bipush 10, 2) := by decide +kernel
theorem dX11_isSecret_7 : decode cX11_isSecret 7 = .ok (.if_icmp .ge 7, 3) := by decide +kernel
theorem dX11_isSecret_10 : decode cX11_isSecret 10 = .ok (.iconst 1, 1) := by decide +kernel
theorem dX11_isSecret_11 : decode cX11_isSecret 11 = .ok (.goto 4, 3) := by decide +kernel
theorem dX11_isSecret_14 : decode cX11_isSecret 14 = .ok (.iconst 0, 1) := by decide +kernel
theorem dX11_isSecret_15 : decode cX11_isSecret 15 = .ok (.ireturn, 1) := by decide +kernel
theorem dX11_isOne_0 : decode cX11_isOne 0 = .ok (.iload_n 1, 1) := by decide +kernel
theorem dX11_isOne_1 : decode cX11_isOne 1 = .ok (.ifCond .lt 17, 3) := by decide +kernel
theorem dX11_isOne_4 : decode cX11_isOne 4 = .ok (.iload_n 1, 1) := by decide +kernel
theorem dX11_isOne_5 : decode cX11_isOne 5 = .ok (.aload_n 0, 1) := by decide +kernel
theorem dX11_isOne_6 : decode cX11_isOne 6 = .ok (.getfield 7, 3) := by decide +kernel
theorem dX11_isOne_9 : decode cX11_isOne 9 = .ok (.iconst 0, 1) := by decide +kernel
theorem dX11_isOne_10 : decode cX11_isOne 10 = .ok (.iaload, 1) := by decide +kernel
theorem dX11_isOne_11 : decode cX11_isOne 11 = .ok (.if_icmp .ge 7, 3) := by decide +kernel
theorem dX11_isOne_14 : decode cX11_isOne 14 = .ok (.iconst 1, 1) := by decide +kernel
theorem dX11_isOne_15 : decode cX11_isOne 15 = .ok (.goto 4, 3) := by decide +kernel
theorem dX11_isOne_18 : decode cX11_isOne 18 = .ok (.iconst 0, 1) := by decide +kernel
theorem dX11_isOne_19 : decode cX11_isOne 19 = .ok (.ireturn, 1) := by decide +kernel
theorem dX11_at_0 : decode cX11_at 0 = .ok (.iconst 4, 1) := by decide +kernel
theorem dX11_at_1 : decode cX11_at 1 = .ok (.bipush 6, 2) := by decide +kernel
theorem dX11_at_3 : decode cX11_at 3 = .ok (.iload_n 0, 1) := by decide +kernel
theorem dX11_at_4 : decode cX11_at 4 = .ok (.imul, 1) := by decide +kernel
theorem dX11_at_5 : decode cX11_at 5 = .ok (.iadd, 1) := by decide +kernel
theorem dX11_at_6 : decode cX11_at 6 = .ok (.iload_n 1, 1) := by decide +kernel
theorem dX11_at_7 : decode cX11_at 7 = .ok (.iadd, 1) := by decide +kernel
theorem dX11_at_8 : decode cX11_at 8 = .ok (.ireturn, 1) := by decide +kernel
theorem dX11_its_0 : decode cX11_its 0 = .ok (.aload_n 0, 1) := by decide +kernel
theorem dX11_its_1 : decode cX11_its 1 = .ok (.getfield 7, 3) := by decide +kernel
theorem dX11_its_4 : decode cX11_its 4 = .ok (.iconst 4, 1) := by decide +kernel
theorem dX11_its_5 : decode cX11_its 5 = .ok (.bipush 6, 2) := by decide +kernel
theorem dX11_its_7 : decode cX11_its 7 = .ok (.iload_n 1, 1) := by decide +kernel
theorem dX11_its_8 : decode cX11_its 8 = .ok (.imul, 1) := by decide +kernel
theorem dX11_its_9 : decode cX11_its 9 = .ok (.iadd, 1) := by decide +kernel
theorem dX11_its_10 : decode cX11_its 10 = .ok (.iload_n 2, 1) := by decide +kernel
theorem dX11_its_11 : decode cX11_its 11 = .ok (.iadd, 1) := by decide +kernel
theorem dX11_its_12 : decode cX11_its 12 = .ok (.iaload, 1) := by decide +kernel
theorem dX11_its_13 : decode cX11_its 13 = .ok (.ireturn, 1) := by decide +kernel
theorem dX11_many_0 : decode cX11_many 0 = .ok (.iconst 0, 1) := by decide +kernel
theorem dX11_many_1 : decode cX11_many 1 = .ok (.istore_n 1, 1) := by decide +kernel
theorem dX11_many_2 : decode cX11_many 2 = .ok (.iload_n 0, 1) := by decide +kernel
theorem dX11_many_3 : decode cX11_many 3 = .ok (.istore_n 2, 1) := by decide +kernel
theorem dX11_many_4 : decode cX11_many 4 = .ok (.iload_n 2, 1) := by decide +kernel
theorem dX11_many_5 : decode cX11_many 5 = .ok (.ifCond .eq 15, 3) := by decide +kernel
theorem dX11_many_8 : decode cX11_many 8 = .ok (.iinc 1 1, 3) := by decide +kernel
theorem dX11_many_11 : decode cX11_many 11 = .ok (.iload_n 2, 1) := by decide +kernel
theorem dX11_many_12 : decode cX11_many 12 = .ok (.iload_n 2, 1) := by decide +kernel
theorem dX11_many_13 : decode cX11_many 13 = .ok (.iconst 1, 1) := by decide +kernel
theorem dX11_many_14 : decode cX11_many 14 = .ok (.isub, 1) := by decide +kernel
theorem dX11_many_15 : decode cX11_many 15 = .ok (.iand, 1) := by decide +kernel
theorem dX11_many_16 : decode cX11_many 16 = .ok (.istore_n 2, 1) := by decide +kernel
theorem dX11_many_17 : decode cX11_many 17 = .ok (.goto (-13), 3) := by decide +kernel
theorem dX11_many_20 : decode cX11_many 20 = .ok (.iload_n 1, 1) := by decide +kernel
theorem dX11_many_21 : decode cX11_many 21 = .ok (.ireturn, 1) := by decide +kernel
theorem dX11_orNone_0 : decode cX11_orNone 0 = .ok (.iload_n 1, 1) := by decide +kernel
theorem dX11_orNone_1 : decode cX11_orNone 1 = .ok (.ifCond .ge 12, 3) := by decide +kernel
theorem dX11_orNone_4 : decode cX11_orNone 4 = .ok (.aload_n 0, 1) := by decide +kernel
theorem dX11_orNone_5 : decode cX11_orNone 5 = .ok (.ldc 39, 2) := by decide +kernel
theorem dX11_orNone_7 : decode cX11_orNone 7 = .ok (.invokevirtual 40, 3) := by decide +kernel
theorem dX11_orNone_10 : decode cX11_orNone 10 = .ok (.goto 4, 3) := by decide +kernel
theorem dX11_orNone_13 : decode cX11_orNone 13 = .ok (.iload_n 1, 1) := by decide +kernel
theorem dX11_orNone_14 : decode cX11_orNone 14 = .ok (.ireturn, 1) := by decide +kernel
theorem dX11_first_0 : decode cX11_first 0 = .ok (.iconst 0, 1) := by decide +kernel
theorem dX11_first_1 : decode cX11_first 1 = .ok (.istore_n 1, 1) := by decide +kernel
theorem dX11_first_2 : decode cX11_first 2 = .ok (.iload_n 1, 1) := by decide +kernel
theorem dX11_first_3 : decode cX11_first 3 = .ok (.bipush 10, 2) := by decide +kernel
theorem dX11_first_5 : decode cX11_first 5 = .ok (.if_icmp .ge 17, 3) := by decide +kernel
theorem dX11_first_8 : decode cX11_first 8 = .ok (.iload_n 0, 1) := by decide +kernel
theorem dX11_first_9 : decode cX11_first 9 = .ok (.iload_n 1, 1) := by decide +kernel
theorem dX11_first_10 : decode cX11_first 10 = .ok (.ishr, 1) := by decide +kernel
theorem dX11_first_11 : decode cX11_first 11 = .ok (.iconst 1, 1) := by decide +kernel
theorem dX11_first_12 : decode cX11_first 12 = .ok (.iand, 1) := by decide +kernel
theorem dX11_first_13 : decode cX11_first 13 = .ok (.ifCond .ne 9, 3) := by decide +kernel
theorem dX11_first_16 : decode cX11_first 16 = .ok (.iinc 1 1, 3) := by decide +kernel
theorem dX11_first_19 : decode cX11_first 19 = .ok (.goto (-17), 3) := by decide +kernel
theorem dX11_first_22 : decode cX11_first 22 = .ok (.iload_n 1, 1) := by decide +kernel
theorem dX11_first_23 : decode cX11_first 23 = .ok (.bipush 10, 2) := by decide +kernel
theorem dX11_first_25 : decode cX11_first 25 = .ok (.if_icmp .ge 7, 3) := by decide +kernel
theorem dX11_first_28 : decode cX11_first 28 = .ok (.iload_n 1, 1) := by decide +kernel
theorem dX11_first_29 : decode cX11_first 29 = .ok (.goto 4, 3) := by decide +kernel
theorem dX11_first_32 : decode cX11_first 32 = .ok (.iconst (-1), 1) := by decide +kernel
theorem dX11_first_33 : decode cX11_first 33 = .ok (.ireturn, 1) := by decide +kernel
theorem dX11_last_0 : decode cX11_last 0 = .ok (.bipush 9, 2) := by decide +kernel
theorem dX11_last_2 : decode cX11_last 2 = .ok (.istore_n 1, 1) := by decide +kernel
theorem dX11_last_3 : decode cX11_last 3 = .ok (.iload_n 1, 1) := by decide +kernel
theorem dX11_last_4 : decode cX11_last 4 = .ok (.ifCond .lt 17, 3) := by decide +kernel
theorem dX11_last_7 : decode cX11_last 7 = .ok (.iload_n 0, 1) := by decide +kernel
theorem dX11_last_8 : decode cX11_last 8 = .ok (.iload_n 1, 1) := by decide +kernel
theorem dX11_last_9 : decode cX11_last 9 = .ok (.ishr, 1) := by decide +kernel
theorem dX11_last_10 : decode cX11_last 10 = .ok (.iconst 1, 1) := by decide +kernel
theorem dX11_last_11 : decode cX11_last 11 = .ok (.iand, 1) := by decide +kernel
theorem dX11_last_12 : decode cX11_last 12 = .ok (.ifCond .ne 9, 3) := by decide +kernel
theorem dX11_last_15 : decode cX11_last 15 = .ok (.iinc 1 (-1), 3) := by decide +kernel
theorem dX11_last_18 : decode cX11_last 18 = .ok (.goto (-15), 3) := by decide +kernel
theorem dX11_last_21 : decode cX11_last 21 = .ok (.iload_n 1, 1) := by decide +kernel
theorem dX11_last_22 : decode cX11_last 22 = .ok (.ireturn, 1) := by decide +kernel
theorem dX11_sham_0 : decode cX11_sham 0 = .ok (.iload_n 1, 1) := by decide +kernel
theorem dX11_sham_1 : decode cX11_sham 1 = .ok (.i2l, 1) := by decide +kernel
theorem dX11_sham_2 : decode cX11_sham 2 = .ok (.lconst 0, 1) := by decide +kernel
theorem dX11_sham_3 : decode cX11_sham 3 = .ok (.ldc2_w 44, 3) := by decide +kernel
theorem dX11_sham_6 : decode cX11_sham 6 = .ok (.invokestatic 46, 3) := by decide +kernel
theorem dX11_sham_9 : decode cX11_sham 9 = .ok (.ifCond .eq 12, 3) := by decide +kernel
theorem dX11_sham_12 : decode cX11_sham 12 = .ok (.aload_n 0, 1) := by decide +kernel
theorem dX11_sham_13 : decode cX11_sham 13 = .ok (.iconst 2, 1) := by decide +kernel
theorem dX11_sham_14 : decode cX11_sham 14 = .ok (.iload_n 1, 1) := by decide +kernel
theorem dX11_sham_15 : decode cX11_sham 15 = .ok (.invokevirtual 50, 3) := by decide +kernel
theorem dX11_sham_18 : decode cX11_sham 18 = .ok (.goto 9, 3) := by decide +kernel
theorem dX11_sham_21 : decode cX11_sham 21 = .ok (.aload_n 0, 1) := by decide +kernel
theorem dX11_sham_22 : decode cX11_sham 22 = .ok (.ldc 38, 2) := by decide +kernel
theorem dX11_sham_24 : decode cX11_sham 24 = .ok (.invokevirtual 40, 3) := by decide +kernel
theorem dX11_sham_27 : decode cX11_sham 27 = .ok (.ireturn, 1) := by decide +kernel
theorem dX11_who_0 : decode cX11_who 0 = .ok (.iload_n 1, 1) := by decide +kernel
theorem dX11_who_1 : decode cX11_who 1 = .ok (.invokestatic 54, 3) := by decide +kernel
theorem dX11_who_4 : decode cX11_who 4 = .ok (.ifCond .eq 13, 3) := by decide +kernel
theorem dX11_who_7 : decode cX11_who 7 = .ok (.iload_n 2, 1) := by decide +kernel
theorem dX11_who_8 : decode cX11_who 8 = .ok (.i2l, 1) := by decide +kernel
theorem dX11_who_9 : decode cX11_who 9 = .ok (.lconst 0, 1) := by decide +kernel
theorem dX11_who_10 : decode cX11_who 10 = .ok (.lconst 1, 1) := by decide +kernel
theorem dX11_who_11 : decode cX11_who 11 = .ok (.invokestatic 46, 3) := by decide +kernel
theorem dX11_who_14 : decode cX11_who 14 = .ok (.ifCond .ne 10, 3) := by decide +kernel
theorem dX11_who_17 : decode cX11_who 17 = .ok (.aload_n 0, 1) := by decide +kernel
theorem dX11_who_18 : decode cX11_who 18 = .ok (.ldc 38, 2) := by decide +kernel
theorem dX11_who_20 : decode cX11_who 20 = .ok (.invokevirtual 40, 3) := by decide +kernel
theorem dX11_who_23 : decode cX11_who 23 = .ok (.ireturn, 1) := by decide +kernel
theorem dX11_who_24 : decode cX11_who 24 = .ok (.iconst 0, 1) := by decide +kernel
theorem dX11_who_25 : decode cX11_who 25 = .ok (.istore_n 3, 1) := by decide +kernel
theorem dX11_who_26 : decode cX11_who 26 = .ok (.iconst 0, 1) := by decide +kernel
theorem dX11_who_27 : decode cX11_who 27 = .ok (.istore 4, 2) := by decide +kernel
theorem dX11_who_29 : decode cX11_who 29 = .ok (.iload 4, 2) := by decide +kernel
theorem dX11_who_31 : decode cX11_who 31 = .ok (.aload_n 0, 1) := by decide +kernel
theorem dX11_who_32 : decode cX11_who 32 = .ok (.getfield 7, 3) := by decide +kernel
theorem dX11_who_35 : decode cX11_who 35 = .ok (.iconst 0, 1) := by decide +kernel
theorem dX11_who_36 : decode cX11_who 36 = .ok (.iaload, 1) := by decide +kernel
theorem dX11_who_37 : decode cX11_who 37 = .ok (.if_icmp .ge 34, 3) := by decide +kernel
theorem dX11_who_40 : decode cX11_who 40 = .ok (.iload_n 3, 1) := by decide +kernel
theorem dX11_who_41 : decode cX11_who 41 = .ok (.aload_n 0, 1) := by decide +kernel
theorem dX11_who_42 : decode cX11_who 42 = .ok (.iload 4, 2) := by decide +kernel
theorem dX11_who_44 : decode cX11_who 44 = .ok (.iload_n 2, 1) := by decide +kernel
theorem dX11_who_45 : decode cX11_who 45 = .ok (.ifCond .ne 7, 3) := by decide +kernel
theorem dX11_who_48 : decode cX11_who 48 = .ok (.iconst 1, 1) := by decide +kernel
theorem dX11_who_49 : decode cX11_who 49 = .ok (.goto 4, 3) := by decide +kernel
theorem dX11_who_52 : decode cX11_who 52 = .ok (.iconst 2, 1) := by decide +kernel
theorem dX11_who_53 : decode cX11_who 53 = .ok (.invokevirtual 58, 3) := by decide +kernel
theorem dX11_who_56 : decode cX11_who 56 = .ok (.iload_n 1, 1) := by decide +kernel
theorem dX11_who_57 : decode cX11_who 57 = .ok (.ishr, 1) := by decide +kernel
theorem dX11_who_58 : decode cX11_who 58 = .ok (.iconst 1, 1) := by decide +kernel
theorem dX11_who_59 : decode cX11_who 59 = .ok (.iand, 1) := by decide +kernel
theorem dX11_who_60 : decode cX11_who 60 = .ok (.iload 4, 2) := by decide +kernel
theorem dX11_who_62 : decode cX11_who 62 = .ok (.ishl, 1) := by decide +kernel
theorem dX11_who_63 : decode cX11_who 63 = .ok (.ior, 1) := by decide +kernel
theorem dX11_who_64 : decode cX11_who 64 = .ok (.istore_n 3, 1) := by decide +kernel
theorem dX11_who_65 : decode cX11_who 65 = .ok (.iinc 4 1, 3) := by decide +kernel
theorem dX11_who_68 : decode cX11_who 68 = .ok (.goto (-39), 3) := by decide +kernel
theorem dX11_who_71 : decode cX11_who 71 = .ok (.iload_n 3, 1) := by decide +kernel
theorem dX11_who_72 : decode cX11_who 72 = .ok (.ireturn, 1) := by decide +kernel
theorem dX11_comes_0 : decode cX11_comes 0 = .ok (.aload_n 0, 1) := by decide +kernel
theorem dX11_comes_1 : decode cX11_comes 1 = .ok (.getfield 7, 3) := by decide +kernel
theorem dX11_comes_4 : decode cX11_comes 4 = .ok (.iconst 0, 1) := by decide +kernel
theorem dX11_comes_5 : decode cX11_comes 5 = .ok (.iaload, 1) := by decide +kernel
theorem dX11_comes_6 : decode cX11_comes 6 = .ok (.istore_n 2, 1) := by decide +kernel
theorem dX11_comes_7 : decode cX11_comes 7 = .ok (.aload_n 0, 1) := by decide +kernel
theorem dX11_comes_8 : decode cX11_comes 8 = .ok (.getfield 7, 3) := by decide +kernel
theorem dX11_comes_11 : decode cX11_comes 11 = .ok (.iload_n 2, 1) := by decide +kernel
theorem dX11_comes_12 : decode cX11_comes 12 = .ok (.iconst 0, 1) := by decide +kernel
theorem dX11_comes_13 : decode cX11_comes 13 = .ok (.invokestatic 61, 3) := by decide +kernel
theorem dX11_comes_16 : decode cX11_comes 16 = .ok (.iload_n 1, 1) := by decide +kernel
theorem dX11_comes_17 : decode cX11_comes 17 = .ok (.iastore, 1) := by decide +kernel
theorem dX11_comes_18 : decode cX11_comes 18 = .ok (.aload_n 0, 1) := by decide +kernel
theorem dX11_comes_19 : decode cX11_comes 19 = .ok (.getfield 7, 3) := by decide +kernel
theorem dX11_comes_22 : decode cX11_comes 22 = .ok (.iload_n 2, 1) := by decide +kernel
theorem dX11_comes_23 : decode cX11_comes 23 = .ok (.iconst 1, 1) := by decide +kernel
theorem dX11_comes_24 : decode cX11_comes 24 = .ok (.invokestatic 61, 3) := by decide +kernel
theorem dX11_comes_27 : decode cX11_comes 27 = .ok (.iconst 0, 1) := by decide +kernel
theorem dX11_comes_28 : decode cX11_comes 28 = .ok (.iastore, 1) := by decide +kernel
theorem dX11_comes_29 : decode cX11_comes 29 = .ok (.aload_n 0, 1) := by decide +kernel
theorem dX11_comes_30 : decode cX11_comes 30 = .ok (.getfield 7, 3) := by decide +kernel
theorem dX11_comes_33 : decode cX11_comes 33 = .ok (.iload_n 2, 1) := by decide +kernel
theorem dX11_comes_34 : decode cX11_comes 34 = .ok (.iconst 2, 1) := by decide +kernel
theorem dX11_comes_35 : decode cX11_comes 35 = .ok (.invokestatic 61, 3) := by decide +kernel
theorem dX11_comes_38 : decode cX11_comes 38 = .ok (.iconst 0, 1) := by decide +kernel
theorem dX11_comes_39 : decode cX11_comes 39 = .ok (.iastore, 1) := by decide +kernel
theorem dX11_comes_40 : decode cX11_comes 40 = .ok (.aload_n 0, 1) := by decide +kernel
theorem dX11_comes_41 : decode cX11_comes 41 = .ok (.getfield 7, 3) := by decide +kernel
theorem dX11_comes_44 : decode cX11_comes 44 = .ok (.iload_n 2, 1) := by decide +kernel
theorem dX11_comes_45 : decode cX11_comes 45 = .ok (.iconst 3, 1) := by decide +kernel
theorem dX11_comes_46 : decode cX11_comes 46 = .ok (.invokestatic 61, 3) := by decide +kernel
theorem dX11_comes_49 : decode cX11_comes 49 = .ok (.iconst (-1), 1) := by decide +kernel
theorem dX11_comes_50 : decode cX11_comes 50 = .ok (.iastore, 1) := by decide +kernel
theorem dX11_comes_51 : decode cX11_comes 51 = .ok (.aload_n 0, 1) := by decide +kernel
theorem dX11_comes_52 : decode cX11_comes 52 = .ok (.getfield 7, 3) := by decide +kernel
theorem dX11_comes_55 : decode cX11_comes 55 = .ok (.iload_n 2, 1) := by decide +kernel
theorem dX11_comes_56 : decode cX11_comes 56 = .ok (.iconst 4, 1) := by decide +kernel
theorem dX11_comes_57 : decode cX11_comes 57 = .ok (.invokestatic 61, 3) := by decide +kernel
theorem dX11_comes_60 : decode cX11_comes 60 = .ok (.iconst 0, 1) := by decide +kernel
theorem dX11_comes_61 : decode cX11_comes 61 = .ok (.iastore, 1) := by decide +kernel
theorem dX11_comes_62 : decode cX11_comes 62 = .ok (.aload_n 0, 1) := by decide +kernel
theorem dX11_comes_63 : decode cX11_comes 63 = .ok (.getfield 7, 3) := by decide +kernel
theorem dX11_comes_66 : decode cX11_comes 66 = .ok (.iload_n 2, 1) := by decide +kernel
theorem dX11_comes_67 : decode cX11_comes 67 = .ok (.iconst 5, 1) := by decide +kernel
theorem dX11_comes_68 : decode cX11_comes 68 = .ok (.invokestatic 61, 3) := by decide +kernel
theorem dX11_comes_71 : decode cX11_comes 71 = .ok (.iconst 0, 1) := by decide +kernel
theorem dX11_comes_72 : decode cX11_comes 72 = .ok (.iastore, 1) := by decide +kernel
theorem dX11_comes_73 : decode cX11_comes 73 = .ok (.aload_n 0, 1) := by decide +kernel
theorem dX11_comes_74 : decode cX11_comes 74 = .ok (.getfield 7, 3) := by decide +kernel
theorem dX11_comes_77 : decode cX11_comes 77 = .ok (.iconst 0, 1) := by decide +kernel
theorem dX11_comes_78 : decode cX11_comes 78 = .ok (.dup2, 1) := by decide +kernel
theorem dX11_comes_79 : decode cX11_comes 79 = .ok (.iaload, 1) := by decide +kernel
theorem dX11_comes_80 : decode cX11_comes 80 = .ok (.iconst 1, 1) := by decide +kernel
theorem dX11_comes_81 : decode cX11_comes 81 = .ok (.iadd, 1) := by decide +kernel
theorem dX11_comes_82 : decode cX11_comes 82 = .ok (.iastore, 1) := by decide +kernel
theorem dX11_comes_83 : decode cX11_comes 83 = .ok (.return_, 1) := by decide +kernel
theorem dX11_person_0 : decode cX11_person 0 = .ok (.iload_n 1, 1) := by decide +kernel
theorem dX11_person_1 : decode cX11_person 1 = .ok (.i2l, 1) := by decide +kernel
theorem dX11_person_2 : decode cX11_person 2 = .ok (.lconst 0, 1) := by decide +kernel
theorem dX11_person_3 : decode cX11_person 3 = .ok (.ldc2_w 64, 3) := by decide +kernel
theorem dX11_person_6 : decode cX11_person 6 = .ok (.invokestatic 46, 3) := by decide +kernel
theorem dX11_person_9 : decode cX11_person 9 = .ok (.ifCond .ne 10, 3) := by decide +kernel
theorem dX11_person_12 : decode cX11_person 12 = .ok (.aload_n 0, 1) := by decide +kernel
theorem dX11_person_13 : decode cX11_person 13 = .ok (.ldc 38, 2) := by decide +kernel
theorem dX11_person_15 : decode cX11_person 15 = .ok (.invokevirtual 40, 3) := by decide +kernel
theorem dX11_person_18 : decode cX11_person 18 = .ok (.ireturn, 1) := by decide +kernel
theorem dX11_person_19 : decode cX11_person 19 = .ok (.aload_n 0, 1) := by decide +kernel
theorem dX11_person_20 : decode cX11_person 20 = .ok (.getfield 7, 3) := by decide +kernel
theorem dX11_person_23 : decode cX11_person 23 = .ok (.iconst 0, 1) := by decide +kernel
theorem dX11_person_24 : decode cX11_person 24 = .ok (.iaload, 1) := by decide +kernel
theorem dX11_person_25 : decode cX11_person 25 = .ok (.bipush 8, 2) := by decide +kernel
theorem dX11_person_27 : decode cX11_person 27 = .ok (.if_icmp .ne 10, 3) := by decide +kernel
theorem dX11_person_30 : decode cX11_person 30 = .ok (.aload_n 0, 1) := by decide +kernel
theorem dX11_person_31 : decode cX11_person 31 = .ok (.ldc 66, 2) := by decide +kernel
theorem dX11_person_33 : decode cX11_person 33 = .ok (.invokevirtual 40, 3) := by decide +kernel
theorem dX11_person_36 : decode cX11_person 36 = .ok (.ireturn, 1) := by decide +kernel
theorem dX11_person_37 : decode cX11_person 37 = .ok (.aload_n 0, 1) := by decide +kernel
theorem dX11_person_38 : decode cX11_person 38 = .ok (.iload_n 1, 1) := by decide +kernel
theorem dX11_person_39 : decode cX11_person 39 = .ok (.invokevirtual 67, 3) := by decide +kernel
theorem dX11_person_42 : decode cX11_person 42 = .ok (.aload_n 0, 1) := by decide +kernel
theorem dX11_person_43 : decode cX11_person 43 = .ok (.getfield 7, 3) := by decide +kernel
theorem dX11_person_46 : decode cX11_person 46 = .ok (.iconst 0, 1) := by decide +kernel
theorem dX11_person_47 : decode cX11_person 47 = .ok (.iaload, 1) := by decide +kernel
theorem dX11_person_48 : decode cX11_person 48 = .ok (.iconst 1, 1) := by decide +kernel
theorem dX11_person_49 : decode cX11_person 49 = .ok (.isub, 1) := by decide +kernel
theorem dX11_person_50 : decode cX11_person 50 = .ok (.ireturn, 1) := by decide +kernel
theorem dX11_saysPlain_0 : decode cX11_saysPlain 0 = .ok (.aload_n 0, 1) := by decide +kernel
theorem dX11_saysPlain_1 : decode cX11_saysPlain 1 = .ok (.iload_n 1, 1) := by decide +kernel
theorem dX11_saysPlain_2 : decode cX11_saysPlain 2 = .ok (.iconst 2, 1) := by decide +kernel
theorem dX11_saysPlain_3 : decode cX11_saysPlain 3 = .ok (.invokevirtual 58, 3) := by decide +kernel
theorem dX11_saysPlain_6 : decode cX11_saysPlain 6 = .ok (.ifCond .eq 15, 3) := by decide +kernel
theorem dX11_saysPlain_9 : decode cX11_saysPlain 9 = .ok (.aload_n 0, 1) := by decide +kernel
theorem dX11_saysPlain_10 : decode cX11_saysPlain 10 = .ok (.iload_n 1, 1) := by decide +kernel
theorem dX11_saysPlain_11 : decode cX11_saysPlain 11 = .ok (.iconst 2, 1) := by decide +kernel
theorem dX11_saysPlain_12 : decode cX11_saysPlain 12 = .ok (.invokevirtual 58, 3) := by decide +kernel
theorem dX11_saysPlain_15 : decode cX11_saysPlain 15 = .ok (.invokestatic 71, 3) := by decide +kernel
theorem dX11_saysPlain_18 : decode cX11_saysPlain 18 = .ok (.goto 12, 3) := by decide +kernel
theorem dX11_saysPlain_21 : decode cX11_saysPlain 21 = .ok (.aload_n 0, 1) := by decide +kernel
theorem dX11_saysPlain_22 : decode cX11_saysPlain 22 = .ok (.iload_n 1, 1) := by decide +kernel
theorem dX11_saysPlain_23 : decode cX11_saysPlain 23 = .ok (.iconst 1, 1) := by decide +kernel
theorem dX11_saysPlain_24 : decode cX11_saysPlain 24 = .ok (.invokevirtual 58, 3) := by decide +kernel
theorem dX11_saysPlain_27 : decode cX11_saysPlain 27 = .ok (.invokestatic 71, 3) := by decide +kernel
theorem dX11_saysPlain_30 : decode cX11_saysPlain 30 = .ok (.ireturn, 1) := by decide +kernel
theorem dX11_says_0 : decode cX11_says 0 = .ok (.aload_n 0, 1) := by decide +kernel
theorem dX11_says_1 : decode cX11_says 1 = .ok (.getfield 7, 3) := by decide +kernel
theorem dX11_says_4 : decode cX11_says 4 = .ok (.iconst 1, 1) := by decide +kernel
theorem dX11_says_5 : decode cX11_says 5 = .ok (.iaload, 1) := by decide +kernel
theorem dX11_says_6 : decode cX11_says 6 = .ok (.bipush 24, 2) := by decide +kernel
theorem dX11_says_8 : decode cX11_says 8 = .ok (.irem, 1) := by decide +kernel
theorem dX11_says_9 : decode cX11_says 9 = .ok (.istore_n 2, 1) := by decide +kernel
theorem dX11_says_10 : decode cX11_says 10 = .ok (.iload_n 2, 1) := by decide +kernel
theorem dX11_says_11 : decode cX11_says 11 = .ok (.bipush 22, 2) := by decide +kernel
theorem dX11_says_13 : decode cX11_says 13 = .ok (.if_icmp .lt 5, 3) := by decide +kernel
theorem dX11_says_16 : decode cX11_says 16 = .ok (.iconst (-1), 1) := by decide +kernel
theorem dX11_says_17 : decode cX11_says 17 = .ok (.ireturn, 1) := by decide +kernel
theorem dX11_says_18 : decode cX11_says 18 = .ok (.aload_n 0, 1) := by decide +kernel
theorem dX11_says_19 : decode cX11_says 19 = .ok (.iload_n 1, 1) := by decide +kernel
theorem dX11_says_20 : decode cX11_says 20 = .ok (.iconst 0, 1) := by decide +kernel
theorem dX11_says_21 : decode cX11_says 21 = .ok (.invokevirtual 58, 3) := by decide +kernel
theorem dX11_says_24 : decode cX11_says 24 = .ok (.tableswitch 112 1 5 #[36, 46, 73, 75, 95], 36) := by decide +kernel
theorem dX11_says_60 : decode cX11_says 60 = .ok (.aload_n 0, 1) := by decide +kernel
theorem dX11_says_61 : decode cX11_says 61 = .ok (.iload_n 1, 1) := by decide +kernel
theorem dX11_says_62 : decode cX11_says 62 = .ok (.iconst 1, 1) := by decide +kernel
theorem dX11_says_63 : decode cX11_says 63 = .ok (.invokevirtual 58, 3) := by decide +kernel
theorem dX11_says_66 : decode cX11_says 66 = .ok (.invokestatic 74, 3) := by decide +kernel
theorem dX11_says_69 : decode cX11_says 69 = .ok (.ireturn, 1) := by decide +kernel
theorem dX11_says_70 : decode cX11_says 70 = .ok (.aload_n 0, 1) := by decide +kernel
theorem dX11_says_71 : decode cX11_says 71 = .ok (.getfield 7, 3) := by decide +kernel
theorem dX11_says_74 : decode cX11_says 74 = .ok (.iconst 2, 1) := by decide +kernel
theorem dX11_says_75 : decode cX11_says 75 = .ok (.iaload, 1) := by decide +kernel
theorem dX11_says_76 : decode cX11_says 76 = .ok (.ifCond .eq 15, 3) := by decide +kernel
theorem dX11_says_79 : decode cX11_says 79 = .ok (.aload_n 0, 1) := by decide +kernel
theorem dX11_says_80 : decode cX11_says 80 = .ok (.getfield 7, 3) := by decide +kernel
theorem dX11_says_83 : decode cX11_says 83 = .ok (.iconst 2, 1) := by decide +kernel
theorem dX11_says_84 : decode cX11_says 84 = .ok (.iaload, 1) := by decide +kernel
theorem dX11_says_85 : decode cX11_says 85 = .ok (.invokestatic 71, 3) := by decide +kernel
theorem dX11_says_88 : decode cX11_says 88 = .ok (.goto 8, 3) := by decide +kernel
theorem dX11_says_91 : decode cX11_says 91 = .ok (.aload_n 0, 1) := by decide +kernel
theorem dX11_says_92 : decode cX11_says 92 = .ok (.iload_n 1, 1) := by decide +kernel
theorem dX11_says_93 : decode cX11_says 93 = .ok (.invokevirtual 77, 3) := by decide +kernel
theorem dX11_says_96 : decode cX11_says 96 = .ok (.ireturn, 1) := by decide +kernel
theorem dX11_says_97 : decode cX11_says 97 = .ok (.iconst (-1), 1) := by decide +kernel
theorem dX11_says_98 : decode cX11_says 98 = .ok (.ireturn, 1) := by decide +kernel
theorem dX11_says_99 : decode cX11_says 99 = .ok (.iload_n 2, 1) := by decide +kernel
theorem dX11_says_100 : decode cX11_says 100 = .ok (.bipush 12, 2) := by decide +kernel
theorem dX11_says_102 : decode cX11_says 102 = .ok (.if_icmp .ge 7, 3) := by decide +kernel
theorem dX11_says_105 : decode cX11_says 105 = .ok (.iconst (-1), 1) := by decide +kernel
theorem dX11_says_106 : decode cX11_says 106 = .ok (.goto 12, 3) := by decide +kernel
theorem dX11_says_109 : decode cX11_says 109 = .ok (.aload_n 0, 1) := by decide +kernel
theorem dX11_says_110 : decode cX11_says 110 = .ok (.iload_n 1, 1) := by decide +kernel
theorem dX11_says_111 : decode cX11_says 111 = .ok (.iconst 1, 1) := by decide +kernel
theorem dX11_says_112 : decode cX11_says 112 = .ok (.invokevirtual 58, 3) := by decide +kernel
theorem dX11_says_115 : decode cX11_says 115 = .ok (.invokestatic 74, 3) := by decide +kernel
theorem dX11_says_118 : decode cX11_says 118 = .ok (.ireturn, 1) := by decide +kernel
theorem dX11_says_119 : decode cX11_says 119 = .ok (.iload_n 2, 1) := by decide +kernel
theorem dX11_says_120 : decode cX11_says 120 = .ok (.bipush 6, 2) := by decide +kernel
theorem dX11_says_122 : decode cX11_says 122 = .ok (.irem, 1) := by decide +kernel
theorem dX11_says_123 : decode cX11_says 123 = .ok (.ifCond .ne 11, 3) := by decide +kernel
theorem dX11_says_126 : decode cX11_says 126 = .ok (.aload_n 0, 1) := by decide +kernel
theorem dX11_says_127 : decode cX11_says 127 = .ok (.iload_n 1, 1) := by decide +kernel
theorem dX11_says_128 : decode cX11_says 128 = .ok (.invokevirtual 77, 3) := by decide +kernel
theorem dX11_says_131 : decode cX11_says 131 = .ok (.goto 4, 3) := by decide +kernel
theorem dX11_says_134 : decode cX11_says 134 = .ok (.iconst (-1), 1) := by decide +kernel
theorem dX11_says_135 : decode cX11_says 135 = .ok (.ireturn, 1) := by decide +kernel
theorem dX11_says_136 : decode cX11_says 136 = .ok (.aload_n 0, 1) := by decide +kernel
theorem dX11_says_137 : decode cX11_says 137 = .ok (.iload_n 1, 1) := by decide +kernel
theorem dX11_says_138 : decode cX11_says 138 = .ok (.invokevirtual 77, 3) := by decide +kernel
theorem dX11_says_141 : decode cX11_says 141 = .ok (.ireturn, 1) := by decide +kernel
theorem dX11_isTrusted_0 : decode cX11_isTrusted 0 = .ok (.aload_n 0, 1) := by decide +kernel
theorem dX11_isTrusted_1 : decode cX11_isTrusted 1 = .ok (.getfield 7, 3) := by decide +kernel
theorem dX11_isTrusted_4 : decode cX11_isTrusted 4 = .ok (.iconst 2, 1) := by decide +kernel
theorem dX11_isTrusted_5 : decode cX11_isTrusted 5 = .ok (.iaload, 1) := by decide +kernel
theorem dX11_isTrusted_6 : decode cX11_isTrusted 6 = .ok (.iload_n 2, 1) := by decide +kernel
theorem dX11_isTrusted_7 : decode cX11_isTrusted 7 = .ok (.ishr, 1) := by decide +kernel
theorem dX11_isTrusted_8 : decode cX11_isTrusted 8 = .ok (.iconst 1, 1) := by decide +kernel
theorem dX11_isTrusted_9 : decode cX11_isTrusted 9 = .ok (.iand, 1) := by decide +kernel
theorem dX11_isTrusted_10 : decode cX11_isTrusted 10 = .ok (.ifCond .ne 7, 3) := by decide +kernel
theorem dX11_isTrusted_13 : decode cX11_isTrusted 13 = .ok (.iconst 1, 1) := by decide +kernel
theorem dX11_isTrusted_14 : decode cX11_isTrusted 14 = .ok (.goto 4, 3) := by decide +kernel
theorem dX11_isTrusted_17 : decode cX11_isTrusted 17 = .ok (.iconst 0, 1) := by decide +kernel
theorem dX11_isTrusted_18 : decode cX11_isTrusted 18 = .ok (.istore_n 3, 1) := by decide +kernel
theorem dX11_isTrusted_19 : decode cX11_isTrusted 19 = .ok (.aload_n 0, 1) := by decide +kernel
theorem dX11_isTrusted_20 : decode cX11_isTrusted 20 = .ok (.iload_n 1, 1) := by decide +kernel
theorem dX11_isTrusted_21 : decode cX11_isTrusted 21 = .ok (.iconst 1, 1) := by decide +kernel
theorem dX11_isTrusted_22 : decode cX11_isTrusted 22 = .ok (.invokevirtual 58, 3) := by decide +kernel
theorem dX11_isTrusted_25 : decode cX11_isTrusted 25 = .ok (.invokestatic 80, 3) := by decide +kernel
theorem dX11_isTrusted_28 : decode cX11_isTrusted 28 = .ok (.istore 4, 2) := by decide +kernel
theorem dX11_isTrusted_30 : decode cX11_isTrusted 30 = .ok (.aload_n 0, 1) := by decide +kernel
theorem dX11_isTrusted_31 : decode cX11_isTrusted 31 = .ok (.iload_n 1, 1) := by decide +kernel
theorem dX11_isTrusted_32 : decode cX11_isTrusted 32 = .ok (.iconst 0, 1) := by decide +kernel
theorem dX11_isTrusted_33 : decode cX11_isTrusted 33 = .ok (.invokevirtual 58, 3) := by decide +kernel
theorem dX11_isTrusted_36 : decode cX11_isTrusted 36 = .ok (.tableswitch 62 1 5 #[36, 38, 40, 36, 38], 36) := by decide +kernel
theorem dX11_isTrusted_72 : decode cX11_isTrusted 72 = .ok (.iconst 1, 1) := by decide +kernel
theorem dX11_isTrusted_73 : decode cX11_isTrusted 73 = .ok (.ireturn, 1) := by decide +kernel
theorem dX11_isTrusted_74 : decode cX11_isTrusted 74 = .ok (.iload_n 3, 1) := by decide +kernel
theorem dX11_isTrusted_75 : decode cX11_isTrusted 75 = .ok (.ireturn, 1) := by decide +kernel
theorem dX11_isTrusted_76 : decode cX11_isTrusted 76 = .ok (.iload_n 3, 1) := by decide +kernel
theorem dX11_isTrusted_77 : decode cX11_isTrusted 77 = .ok (.ifCond .ne 15, 3) := by decide +kernel
theorem dX11_isTrusted_80 : decode cX11_isTrusted 80 = .ok (.iload 4, 2) := by decide +kernel
theorem dX11_isTrusted_82 : decode cX11_isTrusted 82 = .ok (.iconst 3, 1) := by decide +kernel
theorem dX11_isTrusted_83 : decode cX11_isTrusted 83 = .ok (.if_icmp .lt 9, 3) := by decide +kernel
theorem dX11_isTrusted_86 : decode cX11_isTrusted 86 = .ok (.iload 4, 2) := by decide +kernel
theorem dX11_isTrusted_88 : decode cX11_isTrusted 88 = .ok (.iconst 5, 1) := by decide +kernel
theorem dX11_isTrusted_89 : decode cX11_isTrusted 89 = .ok (.if_icmp .lt 7, 3) := by decide +kernel
theorem dX11_isTrusted_92 : decode cX11_isTrusted 92 = .ok (.iconst 1, 1) := by decide +kernel
theorem dX11_isTrusted_93 : decode cX11_isTrusted 93 = .ok (.goto 4, 3) := by decide +kernel
theorem dX11_isTrusted_96 : decode cX11_isTrusted 96 = .ok (.iconst 0, 1) := by decide +kernel
theorem dX11_isTrusted_97 : decode cX11_isTrusted 97 = .ok (.ireturn, 1) := by decide +kernel
theorem dX11_isTrusted_98 : decode cX11_isTrusted 98 = .ok (.iload_n 3, 1) := by decide +kernel
theorem dX11_isTrusted_99 : decode cX11_isTrusted 99 = .ok (.ifCond .ne 9, 3) := by decide +kernel
theorem dX11_isTrusted_102 : decode cX11_isTrusted 102 = .ok (.iload 4, 2) := by decide +kernel
theorem dX11_isTrusted_104 : decode cX11_isTrusted 104 = .ok (.iconst 3, 1) := by decide +kernel
theorem dX11_isTrusted_105 : decode cX11_isTrusted 105 = .ok (.if_icmp .ge 7, 3) := by decide +kernel
theorem dX11_isTrusted_108 : decode cX11_isTrusted 108 = .ok (.iconst 1, 1) := by decide +kernel
theorem dX11_isTrusted_109 : decode cX11_isTrusted 109 = .ok (.goto 4, 3) := by decide +kernel
theorem dX11_isTrusted_112 : decode cX11_isTrusted 112 = .ok (.iconst 0, 1) := by decide +kernel
theorem dX11_isTrusted_113 : decode cX11_isTrusted 113 = .ok (.ireturn, 1) := by decide +kernel
theorem dX11_stays_0 : decode cX11_stays 0 = .ok (.aload_n 0, 1) := by decide +kernel
theorem dX11_stays_1 : decode cX11_stays 1 = .ok (.iload_n 1, 1) := by decide +kernel
theorem dX11_stays_2 : decode cX11_stays 2 = .ok (.iconst 0, 1) := by decide +kernel
theorem dX11_stays_3 : decode cX11_stays 3 = .ok (.invokevirtual 58, 3) := by decide +kernel
theorem dX11_stays_6 : decode cX11_stays 6 = .ok (.tableswitch 56 1 5 #[34, 36, 39, 42, 39], 34) := by decide +kernel
theorem dX11_stays_40 : decode cX11_stays 40 = .ok (.iconst 4, 1) := by decide +kernel
theorem dX11_stays_41 : decode cX11_stays 41 = .ok (.ireturn, 1) := by decide +kernel
theorem dX11_stays_42 : decode cX11_stays 42 = .ok (.bipush 9, 2) := by decide +kernel
theorem dX11_stays_44 : decode cX11_stays 44 = .ok (.ireturn, 1) := by decide +kernel
theorem dX11_stays_45 : decode cX11_stays 45 = .ok (.bipush 6, 2) := by decide +kernel
theorem dX11_stays_47 : decode cX11_stays 47 = .ok (.ireturn, 1) := by decide +kernel
theorem dX11_stays_48 : decode cX11_stays 48 = .ok (.iconst 4, 1) := by decide +kernel
theorem dX11_stays_49 : decode cX11_stays 49 = .ok (.aload_n 0, 1) := by decide +kernel
theorem dX11_stays_50 : decode cX11_stays 50 = .ok (.iload_n 1, 1) := by decide +kernel
theorem dX11_stays_51 : decode cX11_stays 51 = .ok (.iconst 1, 1) := by decide +kernel
theorem dX11_stays_52 : decode cX11_stays 52 = .ok (.invokevirtual 58, 3) := by decide +kernel
theorem dX11_stays_55 : decode cX11_stays 55 = .ok (.invokestatic 80, 3) := by decide +kernel
theorem dX11_stays_58 : decode cX11_stays 58 = .ok (.iconst 4, 1) := by decide +kernel
theorem dX11_stays_59 : decode cX11_stays 59 = .ok (.idiv, 1) := by decide +kernel
theorem dX11_stays_60 : decode cX11_stays 60 = .ok (.iadd, 1) := by decide +kernel
theorem dX11_stays_61 : decode cX11_stays 61 = .ok (.ireturn, 1) := by decide +kernel
theorem dX11_stays_62 : decode cX11_stays 62 = .ok (.iconst 3, 1) := by decide +kernel
theorem dX11_stays_63 : decode cX11_stays 63 = .ok (.ireturn, 1) := by decide +kernel
theorem dX11_of_0 : decode cX11_of 0 = .ok (.aload_n 0, 1) := by decide +kernel
theorem dX11_of_1 : decode cX11_of 1 = .ok (.iload_n 1, 1) := by decide +kernel
theorem dX11_of_2 : decode cX11_of 2 = .ok (.invokevirtual 83, 3) := by decide +kernel
theorem dX11_of_5 : decode cX11_of 5 = .ok (.ifCond .eq 15, 3) := by decide +kernel
theorem dX11_of_8 : decode cX11_of 8 = .ok (.iload_n 2, 1) := by decide +kernel
theorem dX11_of_9 : decode cX11_of 9 = .ok (.i2l, 1) := by decide +kernel
theorem dX11_of_10 : decode cX11_of 10 = .ok (.lconst 0, 1) := by decide +kernel
theorem dX11_of_11 : decode cX11_of 11 = .ok (.ldc2_w 86, 3) := by decide +kernel
theorem dX11_of_14 : decode cX11_of 14 = .ok (.invokestatic 46, 3) := by decide +kernel
theorem dX11_of_17 : decode cX11_of 17 = .ok (.ifCond .ne 10, 3) := by decide +kernel
theorem dX11_of_20 : decode cX11_of 20 = .ok (.aload_n 0, 1) := by decide +kernel
theorem dX11_of_21 : decode cX11_of 21 = .ok (.ldc 38, 2) := by decide +kernel
theorem dX11_of_23 : decode cX11_of 23 = .ok (.invokevirtual 40, 3) := by decide +kernel
theorem dX11_of_26 : decode cX11_of 26 = .ok (.ireturn, 1) := by decide +kernel
theorem dX11_of_27 : decode cX11_of 27 = .ok (.iload_n 2, 1) := by decide +kernel
theorem dX11_of_28 : decode cX11_of 28 = .ok (.bipush 6, 2) := by decide +kernel
theorem dX11_of_30 : decode cX11_of 30 = .ok (.if_icmp .ne 11, 3) := by decide +kernel
theorem dX11_of_33 : decode cX11_of 33 = .ok (.aload_n 0, 1) := by decide +kernel
theorem dX11_of_34 : decode cX11_of 34 = .ok (.iload_n 1, 1) := by decide +kernel
theorem dX11_of_35 : decode cX11_of 35 = .ok (.invokevirtual 88, 3) := by decide +kernel
theorem dX11_of_38 : decode cX11_of 38 = .ok (.goto 23, 3) := by decide +kernel
theorem dX11_of_41 : decode cX11_of 41 = .ok (.iload_n 2, 1) := by decide +kernel
theorem dX11_of_42 : decode cX11_of 42 = .ok (.bipush 7, 2) := by decide +kernel
theorem dX11_of_44 : decode cX11_of 44 = .ok (.if_icmp .ne 11, 3) := by decide +kernel
theorem dX11_of_47 : decode cX11_of 47 = .ok (.aload_n 0, 1) := by decide +kernel
theorem dX11_of_48 : decode cX11_of 48 = .ok (.iload_n 1, 1) := by decide +kernel
theorem dX11_of_49 : decode cX11_of 49 = .ok (.invokevirtual 91, 3) := by decide +kernel
theorem dX11_of_52 : decode cX11_of 52 = .ok (.goto 9, 3) := by decide +kernel
theorem dX11_of_55 : decode cX11_of 55 = .ok (.aload_n 0, 1) := by decide +kernel
theorem dX11_of_56 : decode cX11_of 56 = .ok (.iload_n 1, 1) := by decide +kernel
theorem dX11_of_57 : decode cX11_of 57 = .ok (.iload_n 2, 1) := by decide +kernel
theorem dX11_of_58 : decode cX11_of 58 = .ok (.invokevirtual 58, 3) := by decide +kernel
theorem dX11_of_61 : decode cX11_of 61 = .ok (.ireturn, 1) := by decide +kernel
theorem dX11_may_0 : decode cX11_may 0 = .ok (.iload_n 2, 1) := by decide +kernel
theorem dX11_may_1 : decode cX11_may 1 = .ok (.tableswitch 86 1 5 #[35, 45, 86, 86, 76], 35) := by decide +kernel
theorem dX11_may_36 : decode cX11_may 36 = .ok (.iload_n 3, 1) := by decide +kernel
theorem dX11_may_37 : decode cX11_may 37 = .ok (.i2l, 1) := by decide +kernel
theorem dX11_may_38 : decode cX11_may 38 = .ok (.lconst 0, 1) := by decide +kernel
theorem dX11_may_39 : decode cX11_may 39 = .ok (.ldc2_w 44, 3) := by decide +kernel
theorem dX11_may_42 : decode cX11_may 42 = .ok (.invokestatic 46, 3) := by decide +kernel
theorem dX11_may_45 : decode cX11_may 45 = .ok (.ireturn, 1) := by decide +kernel
theorem dX11_may_46 : decode cX11_may 46 = .ok (.iload_n 3, 1) := by decide +kernel
theorem dX11_may_47 : decode cX11_may 47 = .ok (.i2l, 1) := by decide +kernel
theorem dX11_may_48 : decode cX11_may 48 = .ok (.lconst 0, 1) := by decide +kernel
theorem dX11_may_49 : decode cX11_may 49 = .ok (.ldc2_w 44, 3) := by decide +kernel
theorem dX11_may_52 : decode cX11_may 52 = .ok (.invokestatic 46, 3) := by decide +kernel
theorem dX11_may_55 : decode cX11_may 55 = .ok (.ifCond .eq 20, 3) := by decide +kernel
theorem dX11_may_58 : decode cX11_may 58 = .ok (.iload_n 3, 1) := by decide +kernel
theorem dX11_may_59 : decode cX11_may 59 = .ok (.aload_n 0, 1) := by decide +kernel
theorem dX11_may_60 : decode cX11_may 60 = .ok (.iload_n 1, 1) := by decide +kernel
theorem dX11_may_61 : decode cX11_may 61 = .ok (.iconst 1, 1) := by decide +kernel
theorem dX11_may_62 : decode cX11_may 62 = .ok (.invokevirtual 58, 3) := by decide +kernel
theorem dX11_may_65 : decode cX11_may 65 = .ok (.iconst (-1), 1) := by decide +kernel
theorem dX11_may_66 : decode cX11_may 66 = .ok (.ixor, 1) := by decide +kernel
theorem dX11_may_67 : decode cX11_may 67 = .ok (.iand, 1) := by decide +kernel
theorem dX11_may_68 : decode cX11_may 68 = .ok (.ifCond .ne 7, 3) := by decide +kernel
theorem dX11_may_71 : decode cX11_may 71 = .ok (.iconst 1, 1) := by decide +kernel
theorem dX11_may_72 : decode cX11_may 72 = .ok (.goto 4, 3) := by decide +kernel
theorem dX11_may_75 : decode cX11_may 75 = .ok (.iconst 0, 1) := by decide +kernel
theorem dX11_may_76 : decode cX11_may 76 = .ok (.ireturn, 1) := by decide +kernel
theorem dX11_may_77 : decode cX11_may 77 = .ok (.iload_n 3, 1) := by decide +kernel
theorem dX11_may_78 : decode cX11_may 78 = .ok (.i2l, 1) := by decide +kernel
theorem dX11_may_79 : decode cX11_may 79 = .ok (.lconst 0, 1) := by decide +kernel
theorem dX11_may_80 : decode cX11_may 80 = .ok (.ldc2_w 94, 3) := by decide +kernel
theorem dX11_may_83 : decode cX11_may 83 = .ok (.invokestatic 46, 3) := by decide +kernel
theorem dX11_may_86 : decode cX11_may 86 = .ok (.ireturn, 1) := by decide +kernel
theorem dX11_may_87 : decode cX11_may 87 = .ok (.iconst 0, 1) := by decide +kernel
theorem dX11_may_88 : decode cX11_may 88 = .ok (.ireturn, 1) := by decide +kernel
theorem dX11_knowsNow_0 : decode cX11_knowsNow 0 = .ok (.aload_n 0, 1) := by decide +kernel
theorem dX11_knowsNow_1 : decode cX11_knowsNow 1 = .ok (.getfield 7, 3) := by decide +kernel
theorem dX11_knowsNow_4 : decode cX11_knowsNow 4 = .ok (.iload_n 1, 1) := by decide +kernel
theorem dX11_knowsNow_5 : decode cX11_knowsNow 5 = .ok (.iconst 2, 1) := by decide +kernel
theorem dX11_knowsNow_6 : decode cX11_knowsNow 6 = .ok (.invokestatic 61, 3) := by decide +kernel
theorem dX11_knowsNow_9 : decode cX11_knowsNow 9 = .ok (.dup2, 1) := by decide +kernel
theorem dX11_knowsNow_10 : decode cX11_knowsNow 10 = .ok (.iaload, 1) := by decide +kernel
theorem dX11_knowsNow_11 : decode cX11_knowsNow 11 = .ok (.iload_n 2, 1) := by decide +kernel
theorem dX11_knowsNow_12 : decode cX11_knowsNow 12 = .ok (.iand, 1) := by decide +kernel
theorem dX11_knowsNow_13 : decode cX11_knowsNow 13 = .ok (.iastore, 1) := by decide +kernel
theorem dX11_knowsNow_14 : decode cX11_knowsNow 14 = .ok (.aload_n 0, 1) := by decide +kernel
theorem dX11_knowsNow_15 : decode cX11_knowsNow 15 = .ok (.iload_n 1, 1) := by decide +kernel
theorem dX11_knowsNow_16 : decode cX11_knowsNow 16 = .ok (.iconst 1, 1) := by decide +kernel
theorem dX11_knowsNow_17 : decode cX11_knowsNow 17 = .ok (.invokestatic 61, 3) := by decide +kernel
theorem dX11_knowsNow_20 : decode cX11_knowsNow 20 = .ok (.iload_n 2, 1) := by decide +kernel
theorem dX11_knowsNow_21 : decode cX11_knowsNow 21 = .ok (.invokevirtual 50, 3) := by decide +kernel
theorem dX11_knowsNow_24 : decode cX11_knowsNow 24 = .ok (.ireturn, 1) := by decide +kernel
theorem dX11_set_0 : decode cX11_set 0 = .ok (.aload_n 0, 1) := by decide +kernel
theorem dX11_set_1 : decode cX11_set 1 = .ok (.iload_n 1, 1) := by decide +kernel
theorem dX11_set_2 : decode cX11_set 2 = .ok (.invokevirtual 83, 3) := by decide +kernel
theorem dX11_set_5 : decode cX11_set 5 = .ok (.ifCond .eq 13, 3) := by decide +kernel
theorem dX11_set_8 : decode cX11_set 8 = .ok (.aload_n 0, 1) := by decide +kernel
theorem dX11_set_9 : decode cX11_set 9 = .ok (.iload_n 1, 1) := by decide +kernel
theorem dX11_set_10 : decode cX11_set 10 = .ok (.iload_n 2, 1) := by decide +kernel
theorem dX11_set_11 : decode cX11_set 11 = .ok (.iload_n 3, 1) := by decide +kernel
theorem dX11_set_12 : decode cX11_set 12 = .ok (.invokevirtual 96, 3) := by decide +kernel
theorem dX11_set_15 : decode cX11_set 15 = .ok (.ifCond .ne 10, 3) := by decide +kernel
theorem dX11_set_18 : decode cX11_set 18 = .ok (.aload_n 0, 1) := by decide +kernel

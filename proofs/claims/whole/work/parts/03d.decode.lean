theorem dX11_set_19 : decode cX11_set 19 = .ok (.ldc 38, 2) := by decide +kernel
theorem dX11_set_21 : decode cX11_set 21 = .ok (.invokevirtual 40, 3) := by decide +kernel
theorem dX11_set_24 : decode cX11_set 24 = .ok (.ireturn, 1) := by decide +kernel
theorem dX11_set_25 : decode cX11_set 25 = .ok (.iload_n 2, 1) := by decide +kernel
theorem dX11_set_26 : decode cX11_set 26 = .ok (.iconst 1, 1) := by decide +kernel
theorem dX11_set_27 : decode cX11_set 27 = .ok (.if_icmp .ne 12, 3) := by decide +kernel
theorem dX11_set_30 : decode cX11_set 30 = .ok (.aload_n 0, 1) := by decide +kernel
theorem dX11_set_31 : decode cX11_set 31 = .ok (.iload_n 1, 1) := by decide +kernel
theorem dX11_set_32 : decode cX11_set 32 = .ok (.iload_n 3, 1) := by decide +kernel
theorem dX11_set_33 : decode cX11_set 33 = .ok (.invokevirtual 100, 3) := by decide +kernel
theorem dX11_set_36 : decode cX11_set 36 = .ok (.goto 13, 3) := by decide +kernel
theorem dX11_set_39 : decode cX11_set 39 = .ok (.aload_n 0, 1) := by decide +kernel
theorem dX11_set_40 : decode cX11_set 40 = .ok (.iload_n 1, 1) := by decide +kernel
theorem dX11_set_41 : decode cX11_set 41 = .ok (.iload_n 2, 1) := by decide +kernel
theorem dX11_set_42 : decode cX11_set 42 = .ok (.invokestatic 61, 3) := by decide +kernel
theorem dX11_set_45 : decode cX11_set 45 = .ok (.iload_n 3, 1) := by decide +kernel
theorem dX11_set_46 : decode cX11_set 46 = .ok (.invokevirtual 50, 3) := by decide +kernel
theorem dX11_set_49 : decode cX11_set 49 = .ok (.ireturn, 1) := by decide +kernel
theorem dX11_turn_0 : decode cX11_turn 0 = .ok (.aload_n 0, 1) := by decide +kernel
theorem dX11_turn_1 : decode cX11_turn 1 = .ok (.iload_n 1, 1) := by decide +kernel
theorem dX11_turn_2 : decode cX11_turn 2 = .ok (.invokevirtual 83, 3) := by decide +kernel
theorem dX11_turn_5 : decode cX11_turn 5 = .ok (.ifCond .eq 28, 3) := by decide +kernel
theorem dX11_turn_8 : decode cX11_turn 8 = .ok (.iload_n 2, 1) := by decide +kernel
theorem dX11_turn_9 : decode cX11_turn 9 = .ok (.i2l, 1) := by decide +kernel
theorem dX11_turn_10 : decode cX11_turn 10 = .ok (.lconst 0, 1) := by decide +kernel
theorem dX11_turn_11 : decode cX11_turn 11 = .ok (.ldc2_w 64, 3) := by decide +kernel
theorem dX11_turn_14 : decode cX11_turn 14 = .ok (.invokestatic 46, 3) := by decide +kernel
theorem dX11_turn_17 : decode cX11_turn 17 = .ok (.ifCond .eq 16, 3) := by decide +kernel
theorem dX11_turn_20 : decode cX11_turn 20 = .ok (.aload_n 0, 1) := by decide +kernel
theorem dX11_turn_21 : decode cX11_turn 21 = .ok (.iload_n 1, 1) := by decide +kernel
theorem dX11_turn_22 : decode cX11_turn 22 = .ok (.iconst 0, 1) := by decide +kernel
theorem dX11_turn_23 : decode cX11_turn 23 = .ok (.invokestatic 61, 3) := by decide +kernel
theorem dX11_turn_26 : decode cX11_turn 26 = .ok (.iload_n 2, 1) := by decide +kernel
theorem dX11_turn_27 : decode cX11_turn 27 = .ok (.invokevirtual 50, 3) := by decide +kernel
theorem dX11_turn_30 : decode cX11_turn 30 = .ok (.goto 9, 3) := by decide +kernel
theorem dX11_turn_33 : decode cX11_turn 33 = .ok (.aload_n 0, 1) := by decide +kernel
theorem dX11_turn_34 : decode cX11_turn 34 = .ok (.ldc 38, 2) := by decide +kernel
theorem dX11_turn_36 : decode cX11_turn 36 = .ok (.invokevirtual 40, 3) := by decide +kernel
theorem dX11_turn_39 : decode cX11_turn 39 = .ok (.ireturn, 1) := by decide +kernel
theorem dX11_isUnder_0 : decode cX11_isUnder 0 = .ok (.iload_n 1, 1) := by decide +kernel
theorem dX11_isUnder_1 : decode cX11_isUnder 1 = .ok (.ifCond .eq 28, 3) := by decide +kernel
theorem dX11_isUnder_4 : decode cX11_isUnder 4 = .ok (.iload_n 0, 1) := by decide +kernel
theorem dX11_isUnder_5 : decode cX11_isUnder 5 = .ok (.iload_n 1, 1) := by decide +kernel
theorem dX11_isUnder_6 : decode cX11_isUnder 6 = .ok (.if_icmp .eq 23, 3) := by decide +kernel
theorem dX11_isUnder_9 : decode cX11_isUnder 9 = .ok (.iload_n 1, 1) := by decide +kernel
theorem dX11_isUnder_10 : decode cX11_isUnder 10 = .ok (.iconst 1, 1) := by decide +kernel
theorem dX11_isUnder_11 : decode cX11_isUnder 11 = .ok (.if_icmp .ne 8, 3) := by decide +kernel
theorem dX11_isUnder_14 : decode cX11_isUnder 14 = .ok (.iload_n 0, 1) := by decide +kernel
theorem dX11_isUnder_15 : decode cX11_isUnder 15 = .ok (.iconst 4, 1) := by decide +kernel
theorem dX11_isUnder_16 : decode cX11_isUnder 16 = .ok (.if_icmp .eq 13, 3) := by decide +kernel
theorem dX11_isUnder_19 : decode cX11_isUnder 19 = .ok (.iload_n 1, 1) := by decide +kernel
theorem dX11_isUnder_20 : decode cX11_isUnder 20 = .ok (.iconst 3, 1) := by decide +kernel
theorem dX11_isUnder_21 : decode cX11_isUnder 21 = .ok (.if_icmp .ne 12, 3) := by decide +kernel
theorem dX11_isUnder_24 : decode cX11_isUnder 24 = .ok (.iload_n 0, 1) := by decide +kernel
theorem dX11_isUnder_25 : decode cX11_isUnder 25 = .ok (.iconst 5, 1) := by decide +kernel
theorem dX11_isUnder_26 : decode cX11_isUnder 26 = .ok (.if_icmp .ne 7, 3) := by decide +kernel
theorem dX11_isUnder_29 : decode cX11_isUnder 29 = .ok (.iconst 1, 1) := by decide +kernel
theorem dX11_isUnder_30 : decode cX11_isUnder 30 = .ok (.goto 4, 3) := by decide +kernel
theorem dX11_isUnder_33 : decode cX11_isUnder 33 = .ok (.iconst 0, 1) := by decide +kernel
theorem dX11_isUnder_34 : decode cX11_isUnder 34 = .ok (.ireturn, 1) := by decide +kernel
theorem dX11_as_0 : decode cX11_as 0 = .ok (.aload_n 0, 1) := by decide +kernel
theorem dX11_as_1 : decode cX11_as 1 = .ok (.iload_n 1, 1) := by decide +kernel
theorem dX11_as_2 : decode cX11_as 2 = .ok (.invokevirtual 83, 3) := by decide +kernel
theorem dX11_as_5 : decode cX11_as 5 = .ok (.ifCond .eq 15, 3) := by decide +kernel
theorem dX11_as_8 : decode cX11_as 8 = .ok (.iload_n 2, 1) := by decide +kernel
theorem dX11_as_9 : decode cX11_as 9 = .ok (.i2l, 1) := by decide +kernel
theorem dX11_as_10 : decode cX11_as 10 = .ok (.lconst 0, 1) := by decide +kernel
theorem dX11_as_11 : decode cX11_as 11 = .ok (.ldc2_w 64, 3) := by decide +kernel
theorem dX11_as_14 : decode cX11_as 14 = .ok (.invokestatic 46, 3) := by decide +kernel
theorem dX11_as_17 : decode cX11_as 17 = .ok (.ifCond .ne 10, 3) := by decide +kernel
theorem dX11_as_20 : decode cX11_as 20 = .ok (.aload_n 0, 1) := by decide +kernel
theorem dX11_as_21 : decode cX11_as 21 = .ok (.ldc 38, 2) := by decide +kernel
theorem dX11_as_23 : decode cX11_as 23 = .ok (.invokevirtual 40, 3) := by decide +kernel
theorem dX11_as_26 : decode cX11_as 26 = .ok (.ireturn, 1) := by decide +kernel
theorem dX11_as_27 : decode cX11_as 27 = .ok (.aload_n 0, 1) := by decide +kernel
theorem dX11_as_28 : decode cX11_as 28 = .ok (.iload_n 1, 1) := by decide +kernel
theorem dX11_as_29 : decode cX11_as 29 = .ok (.iconst 0, 1) := by decide +kernel
theorem dX11_as_30 : decode cX11_as 30 = .ok (.invokevirtual 58, 3) := by decide +kernel
theorem dX11_as_33 : decode cX11_as 33 = .ok (.iload_n 2, 1) := by decide +kernel
theorem dX11_as_34 : decode cX11_as 34 = .ok (.invokestatic 103, 3) := by decide +kernel
theorem dX11_as_37 : decode cX11_as 37 = .ok (.ifCond .eq 12, 3) := by decide +kernel
theorem dX11_as_40 : decode cX11_as 40 = .ok (.aload_n 0, 1) := by decide +kernel
theorem dX11_as_41 : decode cX11_as 41 = .ok (.iload_n 1, 1) := by decide +kernel
theorem dX11_as_42 : decode cX11_as 42 = .ok (.iconst 5, 1) := by decide +kernel
theorem dX11_as_43 : decode cX11_as 43 = .ok (.invokevirtual 58, 3) := by decide +kernel
theorem dX11_as_46 : decode cX11_as 46 = .ok (.goto 9, 3) := by decide +kernel
theorem dX11_as_49 : decode cX11_as 49 = .ok (.aload_n 0, 1) := by decide +kernel
theorem dX11_as_50 : decode cX11_as 50 = .ok (.ldc 107, 2) := by decide +kernel
theorem dX11_as_52 : decode cX11_as 52 = .ok (.invokevirtual 40, 3) := by decide +kernel
theorem dX11_as_55 : decode cX11_as 55 = .ok (.ireturn, 1) := by decide +kernel
theorem dX11_sitter_0 : decode cX11_sitter 0 = .ok (.iconst (-1), 1) := by decide +kernel
theorem dX11_sitter_1 : decode cX11_sitter 1 = .ok (.istore_n 2, 1) := by decide +kernel
theorem dX11_sitter_2 : decode cX11_sitter 2 = .ok (.iconst 0, 1) := by decide +kernel
theorem dX11_sitter_3 : decode cX11_sitter 3 = .ok (.istore_n 3, 1) := by decide +kernel
theorem dX11_sitter_4 : decode cX11_sitter 4 = .ok (.iload_n 3, 1) := by decide +kernel
theorem dX11_sitter_5 : decode cX11_sitter 5 = .ok (.aload_n 0, 1) := by decide +kernel
theorem dX11_sitter_6 : decode cX11_sitter 6 = .ok (.getfield 7, 3) := by decide +kernel
theorem dX11_sitter_9 : decode cX11_sitter 9 = .ok (.iconst 0, 1) := by decide +kernel
theorem dX11_sitter_10 : decode cX11_sitter 10 = .ok (.iaload, 1) := by decide +kernel
theorem dX11_sitter_11 : decode cX11_sitter 11 = .ok (.if_icmp .ge 25, 3) := by decide +kernel
theorem dX11_sitter_14 : decode cX11_sitter 14 = .ok (.aload_n 0, 1) := by decide +kernel
theorem dX11_sitter_15 : decode cX11_sitter 15 = .ok (.iload_n 3, 1) := by decide +kernel
theorem dX11_sitter_16 : decode cX11_sitter 16 = .ok (.iconst 3, 1) := by decide +kernel
theorem dX11_sitter_17 : decode cX11_sitter 17 = .ok (.invokevirtual 58, 3) := by decide +kernel
theorem dX11_sitter_20 : decode cX11_sitter 20 = .ok (.iload_n 1, 1) := by decide +kernel
theorem dX11_sitter_21 : decode cX11_sitter 21 = .ok (.if_icmp .ne 7, 3) := by decide +kernel
theorem dX11_sitter_24 : decode cX11_sitter 24 = .ok (.iload_n 3, 1) := by decide +kernel
theorem dX11_sitter_25 : decode cX11_sitter 25 = .ok (.goto 4, 3) := by decide +kernel
theorem dX11_sitter_28 : decode cX11_sitter 28 = .ok (.iload_n 2, 1) := by decide +kernel
theorem dX11_sitter_29 : decode cX11_sitter 29 = .ok (.istore_n 2, 1) := by decide +kernel
theorem dX11_sitter_30 : decode cX11_sitter 30 = .ok (.iinc 3 1, 3) := by decide +kernel
theorem dX11_sitter_33 : decode cX11_sitter 33 = .ok (.goto (-29), 3) := by decide +kernel
theorem dX11_sitter_36 : decode cX11_sitter 36 = .ok (.iload_n 2, 1) := by decide +kernel
theorem dX11_sitter_37 : decode cX11_sitter 37 = .ok (.ireturn, 1) := by decide +kernel
theorem dX11_sit_0 : decode cX11_sit 0 = .ok (.aload_n 0, 1) := by decide +kernel
theorem dX11_sit_1 : decode cX11_sit 1 = .ok (.iload_n 1, 1) := by decide +kernel
theorem dX11_sit_2 : decode cX11_sit 2 = .ok (.invokevirtual 83, 3) := by decide +kernel
theorem dX11_sit_5 : decode cX11_sit 5 = .ok (.ifCond .eq 15, 3) := by decide +kernel
theorem dX11_sit_8 : decode cX11_sit 8 = .ok (.iload_n 2, 1) := by decide +kernel
theorem dX11_sit_9 : decode cX11_sit 9 = .ok (.i2l, 1) := by decide +kernel
theorem dX11_sit_10 : decode cX11_sit 10 = .ok (.ldc2_w 108, 3) := by decide +kernel
theorem dX11_sit_13 : decode cX11_sit 13 = .ok (.lconst 1, 1) := by decide +kernel
theorem dX11_sit_14 : decode cX11_sit 14 = .ok (.invokestatic 46, 3) := by decide +kernel
theorem dX11_sit_17 : decode cX11_sit 17 = .ok (.ifCond .ne 10, 3) := by decide +kernel
theorem dX11_sit_20 : decode cX11_sit 20 = .ok (.aload_n 0, 1) := by decide +kernel
theorem dX11_sit_21 : decode cX11_sit 21 = .ok (.ldc 38, 2) := by decide +kernel
theorem dX11_sit_23 : decode cX11_sit 23 = .ok (.invokevirtual 40, 3) := by decide +kernel
theorem dX11_sit_26 : decode cX11_sit 26 = .ok (.ireturn, 1) := by decide +kernel
theorem dX11_sit_27 : decode cX11_sit 27 = .ok (.iload_n 2, 1) := by decide +kernel
theorem dX11_sit_28 : decode cX11_sit 28 = .ok (.ifCond .lt 27, 3) := by decide +kernel
theorem dX11_sit_31 : decode cX11_sit 31 = .ok (.aload_n 0, 1) := by decide +kernel
theorem dX11_sit_32 : decode cX11_sit 32 = .ok (.iload_n 2, 1) := by decide +kernel
theorem dX11_sit_33 : decode cX11_sit 33 = .ok (.invokevirtual 110, 3) := by decide +kernel
theorem dX11_sit_36 : decode cX11_sit 36 = .ok (.ifCond .lt 19, 3) := by decide +kernel
theorem dX11_sit_39 : decode cX11_sit 39 = .ok (.aload_n 0, 1) := by decide +kernel
theorem dX11_sit_40 : decode cX11_sit 40 = .ok (.iload_n 2, 1) := by decide +kernel
theorem dX11_sit_41 : decode cX11_sit 41 = .ok (.invokevirtual 110, 3) := by decide +kernel
theorem dX11_sit_44 : decode cX11_sit 44 = .ok (.iload_n 1, 1) := by decide +kernel
theorem dX11_sit_45 : decode cX11_sit 45 = .ok (.if_icmp .eq 10, 3) := by decide +kernel
theorem dX11_sit_48 : decode cX11_sit 48 = .ok (.aload_n 0, 1) := by decide +kernel
theorem dX11_sit_49 : decode cX11_sit 49 = .ok (.ldc 113, 2) := by decide +kernel
theorem dX11_sit_51 : decode cX11_sit 51 = .ok (.invokevirtual 40, 3) := by decide +kernel
theorem dX11_sit_54 : decode cX11_sit 54 = .ok (.ireturn, 1) := by decide +kernel
theorem dX11_sit_55 : decode cX11_sit 55 = .ok (.aload_n 0, 1) := by decide +kernel
theorem dX11_sit_56 : decode cX11_sit 56 = .ok (.getfield 7, 3) := by decide +kernel
theorem dX11_sit_59 : decode cX11_sit 59 = .ok (.iload_n 1, 1) := by decide +kernel
theorem dX11_sit_60 : decode cX11_sit 60 = .ok (.iconst 4, 1) := by decide +kernel
theorem dX11_sit_61 : decode cX11_sit 61 = .ok (.invokestatic 61, 3) := by decide +kernel
theorem dX11_sit_64 : decode cX11_sit 64 = .ok (.iconst 0, 1) := by decide +kernel
theorem dX11_sit_65 : decode cX11_sit 65 = .ok (.iastore, 1) := by decide +kernel
theorem dX11_sit_66 : decode cX11_sit 66 = .ok (.aload_n 0, 1) := by decide +kernel
theorem dX11_sit_67 : decode cX11_sit 67 = .ok (.iload_n 1, 1) := by decide +kernel
theorem dX11_sit_68 : decode cX11_sit 68 = .ok (.iconst 3, 1) := by decide +kernel
theorem dX11_sit_69 : decode cX11_sit 69 = .ok (.invokestatic 61, 3) := by decide +kernel
theorem dX11_sit_72 : decode cX11_sit 72 = .ok (.iload_n 2, 1) := by decide +kernel
theorem dX11_sit_73 : decode cX11_sit 73 = .ok (.invokevirtual 50, 3) := by decide +kernel
theorem dX11_sit_76 : decode cX11_sit 76 = .ok (.ireturn, 1) := by decide +kernel
theorem dX11_trusts_0 : decode cX11_trusts 0 = .ok (.aload_n 0, 1) := by decide +kernel
theorem dX11_trusts_1 : decode cX11_trusts 1 = .ok (.iload_n 1, 1) := by decide +kernel
theorem dX11_trusts_2 : decode cX11_trusts 2 = .ok (.invokevirtual 83, 3) := by decide +kernel
theorem dX11_trusts_5 : decode cX11_trusts 5 = .ok (.ifCond .eq 10, 3) := by decide +kernel
theorem dX11_trusts_8 : decode cX11_trusts 8 = .ok (.iload_n 2, 1) := by decide +kernel
theorem dX11_trusts_9 : decode cX11_trusts 9 = .ok (.invokestatic 54, 3) := by decide +kernel
theorem dX11_trusts_12 : decode cX11_trusts 12 = .ok (.ifCond .ne 10, 3) := by decide +kernel
theorem dX11_trusts_15 : decode cX11_trusts 15 = .ok (.aload_n 0, 1) := by decide +kernel
theorem dX11_trusts_16 : decode cX11_trusts 16 = .ok (.ldc 38, 2) := by decide +kernel
theorem dX11_trusts_18 : decode cX11_trusts 18 = .ok (.invokevirtual 40, 3) := by decide +kernel
theorem dX11_trusts_21 : decode cX11_trusts 21 = .ok (.ireturn, 1) := by decide +kernel
theorem dX11_trusts_22 : decode cX11_trusts 22 = .ok (.aload_n 0, 1) := by decide +kernel
theorem dX11_trusts_23 : decode cX11_trusts 23 = .ok (.iload_n 1, 1) := by decide +kernel
theorem dX11_trusts_24 : decode cX11_trusts 24 = .ok (.iload_n 2, 1) := by decide +kernel
theorem dX11_trusts_25 : decode cX11_trusts 25 = .ok (.invokevirtual 114, 3) := by decide +kernel
theorem dX11_trusts_28 : decode cX11_trusts 28 = .ok (.ifCond .eq 7, 3) := by decide +kernel
theorem dX11_trusts_31 : decode cX11_trusts 31 = .ok (.iconst 1, 1) := by decide +kernel
theorem dX11_trusts_32 : decode cX11_trusts 32 = .ok (.goto 4, 3) := by decide +kernel
theorem dX11_trusts_35 : decode cX11_trusts 35 = .ok (.iconst 0, 1) := by decide +kernel
theorem dX11_trusts_36 : decode cX11_trusts 36 = .ok (.ireturn, 1) := by decide +kernel
theorem dX11_isMonday_0 : decode cX11_isMonday 0 = .ok (.aload_n 0, 1) := by decide +kernel
theorem dX11_isMonday_1 : decode cX11_isMonday 1 = .ok (.getfield 7, 3) := by decide +kernel
theorem dX11_isMonday_4 : decode cX11_isMonday 4 = .ok (.iconst 1, 1) := by decide +kernel
theorem dX11_isMonday_5 : decode cX11_isMonday 5 = .ok (.iaload, 1) := by decide +kernel
theorem dX11_isMonday_6 : decode cX11_isMonday 6 = .ok (.bipush 24, 2) := by decide +kernel
theorem dX11_isMonday_8 : decode cX11_isMonday 8 = .ok (.idiv, 1) := by decide +kernel
theorem dX11_isMonday_9 : decode cX11_isMonday 9 = .ok (.bipush 7, 2) := by decide +kernel
theorem dX11_isMonday_11 : decode cX11_isMonday 11 = .ok (.irem, 1) := by decide +kernel
theorem dX11_isMonday_12 : decode cX11_isMonday 12 = .ok (.ifCond .ne 7, 3) := by decide +kernel
theorem dX11_isMonday_15 : decode cX11_isMonday 15 = .ok (.iconst 1, 1) := by decide +kernel
theorem dX11_isMonday_16 : decode cX11_isMonday 16 = .ok (.goto 4, 3) := by decide +kernel
theorem dX11_isMonday_19 : decode cX11_isMonday 19 = .ok (.iconst 0, 1) := by decide +kernel
theorem dX11_isMonday_20 : decode cX11_isMonday 20 = .ok (.ireturn, 1) := by decide +kernel
theorem dX11_hears_0 : decode cX11_hears 0 = .ok (.iload_n 2, 1) := by decide +kernel
theorem dX11_hears_1 : decode cX11_hears 1 = .ok (.ifCond .ge 4, 3) := by decide +kernel
theorem dX11_hears_4 : decode cX11_hears 4 = .ok (.return_, 1) := by decide +kernel
theorem dX11_hears_5 : decode cX11_hears 5 = .ok (.iconst 1, 1) := by decide +kernel
theorem dX11_hears_6 : decode cX11_hears 6 = .ok (.iload_n 2, 1) := by decide +kernel
theorem dX11_hears_7 : decode cX11_hears 7 = .ok (.ishl, 1) := by decide +kernel
theorem dX11_hears_8 : decode cX11_hears 8 = .ok (.istore_n 3, 1) := by decide +kernel
theorem dX11_hears_9 : decode cX11_hears 9 = .ok (.aload_n 0, 1) := by decide +kernel
theorem dX11_hears_10 : decode cX11_hears 10 = .ok (.iload_n 1, 1) := by decide +kernel
theorem dX11_hears_11 : decode cX11_hears 11 = .ok (.iload_n 2, 1) := by decide +kernel
theorem dX11_hears_12 : decode cX11_hears 12 = .ok (.invokevirtual 114, 3) := by decide +kernel
theorem dX11_hears_15 : decode cX11_hears 15 = .ok (.istore 4, 2) := by decide +kernel
theorem dX11_hears_17 : decode cX11_hears 17 = .ok (.aload_n 0, 1) := by decide +kernel
theorem dX11_hears_18 : decode cX11_hears 18 = .ok (.getfield 7, 3) := by decide +kernel
theorem dX11_hears_21 : decode cX11_hears 21 = .ok (.iload_n 1, 1) := by decide +kernel
theorem dX11_hears_22 : decode cX11_hears 22 = .ok (.iconst 1, 1) := by decide +kernel
theorem dX11_hears_23 : decode cX11_hears 23 = .ok (.invokestatic 61, 3) := by decide +kernel
theorem dX11_hears_26 : decode cX11_hears 26 = .ok (.dup2, 1) := by decide +kernel
theorem dX11_hears_27 : decode cX11_hears 27 = .ok (.iaload, 1) := by decide +kernel
theorem dX11_hears_28 : decode cX11_hears 28 = .ok (.iload_n 3, 1) := by decide +kernel
theorem dX11_hears_29 : decode cX11_hears 29 = .ok (.ior, 1) := by decide +kernel
theorem dX11_hears_30 : decode cX11_hears 30 = .ok (.iastore, 1) := by decide +kernel
theorem dX11_hears_31 : decode cX11_hears 31 = .ok (.aload_n 0, 1) := by decide +kernel
theorem dX11_hears_32 : decode cX11_hears 32 = .ok (.getfield 7, 3) := by decide +kernel
theorem dX11_hears_35 : decode cX11_hears 35 = .ok (.iload_n 1, 1) := by decide +kernel
theorem dX11_hears_36 : decode cX11_hears 36 = .ok (.iconst 5, 1) := by decide +kernel
theorem dX11_hears_37 : decode cX11_hears 37 = .ok (.invokestatic 61, 3) := by decide +kernel
theorem dX11_hears_40 : decode cX11_hears 40 = .ok (.aload_n 0, 1) := by decide +kernel
theorem dX11_hears_41 : decode cX11_hears 41 = .ok (.iload_n 1, 1) := by decide +kernel
theorem dX11_hears_42 : decode cX11_hears 42 = .ok (.iconst 5, 1) := by decide +kernel
theorem dX11_hears_43 : decode cX11_hears 43 = .ok (.invokevirtual 58, 3) := by decide +kernel
theorem dX11_hears_46 : decode cX11_hears 46 = .ok (.sipush 9999, 3) := by decide +kernel
theorem dX11_hears_49 : decode cX11_hears 49 = .ok (.if_icmp .ge 14, 3) := by decide +kernel
theorem dX11_hears_52 : decode cX11_hears 52 = .ok (.aload_n 0, 1) := by decide +kernel
theorem dX11_hears_53 : decode cX11_hears 53 = .ok (.iload_n 1, 1) := by decide +kernel
theorem dX11_hears_54 : decode cX11_hears 54 = .ok (.iconst 5, 1) := by decide +kernel
theorem dX11_hears_55 : decode cX11_hears 55 = .ok (.invokevirtual 58, 3) := by decide +kernel
theorem dX11_hears_58 : decode cX11_hears 58 = .ok (.iconst 1, 1) := by decide +kernel
theorem dX11_hears_59 : decode cX11_hears 59 = .ok (.iadd, 1) := by decide +kernel
theorem dX11_hears_60 : decode cX11_hears 60 = .ok (.goto 6, 3) := by decide +kernel
theorem dX11_hears_63 : decode cX11_hears 63 = .ok (.sipush 9999, 3) := by decide +kernel
theorem dX11_hears_66 : decode cX11_hears 66 = .ok (.iastore, 1) := by decide +kernel
theorem dX11_hears_67 : decode cX11_hears 67 = .ok (.aload_n 0, 1) := by decide +kernel
theorem dX11_hears_68 : decode cX11_hears 68 = .ok (.getfield 7, 3) := by decide +kernel
theorem dX11_hears_71 : decode cX11_hears 71 = .ok (.iload_n 1, 1) := by decide +kernel
theorem dX11_hears_72 : decode cX11_hears 72 = .ok (.iconst 2, 1) := by decide +kernel
theorem dX11_hears_73 : decode cX11_hears 73 = .ok (.invokestatic 61, 3) := by decide +kernel
theorem dX11_hears_76 : decode cX11_hears 76 = .ok (.iload 4, 2) := by decide +kernel
theorem dX11_hears_78 : decode cX11_hears 78 = .ok (.ifCond .eq 14, 3) := by decide +kernel
theorem dX11_hears_81 : decode cX11_hears 81 = .ok (.aload_n 0, 1) := by decide +kernel
theorem dX11_hears_82 : decode cX11_hears 82 = .ok (.iload_n 1, 1) := by decide +kernel
theorem dX11_hears_83 : decode cX11_hears 83 = .ok (.iconst 2, 1) := by decide +kernel
theorem dX11_hears_84 : decode cX11_hears 84 = .ok (.invokevirtual 58, 3) := by decide +kernel
theorem dX11_hears_87 : decode cX11_hears 87 = .ok (.iload_n 3, 1) := by decide +kernel
theorem dX11_hears_88 : decode cX11_hears 88 = .ok (.ior, 1) := by decide +kernel
theorem dX11_hears_89 : decode cX11_hears 89 = .ok (.goto 13, 3) := by decide +kernel
theorem dX11_hears_92 : decode cX11_hears 92 = .ok (.aload_n 0, 1) := by decide +kernel
theorem dX11_hears_93 : decode cX11_hears 93 = .ok (.iload_n 1, 1) := by decide +kernel
theorem dX11_hears_94 : decode cX11_hears 94 = .ok (.iconst 2, 1) := by decide +kernel
theorem dX11_hears_95 : decode cX11_hears 95 = .ok (.invokevirtual 58, 3) := by decide +kernel
theorem dX11_hears_98 : decode cX11_hears 98 = .ok (.iload_n 3, 1) := by decide +kernel
theorem dX11_hears_99 : decode cX11_hears 99 = .ok (.iconst (-1), 1) := by decide +kernel
theorem dX11_hears_100 : decode cX11_hears 100 = .ok (.ixor, 1) := by decide +kernel
theorem dX11_hears_101 : decode cX11_hears 101 = .ok (.iand, 1) := by decide +kernel
theorem dX11_hears_102 : decode cX11_hears 102 = .ok (.iastore, 1) := by decide +kernel
theorem dX11_hears_103 : decode cX11_hears 103 = .ok (.return_, 1) := by decide +kernel
theorem dX11_hearsItself_0 : decode cX11_hearsItself 0 = .ok (.aload_n 0, 1) := by decide +kernel
theorem dX11_hearsItself_1 : decode cX11_hearsItself 1 = .ok (.getfield 7, 3) := by decide +kernel
theorem dX11_hearsItself_4 : decode cX11_hearsItself 4 = .ok (.iload_n 1, 1) := by decide +kernel
theorem dX11_hearsItself_5 : decode cX11_hearsItself 5 = .ok (.iconst 2, 1) := by decide +kernel
theorem dX11_hearsItself_6 : decode cX11_hearsItself 6 = .ok (.invokestatic 61, 3) := by decide +kernel
theorem dX11_hearsItself_9 : decode cX11_hearsItself 9 = .ok (.dup2, 1) := by decide +kernel
theorem dX11_hearsItself_10 : decode cX11_hearsItself 10 = .ok (.iaload, 1) := by decide +kernel
theorem dX11_hearsItself_11 : decode cX11_hearsItself 11 = .ok (.iload_n 2, 1) := by decide +kernel
theorem dX11_hearsItself_12 : decode cX11_hearsItself 12 = .ok (.ifCond .ge 7, 3) := by decide +kernel
theorem dX11_hearsItself_15 : decode cX11_hearsItself 15 = .ok (.iconst 0, 1) := by decide +kernel
theorem dX11_hearsItself_16 : decode cX11_hearsItself 16 = .ok (.goto 13, 3) := by decide +kernel
theorem dX11_hearsItself_19 : decode cX11_hearsItself 19 = .ok (.aload_n 0, 1) := by decide +kernel
theorem dX11_hearsItself_20 : decode cX11_hearsItself 20 = .ok (.iload_n 1, 1) := by decide +kernel
theorem dX11_hearsItself_21 : decode cX11_hearsItself 21 = .ok (.iconst 1, 1) := by decide +kernel
theorem dX11_hearsItself_22 : decode cX11_hearsItself 22 = .ok (.invokevirtual 58, 3) := by decide +kernel
theorem dX11_hearsItself_25 : decode cX11_hearsItself 25 = .ok (.iconst 1, 1) := by decide +kernel
theorem dX11_hearsItself_26 : decode cX11_hearsItself 26 = .ok (.iload_n 2, 1) := by decide +kernel
theorem dX11_hearsItself_27 : decode cX11_hearsItself 27 = .ok (.ishl, 1) := by decide +kernel
theorem dX11_hearsItself_28 : decode cX11_hearsItself 28 = .ok (.iand, 1) := by decide +kernel
theorem dX11_hearsItself_29 : decode cX11_hearsItself 29 = .ok (.ior, 1) := by decide +kernel
theorem dX11_hearsItself_30 : decode cX11_hearsItself 30 = .ok (.iastore, 1) := by decide +kernel
theorem dX11_hearsItself_31 : decode cX11_hearsItself 31 = .ok (.return_, 1) := by decide +kernel
theorem dX11_nextIn_0 : decode cX11_nextIn 0 = .ok (.iconst 1, 1) := by decide +kernel
theorem dX11_nextIn_1 : decode cX11_nextIn 1 = .ok (.istore_n 2, 1) := by decide +kernel
theorem dX11_nextIn_2 : decode cX11_nextIn 2 = .ok (.iload_n 2, 1) := by decide +kernel
theorem dX11_nextIn_3 : decode cX11_nextIn 3 = .ok (.aload_n 0, 1) := by decide +kernel
theorem dX11_nextIn_4 : decode cX11_nextIn 4 = .ok (.getfield 7, 3) := by decide +kernel
theorem dX11_nextIn_7 : decode cX11_nextIn 7 = .ok (.iconst 0, 1) := by decide +kernel
theorem dX11_nextIn_8 : decode cX11_nextIn 8 = .ok (.iaload, 1) := by decide +kernel
theorem dX11_nextIn_9 : decode cX11_nextIn 9 = .ok (.if_icmp .gt 44, 3) := by decide +kernel
theorem dX11_nextIn_12 : decode cX11_nextIn 12 = .ok (.aload_n 0, 1) := by decide +kernel
theorem dX11_nextIn_13 : decode cX11_nextIn 13 = .ok (.getfield 7, 3) := by decide +kernel
theorem dX11_nextIn_16 : decode cX11_nextIn 16 = .ok (.iconst 3, 1) := by decide +kernel
theorem dX11_nextIn_17 : decode cX11_nextIn 17 = .ok (.iaload, 1) := by decide +kernel
theorem dX11_nextIn_18 : decode cX11_nextIn 18 = .ok (.iload_n 2, 1) := by decide +kernel
theorem dX11_nextIn_19 : decode cX11_nextIn 19 = .ok (.iadd, 1) := by decide +kernel
theorem dX11_nextIn_20 : decode cX11_nextIn 20 = .ok (.aload_n 0, 1) := by decide +kernel
theorem dX11_nextIn_21 : decode cX11_nextIn 21 = .ok (.getfield 7, 3) := by decide +kernel
theorem dX11_nextIn_24 : decode cX11_nextIn 24 = .ok (.iconst 0, 1) := by decide +kernel
theorem dX11_nextIn_25 : decode cX11_nextIn 25 = .ok (.iaload, 1) := by decide +kernel
theorem dX11_nextIn_26 : decode cX11_nextIn 26 = .ok (.irem, 1) := by decide +kernel
theorem dX11_nextIn_27 : decode cX11_nextIn 27 = .ok (.istore_n 3, 1) := by decide +kernel
theorem dX11_nextIn_28 : decode cX11_nextIn 28 = .ok (.aload_n 0, 1) := by decide +kernel
theorem dX11_nextIn_29 : decode cX11_nextIn 29 = .ok (.iload_n 3, 1) := by decide +kernel
theorem dX11_nextIn_30 : decode cX11_nextIn 30 = .ok (.iconst 3, 1) := by decide +kernel
theorem dX11_nextIn_31 : decode cX11_nextIn 31 = .ok (.invokevirtual 58, 3) := by decide +kernel
theorem dX11_nextIn_34 : decode cX11_nextIn 34 = .ok (.ifCond .ge 13, 3) := by decide +kernel
theorem dX11_nextIn_37 : decode cX11_nextIn 37 = .ok (.iload_n 1, 1) := by decide +kernel
theorem dX11_nextIn_38 : decode cX11_nextIn 38 = .ok (.iload_n 3, 1) := by decide +kernel
theorem dX11_nextIn_39 : decode cX11_nextIn 39 = .ok (.ishr, 1) := by decide +kernel
theorem dX11_nextIn_40 : decode cX11_nextIn 40 = .ok (.iconst 1, 1) := by decide +kernel
theorem dX11_nextIn_41 : decode cX11_nextIn 41 = .ok (.iand, 1) := by decide +kernel
theorem dX11_nextIn_42 : decode cX11_nextIn 42 = .ok (.ifCond .ne 5, 3) := by decide +kernel
theorem dX11_nextIn_45 : decode cX11_nextIn 45 = .ok (.iload_n 3, 1) := by decide +kernel
theorem dX11_nextIn_46 : decode cX11_nextIn 46 = .ok (.ireturn, 1) := by decide +kernel
theorem dX11_nextIn_47 : decode cX11_nextIn 47 = .ok (.iinc 2 1, 3) := by decide +kernel
theorem dX11_nextIn_50 : decode cX11_nextIn 50 = .ok (.goto (-48), 3) := by decide +kernel
theorem dX11_nextIn_53 : decode cX11_nextIn 53 = .ok (.iconst (-1), 1) := by decide +kernel
theorem dX11_nextIn_54 : decode cX11_nextIn 54 = .ok (.ireturn, 1) := by decide +kernel
theorem dX11_goesOn_0 : decode cX11_goesOn 0 = .ok (.aload_n 0, 1) := by decide +kernel
theorem dX11_goesOn_1 : decode cX11_goesOn 1 = .ok (.iconst 0, 1) := by decide +kernel
theorem dX11_goesOn_2 : decode cX11_goesOn 2 = .ok (.invokevirtual 110, 3) := by decide +kernel
theorem dX11_goesOn_5 : decode cX11_goesOn 5 = .ok (.istore_n 1, 1) := by decide +kernel
theorem dX11_goesOn_6 : decode cX11_goesOn 6 = .ok (.aload_n 0, 1) := by decide +kernel
theorem dX11_goesOn_7 : decode cX11_goesOn 7 = .ok (.iconst 1, 1) := by decide +kernel
theorem dX11_goesOn_8 : decode cX11_goesOn 8 = .ok (.invokevirtual 110, 3) := by decide +kernel
theorem dX11_goesOn_11 : decode cX11_goesOn 11 = .ok (.istore_n 2, 1) := by decide +kernel
theorem dX11_goesOn_12 : decode cX11_goesOn 12 = .ok (.iload_n 1, 1) := by decide +kernel
theorem dX11_goesOn_13 : decode cX11_goesOn 13 = .ok (.ifCond .lt 56, 3) := by decide +kernel
theorem dX11_goesOn_16 : decode cX11_goesOn 16 = .ok (.iload_n 2, 1) := by decide +kernel
theorem dX11_goesOn_17 : decode cX11_goesOn 17 = .ok (.ifCond .lt 52, 3) := by decide +kernel
theorem dX11_goesOn_20 : decode cX11_goesOn 20 = .ok (.aload_n 0, 1) := by decide +kernel
theorem dX11_goesOn_21 : decode cX11_goesOn 21 = .ok (.iload_n 1, 1) := by decide +kernel
theorem dX11_goesOn_22 : decode cX11_goesOn 22 = .ok (.invokevirtual 88, 3) := by decide +kernel
theorem dX11_goesOn_25 : decode cX11_goesOn 25 = .ok (.istore_n 3, 1) := by decide +kernel
theorem dX11_goesOn_26 : decode cX11_goesOn 26 = .ok (.aload_n 0, 1) := by decide +kernel
theorem dX11_goesOn_27 : decode cX11_goesOn 27 = .ok (.iload_n 2, 1) := by decide +kernel
theorem dX11_goesOn_28 : decode cX11_goesOn 28 = .ok (.invokevirtual 88, 3) := by decide +kernel
theorem dX11_goesOn_31 : decode cX11_goesOn 31 = .ok (.istore 4, 2) := by decide +kernel
theorem dX11_goesOn_33 : decode cX11_goesOn 33 = .ok (.aload_n 0, 1) := by decide +kernel
theorem dX11_goesOn_34 : decode cX11_goesOn 34 = .ok (.invokevirtual 117, 3) := by decide +kernel
theorem dX11_goesOn_37 : decode cX11_goesOn 37 = .ok (.ifCond .eq 19, 3) := by decide +kernel
theorem dX11_goesOn_40 : decode cX11_goesOn 40 = .ok (.aload_n 0, 1) := by decide +kernel
theorem dX11_goesOn_41 : decode cX11_goesOn 41 = .ok (.iload_n 1, 1) := by decide +kernel
theorem dX11_goesOn_42 : decode cX11_goesOn 42 = .ok (.iload_n 3, 1) := by decide +kernel
theorem dX11_goesOn_43 : decode cX11_goesOn 43 = .ok (.invokevirtual 121, 3) := by decide +kernel
theorem dX11_goesOn_46 : decode cX11_goesOn 46 = .ok (.aload_n 0, 1) := by decide +kernel
theorem dX11_goesOn_47 : decode cX11_goesOn 47 = .ok (.iload_n 2, 1) := by decide +kernel
theorem dX11_goesOn_48 : decode cX11_goesOn 48 = .ok (.iload 4, 2) := by decide +kernel
theorem dX11_goesOn_50 : decode cX11_goesOn 50 = .ok (.invokevirtual 121, 3) := by decide +kernel
theorem dX11_goesOn_53 : decode cX11_goesOn 53 = .ok (.goto 16, 3) := by decide +kernel
theorem dX11_goesOn_56 : decode cX11_goesOn 56 = .ok (.aload_n 0, 1) := by decide +kernel
theorem dX11_goesOn_57 : decode cX11_goesOn 57 = .ok (.iload_n 1, 1) := by decide +kernel
theorem dX11_goesOn_58 : decode cX11_goesOn 58 = .ok (.iload 4, 2) := by decide +kernel
theorem dX11_goesOn_60 : decode cX11_goesOn 60 = .ok (.invokevirtual 125, 3) := by decide +kernel
theorem dX11_goesOn_63 : decode cX11_goesOn 63 = .ok (.aload_n 0, 1) := by decide +kernel
theorem dX11_goesOn_64 : decode cX11_goesOn 64 = .ok (.iload_n 2, 1) := by decide +kernel
theorem dX11_goesOn_65 : decode cX11_goesOn 65 = .ok (.iload_n 3, 1) := by decide +kernel
theorem dX11_goesOn_66 : decode cX11_goesOn 66 = .ok (.invokevirtual 125, 3) := by decide +kernel
theorem dX11_goesOn_69 : decode cX11_goesOn 69 = .ok (.iconst 0, 1) := by decide +kernel
theorem dX11_goesOn_70 : decode cX11_goesOn 70 = .ok (.istore_n 3, 1) := by decide +kernel
theorem dX11_goesOn_71 : decode cX11_goesOn 71 = .ok (.iconst 0, 1) := by decide +kernel
theorem dX11_goesOn_72 : decode cX11_goesOn 72 = .ok (.istore 4, 2) := by decide +kernel
theorem dX11_goesOn_74 : decode cX11_goesOn 74 = .ok (.iload 4, 2) := by decide +kernel
theorem dX11_goesOn_76 : decode cX11_goesOn 76 = .ok (.aload_n 0, 1) := by decide +kernel
theorem dX11_goesOn_77 : decode cX11_goesOn 77 = .ok (.getfield 7, 3) := by decide +kernel
theorem dX11_goesOn_80 : decode cX11_goesOn 80 = .ok (.iconst 0, 1) := by decide +kernel
theorem dX11_goesOn_81 : decode cX11_goesOn 81 = .ok (.iaload, 1) := by decide +kernel
theorem dX11_goesOn_82 : decode cX11_goesOn 82 = .ok (.if_icmp .ge 81, 3) := by decide +kernel
theorem dX11_goesOn_85 : decode cX11_goesOn 85 = .ok (.aload_n 0, 1) := by decide +kernel
theorem dX11_goesOn_86 : decode cX11_goesOn 86 = .ok (.iload 4, 2) := by decide +kernel
theorem dX11_goesOn_88 : decode cX11_goesOn 88 = .ok (.iconst 3, 1) := by decide +kernel
theorem dX11_goesOn_89 : decode cX11_goesOn 89 = .ok (.invokevirtual 58, 3) := by decide +kernel
theorem dX11_goesOn_92 : decode cX11_goesOn 92 = .ok (.ifCond .lt 65, 3) := by decide +kernel
theorem dX11_goesOn_95 : decode cX11_goesOn 95 = .ok (.aload_n 0, 1) := by decide +kernel
theorem dX11_goesOn_96 : decode cX11_goesOn 96 = .ok (.getfield 7, 3) := by decide +kernel
theorem dX11_goesOn_99 : decode cX11_goesOn 99 = .ok (.iload 4, 2) := by decide +kernel
theorem dX11_goesOn_101 : decode cX11_goesOn 101 = .ok (.iconst 4, 1) := by decide +kernel
theorem dX11_goesOn_102 : decode cX11_goesOn 102 = .ok (.invokestatic 61, 3) := by decide +kernel
theorem dX11_goesOn_105 : decode cX11_goesOn 105 = .ok (.dup2, 1) := by decide +kernel
theorem dX11_goesOn_106 : decode cX11_goesOn 106 = .ok (.iaload, 1) := by decide +kernel
theorem dX11_goesOn_107 : decode cX11_goesOn 107 = .ok (.iconst 1, 1) := by decide +kernel
theorem dX11_goesOn_108 : decode cX11_goesOn 108 = .ok (.iadd, 1) := by decide +kernel
theorem dX11_goesOn_109 : decode cX11_goesOn 109 = .ok (.iastore, 1) := by decide +kernel
theorem dX11_goesOn_110 : decode cX11_goesOn 110 = .ok (.aload_n 0, 1) := by decide +kernel
theorem dX11_goesOn_111 : decode cX11_goesOn 111 = .ok (.iload 4, 2) := by decide +kernel
theorem dX11_goesOn_113 : decode cX11_goesOn 113 = .ok (.iconst 4, 1) := by decide +kernel
theorem dX11_goesOn_114 : decode cX11_goesOn 114 = .ok (.invokevirtual 58, 3) := by decide +kernel
theorem dX11_goesOn_117 : decode cX11_goesOn 117 = .ok (.aload_n 0, 1) := by decide +kernel
theorem dX11_goesOn_118 : decode cX11_goesOn 118 = .ok (.iload 4, 2) := by decide +kernel
theorem dX11_goesOn_120 : decode cX11_goesOn 120 = .ok (.invokevirtual 91, 3) := by decide +kernel
theorem dX11_goesOn_123 : decode cX11_goesOn 123 = .ok (.if_icmp .lt 34, 3) := by decide +kernel
theorem dX11_goesOn_126 : decode cX11_goesOn 126 = .ok (.aload_n 0, 1) := by decide +kernel
theorem dX11_goesOn_127 : decode cX11_goesOn 127 = .ok (.getfield 7, 3) := by decide +kernel
theorem dX11_goesOn_130 : decode cX11_goesOn 130 = .ok (.iload 4, 2) := by decide +kernel
theorem dX11_goesOn_132 : decode cX11_goesOn 132 = .ok (.iconst 3, 1) := by decide +kernel
theorem dX11_goesOn_133 : decode cX11_goesOn 133 = .ok (.invokestatic 61, 3) := by decide +kernel
theorem dX11_goesOn_136 : decode cX11_goesOn 136 = .ok (.iconst (-1), 1) := by decide +kernel
theorem dX11_goesOn_137 : decode cX11_goesOn 137 = .ok (.iastore, 1) := by decide +kernel
theorem dX11_goesOn_138 : decode cX11_goesOn 138 = .ok (.aload_n 0, 1) := by decide +kernel
theorem dX11_goesOn_139 : decode cX11_goesOn 139 = .ok (.getfield 7, 3) := by decide +kernel
theorem dX11_goesOn_142 : decode cX11_goesOn 142 = .ok (.iload 4, 2) := by decide +kernel
theorem dX11_goesOn_144 : decode cX11_goesOn 144 = .ok (.iconst 4, 1) := by decide +kernel
theorem dX11_goesOn_145 : decode cX11_goesOn 145 = .ok (.invokestatic 61, 3) := by decide +kernel
theorem dX11_goesOn_148 : decode cX11_goesOn 148 = .ok (.iconst 0, 1) := by decide +kernel
theorem dX11_goesOn_149 : decode cX11_goesOn 149 = .ok (.iastore, 1) := by decide +kernel
theorem dX11_goesOn_150 : decode cX11_goesOn 150 = .ok (.iload_n 3, 1) := by decide +kernel
theorem dX11_goesOn_151 : decode cX11_goesOn 151 = .ok (.iconst 1, 1) := by decide +kernel
theorem dX11_goesOn_152 : decode cX11_goesOn 152 = .ok (.iload 4, 2) := by decide +kernel
theorem dX11_goesOn_154 : decode cX11_goesOn 154 = .ok (.ishl, 1) := by decide +kernel
theorem dX11_goesOn_155 : decode cX11_goesOn 155 = .ok (.ior, 1) := by decide +kernel
theorem dX11_goesOn_156 : decode cX11_goesOn 156 = .ok (.istore_n 3, 1) := by decide +kernel
theorem dX11_goesOn_157 : decode cX11_goesOn 157 = .ok (.iinc 4 1, 3) := by decide +kernel
theorem dX11_goesOn_160 : decode cX11_goesOn 160 = .ok (.goto (-86), 3) := by decide +kernel
theorem dX11_goesOn_163 : decode cX11_goesOn 163 = .ok (.iconst 0, 1) := by decide +kernel
theorem dX11_goesOn_164 : decode cX11_goesOn 164 = .ok (.istore 4, 2) := by decide +kernel
theorem dX11_goesOn_166 : decode cX11_goesOn 166 = .ok (.iload 4, 2) := by decide +kernel
theorem dX11_goesOn_168 : decode cX11_goesOn 168 = .ok (.iconst 2, 1) := by decide +kernel
theorem dX11_goesOn_169 : decode cX11_goesOn 169 = .ok (.if_icmp .ge 67, 3) := by decide +kernel
theorem dX11_goesOn_172 : decode cX11_goesOn 172 = .ok (.aload_n 0, 1) := by decide +kernel
theorem dX11_goesOn_173 : decode cX11_goesOn 173 = .ok (.iload 4, 2) := by decide +kernel
theorem dX11_goesOn_175 : decode cX11_goesOn 175 = .ok (.invokevirtual 110, 3) := by decide +kernel
theorem dX11_goesOn_178 : decode cX11_goesOn 178 = .ok (.ifCond .ge 11, 3) := by decide +kernel
theorem dX11_goesOn_181 : decode cX11_goesOn 181 = .ok (.aload_n 0, 1) := by decide +kernel
theorem dX11_goesOn_182 : decode cX11_goesOn 182 = .ok (.iload_n 3, 1) := by decide +kernel
theorem dX11_goesOn_183 : decode cX11_goesOn 183 = .ok (.invokevirtual 128, 3) := by decide +kernel
theorem dX11_goesOn_186 : decode cX11_goesOn 186 = .ok (.goto 4, 3) := by decide +kernel
theorem dX11_goesOn_189 : decode cX11_goesOn 189 = .ok (.iconst (-1), 1) := by decide +kernel
theorem dX11_goesOn_190 : decode cX11_goesOn 190 = .ok (.istore 5, 2) := by decide +kernel
theorem dX11_goesOn_192 : decode cX11_goesOn 192 = .ok (.iload 5, 2) := by decide +kernel
theorem dX11_goesOn_194 : decode cX11_goesOn 194 = .ok (.ifCond .lt 36, 3) := by decide +kernel
theorem dX11_goesOn_197 : decode cX11_goesOn 197 = .ok (.aload_n 0, 1) := by decide +kernel
theorem dX11_goesOn_198 : decode cX11_goesOn 198 = .ok (.getfield 7, 3) := by decide +kernel
theorem dX11_goesOn_201 : decode cX11_goesOn 201 = .ok (.iload 5, 2) := by decide +kernel
theorem dX11_goesOn_203 : decode cX11_goesOn 203 = .ok (.iconst 3, 1) := by decide +kernel
theorem dX11_goesOn_204 : decode cX11_goesOn 204 = .ok (.invokestatic 61, 3) := by decide +kernel
theorem dX11_goesOn_207 : decode cX11_goesOn 207 = .ok (.iload 4, 2) := by decide +kernel
theorem dX11_goesOn_209 : decode cX11_goesOn 209 = .ok (.iastore, 1) := by decide +kernel
theorem dX11_goesOn_210 : decode cX11_goesOn 210 = .ok (.aload_n 0, 1) := by decide +kernel
theorem dX11_goesOn_211 : decode cX11_goesOn 211 = .ok (.getfield 7, 3) := by decide +kernel
theorem dX11_goesOn_214 : decode cX11_goesOn 214 = .ok (.iload 5, 2) := by decide +kernel
theorem dX11_goesOn_216 : decode cX11_goesOn 216 = .ok (.iconst 4, 1) := by decide +kernel
theorem dX11_goesOn_217 : decode cX11_goesOn 217 = .ok (.invokestatic 61, 3) := by decide +kernel
theorem dX11_goesOn_220 : decode cX11_goesOn 220 = .ok (.iconst 0, 1) := by decide +kernel
theorem dX11_goesOn_221 : decode cX11_goesOn 221 = .ok (.iastore, 1) := by decide +kernel
theorem dX11_goesOn_222 : decode cX11_goesOn 222 = .ok (.aload_n 0, 1) := by decide +kernel
theorem dX11_goesOn_223 : decode cX11_goesOn 223 = .ok (.getfield 7, 3) := by decide +kernel
theorem dX11_goesOn_226 : decode cX11_goesOn 226 = .ok (.iconst 3, 1) := by decide +kernel
theorem dX11_goesOn_227 : decode cX11_goesOn 227 = .ok (.iload 5, 2) := by decide +kernel
theorem dX11_goesOn_229 : decode cX11_goesOn 229 = .ok (.iastore, 1) := by decide +kernel
theorem dX11_goesOn_230 : decode cX11_goesOn 230 = .ok (.iinc 4 1, 3) := by decide +kernel
theorem dX11_goesOn_233 : decode cX11_goesOn 233 = .ok (.goto (-67), 3) := by decide +kernel
theorem dX11_goesOn_236 : decode cX11_goesOn 236 = .ok (.aload_n 0, 1) := by decide +kernel
theorem dX11_goesOn_237 : decode cX11_goesOn 237 = .ok (.getfield 7, 3) := by decide +kernel
theorem dX11_goesOn_240 : decode cX11_goesOn 240 = .ok (.iconst 1, 1) := by decide +kernel
theorem dX11_goesOn_241 : decode cX11_goesOn 241 = .ok (.dup2, 1) := by decide +kernel
theorem dX11_goesOn_242 : decode cX11_goesOn 242 = .ok (.iaload, 1) := by decide +kernel
theorem dX11_goesOn_243 : decode cX11_goesOn 243 = .ok (.iconst 1, 1) := by decide +kernel
theorem dX11_goesOn_244 : decode cX11_goesOn 244 = .ok (.iadd, 1) := by decide +kernel
theorem dX11_goesOn_245 : decode cX11_goesOn 245 = .ok (.iastore, 1) := by decide +kernel
theorem dX11_goesOn_246 : decode cX11_goesOn 246 = .ok (.return_, 1) := by decide +kernel
theorem dX11_goes_0 : decode cX11_goes 0 = .ok (.iconst 0, 1) := by decide +kernel
theorem dX11_goes_1 : decode cX11_goes 1 = .ok (.istore_n 2, 1) := by decide +kernel
theorem dX11_goes_2 : decode cX11_goes 2 = .ok (.iload_n 2, 1) := by decide +kernel
theorem dX11_goes_3 : decode cX11_goes 3 = .ok (.iload_n 1, 1) := by decide +kernel
theorem dX11_goes_4 : decode cX11_goes 4 = .ok (.if_icmp .ge 13, 3) := by decide +kernel
theorem dX11_goes_7 : decode cX11_goes 7 = .ok (.aload_n 0, 1) := by decide +kernel
theorem dX11_goes_8 : decode cX11_goes 8 = .ok (.invokevirtual 131, 3) := by decide +kernel
theorem dX11_goes_11 : decode cX11_goes 11 = .ok (.iinc 2 1, 3) := by decide +kernel
theorem dX11_goes_14 : decode cX11_goes 14 = .ok (.goto (-12), 3) := by decide +kernel
theorem dX11_goes_17 : decode cX11_goes 17 = .ok (.return_, 1) := by decide +kernel
theorem dX11_heardOfAll_0 : decode cX11_heardOfAll 0 = .ok (.iconst 0, 1) := by decide +kernel
theorem dX11_heardOfAll_1 : decode cX11_heardOfAll 1 = .ok (.istore_n 1, 1) := by decide +kernel
theorem dX11_heardOfAll_2 : decode cX11_heardOfAll 2 = .ok (.iconst 0, 1) := by decide +kernel
theorem dX11_heardOfAll_3 : decode cX11_heardOfAll 3 = .ok (.istore_n 2, 1) := by decide +kernel
theorem dX11_heardOfAll_4 : decode cX11_heardOfAll 4 = .ok (.iload_n 2, 1) := by decide +kernel
theorem dX11_heardOfAll_5 : decode cX11_heardOfAll 5 = .ok (.aload_n 0, 1) := by decide +kernel
theorem dX11_heardOfAll_6 : decode cX11_heardOfAll 6 = .ok (.getfield 7, 3) := by decide +kernel
theorem dX11_heardOfAll_9 : decode cX11_heardOfAll 9 = .ok (.iconst 0, 1) := by decide +kernel
theorem dX11_heardOfAll_10 : decode cX11_heardOfAll 10 = .ok (.iaload, 1) := by decide +kernel
theorem dX11_heardOfAll_11 : decode cX11_heardOfAll 11 = .ok (.if_icmp .ge 18, 3) := by decide +kernel
theorem dX11_heardOfAll_14 : decode cX11_heardOfAll 14 = .ok (.iload_n 1, 1) := by decide +kernel
theorem dX11_heardOfAll_15 : decode cX11_heardOfAll 15 = .ok (.aload_n 0, 1) := by decide +kernel
theorem dX11_heardOfAll_16 : decode cX11_heardOfAll 16 = .ok (.iload_n 2, 1) := by decide +kernel
theorem dX11_heardOfAll_17 : decode cX11_heardOfAll 17 = .ok (.iconst 5, 1) := by decide +kernel
theorem dX11_heardOfAll_18 : decode cX11_heardOfAll 18 = .ok (.invokevirtual 58, 3) := by decide +kernel
theorem dX11_heardOfAll_21 : decode cX11_heardOfAll 21 = .ok (.iadd, 1) := by decide +kernel
theorem dX11_heardOfAll_22 : decode cX11_heardOfAll 22 = .ok (.istore_n 1, 1) := by decide +kernel
theorem dX11_heardOfAll_23 : decode cX11_heardOfAll 23 = .ok (.iinc 2 1, 3) := by decide +kernel
theorem dX11_heardOfAll_26 : decode cX11_heardOfAll 26 = .ok (.goto (-22), 3) := by decide +kernel
theorem dX11_heardOfAll_29 : decode cX11_heardOfAll 29 = .ok (.iload_n 1, 1) := by decide +kernel
theorem dX11_heardOfAll_30 : decode cX11_heardOfAll 30 = .ok (.ireturn, 1) := by decide +kernel
theorem dX11_believed_0 : decode cX11_believed 0 = .ok (.iconst 0, 1) := by decide +kernel
theorem dX11_believed_1 : decode cX11_believed 1 = .ok (.istore_n 1, 1) := by decide +kernel
theorem dX11_believed_2 : decode cX11_believed 2 = .ok (.iconst 0, 1) := by decide +kernel
theorem dX11_believed_3 : decode cX11_believed 3 = .ok (.istore_n 2, 1) := by decide +kernel
theorem dX11_believed_4 : decode cX11_believed 4 = .ok (.iload_n 2, 1) := by decide +kernel
theorem dX11_believed_5 : decode cX11_believed 5 = .ok (.aload_n 0, 1) := by decide +kernel
theorem dX11_believed_6 : decode cX11_believed 6 = .ok (.getfield 7, 3) := by decide +kernel
theorem dX11_believed_9 : decode cX11_believed 9 = .ok (.iconst 0, 1) := by decide +kernel
theorem dX11_believed_10 : decode cX11_believed 10 = .ok (.iaload, 1) := by decide +kernel
theorem dX11_believed_11 : decode cX11_believed 11 = .ok (.if_icmp .ge 21, 3) := by decide +kernel
theorem dX11_believed_14 : decode cX11_believed 14 = .ok (.iload_n 1, 1) := by decide +kernel
theorem dX11_believed_15 : decode cX11_believed 15 = .ok (.aload_n 0, 1) := by decide +kernel
theorem dX11_believed_16 : decode cX11_believed 16 = .ok (.iload_n 2, 1) := by decide +kernel
theorem dX11_believed_17 : decode cX11_believed 17 = .ok (.iconst 2, 1) := by decide +kernel
theorem dX11_believed_18 : decode cX11_believed 18 = .ok (.invokevirtual 58, 3) := by decide +kernel
theorem dX11_believed_21 : decode cX11_believed 21 = .ok (.invokestatic 80, 3) := by decide +kernel
theorem dX11_believed_24 : decode cX11_believed 24 = .ok (.iadd, 1) := by decide +kernel
theorem dX11_believed_25 : decode cX11_believed 25 = .ok (.istore_n 1, 1) := by decide +kernel
theorem dX11_believed_26 : decode cX11_believed 26 = .ok (.iinc 2 1, 3) := by decide +kernel
theorem dX11_believed_29 : decode cX11_believed 29 = .ok (.goto (-25), 3) := by decide +kernel
theorem dX11_believed_32 : decode cX11_believed 32 = .ok (.iload_n 1, 1) := by decide +kernel
theorem dX11_believed_33 : decode cX11_believed 33 = .ok (.ireturn, 1) := by decide +kernel
theorem dX11_hours_0 : decode cX11_hours 0 = .ok (.iload_n 1, 1) := by decide +kernel
theorem dX11_hours_1 : decode cX11_hours 1 = .ok (.i2l, 1) := by decide +kernel
theorem dX11_hours_2 : decode cX11_hours 2 = .ok (.lconst 1, 1) := by decide +kernel
theorem dX11_hours_3 : decode cX11_hours 3 = .ok (.ldc2_w 134, 3) := by decide +kernel
theorem dX11_hours_6 : decode cX11_hours 6 = .ok (.invokestatic 46, 3) := by decide +kernel
theorem dX11_hours_9 : decode cX11_hours 9 = .ok (.ifCond .ne 10, 3) := by decide +kernel
theorem dX11_hours_12 : decode cX11_hours 12 = .ok (.aload_n 0, 1) := by decide +kernel
theorem dX11_hours_13 : decode cX11_hours 13 = .ok (.ldc 38, 2) := by decide +kernel
theorem dX11_hours_15 : decode cX11_hours 15 = .ok (.invokevirtual 40, 3) := by decide +kernel
theorem dX11_hours_18 : decode cX11_hours 18 = .ok (.ireturn, 1) := by decide +kernel
theorem dX11_hours_19 : decode cX11_hours 19 = .ok (.aload_n 0, 1) := by decide +kernel
theorem dX11_hours_20 : decode cX11_hours 20 = .ok (.getfield 7, 3) := by decide +kernel
theorem dX11_hours_23 : decode cX11_hours 23 = .ok (.iconst 1, 1) := by decide +kernel
theorem dX11_hours_24 : decode cX11_hours 24 = .ok (.iaload, 1) := by decide +kernel
theorem dX11_hours_25 : decode cX11_hours 25 = .ok (.iload_n 1, 1) := by decide +kernel
theorem dX11_hours_26 : decode cX11_hours 26 = .ok (.iadd, 1) := by decide +kernel
theorem dX11_hours_27 : decode cX11_hours 27 = .ok (.ldc 136, 2) := by decide +kernel
theorem dX11_hours_29 : decode cX11_hours 29 = .ok (.if_icmp .le 10, 3) := by decide +kernel
theorem dX11_hours_32 : decode cX11_hours 32 = .ok (.aload_n 0, 1) := by decide +kernel
theorem dX11_hours_33 : decode cX11_hours 33 = .ok (.ldc 113, 2) := by decide +kernel
theorem dX11_hours_35 : decode cX11_hours 35 = .ok (.invokevirtual 40, 3) := by decide +kernel
theorem dX11_hours_38 : decode cX11_hours 38 = .ok (.ireturn, 1) := by decide +kernel
theorem dX11_hours_39 : decode cX11_hours 39 = .ok (.aload_n 0, 1) := by decide +kernel
theorem dX11_hours_40 : decode cX11_hours 40 = .ok (.iload_n 1, 1) := by decide +kernel
theorem dX11_hours_41 : decode cX11_hours 41 = .ok (.invokevirtual 137, 3) := by decide +kernel
theorem dX11_hours_44 : decode cX11_hours 44 = .ok (.aload_n 0, 1) := by decide +kernel
theorem dX11_hours_45 : decode cX11_hours 45 = .ok (.invokevirtual 140, 3) := by decide +kernel
theorem dX11_hours_48 : decode cX11_hours 48 = .ok (.ireturn, 1) := by decide +kernel
theorem dX11_outNow_0 : decode cX11_outNow 0 = .ok (.aload_n 0, 1) := by decide +kernel
theorem dX11_outNow_1 : decode cX11_outNow 1 = .ok (.getfield 7, 3) := by decide +kernel
theorem dX11_outNow_4 : decode cX11_outNow 4 = .ok (.iconst 0, 1) := by decide +kernel
theorem dX11_outNow_5 : decode cX11_outNow 5 = .ok (.iaload, 1) := by decide +kernel
theorem dX11_outNow_6 : decode cX11_outNow 6 = .ok (.ifCond .ne 7, 3) := by decide +kernel
theorem dX11_outNow_9 : decode cX11_outNow 9 = .ok (.iconst 0, 1) := by decide +kernel
theorem dX11_outNow_10 : decode cX11_outNow 10 = .ok (.goto 6, 3) := by decide +kernel
theorem dX11_outNow_13 : decode cX11_outNow 13 = .ok (.sipush 1023, 3) := by decide +kernel
theorem dX11_outNow_16 : decode cX11_outNow 16 = .ok (.istore_n 1, 1) := by decide +kernel
theorem dX11_outNow_17 : decode cX11_outNow 17 = .ok (.iconst 0, 1) := by decide +kernel
theorem dX11_outNow_18 : decode cX11_outNow 18 = .ok (.istore_n 2, 1) := by decide +kernel
theorem dX11_outNow_19 : decode cX11_outNow 19 = .ok (.iload_n 2, 1) := by decide +kernel
theorem dX11_outNow_20 : decode cX11_outNow 20 = .ok (.aload_n 0, 1) := by decide +kernel
theorem dX11_outNow_21 : decode cX11_outNow 21 = .ok (.getfield 7, 3) := by decide +kernel
theorem dX11_outNow_24 : decode cX11_outNow 24 = .ok (.iconst 0, 1) := by decide +kernel
theorem dX11_outNow_25 : decode cX11_outNow 25 = .ok (.iaload, 1) := by decide +kernel
theorem dX11_outNow_26 : decode cX11_outNow 26 = .ok (.if_icmp .ge 18, 3) := by decide +kernel
theorem dX11_outNow_29 : decode cX11_outNow 29 = .ok (.iload_n 1, 1) := by decide +kernel
theorem dX11_outNow_30 : decode cX11_outNow 30 = .ok (.aload_n 0, 1) := by decide +kernel
theorem dX11_outNow_31 : decode cX11_outNow 31 = .ok (.iload_n 2, 1) := by decide +kernel
theorem dX11_outNow_32 : decode cX11_outNow 32 = .ok (.iconst 1, 1) := by decide +kernel
theorem dX11_outNow_33 : decode cX11_outNow 33 = .ok (.invokevirtual 58, 3) := by decide +kernel
theorem dX11_outNow_36 : decode cX11_outNow 36 = .ok (.iand, 1) := by decide +kernel
theorem dX11_outNow_37 : decode cX11_outNow 37 = .ok (.istore_n 1, 1) := by decide +kernel
theorem dX11_outNow_38 : decode cX11_outNow 38 = .ok (.iinc 2 1, 3) := by decide +kernel
theorem dX11_outNow_41 : decode cX11_outNow 41 = .ok (.goto (-22), 3) := by decide +kernel
theorem dX11_outNow_44 : decode cX11_outNow 44 = .ok (.iload_n 1, 1) := by decide +kernel
theorem dX11_outNow_45 : decode cX11_outNow 45 = .ok (.ireturn, 1) := by decide +kernel
theorem dX11_now_0 : decode cX11_now 0 = .ok (.iload_n 1, 1) := by decide +kernel
theorem dX11_now_1 : decode cX11_now 1 = .ok (.tableswitch 108 0 7 #[47, 54, 64, 77, 83, 89, 94, 101], 47) := by decide +kernel
theorem dX11_now_48 : decode cX11_now 48 = .ok (.aload_n 0, 1) := by decide +kernel
theorem dX11_now_49 : decode cX11_now 49 = .ok (.getfield 7, 3) := by decide +kernel
theorem dX11_now_52 : decode cX11_now 52 = .ok (.iconst 1, 1) := by decide +kernel
theorem dX11_now_53 : decode cX11_now 53 = .ok (.iaload, 1) := by decide +kernel
theorem dX11_now_54 : decode cX11_now 54 = .ok (.ireturn, 1) := by decide +kernel
theorem dX11_now_55 : decode cX11_now 55 = .ok (.aload_n 0, 1) := by decide +kernel
theorem dX11_now_56 : decode cX11_now 56 = .ok (.getfield 7, 3) := by decide +kernel
theorem dX11_now_59 : decode cX11_now 59 = .ok (.iconst 1, 1) := by decide +kernel
theorem dX11_now_60 : decode cX11_now 60 = .ok (.iaload, 1) := by decide +kernel
theorem dX11_now_61 : decode cX11_now 61 = .ok (.bipush 24, 2) := by decide +kernel
theorem dX11_now_63 : decode cX11_now 63 = .ok (.irem, 1) := by decide +kernel
theorem dX11_now_64 : decode cX11_now 64 = .ok (.ireturn, 1) := by decide +kernel
theorem dX11_now_65 : decode cX11_now 65 = .ok (.aload_n 0, 1) := by decide +kernel
theorem dX11_now_66 : decode cX11_now 66 = .ok (.invokevirtual 117, 3) := by decide +kernel
theorem dX11_now_69 : decode cX11_now 69 = .ok (.ifCond .eq 7, 3) := by decide +kernel
theorem dX11_now_72 : decode cX11_now 72 = .ok (.iconst 1, 1) := by decide +kernel
theorem dX11_now_73 : decode cX11_now 73 = .ok (.goto 4, 3) := by decide +kernel
theorem dX11_now_76 : decode cX11_now 76 = .ok (.iconst 0, 1) := by decide +kernel
theorem dX11_now_77 : decode cX11_now 77 = .ok (.ireturn, 1) := by decide +kernel
theorem dX11_now_78 : decode cX11_now 78 = .ok (.aload_n 0, 1) := by decide +kernel
theorem dX11_now_79 : decode cX11_now 79 = .ok (.iconst 0, 1) := by decide +kernel
theorem dX11_now_80 : decode cX11_now 80 = .ok (.invokevirtual 110, 3) := by decide +kernel
theorem dX11_now_83 : decode cX11_now 83 = .ok (.ireturn, 1) := by decide +kernel
theorem dX11_now_84 : decode cX11_now 84 = .ok (.aload_n 0, 1) := by decide +kernel
theorem dX11_now_85 : decode cX11_now 85 = .ok (.iconst 1, 1) := by decide +kernel
theorem dX11_now_86 : decode cX11_now 86 = .ok (.invokevirtual 110, 3) := by decide +kernel
theorem dX11_now_89 : decode cX11_now 89 = .ok (.ireturn, 1) := by decide +kernel
theorem dX11_now_90 : decode cX11_now 90 = .ok (.aload_n 0, 1) := by decide +kernel
theorem dX11_now_91 : decode cX11_now 91 = .ok (.invokevirtual 144, 3) := by decide +kernel
theorem dX11_now_94 : decode cX11_now 94 = .ok (.ireturn, 1) := by decide +kernel
theorem dX11_now_95 : decode cX11_now 95 = .ok (.aload_n 0, 1) := by decide +kernel
theorem dX11_now_96 : decode cX11_now 96 = .ok (.getfield 7, 3) := by decide +kernel
theorem dX11_now_99 : decode cX11_now 99 = .ok (.iconst 2, 1) := by decide +kernel
theorem dX11_now_100 : decode cX11_now 100 = .ok (.iaload, 1) := by decide +kernel
theorem dX11_now_101 : decode cX11_now 101 = .ok (.ireturn, 1) := by decide +kernel
theorem dX11_now_102 : decode cX11_now 102 = .ok (.aload_n 0, 1) := by decide +kernel
theorem dX11_now_103 : decode cX11_now 103 = .ok (.getfield 7, 3) := by decide +kernel
theorem dX11_now_106 : decode cX11_now 106 = .ok (.iconst 3, 1) := by decide +kernel
theorem dX11_now_107 : decode cX11_now 107 = .ok (.iaload, 1) := by decide +kernel
theorem dX11_now_108 : decode cX11_now 108 = .ok (.ireturn, 1) := by decide +kernel
theorem dX11_now_109 : decode cX11_now 109 = .ok (.aload_n 0, 1) := by decide +kernel
theorem dX11_now_110 : decode cX11_now 110 = .ok (.ldc 38, 2) := by decide +kernel
theorem dX11_now_112 : decode cX11_now 112 = .ok (.invokevirtual 40, 3) := by decide +kernel
theorem dX11_now_115 : decode cX11_now 115 = .ok (.ireturn, 1) := by decide +kernel
theorem dX11_on_0 : decode cX11_on 0 = .ok (.aload_n 0, 1) := by decide +kernel
theorem dX11_on_1 : decode cX11_on 1 = .ok (.iload_n 1, 1) := by decide +kernel
theorem dX11_on_2 : decode cX11_on 2 = .ok (.invokevirtual 83, 3) := by decide +kernel
theorem dX11_on_5 : decode cX11_on 5 = .ok (.ifCond .eq 27, 3) := by decide +kernel
theorem dX11_on_8 : decode cX11_on 8 = .ok (.iload_n 2, 1) := by decide +kernel
theorem dX11_on_9 : decode cX11_on 9 = .ok (.i2l, 1) := by decide +kernel
theorem dX11_on_10 : decode cX11_on 10 = .ok (.lconst 0, 1) := by decide +kernel
theorem dX11_on_11 : decode cX11_on 11 = .ok (.ldc2_w 147, 3) := by decide +kernel
theorem dX11_on_14 : decode cX11_on 14 = .ok (.invokestatic 46, 3) := by decide +kernel
theorem dX11_on_17 : decode cX11_on 17 = .ok (.ifCond .eq 15, 3) := by decide +kernel
theorem dX11_on_20 : decode cX11_on 20 = .ok (.iload_n 3, 1) := by decide +kernel
theorem dX11_on_21 : decode cX11_on 21 = .ok (.i2l, 1) := by decide +kernel
theorem dX11_on_22 : decode cX11_on 22 = .ok (.lconst 0, 1) := by decide +kernel
theorem dX11_on_23 : decode cX11_on 23 = .ok (.ldc2_w 149, 3) := by decide +kernel
theorem dX11_on_26 : decode cX11_on 26 = .ok (.invokestatic 46, 3) := by decide +kernel
theorem dX11_on_29 : decode cX11_on 29 = .ok (.ifCond .ne 10, 3) := by decide +kernel
theorem dX11_on_32 : decode cX11_on 32 = .ok (.aload_n 0, 1) := by decide +kernel
theorem dX11_on_33 : decode cX11_on 33 = .ok (.ldc 38, 2) := by decide +kernel
theorem dX11_on_35 : decode cX11_on 35 = .ok (.invokevirtual 40, 3) := by decide +kernel
theorem dX11_on_38 : decode cX11_on 38 = .ok (.ireturn, 1) := by decide +kernel
theorem dX11_on_39 : decode cX11_on 39 = .ok (.aload_n 0, 1) := by decide +kernel
theorem dX11_on_40 : decode cX11_on 40 = .ok (.getfield 7, 3) := by decide +kernel
theorem dX11_on_43 : decode cX11_on 43 = .ok (.aload_n 0, 1) := by decide +kernel
theorem dX11_on_44 : decode cX11_on 44 = .ok (.getfield 19, 3) := by decide +kernel
theorem dX11_on_47 : decode cX11_on 47 = .ok (.invokestatic 151, 3) := by decide +kernel
theorem dX11_on_50 : decode cX11_on 50 = .ok (.aload_n 0, 1) := by decide +kernel
theorem dX11_on_51 : decode cX11_on 51 = .ok (.iload_n 2, 1) := by decide +kernel
theorem dX11_on_52 : decode cX11_on 52 = .ok (.invokevirtual 137, 3) := by decide +kernel
theorem dX11_on_55 : decode cX11_on 55 = .ok (.aload_n 0, 1) := by decide +kernel
theorem dX11_on_56 : decode cX11_on 56 = .ok (.iload_n 1, 1) := by decide +kernel
theorem dX11_on_57 : decode cX11_on 57 = .ok (.iconst 1, 1) := by decide +kernel
theorem dX11_on_58 : decode cX11_on 58 = .ok (.iload_n 3, 1) := by decide +kernel
theorem dX11_on_59 : decode cX11_on 59 = .ok (.iadd, 1) := by decide +kernel
theorem dX11_on_60 : decode cX11_on 60 = .ok (.invokevirtual 58, 3) := by decide +kernel
theorem dX11_on_63 : decode cX11_on 63 = .ok (.istore 4, 2) := by decide +kernel
theorem dX11_on_65 : decode cX11_on 65 = .ok (.aload_n 0, 1) := by decide +kernel
theorem dX11_on_66 : decode cX11_on 66 = .ok (.getfield 19, 3) := by decide +kernel
theorem dX11_on_69 : decode cX11_on 69 = .ok (.aload_n 0, 1) := by decide +kernel
theorem dX11_on_70 : decode cX11_on 70 = .ok (.getfield 7, 3) := by decide +kernel
theorem dX11_on_73 : decode cX11_on 73 = .ok (.invokestatic 151, 3) := by decide +kernel
theorem dX11_on_76 : decode cX11_on 76 = .ok (.iload 4, 2) := by decide +kernel
theorem dX11_on_78 : decode cX11_on 78 = .ok (.ireturn, 1) := by decide +kernel
theorem dX11_knows_0 : decode cX11_knows 0 = .ok (.aload_n 0, 1) := by decide +kernel
theorem dX11_knows_1 : decode cX11_knows 1 = .ok (.iload_n 1, 1) := by decide +kernel
theorem dX11_knows_2 : decode cX11_knows 2 = .ok (.invokevirtual 83, 3) := by decide +kernel
theorem dX11_knows_5 : decode cX11_knows 5 = .ok (.ifCond .eq 10, 3) := by decide +kernel
theorem dX11_knows_8 : decode cX11_knows 8 = .ok (.iload_n 2, 1) := by decide +kernel
theorem dX11_knows_9 : decode cX11_knows 9 = .ok (.invokestatic 54, 3) := by decide +kernel
theorem dX11_knows_12 : decode cX11_knows 12 = .ok (.ifCond .ne 10, 3) := by decide +kernel
theorem dX11_knows_15 : decode cX11_knows 15 = .ok (.aload_n 0, 1) := by decide +kernel
theorem dX11_knows_16 : decode cX11_knows 16 = .ok (.ldc 38, 2) := by decide +kernel
theorem dX11_knows_18 : decode cX11_knows 18 = .ok (.invokevirtual 40, 3) := by decide +kernel
theorem dX11_knows_21 : decode cX11_knows 21 = .ok (.ireturn, 1) := by decide +kernel
theorem dX11_knows_22 : decode cX11_knows 22 = .ok (.aload_n 0, 1) := by decide +kernel
theorem dX11_knows_23 : decode cX11_knows 23 = .ok (.getfield 7, 3) := by decide +kernel
theorem dX11_knows_26 : decode cX11_knows 26 = .ok (.aload_n 0, 1) := by decide +kernel
theorem dX11_knows_27 : decode cX11_knows 27 = .ok (.getfield 19, 3) := by decide +kernel
theorem dX11_knows_30 : decode cX11_knows 30 = .ok (.invokestatic 151, 3) := by decide +kernel
theorem dX11_knows_33 : decode cX11_knows 33 = .ok (.iconst 0, 1) := by decide +kernel
theorem dX11_knows_34 : decode cX11_knows 34 = .ok (.istore_n 3, 1) := by decide +kernel
theorem dX11_knows_35 : decode cX11_knows 35 = .ok (.iload_n 3, 1) := by decide +kernel
theorem dX11_knows_36 : decode cX11_knows 36 = .ok (.sipush 200, 3) := by decide +kernel
theorem dX11_knows_39 : decode cX11_knows 39 = .ok (.if_icmp .gt 26, 3) := by decide +kernel
theorem dX11_knows_42 : decode cX11_knows 42 = .ok (.aload_n 0, 1) := by decide +kernel
theorem dX11_knows_43 : decode cX11_knows 43 = .ok (.iload_n 1, 1) := by decide +kernel
theorem dX11_knows_44 : decode cX11_knows 44 = .ok (.iconst 1, 1) := by decide +kernel
theorem dX11_knows_45 : decode cX11_knows 45 = .ok (.invokevirtual 58, 3) := by decide +kernel
theorem dX11_knows_48 : decode cX11_knows 48 = .ok (.iload_n 2, 1) := by decide +kernel
theorem dX11_knows_49 : decode cX11_knows 49 = .ok (.ishr, 1) := by decide +kernel
theorem dX11_knows_50 : decode cX11_knows 50 = .ok (.iconst 1, 1) := by decide +kernel
theorem dX11_knows_51 : decode cX11_knows 51 = .ok (.iand, 1) := by decide +kernel
theorem dX11_knows_52 : decode cX11_knows 52 = .ok (.ifCond .ne 13, 3) := by decide +kernel
theorem dX11_knows_55 : decode cX11_knows 55 = .ok (.aload_n 0, 1) := by decide +kernel
theorem dX11_knows_56 : decode cX11_knows 56 = .ok (.invokevirtual 131, 3) := by decide +kernel
theorem dX11_knows_59 : decode cX11_knows 59 = .ok (.iinc 3 1, 3) := by decide +kernel
theorem dX11_knows_62 : decode cX11_knows 62 = .ok (.goto (-27), 3) := by decide +kernel
theorem dX11_knows_65 : decode cX11_knows 65 = .ok (.aload_n 0, 1) := by decide +kernel
theorem dX11_knows_66 : decode cX11_knows 66 = .ok (.getfield 19, 3) := by decide +kernel
theorem dX11_knows_69 : decode cX11_knows 69 = .ok (.aload_n 0, 1) := by decide +kernel
theorem dX11_knows_70 : decode cX11_knows 70 = .ok (.getfield 7, 3) := by decide +kernel
theorem dX11_knows_73 : decode cX11_knows 73 = .ok (.invokestatic 151, 3) := by decide +kernel
theorem dX11_knows_76 : decode cX11_knows 76 = .ok (.iload_n 3, 1) := by decide +kernel
theorem dX11_knows_77 : decode cX11_knows 77 = .ok (.sipush 200, 3) := by decide +kernel
theorem dX11_knows_80 : decode cX11_knows 80 = .ok (.if_icmp .gt 7, 3) := by decide +kernel
theorem dX11_knows_83 : decode cX11_knows 83 = .ok (.iload_n 3, 1) := by decide +kernel
theorem dX11_knows_84 : decode cX11_knows 84 = .ok (.goto 9, 3) := by decide +kernel
theorem dX11_knows_87 : decode cX11_knows 87 = .ok (.aload_n 0, 1) := by decide +kernel
theorem dX11_knows_88 : decode cX11_knows 88 = .ok (.ldc 39, 2) := by decide +kernel
theorem dX11_knows_90 : decode cX11_knows 90 = .ok (.invokevirtual 40, 3) := by decide +kernel
theorem dX11_knows_93 : decode cX11_knows 93 = .ok (.ireturn, 1) := by decide +kernel
theorem dX11_out_0 : decode cX11_out 0 = .ok (.iload_n 1, 1) := by decide +kernel
theorem dX11_out_1 : decode cX11_out 1 = .ok (.invokestatic 54, 3) := by decide +kernel
theorem dX11_out_4 : decode cX11_out 4 = .ok (.ifCond .ne 10, 3) := by decide +kernel
theorem dX11_out_7 : decode cX11_out 7 = .ok (.aload_n 0, 1) := by decide +kernel
theorem dX11_out_8 : decode cX11_out 8 = .ok (.ldc 38, 2) := by decide +kernel
theorem dX11_out_10 : decode cX11_out 10 = .ok (.invokevirtual 40, 3) := by decide +kernel
theorem dX11_out_13 : decode cX11_out 13 = .ok (.ireturn, 1) := by decide +kernel
theorem dX11_out_14 : decode cX11_out 14 = .ok (.aload_n 0, 1) := by decide +kernel
theorem dX11_out_15 : decode cX11_out 15 = .ok (.getfield 7, 3) := by decide +kernel
theorem dX11_out_18 : decode cX11_out 18 = .ok (.aload_n 0, 1) := by decide +kernel
theorem dX11_out_19 : decode cX11_out 19 = .ok (.getfield 19, 3) := by decide +kernel
theorem dX11_out_22 : decode cX11_out 22 = .ok (.invokestatic 151, 3) := by decide +kernel
theorem dX11_out_25 : decode cX11_out 25 = .ok (.iconst 0, 1) := by decide +kernel
theorem dX11_out_26 : decode cX11_out 26 = .ok (.istore_n 2, 1) := by decide +kernel
theorem dX11_out_27 : decode cX11_out 27 = .ok (.iload_n 2, 1) := by decide +kernel
theorem dX11_out_28 : decode cX11_out 28 = .ok (.sipush 200, 3) := by decide +kernel
theorem dX11_out_31 : decode cX11_out 31 = .ok (.if_icmp .gt 24, 3) := by decide +kernel
theorem dX11_out_34 : decode cX11_out 34 = .ok (.aload_n 0, 1) := by decide +kernel
theorem dX11_out_35 : decode cX11_out 35 = .ok (.invokevirtual 144, 3) := by decide +kernel
theorem dX11_out_38 : decode cX11_out 38 = .ok (.iload_n 1, 1) := by decide +kernel
theorem dX11_out_39 : decode cX11_out 39 = .ok (.ishr, 1) := by decide +kernel
theorem dX11_out_40 : decode cX11_out 40 = .ok (.iconst 1, 1) := by decide +kernel
theorem dX11_out_41 : decode cX11_out 41 = .ok (.iand, 1) := by decide +kernel
theorem dX11_out_42 : decode cX11_out 42 = .ok (.ifCond .ne 13, 3) := by decide +kernel
theorem dX11_out_45 : decode cX11_out 45 = .ok (.aload_n 0, 1) := by decide +kernel
theorem dX11_out_46 : decode cX11_out 46 = .ok (.invokevirtual 131, 3) := by decide +kernel
theorem dX11_out_49 : decode cX11_out 49 = .ok (.iinc 2 1, 3) := by decide +kernel
theorem dX11_out_52 : decode cX11_out 52 = .ok (.goto (-25), 3) := by decide +kernel
theorem dX11_out_55 : decode cX11_out 55 = .ok (.aload_n 0, 1) := by decide +kernel
theorem dX11_out_56 : decode cX11_out 56 = .ok (.getfield 19, 3) := by decide +kernel
theorem dX11_out_59 : decode cX11_out 59 = .ok (.aload_n 0, 1) := by decide +kernel
theorem dX11_out_60 : decode cX11_out 60 = .ok (.getfield 7, 3) := by decide +kernel
theorem dX11_out_63 : decode cX11_out 63 = .ok (.invokestatic 151, 3) := by decide +kernel
theorem dX11_out_66 : decode cX11_out 66 = .ok (.iload_n 2, 1) := by decide +kernel
theorem dX11_out_67 : decode cX11_out 67 = .ok (.sipush 200, 3) := by decide +kernel
theorem dX11_out_70 : decode cX11_out 70 = .ok (.if_icmp .gt 7, 3) := by decide +kernel
theorem dX11_out_73 : decode cX11_out 73 = .ok (.iload_n 2, 1) := by decide +kernel
theorem dX11_out_74 : decode cX11_out 74 = .ok (.goto 9, 3) := by decide +kernel
theorem dX11_out_77 : decode cX11_out 77 = .ok (.aload_n 0, 1) := by decide +kernel
theorem dX11_out_78 : decode cX11_out 78 = .ok (.ldc 39, 2) := by decide +kernel
theorem dX11_out_80 : decode cX11_out 80 = .ok (.invokevirtual 40, 3) := by decide +kernel
theorem dX11_out_83 : decode cX11_out 83 = .ok (.ireturn, 1) := by decide +kernel
theorem dX11_meet_0 : decode cX11_meet 0 = .ok (.aload_n 0, 1) := by decide +kernel
theorem dX11_meet_1 : decode cX11_meet 1 = .ok (.iload_n 1, 1) := by decide +kernel
theorem dX11_meet_2 : decode cX11_meet 2 = .ok (.invokevirtual 83, 3) := by decide +kernel
theorem dX11_meet_5 : decode cX11_meet 5 = .ok (.ifCond .eq 16, 3) := by decide +kernel
theorem dX11_meet_8 : decode cX11_meet 8 = .ok (.aload_n 0, 1) := by decide +kernel
theorem dX11_meet_9 : decode cX11_meet 9 = .ok (.iload_n 2, 1) := by decide +kernel
theorem dX11_meet_10 : decode cX11_meet 10 = .ok (.invokevirtual 83, 3) := by decide +kernel
theorem dX11_meet_13 : decode cX11_meet 13 = .ok (.ifCond .eq 8, 3) := by decide +kernel
theorem dX11_meet_16 : decode cX11_meet 16 = .ok (.iload_n 1, 1) := by decide +kernel
theorem dX11_meet_17 : decode cX11_meet 17 = .ok (.iload_n 2, 1) := by decide +kernel
theorem dX11_meet_18 : decode cX11_meet 18 = .ok (.if_icmp .ne 10, 3) := by decide +kernel
theorem dX11_meet_21 : decode cX11_meet 21 = .ok (.aload_n 0, 1) := by decide +kernel
theorem dX11_meet_22 : decode cX11_meet 22 = .ok (.ldc 38, 2) := by decide +kernel
theorem dX11_meet_24 : decode cX11_meet 24 = .ok (.invokevirtual 40, 3) := by decide +kernel
theorem dX11_meet_27 : decode cX11_meet 27 = .ok (.ireturn, 1) := by decide +kernel
theorem dX11_meet_28 : decode cX11_meet 28 = .ok (.aload_n 0, 1) := by decide +kernel
theorem dX11_meet_29 : decode cX11_meet 29 = .ok (.getfield 7, 3) := by decide +kernel
theorem dX11_meet_32 : decode cX11_meet 32 = .ok (.aload_n 0, 1) := by decide +kernel
theorem dX11_meet_33 : decode cX11_meet 33 = .ok (.getfield 19, 3) := by decide +kernel
theorem dX11_meet_36 : decode cX11_meet 36 = .ok (.invokestatic 151, 3) := by decide +kernel
theorem dX11_meet_39 : decode cX11_meet 39 = .ok (.iconst 0, 1) := by decide +kernel
theorem dX11_meet_40 : decode cX11_meet 40 = .ok (.istore_n 3, 1) := by decide +kernel
theorem dX11_meet_41 : decode cX11_meet 41 = .ok (.iload_n 3, 1) := by decide +kernel
theorem dX11_meet_42 : decode cX11_meet 42 = .ok (.sipush 200, 3) := by decide +kernel
theorem dX11_meet_45 : decode cX11_meet 45 = .ok (.if_icmp .gt 31, 3) := by decide +kernel
theorem dX11_meet_48 : decode cX11_meet 48 = .ok (.aload_n 0, 1) := by decide +kernel
theorem dX11_meet_49 : decode cX11_meet 49 = .ok (.iload_n 1, 1) := by decide +kernel
theorem dX11_meet_50 : decode cX11_meet 50 = .ok (.iconst 3, 1) := by decide +kernel
theorem dX11_meet_51 : decode cX11_meet 51 = .ok (.invokevirtual 58, 3) := by decide +kernel
theorem dX11_meet_54 : decode cX11_meet 54 = .ok (.ifCond .lt 12, 3) := by decide +kernel
theorem dX11_meet_57 : decode cX11_meet 57 = .ok (.aload_n 0, 1) := by decide +kernel
theorem dX11_meet_58 : decode cX11_meet 58 = .ok (.iload_n 2, 1) := by decide +kernel
theorem dX11_meet_59 : decode cX11_meet 59 = .ok (.iconst 3, 1) := by decide +kernel
theorem dX11_meet_60 : decode cX11_meet 60 = .ok (.invokevirtual 58, 3) := by decide +kernel
theorem dX11_meet_63 : decode cX11_meet 63 = .ok (.ifCond .ge 13, 3) := by decide +kernel
theorem dX11_meet_66 : decode cX11_meet 66 = .ok (.aload_n 0, 1) := by decide +kernel
theorem dX11_meet_67 : decode cX11_meet 67 = .ok (.invokevirtual 131, 3) := by decide +kernel
theorem dX11_meet_70 : decode cX11_meet 70 = .ok (.iinc 3 1, 3) := by decide +kernel
theorem dX11_meet_73 : decode cX11_meet 73 = .ok (.goto (-32), 3) := by decide +kernel
theorem dX11_meet_76 : decode cX11_meet 76 = .ok (.aload_n 0, 1) := by decide +kernel
theorem dX11_meet_77 : decode cX11_meet 77 = .ok (.getfield 19, 3) := by decide +kernel
theorem dX11_meet_80 : decode cX11_meet 80 = .ok (.aload_n 0, 1) := by decide +kernel
theorem dX11_meet_81 : decode cX11_meet 81 = .ok (.getfield 7, 3) := by decide +kernel
theorem dX11_meet_84 : decode cX11_meet 84 = .ok (.invokestatic 151, 3) := by decide +kernel
theorem dX11_meet_87 : decode cX11_meet 87 = .ok (.iload_n 3, 1) := by decide +kernel
theorem dX11_meet_88 : decode cX11_meet 88 = .ok (.sipush 200, 3) := by decide +kernel
theorem dX11_meet_91 : decode cX11_meet 91 = .ok (.if_icmp .gt 7, 3) := by decide +kernel
theorem dX11_meet_94 : decode cX11_meet 94 = .ok (.iload_n 3, 1) := by decide +kernel
theorem dX11_meet_95 : decode cX11_meet 95 = .ok (.goto 9, 3) := by decide +kernel
theorem dX11_meet_98 : decode cX11_meet 98 = .ok (.aload_n 0, 1) := by decide +kernel
theorem dX11_meet_99 : decode cX11_meet 99 = .ok (.ldc 39, 2) := by decide +kernel
theorem dX11_meet_101 : decode cX11_meet 101 = .ok (.invokevirtual 40, 3) := by decide +kernel
theorem dX11_meet_104 : decode cX11_meet 104 = .ok (.ireturn, 1) := by decide +kernel
theorem dX11_kind_0 : decode cX11_kind 0 = .ok (.aload_n 0, 1) := by decide +kernel
theorem dX11_kind_1 : decode cX11_kind 1 = .ok (.iload_n 1, 1) := by decide +kernel
theorem dX11_kind_2 : decode cX11_kind 2 = .ok (.invokevirtual 83, 3) := by decide +kernel
theorem dX11_kind_5 : decode cX11_kind 5 = .ok (.ifCond .eq 15, 3) := by decide +kernel
theorem dX11_kind_8 : decode cX11_kind 8 = .ok (.iload_n 2, 1) := by decide +kernel
theorem dX11_kind_9 : decode cX11_kind 9 = .ok (.i2l, 1) := by decide +kernel
theorem dX11_kind_10 : decode cX11_kind 10 = .ok (.lconst 1, 1) := by decide +kernel
theorem dX11_kind_11 : decode cX11_kind 11 = .ok (.ldc2_w 134, 3) := by decide +kernel
theorem dX11_kind_14 : decode cX11_kind 14 = .ok (.invokestatic 46, 3) := by decide +kernel
theorem dX11_kind_17 : decode cX11_kind 17 = .ok (.ifCond .ne 10, 3) := by decide +kernel
theorem dX11_kind_20 : decode cX11_kind 20 = .ok (.aload_n 0, 1) := by decide +kernel
theorem dX11_kind_21 : decode cX11_kind 21 = .ok (.ldc 38, 2) := by decide +kernel
theorem dX11_kind_23 : decode cX11_kind 23 = .ok (.invokevirtual 40, 3) := by decide +kernel
theorem dX11_kind_26 : decode cX11_kind 26 = .ok (.ireturn, 1) := by decide +kernel
theorem dX11_kind_27 : decode cX11_kind 27 = .ok (.aload_n 0, 1) := by decide +kernel
theorem dX11_kind_28 : decode cX11_kind 28 = .ok (.getfield 7, 3) := by decide +kernel
theorem dX11_kind_31 : decode cX11_kind 31 = .ok (.aload_n 0, 1) := by decide +kernel
theorem dX11_kind_32 : decode cX11_kind 32 = .ok (.getfield 19, 3) := by decide +kernel
theorem dX11_kind_35 : decode cX11_kind 35 = .ok (.invokestatic 151, 3) := by decide +kernel
theorem dX11_kind_38 : decode cX11_kind 38 = .ok (.iconst 0, 1) := by decide +kernel
theorem dX11_kind_39 : decode cX11_kind 39 = .ok (.istore_n 3, 1) := by decide +kernel
theorem dX11_kind_40 : decode cX11_kind 40 = .ok (.iconst (-1), 1) := by decide +kernel
theorem dX11_kind_41 : decode cX11_kind 41 = .ok (.istore 4, 2) := by decide +kernel
theorem dX11_kind_43 : decode cX11_kind 43 = .ok (.iconst 0, 1) := by decide +kernel
theorem dX11_kind_44 : decode cX11_kind 44 = .ok (.istore 5, 2) := by decide +kernel
theorem dX11_kind_46 : decode cX11_kind 46 = .ok (.iload 5, 2) := by decide +kernel
theorem dX11_kind_48 : decode cX11_kind 48 = .ok (.iconst 5, 1) := by decide +kernel
theorem dX11_kind_49 : decode cX11_kind 49 = .ok (.if_icmp .gt 78, 3) := by decide +kernel
theorem dX11_kind_52 : decode cX11_kind 52 = .ok (.aload_n 0, 1) := by decide +kernel
theorem dX11_kind_53 : decode cX11_kind 53 = .ok (.getfield 7, 3) := by decide +kernel
theorem dX11_kind_56 : decode cX11_kind 56 = .ok (.iload_n 1, 1) := by decide +kernel
theorem dX11_kind_57 : decode cX11_kind 57 = .ok (.iconst 0, 1) := by decide +kernel
theorem dX11_kind_58 : decode cX11_kind 58 = .ok (.invokestatic 61, 3) := by decide +kernel
theorem dX11_kind_61 : decode cX11_kind 61 = .ok (.iload 5, 2) := by decide +kernel
theorem dX11_kind_63 : decode cX11_kind 63 = .ok (.iastore, 1) := by decide +kernel
theorem dX11_kind_64 : decode cX11_kind 64 = .ok (.aload_n 0, 1) := by decide +kernel
theorem dX11_kind_65 : decode cX11_kind 65 = .ok (.iload_n 2, 1) := by decide +kernel
theorem dX11_kind_66 : decode cX11_kind 66 = .ok (.invokevirtual 137, 3) := by decide +kernel
theorem dX11_kind_69 : decode cX11_kind 69 = .ok (.aload_n 0, 1) := by decide +kernel
theorem dX11_kind_70 : decode cX11_kind 70 = .ok (.iload_n 1, 1) := by decide +kernel
theorem dX11_kind_71 : decode cX11_kind 71 = .ok (.iconst 1, 1) := by decide +kernel
theorem dX11_kind_72 : decode cX11_kind 72 = .ok (.invokevirtual 58, 3) := by decide +kernel
theorem dX11_kind_75 : decode cX11_kind 75 = .ok (.invokestatic 80, 3) := by decide +kernel
theorem dX11_kind_78 : decode cX11_kind 78 = .ok (.istore 6, 2) := by decide +kernel
theorem dX11_kind_80 : decode cX11_kind 80 = .ok (.aload_n 0, 1) := by decide +kernel
theorem dX11_kind_81 : decode cX11_kind 81 = .ok (.getfield 19, 3) := by decide +kernel
theorem dX11_kind_84 : decode cX11_kind 84 = .ok (.aload_n 0, 1) := by decide +kernel
theorem dX11_kind_85 : decode cX11_kind 85 = .ok (.getfield 7, 3) := by decide +kernel
theorem dX11_kind_88 : decode cX11_kind 88 = .ok (.invokestatic 151, 3) := by decide +kernel
theorem dX11_kind_91 : decode cX11_kind 91 = .ok (.iload 6, 2) := by decide +kernel
theorem dX11_kind_93 : decode cX11_kind 93 = .ok (.iload 4, 2) := by decide +kernel
theorem dX11_kind_95 : decode cX11_kind 95 = .ok (.if_icmp .le 8, 3) := by decide +kernel
theorem dX11_kind_98 : decode cX11_kind 98 = .ok (.iload 5, 2) := by decide +kernel
theorem dX11_kind_100 : decode cX11_kind 100 = .ok (.goto 4, 3) := by decide +kernel
theorem dX11_kind_103 : decode cX11_kind 103 = .ok (.iload_n 3, 1) := by decide +kernel
theorem dX11_kind_104 : decode cX11_kind 104 = .ok (.istore_n 3, 1) := by decide +kernel
theorem dX11_kind_105 : decode cX11_kind 105 = .ok (.iload 6, 2) := by decide +kernel
theorem dX11_kind_107 : decode cX11_kind 107 = .ok (.iload 4, 2) := by decide +kernel
theorem dX11_kind_109 : decode cX11_kind 109 = .ok (.if_icmp .le 8, 3) := by decide +kernel
theorem dX11_kind_112 : decode cX11_kind 112 = .ok (.iload 6, 2) := by decide +kernel
theorem dX11_kind_114 : decode cX11_kind 114 = .ok (.goto 5, 3) := by decide +kernel
theorem dX11_kind_117 : decode cX11_kind 117 = .ok (.iload 4, 2) := by decide +kernel
theorem dX11_kind_119 : decode cX11_kind 119 = .ok (.istore 4, 2) := by decide +kernel
theorem dX11_kind_121 : decode cX11_kind 121 = .ok (.iinc 5 1, 3) := by decide +kernel
theorem dX11_kind_124 : decode cX11_kind 124 = .ok (.goto (-78), 3) := by decide +kernel
theorem dX11_kind_127 : decode cX11_kind 127 = .ok (.iload_n 3, 1) := by decide +kernel
theorem dX11_kind_128 : decode cX11_kind 128 = .ok (.ireturn, 1) := by decide +kernel
theorem dX11_isAsked_0 : decode cX11_isAsked 0 = .ok (.aload_n 0, 1) := by decide +kernel
theorem dX11_isAsked_1 : decode cX11_isAsked 1 = .ok (.iload_n 1, 1) := by decide +kernel
theorem dX11_isAsked_2 : decode cX11_isAsked 2 = .ok (.invokevirtual 83, 3) := by decide +kernel
theorem dX11_isAsked_5 : decode cX11_isAsked 5 = .ok (.ifCond .eq 19, 3) := by decide +kernel
theorem dX11_isAsked_8 : decode cX11_isAsked 8 = .ok (.iload_n 2, 1) := by decide +kernel
theorem dX11_isAsked_9 : decode cX11_isAsked 9 = .ok (.i2l, 1) := by decide +kernel
theorem dX11_isAsked_10 : decode cX11_isAsked 10 = .ok (.lconst 1, 1) := by decide +kernel
theorem dX11_isAsked_11 : decode cX11_isAsked 11 = .ok (.ldc2_w 155, 3) := by decide +kernel
theorem dX11_isAsked_14 : decode cX11_isAsked 14 = .ok (.invokestatic 46, 3) := by decide +kernel
theorem dX11_isAsked_17 : decode cX11_isAsked 17 = .ok (.ifCond .eq 7, 3) := by decide +kernel
theorem dX11_isAsked_20 : decode cX11_isAsked 20 = .ok (.iconst 1, 1) := by decide +kernel
theorem dX11_isAsked_21 : decode cX11_isAsked 21 = .ok (.goto 4, 3) := by decide +kernel
theorem dX11_isAsked_24 : decode cX11_isAsked 24 = .ok (.iconst 0, 1) := by decide +kernel
theorem dX11_isAsked_25 : decode cX11_isAsked 25 = .ok (.ireturn, 1) := by decide +kernel
theorem dX11_forget_0 : decode cX11_forget 0 = .ok (.aload_n 0, 1) := by decide +kernel
theorem dX11_forget_1 : decode cX11_forget 1 = .ok (.iload_n 1, 1) := by decide +kernel
theorem dX11_forget_2 : decode cX11_forget 2 = .ok (.iload_n 2, 1) := by decide +kernel
theorem dX11_forget_3 : decode cX11_forget 3 = .ok (.invokevirtual 157, 3) := by decide +kernel
theorem dX11_forget_6 : decode cX11_forget 6 = .ok (.ifCond .ne 10, 3) := by decide +kernel
theorem dX11_forget_9 : decode cX11_forget 9 = .ok (.aload_n 0, 1) := by decide +kernel
theorem dX11_forget_10 : decode cX11_forget 10 = .ok (.ldc 38, 2) := by decide +kernel
theorem dX11_forget_12 : decode cX11_forget 12 = .ok (.invokevirtual 40, 3) := by decide +kernel
theorem dX11_forget_15 : decode cX11_forget 15 = .ok (.ireturn, 1) := by decide +kernel
theorem dX11_forget_16 : decode cX11_forget 16 = .ok (.aload_n 0, 1) := by decide +kernel
theorem dX11_forget_17 : decode cX11_forget 17 = .ok (.getfield 7, 3) := by decide +kernel
theorem dX11_forget_20 : decode cX11_forget 20 = .ok (.aload_n 0, 1) := by decide +kernel
theorem dX11_forget_21 : decode cX11_forget 21 = .ok (.getfield 19, 3) := by decide +kernel
theorem dX11_forget_24 : decode cX11_forget 24 = .ok (.invokestatic 151, 3) := by decide +kernel
theorem dX11_forget_27 : decode cX11_forget 27 = .ok (.iconst (-1), 1) := by decide +kernel
theorem dX11_forget_28 : decode cX11_forget 28 = .ok (.istore_n 3, 1) := by decide +kernel
theorem dX11_forget_29 : decode cX11_forget 29 = .ok (.iconst (-1), 1) := by decide +kernel
theorem dX11_forget_30 : decode cX11_forget 30 = .ok (.istore 4, 2) := by decide +kernel
theorem dX11_forget_32 : decode cX11_forget 32 = .ok (.iconst 0, 1) := by decide +kernel
theorem dX11_forget_33 : decode cX11_forget 33 = .ok (.istore 5, 2) := by decide +kernel
theorem dX11_forget_35 : decode cX11_forget 35 = .ok (.iload 5, 2) := by decide +kernel
theorem dX11_forget_37 : decode cX11_forget 37 = .ok (.bipush 10, 2) := by decide +kernel
theorem dX11_forget_39 : decode cX11_forget 39 = .ok (.if_icmp .ge 96, 3) := by decide +kernel
theorem dX11_forget_42 : decode cX11_forget 42 = .ok (.aload_n 0, 1) := by decide +kernel
theorem dX11_forget_43 : decode cX11_forget 43 = .ok (.iload_n 1, 1) := by decide +kernel
theorem dX11_forget_44 : decode cX11_forget 44 = .ok (.iconst 1, 1) := by decide +kernel
theorem dX11_forget_45 : decode cX11_forget 45 = .ok (.invokevirtual 58, 3) := by decide +kernel
theorem dX11_forget_48 : decode cX11_forget 48 = .ok (.iload 5, 2) := by decide +kernel
theorem dX11_forget_50 : decode cX11_forget 50 = .ok (.ishr, 1) := by decide +kernel
theorem dX11_forget_51 : decode cX11_forget 51 = .ok (.iconst 1, 1) := by decide +kernel
theorem dX11_forget_52 : decode cX11_forget 52 = .ok (.iand, 1) := by decide +kernel
theorem dX11_forget_53 : decode cX11_forget 53 = .ok (.iconst 1, 1) := by decide +kernel
theorem dX11_forget_54 : decode cX11_forget 54 = .ok (.if_icmp .ne 75, 3) := by decide +kernel
theorem dX11_forget_57 : decode cX11_forget 57 = .ok (.aload_n 0, 1) := by decide +kernel
theorem dX11_forget_58 : decode cX11_forget 58 = .ok (.iload_n 1, 1) := by decide +kernel
theorem dX11_forget_59 : decode cX11_forget 59 = .ok (.aload_n 0, 1) := by decide +kernel
theorem dX11_forget_60 : decode cX11_forget 60 = .ok (.iload_n 1, 1) := by decide +kernel
theorem dX11_forget_61 : decode cX11_forget 61 = .ok (.iconst 1, 1) := by decide +kernel
theorem dX11_forget_62 : decode cX11_forget 62 = .ok (.invokevirtual 58, 3) := by decide +kernel
theorem dX11_forget_65 : decode cX11_forget 65 = .ok (.iconst 1, 1) := by decide +kernel
theorem dX11_forget_66 : decode cX11_forget 66 = .ok (.iload 5, 2) := by decide +kernel
theorem dX11_forget_68 : decode cX11_forget 68 = .ok (.ishl, 1) := by decide +kernel
theorem dX11_forget_69 : decode cX11_forget 69 = .ok (.iconst (-1), 1) := by decide +kernel
theorem dX11_forget_70 : decode cX11_forget 70 = .ok (.ixor, 1) := by decide +kernel
theorem dX11_forget_71 : decode cX11_forget 71 = .ok (.iand, 1) := by decide +kernel
theorem dX11_forget_72 : decode cX11_forget 72 = .ok (.invokevirtual 100, 3) := by decide +kernel
theorem dX11_forget_75 : decode cX11_forget 75 = .ok (.istore 6, 2) := by decide +kernel
theorem dX11_forget_77 : decode cX11_forget 77 = .ok (.aload_n 0, 1) := by decide +kernel
theorem dX11_forget_78 : decode cX11_forget 78 = .ok (.iload_n 2, 1) := by decide +kernel
theorem dX11_forget_79 : decode cX11_forget 79 = .ok (.invokevirtual 137, 3) := by decide +kernel
theorem dX11_forget_82 : decode cX11_forget 82 = .ok (.aload_n 0, 1) := by decide +kernel
theorem dX11_forget_83 : decode cX11_forget 83 = .ok (.invokevirtual 140, 3) := by decide +kernel
theorem dX11_forget_86 : decode cX11_forget 86 = .ok (.istore 7, 2) := by decide +kernel
theorem dX11_forget_88 : decode cX11_forget 88 = .ok (.aload_n 0, 1) := by decide +kernel
theorem dX11_forget_89 : decode cX11_forget 89 = .ok (.getfield 19, 3) := by decide +kernel
theorem dX11_forget_92 : decode cX11_forget 92 = .ok (.aload_n 0, 1) := by decide +kernel
theorem dX11_forget_93 : decode cX11_forget 93 = .ok (.getfield 7, 3) := by decide +kernel
theorem dX11_forget_96 : decode cX11_forget 96 = .ok (.invokestatic 151, 3) := by decide +kernel
theorem dX11_forget_99 : decode cX11_forget 99 = .ok (.iload 7, 2) := by decide +kernel
theorem dX11_forget_101 : decode cX11_forget 101 = .ok (.iload 4, 2) := by decide +kernel
theorem dX11_forget_103 : decode cX11_forget 103 = .ok (.if_icmp .le 8, 3) := by decide +kernel
theorem dX11_forget_106 : decode cX11_forget 106 = .ok (.iload 5, 2) := by decide +kernel
theorem dX11_forget_108 : decode cX11_forget 108 = .ok (.goto 4, 3) := by decide +kernel
theorem dX11_forget_111 : decode cX11_forget 111 = .ok (.iload_n 3, 1) := by decide +kernel
theorem dX11_forget_112 : decode cX11_forget 112 = .ok (.istore_n 3, 1) := by decide +kernel
theorem dX11_forget_113 : decode cX11_forget 113 = .ok (.iload 7, 2) := by decide +kernel
theorem dX11_forget_115 : decode cX11_forget 115 = .ok (.iload 4, 2) := by decide +kernel
theorem dX11_forget_117 : decode cX11_forget 117 = .ok (.if_icmp .le 8, 3) := by decide +kernel
theorem dX11_forget_120 : decode cX11_forget 120 = .ok (.iload 7, 2) := by decide +kernel
theorem dX11_forget_122 : decode cX11_forget 122 = .ok (.goto 5, 3) := by decide +kernel
theorem dX11_forget_125 : decode cX11_forget 125 = .ok (.iload 4, 2) := by decide +kernel
theorem dX11_forget_127 : decode cX11_forget 127 = .ok (.istore 4, 2) := by decide +kernel
theorem dX11_forget_129 : decode cX11_forget 129 = .ok (.iinc 5 1, 3) := by decide +kernel
theorem dX11_forget_132 : decode cX11_forget 132 = .ok (.goto (-97), 3) := by decide +kernel
theorem dX11_forget_135 : decode cX11_forget 135 = .ok (.aload_n 0, 1) := by decide +kernel
theorem dX11_forget_136 : decode cX11_forget 136 = .ok (.iload_n 3, 1) := by decide +kernel
theorem dX11_forget_137 : decode cX11_forget 137 = .ok (.invokevirtual 160, 3) := by decide +kernel
theorem dX11_forget_140 : decode cX11_forget 140 = .ok (.ireturn, 1) := by decide +kernel
theorem dX11_howManyKnow_0 : decode cX11_howManyKnow 0 = .ok (.iconst 0, 1) := by decide +kernel
theorem dX11_howManyKnow_1 : decode cX11_howManyKnow 1 = .ok (.istore_n 2, 1) := by decide +kernel
theorem dX11_howManyKnow_2 : decode cX11_howManyKnow 2 = .ok (.iconst 0, 1) := by decide +kernel
theorem dX11_howManyKnow_3 : decode cX11_howManyKnow 3 = .ok (.istore_n 3, 1) := by decide +kernel
theorem dX11_howManyKnow_4 : decode cX11_howManyKnow 4 = .ok (.iload_n 3, 1) := by decide +kernel
theorem dX11_howManyKnow_5 : decode cX11_howManyKnow 5 = .ok (.aload_n 0, 1) := by decide +kernel
theorem dX11_howManyKnow_6 : decode cX11_howManyKnow 6 = .ok (.getfield 7, 3) := by decide +kernel
theorem dX11_howManyKnow_9 : decode cX11_howManyKnow 9 = .ok (.iconst 0, 1) := by decide +kernel
theorem dX11_howManyKnow_10 : decode cX11_howManyKnow 10 = .ok (.iaload, 1) := by decide +kernel
theorem dX11_howManyKnow_11 : decode cX11_howManyKnow 11 = .ok (.if_icmp .ge 22, 3) := by decide +kernel
theorem dX11_howManyKnow_14 : decode cX11_howManyKnow 14 = .ok (.iload_n 2, 1) := by decide +kernel
theorem dX11_howManyKnow_15 : decode cX11_howManyKnow 15 = .ok (.aload_n 0, 1) := by decide +kernel
theorem dX11_howManyKnow_16 : decode cX11_howManyKnow 16 = .ok (.iload_n 3, 1) := by decide +kernel
theorem dX11_howManyKnow_17 : decode cX11_howManyKnow 17 = .ok (.iconst 1, 1) := by decide +kernel
theorem dX11_howManyKnow_18 : decode cX11_howManyKnow 18 = .ok (.invokevirtual 58, 3) := by decide +kernel
theorem dX11_howManyKnow_21 : decode cX11_howManyKnow 21 = .ok (.iload_n 1, 1) := by decide +kernel
theorem dX11_howManyKnow_22 : decode cX11_howManyKnow 22 = .ok (.ishr, 1) := by decide +kernel
theorem dX11_howManyKnow_23 : decode cX11_howManyKnow 23 = .ok (.iconst 1, 1) := by decide +kernel
theorem dX11_howManyKnow_24 : decode cX11_howManyKnow 24 = .ok (.iand, 1) := by decide +kernel
theorem dX11_howManyKnow_25 : decode cX11_howManyKnow 25 = .ok (.iadd, 1) := by decide +kernel
theorem dX11_howManyKnow_26 : decode cX11_howManyKnow 26 = .ok (.istore_n 2, 1) := by decide +kernel
theorem dX11_howManyKnow_27 : decode cX11_howManyKnow 27 = .ok (.iinc 3 1, 3) := by decide +kernel
theorem dX11_howManyKnow_30 : decode cX11_howManyKnow 30 = .ok (.goto (-26), 3) := by decide +kernel
theorem dX11_howManyKnow_33 : decode cX11_howManyKnow 33 = .ok (.iload_n 2, 1) := by decide +kernel
theorem dX11_howManyKnow_34 : decode cX11_howManyKnow 34 = .ok (.ireturn, 1) := by decide +kernel
theorem dX11_confide_0 : decode cX11_confide 0 = .ok (.aload_n 0, 1) := by decide +kernel
theorem dX11_confide_1 : decode cX11_confide 1 = .ok (.iload_n 1, 1) := by decide +kernel
theorem dX11_confide_2 : decode cX11_confide 2 = .ok (.iload_n 2, 1) := by decide +kernel
theorem dX11_confide_3 : decode cX11_confide 3 = .ok (.invokevirtual 157, 3) := by decide +kernel
theorem dX11_confide_6 : decode cX11_confide 6 = .ok (.ifCond .ne 10, 3) := by decide +kernel
theorem dX11_confide_9 : decode cX11_confide 9 = .ok (.aload_n 0, 1) := by decide +kernel
theorem dX11_confide_10 : decode cX11_confide 10 = .ok (.ldc 38, 2) := by decide +kernel
theorem dX11_confide_12 : decode cX11_confide 12 = .ok (.invokevirtual 40, 3) := by decide +kernel
theorem dX11_confide_15 : decode cX11_confide 15 = .ok (.ireturn, 1) := by decide +kernel
theorem dX11_confide_16 : decode cX11_confide 16 = .ok (.aload_n 0, 1) := by decide +kernel
theorem dX11_confide_17 : decode cX11_confide 17 = .ok (.getfield 7, 3) := by decide +kernel
theorem dX11_confide_20 : decode cX11_confide 20 = .ok (.aload_n 0, 1) := by decide +kernel
theorem dX11_confide_21 : decode cX11_confide 21 = .ok (.getfield 19, 3) := by decide +kernel
theorem dX11_confide_24 : decode cX11_confide 24 = .ok (.invokestatic 151, 3) := by decide +kernel
theorem dX11_confide_27 : decode cX11_confide 27 = .ok (.iconst (-1), 1) := by decide +kernel
theorem dX11_confide_28 : decode cX11_confide 28 = .ok (.istore_n 3, 1) := by decide +kernel
theorem dX11_confide_29 : decode cX11_confide 29 = .ok (.iconst (-1), 1) := by decide +kernel
theorem dX11_confide_30 : decode cX11_confide 30 = .ok (.istore 4, 2) := by decide +kernel
theorem dX11_confide_32 : decode cX11_confide 32 = .ok (.iconst 0, 1) := by decide +kernel
theorem dX11_confide_33 : decode cX11_confide 33 = .ok (.istore 5, 2) := by decide +kernel
theorem dX11_confide_35 : decode cX11_confide 35 = .ok (.iload 5, 2) := by decide +kernel
theorem dX11_confide_37 : decode cX11_confide 37 = .ok (.bipush 10, 2) := by decide +kernel
theorem dX11_confide_39 : decode cX11_confide 39 = .ok (.if_icmp .ge 111, 3) := by decide +kernel
theorem dX11_confide_42 : decode cX11_confide 42 = .ok (.aload_n 0, 1) := by decide +kernel
theorem dX11_confide_43 : decode cX11_confide 43 = .ok (.iload_n 1, 1) := by decide +kernel
theorem dX11_confide_44 : decode cX11_confide 44 = .ok (.iconst 1, 1) := by decide +kernel
theorem dX11_confide_45 : decode cX11_confide 45 = .ok (.invokevirtual 58, 3) := by decide +kernel
theorem dX11_confide_48 : decode cX11_confide 48 = .ok (.iload 5, 2) := by decide +kernel
theorem dX11_confide_50 : decode cX11_confide 50 = .ok (.ishr, 1) := by decide +kernel
theorem dX11_confide_51 : decode cX11_confide 51 = .ok (.iconst 1, 1) := by decide +kernel
theorem dX11_confide_52 : decode cX11_confide 52 = .ok (.iand, 1) := by decide +kernel
theorem dX11_confide_53 : decode cX11_confide 53 = .ok (.ifCond .ne 91, 3) := by decide +kernel
theorem dX11_confide_56 : decode cX11_confide 56 = .ok (.aload_n 0, 1) := by decide +kernel
theorem dX11_confide_57 : decode cX11_confide 57 = .ok (.getfield 7, 3) := by decide +kernel
theorem dX11_confide_60 : decode cX11_confide 60 = .ok (.iload_n 1, 1) := by decide +kernel
theorem dX11_confide_61 : decode cX11_confide 61 = .ok (.iconst 1, 1) := by decide +kernel
theorem dX11_confide_62 : decode cX11_confide 62 = .ok (.invokestatic 61, 3) := by decide +kernel
theorem dX11_confide_65 : decode cX11_confide 65 = .ok (.dup2, 1) := by decide +kernel
theorem dX11_confide_66 : decode cX11_confide 66 = .ok (.iaload, 1) := by decide +kernel
theorem dX11_confide_67 : decode cX11_confide 67 = .ok (.iconst 1, 1) := by decide +kernel
theorem dX11_confide_68 : decode cX11_confide 68 = .ok (.iload 5, 2) := by decide +kernel
theorem dX11_confide_70 : decode cX11_confide 70 = .ok (.ishl, 1) := by decide +kernel
theorem dX11_confide_71 : decode cX11_confide 71 = .ok (.ior, 1) := by decide +kernel
theorem dX11_confide_72 : decode cX11_confide 72 = .ok (.iastore, 1) := by decide +kernel
theorem dX11_confide_73 : decode cX11_confide 73 = .ok (.aload_n 0, 1) := by decide +kernel
theorem dX11_confide_74 : decode cX11_confide 74 = .ok (.getfield 7, 3) := by decide +kernel
theorem dX11_confide_77 : decode cX11_confide 77 = .ok (.iload_n 1, 1) := by decide +kernel
theorem dX11_confide_78 : decode cX11_confide 78 = .ok (.iconst 2, 1) := by decide +kernel
theorem dX11_confide_79 : decode cX11_confide 79 = .ok (.invokestatic 61, 3) := by decide +kernel
theorem dX11_confide_82 : decode cX11_confide 82 = .ok (.dup2, 1) := by decide +kernel
theorem dX11_confide_83 : decode cX11_confide 83 = .ok (.iaload, 1) := by decide +kernel
theorem dX11_confide_84 : decode cX11_confide 84 = .ok (.iconst 1, 1) := by decide +kernel
theorem dX11_confide_85 : decode cX11_confide 85 = .ok (.iload 5, 2) := by decide +kernel
theorem dX11_confide_87 : decode cX11_confide 87 = .ok (.ishl, 1) := by decide +kernel
theorem dX11_confide_88 : decode cX11_confide 88 = .ok (.ior, 1) := by decide +kernel
theorem dX11_confide_89 : decode cX11_confide 89 = .ok (.iastore, 1) := by decide +kernel
theorem dX11_confide_90 : decode cX11_confide 90 = .ok (.aload_n 0, 1) := by decide +kernel
theorem dX11_confide_91 : decode cX11_confide 91 = .ok (.iload_n 2, 1) := by decide +kernel
theorem dX11_confide_92 : decode cX11_confide 92 = .ok (.invokevirtual 137, 3) := by decide +kernel
theorem dX11_confide_95 : decode cX11_confide 95 = .ok (.aload_n 0, 1) := by decide +kernel
theorem dX11_confide_96 : decode cX11_confide 96 = .ok (.iload 5, 2) := by decide +kernel
theorem dX11_confide_98 : decode cX11_confide 98 = .ok (.invokevirtual 163, 3) := by decide +kernel
theorem dX11_confide_101 : decode cX11_confide 101 = .ok (.istore 6, 2) := by decide +kernel
theorem dX11_confide_103 : decode cX11_confide 103 = .ok (.aload_n 0, 1) := by decide +kernel
theorem dX11_confide_104 : decode cX11_confide 104 = .ok (.getfield 19, 3) := by decide +kernel
theorem dX11_confide_107 : decode cX11_confide 107 = .ok (.aload_n 0, 1) := by decide +kernel
theorem dX11_confide_108 : decode cX11_confide 108 = .ok (.getfield 7, 3) := by decide +kernel
theorem dX11_confide_111 : decode cX11_confide 111 = .ok (.invokestatic 151, 3) := by decide +kernel
theorem dX11_confide_114 : decode cX11_confide 114 = .ok (.iload 6, 2) := by decide +kernel
theorem dX11_confide_116 : decode cX11_confide 116 = .ok (.iload 4, 2) := by decide +kernel
theorem dX11_confide_118 : decode cX11_confide 118 = .ok (.if_icmp .le 8, 3) := by decide +kernel
theorem dX11_confide_121 : decode cX11_confide 121 = .ok (.iload 5, 2) := by decide +kernel
theorem dX11_confide_123 : decode cX11_confide 123 = .ok (.goto 4, 3) := by decide +kernel
theorem dX11_confide_126 : decode cX11_confide 126 = .ok (.iload_n 3, 1) := by decide +kernel
theorem dX11_confide_127 : decode cX11_confide 127 = .ok (.istore_n 3, 1) := by decide +kernel
theorem dX11_confide_128 : decode cX11_confide 128 = .ok (.iload 6, 2) := by decide +kernel
theorem dX11_confide_130 : decode cX11_confide 130 = .ok (.iload 4, 2) := by decide +kernel
theorem dX11_confide_132 : decode cX11_confide 132 = .ok (.if_icmp .le 8, 3) := by decide +kernel
theorem dX11_confide_135 : decode cX11_confide 135 = .ok (.iload 6, 2) := by decide +kernel
theorem dX11_confide_137 : decode cX11_confide 137 = .ok (.goto 5, 3) := by decide +kernel
theorem dX11_confide_140 : decode cX11_confide 140 = .ok (.iload 4, 2) := by decide +kernel
theorem dX11_confide_142 : decode cX11_confide 142 = .ok (.istore 4, 2) := by decide +kernel
theorem dX11_confide_144 : decode cX11_confide 144 = .ok (.iinc 5 1, 3) := by decide +kernel
theorem dX11_confide_147 : decode cX11_confide 147 = .ok (.goto (-112), 3) := by decide +kernel
theorem dX11_confide_150 : decode cX11_confide 150 = .ok (.aload_n 0, 1) := by decide +kernel
theorem dX11_confide_151 : decode cX11_confide 151 = .ok (.iload_n 3, 1) := by decide +kernel
theorem dX11_confide_152 : decode cX11_confide 152 = .ok (.invokevirtual 160, 3) := by decide +kernel
theorem dX11_confide_155 : decode cX11_confide 155 = .ok (.ireturn, 1) := by decide +kernel
theorem dX11_enough_0 : decode cX11_enough 0 = .ok (.aload_n 0, 1) := by decide +kernel
theorem dX11_enough_1 : decode cX11_enough 1 = .ok (.iload_n 1, 1) := by decide +kernel
theorem dX11_enough_2 : decode cX11_enough 2 = .ok (.invokevirtual 83, 3) := by decide +kernel
theorem dX11_enough_5 : decode cX11_enough 5 = .ok (.ifCond .eq 15, 3) := by decide +kernel
theorem dX11_enough_8 : decode cX11_enough 8 = .ok (.iload_n 2, 1) := by decide +kernel
theorem dX11_enough_9 : decode cX11_enough 9 = .ok (.i2l, 1) := by decide +kernel
theorem dX11_enough_10 : decode cX11_enough 10 = .ok (.lconst 1, 1) := by decide +kernel
theorem dX11_enough_11 : decode cX11_enough 11 = .ok (.ldc2_w 166, 3) := by decide +kernel
theorem dX11_enough_14 : decode cX11_enough 14 = .ok (.invokestatic 46, 3) := by decide +kernel
theorem dX11_enough_17 : decode cX11_enough 17 = .ok (.ifCond .ne 10, 3) := by decide +kernel
theorem dX11_enough_20 : decode cX11_enough 20 = .ok (.aload_n 0, 1) := by decide +kernel
theorem dX11_enough_21 : decode cX11_enough 21 = .ok (.ldc 38, 2) := by decide +kernel
theorem dX11_enough_23 : decode cX11_enough 23 = .ok (.invokevirtual 40, 3) := by decide +kernel
theorem dX11_enough_26 : decode cX11_enough 26 = .ok (.ireturn, 1) := by decide +kernel
theorem dX11_enough_27 : decode cX11_enough 27 = .ok (.aload_n 0, 1) := by decide +kernel
theorem dX11_enough_28 : decode cX11_enough 28 = .ok (.getfield 7, 3) := by decide +kernel
theorem dX11_enough_31 : decode cX11_enough 31 = .ok (.aload_n 0, 1) := by decide +kernel
theorem dX11_enough_32 : decode cX11_enough 32 = .ok (.getfield 19, 3) := by decide +kernel
theorem dX11_enough_35 : decode cX11_enough 35 = .ok (.invokestatic 151, 3) := by decide +kernel
theorem dX11_enough_38 : decode cX11_enough 38 = .ok (.iconst 0, 1) := by decide +kernel
theorem dX11_enough_39 : decode cX11_enough 39 = .ok (.istore_n 3, 1) := by decide +kernel
theorem dX11_enough_40 : decode cX11_enough 40 = .ok (.iload_n 3, 1) := by decide +kernel
theorem dX11_enough_41 : decode cX11_enough 41 = .ok (.sipush 200, 3) := by decide +kernel
theorem dX11_enough_44 : decode cX11_enough 44 = .ok (.if_icmp .gt 34, 3) := by decide +kernel
theorem dX11_enough_47 : decode cX11_enough 47 = .ok (.aload_n 0, 1) := by decide +kernel
theorem dX11_enough_48 : decode cX11_enough 48 = .ok (.iload_n 1, 1) := by decide +kernel
theorem dX11_enough_49 : decode cX11_enough 49 = .ok (.iconst 5, 1) := by decide +kernel
theorem dX11_enough_50 : decode cX11_enough 50 = .ok (.invokevirtual 58, 3) := by decide +kernel
theorem dX11_enough_53 : decode cX11_enough 53 = .ok (.aload_n 0, 1) := by decide +kernel
theorem dX11_enough_54 : decode cX11_enough 54 = .ok (.getfield 19, 3) := by decide +kernel
theorem dX11_enough_57 : decode cX11_enough 57 = .ok (.iload_n 1, 1) := by decide +kernel
theorem dX11_enough_58 : decode cX11_enough 58 = .ok (.iconst 5, 1) := by decide +kernel
theorem dX11_enough_59 : decode cX11_enough 59 = .ok (.invokestatic 61, 3) := by decide +kernel
theorem dX11_enough_62 : decode cX11_enough 62 = .ok (.iaload, 1) := by decide +kernel
theorem dX11_enough_63 : decode cX11_enough 63 = .ok (.isub, 1) := by decide +kernel
theorem dX11_enough_64 : decode cX11_enough 64 = .ok (.iload_n 2, 1) := by decide +kernel
theorem dX11_enough_65 : decode cX11_enough 65 = .ok (.if_icmp .ge 13, 3) := by decide +kernel
theorem dX11_enough_68 : decode cX11_enough 68 = .ok (.aload_n 0, 1) := by decide +kernel
theorem dX11_enough_69 : decode cX11_enough 69 = .ok (.invokevirtual 131, 3) := by decide +kernel
theorem dX11_enough_72 : decode cX11_enough 72 = .ok (.iinc 3 1, 3) := by decide +kernel
theorem dX11_enough_75 : decode cX11_enough 75 = .ok (.goto (-35), 3) := by decide +kernel
theorem dX11_enough_78 : decode cX11_enough 78 = .ok (.aload_n 0, 1) := by decide +kernel
theorem dX11_enough_79 : decode cX11_enough 79 = .ok (.getfield 19, 3) := by decide +kernel
theorem dX11_enough_82 : decode cX11_enough 82 = .ok (.aload_n 0, 1) := by decide +kernel
theorem dX11_enough_83 : decode cX11_enough 83 = .ok (.getfield 7, 3) := by decide +kernel
theorem dX11_enough_86 : decode cX11_enough 86 = .ok (.invokestatic 151, 3) := by decide +kernel
theorem dX11_enough_89 : decode cX11_enough 89 = .ok (.iload_n 3, 1) := by decide +kernel
theorem dX11_enough_90 : decode cX11_enough 90 = .ok (.sipush 200, 3) := by decide +kernel
theorem dX11_enough_93 : decode cX11_enough 93 = .ok (.if_icmp .gt 7, 3) := by decide +kernel
theorem dX11_enough_96 : decode cX11_enough 96 = .ok (.iload_n 3, 1) := by decide +kernel
theorem dX11_enough_97 : decode cX11_enough 97 = .ok (.goto 9, 3) := by decide +kernel
theorem dX11_enough_100 : decode cX11_enough 100 = .ok (.aload_n 0, 1) := by decide +kernel
theorem dX11_enough_101 : decode cX11_enough 101 = .ok (.ldc 39, 2) := by decide +kernel
theorem dX11_enough_103 : decode cX11_enough 103 = .ok (.invokevirtual 40, 3) := by decide +kernel
theorem dX11_enough_106 : decode cX11_enough 106 = .ok (.ireturn, 1) := by decide +kernel
theorem dX11_doubt_0 : decode cX11_doubt 0 = .ok (.iload_n 1, 1) := by decide +kernel
theorem dX11_doubt_1 : decode cX11_doubt 1 = .ok (.i2l, 1) := by decide +kernel
theorem dX11_doubt_2 : decode cX11_doubt 2 = .ok (.lconst 1, 1) := by decide +kernel
theorem dX11_doubt_3 : decode cX11_doubt 3 = .ok (.ldc2_w 155, 3) := by decide +kernel
theorem dX11_doubt_6 : decode cX11_doubt 6 = .ok (.invokestatic 46, 3) := by decide +kernel
theorem dX11_doubt_9 : decode cX11_doubt 9 = .ok (.ifCond .ne 10, 3) := by decide +kernel
theorem dX11_doubt_12 : decode cX11_doubt 12 = .ok (.aload_n 0, 1) := by decide +kernel
theorem dX11_doubt_13 : decode cX11_doubt 13 = .ok (.ldc 38, 2) := by decide +kernel
theorem dX11_doubt_15 : decode cX11_doubt 15 = .ok (.invokevirtual 40, 3) := by decide +kernel
theorem dX11_doubt_18 : decode cX11_doubt 18 = .ok (.ireturn, 1) := by decide +kernel
theorem dX11_doubt_19 : decode cX11_doubt 19 = .ok (.aload_n 0, 1) := by decide +kernel
theorem dX11_doubt_20 : decode cX11_doubt 20 = .ok (.getfield 7, 3) := by decide +kernel
theorem dX11_doubt_23 : decode cX11_doubt 23 = .ok (.aload_n 0, 1) := by decide +kernel
theorem dX11_doubt_24 : decode cX11_doubt 24 = .ok (.getfield 19, 3) := by decide +kernel
theorem dX11_doubt_27 : decode cX11_doubt 27 = .ok (.invokestatic 151, 3) := by decide +kernel
theorem dX11_doubt_30 : decode cX11_doubt 30 = .ok (.iconst 0, 1) := by decide +kernel
theorem dX11_doubt_31 : decode cX11_doubt 31 = .ok (.istore_n 2, 1) := by decide +kernel
theorem dX11_doubt_32 : decode cX11_doubt 32 = .ok (.iconst (-1), 1) := by decide +kernel
theorem dX11_doubt_33 : decode cX11_doubt 33 = .ok (.istore_n 3, 1) := by decide +kernel
theorem dX11_doubt_34 : decode cX11_doubt 34 = .ok (.iconst 0, 1) := by decide +kernel
theorem dX11_doubt_35 : decode cX11_doubt 35 = .ok (.istore 4, 2) := by decide +kernel
theorem dX11_doubt_37 : decode cX11_doubt 37 = .ok (.iload 4, 2) := by decide +kernel
theorem dX11_doubt_39 : decode cX11_doubt 39 = .ok (.bipush 10, 2) := by decide +kernel
theorem dX11_doubt_41 : decode cX11_doubt 41 = .ok (.if_icmp .ge 70, 3) := by decide +kernel
theorem dX11_doubt_44 : decode cX11_doubt 44 = .ok (.aload_n 0, 1) := by decide +kernel
theorem dX11_doubt_45 : decode cX11_doubt 45 = .ok (.getfield 7, 3) := by decide +kernel
theorem dX11_doubt_48 : decode cX11_doubt 48 = .ok (.iconst 2, 1) := by decide +kernel
theorem dX11_doubt_49 : decode cX11_doubt 49 = .ok (.dup2, 1) := by decide +kernel
theorem dX11_doubt_50 : decode cX11_doubt 50 = .ok (.iaload, 1) := by decide +kernel
theorem dX11_doubt_51 : decode cX11_doubt 51 = .ok (.iconst 1, 1) := by decide +kernel
theorem dX11_doubt_52 : decode cX11_doubt 52 = .ok (.iload 4, 2) := by decide +kernel
theorem dX11_doubt_54 : decode cX11_doubt 54 = .ok (.ishl, 1) := by decide +kernel
theorem dX11_doubt_55 : decode cX11_doubt 55 = .ok (.ixor, 1) := by decide +kernel
theorem dX11_doubt_56 : decode cX11_doubt 56 = .ok (.iastore, 1) := by decide +kernel
theorem dX11_doubt_57 : decode cX11_doubt 57 = .ok (.aload_n 0, 1) := by decide +kernel
theorem dX11_doubt_58 : decode cX11_doubt 58 = .ok (.iload_n 1, 1) := by decide +kernel
theorem dX11_doubt_59 : decode cX11_doubt 59 = .ok (.invokevirtual 137, 3) := by decide +kernel
theorem dX11_doubt_62 : decode cX11_doubt 62 = .ok (.aload_n 0, 1) := by decide +kernel
theorem dX11_doubt_63 : decode cX11_doubt 63 = .ok (.invokevirtual 168, 3) := by decide +kernel
theorem dX11_doubt_66 : decode cX11_doubt 66 = .ok (.istore 5, 2) := by decide +kernel
theorem dX11_doubt_68 : decode cX11_doubt 68 = .ok (.aload_n 0, 1) := by decide +kernel
theorem dX11_doubt_69 : decode cX11_doubt 69 = .ok (.getfield 19, 3) := by decide +kernel
theorem dX11_doubt_72 : decode cX11_doubt 72 = .ok (.aload_n 0, 1) := by decide +kernel
theorem dX11_doubt_73 : decode cX11_doubt 73 = .ok (.getfield 7, 3) := by decide +kernel
theorem dX11_doubt_76 : decode cX11_doubt 76 = .ok (.invokestatic 151, 3) := by decide +kernel
theorem dX11_doubt_79 : decode cX11_doubt 79 = .ok (.iload 5, 2) := by decide +kernel
theorem dX11_doubt_81 : decode cX11_doubt 81 = .ok (.iload_n 3, 1) := by decide +kernel
theorem dX11_doubt_82 : decode cX11_doubt 82 = .ok (.if_icmp .le 8, 3) := by decide +kernel
theorem dX11_doubt_85 : decode cX11_doubt 85 = .ok (.iload 4, 2) := by decide +kernel
theorem dX11_doubt_87 : decode cX11_doubt 87 = .ok (.goto 4, 3) := by decide +kernel
theorem dX11_doubt_90 : decode cX11_doubt 90 = .ok (.iload_n 2, 1) := by decide +kernel
theorem dX11_doubt_91 : decode cX11_doubt 91 = .ok (.istore_n 2, 1) := by decide +kernel
theorem dX11_doubt_92 : decode cX11_doubt 92 = .ok (.iload 5, 2) := by decide +kernel
theorem dX11_doubt_94 : decode cX11_doubt 94 = .ok (.iload_n 3, 1) := by decide +kernel
theorem dX11_doubt_95 : decode cX11_doubt 95 = .ok (.if_icmp .le 8, 3) := by decide +kernel
theorem dX11_doubt_98 : decode cX11_doubt 98 = .ok (.iload 5, 2) := by decide +kernel
theorem dX11_doubt_100 : decode cX11_doubt 100 = .ok (.goto 4, 3) := by decide +kernel
theorem dX11_doubt_103 : decode cX11_doubt 103 = .ok (.iload_n 3, 1) := by decide +kernel
theorem dX11_doubt_104 : decode cX11_doubt 104 = .ok (.istore_n 3, 1) := by decide +kernel
theorem dX11_doubt_105 : decode cX11_doubt 105 = .ok (.iinc 4 1, 3) := by decide +kernel

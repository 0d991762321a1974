theorem dX0_init_0 : decode cX0_init 0 = .ok (.aload_n 0, 1) := by decide +kernel
theorem dX0_init_1 : decode cX0_init 1 = .ok (.invokespecial 1, 3) := by decide +kernel
theorem dX0_init_4 : decode cX0_init 4 = .ok (.return_, 1) := by decide +kernel
theorem dX0_says_0 : decode cX0_says 0 = .ok (.aload_n 1, 1) := by decide +kernel
theorem dX0_says_1 : decode cX0_says 1 = .ok (.getfield 7, 3) := by decide +kernel
theorem dX0_says_4 : decode cX0_says 4 = .ok (.invokestatic 13, 3) := by decide +kernel
theorem dX0_says_7 : decode cX0_says 7 = .ok (.ireturn, 1) := by decide +kernel
theorem dX0_believes_0 : decode cX0_believes 0 = .ok (.iconst 1, 1) := by decide +kernel
theorem dX0_believes_1 : decode cX0_believes 1 = .ok (.ireturn, 1) := by decide +kernel
theorem dX0_stays_0 : decode cX0_stays 0 = .ok (.aload_n 0, 1) := by decide +kernel
theorem dX0_stays_1 : decode cX0_stays 1 = .ok (.aload_n 1, 1) := by decide +kernel
theorem dX0_stays_2 : decode cX0_stays 2 = .ok (.invokespecial 19, 3) := by decide +kernel
theorem dX0_stays_5 : decode cX0_stays 5 = .ok (.iconst 1, 1) := by decide +kernel
theorem dX0_stays_6 : decode cX0_stays 6 = .ok (.iadd, 1) := by decide +kernel
theorem dX0_stays_7 : decode cX0_stays 7 = .ok (.ireturn, 1) := by decide +kernel
theorem dX1_init_0 : decode cX1_init 0 = .ok (.aload_n 0, 1) := by decide +kernel
theorem dX1_init_1 : decode cX1_init 1 = .ok (.invokespecial 1, 3) := by decide +kernel
theorem dX1_init_4 : decode cX1_init 4 = .ok (.return_, 1) := by decide +kernel
theorem dX1_says_0 : decode cX1_says 0 = .ok (.iload_n 2, 1) := by decide +kernel
theorem dX1_says_1 : decode cX1_says 1 = .ok (.ifCond .eq 10, 3) := by decide +kernel
theorem dX1_says_4 : decode cX1_says 4 = .ok (.iload_n 2, 1) := by decide +kernel
theorem dX1_says_5 : decode cX1_says 5 = .ok (.invokestatic 7, 3) := by decide +kernel
theorem dX1_says_8 : decode cX1_says 8 = .ok (.goto 8, 3) := by decide +kernel
theorem dX1_says_11 : decode cX1_says 11 = .ok (.aload_n 0, 1) := by decide +kernel
theorem dX1_says_12 : decode cX1_says 12 = .ok (.aload_n 1, 1) := by decide +kernel
theorem dX1_says_13 : decode cX1_says 13 = .ok (.invokevirtual 13, 3) := by decide +kernel
theorem dX1_says_16 : decode cX1_says 16 = .ok (.ireturn, 1) := by decide +kernel
theorem dX1_believes_0 : decode cX1_believes 0 = .ok (.iload_n 1, 1) := by decide +kernel
theorem dX1_believes_1 : decode cX1_believes 1 = .ok (.ifCond .ne 7, 3) := by decide +kernel
theorem dX1_believes_4 : decode cX1_believes 4 = .ok (.iconst 1, 1) := by decide +kernel
theorem dX1_believes_5 : decode cX1_believes 5 = .ok (.goto 4, 3) := by decide +kernel
theorem dX1_believes_8 : decode cX1_believes 8 = .ok (.iconst 0, 1) := by decide +kernel
theorem dX1_believes_9 : decode cX1_believes 9 = .ok (.ireturn, 1) := by decide +kernel
theorem dX1_stays_0 : decode cX1_stays 0 = .ok (.bipush 9, 2) := by decide +kernel
theorem dX1_stays_2 : decode cX1_stays 2 = .ok (.ireturn, 1) := by decide +kernel
theorem dX2_init_0 : decode cX2_init 0 = .ok (.aload_n 0, 1) := by decide +kernel
theorem dX2_init_1 : decode cX2_init 1 = .ok (.invokespecial 3, 3) := by decide +kernel
theorem dX2_init_4 : decode cX2_init 4 = .ok (.return_, 1) := by decide +kernel
theorem dX2_says_0 : decode cX2_says 0 = .ok (.iload_n 3, 1) := by decide +kernel
theorem dX2_says_1 : decode cX2_says 1 = .ok (.bipush 12, 2) := by decide +kernel
theorem dX2_says_3 : decode cX2_says 3 = .ok (.if_icmp .ge 7, 3) := by decide +kernel
theorem dX2_says_6 : decode cX2_says 6 = .ok (.iconst (-1), 1) := by decide +kernel
theorem dX2_says_7 : decode cX2_says 7 = .ok (.goto 10, 3) := by decide +kernel
theorem dX2_says_10 : decode cX2_says 10 = .ok (.aload_n 0, 1) := by decide +kernel
theorem dX2_says_11 : decode cX2_says 11 = .ok (.aload_n 1, 1) := by decide +kernel
theorem dX2_says_12 : decode cX2_says 12 = .ok (.iload_n 2, 1) := by decide +kernel
theorem dX2_says_13 : decode cX2_says 13 = .ok (.iload_n 3, 1) := by decide +kernel
theorem dX2_says_14 : decode cX2_says 14 = .ok (.invokespecial 9, 3) := by decide +kernel
theorem dX2_says_17 : decode cX2_says 17 = .ok (.ireturn, 1) := by decide +kernel
theorem dX2_stays_0 : decode cX2_stays 0 = .ok (.aload_n 0, 1) := by decide +kernel
theorem dX2_stays_1 : decode cX2_stays 1 = .ok (.aload_n 1, 1) := by decide +kernel
theorem dX2_stays_2 : decode cX2_stays 2 = .ok (.invokespecial 13, 3) := by decide +kernel
theorem dX2_stays_5 : decode cX2_stays 5 = .ok (.aload_n 1, 1) := by decide +kernel
theorem dX2_stays_6 : decode cX2_stays 6 = .ok (.getfield 17, 3) := by decide +kernel
theorem dX2_stays_9 : decode cX2_stays 9 = .ok (.invokestatic 23, 3) := by decide +kernel
theorem dX2_stays_12 : decode cX2_stays 12 = .ok (.iconst 4, 1) := by decide +kernel
theorem dX2_stays_13 : decode cX2_stays 13 = .ok (.idiv, 1) := by decide +kernel
theorem dX2_stays_14 : decode cX2_stays 14 = .ok (.iadd, 1) := by decide +kernel
theorem dX2_stays_15 : decode cX2_stays 15 = .ok (.ireturn, 1) := by decide +kernel
theorem dX3_init_0 : decode cX3_init 0 = .ok (.aload_n 0, 1) := by decide +kernel
theorem dX3_init_1 : decode cX3_init 1 = .ok (.invokespecial 3, 3) := by decide +kernel
theorem dX3_init_4 : decode cX3_init 4 = .ok (.aload_n 0, 1) := by decide +kernel
theorem dX3_init_5 : decode cX3_init 5 = .ok (.aload_n 1, 1) := by decide +kernel
theorem dX3_init_6 : decode cX3_init 6 = .ok (.putfield 9, 3) := by decide +kernel
theorem dX3_init_9 : decode cX3_init 9 = .ok (.aload_n 0, 1) := by decide +kernel
theorem dX3_init_10 : decode cX3_init 10 = .ok (.bipush 8, 2) := by decide +kernel
theorem dX3_init_12 : decode cX3_init 12 = .ok (.anewarray 15, 3) := by decide +kernel
theorem dX3_init_15 : decode cX3_init 15 = .ok (.putfield 17, 3) := by decide +kernel
theorem dX3_init_18 : decode cX3_init 18 = .ok (.iconst 0, 1) := by decide +kernel
theorem dX3_init_19 : decode cX3_init 19 = .ok (.istore_n 2, 1) := by decide +kernel
theorem dX3_init_20 : decode cX3_init 20 = .ok (.iload_n 2, 1) := by decide +kernel
theorem dX3_init_21 : decode cX3_init 21 = .ok (.bipush 8, 2) := by decide +kernel
theorem dX3_init_23 : decode cX3_init 23 = .ok (.if_icmp .ge 22, 3) := by decide +kernel
theorem dX3_init_26 : decode cX3_init 26 = .ok (.aload_n 0, 1) := by decide +kernel
theorem dX3_init_27 : decode cX3_init 27 = .ok (.getfield 17, 3) := by decide +kernel
theorem dX3_init_30 : decode cX3_init 30 = .ok (.iload_n 2, 1) := by decide +kernel
theorem dX3_init_31 : decode cX3_init 31 = .ok (.new 15, 3) := by decide +kernel
theorem dX3_init_34 : decode cX3_init 34 = .ok (.dup, 1) := by decide +kernel
theorem dX3_init_35 : decode cX3_init 35 = .ok (.invokespecial 21, 3) := by decide +kernel
theorem dX3_init_38 : decode cX3_init 38 = .ok (.aastore, 1) := by decide +kernel
theorem dX3_init_39 : decode cX3_init 39 = .ok (.iinc 2 1, 3) := by decide +kernel
theorem dX3_init_42 : decode cX3_init 42 = .ok (.goto (-22), 3) := by decide +kernel
theorem dX3_init_45 : decode cX3_init 45 = .ok (.aload_n 0, 1) := by decide +kernel
theorem dX3_init_46 : decode cX3_init 46 = .ok (.iconst 0, 1) := by decide +kernel
theorem dX3_init_47 : decode cX3_init 47 = .ok (.putfield 22, 3) := by decide +kernel
theorem dX3_init_50 : decode cX3_init 50 = .ok (.aload_n 0, 1) := by decide +kernel
theorem dX3_init_51 : decode cX3_init 51 = .ok (.iconst 0, 1) := by decide +kernel
theorem dX3_init_52 : decode cX3_init 52 = .ok (.putfield 26, 3) := by decide +kernel
theorem dX3_init_55 : decode cX3_init 55 = .ok (.aload_n 0, 1) := by decide +kernel
theorem dX3_init_56 : decode cX3_init 56 = .ok (.iconst 0, 1) := by decide +kernel
theorem dX3_init_57 : decode cX3_init 57 = .ok (.putfield 29, 3) := by decide +kernel
theorem dX3_init_60 : decode cX3_init 60 = .ok (.aload_n 0, 1) := by decide +kernel
theorem dX3_init_61 : decode cX3_init 61 = .ok (.iconst (-1), 1) := by decide +kernel
theorem dX3_init_62 : decode cX3_init 62 = .ok (.putfield 32, 3) := by decide +kernel
theorem dX3_init_65 : decode cX3_init 65 = .ok (.return_, 1) := by decide +kernel
theorem dX3_become_0 : decode cX3_become 0 = .ok (.aload_n 0, 1) := by decide +kernel
theorem dX3_become_1 : decode cX3_become 1 = .ok (.aload_n 1, 1) := by decide +kernel
theorem dX3_become_2 : decode cX3_become 2 = .ok (.getfield 22, 3) := by decide +kernel
theorem dX3_become_5 : decode cX3_become 5 = .ok (.putfield 22, 3) := by decide +kernel
theorem dX3_become_8 : decode cX3_become 8 = .ok (.aload_n 0, 1) := by decide +kernel
theorem dX3_become_9 : decode cX3_become 9 = .ok (.aload_n 1, 1) := by decide +kernel
theorem dX3_become_10 : decode cX3_become 10 = .ok (.getfield 26, 3) := by decide +kernel
theorem dX3_become_13 : decode cX3_become 13 = .ok (.putfield 26, 3) := by decide +kernel
theorem dX3_become_16 : decode cX3_become 16 = .ok (.aload_n 0, 1) := by decide +kernel
theorem dX3_become_17 : decode cX3_become 17 = .ok (.aload_n 1, 1) := by decide +kernel
theorem dX3_become_18 : decode cX3_become 18 = .ok (.getfield 29, 3) := by decide +kernel
theorem dX3_become_21 : decode cX3_become 21 = .ok (.putfield 29, 3) := by decide +kernel
theorem dX3_become_24 : decode cX3_become 24 = .ok (.aload_n 0, 1) := by decide +kernel
theorem dX3_become_25 : decode cX3_become 25 = .ok (.aload_n 1, 1) := by decide +kernel
theorem dX3_become_26 : decode cX3_become 26 = .ok (.getfield 32, 3) := by decide +kernel
theorem dX3_become_29 : decode cX3_become 29 = .ok (.putfield 32, 3) := by decide +kernel
theorem dX3_become_32 : decode cX3_become 32 = .ok (.iconst 0, 1) := by decide +kernel
theorem dX3_become_33 : decode cX3_become 33 = .ok (.istore_n 2, 1) := by decide +kernel
theorem dX3_become_34 : decode cX3_become 34 = .ok (.iload_n 2, 1) := by decide +kernel
theorem dX3_become_35 : decode cX3_become 35 = .ok (.aload_n 0, 1) := by decide +kernel
theorem dX3_become_36 : decode cX3_become 36 = .ok (.getfield 22, 3) := by decide +kernel
theorem dX3_become_39 : decode cX3_become 39 = .ok (.if_icmp .ge 24, 3) := by decide +kernel
theorem dX3_become_42 : decode cX3_become 42 = .ok (.aload_n 0, 1) := by decide +kernel
theorem dX3_become_43 : decode cX3_become 43 = .ok (.getfield 17, 3) := by decide +kernel
theorem dX3_become_46 : decode cX3_become 46 = .ok (.iload_n 2, 1) := by decide +kernel
theorem dX3_become_47 : decode cX3_become 47 = .ok (.aaload, 1) := by decide +kernel
theorem dX3_become_48 : decode cX3_become 48 = .ok (.aload_n 1, 1) := by decide +kernel
theorem dX3_become_49 : decode cX3_become 49 = .ok (.getfield 17, 3) := by decide +kernel
theorem dX3_become_52 : decode cX3_become 52 = .ok (.iload_n 2, 1) := by decide +kernel
theorem dX3_become_53 : decode cX3_become 53 = .ok (.aaload, 1) := by decide +kernel
theorem dX3_become_54 : decode cX3_become 54 = .ok (.invokevirtual 35, 3) := by decide +kernel
theorem dX3_become_57 : decode cX3_become 57 = .ok (.iinc 2 1, 3) := by decide +kernel
theorem dX3_become_60 : decode cX3_become 60 = .ok (.goto (-26), 3) := by decide +kernel
theorem dX3_become_63 : decode cX3_become 63 = .ok (.return_, 1) := by decide +kernel
theorem dX3_has_0 : decode cX3_has 0 = .ok (.iload_n 1, 1) := by decide +kernel
theorem dX3_has_1 : decode cX3_has 1 = .ok (.ifCond .lt 15, 3) := by decide +kernel
theorem dX3_has_4 : decode cX3_has 4 = .ok (.iload_n 1, 1) := by decide +kernel
theorem dX3_has_5 : decode cX3_has 5 = .ok (.aload_n 0, 1) := by decide +kernel
theorem dX3_has_6 : decode cX3_has 6 = .ok (.getfield 22, 3) := by decide +kernel
theorem dX3_has_9 : decode cX3_has 9 = .ok (.if_icmp .ge 7, 3) := by decide +kernel
theorem dX3_has_12 : decode cX3_has 12 = .ok (.iconst 1, 1) := by decide +kernel
theorem dX3_has_13 : decode cX3_has 13 = .ok (.goto 4, 3) := by decide +kernel
theorem dX3_has_16 : decode cX3_has 16 = .ok (.iconst 0, 1) := by decide +kernel
theorem dX3_has_17 : decode cX3_has 17 = .ok (.ireturn, 1) := by decide +kernel
theorem dX3_isFull_0 : decode cX3_isFull 0 = .ok (.aload_n 0, 1) := by decide +kernel
theorem dX3_isFull_1 : decode cX3_isFull 1 = .ok (.getfield 22, 3) := by decide +kernel
theorem dX3_isFull_4 : decode cX3_isFull 4 = .ok (.bipush 8, 2) := by decide +kernel
theorem dX3_isFull_6 : decode cX3_isFull 6 = .ok (.if_icmp .lt 7, 3) := by decide +kernel
theorem dX3_isFull_9 : decode cX3_isFull 9 = .ok (.iconst 1, 1) := by decide +kernel
theorem dX3_isFull_10 : decode cX3_isFull 10 = .ok (.goto 4, 3) := by decide +kernel
theorem dX3_isFull_13 : decode cX3_isFull 13 = .ok (.iconst 0, 1) := by decide +kernel
theorem dX3_isFull_14 : decode cX3_isFull 14 = .ok (.ireturn, 1) := by decide +kernel
theorem dX3_visitor_0 : decode cX3_visitor 0 = .ok (.aload_n 0, 1) := by decide +kernel
theorem dX3_visitor_1 : decode cX3_visitor 1 = .ok (.getfield 17, 3) := by decide +kernel
theorem dX3_visitor_4 : decode cX3_visitor 4 = .ok (.iload_n 1, 1) := by decide +kernel
theorem dX3_visitor_5 : decode cX3_visitor 5 = .ok (.aaload, 1) := by decide +kernel
theorem dX3_visitor_6 : decode cX3_visitor 6 = .ok (.areturn, 1) := by decide +kernel
theorem dX3_welcome_0 : decode cX3_welcome 0 = .ok (.aload_n 0, 1) := by decide +kernel
theorem dX3_welcome_1 : decode cX3_welcome 1 = .ok (.getfield 17, 3) := by decide +kernel
theorem dX3_welcome_4 : decode cX3_welcome 4 = .ok (.aload_n 0, 1) := by decide +kernel
theorem dX3_welcome_5 : decode cX3_welcome 5 = .ok (.getfield 22, 3) := by decide +kernel
theorem dX3_welcome_8 : decode cX3_welcome 8 = .ok (.aaload, 1) := by decide +kernel
theorem dX3_welcome_9 : decode cX3_welcome 9 = .ok (.iload_n 1, 1) := by decide +kernel
theorem dX3_welcome_10 : decode cX3_welcome 10 = .ok (.invokevirtual 39, 3) := by decide +kernel
theorem dX3_welcome_13 : decode cX3_welcome 13 = .ok (.aload_n 0, 1) := by decide +kernel
theorem dX3_welcome_14 : decode cX3_welcome 14 = .ok (.dup, 1) := by decide +kernel
theorem dX3_welcome_15 : decode cX3_welcome 15 = .ok (.getfield 22, 3) := by decide +kernel
theorem dX3_welcome_18 : decode cX3_welcome 18 = .ok (.iconst 1, 1) := by decide +kernel
theorem dX3_welcome_19 : decode cX3_welcome 19 = .ok (.iadd, 1) := by decide +kernel
theorem dX3_welcome_20 : decode cX3_welcome 20 = .ok (.putfield 22, 3) := by decide +kernel
theorem dX3_welcome_23 : decode cX3_welcome 23 = .ok (.aload_n 0, 1) := by decide +kernel
theorem dX3_welcome_24 : decode cX3_welcome 24 = .ok (.getfield 22, 3) := by decide +kernel
theorem dX3_welcome_27 : decode cX3_welcome 27 = .ok (.iconst 1, 1) := by decide +kernel
theorem dX3_welcome_28 : decode cX3_welcome 28 = .ok (.isub, 1) := by decide +kernel
theorem dX3_welcome_29 : decode cX3_welcome 29 = .ok (.ireturn, 1) := by decide +kernel
theorem dX3_hourOfDay_0 : decode cX3_hourOfDay 0 = .ok (.aload_n 0, 1) := by decide +kernel
theorem dX3_hourOfDay_1 : decode cX3_hourOfDay 1 = .ok (.getfield 29, 3) := by decide +kernel
theorem dX3_hourOfDay_4 : decode cX3_hourOfDay 4 = .ok (.bipush 24, 2) := by decide +kernel
theorem dX3_hourOfDay_6 : decode cX3_hourOfDay 6 = .ok (.irem, 1) := by decide +kernel
theorem dX3_hourOfDay_7 : decode cX3_hourOfDay 7 = .ok (.ireturn, 1) := by decide +kernel
theorem dX3_isMonday_0 : decode cX3_isMonday 0 = .ok (.aload_n 0, 1) := by decide +kernel
theorem dX3_isMonday_1 : decode cX3_isMonday 1 = .ok (.getfield 29, 3) := by decide +kernel
theorem dX3_isMonday_4 : decode cX3_isMonday 4 = .ok (.bipush 24, 2) := by decide +kernel
theorem dX3_isMonday_6 : decode cX3_isMonday 6 = .ok (.idiv, 1) := by decide +kernel
theorem dX3_isMonday_7 : decode cX3_isMonday 7 = .ok (.bipush 7, 2) := by decide +kernel
theorem dX3_isMonday_9 : decode cX3_isMonday 9 = .ok (.irem, 1) := by decide +kernel
theorem dX3_isMonday_10 : decode cX3_isMonday 10 = .ok (.ifCond .ne 7, 3) := by decide +kernel
theorem dX3_isMonday_13 : decode cX3_isMonday 13 = .ok (.iconst 1, 1) := by decide +kernel
theorem dX3_isMonday_14 : decode cX3_isMonday 14 = .ok (.goto 4, 3) := by decide +kernel
theorem dX3_isMonday_17 : decode cX3_isMonday 17 = .ok (.iconst 0, 1) := by decide +kernel
theorem dX3_isMonday_18 : decode cX3_isMonday 18 = .ok (.ireturn, 1) := by decide +kernel
theorem dX3_holder_0 : decode cX3_holder 0 = .ok (.iconst 0, 1) := by decide +kernel
theorem dX3_holder_1 : decode cX3_holder 1 = .ok (.istore_n 2, 1) := by decide +kernel
theorem dX3_holder_2 : decode cX3_holder 2 = .ok (.iload_n 2, 1) := by decide +kernel
theorem dX3_holder_3 : decode cX3_holder 3 = .ok (.aload_n 0, 1) := by decide +kernel
theorem dX3_holder_4 : decode cX3_holder 4 = .ok (.getfield 22, 3) := by decide +kernel
theorem dX3_holder_7 : decode cX3_holder 7 = .ok (.if_icmp .ge 24, 3) := by decide +kernel
theorem dX3_holder_10 : decode cX3_holder 10 = .ok (.aload_n 0, 1) := by decide +kernel
theorem dX3_holder_11 : decode cX3_holder 11 = .ok (.getfield 17, 3) := by decide +kernel
theorem dX3_holder_14 : decode cX3_holder 14 = .ok (.iload_n 2, 1) := by decide +kernel
theorem dX3_holder_15 : decode cX3_holder 15 = .ok (.aaload, 1) := by decide +kernel
theorem dX3_holder_16 : decode cX3_holder 16 = .ok (.getfield 43, 3) := by decide +kernel
theorem dX3_holder_19 : decode cX3_holder 19 = .ok (.iload_n 1, 1) := by decide +kernel
theorem dX3_holder_20 : decode cX3_holder 20 = .ok (.if_icmp .ne 5, 3) := by decide +kernel
theorem dX3_holder_23 : decode cX3_holder 23 = .ok (.iload_n 2, 1) := by decide +kernel
theorem dX3_holder_24 : decode cX3_holder 24 = .ok (.ireturn, 1) := by decide +kernel
theorem dX3_holder_25 : decode cX3_holder 25 = .ok (.iinc 2 1, 3) := by decide +kernel
theorem dX3_holder_28 : decode cX3_holder 28 = .ok (.goto (-26), 3) := by decide +kernel
theorem dX3_holder_31 : decode cX3_holder 31 = .ok (.iconst (-1), 1) := by decide +kernel
theorem dX3_holder_32 : decode cX3_holder 32 = .ok (.ireturn, 1) := by decide +kernel
theorem dX3_saidBy_0 : decode cX3_saidBy 0 = .ok (.aload_n 0, 1) := by decide +kernel
theorem dX3_saidBy_1 : decode cX3_saidBy 1 = .ok (.invokevirtual 46, 3) := by decide +kernel
theorem dX3_saidBy_4 : decode cX3_saidBy 4 = .ok (.bipush 22, 2) := by decide +kernel
theorem dX3_saidBy_6 : decode cX3_saidBy 6 = .ok (.if_icmp .lt 5, 3) := by decide +kernel
theorem dX3_saidBy_9 : decode cX3_saidBy 9 = .ok (.iconst (-1), 1) := by decide +kernel
theorem dX3_saidBy_10 : decode cX3_saidBy 10 = .ok (.ireturn, 1) := by decide +kernel
theorem dX3_saidBy_11 : decode cX3_saidBy 11 = .ok (.aload_n 0, 1) := by decide +kernel
theorem dX3_saidBy_12 : decode cX3_saidBy 12 = .ok (.getfield 17, 3) := by decide +kernel
theorem dX3_saidBy_15 : decode cX3_saidBy 15 = .ok (.iload_n 1, 1) := by decide +kernel
theorem dX3_saidBy_16 : decode cX3_saidBy 16 = .ok (.aaload, 1) := by decide +kernel
theorem dX3_saidBy_17 : decode cX3_saidBy 17 = .ok (.astore_n 2, 1) := by decide +kernel
theorem dX3_saidBy_18 : decode cX3_saidBy 18 = .ok (.aload_n 0, 1) := by decide +kernel
theorem dX3_saidBy_19 : decode cX3_saidBy 19 = .ok (.getfield 9, 3) := by decide +kernel
theorem dX3_saidBy_22 : decode cX3_saidBy 22 = .ok (.aload_n 2, 1) := by decide +kernel
theorem dX3_saidBy_23 : decode cX3_saidBy 23 = .ok (.getfield 50, 3) := by decide +kernel
theorem dX3_saidBy_26 : decode cX3_saidBy 26 = .ok (.aaload, 1) := by decide +kernel
theorem dX3_saidBy_27 : decode cX3_saidBy 27 = .ok (.aload_n 2, 1) := by decide +kernel
theorem dX3_saidBy_28 : decode cX3_saidBy 28 = .ok (.aload_n 0, 1) := by decide +kernel
theorem dX3_saidBy_29 : decode cX3_saidBy 29 = .ok (.getfield 26, 3) := by decide +kernel
theorem dX3_saidBy_32 : decode cX3_saidBy 32 = .ok (.aload_n 0, 1) := by decide +kernel
theorem dX3_saidBy_33 : decode cX3_saidBy 33 = .ok (.invokevirtual 46, 3) := by decide +kernel
theorem dX3_saidBy_36 : decode cX3_saidBy 36 = .ok (.invokevirtual 53, 3) := by decide +kernel
theorem dX3_saidBy_39 : decode cX3_saidBy 39 = .ok (.ireturn, 1) := by decide +kernel
theorem dX3_isTrusted_0 : decode cX3_isTrusted 0 = .ok (.aload_n 0, 1) := by decide +kernel
theorem dX3_isTrusted_1 : decode cX3_isTrusted 1 = .ok (.getfield 17, 3) := by decide +kernel
theorem dX3_isTrusted_4 : decode cX3_isTrusted 4 = .ok (.iload_n 1, 1) := by decide +kernel
theorem dX3_isTrusted_5 : decode cX3_isTrusted 5 = .ok (.aaload, 1) := by decide +kernel
theorem dX3_isTrusted_6 : decode cX3_isTrusted 6 = .ok (.astore_n 3, 1) := by decide +kernel
theorem dX3_isTrusted_7 : decode cX3_isTrusted 7 = .ok (.aload_n 0, 1) := by decide +kernel
theorem dX3_isTrusted_8 : decode cX3_isTrusted 8 = .ok (.getfield 9, 3) := by decide +kernel
theorem dX3_isTrusted_11 : decode cX3_isTrusted 11 = .ok (.aload_n 3, 1) := by decide +kernel
theorem dX3_isTrusted_12 : decode cX3_isTrusted 12 = .ok (.getfield 50, 3) := by decide +kernel
theorem dX3_isTrusted_15 : decode cX3_isTrusted 15 = .ok (.aaload, 1) := by decide +kernel
theorem dX3_isTrusted_16 : decode cX3_isTrusted 16 = .ok (.aload_n 0, 1) := by decide +kernel
theorem dX3_isTrusted_17 : decode cX3_isTrusted 17 = .ok (.getfield 26, 3) := by decide +kernel
theorem dX3_isTrusted_20 : decode cX3_isTrusted 20 = .ok (.iload_n 2, 1) := by decide +kernel
theorem dX3_isTrusted_21 : decode cX3_isTrusted 21 = .ok (.invokestatic 59, 3) := by decide +kernel
theorem dX3_isTrusted_24 : decode cX3_isTrusted 24 = .ok (.aload_n 3, 1) := by decide +kernel
theorem dX3_isTrusted_25 : decode cX3_isTrusted 25 = .ok (.getfield 63, 3) := by decide +kernel
theorem dX3_isTrusted_28 : decode cX3_isTrusted 28 = .ok (.invokestatic 66, 3) := by decide +kernel
theorem dX3_isTrusted_31 : decode cX3_isTrusted 31 = .ok (.invokevirtual 72, 3) := by decide +kernel
theorem dX3_isTrusted_34 : decode cX3_isTrusted 34 = .ok (.ireturn, 1) := by decide +kernel
theorem dX3_stayOf_0 : decode cX3_stayOf 0 = .ok (.aload_n 0, 1) := by decide +kernel
theorem dX3_stayOf_1 : decode cX3_stayOf 1 = .ok (.getfield 17, 3) := by decide +kernel
theorem dX3_stayOf_4 : decode cX3_stayOf 4 = .ok (.iload_n 1, 1) := by decide +kernel
theorem dX3_stayOf_5 : decode cX3_stayOf 5 = .ok (.aaload, 1) := by decide +kernel
theorem dX3_stayOf_6 : decode cX3_stayOf 6 = .ok (.astore_n 2, 1) := by decide +kernel
theorem dX3_stayOf_7 : decode cX3_stayOf 7 = .ok (.aload_n 0, 1) := by decide +kernel
theorem dX3_stayOf_8 : decode cX3_stayOf 8 = .ok (.getfield 9, 3) := by decide +kernel
theorem dX3_stayOf_11 : decode cX3_stayOf 11 = .ok (.aload_n 2, 1) := by decide +kernel
theorem dX3_stayOf_12 : decode cX3_stayOf 12 = .ok (.getfield 50, 3) := by decide +kernel
theorem dX3_stayOf_15 : decode cX3_stayOf 15 = .ok (.aaload, 1) := by decide +kernel
theorem dX3_stayOf_16 : decode cX3_stayOf 16 = .ok (.aload_n 2, 1) := by decide +kernel
theorem dX3_stayOf_17 : decode cX3_stayOf 17 = .ok (.invokevirtual 76, 3) := by decide +kernel
theorem dX3_stayOf_20 : decode cX3_stayOf 20 = .ok (.ireturn, 1) := by decide +kernel
theorem dX3_letHoursGo_0 : decode cX3_letHoursGo 0 = .ok (.iconst 0, 1) := by decide +kernel
theorem dX3_letHoursGo_1 : decode cX3_letHoursGo 1 = .ok (.istore_n 2, 1) := by decide +kernel
theorem dX3_letHoursGo_2 : decode cX3_letHoursGo 2 = .ok (.iload_n 2, 1) := by decide +kernel
theorem dX3_letHoursGo_3 : decode cX3_letHoursGo 3 = .ok (.iload_n 1, 1) := by decide +kernel
theorem dX3_letHoursGo_4 : decode cX3_letHoursGo 4 = .ok (.if_icmp .ge 105, 3) := by decide +kernel
theorem dX3_letHoursGo_7 : decode cX3_letHoursGo 7 = .ok (.aload_n 0, 1) := by decide +kernel
theorem dX3_letHoursGo_8 : decode cX3_letHoursGo 8 = .ok (.iconst 0, 1) := by decide +kernel
theorem dX3_letHoursGo_9 : decode cX3_letHoursGo 9 = .ok (.invokevirtual 80, 3) := by decide +kernel
theorem dX3_letHoursGo_12 : decode cX3_letHoursGo 12 = .ok (.istore_n 3, 1) := by decide +kernel
theorem dX3_letHoursGo_13 : decode cX3_letHoursGo 13 = .ok (.aload_n 0, 1) := by decide +kernel
theorem dX3_letHoursGo_14 : decode cX3_letHoursGo 14 = .ok (.iconst 1, 1) := by decide +kernel
theorem dX3_letHoursGo_15 : decode cX3_letHoursGo 15 = .ok (.invokevirtual 80, 3) := by decide +kernel
theorem dX3_letHoursGo_18 : decode cX3_letHoursGo 18 = .ok (.istore 4, 2) := by decide +kernel
theorem dX3_letHoursGo_20 : decode cX3_letHoursGo 20 = .ok (.iload_n 3, 1) := by decide +kernel
theorem dX3_letHoursGo_21 : decode cX3_letHoursGo 21 = .ok (.iconst (-1), 1) := by decide +kernel
theorem dX3_letHoursGo_22 : decode cX3_letHoursGo 22 = .ok (.if_icmp .eq 43, 3) := by decide +kernel
theorem dX3_letHoursGo_25 : decode cX3_letHoursGo 25 = .ok (.iload 4, 2) := by decide +kernel
theorem dX3_letHoursGo_27 : decode cX3_letHoursGo 27 = .ok (.iconst (-1), 1) := by decide +kernel
theorem dX3_letHoursGo_28 : decode cX3_letHoursGo 28 = .ok (.if_icmp .eq 37, 3) := by decide +kernel
theorem dX3_letHoursGo_31 : decode cX3_letHoursGo 31 = .ok (.aload_n 0, 1) := by decide +kernel
theorem dX3_letHoursGo_32 : decode cX3_letHoursGo 32 = .ok (.iload_n 3, 1) := by decide +kernel
theorem dX3_letHoursGo_33 : decode cX3_letHoursGo 33 = .ok (.invokevirtual 83, 3) := by decide +kernel
theorem dX3_letHoursGo_36 : decode cX3_letHoursGo 36 = .ok (.istore 5, 2) := by decide +kernel
theorem dX3_letHoursGo_38 : decode cX3_letHoursGo 38 = .ok (.aload_n 0, 1) := by decide +kernel
theorem dX3_letHoursGo_39 : decode cX3_letHoursGo 39 = .ok (.iload 4, 2) := by decide +kernel
theorem dX3_letHoursGo_41 : decode cX3_letHoursGo 41 = .ok (.invokevirtual 83, 3) := by decide +kernel
theorem dX3_letHoursGo_44 : decode cX3_letHoursGo 44 = .ok (.istore 6, 2) := by decide +kernel
theorem dX3_letHoursGo_46 : decode cX3_letHoursGo 46 = .ok (.aload_n 0, 1) := by decide +kernel
theorem dX3_letHoursGo_47 : decode cX3_letHoursGo 47 = .ok (.iload_n 3, 1) := by decide +kernel
theorem dX3_letHoursGo_48 : decode cX3_letHoursGo 48 = .ok (.iload 5, 2) := by decide +kernel
theorem dX3_letHoursGo_50 : decode cX3_letHoursGo 50 = .ok (.iload 6, 2) := by decide +kernel
theorem dX3_letHoursGo_52 : decode cX3_letHoursGo 52 = .ok (.invokevirtual 86, 3) := by decide +kernel
theorem dX3_letHoursGo_55 : decode cX3_letHoursGo 55 = .ok (.aload_n 0, 1) := by decide +kernel
theorem dX3_letHoursGo_56 : decode cX3_letHoursGo 56 = .ok (.iload 4, 2) := by decide +kernel
theorem dX3_letHoursGo_58 : decode cX3_letHoursGo 58 = .ok (.iload 6, 2) := by decide +kernel
theorem dX3_letHoursGo_60 : decode cX3_letHoursGo 60 = .ok (.iload 5, 2) := by decide +kernel
theorem dX3_letHoursGo_62 : decode cX3_letHoursGo 62 = .ok (.invokevirtual 86, 3) := by decide +kernel
theorem dX3_letHoursGo_65 : decode cX3_letHoursGo 65 = .ok (.aload_n 0, 1) := by decide +kernel
theorem dX3_letHoursGo_66 : decode cX3_letHoursGo 66 = .ok (.iload_n 3, 1) := by decide +kernel
theorem dX3_letHoursGo_67 : decode cX3_letHoursGo 67 = .ok (.invokevirtual 90, 3) := by decide +kernel
theorem dX3_letHoursGo_70 : decode cX3_letHoursGo 70 = .ok (.aload_n 0, 1) := by decide +kernel
theorem dX3_letHoursGo_71 : decode cX3_letHoursGo 71 = .ok (.iload 4, 2) := by decide +kernel
theorem dX3_letHoursGo_73 : decode cX3_letHoursGo 73 = .ok (.invokevirtual 90, 3) := by decide +kernel
theorem dX3_letHoursGo_76 : decode cX3_letHoursGo 76 = .ok (.ior, 1) := by decide +kernel
theorem dX3_letHoursGo_77 : decode cX3_letHoursGo 77 = .ok (.istore 5, 2) := by decide +kernel
theorem dX3_letHoursGo_79 : decode cX3_letHoursGo 79 = .ok (.aload_n 0, 1) := by decide +kernel
theorem dX3_letHoursGo_80 : decode cX3_letHoursGo 80 = .ok (.iconst 0, 1) := by decide +kernel
theorem dX3_letHoursGo_81 : decode cX3_letHoursGo 81 = .ok (.iload 5, 2) := by decide +kernel
theorem dX3_letHoursGo_83 : decode cX3_letHoursGo 83 = .ok (.invokevirtual 93, 3) := by decide +kernel
theorem dX3_letHoursGo_86 : decode cX3_letHoursGo 86 = .ok (.aload_n 0, 1) := by decide +kernel
theorem dX3_letHoursGo_87 : decode cX3_letHoursGo 87 = .ok (.iconst 1, 1) := by decide +kernel
theorem dX3_letHoursGo_88 : decode cX3_letHoursGo 88 = .ok (.iload 5, 2) := by decide +kernel
theorem dX3_letHoursGo_90 : decode cX3_letHoursGo 90 = .ok (.invokevirtual 93, 3) := by decide +kernel
theorem dX3_letHoursGo_93 : decode cX3_letHoursGo 93 = .ok (.aload_n 0, 1) := by decide +kernel
theorem dX3_letHoursGo_94 : decode cX3_letHoursGo 94 = .ok (.dup, 1) := by decide +kernel
theorem dX3_letHoursGo_95 : decode cX3_letHoursGo 95 = .ok (.getfield 29, 3) := by decide +kernel
theorem dX3_letHoursGo_98 : decode cX3_letHoursGo 98 = .ok (.iconst 1, 1) := by decide +kernel
theorem dX3_letHoursGo_99 : decode cX3_letHoursGo 99 = .ok (.iadd, 1) := by decide +kernel
theorem dX3_letHoursGo_100 : decode cX3_letHoursGo 100 = .ok (.putfield 29, 3) := by decide +kernel
theorem dX3_letHoursGo_103 : decode cX3_letHoursGo 103 = .ok (.iinc 2 1, 3) := by decide +kernel
theorem dX3_letHoursGo_106 : decode cX3_letHoursGo 106 = .ok (.goto (-104), 3) := by decide +kernel
theorem dX3_letHoursGo_109 : decode cX3_letHoursGo 109 = .ok (.return_, 1) := by decide +kernel
theorem dX3_bring_0 : decode cX3_bring 0 = .ok (.aload_n 0, 1) := by decide +kernel
theorem dX3_bring_1 : decode cX3_bring 1 = .ok (.getfield 17, 3) := by decide +kernel
theorem dX3_bring_4 : decode cX3_bring 4 = .ok (.iload_n 1, 1) := by decide +kernel
theorem dX3_bring_5 : decode cX3_bring 5 = .ok (.aaload, 1) := by decide +kernel
theorem dX3_bring_6 : decode cX3_bring 6 = .ok (.astore 4, 2) := by decide +kernel
theorem dX3_bring_8 : decode cX3_bring 8 = .ok (.aload_n 0, 1) := by decide +kernel
theorem dX3_bring_9 : decode cX3_bring 9 = .ok (.invokevirtual 97, 3) := by decide +kernel
theorem dX3_bring_12 : decode cX3_bring 12 = .ok (.ifCond .eq 17, 3) := by decide +kernel
theorem dX3_bring_15 : decode cX3_bring 15 = .ok (.iload_n 2, 1) := by decide +kernel
theorem dX3_bring_16 : decode cX3_bring 16 = .ok (.iconst (-1), 1) := by decide +kernel
theorem dX3_bring_17 : decode cX3_bring 17 = .ok (.if_icmp .eq 29, 3) := by decide +kernel
theorem dX3_bring_20 : decode cX3_bring 20 = .ok (.aload 4, 2) := by decide +kernel
theorem dX3_bring_22 : decode cX3_bring 22 = .ok (.iload_n 2, 1) := by decide +kernel
theorem dX3_bring_23 : decode cX3_bring 23 = .ok (.invokevirtual 101, 3) := by decide +kernel
theorem dX3_bring_26 : decode cX3_bring 26 = .ok (.goto 20, 3) := by decide +kernel
theorem dX3_bring_29 : decode cX3_bring 29 = .ok (.iload_n 3, 1) := by decide +kernel
theorem dX3_bring_30 : decode cX3_bring 30 = .ok (.iconst (-1), 1) := by decide +kernel
theorem dX3_bring_31 : decode cX3_bring 31 = .ok (.if_icmp .eq 15, 3) := by decide +kernel
theorem dX3_bring_34 : decode cX3_bring 34 = .ok (.aload 4, 2) := by decide +kernel
theorem dX3_bring_36 : decode cX3_bring 36 = .ok (.iload_n 3, 1) := by decide +kernel
theorem dX3_bring_37 : decode cX3_bring 37 = .ok (.aload_n 0, 1) := by decide +kernel
theorem dX3_bring_38 : decode cX3_bring 38 = .ok (.iload_n 1, 1) := by decide +kernel
theorem dX3_bring_39 : decode cX3_bring 39 = .ok (.iload_n 3, 1) := by decide +kernel
theorem dX3_bring_40 : decode cX3_bring 40 = .ok (.invokevirtual 104, 3) := by decide +kernel
theorem dX3_bring_43 : decode cX3_bring 43 = .ok (.invokevirtual 107, 3) := by decide +kernel
theorem dX3_bring_46 : decode cX3_bring 46 = .ok (.return_, 1) := by decide +kernel
theorem dX3_sitOn_0 : decode cX3_sitOn 0 = .ok (.iload_n 1, 1) := by decide +kernel
theorem dX3_sitOn_1 : decode cX3_sitOn 1 = .ok (.iconst (-1), 1) := by decide +kernel
theorem dX3_sitOn_2 : decode cX3_sitOn 2 = .ok (.if_icmp .ne 5, 3) := by decide +kernel
theorem dX3_sitOn_5 : decode cX3_sitOn 5 = .ok (.iconst 0, 1) := by decide +kernel
theorem dX3_sitOn_6 : decode cX3_sitOn 6 = .ok (.ireturn, 1) := by decide +kernel
theorem dX3_sitOn_7 : decode cX3_sitOn 7 = .ok (.aload_n 0, 1) := by decide +kernel
theorem dX3_sitOn_8 : decode cX3_sitOn 8 = .ok (.getfield 17, 3) := by decide +kernel
theorem dX3_sitOn_11 : decode cX3_sitOn 11 = .ok (.iload_n 1, 1) := by decide +kernel
theorem dX3_sitOn_12 : decode cX3_sitOn 12 = .ok (.aaload, 1) := by decide +kernel
theorem dX3_sitOn_13 : decode cX3_sitOn 13 = .ok (.astore_n 2, 1) := by decide +kernel
theorem dX3_sitOn_14 : decode cX3_sitOn 14 = .ok (.aload_n 2, 1) := by decide +kernel
theorem dX3_sitOn_15 : decode cX3_sitOn 15 = .ok (.dup, 1) := by decide +kernel
theorem dX3_sitOn_16 : decode cX3_sitOn 16 = .ok (.getfield 111, 3) := by decide +kernel
theorem dX3_sitOn_19 : decode cX3_sitOn 19 = .ok (.iconst 1, 1) := by decide +kernel
theorem dX3_sitOn_20 : decode cX3_sitOn 20 = .ok (.iadd, 1) := by decide +kernel
theorem dX3_sitOn_21 : decode cX3_sitOn 21 = .ok (.putfield 111, 3) := by decide +kernel
theorem dX3_sitOn_24 : decode cX3_sitOn 24 = .ok (.aload_n 2, 1) := by decide +kernel
theorem dX3_sitOn_25 : decode cX3_sitOn 25 = .ok (.getfield 111, 3) := by decide +kernel
theorem dX3_sitOn_28 : decode cX3_sitOn 28 = .ok (.aload_n 0, 1) := by decide +kernel
theorem dX3_sitOn_29 : decode cX3_sitOn 29 = .ok (.iload_n 1, 1) := by decide +kernel
theorem dX3_sitOn_30 : decode cX3_sitOn 30 = .ok (.invokevirtual 114, 3) := by decide +kernel
theorem dX3_sitOn_33 : decode cX3_sitOn 33 = .ok (.if_icmp .ge 5, 3) := by decide +kernel
theorem dX3_sitOn_36 : decode cX3_sitOn 36 = .ok (.iconst 0, 1) := by decide +kernel
theorem dX3_sitOn_37 : decode cX3_sitOn 37 = .ok (.ireturn, 1) := by decide +kernel
theorem dX3_sitOn_38 : decode cX3_sitOn 38 = .ok (.aload_n 2, 1) := by decide +kernel
theorem dX3_sitOn_39 : decode cX3_sitOn 39 = .ok (.iconst (-1), 1) := by decide +kernel
theorem dX3_sitOn_40 : decode cX3_sitOn 40 = .ok (.invokevirtual 117, 3) := by decide +kernel
theorem dX3_sitOn_43 : decode cX3_sitOn 43 = .ok (.iconst 1, 1) := by decide +kernel
theorem dX3_sitOn_44 : decode cX3_sitOn 44 = .ok (.iload_n 1, 1) := by decide +kernel
theorem dX3_sitOn_45 : decode cX3_sitOn 45 = .ok (.ishl, 1) := by decide +kernel
theorem dX3_sitOn_46 : decode cX3_sitOn 46 = .ok (.ireturn, 1) := by decide +kernel
theorem dX3_fill_0 : decode cX3_fill 0 = .ok (.aload_n 0, 1) := by decide +kernel
theorem dX3_fill_1 : decode cX3_fill 1 = .ok (.iload_n 1, 1) := by decide +kernel
theorem dX3_fill_2 : decode cX3_fill 2 = .ok (.invokevirtual 80, 3) := by decide +kernel
theorem dX3_fill_5 : decode cX3_fill 5 = .ok (.iconst (-1), 1) := by decide +kernel
theorem dX3_fill_6 : decode cX3_fill 6 = .ok (.if_icmp .eq 4, 3) := by decide +kernel
theorem dX3_fill_9 : decode cX3_fill 9 = .ok (.return_, 1) := by decide +kernel
theorem dX3_fill_10 : decode cX3_fill 10 = .ok (.iconst 1, 1) := by decide +kernel
theorem dX3_fill_11 : decode cX3_fill 11 = .ok (.istore_n 3, 1) := by decide +kernel
theorem dX3_fill_12 : decode cX3_fill 12 = .ok (.iload_n 3, 1) := by decide +kernel
theorem dX3_fill_13 : decode cX3_fill 13 = .ok (.aload_n 0, 1) := by decide +kernel
theorem dX3_fill_14 : decode cX3_fill 14 = .ok (.getfield 22, 3) := by decide +kernel
theorem dX3_fill_17 : decode cX3_fill 17 = .ok (.if_icmp .gt 63, 3) := by decide +kernel
theorem dX3_fill_20 : decode cX3_fill 20 = .ok (.aload_n 0, 1) := by decide +kernel
theorem dX3_fill_21 : decode cX3_fill 21 = .ok (.getfield 32, 3) := by decide +kernel
theorem dX3_fill_24 : decode cX3_fill 24 = .ok (.iload_n 3, 1) := by decide +kernel
theorem dX3_fill_25 : decode cX3_fill 25 = .ok (.iadd, 1) := by decide +kernel
theorem dX3_fill_26 : decode cX3_fill 26 = .ok (.aload_n 0, 1) := by decide +kernel
theorem dX3_fill_27 : decode cX3_fill 27 = .ok (.getfield 22, 3) := by decide +kernel
theorem dX3_fill_30 : decode cX3_fill 30 = .ok (.irem, 1) := by decide +kernel
theorem dX3_fill_31 : decode cX3_fill 31 = .ok (.istore 4, 2) := by decide +kernel
theorem dX3_fill_33 : decode cX3_fill 33 = .ok (.aload_n 0, 1) := by decide +kernel
theorem dX3_fill_34 : decode cX3_fill 34 = .ok (.getfield 17, 3) := by decide +kernel
theorem dX3_fill_37 : decode cX3_fill 37 = .ok (.iload 4, 2) := by decide +kernel
theorem dX3_fill_39 : decode cX3_fill 39 = .ok (.aaload, 1) := by decide +kernel
theorem dX3_fill_40 : decode cX3_fill 40 = .ok (.getfield 43, 3) := by decide +kernel
theorem dX3_fill_43 : decode cX3_fill 43 = .ok (.iconst (-1), 1) := by decide +kernel
theorem dX3_fill_44 : decode cX3_fill 44 = .ok (.if_icmp .ne 30, 3) := by decide +kernel
theorem dX3_fill_47 : decode cX3_fill 47 = .ok (.iload_n 2, 1) := by decide +kernel
theorem dX3_fill_48 : decode cX3_fill 48 = .ok (.iload 4, 2) := by decide +kernel
theorem dX3_fill_50 : decode cX3_fill 50 = .ok (.invokestatic 59, 3) := by decide +kernel
theorem dX3_fill_53 : decode cX3_fill 53 = .ok (.ifCond .ne 21, 3) := by decide +kernel
theorem dX3_fill_56 : decode cX3_fill 56 = .ok (.aload_n 0, 1) := by decide +kernel
theorem dX3_fill_57 : decode cX3_fill 57 = .ok (.getfield 17, 3) := by decide +kernel
theorem dX3_fill_60 : decode cX3_fill 60 = .ok (.iload 4, 2) := by decide +kernel
theorem dX3_fill_62 : decode cX3_fill 62 = .ok (.aaload, 1) := by decide +kernel
theorem dX3_fill_63 : decode cX3_fill 63 = .ok (.iload_n 1, 1) := by decide +kernel
theorem dX3_fill_64 : decode cX3_fill 64 = .ok (.invokevirtual 117, 3) := by decide +kernel
theorem dX3_fill_67 : decode cX3_fill 67 = .ok (.aload_n 0, 1) := by decide +kernel
theorem dX3_fill_68 : decode cX3_fill 68 = .ok (.iload 4, 2) := by decide +kernel
theorem dX3_fill_70 : decode cX3_fill 70 = .ok (.putfield 32, 3) := by decide +kernel
theorem dX3_fill_73 : decode cX3_fill 73 = .ok (.return_, 1) := by decide +kernel
theorem dX3_fill_74 : decode cX3_fill 74 = .ok (.iinc 3 1, 3) := by decide +kernel
theorem dX3_fill_77 : decode cX3_fill 77 = .ok (.goto (-65), 3) := by decide +kernel
theorem dX3_fill_80 : decode cX3_fill 80 = .ok (.return_, 1) := by decide +kernel
theorem dX3_knownToAll_0 : decode cX3_knownToAll 0 = .ok (.aload_n 0, 1) := by decide +kernel
theorem dX3_knownToAll_1 : decode cX3_knownToAll 1 = .ok (.getfield 22, 3) := by decide +kernel
theorem dX3_knownToAll_4 : decode cX3_knownToAll 4 = .ok (.ifCond .ne 7, 3) := by decide +kernel
theorem dX3_knownToAll_7 : decode cX3_knownToAll 7 = .ok (.iconst 0, 1) := by decide +kernel
theorem dX3_knownToAll_8 : decode cX3_knownToAll 8 = .ok (.goto 6, 3) := by decide +kernel
theorem dX3_knownToAll_11 : decode cX3_knownToAll 11 = .ok (.sipush 1023, 3) := by decide +kernel
theorem dX3_knownToAll_14 : decode cX3_knownToAll 14 = .ok (.istore_n 1, 1) := by decide +kernel
theorem dX3_knownToAll_15 : decode cX3_knownToAll 15 = .ok (.iconst 0, 1) := by decide +kernel
theorem dX3_knownToAll_16 : decode cX3_knownToAll 16 = .ok (.istore_n 2, 1) := by decide +kernel
theorem dX3_knownToAll_17 : decode cX3_knownToAll 17 = .ok (.iload_n 2, 1) := by decide +kernel
theorem dX3_knownToAll_18 : decode cX3_knownToAll 18 = .ok (.aload_n 0, 1) := by decide +kernel
theorem dX3_knownToAll_19 : decode cX3_knownToAll 19 = .ok (.getfield 22, 3) := by decide +kernel
theorem dX3_knownToAll_22 : decode cX3_knownToAll 22 = .ok (.if_icmp .ge 21, 3) := by decide +kernel
theorem dX3_knownToAll_25 : decode cX3_knownToAll 25 = .ok (.iload_n 1, 1) := by decide +kernel
theorem dX3_knownToAll_26 : decode cX3_knownToAll 26 = .ok (.aload_n 0, 1) := by decide +kernel
theorem dX3_knownToAll_27 : decode cX3_knownToAll 27 = .ok (.getfield 17, 3) := by decide +kernel
theorem dX3_knownToAll_30 : decode cX3_knownToAll 30 = .ok (.iload_n 2, 1) := by decide +kernel
theorem dX3_knownToAll_31 : decode cX3_knownToAll 31 = .ok (.aaload, 1) := by decide +kernel
theorem dX3_knownToAll_32 : decode cX3_knownToAll 32 = .ok (.getfield 63, 3) := by decide +kernel
theorem dX3_knownToAll_35 : decode cX3_knownToAll 35 = .ok (.iand, 1) := by decide +kernel
theorem dX3_knownToAll_36 : decode cX3_knownToAll 36 = .ok (.istore_n 1, 1) := by decide +kernel
theorem dX3_knownToAll_37 : decode cX3_knownToAll 37 = .ok (.iinc 2 1, 3) := by decide +kernel
theorem dX3_knownToAll_40 : decode cX3_knownToAll 40 = .ok (.goto (-23), 3) := by decide +kernel
theorem dX3_knownToAll_43 : decode cX3_knownToAll 43 = .ok (.iload_n 1, 1) := by decide +kernel
theorem dX3_knownToAll_44 : decode cX3_knownToAll 44 = .ok (.ireturn, 1) := by decide +kernel
theorem dX3_knownTo_0 : decode cX3_knownTo 0 = .ok (.iconst 0, 1) := by decide +kernel
theorem dX3_knownTo_1 : decode cX3_knownTo 1 = .ok (.istore_n 2, 1) := by decide +kernel
theorem dX3_knownTo_2 : decode cX3_knownTo 2 = .ok (.iconst 0, 1) := by decide +kernel
theorem dX3_knownTo_3 : decode cX3_knownTo 3 = .ok (.istore_n 3, 1) := by decide +kernel
theorem dX3_knownTo_4 : decode cX3_knownTo 4 = .ok (.iload_n 3, 1) := by decide +kernel
theorem dX3_knownTo_5 : decode cX3_knownTo 5 = .ok (.aload_n 0, 1) := by decide +kernel
theorem dX3_knownTo_6 : decode cX3_knownTo 6 = .ok (.getfield 22, 3) := by decide +kernel
theorem dX3_knownTo_9 : decode cX3_knownTo 9 = .ok (.if_icmp .ge 25, 3) := by decide +kernel
theorem dX3_knownTo_12 : decode cX3_knownTo 12 = .ok (.iload_n 2, 1) := by decide +kernel
theorem dX3_knownTo_13 : decode cX3_knownTo 13 = .ok (.aload_n 0, 1) := by decide +kernel
theorem dX3_knownTo_14 : decode cX3_knownTo 14 = .ok (.getfield 17, 3) := by decide +kernel
theorem dX3_knownTo_17 : decode cX3_knownTo 17 = .ok (.iload_n 3, 1) := by decide +kernel
theorem dX3_knownTo_18 : decode cX3_knownTo 18 = .ok (.aaload, 1) := by decide +kernel
theorem dX3_knownTo_19 : decode cX3_knownTo 19 = .ok (.getfield 63, 3) := by decide +kernel
theorem dX3_knownTo_22 : decode cX3_knownTo 22 = .ok (.iload_n 1, 1) := by decide +kernel
theorem dX3_knownTo_23 : decode cX3_knownTo 23 = .ok (.ishr, 1) := by decide +kernel
theorem dX3_knownTo_24 : decode cX3_knownTo 24 = .ok (.iconst 1, 1) := by decide +kernel
theorem dX3_knownTo_25 : decode cX3_knownTo 25 = .ok (.iand, 1) := by decide +kernel
theorem dX3_knownTo_26 : decode cX3_knownTo 26 = .ok (.iadd, 1) := by decide +kernel
theorem dX3_knownTo_27 : decode cX3_knownTo 27 = .ok (.istore_n 2, 1) := by decide +kernel
theorem dX3_knownTo_28 : decode cX3_knownTo 28 = .ok (.iinc 3 1, 3) := by decide +kernel
theorem dX3_knownTo_31 : decode cX3_knownTo 31 = .ok (.goto (-27), 3) := by decide +kernel
theorem dX3_knownTo_34 : decode cX3_knownTo 34 = .ok (.iload_n 2, 1) := by decide +kernel
theorem dX3_knownTo_35 : decode cX3_knownTo 35 = .ok (.ireturn, 1) := by decide +kernel
theorem dX3_heardByAll_0 : decode cX3_heardByAll 0 = .ok (.iconst 0, 1) := by decide +kernel
theorem dX3_heardByAll_1 : decode cX3_heardByAll 1 = .ok (.istore_n 1, 1) := by decide +kernel
theorem dX3_heardByAll_2 : decode cX3_heardByAll 2 = .ok (.iconst 0, 1) := by decide +kernel
theorem dX3_heardByAll_3 : decode cX3_heardByAll 3 = .ok (.istore_n 2, 1) := by decide +kernel
theorem dX3_heardByAll_4 : decode cX3_heardByAll 4 = .ok (.iload_n 2, 1) := by decide +kernel
theorem dX3_heardByAll_5 : decode cX3_heardByAll 5 = .ok (.aload_n 0, 1) := by decide +kernel
theorem dX3_heardByAll_6 : decode cX3_heardByAll 6 = .ok (.getfield 22, 3) := by decide +kernel
theorem dX3_heardByAll_9 : decode cX3_heardByAll 9 = .ok (.if_icmp .ge 21, 3) := by decide +kernel
theorem dX3_heardByAll_12 : decode cX3_heardByAll 12 = .ok (.iload_n 1, 1) := by decide +kernel
theorem dX3_heardByAll_13 : decode cX3_heardByAll 13 = .ok (.aload_n 0, 1) := by decide +kernel
theorem dX3_heardByAll_14 : decode cX3_heardByAll 14 = .ok (.getfield 17, 3) := by decide +kernel
theorem dX3_heardByAll_17 : decode cX3_heardByAll 17 = .ok (.iload_n 2, 1) := by decide +kernel
theorem dX3_heardByAll_18 : decode cX3_heardByAll 18 = .ok (.aaload, 1) := by decide +kernel
theorem dX3_heardByAll_19 : decode cX3_heardByAll 19 = .ok (.getfield 120, 3) := by decide +kernel
theorem dX3_heardByAll_22 : decode cX3_heardByAll 22 = .ok (.iadd, 1) := by decide +kernel
theorem dX3_heardByAll_23 : decode cX3_heardByAll 23 = .ok (.istore_n 1, 1) := by decide +kernel
theorem dX3_heardByAll_24 : decode cX3_heardByAll 24 = .ok (.iinc 2 1, 3) := by decide +kernel
theorem dX3_heardByAll_27 : decode cX3_heardByAll 27 = .ok (.goto (-23), 3) := by decide +kernel
theorem dX3_heardByAll_30 : decode cX3_heardByAll 30 = .ok (.iload_n 1, 1) := by decide +kernel
theorem dX3_heardByAll_31 : decode cX3_heardByAll 31 = .ok (.ireturn, 1) := by decide +kernel
theorem dX3_believedByAll_0 : decode cX3_believedByAll 0 = .ok (.iconst 0, 1) := by decide +kernel
theorem dX3_believedByAll_1 : decode cX3_believedByAll 1 = .ok (.istore_n 1, 1) := by decide +kernel
theorem dX3_believedByAll_2 : decode cX3_believedByAll 2 = .ok (.iconst 0, 1) := by decide +kernel
theorem dX3_believedByAll_3 : decode cX3_believedByAll 3 = .ok (.istore_n 2, 1) := by decide +kernel
theorem dX3_believedByAll_4 : decode cX3_believedByAll 4 = .ok (.iload_n 2, 1) := by decide +kernel
theorem dX3_believedByAll_5 : decode cX3_believedByAll 5 = .ok (.aload_n 0, 1) := by decide +kernel
theorem dX3_believedByAll_6 : decode cX3_believedByAll 6 = .ok (.getfield 22, 3) := by decide +kernel
theorem dX3_believedByAll_9 : decode cX3_believedByAll 9 = .ok (.if_icmp .ge 24, 3) := by decide +kernel
theorem dX3_believedByAll_12 : decode cX3_believedByAll 12 = .ok (.iload_n 1, 1) := by decide +kernel
theorem dX3_believedByAll_13 : decode cX3_believedByAll 13 = .ok (.aload_n 0, 1) := by decide +kernel
theorem dX3_believedByAll_14 : decode cX3_believedByAll 14 = .ok (.getfield 17, 3) := by decide +kernel
theorem dX3_believedByAll_17 : decode cX3_believedByAll 17 = .ok (.iload_n 2, 1) := by decide +kernel
theorem dX3_believedByAll_18 : decode cX3_believedByAll 18 = .ok (.aaload, 1) := by decide +kernel
theorem dX3_believedByAll_19 : decode cX3_believedByAll 19 = .ok (.getfield 123, 3) := by decide +kernel
theorem dX3_believedByAll_22 : decode cX3_believedByAll 22 = .ok (.invokestatic 66, 3) := by decide +kernel
theorem dX3_believedByAll_25 : decode cX3_believedByAll 25 = .ok (.iadd, 1) := by decide +kernel
theorem dX3_believedByAll_26 : decode cX3_believedByAll 26 = .ok (.istore_n 1, 1) := by decide +kernel
theorem dX3_believedByAll_27 : decode cX3_believedByAll 27 = .ok (.iinc 2 1, 3) := by decide +kernel
theorem dX3_believedByAll_30 : decode cX3_believedByAll 30 = .ok (.goto (-26), 3) := by decide +kernel
theorem dX3_believedByAll_33 : decode cX3_believedByAll 33 = .ok (.iload_n 1, 1) := by decide +kernel
theorem dX3_believedByAll_34 : decode cX3_believedByAll 34 = .ok (.ireturn, 1) := by decide +kernel
theorem dX4_init_0 : decode cX4_init 0 = .ok (.aload_n 0, 1) := by decide +kernel
theorem dX4_init_1 : decode cX4_init 1 = .ok (.invokespecial 1, 3) := by decide +kernel
theorem dX4_init_4 : decode cX4_init 4 = .ok (.return_, 1) := by decide +kernel
theorem dX4_says_0 : decode cX4_says 0 = .ok (.aload_n 0, 1) := by decide +kernel
theorem dX4_says_1 : decode cX4_says 1 = .ok (.aload_n 1, 1) := by decide +kernel
theorem dX4_says_2 : decode cX4_says 2 = .ok (.invokevirtual 7, 3) := by decide +kernel
theorem dX4_says_5 : decode cX4_says 5 = .ok (.ireturn, 1) := by decide +kernel
theorem dX4_saysAsPerson_0 : decode cX4_saysAsPerson 0 = .ok (.aload_n 1, 1) := by decide +kernel
theorem dX4_saysAsPerson_1 : decode cX4_saysAsPerson 1 = .ok (.getfield 13, 3) := by decide +kernel
theorem dX4_saysAsPerson_4 : decode cX4_saysAsPerson 4 = .ok (.ifCond .eq 10, 3) := by decide +kernel
theorem dX4_saysAsPerson_7 : decode cX4_saysAsPerson 7 = .ok (.aload_n 1, 1) := by decide +kernel
theorem dX4_saysAsPerson_8 : decode cX4_saysAsPerson 8 = .ok (.getfield 13, 3) := by decide +kernel
theorem dX4_saysAsPerson_11 : decode cX4_saysAsPerson 11 = .ok (.goto 7, 3) := by decide +kernel
theorem dX4_saysAsPerson_14 : decode cX4_saysAsPerson 14 = .ok (.aload_n 1, 1) := by decide +kernel
theorem dX4_saysAsPerson_15 : decode cX4_saysAsPerson 15 = .ok (.getfield 19, 3) := by decide +kernel
theorem dX4_saysAsPerson_18 : decode cX4_saysAsPerson 18 = .ok (.invokestatic 22, 3) := by decide +kernel
theorem dX4_saysAsPerson_21 : decode cX4_saysAsPerson 21 = .ok (.ireturn, 1) := by decide +kernel
theorem dX4_believes_0 : decode cX4_believes 0 = .ok (.iload_n 1, 1) := by decide +kernel
theorem dX4_believes_1 : decode cX4_believes 1 = .ok (.ifCond .eq 8, 3) := by decide +kernel
theorem dX4_believes_4 : decode cX4_believes 4 = .ok (.iload_n 2, 1) := by decide +kernel
theorem dX4_believes_5 : decode cX4_believes 5 = .ok (.iconst 3, 1) := by decide +kernel
theorem dX4_believes_6 : decode cX4_believes 6 = .ok (.if_icmp .ge 7, 3) := by decide +kernel
theorem dX4_believes_9 : decode cX4_believes 9 = .ok (.iconst 1, 1) := by decide +kernel
theorem dX4_believes_10 : decode cX4_believes 10 = .ok (.goto 4, 3) := by decide +kernel
theorem dX4_believes_13 : decode cX4_believes 13 = .ok (.iconst 0, 1) := by decide +kernel
theorem dX4_believes_14 : decode cX4_believes 14 = .ok (.ireturn, 1) := by decide +kernel
theorem dX4_stays_0 : decode cX4_stays 0 = .ok (.iconst 3, 1) := by decide +kernel
theorem dX4_stays_1 : decode cX4_stays 1 = .ok (.ireturn, 1) := by decide +kernel
theorem dX5_init_0 : decode cX5_init 0 = .ok (.aload_n 0, 1) := by decide +kernel
theorem dX5_init_1 : decode cX5_init 1 = .ok (.invokespecial 3, 3) := by decide +kernel
theorem dX5_init_4 : decode cX5_init 4 = .ok (.aload_n 0, 1) := by decide +kernel
theorem dX5_init_5 : decode cX5_init 5 = .ok (.bipush 40, 2) := by decide +kernel
theorem dX5_init_7 : decode cX5_init 7 = .ok (.newarray .long, 2) := by decide +kernel
theorem dX5_init_9 : decode cX5_init 9 = .ok (.putfield 9, 3) := by decide +kernel
theorem dX5_init_12 : decode cX5_init 12 = .ok (.return_, 1) := by decide +kernel
theorem dX5_isMissing_0 : decode cX5_isMissing 0 = .ok (.aload_n 0, 1) := by decide +kernel
theorem dX5_isMissing_1 : decode cX5_isMissing 1 = .ok (.getfield 15, 3) := by decide +kernel
theorem dX5_isMissing_4 : decode cX5_isMissing 4 = .ok (.ifCond .ne 7, 3) := by decide +kernel
theorem dX5_isMissing_7 : decode cX5_isMissing 7 = .ok (.iconst 1, 1) := by decide +kernel
theorem dX5_isMissing_8 : decode cX5_isMissing 8 = .ok (.goto 4, 3) := by decide +kernel
theorem dX5_isMissing_11 : decode cX5_isMissing 11 = .ok (.iconst 0, 1) := by decide +kernel
theorem dX5_isMissing_12 : decode cX5_isMissing 12 = .ok (.ireturn, 1) := by decide +kernel
theorem dX5_renew_0 : decode cX5_renew 0 = .ok (.aload_n 0, 1) := by decide +kernel
theorem dX5_renew_1 : decode cX5_renew 1 = .ok (.iload_n 1, 1) := by decide +kernel
theorem dX5_renew_2 : decode cX5_renew 2 = .ok (.putfield 15, 3) := by decide +kernel
theorem dX5_renew_5 : decode cX5_renew 5 = .ok (.aload_n 0, 1) := by decide +kernel
theorem dX5_renew_6 : decode cX5_renew 6 = .ok (.iload_n 2, 1) := by decide +kernel
theorem dX5_renew_7 : decode cX5_renew 7 = .ok (.putfield 19, 3) := by decide +kernel
theorem dX5_renew_10 : decode cX5_renew 10 = .ok (.iconst 0, 1) := by decide +kernel
theorem dX5_renew_11 : decode cX5_renew 11 = .ok (.istore_n 3, 1) := by decide +kernel
theorem dX5_renew_12 : decode cX5_renew 12 = .ok (.iload_n 3, 1) := by decide +kernel
theorem dX5_renew_13 : decode cX5_renew 13 = .ok (.bipush 40, 2) := by decide +kernel
theorem dX5_renew_15 : decode cX5_renew 15 = .ok (.if_icmp .ge 16, 3) := by decide +kernel
theorem dX5_renew_18 : decode cX5_renew 18 = .ok (.aload_n 0, 1) := by decide +kernel
theorem dX5_renew_19 : decode cX5_renew 19 = .ok (.getfield 9, 3) := by decide +kernel
theorem dX5_renew_22 : decode cX5_renew 22 = .ok (.iload_n 3, 1) := by decide +kernel
theorem dX5_renew_23 : decode cX5_renew 23 = .ok (.lconst 0, 1) := by decide +kernel
theorem dX5_renew_24 : decode cX5_renew 24 = .ok (.lastore, 1) := by decide +kernel
theorem dX5_renew_25 : decode cX5_renew 25 = .ok (.iinc 3 1, 3) := by decide +kernel
theorem dX5_renew_28 : decode cX5_renew 28 = .ok (.goto (-16), 3) := by decide +kernel
theorem dX5_renew_31 : decode cX5_renew 31 = .ok (.return_, 1) := by decide +kernel
theorem dX5_hasSpan_0 : decode cX5_hasSpan 0 = .ok (.iload_n 1, 1) := by decide +kernel
theorem dX5_hasSpan_1 : decode cX5_hasSpan 1 = .ok (.ifCond .lt 29, 3) := by decide +kernel
theorem dX5_hasSpan_4 : decode cX5_hasSpan 4 = .ok (.iload_n 2, 1) := by decide +kernel
theorem dX5_hasSpan_5 : decode cX5_hasSpan 5 = .ok (.ifCond .lt 25, 3) := by decide +kernel
theorem dX5_hasSpan_8 : decode cX5_hasSpan 8 = .ok (.iload_n 1, 1) := by decide +kernel
theorem dX5_hasSpan_9 : decode cX5_hasSpan 9 = .ok (.aload_n 0, 1) := by decide +kernel
theorem dX5_hasSpan_10 : decode cX5_hasSpan 10 = .ok (.getfield 19, 3) := by decide +kernel
theorem dX5_hasSpan_13 : decode cX5_hasSpan 13 = .ok (.if_icmp .gt 17, 3) := by decide +kernel
theorem dX5_hasSpan_16 : decode cX5_hasSpan 16 = .ok (.iload_n 2, 1) := by decide +kernel
theorem dX5_hasSpan_17 : decode cX5_hasSpan 17 = .ok (.aload_n 0, 1) := by decide +kernel
theorem dX5_hasSpan_18 : decode cX5_hasSpan 18 = .ok (.getfield 19, 3) := by decide +kernel
theorem dX5_hasSpan_21 : decode cX5_hasSpan 21 = .ok (.iload_n 1, 1) := by decide +kernel
theorem dX5_hasSpan_22 : decode cX5_hasSpan 22 = .ok (.isub, 1) := by decide +kernel
theorem dX5_hasSpan_23 : decode cX5_hasSpan 23 = .ok (.if_icmp .gt 7, 3) := by decide +kernel
theorem dX5_hasSpan_26 : decode cX5_hasSpan 26 = .ok (.iconst 1, 1) := by decide +kernel
theorem dX5_hasSpan_27 : decode cX5_hasSpan 27 = .ok (.goto 4, 3) := by decide +kernel
theorem dX5_hasSpan_30 : decode cX5_hasSpan 30 = .ok (.iconst 0, 1) := by decide +kernel
theorem dX5_hasSpan_31 : decode cX5_hasSpan 31 = .ok (.ireturn, 1) := by decide +kernel
theorem dX5_put_0 : decode cX5_put 0 = .ok (.aload_n 0, 1) := by decide +kernel
theorem dX5_put_1 : decode cX5_put 1 = .ok (.getfield 9, 3) := by decide +kernel
theorem dX5_put_4 : decode cX5_put 4 = .ok (.iload_n 1, 1) := by decide +kernel
theorem dX5_put_5 : decode cX5_put 5 = .ok (.laload, 1) := by decide +kernel
theorem dX5_put_6 : decode cX5_put 6 = .ok (.lstore 4, 2) := by decide +kernel
theorem dX5_put_8 : decode cX5_put 8 = .ok (.aload_n 0, 1) := by decide +kernel
theorem dX5_put_9 : decode cX5_put 9 = .ok (.getfield 9, 3) := by decide +kernel
theorem dX5_put_12 : decode cX5_put 12 = .ok (.iload_n 1, 1) := by decide +kernel
theorem dX5_put_13 : decode cX5_put 13 = .ok (.aload_n 0, 1) := by decide +kernel
theorem dX5_put_14 : decode cX5_put 14 = .ok (.lload_n 2, 1) := by decide +kernel
theorem dX5_put_15 : decode cX5_put 15 = .ok (.invokevirtual 22, 3) := by decide +kernel
theorem dX5_put_18 : decode cX5_put 18 = .ok (.lastore, 1) := by decide +kernel
theorem dX5_put_19 : decode cX5_put 19 = .ok (.lload 4, 2) := by decide +kernel
theorem dX5_put_21 : decode cX5_put 21 = .ok (.lreturn, 1) := by decide +kernel
theorem dX5_cut_0 : decode cX5_cut 0 = .ok (.aload_n 0, 1) := by decide +kernel
theorem dX5_cut_1 : decode cX5_cut 1 = .ok (.getfield 15, 3) := by decide +kernel
theorem dX5_cut_4 : decode cX5_cut 4 = .ok (.lookupswitch 38 #[(8, 28), (16, 33)], 28) := by decide +kernel
theorem dX5_cut_32 : decode cX5_cut 32 = .ok (.lload_n 1, 1) := by decide +kernel
theorem dX5_cut_33 : decode cX5_cut 33 = .ok (.l2i, 1) := by decide +kernel
theorem dX5_cut_34 : decode cX5_cut 34 = .ok (.i2b, 1) := by decide +kernel
theorem dX5_cut_35 : decode cX5_cut 35 = .ok (.i2l, 1) := by decide +kernel
theorem dX5_cut_36 : decode cX5_cut 36 = .ok (.lreturn, 1) := by decide +kernel
theorem dX5_cut_37 : decode cX5_cut 37 = .ok (.lload_n 1, 1) := by decide +kernel
theorem dX5_cut_38 : decode cX5_cut 38 = .ok (.l2i, 1) := by decide +kernel
theorem dX5_cut_39 : decode cX5_cut 39 = .ok (.i2s, 1) := by decide +kernel
theorem dX5_cut_40 : decode cX5_cut 40 = .ok (.i2l, 1) := by decide +kernel
theorem dX5_cut_41 : decode cX5_cut 41 = .ok (.lreturn, 1) := by decide +kernel
theorem dX5_cut_42 : decode cX5_cut 42 = .ok (.lload_n 1, 1) := by decide +kernel
theorem dX5_cut_43 : decode cX5_cut 43 = .ok (.lreturn, 1) := by decide +kernel
theorem dX6_init_0 : decode cX6_init 0 = .ok (.aload_n 0, 1) := by decide +kernel
theorem dX6_init_1 : decode cX6_init 1 = .ok (.invokespecial 1, 3) := by decide +kernel
theorem dX6_init_4 : decode cX6_init 4 = .ok (.return_, 1) := by decide +kernel
theorem dX6_says_0 : decode cX6_says 0 = .ok (.iload_n 3, 1) := by decide +kernel
theorem dX6_says_1 : decode cX6_says 1 = .ok (.bipush 6, 2) := by decide +kernel
theorem dX6_says_3 : decode cX6_says 3 = .ok (.irem, 1) := by decide +kernel
theorem dX6_says_4 : decode cX6_says 4 = .ok (.ifCond .ne 11, 3) := by decide +kernel
theorem dX6_says_7 : decode cX6_says 7 = .ok (.aload_n 0, 1) := by decide +kernel
theorem dX6_says_8 : decode cX6_says 8 = .ok (.aload_n 1, 1) := by decide +kernel
theorem dX6_says_9 : decode cX6_says 9 = .ok (.invokevirtual 7, 3) := by decide +kernel
theorem dX6_says_12 : decode cX6_says 12 = .ok (.goto 10, 3) := by decide +kernel
theorem dX6_says_15 : decode cX6_says 15 = .ok (.aload_n 0, 1) := by decide +kernel
theorem dX6_says_16 : decode cX6_says 16 = .ok (.aload_n 1, 1) := by decide +kernel
theorem dX6_says_17 : decode cX6_says 17 = .ok (.iload_n 2, 1) := by decide +kernel
theorem dX6_says_18 : decode cX6_says 18 = .ok (.iload_n 3, 1) := by decide +kernel
theorem dX6_says_19 : decode cX6_says 19 = .ok (.invokespecial 13, 3) := by decide +kernel
theorem dX6_says_22 : decode cX6_says 22 = .ok (.ireturn, 1) := by decide +kernel
theorem dX6_believes_0 : decode cX6_believes 0 = .ok (.iload_n 1, 1) := by decide +kernel
theorem dX6_believes_1 : decode cX6_believes 1 = .ok (.ifCond .ne 16, 3) := by decide +kernel
theorem dX6_believes_4 : decode cX6_believes 4 = .ok (.aload_n 0, 1) := by decide +kernel
theorem dX6_believes_5 : decode cX6_believes 5 = .ok (.iload_n 1, 1) := by decide +kernel
theorem dX6_believes_6 : decode cX6_believes 6 = .ok (.iload_n 2, 1) := by decide +kernel
theorem dX6_believes_7 : decode cX6_believes 7 = .ok (.invokespecial 17, 3) := by decide +kernel
theorem dX6_believes_10 : decode cX6_believes 10 = .ok (.ifCond .eq 7, 3) := by decide +kernel
theorem dX6_believes_13 : decode cX6_believes 13 = .ok (.iconst 1, 1) := by decide +kernel
theorem dX6_believes_14 : decode cX6_believes 14 = .ok (.goto 4, 3) := by decide +kernel
theorem dX6_believes_17 : decode cX6_believes 17 = .ok (.iconst 0, 1) := by decide +kernel
theorem dX6_believes_18 : decode cX6_believes 18 = .ok (.ireturn, 1) := by decide +kernel
theorem dX7_init_0 : decode cX7_init 0 = .ok (.aload_n 0, 1) := by decide +kernel
theorem dX7_init_1 : decode cX7_init 1 = .ok (.invokespecial 3, 3) := by decide +kernel
theorem dX7_init_4 : decode cX7_init 4 = .ok (.aload_n 0, 1) := by decide +kernel
theorem dX7_init_5 : decode cX7_init 5 = .ok (.bipush 120, 2) := by decide +kernel
theorem dX7_init_7 : decode cX7_init 7 = .ok (.newarray .int, 2) := by decide +kernel
theorem dX7_init_9 : decode cX7_init 9 = .ok (.putfield 9, 3) := by decide +kernel
theorem dX7_init_12 : decode cX7_init 12 = .ok (.return_, 1) := by decide +kernel
theorem dX7_append_0 : decode cX7_append 0 = .ok (.aload_n 0, 1) := by decide +kernel
theorem dX7_append_1 : decode cX7_append 1 = .ok (.getfield 9, 3) := by decide +kernel
theorem dX7_append_4 : decode cX7_append 4 = .ok (.aload_n 0, 1) := by decide +kernel
theorem dX7_append_5 : decode cX7_append 5 = .ok (.getfield 15, 3) := by decide +kernel
theorem dX7_append_8 : decode cX7_append 8 = .ok (.iload_n 1, 1) := by decide +kernel
theorem dX7_append_9 : decode cX7_append 9 = .ok (.iastore, 1) := by decide +kernel
theorem dX7_append_10 : decode cX7_append 10 = .ok (.aload_n 0, 1) := by decide +kernel
theorem dX7_append_11 : decode cX7_append 11 = .ok (.dup, 1) := by decide +kernel
theorem dX7_append_12 : decode cX7_append 12 = .ok (.getfield 15, 3) := by decide +kernel
theorem dX7_append_15 : decode cX7_append 15 = .ok (.iconst 1, 1) := by decide +kernel
theorem dX7_append_16 : decode cX7_append 16 = .ok (.iadd, 1) := by decide +kernel
theorem dX7_append_17 : decode cX7_append 17 = .ok (.putfield 15, 3) := by decide +kernel
theorem dX7_append_20 : decode cX7_append 20 = .ok (.return_, 1) := by decide +kernel
theorem dX7_tellTo_0 : decode cX7_tellTo 0 = .ok (.aload_n 0, 1) := by decide +kernel
theorem dX7_tellTo_1 : decode cX7_tellTo 1 = .ok (.iconst 0, 1) := by decide +kernel
theorem dX7_tellTo_2 : decode cX7_tellTo 2 = .ok (.putfield 19, 3) := by decide +kernel
theorem dX7_tellTo_5 : decode cX7_tellTo 5 = .ok (.aload_n 0, 1) := by decide +kernel
theorem dX7_tellTo_6 : decode cX7_tellTo 6 = .ok (.invokevirtual 22, 3) := by decide +kernel
theorem dX7_tellTo_9 : decode cX7_tellTo 9 = .ok (.iconst 1, 1) := by decide +kernel
theorem dX7_tellTo_10 : decode cX7_tellTo 10 = .ok (.istore_n 2, 1) := by decide +kernel
theorem dX7_tellTo_11 : decode cX7_tellTo 11 = .ok (.iload_n 2, 1) := by decide +kernel
theorem dX7_tellTo_12 : decode cX7_tellTo 12 = .ok (.bipush 120, 2) := by decide +kernel
theorem dX7_tellTo_14 : decode cX7_tellTo 14 = .ok (.if_icmp .gt 52, 3) := by decide +kernel
theorem dX7_tellTo_17 : decode cX7_tellTo 17 = .ok (.aload_n 0, 1) := by decide +kernel
theorem dX7_tellTo_18 : decode cX7_tellTo 18 = .ok (.aload_n 1, 1) := by decide +kernel
theorem dX7_tellTo_19 : decode cX7_tellTo 19 = .ok (.invokevirtual 25, 3) := by decide +kernel
theorem dX7_tellTo_22 : decode cX7_tellTo 22 = .ok (.ifCond .ne 10, 3) := by decide +kernel
theorem dX7_tellTo_25 : decode cX7_tellTo 25 = .ok (.iconst (-1), 1) := by decide +kernel
theorem dX7_tellTo_26 : decode cX7_tellTo 26 = .ok (.aload_n 0, 1) := by decide +kernel
theorem dX7_tellTo_27 : decode cX7_tellTo 27 = .ok (.getfield 29, 3) := by decide +kernel
theorem dX7_tellTo_30 : decode cX7_tellTo 30 = .ok (.isub, 1) := by decide +kernel
theorem dX7_tellTo_31 : decode cX7_tellTo 31 = .ok (.ireturn, 1) := by decide +kernel
theorem dX7_tellTo_32 : decode cX7_tellTo 32 = .ok (.aload_n 0, 1) := by decide +kernel
theorem dX7_tellTo_33 : decode cX7_tellTo 33 = .ok (.getfield 32, 3) := by decide +kernel
theorem dX7_tellTo_36 : decode cX7_tellTo 36 = .ok (.ifCond .ne 5, 3) := by decide +kernel
theorem dX7_tellTo_39 : decode cX7_tellTo 39 = .ok (.iload_n 2, 1) := by decide +kernel
theorem dX7_tellTo_40 : decode cX7_tellTo 40 = .ok (.ireturn, 1) := by decide +kernel
theorem dX7_tellTo_41 : decode cX7_tellTo 41 = .ok (.aload_n 0, 1) := by decide +kernel
theorem dX7_tellTo_42 : decode cX7_tellTo 42 = .ok (.getfield 32, 3) := by decide +kernel
theorem dX7_tellTo_45 : decode cX7_tellTo 45 = .ok (.iconst 3, 1) := by decide +kernel
theorem dX7_tellTo_46 : decode cX7_tellTo 46 = .ok (.if_icmp .eq 10, 3) := by decide +kernel
theorem dX7_tellTo_49 : decode cX7_tellTo 49 = .ok (.iconst (-1), 1) := by decide +kernel
theorem dX7_tellTo_50 : decode cX7_tellTo 50 = .ok (.aload_n 0, 1) := by decide +kernel
theorem dX7_tellTo_51 : decode cX7_tellTo 51 = .ok (.getfield 29, 3) := by decide +kernel
theorem dX7_tellTo_54 : decode cX7_tellTo 54 = .ok (.isub, 1) := by decide +kernel
theorem dX7_tellTo_55 : decode cX7_tellTo 55 = .ok (.ireturn, 1) := by decide +kernel
theorem dX7_tellTo_56 : decode cX7_tellTo 56 = .ok (.aload_n 0, 1) := by decide +kernel
theorem dX7_tellTo_57 : decode cX7_tellTo 57 = .ok (.invokevirtual 22, 3) := by decide +kernel
theorem dX7_tellTo_60 : decode cX7_tellTo 60 = .ok (.iinc 2 1, 3) := by decide +kernel
theorem dX7_tellTo_63 : decode cX7_tellTo 63 = .ok (.goto (-52), 3) := by decide +kernel
theorem dX7_tellTo_66 : decode cX7_tellTo 66 = .ok (.iconst (-1), 1) := by decide +kernel
theorem dX7_tellTo_67 : decode cX7_tellTo 67 = .ok (.aload_n 0, 1) := by decide +kernel
theorem dX7_tellTo_68 : decode cX7_tellTo 68 = .ok (.getfield 29, 3) := by decide +kernel
theorem dX7_tellTo_71 : decode cX7_tellTo 71 = .ok (.isub, 1) := by decide +kernel
theorem dX7_tellTo_72 : decode cX7_tellTo 72 = .ok (.ireturn, 1) := by decide +kernel
theorem dX7_tellItem_0 : decode cX7_tellItem 0 = .ok (.iconst 0, 1) := by decide +kernel
theorem dX7_tellItem_1 : decode cX7_tellItem 1 = .ok (.istore_n 2, 1) := by decide +kernel
theorem dX7_tellItem_2 : decode cX7_tellItem 2 = .ok (.iload_n 2, 1) := by decide +kernel
theorem dX7_tellItem_3 : decode cX7_tellItem 3 = .ok (.bipush 6, 2) := by decide +kernel
theorem dX7_tellItem_5 : decode cX7_tellItem 5 = .ok (.if_icmp .ge 42, 3) := by decide +kernel
theorem dX7_tellItem_8 : decode cX7_tellItem 8 = .ok (.aload_n 0, 1) := by decide +kernel
theorem dX7_tellItem_9 : decode cX7_tellItem 9 = .ok (.iload_n 2, 1) := by decide +kernel
theorem dX7_tellItem_10 : decode cX7_tellItem 10 = .ok (.invokestatic 35, 3) := by decide +kernel
theorem dX7_tellItem_13 : decode cX7_tellItem 13 = .ok (.invokevirtual 39, 3) := by decide +kernel
theorem dX7_tellItem_16 : decode cX7_tellItem 16 = .ok (.ifCond .eq 25, 3) := by decide +kernel
theorem dX7_tellItem_19 : decode cX7_tellItem 19 = .ok (.aload_n 1, 1) := by decide +kernel
theorem dX7_tellItem_20 : decode cX7_tellItem 20 = .ok (.invokevirtual 43, 3) := by decide +kernel
theorem dX7_tellItem_23 : decode cX7_tellItem 23 = .ok (.ifCond .ne 16, 3) := by decide +kernel
theorem dX7_tellItem_26 : decode cX7_tellItem 26 = .ok (.aload_n 0, 1) := by decide +kernel
theorem dX7_tellItem_27 : decode cX7_tellItem 27 = .ok (.aload_n 1, 1) := by decide +kernel
theorem dX7_tellItem_28 : decode cX7_tellItem 28 = .ok (.iload_n 2, 1) := by decide +kernel
theorem dX7_tellItem_29 : decode cX7_tellItem 29 = .ok (.invokevirtual 49, 3) := by decide +kernel
theorem dX7_tellItem_32 : decode cX7_tellItem 32 = .ok (.ifCond .eq 7, 3) := by decide +kernel
theorem dX7_tellItem_35 : decode cX7_tellItem 35 = .ok (.iconst 1, 1) := by decide +kernel
theorem dX7_tellItem_36 : decode cX7_tellItem 36 = .ok (.goto 4, 3) := by decide +kernel
theorem dX7_tellItem_39 : decode cX7_tellItem 39 = .ok (.iconst 0, 1) := by decide +kernel
theorem dX7_tellItem_40 : decode cX7_tellItem 40 = .ok (.ireturn, 1) := by decide +kernel
theorem dX7_tellItem_41 : decode cX7_tellItem 41 = .ok (.iinc 2 1, 3) := by decide +kernel
theorem dX7_tellItem_44 : decode cX7_tellItem 44 = .ok (.goto (-42), 3) := by decide +kernel
theorem dX7_tellItem_47 : decode cX7_tellItem 47 = .ok (.aload_n 0, 1) := by decide +kernel
theorem dX7_tellItem_48 : decode cX7_tellItem 48 = .ok (.ldc 53, 2) := by decide +kernel
theorem dX7_tellItem_50 : decode cX7_tellItem 50 = .ok (.invokevirtual 39, 3) := by decide +kernel
theorem dX7_tellItem_53 : decode cX7_tellItem 53 = .ok (.ifCond .eq 10, 3) := by decide +kernel
theorem dX7_tellItem_56 : decode cX7_tellItem 56 = .ok (.aload_n 0, 1) := by decide +kernel
theorem dX7_tellItem_57 : decode cX7_tellItem 57 = .ok (.aload_n 1, 1) := by decide +kernel
theorem dX7_tellItem_58 : decode cX7_tellItem 58 = .ok (.iconst 1, 1) := by decide +kernel
theorem dX7_tellItem_59 : decode cX7_tellItem 59 = .ok (.invokevirtual 55, 3) := by decide +kernel
theorem dX7_tellItem_62 : decode cX7_tellItem 62 = .ok (.ireturn, 1) := by decide +kernel
theorem dX7_tellItem_63 : decode cX7_tellItem 63 = .ok (.aload_n 0, 1) := by decide +kernel
theorem dX7_tellItem_64 : decode cX7_tellItem 64 = .ok (.ldc 59, 2) := by decide +kernel
theorem dX7_tellItem_66 : decode cX7_tellItem 66 = .ok (.invokevirtual 39, 3) := by decide +kernel
theorem dX7_tellItem_69 : decode cX7_tellItem 69 = .ok (.ifCond .eq 16, 3) := by decide +kernel
theorem dX7_tellItem_72 : decode cX7_tellItem 72 = .ok (.aload_n 0, 1) := by decide +kernel
theorem dX7_tellItem_73 : decode cX7_tellItem 73 = .ok (.aload_n 1, 1) := by decide +kernel
theorem dX7_tellItem_74 : decode cX7_tellItem 74 = .ok (.iconst 0, 1) := by decide +kernel
theorem dX7_tellItem_75 : decode cX7_tellItem 75 = .ok (.invokevirtual 55, 3) := by decide +kernel
theorem dX7_tellItem_78 : decode cX7_tellItem 78 = .ok (.ifCond .eq 7, 3) := by decide +kernel
theorem dX7_tellItem_81 : decode cX7_tellItem 81 = .ok (.iconst 1, 1) := by decide +kernel
theorem dX7_tellItem_82 : decode cX7_tellItem 82 = .ok (.goto 4, 3) := by decide +kernel
theorem dX7_tellItem_85 : decode cX7_tellItem 85 = .ok (.iconst 0, 1) := by decide +kernel
theorem dX7_tellItem_86 : decode cX7_tellItem 86 = .ok (.ireturn, 1) := by decide +kernel
theorem dX7_tellSecret_0 : decode cX7_tellSecret 0 = .ok (.aload_n 0, 1) := by decide +kernel
theorem dX7_tellSecret_1 : decode cX7_tellSecret 1 = .ok (.invokevirtual 22, 3) := by decide +kernel
theorem dX7_tellSecret_4 : decode cX7_tellSecret 4 = .ok (.aload_n 0, 1) := by decide +kernel
theorem dX7_tellSecret_5 : decode cX7_tellSecret 5 = .ok (.bipush 10, 2) := by decide +kernel
theorem dX7_tellSecret_7 : decode cX7_tellSecret 7 = .ok (.invokevirtual 61, 3) := by decide +kernel
theorem dX7_tellSecret_10 : decode cX7_tellSecret 10 = .ok (.ifCond .ne 5, 3) := by decide +kernel
theorem dX7_tellSecret_13 : decode cX7_tellSecret 13 = .ok (.iconst 0, 1) := by decide +kernel
theorem dX7_tellSecret_14 : decode cX7_tellSecret 14 = .ok (.ireturn, 1) := by decide +kernel
theorem dX7_tellSecret_15 : decode cX7_tellSecret 15 = .ok (.iconst 1, 1) := by decide +kernel
theorem dX7_tellSecret_16 : decode cX7_tellSecret 16 = .ok (.aload_n 0, 1) := by decide +kernel
theorem dX7_tellSecret_17 : decode cX7_tellSecret 17 = .ok (.getfield 65, 3) := by decide +kernel
theorem dX7_tellSecret_20 : decode cX7_tellSecret 20 = .ok (.ishl, 1) := by decide +kernel
theorem dX7_tellSecret_21 : decode cX7_tellSecret 21 = .ok (.istore_n 3, 1) := by decide +kernel
theorem dX7_tellSecret_22 : decode cX7_tellSecret 22 = .ok (.aload_n 1, 1) := by decide +kernel
theorem dX7_tellSecret_23 : decode cX7_tellSecret 23 = .ok (.iload_n 2, 1) := by decide +kernel
theorem dX7_tellSecret_24 : decode cX7_tellSecret 24 = .ok (.ifCond .eq 12, 3) := by decide +kernel
theorem dX7_tellSecret_27 : decode cX7_tellSecret 27 = .ok (.aload_n 1, 1) := by decide +kernel
theorem dX7_tellSecret_28 : decode cX7_tellSecret 28 = .ok (.getfield 68, 3) := by decide +kernel
theorem dX7_tellSecret_31 : decode cX7_tellSecret 31 = .ok (.iload_n 3, 1) := by decide +kernel
theorem dX7_tellSecret_32 : decode cX7_tellSecret 32 = .ok (.ior, 1) := by decide +kernel
theorem dX7_tellSecret_33 : decode cX7_tellSecret 33 = .ok (.goto 11, 3) := by decide +kernel
theorem dX7_tellSecret_36 : decode cX7_tellSecret 36 = .ok (.aload_n 1, 1) := by decide +kernel
theorem dX7_tellSecret_37 : decode cX7_tellSecret 37 = .ok (.getfield 68, 3) := by decide +kernel
theorem dX7_tellSecret_40 : decode cX7_tellSecret 40 = .ok (.iload_n 3, 1) := by decide +kernel
theorem dX7_tellSecret_41 : decode cX7_tellSecret 41 = .ok (.iconst (-1), 1) := by decide +kernel
theorem dX7_tellSecret_42 : decode cX7_tellSecret 42 = .ok (.ixor, 1) := by decide +kernel
theorem dX7_tellSecret_43 : decode cX7_tellSecret 43 = .ok (.iand, 1) := by decide +kernel
theorem dX7_tellSecret_44 : decode cX7_tellSecret 44 = .ok (.putfield 68, 3) := by decide +kernel
theorem dX7_tellSecret_47 : decode cX7_tellSecret 47 = .ok (.aload_n 0, 1) := by decide +kernel
theorem dX7_tellSecret_48 : decode cX7_tellSecret 48 = .ok (.invokevirtual 22, 3) := by decide +kernel
theorem dX7_tellSecret_51 : decode cX7_tellSecret 51 = .ok (.iconst 1, 1) := by decide +kernel
theorem dX7_tellSecret_52 : decode cX7_tellSecret 52 = .ok (.ireturn, 1) := by decide +kernel
theorem dX7_tellVisitor_0 : decode cX7_tellVisitor 0 = .ok (.aload_n 1, 1) := by decide +kernel
theorem dX7_tellVisitor_1 : decode cX7_tellVisitor 1 = .ok (.aload_n 1, 1) := by decide +kernel
theorem dX7_tellVisitor_2 : decode cX7_tellVisitor 2 = .ok (.iload_n 2, 1) := by decide +kernel
theorem dX7_tellVisitor_3 : decode cX7_tellVisitor 3 = .ok (.invokevirtual 71, 3) := by decide +kernel
theorem dX7_tellVisitor_6 : decode cX7_tellVisitor 6 = .ok (.invokevirtual 75, 3) := by decide +kernel
theorem dX7_tellVisitor_9 : decode cX7_tellVisitor 9 = .ok (.astore_n 3, 1) := by decide +kernel
theorem dX7_tellVisitor_10 : decode cX7_tellVisitor 10 = .ok (.aload_n 0, 1) := by decide +kernel
theorem dX7_tellVisitor_11 : decode cX7_tellVisitor 11 = .ok (.invokevirtual 22, 3) := by decide +kernel
theorem dX7_tellVisitor_14 : decode cX7_tellVisitor 14 = .ok (.aload_n 0, 1) := by decide +kernel
theorem dX7_tellVisitor_15 : decode cX7_tellVisitor 15 = .ok (.ldc 79, 2) := by decide +kernel
theorem dX7_tellVisitor_17 : decode cX7_tellVisitor 17 = .ok (.invokevirtual 39, 3) := by decide +kernel
theorem dX7_tellVisitor_20 : decode cX7_tellVisitor 20 = .ok (.ifCond .eq 13, 3) := by decide +kernel
theorem dX7_tellVisitor_23 : decode cX7_tellVisitor 23 = .ok (.aload_n 0, 1) := by decide +kernel
theorem dX7_tellVisitor_24 : decode cX7_tellVisitor 24 = .ok (.aload_n 3, 1) := by decide +kernel
theorem dX7_tellVisitor_25 : decode cX7_tellVisitor 25 = .ok (.invokevirtual 81, 3) := by decide +kernel
theorem dX7_tellVisitor_28 : decode cX7_tellVisitor 28 = .ok (.ifCond .ne 5, 3) := by decide +kernel
theorem dX7_tellVisitor_31 : decode cX7_tellVisitor 31 = .ok (.iconst 0, 1) := by decide +kernel
theorem dX7_tellVisitor_32 : decode cX7_tellVisitor 32 = .ok (.ireturn, 1) := by decide +kernel
theorem dX7_tellVisitor_33 : decode cX7_tellVisitor 33 = .ok (.aload_n 0, 1) := by decide +kernel
theorem dX7_tellVisitor_34 : decode cX7_tellVisitor 34 = .ok (.ldc 85, 2) := by decide +kernel
theorem dX7_tellVisitor_36 : decode cX7_tellVisitor 36 = .ok (.invokevirtual 39, 3) := by decide +kernel
theorem dX7_tellVisitor_39 : decode cX7_tellVisitor 39 = .ok (.ifCond .eq 12, 3) := by decide +kernel
theorem dX7_tellVisitor_42 : decode cX7_tellVisitor 42 = .ok (.aload_n 0, 1) := by decide +kernel
theorem dX7_tellVisitor_43 : decode cX7_tellVisitor 43 = .ok (.aload_n 1, 1) := by decide +kernel
theorem dX7_tellVisitor_44 : decode cX7_tellVisitor 44 = .ok (.aload_n 3, 1) := by decide +kernel
theorem dX7_tellVisitor_45 : decode cX7_tellVisitor 45 = .ok (.invokevirtual 87, 3) := by decide +kernel
theorem dX7_tellVisitor_48 : decode cX7_tellVisitor 48 = .ok (.ifCond .eq 7, 3) := by decide +kernel
theorem dX7_tellVisitor_51 : decode cX7_tellVisitor 51 = .ok (.iconst 1, 1) := by decide +kernel
theorem dX7_tellVisitor_52 : decode cX7_tellVisitor 52 = .ok (.goto 4, 3) := by decide +kernel
theorem dX7_tellVisitor_55 : decode cX7_tellVisitor 55 = .ok (.iconst 0, 1) := by decide +kernel
theorem dX7_tellVisitor_56 : decode cX7_tellVisitor 56 = .ok (.ireturn, 1) := by decide +kernel
theorem dX7_tellKnown_0 : decode cX7_tellKnown 0 = .ok (.aload_n 0, 1) := by decide +kernel
theorem dX7_tellKnown_1 : decode cX7_tellKnown 1 = .ok (.invokevirtual 22, 3) := by decide +kernel
theorem dX7_tellKnown_4 : decode cX7_tellKnown 4 = .ok (.aload_n 0, 1) := by decide +kernel
theorem dX7_tellKnown_5 : decode cX7_tellKnown 5 = .ok (.bipush 10, 2) := by decide +kernel
theorem dX7_tellKnown_7 : decode cX7_tellKnown 7 = .ok (.invokevirtual 61, 3) := by decide +kernel
theorem dX7_tellKnown_10 : decode cX7_tellKnown 10 = .ok (.ifCond .ne 5, 3) := by decide +kernel
theorem dX7_tellKnown_13 : decode cX7_tellKnown 13 = .ok (.iconst 0, 1) := by decide +kernel
theorem dX7_tellKnown_14 : decode cX7_tellKnown 14 = .ok (.ireturn, 1) := by decide +kernel
theorem dX7_tellKnown_15 : decode cX7_tellKnown 15 = .ok (.iconst 0, 1) := by decide +kernel
theorem dX7_tellKnown_16 : decode cX7_tellKnown 16 = .ok (.istore_n 2, 1) := by decide +kernel
theorem dX7_tellKnown_17 : decode cX7_tellKnown 17 = .ok (.iload_n 2, 1) := by decide +kernel
theorem dX7_tellKnown_18 : decode cX7_tellKnown 18 = .ok (.iconst 4, 1) := by decide +kernel
theorem dX7_tellKnown_19 : decode cX7_tellKnown 19 = .ok (.if_icmp .ge 37, 3) := by decide +kernel
theorem dX7_tellKnown_22 : decode cX7_tellKnown 22 = .ok (.aload_n 0, 1) := by decide +kernel
theorem dX7_tellKnown_23 : decode cX7_tellKnown 23 = .ok (.bipush 10, 2) := by decide +kernel
theorem dX7_tellKnown_25 : decode cX7_tellKnown 25 = .ok (.invokevirtual 61, 3) := by decide +kernel
theorem dX7_tellKnown_28 : decode cX7_tellKnown 28 = .ok (.ifCond .eq 28, 3) := by decide +kernel
theorem dX7_tellKnown_31 : decode cX7_tellKnown 31 = .ok (.aload_n 1, 1) := by decide +kernel
theorem dX7_tellKnown_32 : decode cX7_tellKnown 32 = .ok (.dup, 1) := by decide +kernel
theorem dX7_tellKnown_33 : decode cX7_tellKnown 33 = .ok (.getfield 91, 3) := by decide +kernel
theorem dX7_tellKnown_36 : decode cX7_tellKnown 36 = .ok (.iconst 1, 1) := by decide +kernel
theorem dX7_tellKnown_37 : decode cX7_tellKnown 37 = .ok (.aload_n 0, 1) := by decide +kernel
theorem dX7_tellKnown_38 : decode cX7_tellKnown 38 = .ok (.getfield 65, 3) := by decide +kernel
theorem dX7_tellKnown_41 : decode cX7_tellKnown 41 = .ok (.ishl, 1) := by decide +kernel
theorem dX7_tellKnown_42 : decode cX7_tellKnown 42 = .ok (.ior, 1) := by decide +kernel
theorem dX7_tellKnown_43 : decode cX7_tellKnown 43 = .ok (.putfield 91, 3) := by decide +kernel
theorem dX7_tellKnown_46 : decode cX7_tellKnown 46 = .ok (.aload_n 0, 1) := by decide +kernel
theorem dX7_tellKnown_47 : decode cX7_tellKnown 47 = .ok (.invokevirtual 22, 3) := by decide +kernel
theorem dX7_tellKnown_50 : decode cX7_tellKnown 50 = .ok (.iinc 2 1, 3) := by decide +kernel
theorem dX7_tellKnown_53 : decode cX7_tellKnown 53 = .ok (.goto (-36), 3) := by decide +kernel
theorem dX7_tellKnown_56 : decode cX7_tellKnown 56 = .ok (.iconst 1, 1) := by decide +kernel
theorem dX7_tellKnown_57 : decode cX7_tellKnown 57 = .ok (.ireturn, 1) := by decide +kernel
theorem dX7_tellSeat_0 : decode cX7_tellSeat 0 = .ok (.aload_n 0, 1) := by decide +kernel
theorem dX7_tellSeat_1 : decode cX7_tellSeat 1 = .ok (.invokevirtual 22, 3) := by decide +kernel
theorem dX7_tellSeat_4 : decode cX7_tellSeat 4 = .ok (.aload_n 0, 1) := by decide +kernel
theorem dX7_tellSeat_5 : decode cX7_tellSeat 5 = .ok (.iconst 2, 1) := by decide +kernel
theorem dX7_tellSeat_6 : decode cX7_tellSeat 6 = .ok (.invokevirtual 61, 3) := by decide +kernel
theorem dX7_tellSeat_9 : decode cX7_tellSeat 9 = .ok (.ifCond .eq 15, 3) := by decide +kernel
theorem dX7_tellSeat_12 : decode cX7_tellSeat 12 = .ok (.aload_n 1, 1) := by decide +kernel
theorem dX7_tellSeat_13 : decode cX7_tellSeat 13 = .ok (.aload_n 0, 1) := by decide +kernel
theorem dX7_tellSeat_14 : decode cX7_tellSeat 14 = .ok (.getfield 65, 3) := by decide +kernel
theorem dX7_tellSeat_17 : decode cX7_tellSeat 17 = .ok (.invokevirtual 96, 3) := by decide +kernel
theorem dX7_tellSeat_20 : decode cX7_tellSeat 20 = .ok (.iconst (-1), 1) := by decide +kernel
theorem dX7_tellSeat_21 : decode cX7_tellSeat 21 = .ok (.if_icmp .eq 5, 3) := by decide +kernel
theorem dX7_tellSeat_24 : decode cX7_tellSeat 24 = .ok (.iconst 0, 1) := by decide +kernel
theorem dX7_tellSeat_25 : decode cX7_tellSeat 25 = .ok (.ireturn, 1) := by decide +kernel
theorem dX7_tellSeat_26 : decode cX7_tellSeat 26 = .ok (.aload_n 2, 1) := by decide +kernel
theorem dX7_tellSeat_27 : decode cX7_tellSeat 27 = .ok (.aload_n 0, 1) := by decide +kernel
theorem dX7_tellSeat_28 : decode cX7_tellSeat 28 = .ok (.getfield 65, 3) := by decide +kernel
theorem dX7_tellSeat_31 : decode cX7_tellSeat 31 = .ok (.invokevirtual 99, 3) := by decide +kernel
theorem dX7_tellSeat_34 : decode cX7_tellSeat 34 = .ok (.aload_n 0, 1) := by decide +kernel
theorem dX7_tellSeat_35 : decode cX7_tellSeat 35 = .ok (.invokevirtual 22, 3) := by decide +kernel
theorem dX7_tellSeat_38 : decode cX7_tellSeat 38 = .ok (.iconst 1, 1) := by decide +kernel
theorem dX7_tellSeat_39 : decode cX7_tellSeat 39 = .ok (.ireturn, 1) := by decide +kernel
theorem dX7_nameOf_0 : decode cX7_nameOf 0 = .ok (.iload_n 0, 1) := by decide +kernel
theorem dX7_nameOf_1 : decode cX7_nameOf 1 = .ok (.tableswitch 50 0 4 #[35, 38, 41, 44, 47], 35) := by decide +kernel
theorem dX7_nameOf_36 : decode cX7_nameOf 36 = .ok (.ldc 103, 2) := by decide +kernel
theorem dX7_nameOf_38 : decode cX7_nameOf 38 = .ok (.areturn, 1) := by decide +kernel
theorem dX7_nameOf_39 : decode cX7_nameOf 39 = .ok (.ldc 105, 2) := by decide +kernel
theorem dX7_nameOf_41 : decode cX7_nameOf 41 = .ok (.areturn, 1) := by decide +kernel
theorem dX7_nameOf_42 : decode cX7_nameOf 42 = .ok (.ldc 107, 2) := by decide +kernel
theorem dX7_nameOf_44 : decode cX7_nameOf 44 = .ok (.areturn, 1) := by decide +kernel
theorem dX7_nameOf_45 : decode cX7_nameOf 45 = .ok (.ldc 109, 2) := by decide +kernel
theorem dX7_nameOf_47 : decode cX7_nameOf 47 = .ok (.areturn, 1) := by decide +kernel
theorem dX7_nameOf_48 : decode cX7_nameOf 48 = .ok (.ldc 111, 2) := by decide +kernel
theorem dX7_nameOf_50 : decode cX7_nameOf 50 = .ok (.areturn, 1) := by decide +kernel
theorem dX7_nameOf_51 : decode cX7_nameOf 51 = .ok (.ldc 113, 2) := by decide +kernel
theorem dX7_nameOf_53 : decode cX7_nameOf 53 = .ok (.areturn, 1) := by decide +kernel
theorem dX7_isWord_0 : decode cX7_isWord 0 = .ok (.aload_n 0, 1) := by decide +kernel
theorem dX7_isWord_1 : decode cX7_isWord 1 = .ok (.getfield 32, 3) := by decide +kernel
theorem dX7_isWord_4 : decode cX7_isWord 4 = .ok (.iconst 1, 1) := by decide +kernel
theorem dX7_isWord_5 : decode cX7_isWord 5 = .ok (.if_icmp .ne 19, 3) := by decide +kernel
theorem dX7_isWord_8 : decode cX7_isWord 8 = .ok (.aload_n 0, 1) := by decide +kernel
theorem dX7_isWord_9 : decode cX7_isWord 9 = .ok (.getfield 19, 3) := by decide +kernel
theorem dX7_isWord_12 : decode cX7_isWord 12 = .ok (.aload_n 0, 1) := by decide +kernel
theorem dX7_isWord_13 : decode cX7_isWord 13 = .ok (.getfield 29, 3) := by decide +kernel
theorem dX7_isWord_16 : decode cX7_isWord 16 = .ok (.isub, 1) := by decide +kernel
theorem dX7_isWord_17 : decode cX7_isWord 17 = .ok (.aload_n 1, 1) := by decide +kernel
theorem dX7_isWord_18 : decode cX7_isWord 18 = .ok (.invokevirtual 115, 3) := by decide +kernel
theorem dX7_isWord_21 : decode cX7_isWord 21 = .ok (.if_icmp .eq 5, 3) := by decide +kernel
theorem dX7_isWord_24 : decode cX7_isWord 24 = .ok (.iconst 0, 1) := by decide +kernel
theorem dX7_isWord_25 : decode cX7_isWord 25 = .ok (.ireturn, 1) := by decide +kernel
theorem dX7_isWord_26 : decode cX7_isWord 26 = .ok (.iconst 0, 1) := by decide +kernel
theorem dX7_isWord_27 : decode cX7_isWord 27 = .ok (.istore_n 2, 1) := by decide +kernel
theorem dX7_isWord_28 : decode cX7_isWord 28 = .ok (.iload_n 2, 1) := by decide +kernel
theorem dX7_isWord_29 : decode cX7_isWord 29 = .ok (.aload_n 1, 1) := by decide +kernel
theorem dX7_isWord_30 : decode cX7_isWord 30 = .ok (.invokevirtual 115, 3) := by decide +kernel
theorem dX7_isWord_33 : decode cX7_isWord 33 = .ok (.if_icmp .ge 30, 3) := by decide +kernel
theorem dX7_isWord_36 : decode cX7_isWord 36 = .ok (.aload_n 0, 1) := by decide +kernel
theorem dX7_isWord_37 : decode cX7_isWord 37 = .ok (.getfield 9, 3) := by decide +kernel
theorem dX7_isWord_40 : decode cX7_isWord 40 = .ok (.aload_n 0, 1) := by decide +kernel
theorem dX7_isWord_41 : decode cX7_isWord 41 = .ok (.getfield 29, 3) := by decide +kernel
theorem dX7_isWord_44 : decode cX7_isWord 44 = .ok (.iload_n 2, 1) := by decide +kernel
theorem dX7_isWord_45 : decode cX7_isWord 45 = .ok (.iadd, 1) := by decide +kernel
theorem dX7_isWord_46 : decode cX7_isWord 46 = .ok (.iaload, 1) := by decide +kernel
theorem dX7_isWord_47 : decode cX7_isWord 47 = .ok (.aload_n 1, 1) := by decide +kernel
theorem dX7_isWord_48 : decode cX7_isWord 48 = .ok (.iload_n 2, 1) := by decide +kernel
theorem dX7_isWord_49 : decode cX7_isWord 49 = .ok (.invokevirtual 120, 3) := by decide +kernel
theorem dX7_isWord_52 : decode cX7_isWord 52 = .ok (.if_icmp .eq 5, 3) := by decide +kernel
theorem dX7_isWord_55 : decode cX7_isWord 55 = .ok (.iconst 0, 1) := by decide +kernel
theorem dX7_isWord_56 : decode cX7_isWord 56 = .ok (.ireturn, 1) := by decide +kernel
theorem dX7_isWord_57 : decode cX7_isWord 57 = .ok (.iinc 2 1, 3) := by decide +kernel
theorem dX7_isWord_60 : decode cX7_isWord 60 = .ok (.goto (-32), 3) := by decide +kernel
theorem dX7_isWord_63 : decode cX7_isWord 63 = .ok (.iconst 1, 1) := by decide +kernel
theorem dX7_isWord_64 : decode cX7_isWord 64 = .ok (.ireturn, 1) := by decide +kernel
theorem dX7_isNumberBelow_0 : decode cX7_isNumberBelow 0 = .ok (.aload_n 0, 1) := by decide +kernel
theorem dX7_isNumberBelow_1 : decode cX7_isNumberBelow 1 = .ok (.getfield 32, 3) := by decide +kernel
theorem dX7_isNumberBelow_4 : decode cX7_isNumberBelow 4 = .ok (.iconst 2, 1) := by decide +kernel
theorem dX7_isNumberBelow_5 : decode cX7_isNumberBelow 5 = .ok (.if_icmp .ne 15, 3) := by decide +kernel
theorem dX7_isNumberBelow_8 : decode cX7_isNumberBelow 8 = .ok (.aload_n 0, 1) := by decide +kernel
theorem dX7_isNumberBelow_9 : decode cX7_isNumberBelow 9 = .ok (.getfield 65, 3) := by decide +kernel
theorem dX7_isNumberBelow_12 : decode cX7_isNumberBelow 12 = .ok (.iload_n 1, 1) := by decide +kernel
theorem dX7_isNumberBelow_13 : decode cX7_isNumberBelow 13 = .ok (.if_icmp .ge 7, 3) := by decide +kernel
theorem dX7_isNumberBelow_16 : decode cX7_isNumberBelow 16 = .ok (.iconst 1, 1) := by decide +kernel
theorem dX7_isNumberBelow_17 : decode cX7_isNumberBelow 17 = .ok (.goto 4, 3) := by decide +kernel
theorem dX7_isNumberBelow_20 : decode cX7_isNumberBelow 20 = .ok (.iconst 0, 1) := by decide +kernel
theorem dX7_isNumberBelow_21 : decode cX7_isNumberBelow 21 = .ok (.ireturn, 1) := by decide +kernel
theorem dX7_advance_0 : decode cX7_advance 0 = .ok (.aload_n 0, 1) := by decide +kernel
theorem dX7_advance_1 : decode cX7_advance 1 = .ok (.aload_n 0, 1) := by decide +kernel
theorem dX7_advance_2 : decode cX7_advance 2 = .ok (.getfield 19, 3) := by decide +kernel
theorem dX7_advance_5 : decode cX7_advance 5 = .ok (.putfield 29, 3) := by decide +kernel
theorem dX7_advance_8 : decode cX7_advance 8 = .ok (.aload_n 0, 1) := by decide +kernel
theorem dX7_advance_9 : decode cX7_advance 9 = .ok (.getfield 29, 3) := by decide +kernel
theorem dX7_advance_12 : decode cX7_advance 12 = .ok (.aload_n 0, 1) := by decide +kernel
theorem dX7_advance_13 : decode cX7_advance 13 = .ok (.getfield 15, 3) := by decide +kernel
theorem dX7_advance_16 : decode cX7_advance 16 = .ok (.if_icmp .ge 30, 3) := by decide +kernel
theorem dX7_advance_19 : decode cX7_advance 19 = .ok (.aload_n 0, 1) := by decide +kernel
theorem dX7_advance_20 : decode cX7_advance 20 = .ok (.getfield 9, 3) := by decide +kernel
theorem dX7_advance_23 : decode cX7_advance 23 = .ok (.aload_n 0, 1) := by decide +kernel
theorem dX7_advance_24 : decode cX7_advance 24 = .ok (.getfield 29, 3) := by decide +kernel
theorem dX7_advance_27 : decode cX7_advance 27 = .ok (.iaload, 1) := by decide +kernel
theorem dX7_advance_28 : decode cX7_advance 28 = .ok (.bipush 32, 2) := by decide +kernel
theorem dX7_advance_30 : decode cX7_advance 30 = .ok (.if_icmp .ne 16, 3) := by decide +kernel
theorem dX7_advance_33 : decode cX7_advance 33 = .ok (.aload_n 0, 1) := by decide +kernel
theorem dX7_advance_34 : decode cX7_advance 34 = .ok (.dup, 1) := by decide +kernel
theorem dX7_advance_35 : decode cX7_advance 35 = .ok (.getfield 29, 3) := by decide +kernel
theorem dX7_advance_38 : decode cX7_advance 38 = .ok (.iconst 1, 1) := by decide +kernel
theorem dX7_advance_39 : decode cX7_advance 39 = .ok (.iadd, 1) := by decide +kernel
theorem dX7_advance_40 : decode cX7_advance 40 = .ok (.putfield 29, 3) := by decide +kernel
theorem dX7_advance_43 : decode cX7_advance 43 = .ok (.goto (-35), 3) := by decide +kernel
theorem dX7_advance_46 : decode cX7_advance 46 = .ok (.aload_n 0, 1) := by decide +kernel
theorem dX7_advance_47 : decode cX7_advance 47 = .ok (.aload_n 0, 1) := by decide +kernel
theorem dX7_advance_48 : decode cX7_advance 48 = .ok (.getfield 29, 3) := by decide +kernel
theorem dX7_advance_51 : decode cX7_advance 51 = .ok (.putfield 19, 3) := by decide +kernel
theorem dX7_advance_54 : decode cX7_advance 54 = .ok (.aload_n 0, 1) := by decide +kernel
theorem dX7_advance_55 : decode cX7_advance 55 = .ok (.getfield 29, 3) := by decide +kernel
theorem dX7_advance_58 : decode cX7_advance 58 = .ok (.aload_n 0, 1) := by decide +kernel
theorem dX7_advance_59 : decode cX7_advance 59 = .ok (.getfield 15, 3) := by decide +kernel
theorem dX7_advance_62 : decode cX7_advance 62 = .ok (.if_icmp .lt 11, 3) := by decide +kernel
theorem dX7_advance_65 : decode cX7_advance 65 = .ok (.aload_n 0, 1) := by decide +kernel
theorem dX7_advance_66 : decode cX7_advance 66 = .ok (.iconst 0, 1) := by decide +kernel
theorem dX7_advance_67 : decode cX7_advance 67 = .ok (.putfield 32, 3) := by decide +kernel
theorem dX7_advance_70 : decode cX7_advance 70 = .ok (.goto 80, 3) := by decide +kernel
theorem dX7_advance_73 : decode cX7_advance 73 = .ok (.aload_n 0, 1) := by decide +kernel
theorem dX7_advance_74 : decode cX7_advance 74 = .ok (.getfield 9, 3) := by decide +kernel
theorem dX7_advance_77 : decode cX7_advance 77 = .ok (.aload_n 0, 1) := by decide +kernel
theorem dX7_advance_78 : decode cX7_advance 78 = .ok (.getfield 29, 3) := by decide +kernel
theorem dX7_advance_81 : decode cX7_advance 81 = .ok (.iaload, 1) := by decide +kernel
theorem dX7_advance_82 : decode cX7_advance 82 = .ok (.invokestatic 124, 3) := by decide +kernel
theorem dX7_advance_85 : decode cX7_advance 85 = .ok (.ifCond .eq 10, 3) := by decide +kernel
theorem dX7_advance_88 : decode cX7_advance 88 = .ok (.aload_n 0, 1) := by decide +kernel
theorem dX7_advance_89 : decode cX7_advance 89 = .ok (.invokevirtual 127, 3) := by decide +kernel
theorem dX7_advance_92 : decode cX7_advance 92 = .ok (.goto 58, 3) := by decide +kernel
theorem dX7_advance_95 : decode cX7_advance 95 = .ok (.aload_n 0, 1) := by decide +kernel
theorem dX7_advance_96 : decode cX7_advance 96 = .ok (.getfield 9, 3) := by decide +kernel
theorem dX7_advance_99 : decode cX7_advance 99 = .ok (.aload_n 0, 1) := by decide +kernel
theorem dX7_advance_100 : decode cX7_advance 100 = .ok (.getfield 29, 3) := by decide +kernel
theorem dX7_advance_103 : decode cX7_advance 103 = .ok (.iaload, 1) := by decide +kernel
theorem dX7_advance_104 : decode cX7_advance 104 = .ok (.invokestatic 130, 3) := by decide +kernel
theorem dX7_advance_107 : decode cX7_advance 107 = .ok (.ifCond .eq 10, 3) := by decide +kernel
theorem dX7_advance_110 : decode cX7_advance 110 = .ok (.aload_n 0, 1) := by decide +kernel
theorem dX7_advance_111 : decode cX7_advance 111 = .ok (.invokevirtual 133, 3) := by decide +kernel
theorem dX7_advance_114 : decode cX7_advance 114 = .ok (.goto 36, 3) := by decide +kernel
theorem dX7_advance_117 : decode cX7_advance 117 = .ok (.aload_n 0, 1) := by decide +kernel
theorem dX7_advance_118 : decode cX7_advance 118 = .ok (.aload_n 0, 1) := by decide +kernel
theorem dX7_advance_119 : decode cX7_advance 119 = .ok (.getfield 9, 3) := by decide +kernel
theorem dX7_advance_122 : decode cX7_advance 122 = .ok (.aload_n 0, 1) := by decide +kernel
theorem dX7_advance_123 : decode cX7_advance 123 = .ok (.getfield 29, 3) := by decide +kernel
theorem dX7_advance_126 : decode cX7_advance 126 = .ok (.iaload, 1) := by decide +kernel
theorem dX7_advance_127 : decode cX7_advance 127 = .ok (.bipush 59, 2) := by decide +kernel
theorem dX7_advance_129 : decode cX7_advance 129 = .ok (.if_icmp .ne 7, 3) := by decide +kernel
theorem dX7_advance_132 : decode cX7_advance 132 = .ok (.iconst 3, 1) := by decide +kernel
theorem dX7_advance_133 : decode cX7_advance 133 = .ok (.goto 4, 3) := by decide +kernel
theorem dX7_advance_136 : decode cX7_advance 136 = .ok (.iconst 4, 1) := by decide +kernel
theorem dX7_advance_137 : decode cX7_advance 137 = .ok (.putfield 32, 3) := by decide +kernel
theorem dX7_advance_140 : decode cX7_advance 140 = .ok (.aload_n 0, 1) := by decide +kernel
theorem dX7_advance_141 : decode cX7_advance 141 = .ok (.dup, 1) := by decide +kernel
theorem dX7_advance_142 : decode cX7_advance 142 = .ok (.getfield 19, 3) := by decide +kernel
theorem dX7_advance_145 : decode cX7_advance 145 = .ok (.iconst 1, 1) := by decide +kernel
theorem dX7_advance_146 : decode cX7_advance 146 = .ok (.iadd, 1) := by decide +kernel
theorem dX7_advance_147 : decode cX7_advance 147 = .ok (.putfield 19, 3) := by decide +kernel
theorem dX7_advance_150 : decode cX7_advance 150 = .ok (.return_, 1) := by decide +kernel
theorem dX7_takeWord_0 : decode cX7_takeWord 0 = .ok (.aload_n 0, 1) := by decide +kernel
theorem dX7_takeWord_1 : decode cX7_takeWord 1 = .ok (.iconst 1, 1) := by decide +kernel
theorem dX7_takeWord_2 : decode cX7_takeWord 2 = .ok (.putfield 32, 3) := by decide +kernel
theorem dX7_takeWord_5 : decode cX7_takeWord 5 = .ok (.aload_n 0, 1) := by decide +kernel
theorem dX7_takeWord_6 : decode cX7_takeWord 6 = .ok (.getfield 19, 3) := by decide +kernel
theorem dX7_takeWord_9 : decode cX7_takeWord 9 = .ok (.aload_n 0, 1) := by decide +kernel
theorem dX7_takeWord_10 : decode cX7_takeWord 10 = .ok (.getfield 15, 3) := by decide +kernel
theorem dX7_takeWord_13 : decode cX7_takeWord 13 = .ok (.if_icmp .ge 31, 3) := by decide +kernel
theorem dX7_takeWord_16 : decode cX7_takeWord 16 = .ok (.aload_n 0, 1) := by decide +kernel
theorem dX7_takeWord_17 : decode cX7_takeWord 17 = .ok (.getfield 9, 3) := by decide +kernel
theorem dX7_takeWord_20 : decode cX7_takeWord 20 = .ok (.aload_n 0, 1) := by decide +kernel
theorem dX7_takeWord_21 : decode cX7_takeWord 21 = .ok (.getfield 19, 3) := by decide +kernel
theorem dX7_takeWord_24 : decode cX7_takeWord 24 = .ok (.iaload, 1) := by decide +kernel
theorem dX7_takeWord_25 : decode cX7_takeWord 25 = .ok (.invokestatic 124, 3) := by decide +kernel
theorem dX7_takeWord_28 : decode cX7_takeWord 28 = .ok (.ifCond .eq 16, 3) := by decide +kernel
theorem dX7_takeWord_31 : decode cX7_takeWord 31 = .ok (.aload_n 0, 1) := by decide +kernel
theorem dX7_takeWord_32 : decode cX7_takeWord 32 = .ok (.dup, 1) := by decide +kernel
theorem dX7_takeWord_33 : decode cX7_takeWord 33 = .ok (.getfield 19, 3) := by decide +kernel
theorem dX7_takeWord_36 : decode cX7_takeWord 36 = .ok (.iconst 1, 1) := by decide +kernel
theorem dX7_takeWord_37 : decode cX7_takeWord 37 = .ok (.iadd, 1) := by decide +kernel
theorem dX7_takeWord_38 : decode cX7_takeWord 38 = .ok (.putfield 19, 3) := by decide +kernel
theorem dX7_takeWord_41 : decode cX7_takeWord 41 = .ok (.goto (-36), 3) := by decide +kernel
theorem dX7_takeWord_44 : decode cX7_takeWord 44 = .ok (.return_, 1) := by decide +kernel
theorem dX7_takeNumber_0 : decode cX7_takeNumber 0 = .ok (.aload_n 0, 1) := by decide +kernel
theorem dX7_takeNumber_1 : decode cX7_takeNumber 1 = .ok (.iconst 2, 1) := by decide +kernel
theorem dX7_takeNumber_2 : decode cX7_takeNumber 2 = .ok (.putfield 32, 3) := by decide +kernel
theorem dX7_takeNumber_5 : decode cX7_takeNumber 5 = .ok (.aload_n 0, 1) := by decide +kernel
theorem dX7_takeNumber_6 : decode cX7_takeNumber 6 = .ok (.iconst 0, 1) := by decide +kernel
theorem dX7_takeNumber_7 : decode cX7_takeNumber 7 = .ok (.putfield 65, 3) := by decide +kernel
theorem dX7_takeNumber_10 : decode cX7_takeNumber 10 = .ok (.aload_n 0, 1) := by decide +kernel
theorem dX7_takeNumber_11 : decode cX7_takeNumber 11 = .ok (.getfield 19, 3) := by decide +kernel
theorem dX7_takeNumber_14 : decode cX7_takeNumber 14 = .ok (.aload_n 0, 1) := by decide +kernel
theorem dX7_takeNumber_15 : decode cX7_takeNumber 15 = .ok (.getfield 15, 3) := by decide +kernel
theorem dX7_takeNumber_18 : decode cX7_takeNumber 18 = .ok (.if_icmp .ge 61, 3) := by decide +kernel
theorem dX7_takeNumber_21 : decode cX7_takeNumber 21 = .ok (.aload_n 0, 1) := by decide +kernel
theorem dX7_takeNumber_22 : decode cX7_takeNumber 22 = .ok (.getfield 9, 3) := by decide +kernel
theorem dX7_takeNumber_25 : decode cX7_takeNumber 25 = .ok (.aload_n 0, 1) := by decide +kernel
theorem dX7_takeNumber_26 : decode cX7_takeNumber 26 = .ok (.getfield 19, 3) := by decide +kernel
theorem dX7_takeNumber_29 : decode cX7_takeNumber 29 = .ok (.iaload, 1) := by decide +kernel
theorem dX7_takeNumber_30 : decode cX7_takeNumber 30 = .ok (.invokestatic 130, 3) := by decide +kernel
theorem dX7_takeNumber_33 : decode cX7_takeNumber 33 = .ok (.ifCond .eq 46, 3) := by decide +kernel
theorem dX7_takeNumber_36 : decode cX7_takeNumber 36 = .ok (.aload_n 0, 1) := by decide +kernel
theorem dX7_takeNumber_37 : decode cX7_takeNumber 37 = .ok (.bipush 10, 2) := by decide +kernel
theorem dX7_takeNumber_39 : decode cX7_takeNumber 39 = .ok (.aload_n 0, 1) := by decide +kernel
theorem dX7_takeNumber_40 : decode cX7_takeNumber 40 = .ok (.getfield 65, 3) := by decide +kernel
theorem dX7_takeNumber_43 : decode cX7_takeNumber 43 = .ok (.imul, 1) := by decide +kernel
theorem dX7_takeNumber_44 : decode cX7_takeNumber 44 = .ok (.aload_n 0, 1) := by decide +kernel
theorem dX7_takeNumber_45 : decode cX7_takeNumber 45 = .ok (.getfield 9, 3) := by decide +kernel
theorem dX7_takeNumber_48 : decode cX7_takeNumber 48 = .ok (.aload_n 0, 1) := by decide +kernel
theorem dX7_takeNumber_49 : decode cX7_takeNumber 49 = .ok (.getfield 19, 3) := by decide +kernel
theorem dX7_takeNumber_52 : decode cX7_takeNumber 52 = .ok (.iaload, 1) := by decide +kernel
theorem dX7_takeNumber_53 : decode cX7_takeNumber 53 = .ok (.iadd, 1) := by decide +kernel
theorem dX7_takeNumber_54 : decode cX7_takeNumber 54 = .ok (.bipush 48, 2) := by decide +kernel
theorem dX7_takeNumber_56 : decode cX7_takeNumber 56 = .ok (.isub, 1) := by decide +kernel
theorem dX7_takeNumber_57 : decode cX7_takeNumber 57 = .ok (.sipush 1000, 3) := by decide +kernel
theorem dX7_takeNumber_60 : decode cX7_takeNumber 60 = .ok (.invokestatic 136, 3) := by decide +kernel
theorem dX7_takeNumber_63 : decode cX7_takeNumber 63 = .ok (.putfield 65, 3) := by decide +kernel
theorem dX7_takeNumber_66 : decode cX7_takeNumber 66 = .ok (.aload_n 0, 1) := by decide +kernel
theorem dX7_takeNumber_67 : decode cX7_takeNumber 67 = .ok (.dup, 1) := by decide +kernel
theorem dX7_takeNumber_68 : decode cX7_takeNumber 68 = .ok (.getfield 19, 3) := by decide +kernel
theorem dX7_takeNumber_71 : decode cX7_takeNumber 71 = .ok (.iconst 1, 1) := by decide +kernel
theorem dX7_takeNumber_72 : decode cX7_takeNumber 72 = .ok (.iadd, 1) := by decide +kernel
theorem dX7_takeNumber_73 : decode cX7_takeNumber 73 = .ok (.putfield 19, 3) := by decide +kernel
theorem dX7_takeNumber_76 : decode cX7_takeNumber 76 = .ok (.goto (-66), 3) := by decide +kernel
theorem dX7_takeNumber_79 : decode cX7_takeNumber 79 = .ok (.return_, 1) := by decide +kernel
theorem dX7_isLetter_0 : decode cX7_isLetter 0 = .ok (.iload_n 0, 1) := by decide +kernel
theorem dX7_isLetter_1 : decode cX7_isLetter 1 = .ok (.bipush 97, 2) := by decide +kernel
theorem dX7_isLetter_3 : decode cX7_isLetter 3 = .ok (.if_icmp .lt 13, 3) := by decide +kernel
theorem dX7_isLetter_6 : decode cX7_isLetter 6 = .ok (.iload_n 0, 1) := by decide +kernel
theorem dX7_isLetter_7 : decode cX7_isLetter 7 = .ok (.bipush 122, 2) := by decide +kernel
theorem dX7_isLetter_9 : decode cX7_isLetter 9 = .ok (.if_icmp .gt 7, 3) := by decide +kernel
theorem dX7_isLetter_12 : decode cX7_isLetter 12 = .ok (.iconst 1, 1) := by decide +kernel
theorem dX7_isLetter_13 : decode cX7_isLetter 13 = .ok (.goto 4, 3) := by decide +kernel
theorem dX7_isLetter_16 : decode cX7_isLetter 16 = .ok (.iconst 0, 1) := by decide +kernel
theorem dX7_isLetter_17 : decode cX7_isLetter 17 = .ok (.ireturn, 1) := by decide +kernel
theorem dX7_isDigit_0 : decode cX7_isDigit 0 = .ok (.iload_n 0, 1) := by decide +kernel
theorem dX7_isDigit_1 : decode cX7_isDigit 1 = .ok (.bipush 48, 2) := by decide +kernel
theorem dX7_isDigit_3 : decode cX7_isDigit 3 = .ok (.if_icmp .lt 13, 3) := by decide +kernel
theorem dX7_isDigit_6 : decode cX7_isDigit 6 = .ok (.iload_n 0, 1) := by decide +kernel
theorem dX7_isDigit_7 : decode cX7_isDigit 7 = .ok (.bipush 57, 2) := by decide +kernel
theorem dX7_isDigit_9 : decode cX7_isDigit 9 = .ok (.if_icmp .gt 7, 3) := by decide +kernel
theorem dX7_isDigit_12 : decode cX7_isDigit 12 = .ok (.iconst 1, 1) := by decide +kernel
theorem dX7_isDigit_13 : decode cX7_isDigit 13 = .ok (.goto 4, 3) := by decide +kernel
theorem dX7_isDigit_16 : decode cX7_isDigit 16 = .ok (.iconst 0, 1) := by decide +kernel
theorem dX7_isDigit_17 : decode cX7_isDigit 17 = .ok (.ireturn, 1) := by decide +kernel
theorem dX8_init_0 : decode cX8_init 0 = .ok (.aload_n 0, 1) := by decide +kernel
theorem dX8_init_1 : decode cX8_init 1 = .ok (.invokespecial 3, 3) := by decide +kernel
theorem dX8_init_4 : decode cX8_init 4 = .ok (.return_, 1) := by decide +kernel
theorem dX8_beNew_0 : decode cX8_beNew 0 = .ok (.aload_n 0, 1) := by decide +kernel
theorem dX8_beNew_1 : decode cX8_beNew 1 = .ok (.iload_n 1, 1) := by decide +kernel
theorem dX8_beNew_2 : decode cX8_beNew 2 = .ok (.putfield 9, 3) := by decide +kernel
theorem dX8_beNew_5 : decode cX8_beNew 5 = .ok (.aload_n 0, 1) := by decide +kernel
theorem dX8_beNew_6 : decode cX8_beNew 6 = .ok (.iconst 0, 1) := by decide +kernel
theorem dX8_beNew_7 : decode cX8_beNew 7 = .ok (.putfield 15, 3) := by decide +kernel
theorem dX8_beNew_10 : decode cX8_beNew 10 = .ok (.aload_n 0, 1) := by decide +kernel
theorem dX8_beNew_11 : decode cX8_beNew 11 = .ok (.iconst 0, 1) := by decide +kernel
theorem dX8_beNew_12 : decode cX8_beNew 12 = .ok (.putfield 18, 3) := by decide +kernel
theorem dX8_beNew_15 : decode cX8_beNew 15 = .ok (.aload_n 0, 1) := by decide +kernel
theorem dX8_beNew_16 : decode cX8_beNew 16 = .ok (.iconst 0, 1) := by decide +kernel
theorem dX8_beNew_17 : decode cX8_beNew 17 = .ok (.putfield 21, 3) := by decide +kernel
theorem dX8_beNew_20 : decode cX8_beNew 20 = .ok (.aload_n 0, 1) := by decide +kernel
theorem dX8_beNew_21 : decode cX8_beNew 21 = .ok (.iconst (-1), 1) := by decide +kernel
theorem dX8_beNew_22 : decode cX8_beNew 22 = .ok (.invokevirtual 24, 3) := by decide +kernel
theorem dX8_beNew_25 : decode cX8_beNew 25 = .ok (.return_, 1) := by decide +kernel
theorem dX8_become_0 : decode cX8_become 0 = .ok (.aload_n 0, 1) := by decide +kernel
theorem dX8_become_1 : decode cX8_become 1 = .ok (.aload_n 1, 1) := by decide +kernel
theorem dX8_become_2 : decode cX8_become 2 = .ok (.getfield 9, 3) := by decide +kernel
theorem dX8_become_5 : decode cX8_become 5 = .ok (.putfield 9, 3) := by decide +kernel
theorem dX8_become_8 : decode cX8_become 8 = .ok (.aload_n 0, 1) := by decide +kernel
theorem dX8_become_9 : decode cX8_become 9 = .ok (.aload_n 1, 1) := by decide +kernel
theorem dX8_become_10 : decode cX8_become 10 = .ok (.getfield 15, 3) := by decide +kernel
theorem dX8_become_13 : decode cX8_become 13 = .ok (.putfield 15, 3) := by decide +kernel
theorem dX8_become_16 : decode cX8_become 16 = .ok (.aload_n 0, 1) := by decide +kernel
theorem dX8_become_17 : decode cX8_become 17 = .ok (.aload_n 1, 1) := by decide +kernel
theorem dX8_become_18 : decode cX8_become 18 = .ok (.getfield 18, 3) := by decide +kernel
theorem dX8_become_21 : decode cX8_become 21 = .ok (.putfield 18, 3) := by decide +kernel
theorem dX8_become_24 : decode cX8_become 24 = .ok (.aload_n 0, 1) := by decide +kernel
theorem dX8_become_25 : decode cX8_become 25 = .ok (.aload_n 1, 1) := by decide +kernel
theorem dX8_become_26 : decode cX8_become 26 = .ok (.getfield 28, 3) := by decide +kernel
theorem dX8_become_29 : decode cX8_become 29 = .ok (.putfield 28, 3) := by decide +kernel
theorem dX8_become_32 : decode cX8_become 32 = .ok (.aload_n 0, 1) := by decide +kernel
theorem dX8_become_33 : decode cX8_become 33 = .ok (.aload_n 1, 1) := by decide +kernel
theorem dX8_become_34 : decode cX8_become 34 = .ok (.getfield 31, 3) := by decide +kernel
theorem dX8_become_37 : decode cX8_become 37 = .ok (.putfield 31, 3) := by decide +kernel
theorem dX8_become_40 : decode cX8_become 40 = .ok (.aload_n 0, 1) := by decide +kernel
theorem dX8_become_41 : decode cX8_become 41 = .ok (.aload_n 1, 1) := by decide +kernel
theorem dX8_become_42 : decode cX8_become 42 = .ok (.getfield 21, 3) := by decide +kernel
theorem dX8_become_45 : decode cX8_become 45 = .ok (.putfield 21, 3) := by decide +kernel
theorem dX8_become_48 : decode cX8_become 48 = .ok (.return_, 1) := by decide +kernel
theorem dX8_settle_0 : decode cX8_settle 0 = .ok (.aload_n 0, 1) := by decide +kernel
theorem dX8_settle_1 : decode cX8_settle 1 = .ok (.iload_n 1, 1) := by decide +kernel
theorem dX8_settle_2 : decode cX8_settle 2 = .ok (.putfield 28, 3) := by decide +kernel
theorem dX8_settle_5 : decode cX8_settle 5 = .ok (.aload_n 0, 1) := by decide +kernel
theorem dX8_settle_6 : decode cX8_settle 6 = .ok (.iconst 0, 1) := by decide +kernel
theorem dX8_settle_7 : decode cX8_settle 7 = .ok (.putfield 31, 3) := by decide +kernel
theorem dX8_settle_10 : decode cX8_settle 10 = .ok (.return_, 1) := by decide +kernel
theorem dX8_learnJust_0 : decode cX8_learnJust 0 = .ok (.aload_n 0, 1) := by decide +kernel
theorem dX8_learnJust_1 : decode cX8_learnJust 1 = .ok (.getfield 15, 3) := by decide +kernel
theorem dX8_learnJust_4 : decode cX8_learnJust 4 = .ok (.istore_n 2, 1) := by decide +kernel
theorem dX8_learnJust_5 : decode cX8_learnJust 5 = .ok (.aload_n 0, 1) := by decide +kernel
theorem dX8_learnJust_6 : decode cX8_learnJust 6 = .ok (.iload_n 1, 1) := by decide +kernel
theorem dX8_learnJust_7 : decode cX8_learnJust 7 = .ok (.putfield 15, 3) := by decide +kernel
theorem dX8_learnJust_10 : decode cX8_learnJust 10 = .ok (.aload_n 0, 1) := by decide +kernel
theorem dX8_learnJust_11 : decode cX8_learnJust 11 = .ok (.dup, 1) := by decide +kernel
theorem dX8_learnJust_12 : decode cX8_learnJust 12 = .ok (.getfield 18, 3) := by decide +kernel
theorem dX8_learnJust_15 : decode cX8_learnJust 15 = .ok (.iload_n 1, 1) := by decide +kernel
theorem dX8_learnJust_16 : decode cX8_learnJust 16 = .ok (.iand, 1) := by decide +kernel
theorem dX8_learnJust_17 : decode cX8_learnJust 17 = .ok (.putfield 18, 3) := by decide +kernel
theorem dX8_learnJust_20 : decode cX8_learnJust 20 = .ok (.iload_n 2, 1) := by decide +kernel
theorem dX8_learnJust_21 : decode cX8_learnJust 21 = .ok (.ireturn, 1) := by decide +kernel
theorem dX8_believeJust_0 : decode cX8_believeJust 0 = .ok (.aload_n 0, 1) := by decide +kernel
theorem dX8_believeJust_1 : decode cX8_believeJust 1 = .ok (.getfield 18, 3) := by decide +kernel
theorem dX8_believeJust_4 : decode cX8_believeJust 4 = .ok (.istore_n 2, 1) := by decide +kernel
theorem dX8_believeJust_5 : decode cX8_believeJust 5 = .ok (.aload_n 0, 1) := by decide +kernel
theorem dX8_believeJust_6 : decode cX8_believeJust 6 = .ok (.iload_n 1, 1) := by decide +kernel
theorem dX8_believeJust_7 : decode cX8_believeJust 7 = .ok (.putfield 18, 3) := by decide +kernel
theorem dX8_believeJust_10 : decode cX8_believeJust 10 = .ok (.iload_n 2, 1) := by decide +kernel
theorem dX8_believeJust_11 : decode cX8_believeJust 11 = .ok (.ireturn, 1) := by decide +kernel
theorem dX8_haveHeard_0 : decode cX8_haveHeard 0 = .ok (.aload_n 0, 1) := by decide +kernel
theorem dX8_haveHeard_1 : decode cX8_haveHeard 1 = .ok (.getfield 21, 3) := by decide +kernel
theorem dX8_haveHeard_4 : decode cX8_haveHeard 4 = .ok (.istore_n 2, 1) := by decide +kernel
theorem dX8_haveHeard_5 : decode cX8_haveHeard 5 = .ok (.aload_n 0, 1) := by decide +kernel
theorem dX8_haveHeard_6 : decode cX8_haveHeard 6 = .ok (.iload_n 1, 1) := by decide +kernel
theorem dX8_haveHeard_7 : decode cX8_haveHeard 7 = .ok (.putfield 21, 3) := by decide +kernel
theorem dX8_haveHeard_10 : decode cX8_haveHeard 10 = .ok (.iload_n 2, 1) := by decide +kernel
theorem dX8_haveHeard_11 : decode cX8_haveHeard 11 = .ok (.ireturn, 1) := by decide +kernel
theorem dX8_hear_0 : decode cX8_hear 0 = .ok (.iconst 1, 1) := by decide +kernel
theorem dX8_hear_1 : decode cX8_hear 1 = .ok (.iload_n 1, 1) := by decide +kernel
theorem dX8_hear_2 : decode cX8_hear 2 = .ok (.ishl, 1) := by decide +kernel
theorem dX8_hear_3 : decode cX8_hear 3 = .ok (.istore_n 3, 1) := by decide +kernel
theorem dX8_hear_4 : decode cX8_hear 4 = .ok (.aload_n 0, 1) := by decide +kernel
theorem dX8_hear_5 : decode cX8_hear 5 = .ok (.dup, 1) := by decide +kernel

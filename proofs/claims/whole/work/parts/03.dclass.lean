theorem dX0_init_0 : decode cX0_init 0 = .ok (.aload_n 0, 1) := by decide +kernel
theorem dX0_init_1 : decode cX0_init 1 = .ok (.invokespecial 3, 3) := by decide +kernel
theorem dX0_init_4 : decode cX0_init 4 = .ok (.aload_n 0, 1) := by decide +kernel
theorem dX0_init_5 : decode cX0_init 5 = .ok (.bipush 6, 2) := by decide +kernel
theorem dX0_init_7 : decode cX0_init 7 = .ok (.newarray .int, 2) := by decide +kernel
theorem dX0_init_9 : decode cX0_init 9 = .ok (.putfield 9, 3) := by decide +kernel
theorem dX0_init_12 : decode cX0_init 12 = .ok (.aload_n 0, 1) := by decide +kernel
theorem dX0_init_13 : decode cX0_init 13 = .ok (.bipush 6, 2) := by decide +kernel
theorem dX0_init_15 : decode cX0_init 15 = .ok (.newarray .int, 2) := by decide +kernel
theorem dX0_init_17 : decode cX0_init 17 = .ok (.putfield 15, 3) := by decide +kernel
theorem dX0_init_20 : decode cX0_init 20 = .ok (.aload_n 0, 1) := by decide +kernel
theorem dX0_init_21 : decode cX0_init 21 = .ok (.bipush 6, 2) := by decide +kernel
theorem dX0_init_23 : decode cX0_init 23 = .ok (.newarray .int, 2) := by decide +kernel
theorem dX0_init_25 : decode cX0_init 25 = .ok (.putfield 18, 3) := by decide +kernel
theorem dX0_init_28 : decode cX0_init 28 = .ok (.return_, 1) := by decide +kernel
theorem dX0_add_0 : decode cX0_add 0 = .ok (.aload_n 0, 1) := by decide +kernel
theorem dX0_add_1 : decode cX0_add 1 = .ok (.getfield 21, 3) := by decide +kernel
theorem dX0_add_4 : decode cX0_add 4 = .ok (.bipush 6, 2) := by decide +kernel
theorem dX0_add_6 : decode cX0_add 6 = .ok (.if_icmp .lt 4, 3) := by decide +kernel
theorem dX0_add_9 : decode cX0_add 9 = .ok (.return_, 1) := by decide +kernel
theorem dX0_add_10 : decode cX0_add 10 = .ok (.aload_n 0, 1) := by decide +kernel
theorem dX0_add_11 : decode cX0_add 11 = .ok (.getfield 9, 3) := by decide +kernel
theorem dX0_add_14 : decode cX0_add 14 = .ok (.aload_n 0, 1) := by decide +kernel
theorem dX0_add_15 : decode cX0_add 15 = .ok (.getfield 21, 3) := by decide +kernel
theorem dX0_add_18 : decode cX0_add 18 = .ok (.iload_n 1, 1) := by decide +kernel
theorem dX0_add_19 : decode cX0_add 19 = .ok (.iastore, 1) := by decide +kernel
theorem dX0_add_20 : decode cX0_add 20 = .ok (.aload_n 0, 1) := by decide +kernel
theorem dX0_add_21 : decode cX0_add 21 = .ok (.getfield 15, 3) := by decide +kernel
theorem dX0_add_24 : decode cX0_add 24 = .ok (.aload_n 0, 1) := by decide +kernel
theorem dX0_add_25 : decode cX0_add 25 = .ok (.getfield 21, 3) := by decide +kernel
theorem dX0_add_28 : decode cX0_add 28 = .ok (.iload_n 2, 1) := by decide +kernel
theorem dX0_add_29 : decode cX0_add 29 = .ok (.iastore, 1) := by decide +kernel
theorem dX0_add_30 : decode cX0_add 30 = .ok (.aload_n 0, 1) := by decide +kernel
theorem dX0_add_31 : decode cX0_add 31 = .ok (.getfield 18, 3) := by decide +kernel
theorem dX0_add_34 : decode cX0_add 34 = .ok (.aload_n 0, 1) := by decide +kernel
theorem dX0_add_35 : decode cX0_add 35 = .ok (.getfield 21, 3) := by decide +kernel
theorem dX0_add_38 : decode cX0_add 38 = .ok (.iload_n 3, 1) := by decide +kernel
theorem dX0_add_39 : decode cX0_add 39 = .ok (.iastore, 1) := by decide +kernel
theorem dX0_add_40 : decode cX0_add 40 = .ok (.aload_n 0, 1) := by decide +kernel
theorem dX0_add_41 : decode cX0_add 41 = .ok (.dup, 1) := by decide +kernel
theorem dX0_add_42 : decode cX0_add 42 = .ok (.getfield 21, 3) := by decide +kernel
theorem dX0_add_45 : decode cX0_add 45 = .ok (.iconst 1, 1) := by decide +kernel
theorem dX0_add_46 : decode cX0_add 46 = .ok (.iadd, 1) := by decide +kernel
theorem dX0_add_47 : decode cX0_add 47 = .ok (.putfield 21, 3) := by decide +kernel
theorem dX0_add_50 : decode cX0_add 50 = .ok (.return_, 1) := by decide +kernel
theorem dX0_lastDayOf_0 : decode cX0_lastDayOf 0 = .ok (.iconst 0, 1) := by decide +kernel
theorem dX0_lastDayOf_1 : decode cX0_lastDayOf 1 = .ok (.istore_n 2, 1) := by decide +kernel
theorem dX0_lastDayOf_2 : decode cX0_lastDayOf 2 = .ok (.iconst 0, 1) := by decide +kernel
theorem dX0_lastDayOf_3 : decode cX0_lastDayOf 3 = .ok (.istore_n 3, 1) := by decide +kernel
theorem dX0_lastDayOf_4 : decode cX0_lastDayOf 4 = .ok (.iload_n 3, 1) := by decide +kernel
theorem dX0_lastDayOf_5 : decode cX0_lastDayOf 5 = .ok (.aload_n 0, 1) := by decide +kernel
theorem dX0_lastDayOf_6 : decode cX0_lastDayOf 6 = .ok (.getfield 21, 3) := by decide +kernel
theorem dX0_lastDayOf_9 : decode cX0_lastDayOf 9 = .ok (.if_icmp .ge 30, 3) := by decide +kernel
theorem dX0_lastDayOf_12 : decode cX0_lastDayOf 12 = .ok (.aload_n 0, 1) := by decide +kernel
theorem dX0_lastDayOf_13 : decode cX0_lastDayOf 13 = .ok (.getfield 9, 3) := by decide +kernel
theorem dX0_lastDayOf_16 : decode cX0_lastDayOf 16 = .ok (.iload_n 3, 1) := by decide +kernel
theorem dX0_lastDayOf_17 : decode cX0_lastDayOf 17 = .ok (.iaload, 1) := by decide +kernel
theorem dX0_lastDayOf_18 : decode cX0_lastDayOf 18 = .ok (.iload_n 1, 1) := by decide +kernel
theorem dX0_lastDayOf_19 : decode cX0_lastDayOf 19 = .ok (.if_icmp .ne 14, 3) := by decide +kernel
theorem dX0_lastDayOf_22 : decode cX0_lastDayOf 22 = .ok (.iload_n 2, 1) := by decide +kernel
theorem dX0_lastDayOf_23 : decode cX0_lastDayOf 23 = .ok (.aload_n 0, 1) := by decide +kernel
theorem dX0_lastDayOf_24 : decode cX0_lastDayOf 24 = .ok (.getfield 15, 3) := by decide +kernel
theorem dX0_lastDayOf_27 : decode cX0_lastDayOf 27 = .ok (.iload_n 3, 1) := by decide +kernel
theorem dX0_lastDayOf_28 : decode cX0_lastDayOf 28 = .ok (.iaload, 1) := by decide +kernel
theorem dX0_lastDayOf_29 : decode cX0_lastDayOf 29 = .ok (.invokestatic 25, 3) := by decide +kernel
theorem dX0_lastDayOf_32 : decode cX0_lastDayOf 32 = .ok (.istore_n 2, 1) := by decide +kernel
theorem dX0_lastDayOf_33 : decode cX0_lastDayOf 33 = .ok (.iinc 3 1, 3) := by decide +kernel
theorem dX0_lastDayOf_36 : decode cX0_lastDayOf 36 = .ok (.goto (-32), 3) := by decide +kernel
theorem dX0_lastDayOf_39 : decode cX0_lastDayOf 39 = .ok (.iload_n 2, 1) := by decide +kernel
theorem dX0_lastDayOf_40 : decode cX0_lastDayOf 40 = .ok (.ireturn, 1) := by decide +kernel
theorem dX0_agree_0 : decode cX0_agree 0 = .ok (.iconst 0, 1) := by decide +kernel
theorem dX0_agree_1 : decode cX0_agree 1 = .ok (.istore 4, 2) := by decide +kernel
theorem dX0_agree_3 : decode cX0_agree 3 = .ok (.iload 4, 2) := by decide +kernel
theorem dX0_agree_5 : decode cX0_agree 5 = .ok (.aload_n 0, 1) := by decide +kernel
theorem dX0_agree_6 : decode cX0_agree 6 = .ok (.getfield 21, 3) := by decide +kernel
theorem dX0_agree_9 : decode cX0_agree 9 = .ok (.if_icmp .ge 44, 3) := by decide +kernel
theorem dX0_agree_12 : decode cX0_agree 12 = .ok (.aload_n 0, 1) := by decide +kernel
theorem dX0_agree_13 : decode cX0_agree 13 = .ok (.getfield 9, 3) := by decide +kernel
theorem dX0_agree_16 : decode cX0_agree 16 = .ok (.iload 4, 2) := by decide +kernel
theorem dX0_agree_18 : decode cX0_agree 18 = .ok (.iaload, 1) := by decide +kernel
theorem dX0_agree_19 : decode cX0_agree 19 = .ok (.iload_n 1, 1) := by decide +kernel
theorem dX0_agree_20 : decode cX0_agree 20 = .ok (.if_icmp .ne 27, 3) := by decide +kernel
theorem dX0_agree_23 : decode cX0_agree 23 = .ok (.aload_n 0, 1) := by decide +kernel
theorem dX0_agree_24 : decode cX0_agree 24 = .ok (.getfield 15, 3) := by decide +kernel
theorem dX0_agree_27 : decode cX0_agree 27 = .ok (.iload 4, 2) := by decide +kernel
theorem dX0_agree_29 : decode cX0_agree 29 = .ok (.iaload, 1) := by decide +kernel
theorem dX0_agree_30 : decode cX0_agree 30 = .ok (.iload_n 2, 1) := by decide +kernel
theorem dX0_agree_31 : decode cX0_agree 31 = .ok (.if_icmp .ne 16, 3) := by decide +kernel
theorem dX0_agree_34 : decode cX0_agree 34 = .ok (.aload_n 0, 1) := by decide +kernel
theorem dX0_agree_35 : decode cX0_agree 35 = .ok (.getfield 18, 3) := by decide +kernel
theorem dX0_agree_38 : decode cX0_agree 38 = .ok (.iload 4, 2) := by decide +kernel
theorem dX0_agree_40 : decode cX0_agree 40 = .ok (.iaload, 1) := by decide +kernel
theorem dX0_agree_41 : decode cX0_agree 41 = .ok (.iload_n 3, 1) := by decide +kernel
theorem dX0_agree_42 : decode cX0_agree 42 = .ok (.if_icmp .eq 5, 3) := by decide +kernel
theorem dX0_agree_45 : decode cX0_agree 45 = .ok (.iconst 0, 1) := by decide +kernel
theorem dX0_agree_46 : decode cX0_agree 46 = .ok (.ireturn, 1) := by decide +kernel
theorem dX0_agree_47 : decode cX0_agree 47 = .ok (.iinc 4 1, 3) := by decide +kernel
theorem dX0_agree_50 : decode cX0_agree 50 = .ok (.goto (-47), 3) := by decide +kernel
theorem dX0_agree_53 : decode cX0_agree 53 = .ok (.iconst 1, 1) := by decide +kernel
theorem dX0_agree_54 : decode cX0_agree 54 = .ok (.ireturn, 1) := by decide +kernel
theorem dX1_init_0 : decode cX1_init 0 = .ok (.aload_n 0, 1) := by decide +kernel
theorem dX1_init_1 : decode cX1_init 1 = .ok (.invokespecial 3, 3) := by decide +kernel
theorem dX1_init_4 : decode cX1_init 4 = .ok (.aload_n 0, 1) := by decide +kernel
theorem dX1_init_5 : decode cX1_init 5 = .ok (.sipush 160, 3) := by decide +kernel
theorem dX1_init_8 : decode cX1_init 8 = .ok (.newarray .char, 2) := by decide +kernel
theorem dX1_init_10 : decode cX1_init 10 = .ok (.putfield 9, 3) := by decide +kernel
theorem dX1_init_13 : decode cX1_init 13 = .ok (.return_, 1) := by decide +kernel
theorem dX1_append_0 : decode cX1_append 0 = .ok (.aload_n 0, 1) := by decide +kernel
theorem dX1_append_1 : decode cX1_append 1 = .ok (.getfield 15, 3) := by decide +kernel
theorem dX1_append_4 : decode cX1_append 4 = .ok (.sipush 160, 3) := by decide +kernel
theorem dX1_append_7 : decode cX1_append 7 = .ok (.if_icmp .lt 4, 3) := by decide +kernel
theorem dX1_append_10 : decode cX1_append 10 = .ok (.return_, 1) := by decide +kernel
theorem dX1_append_11 : decode cX1_append 11 = .ok (.aload_n 0, 1) := by decide +kernel
theorem dX1_append_12 : decode cX1_append 12 = .ok (.getfield 9, 3) := by decide +kernel
theorem dX1_append_15 : decode cX1_append 15 = .ok (.aload_n 0, 1) := by decide +kernel
theorem dX1_append_16 : decode cX1_append 16 = .ok (.getfield 15, 3) := by decide +kernel
theorem dX1_append_19 : decode cX1_append 19 = .ok (.iload_n 1, 1) := by decide +kernel
theorem dX1_append_20 : decode cX1_append 20 = .ok (.castore, 1) := by decide +kernel
theorem dX1_append_21 : decode cX1_append 21 = .ok (.aload_n 0, 1) := by decide +kernel
theorem dX1_append_22 : decode cX1_append 22 = .ok (.dup, 1) := by decide +kernel
theorem dX1_append_23 : decode cX1_append 23 = .ok (.getfield 15, 3) := by decide +kernel
theorem dX1_append_26 : decode cX1_append 26 = .ok (.iconst 1, 1) := by decide +kernel
theorem dX1_append_27 : decode cX1_append 27 = .ok (.iadd, 1) := by decide +kernel
theorem dX1_append_28 : decode cX1_append 28 = .ok (.putfield 15, 3) := by decide +kernel
theorem dX1_append_31 : decode cX1_append 31 = .ok (.return_, 1) := by decide +kernel
theorem dX1_readInto_0 : decode cX1_readInto 0 = .ok (.aload_n 0, 1) := by decide +kernel
theorem dX1_readInto_1 : decode cX1_readInto 1 = .ok (.iconst 0, 1) := by decide +kernel
theorem dX1_readInto_2 : decode cX1_readInto 2 = .ok (.putfield 19, 3) := by decide +kernel
theorem dX1_readInto_5 : decode cX1_readInto 5 = .ok (.aload_n 0, 1) := by decide +kernel
theorem dX1_readInto_6 : decode cX1_readInto 6 = .ok (.iconst 0, 1) := by decide +kernel
theorem dX1_readInto_7 : decode cX1_readInto 7 = .ok (.putfield 22, 3) := by decide +kernel
theorem dX1_readInto_10 : decode cX1_readInto 10 = .ok (.iconst 0, 1) := by decide +kernel
theorem dX1_readInto_11 : decode cX1_readInto 11 = .ok (.istore_n 2, 1) := by decide +kernel
theorem dX1_readInto_12 : decode cX1_readInto 12 = .ok (.iload_n 2, 1) := by decide +kernel
theorem dX1_readInto_13 : decode cX1_readInto 13 = .ok (.bipush 14, 2) := by decide +kernel
theorem dX1_readInto_15 : decode cX1_readInto 15 = .ok (.if_icmp .ge 68, 3) := by decide +kernel
theorem dX1_readInto_18 : decode cX1_readInto 18 = .ok (.aload_n 0, 1) := by decide +kernel
theorem dX1_readInto_19 : decode cX1_readInto 19 = .ok (.aload_n 1, 1) := by decide +kernel
theorem dX1_readInto_20 : decode cX1_readInto 20 = .ok (.invokevirtual 25, 3) := by decide +kernel
theorem dX1_readInto_23 : decode cX1_readInto 23 = .ok (.ifCond .ne 8, 3) := by decide +kernel
theorem dX1_readInto_26 : decode cX1_readInto 26 = .ok (.aload_n 0, 1) := by decide +kernel
theorem dX1_readInto_27 : decode cX1_readInto 27 = .ok (.getfield 29, 3) := by decide +kernel
theorem dX1_readInto_30 : decode cX1_readInto 30 = .ok (.ireturn, 1) := by decide +kernel
theorem dX1_readInto_31 : decode cX1_readInto 31 = .ok (.aload_n 0, 1) := by decide +kernel
theorem dX1_readInto_32 : decode cX1_readInto 32 = .ok (.dup, 1) := by decide +kernel
theorem dX1_readInto_33 : decode cX1_readInto 33 = .ok (.getfield 19, 3) := by decide +kernel
theorem dX1_readInto_36 : decode cX1_readInto 36 = .ok (.iconst 1, 1) := by decide +kernel
theorem dX1_readInto_37 : decode cX1_readInto 37 = .ok (.iadd, 1) := by decide +kernel
theorem dX1_readInto_38 : decode cX1_readInto 38 = .ok (.putfield 19, 3) := by decide +kernel
theorem dX1_readInto_41 : decode cX1_readInto 41 = .ok (.aload_n 0, 1) := by decide +kernel
theorem dX1_readInto_42 : decode cX1_readInto 42 = .ok (.invokevirtual 32, 3) := by decide +kernel
theorem dX1_readInto_45 : decode cX1_readInto 45 = .ok (.aload_n 0, 1) := by decide +kernel
theorem dX1_readInto_46 : decode cX1_readInto 46 = .ok (.getfield 29, 3) := by decide +kernel
theorem dX1_readInto_49 : decode cX1_readInto 49 = .ok (.aload_n 0, 1) := by decide +kernel
theorem dX1_readInto_50 : decode cX1_readInto 50 = .ok (.getfield 15, 3) := by decide +kernel
theorem dX1_readInto_53 : decode cX1_readInto 53 = .ok (.if_icmp .lt 5, 3) := by decide +kernel
theorem dX1_readInto_56 : decode cX1_readInto 56 = .ok (.iconst (-1), 1) := by decide +kernel
theorem dX1_readInto_57 : decode cX1_readInto 57 = .ok (.ireturn, 1) := by decide +kernel
theorem dX1_readInto_58 : decode cX1_readInto 58 = .ok (.aload_n 0, 1) := by decide +kernel
theorem dX1_readInto_59 : decode cX1_readInto 59 = .ok (.getfield 9, 3) := by decide +kernel
theorem dX1_readInto_62 : decode cX1_readInto 62 = .ok (.aload_n 0, 1) := by decide +kernel
theorem dX1_readInto_63 : decode cX1_readInto 63 = .ok (.getfield 29, 3) := by decide +kernel
theorem dX1_readInto_66 : decode cX1_readInto 66 = .ok (.caload, 1) := by decide +kernel
theorem dX1_readInto_67 : decode cX1_readInto 67 = .ok (.bipush 59, 2) := by decide +kernel
theorem dX1_readInto_69 : decode cX1_readInto 69 = .ok (.if_icmp .eq 8, 3) := by decide +kernel
theorem dX1_readInto_72 : decode cX1_readInto 72 = .ok (.aload_n 0, 1) := by decide +kernel
theorem dX1_readInto_73 : decode cX1_readInto 73 = .ok (.getfield 29, 3) := by decide +kernel
theorem dX1_readInto_76 : decode cX1_readInto 76 = .ok (.ireturn, 1) := by decide +kernel
theorem dX1_readInto_77 : decode cX1_readInto 77 = .ok (.iinc 2 1, 3) := by decide +kernel
theorem dX1_readInto_80 : decode cX1_readInto 80 = .ok (.goto (-68), 3) := by decide +kernel
theorem dX1_readInto_83 : decode cX1_readInto 83 = .ok (.aload_n 0, 1) := by decide +kernel
theorem dX1_readInto_84 : decode cX1_readInto 84 = .ok (.getfield 29, 3) := by decide +kernel
theorem dX1_readInto_87 : decode cX1_readInto 87 = .ok (.ireturn, 1) := by decide +kernel
theorem dX1_readClause_0 : decode cX1_readClause 0 = .ok (.aload_n 0, 1) := by decide +kernel
theorem dX1_readClause_1 : decode cX1_readClause 1 = .ok (.invokevirtual 32, 3) := by decide +kernel
theorem dX1_readClause_4 : decode cX1_readClause 4 = .ok (.aload_n 0, 1) := by decide +kernel
theorem dX1_readClause_5 : decode cX1_readClause 5 = .ok (.ldc 35, 2) := by decide +kernel
theorem dX1_readClause_7 : decode cX1_readClause 7 = .ok (.invokevirtual 37, 3) := by decide +kernel
theorem dX1_readClause_10 : decode cX1_readClause 10 = .ok (.ifCond .eq 9, 3) := by decide +kernel
theorem dX1_readClause_13 : decode cX1_readClause 13 = .ok (.aload_n 1, 1) := by decide +kernel
theorem dX1_readClause_14 : decode cX1_readClause 14 = .ok (.invokevirtual 41, 3) := by decide +kernel
theorem dX1_readClause_17 : decode cX1_readClause 17 = .ok (.iconst 1, 1) := by decide +kernel
theorem dX1_readClause_18 : decode cX1_readClause 18 = .ok (.ireturn, 1) := by decide +kernel
theorem dX1_readClause_19 : decode cX1_readClause 19 = .ok (.aload_n 0, 1) := by decide +kernel
theorem dX1_readClause_20 : decode cX1_readClause 20 = .ok (.ldc 46, 2) := by decide +kernel
theorem dX1_readClause_22 : decode cX1_readClause 22 = .ok (.invokevirtual 37, 3) := by decide +kernel
theorem dX1_readClause_25 : decode cX1_readClause 25 = .ok (.ifCond .eq 9, 3) := by decide +kernel
theorem dX1_readClause_28 : decode cX1_readClause 28 = .ok (.aload_n 1, 1) := by decide +kernel
theorem dX1_readClause_29 : decode cX1_readClause 29 = .ok (.invokevirtual 48, 3) := by decide +kernel
theorem dX1_readClause_32 : decode cX1_readClause 32 = .ok (.iconst 1, 1) := by decide +kernel
theorem dX1_readClause_33 : decode cX1_readClause 33 = .ok (.ireturn, 1) := by decide +kernel
theorem dX1_readClause_34 : decode cX1_readClause 34 = .ok (.aload_n 0, 1) := by decide +kernel
theorem dX1_readClause_35 : decode cX1_readClause 35 = .ok (.ldc 51, 2) := by decide +kernel
theorem dX1_readClause_37 : decode cX1_readClause 37 = .ok (.invokevirtual 37, 3) := by decide +kernel
theorem dX1_readClause_40 : decode cX1_readClause 40 = .ok (.ifCond .eq 26, 3) := by decide +kernel
theorem dX1_readClause_43 : decode cX1_readClause 43 = .ok (.aload_n 1, 1) := by decide +kernel
theorem dX1_readClause_44 : decode cX1_readClause 44 = .ok (.getfield 53, 3) := by decide +kernel
theorem dX1_readClause_47 : decode cX1_readClause 47 = .ok (.bipush 8, 2) := by decide +kernel
theorem dX1_readClause_49 : decode cX1_readClause 49 = .ok (.if_icmp .ge 15, 3) := by decide +kernel
theorem dX1_readClause_52 : decode cX1_readClause 52 = .ok (.aload_n 0, 1) := by decide +kernel
theorem dX1_readClause_53 : decode cX1_readClause 53 = .ok (.aload_n 1, 1) := by decide +kernel
theorem dX1_readClause_54 : decode cX1_readClause 54 = .ok (.invokevirtual 56, 3) := by decide +kernel
theorem dX1_readClause_57 : decode cX1_readClause 57 = .ok (.ifCond .eq 7, 3) := by decide +kernel
theorem dX1_readClause_60 : decode cX1_readClause 60 = .ok (.iconst 1, 1) := by decide +kernel
theorem dX1_readClause_61 : decode cX1_readClause 61 = .ok (.goto 4, 3) := by decide +kernel
theorem dX1_readClause_64 : decode cX1_readClause 64 = .ok (.iconst 0, 1) := by decide +kernel
theorem dX1_readClause_65 : decode cX1_readClause 65 = .ok (.ireturn, 1) := by decide +kernel
theorem dX1_readClause_66 : decode cX1_readClause 66 = .ok (.aload_n 0, 1) := by decide +kernel
theorem dX1_readClause_67 : decode cX1_readClause 67 = .ok (.ldc 59, 2) := by decide +kernel
theorem dX1_readClause_69 : decode cX1_readClause 69 = .ok (.invokevirtual 37, 3) := by decide +kernel
theorem dX1_readClause_72 : decode cX1_readClause 72 = .ok (.ifCond .eq 9, 3) := by decide +kernel
theorem dX1_readClause_75 : decode cX1_readClause 75 = .ok (.aload_n 0, 1) := by decide +kernel
theorem dX1_readClause_76 : decode cX1_readClause 76 = .ok (.aload_n 1, 1) := by decide +kernel
theorem dX1_readClause_77 : decode cX1_readClause 77 = .ok (.invokevirtual 61, 3) := by decide +kernel
theorem dX1_readClause_80 : decode cX1_readClause 80 = .ok (.ireturn, 1) := by decide +kernel
theorem dX1_readClause_81 : decode cX1_readClause 81 = .ok (.aload_n 0, 1) := by decide +kernel
theorem dX1_readClause_82 : decode cX1_readClause 82 = .ok (.invokevirtual 64, 3) := by decide +kernel
theorem dX1_readClause_85 : decode cX1_readClause 85 = .ok (.istore_n 2, 1) := by decide +kernel
theorem dX1_readClause_86 : decode cX1_readClause 86 = .ok (.iload_n 2, 1) := by decide +kernel
theorem dX1_readClause_87 : decode cX1_readClause 87 = .ok (.iconst (-1), 1) := by decide +kernel
theorem dX1_readClause_88 : decode cX1_readClause 88 = .ok (.if_icmp .eq 24, 3) := by decide +kernel
theorem dX1_readClause_91 : decode cX1_readClause 91 = .ok (.aload_n 1, 1) := by decide +kernel
theorem dX1_readClause_92 : decode cX1_readClause 92 = .ok (.getfield 68, 3) := by decide +kernel
theorem dX1_readClause_95 : decode cX1_readClause 95 = .ok (.iconst 5, 1) := by decide +kernel
theorem dX1_readClause_96 : decode cX1_readClause 96 = .ok (.if_icmp .ge 16, 3) := by decide +kernel
theorem dX1_readClause_99 : decode cX1_readClause 99 = .ok (.aload_n 0, 1) := by decide +kernel
theorem dX1_readClause_100 : decode cX1_readClause 100 = .ok (.aload_n 1, 1) := by decide +kernel
theorem dX1_readClause_101 : decode cX1_readClause 101 = .ok (.iload_n 2, 1) := by decide +kernel
theorem dX1_readClause_102 : decode cX1_readClause 102 = .ok (.invokevirtual 71, 3) := by decide +kernel
theorem dX1_readClause_105 : decode cX1_readClause 105 = .ok (.ifCond .eq 7, 3) := by decide +kernel
theorem dX1_readClause_108 : decode cX1_readClause 108 = .ok (.iconst 1, 1) := by decide +kernel
theorem dX1_readClause_109 : decode cX1_readClause 109 = .ok (.goto 4, 3) := by decide +kernel
theorem dX1_readClause_112 : decode cX1_readClause 112 = .ok (.iconst 0, 1) := by decide +kernel
theorem dX1_readClause_113 : decode cX1_readClause 113 = .ok (.ireturn, 1) := by decide +kernel
theorem dX1_readPlace_0 : decode cX1_readPlace 0 = .ok (.aload_n 0, 1) := by decide +kernel
theorem dX1_readPlace_1 : decode cX1_readPlace 1 = .ok (.bipush 7, 2) := by decide +kernel
theorem dX1_readPlace_3 : decode cX1_readPlace 3 = .ok (.invokevirtual 75, 3) := by decide +kernel
theorem dX1_readPlace_6 : decode cX1_readPlace 6 = .ok (.istore_n 2, 1) := by decide +kernel
theorem dX1_readPlace_7 : decode cX1_readPlace 7 = .ok (.iload_n 2, 1) := by decide +kernel
theorem dX1_readPlace_8 : decode cX1_readPlace 8 = .ok (.iconst (-1), 1) := by decide +kernel
theorem dX1_readPlace_9 : decode cX1_readPlace 9 = .ok (.if_icmp .ne 5, 3) := by decide +kernel
theorem dX1_readPlace_12 : decode cX1_readPlace 12 = .ok (.iconst 0, 1) := by decide +kernel
theorem dX1_readPlace_13 : decode cX1_readPlace 13 = .ok (.ireturn, 1) := by decide +kernel
theorem dX1_readPlace_14 : decode cX1_readPlace 14 = .ok (.aload_n 0, 1) := by decide +kernel
theorem dX1_readPlace_15 : decode cX1_readPlace 15 = .ok (.bipush 9, 2) := by decide +kernel
theorem dX1_readPlace_17 : decode cX1_readPlace 17 = .ok (.invokevirtual 75, 3) := by decide +kernel
theorem dX1_readPlace_20 : decode cX1_readPlace 20 = .ok (.istore_n 3, 1) := by decide +kernel
theorem dX1_readPlace_21 : decode cX1_readPlace 21 = .ok (.iload_n 3, 1) := by decide +kernel
theorem dX1_readPlace_22 : decode cX1_readPlace 22 = .ok (.iconst (-1), 1) := by decide +kernel
theorem dX1_readPlace_23 : decode cX1_readPlace 23 = .ok (.if_icmp .ne 5, 3) := by decide +kernel
theorem dX1_readPlace_26 : decode cX1_readPlace 26 = .ok (.iconst 0, 1) := by decide +kernel
theorem dX1_readPlace_27 : decode cX1_readPlace 27 = .ok (.ireturn, 1) := by decide +kernel
theorem dX1_readPlace_28 : decode cX1_readPlace 28 = .ok (.aload_n 0, 1) := by decide +kernel
theorem dX1_readPlace_29 : decode cX1_readPlace 29 = .ok (.bipush 9, 2) := by decide +kernel
theorem dX1_readPlace_31 : decode cX1_readPlace 31 = .ok (.invokevirtual 75, 3) := by decide +kernel
theorem dX1_readPlace_34 : decode cX1_readPlace 34 = .ok (.istore 4, 2) := by decide +kernel
theorem dX1_readPlace_36 : decode cX1_readPlace 36 = .ok (.iload 4, 2) := by decide +kernel
theorem dX1_readPlace_38 : decode cX1_readPlace 38 = .ok (.iconst (-1), 1) := by decide +kernel
theorem dX1_readPlace_39 : decode cX1_readPlace 39 = .ok (.if_icmp .ne 5, 3) := by decide +kernel
theorem dX1_readPlace_42 : decode cX1_readPlace 42 = .ok (.iconst 0, 1) := by decide +kernel
theorem dX1_readPlace_43 : decode cX1_readPlace 43 = .ok (.ireturn, 1) := by decide +kernel
theorem dX1_readPlace_44 : decode cX1_readPlace 44 = .ok (.aload_n 1, 1) := by decide +kernel
theorem dX1_readPlace_45 : decode cX1_readPlace 45 = .ok (.iload_n 2, 1) := by decide +kernel
theorem dX1_readPlace_46 : decode cX1_readPlace 46 = .ok (.iload_n 3, 1) := by decide +kernel
theorem dX1_readPlace_47 : decode cX1_readPlace 47 = .ok (.iload 4, 2) := by decide +kernel
theorem dX1_readPlace_49 : decode cX1_readPlace 49 = .ok (.invokevirtual 79, 3) := by decide +kernel
theorem dX1_readPlace_52 : decode cX1_readPlace 52 = .ok (.iconst 1, 1) := by decide +kernel
theorem dX1_readPlace_53 : decode cX1_readPlace 53 = .ok (.ireturn, 1) := by decide +kernel
theorem dX1_readNews_0 : decode cX1_readNews 0 = .ok (.aload_n 0, 1) := by decide +kernel
theorem dX1_readNews_1 : decode cX1_readNews 1 = .ok (.bipush 13, 2) := by decide +kernel
theorem dX1_readNews_3 : decode cX1_readNews 3 = .ok (.invokevirtual 75, 3) := by decide +kernel
theorem dX1_readNews_6 : decode cX1_readNews 6 = .ok (.istore_n 2, 1) := by decide +kernel
theorem dX1_readNews_7 : decode cX1_readNews 7 = .ok (.iload_n 2, 1) := by decide +kernel
theorem dX1_readNews_8 : decode cX1_readNews 8 = .ok (.iconst (-1), 1) := by decide +kernel
theorem dX1_readNews_9 : decode cX1_readNews 9 = .ok (.if_icmp .ne 5, 3) := by decide +kernel
theorem dX1_readNews_12 : decode cX1_readNews 12 = .ok (.iconst 0, 1) := by decide +kernel
theorem dX1_readNews_13 : decode cX1_readNews 13 = .ok (.ireturn, 1) := by decide +kernel
theorem dX1_readNews_14 : decode cX1_readNews 14 = .ok (.aload_n 0, 1) := by decide +kernel
theorem dX1_readNews_15 : decode cX1_readNews 15 = .ok (.bipush 7, 2) := by decide +kernel
theorem dX1_readNews_17 : decode cX1_readNews 17 = .ok (.invokevirtual 75, 3) := by decide +kernel
theorem dX1_readNews_20 : decode cX1_readNews 20 = .ok (.istore_n 3, 1) := by decide +kernel
theorem dX1_readNews_21 : decode cX1_readNews 21 = .ok (.iload_n 3, 1) := by decide +kernel
theorem dX1_readNews_22 : decode cX1_readNews 22 = .ok (.iconst (-1), 1) := by decide +kernel
theorem dX1_readNews_23 : decode cX1_readNews 23 = .ok (.if_icmp .ne 5, 3) := by decide +kernel
theorem dX1_readNews_26 : decode cX1_readNews 26 = .ok (.iconst 0, 1) := by decide +kernel
theorem dX1_readNews_27 : decode cX1_readNews 27 = .ok (.ireturn, 1) := by decide +kernel
theorem dX1_readNews_28 : decode cX1_readNews 28 = .ok (.aload_n 1, 1) := by decide +kernel
theorem dX1_readNews_29 : decode cX1_readNews 29 = .ok (.getfield 83, 3) := by decide +kernel
theorem dX1_readNews_32 : decode cX1_readNews 32 = .ok (.iload_n 2, 1) := by decide +kernel
theorem dX1_readNews_33 : decode cX1_readNews 33 = .ok (.iload_n 3, 1) := by decide +kernel
theorem dX1_readNews_34 : decode cX1_readNews 34 = .ok (.iastore, 1) := by decide +kernel
theorem dX1_readNews_35 : decode cX1_readNews 35 = .ok (.iconst 1, 1) := by decide +kernel
theorem dX1_readNews_36 : decode cX1_readNews 36 = .ok (.ireturn, 1) := by decide +kernel
theorem dX1_readHen_0 : decode cX1_readHen 0 = .ok (.aload_n 0, 1) := by decide +kernel
theorem dX1_readHen_1 : decode cX1_readHen 1 = .ok (.bipush 9, 2) := by decide +kernel
theorem dX1_readHen_3 : decode cX1_readHen 3 = .ok (.invokevirtual 75, 3) := by decide +kernel
theorem dX1_readHen_6 : decode cX1_readHen 6 = .ok (.istore_n 3, 1) := by decide +kernel
theorem dX1_readHen_7 : decode cX1_readHen 7 = .ok (.iload_n 3, 1) := by decide +kernel
theorem dX1_readHen_8 : decode cX1_readHen 8 = .ok (.iconst (-1), 1) := by decide +kernel
theorem dX1_readHen_9 : decode cX1_readHen 9 = .ok (.if_icmp .ne 5, 3) := by decide +kernel
theorem dX1_readHen_12 : decode cX1_readHen 12 = .ok (.iconst 0, 1) := by decide +kernel
theorem dX1_readHen_13 : decode cX1_readHen 13 = .ok (.ireturn, 1) := by decide +kernel
theorem dX1_readHen_14 : decode cX1_readHen 14 = .ok (.aload_n 1, 1) := by decide +kernel
theorem dX1_readHen_15 : decode cX1_readHen 15 = .ok (.iload_n 2, 1) := by decide +kernel
theorem dX1_readHen_16 : decode cX1_readHen 16 = .ok (.iload_n 3, 1) := by decide +kernel
theorem dX1_readHen_17 : decode cX1_readHen 17 = .ok (.invokevirtual 86, 3) := by decide +kernel
theorem dX1_readHen_20 : decode cX1_readHen 20 = .ok (.iconst 1, 1) := by decide +kernel
theorem dX1_readHen_21 : decode cX1_readHen 21 = .ok (.ireturn, 1) := by decide +kernel
theorem dX1_kindRead_0 : decode cX1_kindRead 0 = .ok (.aload_n 0, 1) := by decide +kernel
theorem dX1_kindRead_1 : decode cX1_kindRead 1 = .ok (.ldc 90, 2) := by decide +kernel
theorem dX1_kindRead_3 : decode cX1_kindRead 3 = .ok (.invokevirtual 37, 3) := by decide +kernel
theorem dX1_kindRead_6 : decode cX1_kindRead 6 = .ok (.ifCond .eq 5, 3) := by decide +kernel
theorem dX1_kindRead_9 : decode cX1_kindRead 9 = .ok (.iconst 0, 1) := by decide +kernel
theorem dX1_kindRead_10 : decode cX1_kindRead 10 = .ok (.ireturn, 1) := by decide +kernel
theorem dX1_kindRead_11 : decode cX1_kindRead 11 = .ok (.aload_n 0, 1) := by decide +kernel
theorem dX1_kindRead_12 : decode cX1_kindRead 12 = .ok (.ldc 92, 2) := by decide +kernel
theorem dX1_kindRead_14 : decode cX1_kindRead 14 = .ok (.invokevirtual 37, 3) := by decide +kernel
theorem dX1_kindRead_17 : decode cX1_kindRead 17 = .ok (.ifCond .eq 5, 3) := by decide +kernel
theorem dX1_kindRead_20 : decode cX1_kindRead 20 = .ok (.iconst 1, 1) := by decide +kernel
theorem dX1_kindRead_21 : decode cX1_kindRead 21 = .ok (.ireturn, 1) := by decide +kernel
theorem dX1_kindRead_22 : decode cX1_kindRead 22 = .ok (.aload_n 0, 1) := by decide +kernel
theorem dX1_kindRead_23 : decode cX1_kindRead 23 = .ok (.ldc 94, 2) := by decide +kernel
theorem dX1_kindRead_25 : decode cX1_kindRead 25 = .ok (.invokevirtual 37, 3) := by decide +kernel
theorem dX1_kindRead_28 : decode cX1_kindRead 28 = .ok (.ifCond .eq 5, 3) := by decide +kernel
theorem dX1_kindRead_31 : decode cX1_kindRead 31 = .ok (.iconst 2, 1) := by decide +kernel
theorem dX1_kindRead_32 : decode cX1_kindRead 32 = .ok (.ireturn, 1) := by decide +kernel
theorem dX1_kindRead_33 : decode cX1_kindRead 33 = .ok (.aload_n 0, 1) := by decide +kernel
theorem dX1_kindRead_34 : decode cX1_kindRead 34 = .ok (.ldc 96, 2) := by decide +kernel
theorem dX1_kindRead_36 : decode cX1_kindRead 36 = .ok (.invokevirtual 37, 3) := by decide +kernel
theorem dX1_kindRead_39 : decode cX1_kindRead 39 = .ok (.ifCond .eq 7, 3) := by decide +kernel
theorem dX1_kindRead_42 : decode cX1_kindRead 42 = .ok (.iconst 3, 1) := by decide +kernel
theorem dX1_kindRead_43 : decode cX1_kindRead 43 = .ok (.goto 4, 3) := by decide +kernel
theorem dX1_kindRead_46 : decode cX1_kindRead 46 = .ok (.iconst (-1), 1) := by decide +kernel
theorem dX1_kindRead_47 : decode cX1_kindRead 47 = .ok (.ireturn, 1) := by decide +kernel
theorem dX1_reads_0 : decode cX1_reads 0 = .ok (.aload_n 0, 1) := by decide +kernel
theorem dX1_reads_1 : decode cX1_reads 1 = .ok (.getfield 22, 3) := by decide +kernel
theorem dX1_reads_4 : decode cX1_reads 4 = .ok (.aload_n 0, 1) := by decide +kernel
theorem dX1_reads_5 : decode cX1_reads 5 = .ok (.getfield 29, 3) := by decide +kernel
theorem dX1_reads_8 : decode cX1_reads 8 = .ok (.isub, 1) := by decide +kernel
theorem dX1_reads_9 : decode cX1_reads 9 = .ok (.aload_n 1, 1) := by decide +kernel
theorem dX1_reads_10 : decode cX1_reads 10 = .ok (.invokevirtual 98, 3) := by decide +kernel
theorem dX1_reads_13 : decode cX1_reads 13 = .ok (.if_icmp .eq 5, 3) := by decide +kernel
theorem dX1_reads_16 : decode cX1_reads 16 = .ok (.iconst 0, 1) := by decide +kernel
theorem dX1_reads_17 : decode cX1_reads 17 = .ok (.ireturn, 1) := by decide +kernel
theorem dX1_reads_18 : decode cX1_reads 18 = .ok (.iconst 0, 1) := by decide +kernel
theorem dX1_reads_19 : decode cX1_reads 19 = .ok (.istore_n 2, 1) := by decide +kernel
theorem dX1_reads_20 : decode cX1_reads 20 = .ok (.iload_n 2, 1) := by decide +kernel
theorem dX1_reads_21 : decode cX1_reads 21 = .ok (.aload_n 1, 1) := by decide +kernel
theorem dX1_reads_22 : decode cX1_reads 22 = .ok (.invokevirtual 98, 3) := by decide +kernel
theorem dX1_reads_25 : decode cX1_reads 25 = .ok (.if_icmp .ge 30, 3) := by decide +kernel
theorem dX1_reads_28 : decode cX1_reads 28 = .ok (.aload_n 0, 1) := by decide +kernel
theorem dX1_reads_29 : decode cX1_reads 29 = .ok (.getfield 9, 3) := by decide +kernel
theorem dX1_reads_32 : decode cX1_reads 32 = .ok (.aload_n 0, 1) := by decide +kernel
theorem dX1_reads_33 : decode cX1_reads 33 = .ok (.getfield 29, 3) := by decide +kernel
theorem dX1_reads_36 : decode cX1_reads 36 = .ok (.iload_n 2, 1) := by decide +kernel
theorem dX1_reads_37 : decode cX1_reads 37 = .ok (.iadd, 1) := by decide +kernel
theorem dX1_reads_38 : decode cX1_reads 38 = .ok (.caload, 1) := by decide +kernel
theorem dX1_reads_39 : decode cX1_reads 39 = .ok (.aload_n 1, 1) := by decide +kernel
theorem dX1_reads_40 : decode cX1_reads 40 = .ok (.iload_n 2, 1) := by decide +kernel
theorem dX1_reads_41 : decode cX1_reads 41 = .ok (.invokevirtual 102, 3) := by decide +kernel
theorem dX1_reads_44 : decode cX1_reads 44 = .ok (.if_icmp .eq 5, 3) := by decide +kernel
theorem dX1_reads_47 : decode cX1_reads 47 = .ok (.iconst 0, 1) := by decide +kernel
theorem dX1_reads_48 : decode cX1_reads 48 = .ok (.ireturn, 1) := by decide +kernel
theorem dX1_reads_49 : decode cX1_reads 49 = .ok (.iinc 2 1, 3) := by decide +kernel
theorem dX1_reads_52 : decode cX1_reads 52 = .ok (.goto (-32), 3) := by decide +kernel
theorem dX1_reads_55 : decode cX1_reads 55 = .ok (.iconst 1, 1) := by decide +kernel
theorem dX1_reads_56 : decode cX1_reads 56 = .ok (.ireturn, 1) := by decide +kernel
theorem dX1_nextNumber_0 : decode cX1_nextNumber 0 = .ok (.aload_n 0, 1) := by decide +kernel
theorem dX1_nextNumber_1 : decode cX1_nextNumber 1 = .ok (.invokevirtual 32, 3) := by decide +kernel
theorem dX1_nextNumber_4 : decode cX1_nextNumber 4 = .ok (.aload_n 0, 1) := by decide +kernel
theorem dX1_nextNumber_5 : decode cX1_nextNumber 5 = .ok (.getfield 22, 3) := by decide +kernel
theorem dX1_nextNumber_8 : decode cX1_nextNumber 8 = .ok (.aload_n 0, 1) := by decide +kernel
theorem dX1_nextNumber_9 : decode cX1_nextNumber 9 = .ok (.getfield 29, 3) := by decide +kernel
theorem dX1_nextNumber_12 : decode cX1_nextNumber 12 = .ok (.isub, 1) := by decide +kernel
theorem dX1_nextNumber_13 : decode cX1_nextNumber 13 = .ok (.istore_n 2, 1) := by decide +kernel
theorem dX1_nextNumber_14 : decode cX1_nextNumber 14 = .ok (.iload_n 2, 1) := by decide +kernel
theorem dX1_nextNumber_15 : decode cX1_nextNumber 15 = .ok (.iconst 1, 1) := by decide +kernel
theorem dX1_nextNumber_16 : decode cX1_nextNumber 16 = .ok (.if_icmp .lt 23, 3) := by decide +kernel
theorem dX1_nextNumber_19 : decode cX1_nextNumber 19 = .ok (.iload_n 2, 1) := by decide +kernel
theorem dX1_nextNumber_20 : decode cX1_nextNumber 20 = .ok (.iconst 2, 1) := by decide +kernel
theorem dX1_nextNumber_21 : decode cX1_nextNumber 21 = .ok (.if_icmp .gt 18, 3) := by decide +kernel
theorem dX1_nextNumber_24 : decode cX1_nextNumber 24 = .ok (.aload_n 0, 1) := by decide +kernel
theorem dX1_nextNumber_25 : decode cX1_nextNumber 25 = .ok (.getfield 9, 3) := by decide +kernel
theorem dX1_nextNumber_28 : decode cX1_nextNumber 28 = .ok (.aload_n 0, 1) := by decide +kernel
theorem dX1_nextNumber_29 : decode cX1_nextNumber 29 = .ok (.getfield 29, 3) := by decide +kernel
theorem dX1_nextNumber_32 : decode cX1_nextNumber 32 = .ok (.caload, 1) := by decide +kernel
theorem dX1_nextNumber_33 : decode cX1_nextNumber 33 = .ok (.invokestatic 106, 3) := by decide +kernel
theorem dX1_nextNumber_36 : decode cX1_nextNumber 36 = .ok (.ifCond .ne 5, 3) := by decide +kernel
theorem dX1_nextNumber_39 : decode cX1_nextNumber 39 = .ok (.iconst (-1), 1) := by decide +kernel
theorem dX1_nextNumber_40 : decode cX1_nextNumber 40 = .ok (.ireturn, 1) := by decide +kernel
theorem dX1_nextNumber_41 : decode cX1_nextNumber 41 = .ok (.iconst 0, 1) := by decide +kernel
theorem dX1_nextNumber_42 : decode cX1_nextNumber 42 = .ok (.istore_n 3, 1) := by decide +kernel
theorem dX1_nextNumber_43 : decode cX1_nextNumber 43 = .ok (.aload_n 0, 1) := by decide +kernel
theorem dX1_nextNumber_44 : decode cX1_nextNumber 44 = .ok (.getfield 29, 3) := by decide +kernel
theorem dX1_nextNumber_47 : decode cX1_nextNumber 47 = .ok (.istore 4, 2) := by decide +kernel
theorem dX1_nextNumber_49 : decode cX1_nextNumber 49 = .ok (.iload 4, 2) := by decide +kernel
theorem dX1_nextNumber_51 : decode cX1_nextNumber 51 = .ok (.aload_n 0, 1) := by decide +kernel
theorem dX1_nextNumber_52 : decode cX1_nextNumber 52 = .ok (.getfield 22, 3) := by decide +kernel
theorem dX1_nextNumber_55 : decode cX1_nextNumber 55 = .ok (.if_icmp .ge 25, 3) := by decide +kernel
theorem dX1_nextNumber_58 : decode cX1_nextNumber 58 = .ok (.bipush 10, 2) := by decide +kernel
theorem dX1_nextNumber_60 : decode cX1_nextNumber 60 = .ok (.iload_n 3, 1) := by decide +kernel
theorem dX1_nextNumber_61 : decode cX1_nextNumber 61 = .ok (.imul, 1) := by decide +kernel
theorem dX1_nextNumber_62 : decode cX1_nextNumber 62 = .ok (.aload_n 0, 1) := by decide +kernel
theorem dX1_nextNumber_63 : decode cX1_nextNumber 63 = .ok (.getfield 9, 3) := by decide +kernel
theorem dX1_nextNumber_66 : decode cX1_nextNumber 66 = .ok (.iload 4, 2) := by decide +kernel
theorem dX1_nextNumber_68 : decode cX1_nextNumber 68 = .ok (.caload, 1) := by decide +kernel
theorem dX1_nextNumber_69 : decode cX1_nextNumber 69 = .ok (.bipush 48, 2) := by decide +kernel
theorem dX1_nextNumber_71 : decode cX1_nextNumber 71 = .ok (.isub, 1) := by decide +kernel
theorem dX1_nextNumber_72 : decode cX1_nextNumber 72 = .ok (.iadd, 1) := by decide +kernel
theorem dX1_nextNumber_73 : decode cX1_nextNumber 73 = .ok (.istore_n 3, 1) := by decide +kernel
theorem dX1_nextNumber_74 : decode cX1_nextNumber 74 = .ok (.iinc 4 1, 3) := by decide +kernel
theorem dX1_nextNumber_77 : decode cX1_nextNumber 77 = .ok (.goto (-28), 3) := by decide +kernel
theorem dX1_nextNumber_80 : decode cX1_nextNumber 80 = .ok (.iload_n 3, 1) := by decide +kernel
theorem dX1_nextNumber_81 : decode cX1_nextNumber 81 = .ok (.iload_n 1, 1) := by decide +kernel
theorem dX1_nextNumber_82 : decode cX1_nextNumber 82 = .ok (.if_icmp .gt 7, 3) := by decide +kernel
theorem dX1_nextNumber_85 : decode cX1_nextNumber 85 = .ok (.iload_n 3, 1) := by decide +kernel
theorem dX1_nextNumber_86 : decode cX1_nextNumber 86 = .ok (.goto 4, 3) := by decide +kernel
theorem dX1_nextNumber_89 : decode cX1_nextNumber 89 = .ok (.iconst (-1), 1) := by decide +kernel
theorem dX1_nextNumber_90 : decode cX1_nextNumber 90 = .ok (.ireturn, 1) := by decide +kernel
theorem dX1_nextToken_0 : decode cX1_nextToken 0 = .ok (.aload_n 0, 1) := by decide +kernel
theorem dX1_nextToken_1 : decode cX1_nextToken 1 = .ok (.aload_n 0, 1) := by decide +kernel
theorem dX1_nextToken_2 : decode cX1_nextToken 2 = .ok (.getfield 22, 3) := by decide +kernel
theorem dX1_nextToken_5 : decode cX1_nextToken 5 = .ok (.putfield 29, 3) := by decide +kernel
theorem dX1_nextToken_8 : decode cX1_nextToken 8 = .ok (.aload_n 0, 1) := by decide +kernel
theorem dX1_nextToken_9 : decode cX1_nextToken 9 = .ok (.getfield 29, 3) := by decide +kernel
theorem dX1_nextToken_12 : decode cX1_nextToken 12 = .ok (.aload_n 0, 1) := by decide +kernel
theorem dX1_nextToken_13 : decode cX1_nextToken 13 = .ok (.getfield 15, 3) := by decide +kernel
theorem dX1_nextToken_16 : decode cX1_nextToken 16 = .ok (.if_icmp .ge 30, 3) := by decide +kernel
theorem dX1_nextToken_19 : decode cX1_nextToken 19 = .ok (.aload_n 0, 1) := by decide +kernel
theorem dX1_nextToken_20 : decode cX1_nextToken 20 = .ok (.getfield 9, 3) := by decide +kernel
theorem dX1_nextToken_23 : decode cX1_nextToken 23 = .ok (.aload_n 0, 1) := by decide +kernel
theorem dX1_nextToken_24 : decode cX1_nextToken 24 = .ok (.getfield 29, 3) := by decide +kernel
theorem dX1_nextToken_27 : decode cX1_nextToken 27 = .ok (.caload, 1) := by decide +kernel
theorem dX1_nextToken_28 : decode cX1_nextToken 28 = .ok (.bipush 32, 2) := by decide +kernel
theorem dX1_nextToken_30 : decode cX1_nextToken 30 = .ok (.if_icmp .ne 16, 3) := by decide +kernel
theorem dX1_nextToken_33 : decode cX1_nextToken 33 = .ok (.aload_n 0, 1) := by decide +kernel
theorem dX1_nextToken_34 : decode cX1_nextToken 34 = .ok (.dup, 1) := by decide +kernel
theorem dX1_nextToken_35 : decode cX1_nextToken 35 = .ok (.getfield 29, 3) := by decide +kernel
theorem dX1_nextToken_38 : decode cX1_nextToken 38 = .ok (.iconst 1, 1) := by decide +kernel
theorem dX1_nextToken_39 : decode cX1_nextToken 39 = .ok (.iadd, 1) := by decide +kernel
theorem dX1_nextToken_40 : decode cX1_nextToken 40 = .ok (.putfield 29, 3) := by decide +kernel
theorem dX1_nextToken_43 : decode cX1_nextToken 43 = .ok (.goto (-35), 3) := by decide +kernel
theorem dX1_nextToken_46 : decode cX1_nextToken 46 = .ok (.aload_n 0, 1) := by decide +kernel
theorem dX1_nextToken_47 : decode cX1_nextToken 47 = .ok (.aload_n 0, 1) := by decide +kernel
theorem dX1_nextToken_48 : decode cX1_nextToken 48 = .ok (.getfield 29, 3) := by decide +kernel
theorem dX1_nextToken_51 : decode cX1_nextToken 51 = .ok (.putfield 22, 3) := by decide +kernel
theorem dX1_nextToken_54 : decode cX1_nextToken 54 = .ok (.aload_n 0, 1) := by decide +kernel
theorem dX1_nextToken_55 : decode cX1_nextToken 55 = .ok (.getfield 29, 3) := by decide +kernel
theorem dX1_nextToken_58 : decode cX1_nextToken 58 = .ok (.aload_n 0, 1) := by decide +kernel
theorem dX1_nextToken_59 : decode cX1_nextToken 59 = .ok (.getfield 15, 3) := by decide +kernel
theorem dX1_nextToken_62 : decode cX1_nextToken 62 = .ok (.if_icmp .lt 4, 3) := by decide +kernel
theorem dX1_nextToken_65 : decode cX1_nextToken 65 = .ok (.return_, 1) := by decide +kernel
theorem dX1_nextToken_66 : decode cX1_nextToken 66 = .ok (.aload_n 0, 1) := by decide +kernel
theorem dX1_nextToken_67 : decode cX1_nextToken 67 = .ok (.dup, 1) := by decide +kernel
theorem dX1_nextToken_68 : decode cX1_nextToken 68 = .ok (.getfield 22, 3) := by decide +kernel
theorem dX1_nextToken_71 : decode cX1_nextToken 71 = .ok (.iconst 1, 1) := by decide +kernel
theorem dX1_nextToken_72 : decode cX1_nextToken 72 = .ok (.iadd, 1) := by decide +kernel
theorem dX1_nextToken_73 : decode cX1_nextToken 73 = .ok (.putfield 22, 3) := by decide +kernel
theorem dX1_nextToken_76 : decode cX1_nextToken 76 = .ok (.aload_n 0, 1) := by decide +kernel
theorem dX1_nextToken_77 : decode cX1_nextToken 77 = .ok (.getfield 9, 3) := by decide +kernel
theorem dX1_nextToken_80 : decode cX1_nextToken 80 = .ok (.aload_n 0, 1) := by decide +kernel
theorem dX1_nextToken_81 : decode cX1_nextToken 81 = .ok (.getfield 29, 3) := by decide +kernel
theorem dX1_nextToken_84 : decode cX1_nextToken 84 = .ok (.caload, 1) := by decide +kernel
theorem dX1_nextToken_85 : decode cX1_nextToken 85 = .ok (.invokestatic 110, 3) := by decide +kernel
theorem dX1_nextToken_88 : decode cX1_nextToken 88 = .ok (.ifCond .eq 42, 3) := by decide +kernel
theorem dX1_nextToken_91 : decode cX1_nextToken 91 = .ok (.aload_n 0, 1) := by decide +kernel
theorem dX1_nextToken_92 : decode cX1_nextToken 92 = .ok (.getfield 22, 3) := by decide +kernel
theorem dX1_nextToken_95 : decode cX1_nextToken 95 = .ok (.aload_n 0, 1) := by decide +kernel
theorem dX1_nextToken_96 : decode cX1_nextToken 96 = .ok (.getfield 15, 3) := by decide +kernel
theorem dX1_nextToken_99 : decode cX1_nextToken 99 = .ok (.if_icmp .ge 85, 3) := by decide +kernel
theorem dX1_nextToken_102 : decode cX1_nextToken 102 = .ok (.aload_n 0, 1) := by decide +kernel
theorem dX1_nextToken_103 : decode cX1_nextToken 103 = .ok (.getfield 9, 3) := by decide +kernel
theorem dX1_nextToken_106 : decode cX1_nextToken 106 = .ok (.aload_n 0, 1) := by decide +kernel
theorem dX1_nextToken_107 : decode cX1_nextToken 107 = .ok (.getfield 22, 3) := by decide +kernel
theorem dX1_nextToken_110 : decode cX1_nextToken 110 = .ok (.caload, 1) := by decide +kernel
theorem dX1_nextToken_111 : decode cX1_nextToken 111 = .ok (.invokestatic 110, 3) := by decide +kernel
theorem dX1_nextToken_114 : decode cX1_nextToken 114 = .ok (.ifCond .eq 70, 3) := by decide +kernel
theorem dX1_nextToken_117 : decode cX1_nextToken 117 = .ok (.aload_n 0, 1) := by decide +kernel
theorem dX1_nextToken_118 : decode cX1_nextToken 118 = .ok (.dup, 1) := by decide +kernel
theorem dX1_nextToken_119 : decode cX1_nextToken 119 = .ok (.getfield 22, 3) := by decide +kernel
theorem dX1_nextToken_122 : decode cX1_nextToken 122 = .ok (.iconst 1, 1) := by decide +kernel
theorem dX1_nextToken_123 : decode cX1_nextToken 123 = .ok (.iadd, 1) := by decide +kernel
theorem dX1_nextToken_124 : decode cX1_nextToken 124 = .ok (.putfield 22, 3) := by decide +kernel
theorem dX1_nextToken_127 : decode cX1_nextToken 127 = .ok (.goto (-36), 3) := by decide +kernel
theorem dX1_nextToken_130 : decode cX1_nextToken 130 = .ok (.aload_n 0, 1) := by decide +kernel
theorem dX1_nextToken_131 : decode cX1_nextToken 131 = .ok (.getfield 9, 3) := by decide +kernel
theorem dX1_nextToken_134 : decode cX1_nextToken 134 = .ok (.aload_n 0, 1) := by decide +kernel
theorem dX1_nextToken_135 : decode cX1_nextToken 135 = .ok (.getfield 29, 3) := by decide +kernel
theorem dX1_nextToken_138 : decode cX1_nextToken 138 = .ok (.caload, 1) := by decide +kernel
theorem dX1_nextToken_139 : decode cX1_nextToken 139 = .ok (.invokestatic 106, 3) := by decide +kernel
theorem dX1_nextToken_142 : decode cX1_nextToken 142 = .ok (.ifCond .eq 42, 3) := by decide +kernel
theorem dX1_nextToken_145 : decode cX1_nextToken 145 = .ok (.aload_n 0, 1) := by decide +kernel
theorem dX1_nextToken_146 : decode cX1_nextToken 146 = .ok (.getfield 22, 3) := by decide +kernel
theorem dX1_nextToken_149 : decode cX1_nextToken 149 = .ok (.aload_n 0, 1) := by decide +kernel
theorem dX1_nextToken_150 : decode cX1_nextToken 150 = .ok (.getfield 15, 3) := by decide +kernel
theorem dX1_nextToken_153 : decode cX1_nextToken 153 = .ok (.if_icmp .ge 31, 3) := by decide +kernel
theorem dX1_nextToken_156 : decode cX1_nextToken 156 = .ok (.aload_n 0, 1) := by decide +kernel
theorem dX1_nextToken_157 : decode cX1_nextToken 157 = .ok (.getfield 9, 3) := by decide +kernel
theorem dX1_nextToken_160 : decode cX1_nextToken 160 = .ok (.aload_n 0, 1) := by decide +kernel
theorem dX1_nextToken_161 : decode cX1_nextToken 161 = .ok (.getfield 22, 3) := by decide +kernel
theorem dX1_nextToken_164 : decode cX1_nextToken 164 = .ok (.caload, 1) := by decide +kernel
theorem dX1_nextToken_165 : decode cX1_nextToken 165 = .ok (.invokestatic 106, 3) := by decide +kernel
theorem dX1_nextToken_168 : decode cX1_nextToken 168 = .ok (.ifCond .eq 16, 3) := by decide +kernel
theorem dX1_nextToken_171 : decode cX1_nextToken 171 = .ok (.aload_n 0, 1) := by decide +kernel
theorem dX1_nextToken_172 : decode cX1_nextToken 172 = .ok (.dup, 1) := by decide +kernel
theorem dX1_nextToken_173 : decode cX1_nextToken 173 = .ok (.getfield 22, 3) := by decide +kernel
theorem dX1_nextToken_176 : decode cX1_nextToken 176 = .ok (.iconst 1, 1) := by decide +kernel
theorem dX1_nextToken_177 : decode cX1_nextToken 177 = .ok (.iadd, 1) := by decide +kernel
theorem dX1_nextToken_178 : decode cX1_nextToken 178 = .ok (.putfield 22, 3) := by decide +kernel
theorem dX1_nextToken_181 : decode cX1_nextToken 181 = .ok (.goto (-36), 3) := by decide +kernel
theorem dX1_nextToken_184 : decode cX1_nextToken 184 = .ok (.return_, 1) := by decide +kernel
theorem dX1_isSmall_0 : decode cX1_isSmall 0 = .ok (.iload_n 0, 1) := by decide +kernel
theorem dX1_isSmall_1 : decode cX1_isSmall 1 = .ok (.bipush 97, 2) := by decide +kernel
theorem dX1_isSmall_3 : decode cX1_isSmall 3 = .ok (.if_icmp .lt 13, 3) := by decide +kernel
theorem dX1_isSmall_6 : decode cX1_isSmall 6 = .ok (.iload_n 0, 1) := by decide +kernel
theorem dX1_isSmall_7 : decode cX1_isSmall 7 = .ok (.bipush 122, 2) := by decide +kernel
theorem dX1_isSmall_9 : decode cX1_isSmall 9 = .ok (.if_icmp .gt 7, 3) := by decide +kernel
theorem dX1_isSmall_12 : decode cX1_isSmall 12 = .ok (.iconst 1, 1) := by decide +kernel
theorem dX1_isSmall_13 : decode cX1_isSmall 13 = .ok (.goto 4, 3) := by decide +kernel
theorem dX1_isSmall_16 : decode cX1_isSmall 16 = .ok (.iconst 0, 1) := by decide +kernel
theorem dX1_isSmall_17 : decode cX1_isSmall 17 = .ok (.ireturn, 1) := by decide +kernel
theorem dX1_isDigit_0 : decode cX1_isDigit 0 = .ok (.iload_n 0, 1) := by decide +kernel
theorem dX1_isDigit_1 : decode cX1_isDigit 1 = .ok (.bipush 48, 2) := by decide +kernel
theorem dX1_isDigit_3 : decode cX1_isDigit 3 = .ok (.if_icmp .lt 13, 3) := by decide +kernel
theorem dX1_isDigit_6 : decode cX1_isDigit 6 = .ok (.iload_n 0, 1) := by decide +kernel
theorem dX1_isDigit_7 : decode cX1_isDigit 7 = .ok (.bipush 57, 2) := by decide +kernel
theorem dX1_isDigit_9 : decode cX1_isDigit 9 = .ok (.if_icmp .gt 7, 3) := by decide +kernel
theorem dX1_isDigit_12 : decode cX1_isDigit 12 = .ok (.iconst 1, 1) := by decide +kernel
theorem dX1_isDigit_13 : decode cX1_isDigit 13 = .ok (.goto 4, 3) := by decide +kernel
theorem dX1_isDigit_16 : decode cX1_isDigit 16 = .ok (.iconst 0, 1) := by decide +kernel
theorem dX1_isDigit_17 : decode cX1_isDigit 17 = .ok (.ireturn, 1) := by decide +kernel
theorem dX2_init_0 : decode cX2_init 0 = .ok (.aload_n 0, 1) := by decide +kernel
theorem dX2_init_1 : decode cX2_init 1 = .ok (.invokespecial 3, 3) := by decide +kernel
theorem dX2_init_4 : decode cX2_init 4 = .ok (.aload_n 0, 1) := by decide +kernel
theorem dX2_init_5 : decode cX2_init 5 = .ok (.bipush 8, 2) := by decide +kernel
theorem dX2_init_7 : decode cX2_init 7 = .ok (.newarray .int, 2) := by decide +kernel
theorem dX2_init_9 : decode cX2_init 9 = .ok (.putfield 9, 3) := by decide +kernel
theorem dX2_init_12 : decode cX2_init 12 = .ok (.aload_n 0, 1) := by decide +kernel
theorem dX2_init_13 : decode cX2_init 13 = .ok (.bipush 8, 2) := by decide +kernel
theorem dX2_init_15 : decode cX2_init 15 = .ok (.newarray .int, 2) := by decide +kernel
theorem dX2_init_17 : decode cX2_init 17 = .ok (.putfield 15, 3) := by decide +kernel
theorem dX2_init_20 : decode cX2_init 20 = .ok (.aload_n 0, 1) := by decide +kernel
theorem dX2_init_21 : decode cX2_init 21 = .ok (.bipush 8, 2) := by decide +kernel
theorem dX2_init_23 : decode cX2_init 23 = .ok (.newarray .int, 2) := by decide +kernel
theorem dX2_init_25 : decode cX2_init 25 = .ok (.putfield 18, 3) := by decide +kernel
theorem dX2_init_28 : decode cX2_init 28 = .ok (.aload_n 0, 1) := by decide +kernel
theorem dX2_init_29 : decode cX2_init 29 = .ok (.iconst 5, 1) := by decide +kernel
theorem dX2_init_30 : decode cX2_init 30 = .ok (.newarray .int, 2) := by decide +kernel
theorem dX2_init_32 : decode cX2_init 32 = .ok (.putfield 21, 3) := by decide +kernel
theorem dX2_init_35 : decode cX2_init 35 = .ok (.aload_n 0, 1) := by decide +kernel
theorem dX2_init_36 : decode cX2_init 36 = .ok (.iconst 5, 1) := by decide +kernel
theorem dX2_init_37 : decode cX2_init 37 = .ok (.newarray .int, 2) := by decide +kernel
theorem dX2_init_39 : decode cX2_init 39 = .ok (.putfield 24, 3) := by decide +kernel
theorem dX2_init_42 : decode cX2_init 42 = .ok (.aload_n 0, 1) := by decide +kernel
theorem dX2_init_43 : decode cX2_init 43 = .ok (.bipush 14, 2) := by decide +kernel
theorem dX2_init_45 : decode cX2_init 45 = .ok (.newarray .int, 2) := by decide +kernel
theorem dX2_init_47 : decode cX2_init 47 = .ok (.putfield 27, 3) := by decide +kernel
theorem dX2_init_50 : decode cX2_init 50 = .ok (.aload_n 0, 1) := by decide +kernel
theorem dX2_init_51 : decode cX2_init 51 = .ok (.getfield 27, 3) := by decide +kernel
theorem dX2_init_54 : decode cX2_init 54 = .ok (.iconst (-1), 1) := by decide +kernel
theorem dX2_init_55 : decode cX2_init 55 = .ok (.invokestatic 30, 3) := by decide +kernel
theorem dX2_init_58 : decode cX2_init 58 = .ok (.return_, 1) := by decide +kernel
theorem dX2_clear_0 : decode cX2_clear 0 = .ok (.aload_n 0, 1) := by decide +kernel
theorem dX2_clear_1 : decode cX2_clear 1 = .ok (.iconst 0, 1) := by decide +kernel
theorem dX2_clear_2 : decode cX2_clear 2 = .ok (.putfield 36, 3) := by decide +kernel
theorem dX2_clear_5 : decode cX2_clear 5 = .ok (.aload_n 0, 1) := by decide +kernel
theorem dX2_clear_6 : decode cX2_clear 6 = .ok (.iconst 0, 1) := by decide +kernel
theorem dX2_clear_7 : decode cX2_clear 7 = .ok (.putfield 40, 3) := by decide +kernel
theorem dX2_clear_10 : decode cX2_clear 10 = .ok (.aload_n 0, 1) := by decide +kernel
theorem dX2_clear_11 : decode cX2_clear 11 = .ok (.invokevirtual 43, 3) := by decide +kernel
theorem dX2_clear_14 : decode cX2_clear 14 = .ok (.return_, 1) := by decide +kernel
theorem dX2_clearNews_0 : decode cX2_clearNews 0 = .ok (.aload_n 0, 1) := by decide +kernel
theorem dX2_clearNews_1 : decode cX2_clearNews 1 = .ok (.getfield 27, 3) := by decide +kernel
theorem dX2_clearNews_4 : decode cX2_clearNews 4 = .ok (.iconst (-1), 1) := by decide +kernel
theorem dX2_clearNews_5 : decode cX2_clearNews 5 = .ok (.invokestatic 30, 3) := by decide +kernel
theorem dX2_clearNews_8 : decode cX2_clearNews 8 = .ok (.return_, 1) := by decide +kernel
theorem dX2_addPlace_0 : decode cX2_addPlace 0 = .ok (.aload_n 0, 1) := by decide +kernel
theorem dX2_addPlace_1 : decode cX2_addPlace 1 = .ok (.getfield 36, 3) := by decide +kernel
theorem dX2_addPlace_4 : decode cX2_addPlace 4 = .ok (.bipush 8, 2) := by decide +kernel
theorem dX2_addPlace_6 : decode cX2_addPlace 6 = .ok (.if_icmp .lt 4, 3) := by decide +kernel
theorem dX2_addPlace_9 : decode cX2_addPlace 9 = .ok (.return_, 1) := by decide +kernel
theorem dX2_addPlace_10 : decode cX2_addPlace 10 = .ok (.aload_n 0, 1) := by decide +kernel
theorem dX2_addPlace_11 : decode cX2_addPlace 11 = .ok (.getfield 9, 3) := by decide +kernel
theorem dX2_addPlace_14 : decode cX2_addPlace 14 = .ok (.aload_n 0, 1) := by decide +kernel
theorem dX2_addPlace_15 : decode cX2_addPlace 15 = .ok (.getfield 36, 3) := by decide +kernel
theorem dX2_addPlace_18 : decode cX2_addPlace 18 = .ok (.iload_n 1, 1) := by decide +kernel
theorem dX2_addPlace_19 : decode cX2_addPlace 19 = .ok (.iastore, 1) := by decide +kernel
theorem dX2_addPlace_20 : decode cX2_addPlace 20 = .ok (.aload_n 0, 1) := by decide +kernel
theorem dX2_addPlace_21 : decode cX2_addPlace 21 = .ok (.getfield 15, 3) := by decide +kernel
theorem dX2_addPlace_24 : decode cX2_addPlace 24 = .ok (.aload_n 0, 1) := by decide +kernel
theorem dX2_addPlace_25 : decode cX2_addPlace 25 = .ok (.getfield 36, 3) := by decide +kernel
theorem dX2_addPlace_28 : decode cX2_addPlace 28 = .ok (.iload_n 2, 1) := by decide +kernel
theorem dX2_addPlace_29 : decode cX2_addPlace 29 = .ok (.iastore, 1) := by decide +kernel
theorem dX2_addPlace_30 : decode cX2_addPlace 30 = .ok (.aload_n 0, 1) := by decide +kernel
theorem dX2_addPlace_31 : decode cX2_addPlace 31 = .ok (.getfield 18, 3) := by decide +kernel
theorem dX2_addPlace_34 : decode cX2_addPlace 34 = .ok (.aload_n 0, 1) := by decide +kernel
theorem dX2_addPlace_35 : decode cX2_addPlace 35 = .ok (.getfield 36, 3) := by decide +kernel
theorem dX2_addPlace_38 : decode cX2_addPlace 38 = .ok (.iload_n 3, 1) := by decide +kernel
theorem dX2_addPlace_39 : decode cX2_addPlace 39 = .ok (.iastore, 1) := by decide +kernel
theorem dX2_addPlace_40 : decode cX2_addPlace 40 = .ok (.aload_n 0, 1) := by decide +kernel
theorem dX2_addPlace_41 : decode cX2_addPlace 41 = .ok (.dup, 1) := by decide +kernel
theorem dX2_addPlace_42 : decode cX2_addPlace 42 = .ok (.getfield 36, 3) := by decide +kernel
theorem dX2_addPlace_45 : decode cX2_addPlace 45 = .ok (.iconst 1, 1) := by decide +kernel
theorem dX2_addPlace_46 : decode cX2_addPlace 46 = .ok (.iadd, 1) := by decide +kernel
theorem dX2_addPlace_47 : decode cX2_addPlace 47 = .ok (.putfield 36, 3) := by decide +kernel
theorem dX2_addPlace_50 : decode cX2_addPlace 50 = .ok (.return_, 1) := by decide +kernel
theorem dX2_addHen_0 : decode cX2_addHen 0 = .ok (.aload_n 0, 1) := by decide +kernel
theorem dX2_addHen_1 : decode cX2_addHen 1 = .ok (.getfield 40, 3) := by decide +kernel
theorem dX2_addHen_4 : decode cX2_addHen 4 = .ok (.iconst 5, 1) := by decide +kernel
theorem dX2_addHen_5 : decode cX2_addHen 5 = .ok (.if_icmp .lt 4, 3) := by decide +kernel
theorem dX2_addHen_8 : decode cX2_addHen 8 = .ok (.return_, 1) := by decide +kernel
theorem dX2_addHen_9 : decode cX2_addHen 9 = .ok (.aload_n 0, 1) := by decide +kernel
theorem dX2_addHen_10 : decode cX2_addHen 10 = .ok (.getfield 21, 3) := by decide +kernel
theorem dX2_addHen_13 : decode cX2_addHen 13 = .ok (.aload_n 0, 1) := by decide +kernel
theorem dX2_addHen_14 : decode cX2_addHen 14 = .ok (.getfield 40, 3) := by decide +kernel
theorem dX2_addHen_17 : decode cX2_addHen 17 = .ok (.iload_n 1, 1) := by decide +kernel
theorem dX2_addHen_18 : decode cX2_addHen 18 = .ok (.iastore, 1) := by decide +kernel
theorem dX2_addHen_19 : decode cX2_addHen 19 = .ok (.aload_n 0, 1) := by decide +kernel
theorem dX2_addHen_20 : decode cX2_addHen 20 = .ok (.getfield 24, 3) := by decide +kernel
theorem dX2_addHen_23 : decode cX2_addHen 23 = .ok (.aload_n 0, 1) := by decide +kernel
theorem dX2_addHen_24 : decode cX2_addHen 24 = .ok (.getfield 40, 3) := by decide +kernel
theorem dX2_addHen_27 : decode cX2_addHen 27 = .ok (.iload_n 2, 1) := by decide +kernel
theorem dX2_addHen_28 : decode cX2_addHen 28 = .ok (.iastore, 1) := by decide +kernel
theorem dX2_addHen_29 : decode cX2_addHen 29 = .ok (.aload_n 0, 1) := by decide +kernel
theorem dX2_addHen_30 : decode cX2_addHen 30 = .ok (.dup, 1) := by decide +kernel
theorem dX2_addHen_31 : decode cX2_addHen 31 = .ok (.getfield 40, 3) := by decide +kernel
theorem dX2_addHen_34 : decode cX2_addHen 34 = .ok (.iconst 1, 1) := by decide +kernel
theorem dX2_addHen_35 : decode cX2_addHen 35 = .ok (.iadd, 1) := by decide +kernel
theorem dX2_addHen_36 : decode cX2_addHen 36 = .ok (.putfield 40, 3) := by decide +kernel
theorem dX2_addHen_39 : decode cX2_addHen 39 = .ok (.return_, 1) := by decide +kernel
theorem dX2_newsOf_0 : decode cX2_newsOf 0 = .ok (.aload_n 0, 1) := by decide +kernel
theorem dX2_newsOf_1 : decode cX2_newsOf 1 = .ok (.getfield 27, 3) := by decide +kernel
theorem dX2_newsOf_4 : decode cX2_newsOf 4 = .ok (.iload_n 1, 1) := by decide +kernel
theorem dX2_newsOf_5 : decode cX2_newsOf 5 = .ok (.bipush 14, 2) := by decide +kernel
theorem dX2_newsOf_7 : decode cX2_newsOf 7 = .ok (.invokestatic 46, 3) := by decide +kernel
theorem dX2_newsOf_10 : decode cX2_newsOf 10 = .ok (.iaload, 1) := by decide +kernel
theorem dX2_newsOf_11 : decode cX2_newsOf 11 = .ok (.ireturn, 1) := by decide +kernel
theorem dX2_copyFrom_0 : decode cX2_copyFrom 0 = .ok (.aload_n 0, 1) := by decide +kernel
theorem dX2_copyFrom_1 : decode cX2_copyFrom 1 = .ok (.aload_n 1, 1) := by decide +kernel
theorem dX2_copyFrom_2 : decode cX2_copyFrom 2 = .ok (.getfield 36, 3) := by decide +kernel
theorem dX2_copyFrom_5 : decode cX2_copyFrom 5 = .ok (.putfield 36, 3) := by decide +kernel
theorem dX2_copyFrom_8 : decode cX2_copyFrom 8 = .ok (.aload_n 0, 1) := by decide +kernel
theorem dX2_copyFrom_9 : decode cX2_copyFrom 9 = .ok (.aload_n 1, 1) := by decide +kernel
theorem dX2_copyFrom_10 : decode cX2_copyFrom 10 = .ok (.getfield 40, 3) := by decide +kernel
theorem dX2_copyFrom_13 : decode cX2_copyFrom 13 = .ok (.putfield 40, 3) := by decide +kernel
theorem dX2_copyFrom_16 : decode cX2_copyFrom 16 = .ok (.aload_n 1, 1) := by decide +kernel
theorem dX2_copyFrom_17 : decode cX2_copyFrom 17 = .ok (.getfield 9, 3) := by decide +kernel
theorem dX2_copyFrom_20 : decode cX2_copyFrom 20 = .ok (.iconst 0, 1) := by decide +kernel
theorem dX2_copyFrom_21 : decode cX2_copyFrom 21 = .ok (.aload_n 0, 1) := by decide +kernel
theorem dX2_copyFrom_22 : decode cX2_copyFrom 22 = .ok (.getfield 9, 3) := by decide +kernel
theorem dX2_copyFrom_25 : decode cX2_copyFrom 25 = .ok (.iconst 0, 1) := by decide +kernel
theorem dX2_copyFrom_26 : decode cX2_copyFrom 26 = .ok (.bipush 8, 2) := by decide +kernel
theorem dX2_copyFrom_28 : decode cX2_copyFrom 28 = .ok (.invokestatic 52, 3) := by decide +kernel
theorem dX2_copyFrom_31 : decode cX2_copyFrom 31 = .ok (.aload_n 1, 1) := by decide +kernel
theorem dX2_copyFrom_32 : decode cX2_copyFrom 32 = .ok (.getfield 15, 3) := by decide +kernel
theorem dX2_copyFrom_35 : decode cX2_copyFrom 35 = .ok (.iconst 0, 1) := by decide +kernel
theorem dX2_copyFrom_36 : decode cX2_copyFrom 36 = .ok (.aload_n 0, 1) := by decide +kernel
theorem dX2_copyFrom_37 : decode cX2_copyFrom 37 = .ok (.getfield 15, 3) := by decide +kernel
theorem dX2_copyFrom_40 : decode cX2_copyFrom 40 = .ok (.iconst 0, 1) := by decide +kernel
theorem dX2_copyFrom_41 : decode cX2_copyFrom 41 = .ok (.bipush 8, 2) := by decide +kernel
theorem dX2_copyFrom_43 : decode cX2_copyFrom 43 = .ok (.invokestatic 52, 3) := by decide +kernel
theorem dX2_copyFrom_46 : decode cX2_copyFrom 46 = .ok (.aload_n 1, 1) := by decide +kernel
theorem dX2_copyFrom_47 : decode cX2_copyFrom 47 = .ok (.getfield 18, 3) := by decide +kernel
theorem dX2_copyFrom_50 : decode cX2_copyFrom 50 = .ok (.iconst 0, 1) := by decide +kernel
theorem dX2_copyFrom_51 : decode cX2_copyFrom 51 = .ok (.aload_n 0, 1) := by decide +kernel
theorem dX2_copyFrom_52 : decode cX2_copyFrom 52 = .ok (.getfield 18, 3) := by decide +kernel
theorem dX2_copyFrom_55 : decode cX2_copyFrom 55 = .ok (.iconst 0, 1) := by decide +kernel
theorem dX2_copyFrom_56 : decode cX2_copyFrom 56 = .ok (.bipush 8, 2) := by decide +kernel
theorem dX2_copyFrom_58 : decode cX2_copyFrom 58 = .ok (.invokestatic 52, 3) := by decide +kernel
theorem dX2_copyFrom_61 : decode cX2_copyFrom 61 = .ok (.aload_n 1, 1) := by decide +kernel
theorem dX2_copyFrom_62 : decode cX2_copyFrom 62 = .ok (.getfield 21, 3) := by decide +kernel
theorem dX2_copyFrom_65 : decode cX2_copyFrom 65 = .ok (.iconst 0, 1) := by decide +kernel
theorem dX2_copyFrom_66 : decode cX2_copyFrom 66 = .ok (.aload_n 0, 1) := by decide +kernel
theorem dX2_copyFrom_67 : decode cX2_copyFrom 67 = .ok (.getfield 21, 3) := by decide +kernel
theorem dX2_copyFrom_70 : decode cX2_copyFrom 70 = .ok (.iconst 0, 1) := by decide +kernel
theorem dX2_copyFrom_71 : decode cX2_copyFrom 71 = .ok (.iconst 5, 1) := by decide +kernel
theorem dX2_copyFrom_72 : decode cX2_copyFrom 72 = .ok (.invokestatic 52, 3) := by decide +kernel
theorem dX2_copyFrom_75 : decode cX2_copyFrom 75 = .ok (.aload_n 1, 1) := by decide +kernel
theorem dX2_copyFrom_76 : decode cX2_copyFrom 76 = .ok (.getfield 24, 3) := by decide +kernel
theorem dX2_copyFrom_79 : decode cX2_copyFrom 79 = .ok (.iconst 0, 1) := by decide +kernel
theorem dX2_copyFrom_80 : decode cX2_copyFrom 80 = .ok (.aload_n 0, 1) := by decide +kernel
theorem dX2_copyFrom_81 : decode cX2_copyFrom 81 = .ok (.getfield 24, 3) := by decide +kernel
theorem dX2_copyFrom_84 : decode cX2_copyFrom 84 = .ok (.iconst 0, 1) := by decide +kernel
theorem dX2_copyFrom_85 : decode cX2_copyFrom 85 = .ok (.iconst 5, 1) := by decide +kernel
theorem dX2_copyFrom_86 : decode cX2_copyFrom 86 = .ok (.invokestatic 52, 3) := by decide +kernel
theorem dX2_copyFrom_89 : decode cX2_copyFrom 89 = .ok (.aload_n 1, 1) := by decide +kernel
theorem dX2_copyFrom_90 : decode cX2_copyFrom 90 = .ok (.getfield 27, 3) := by decide +kernel
theorem dX2_copyFrom_93 : decode cX2_copyFrom 93 = .ok (.iconst 0, 1) := by decide +kernel
theorem dX2_copyFrom_94 : decode cX2_copyFrom 94 = .ok (.aload_n 0, 1) := by decide +kernel
theorem dX2_copyFrom_95 : decode cX2_copyFrom 95 = .ok (.getfield 27, 3) := by decide +kernel
theorem dX2_copyFrom_98 : decode cX2_copyFrom 98 = .ok (.iconst 0, 1) := by decide +kernel
theorem dX2_copyFrom_99 : decode cX2_copyFrom 99 = .ok (.bipush 14, 2) := by decide +kernel
theorem dX2_copyFrom_101 : decode cX2_copyFrom 101 = .ok (.invokestatic 52, 3) := by decide +kernel
theorem dX2_copyFrom_104 : decode cX2_copyFrom 104 = .ok (.return_, 1) := by decide +kernel
theorem dX3_init_0 : decode cX3_init 0 = .ok (.aload_n 0, 1) := by decide +kernel
theorem dX3_init_1 : decode cX3_init 1 = .ok (.invokespecial 3, 3) := by decide +kernel
theorem dX3_init_4 : decode cX3_init 4 = .ok (.aload_n 0, 1) := by decide +kernel
theorem dX3_init_5 : decode cX3_init 5 = .ok (.bipush 8, 2) := by decide +kernel
theorem dX3_init_7 : decode cX3_init 7 = .ok (.newarray .int, 2) := by decide +kernel
theorem dX3_init_9 : decode cX3_init 9 = .ok (.putfield 9, 3) := by decide +kernel
theorem dX3_init_12 : decode cX3_init 12 = .ok (.aload_n 0, 1) := by decide +kernel
theorem dX3_init_13 : decode cX3_init 13 = .ok (.bipush 8, 2) := by decide +kernel
theorem dX3_init_15 : decode cX3_init 15 = .ok (.newarray .int, 2) := by decide +kernel
theorem dX3_init_17 : decode cX3_init 17 = .ok (.putfield 15, 3) := by decide +kernel
theorem dX3_init_20 : decode cX3_init 20 = .ok (.aload_n 0, 1) := by decide +kernel
theorem dX3_init_21 : decode cX3_init 21 = .ok (.bipush 8, 2) := by decide +kernel
theorem dX3_init_23 : decode cX3_init 23 = .ok (.newarray .int, 2) := by decide +kernel
theorem dX3_init_25 : decode cX3_init 25 = .ok (.putfield 18, 3) := by decide +kernel
theorem dX3_init_28 : decode cX3_init 28 = .ok (.aload_n 0, 1) := by decide +kernel
theorem dX3_init_29 : decode cX3_init 29 = .ok (.bipush 8, 2) := by decide +kernel
theorem dX3_init_31 : decode cX3_init 31 = .ok (.newarray .int, 2) := by decide +kernel
theorem dX3_init_33 : decode cX3_init 33 = .ok (.putfield 21, 3) := by decide +kernel
theorem dX3_init_36 : decode cX3_init 36 = .ok (.aload_n 0, 1) := by decide +kernel
theorem dX3_init_37 : decode cX3_init 37 = .ok (.iconst 5, 1) := by decide +kernel
theorem dX3_init_38 : decode cX3_init 38 = .ok (.newarray .int, 2) := by decide +kernel
theorem dX3_init_40 : decode cX3_init 40 = .ok (.putfield 24, 3) := by decide +kernel
theorem dX3_init_43 : decode cX3_init 43 = .ok (.aload_n 0, 1) := by decide +kernel
theorem dX3_init_44 : decode cX3_init 44 = .ok (.iconst 5, 1) := by decide +kernel
theorem dX3_init_45 : decode cX3_init 45 = .ok (.newarray .int, 2) := by decide +kernel
theorem dX3_init_47 : decode cX3_init 47 = .ok (.putfield 27, 3) := by decide +kernel
theorem dX3_init_50 : decode cX3_init 50 = .ok (.aload_n 0, 1) := by decide +kernel
theorem dX3_init_51 : decode cX3_init 51 = .ok (.iconst 5, 1) := by decide +kernel
theorem dX3_init_52 : decode cX3_init 52 = .ok (.newarray .int, 2) := by decide +kernel
theorem dX3_init_54 : decode cX3_init 54 = .ok (.putfield 30, 3) := by decide +kernel
theorem dX3_init_57 : decode cX3_init 57 = .ok (.aload_n 0, 1) := by decide +kernel
theorem dX3_init_58 : decode cX3_init 58 = .ok (.iconst 5, 1) := by decide +kernel
theorem dX3_init_59 : decode cX3_init 59 = .ok (.newarray .int, 2) := by decide +kernel
theorem dX3_init_61 : decode cX3_init 61 = .ok (.putfield 33, 3) := by decide +kernel
theorem dX3_init_64 : decode cX3_init 64 = .ok (.aload_n 0, 1) := by decide +kernel
theorem dX3_init_65 : decode cX3_init 65 = .ok (.iconst 5, 1) := by decide +kernel
theorem dX3_init_66 : decode cX3_init 66 = .ok (.newarray .int, 2) := by decide +kernel
theorem dX3_init_68 : decode cX3_init 68 = .ok (.putfield 36, 3) := by decide +kernel
theorem dX3_init_71 : decode cX3_init 71 = .ok (.aload_n 0, 1) := by decide +kernel
theorem dX3_init_72 : decode cX3_init 72 = .ok (.getfield 18, 3) := by decide +kernel
theorem dX3_init_75 : decode cX3_init 75 = .ok (.iconst (-1), 1) := by decide +kernel
theorem dX3_init_76 : decode cX3_init 76 = .ok (.invokestatic 39, 3) := by decide +kernel
theorem dX3_init_79 : decode cX3_init 79 = .ok (.aload_n 0, 1) := by decide +kernel
theorem dX3_init_80 : decode cX3_init 80 = .ok (.getfield 30, 3) := by decide +kernel
theorem dX3_init_83 : decode cX3_init 83 = .ok (.iconst (-1), 1) := by decide +kernel
theorem dX3_init_84 : decode cX3_init 84 = .ok (.invokestatic 39, 3) := by decide +kernel
theorem dX3_init_87 : decode cX3_init 87 = .ok (.return_, 1) := by decide +kernel
theorem dX3_beginAs_0 : decode cX3_beginAs 0 = .ok (.aload_n 1, 1) := by decide +kernel
theorem dX3_beginAs_1 : decode cX3_beginAs 1 = .ok (.getfield 45, 3) := by decide +kernel
theorem dX3_beginAs_4 : decode cX3_beginAs 4 = .ok (.iconst 0, 1) := by decide +kernel
theorem dX3_beginAs_5 : decode cX3_beginAs 5 = .ok (.aload_n 0, 1) := by decide +kernel
theorem dX3_beginAs_6 : decode cX3_beginAs 6 = .ok (.getfield 9, 3) := by decide +kernel
theorem dX3_beginAs_9 : decode cX3_beginAs 9 = .ok (.iconst 0, 1) := by decide +kernel
theorem dX3_beginAs_10 : decode cX3_beginAs 10 = .ok (.bipush 8, 2) := by decide +kernel
theorem dX3_beginAs_12 : decode cX3_beginAs 12 = .ok (.invokestatic 48, 3) := by decide +kernel
theorem dX3_beginAs_15 : decode cX3_beginAs 15 = .ok (.aload_n 1, 1) := by decide +kernel
theorem dX3_beginAs_16 : decode cX3_beginAs 16 = .ok (.getfield 54, 3) := by decide +kernel
theorem dX3_beginAs_19 : decode cX3_beginAs 19 = .ok (.iconst 0, 1) := by decide +kernel
theorem dX3_beginAs_20 : decode cX3_beginAs 20 = .ok (.aload_n 0, 1) := by decide +kernel
theorem dX3_beginAs_21 : decode cX3_beginAs 21 = .ok (.getfield 15, 3) := by decide +kernel
theorem dX3_beginAs_24 : decode cX3_beginAs 24 = .ok (.iconst 0, 1) := by decide +kernel
theorem dX3_beginAs_25 : decode cX3_beginAs 25 = .ok (.bipush 8, 2) := by decide +kernel
theorem dX3_beginAs_27 : decode cX3_beginAs 27 = .ok (.invokestatic 48, 3) := by decide +kernel
theorem dX3_beginAs_30 : decode cX3_beginAs 30 = .ok (.aload_n 1, 1) := by decide +kernel
theorem dX3_beginAs_31 : decode cX3_beginAs 31 = .ok (.getfield 55, 3) := by decide +kernel
theorem dX3_beginAs_34 : decode cX3_beginAs 34 = .ok (.iconst 0, 1) := by decide +kernel
theorem dX3_beginAs_35 : decode cX3_beginAs 35 = .ok (.aload_n 0, 1) := by decide +kernel
theorem dX3_beginAs_36 : decode cX3_beginAs 36 = .ok (.getfield 24, 3) := by decide +kernel
theorem dX3_beginAs_39 : decode cX3_beginAs 39 = .ok (.iconst 0, 1) := by decide +kernel
theorem dX3_beginAs_40 : decode cX3_beginAs 40 = .ok (.iconst 5, 1) := by decide +kernel
theorem dX3_beginAs_41 : decode cX3_beginAs 41 = .ok (.invokestatic 48, 3) := by decide +kernel
theorem dX3_beginAs_44 : decode cX3_beginAs 44 = .ok (.aload_n 1, 1) := by decide +kernel
theorem dX3_beginAs_45 : decode cX3_beginAs 45 = .ok (.getfield 56, 3) := by decide +kernel
theorem dX3_beginAs_48 : decode cX3_beginAs 48 = .ok (.iconst 0, 1) := by decide +kernel
theorem dX3_beginAs_49 : decode cX3_beginAs 49 = .ok (.aload_n 0, 1) := by decide +kernel
theorem dX3_beginAs_50 : decode cX3_beginAs 50 = .ok (.getfield 27, 3) := by decide +kernel
theorem dX3_beginAs_53 : decode cX3_beginAs 53 = .ok (.iconst 0, 1) := by decide +kernel
theorem dX3_beginAs_54 : decode cX3_beginAs 54 = .ok (.iconst 5, 1) := by decide +kernel
theorem dX3_beginAs_55 : decode cX3_beginAs 55 = .ok (.invokestatic 48, 3) := by decide +kernel
theorem dX3_beginAs_58 : decode cX3_beginAs 58 = .ok (.aload_n 0, 1) := by decide +kernel
theorem dX3_beginAs_59 : decode cX3_beginAs 59 = .ok (.getfield 18, 3) := by decide +kernel
theorem dX3_beginAs_62 : decode cX3_beginAs 62 = .ok (.iconst (-1), 1) := by decide +kernel
theorem dX3_beginAs_63 : decode cX3_beginAs 63 = .ok (.invokestatic 39, 3) := by decide +kernel
theorem dX3_beginAs_66 : decode cX3_beginAs 66 = .ok (.aload_n 0, 1) := by decide +kernel
theorem dX3_beginAs_67 : decode cX3_beginAs 67 = .ok (.getfield 30, 3) := by decide +kernel
theorem dX3_beginAs_70 : decode cX3_beginAs 70 = .ok (.iconst (-1), 1) := by decide +kernel
theorem dX3_beginAs_71 : decode cX3_beginAs 71 = .ok (.invokestatic 39, 3) := by decide +kernel
theorem dX3_beginAs_74 : decode cX3_beginAs 74 = .ok (.aload_n 0, 1) := by decide +kernel
theorem dX3_beginAs_75 : decode cX3_beginAs 75 = .ok (.getfield 33, 3) := by decide +kernel
theorem dX3_beginAs_78 : decode cX3_beginAs 78 = .ok (.iconst 0, 1) := by decide +kernel
theorem dX3_beginAs_79 : decode cX3_beginAs 79 = .ok (.invokestatic 39, 3) := by decide +kernel
theorem dX3_beginAs_82 : decode cX3_beginAs 82 = .ok (.aload_n 0, 1) := by decide +kernel
theorem dX3_beginAs_83 : decode cX3_beginAs 83 = .ok (.getfield 36, 3) := by decide +kernel
theorem dX3_beginAs_86 : decode cX3_beginAs 86 = .ok (.iconst 0, 1) := by decide +kernel
theorem dX3_beginAs_87 : decode cX3_beginAs 87 = .ok (.invokestatic 39, 3) := by decide +kernel
theorem dX3_beginAs_90 : decode cX3_beginAs 90 = .ok (.aload_n 0, 1) := by decide +kernel
theorem dX3_beginAs_91 : decode cX3_beginAs 91 = .ok (.iconst 0, 1) := by decide +kernel
theorem dX3_beginAs_92 : decode cX3_beginAs 92 = .ok (.putfield 57, 3) := by decide +kernel
theorem dX3_beginAs_95 : decode cX3_beginAs 95 = .ok (.aload_n 0, 1) := by decide +kernel
theorem dX3_beginAs_96 : decode cX3_beginAs 96 = .ok (.iconst 0, 1) := by decide +kernel
theorem dX3_beginAs_97 : decode cX3_beginAs 97 = .ok (.putfield 61, 3) := by decide +kernel
theorem dX3_beginAs_100 : decode cX3_beginAs 100 = .ok (.aload_n 0, 1) := by decide +kernel
theorem dX3_beginAs_101 : decode cX3_beginAs 101 = .ok (.iconst 0, 1) := by decide +kernel
theorem dX3_beginAs_102 : decode cX3_beginAs 102 = .ok (.putfield 65, 3) := by decide +kernel
theorem dX3_beginAs_105 : decode cX3_beginAs 105 = .ok (.aload_n 0, 1) := by decide +kernel
theorem dX3_beginAs_106 : decode cX3_beginAs 106 = .ok (.iconst 0, 1) := by decide +kernel
theorem dX3_beginAs_107 : decode cX3_beginAs 107 = .ok (.putfield 68, 3) := by decide +kernel
theorem dX3_beginAs_110 : decode cX3_beginAs 110 = .ok (.aload_n 0, 1) := by decide +kernel
theorem dX3_beginAs_111 : decode cX3_beginAs 111 = .ok (.iconst 0, 1) := by decide +kernel
theorem dX3_beginAs_112 : decode cX3_beginAs 112 = .ok (.putfield 71, 3) := by decide +kernel
theorem dX3_beginAs_115 : decode cX3_beginAs 115 = .ok (.return_, 1) := by decide +kernel
theorem dX3_copyFrom_0 : decode cX3_copyFrom 0 = .ok (.aload_n 1, 1) := by decide +kernel
theorem dX3_copyFrom_1 : decode cX3_copyFrom 1 = .ok (.getfield 9, 3) := by decide +kernel
theorem dX3_copyFrom_4 : decode cX3_copyFrom 4 = .ok (.iconst 0, 1) := by decide +kernel
theorem dX3_copyFrom_5 : decode cX3_copyFrom 5 = .ok (.aload_n 0, 1) := by decide +kernel
theorem dX3_copyFrom_6 : decode cX3_copyFrom 6 = .ok (.getfield 9, 3) := by decide +kernel
theorem dX3_copyFrom_9 : decode cX3_copyFrom 9 = .ok (.iconst 0, 1) := by decide +kernel
theorem dX3_copyFrom_10 : decode cX3_copyFrom 10 = .ok (.bipush 8, 2) := by decide +kernel
theorem dX3_copyFrom_12 : decode cX3_copyFrom 12 = .ok (.invokestatic 48, 3) := by decide +kernel
theorem dX3_copyFrom_15 : decode cX3_copyFrom 15 = .ok (.aload_n 1, 1) := by decide +kernel
theorem dX3_copyFrom_16 : decode cX3_copyFrom 16 = .ok (.getfield 15, 3) := by decide +kernel
theorem dX3_copyFrom_19 : decode cX3_copyFrom 19 = .ok (.iconst 0, 1) := by decide +kernel
theorem dX3_copyFrom_20 : decode cX3_copyFrom 20 = .ok (.aload_n 0, 1) := by decide +kernel
theorem dX3_copyFrom_21 : decode cX3_copyFrom 21 = .ok (.getfield 15, 3) := by decide +kernel
theorem dX3_copyFrom_24 : decode cX3_copyFrom 24 = .ok (.iconst 0, 1) := by decide +kernel
theorem dX3_copyFrom_25 : decode cX3_copyFrom 25 = .ok (.bipush 8, 2) := by decide +kernel
theorem dX3_copyFrom_27 : decode cX3_copyFrom 27 = .ok (.invokestatic 48, 3) := by decide +kernel
theorem dX3_copyFrom_30 : decode cX3_copyFrom 30 = .ok (.aload_n 1, 1) := by decide +kernel
theorem dX3_copyFrom_31 : decode cX3_copyFrom 31 = .ok (.getfield 18, 3) := by decide +kernel
theorem dX3_copyFrom_34 : decode cX3_copyFrom 34 = .ok (.iconst 0, 1) := by decide +kernel
theorem dX3_copyFrom_35 : decode cX3_copyFrom 35 = .ok (.aload_n 0, 1) := by decide +kernel
theorem dX3_copyFrom_36 : decode cX3_copyFrom 36 = .ok (.getfield 18, 3) := by decide +kernel
theorem dX3_copyFrom_39 : decode cX3_copyFrom 39 = .ok (.iconst 0, 1) := by decide +kernel
theorem dX3_copyFrom_40 : decode cX3_copyFrom 40 = .ok (.bipush 8, 2) := by decide +kernel
theorem dX3_copyFrom_42 : decode cX3_copyFrom 42 = .ok (.invokestatic 48, 3) := by decide +kernel
theorem dX3_copyFrom_45 : decode cX3_copyFrom 45 = .ok (.aload_n 1, 1) := by decide +kernel
theorem dX3_copyFrom_46 : decode cX3_copyFrom 46 = .ok (.getfield 21, 3) := by decide +kernel
theorem dX3_copyFrom_49 : decode cX3_copyFrom 49 = .ok (.iconst 0, 1) := by decide +kernel
theorem dX3_copyFrom_50 : decode cX3_copyFrom 50 = .ok (.aload_n 0, 1) := by decide +kernel
theorem dX3_copyFrom_51 : decode cX3_copyFrom 51 = .ok (.getfield 21, 3) := by decide +kernel
theorem dX3_copyFrom_54 : decode cX3_copyFrom 54 = .ok (.iconst 0, 1) := by decide +kernel
theorem dX3_copyFrom_55 : decode cX3_copyFrom 55 = .ok (.bipush 8, 2) := by decide +kernel
theorem dX3_copyFrom_57 : decode cX3_copyFrom 57 = .ok (.invokestatic 48, 3) := by decide +kernel
theorem dX3_copyFrom_60 : decode cX3_copyFrom 60 = .ok (.aload_n 1, 1) := by decide +kernel
theorem dX3_copyFrom_61 : decode cX3_copyFrom 61 = .ok (.getfield 24, 3) := by decide +kernel
theorem dX3_copyFrom_64 : decode cX3_copyFrom 64 = .ok (.iconst 0, 1) := by decide +kernel
theorem dX3_copyFrom_65 : decode cX3_copyFrom 65 = .ok (.aload_n 0, 1) := by decide +kernel
theorem dX3_copyFrom_66 : decode cX3_copyFrom 66 = .ok (.getfield 24, 3) := by decide +kernel
theorem dX3_copyFrom_69 : decode cX3_copyFrom 69 = .ok (.iconst 0, 1) := by decide +kernel
theorem dX3_copyFrom_70 : decode cX3_copyFrom 70 = .ok (.iconst 5, 1) := by decide +kernel
theorem dX3_copyFrom_71 : decode cX3_copyFrom 71 = .ok (.invokestatic 48, 3) := by decide +kernel
theorem dX3_copyFrom_74 : decode cX3_copyFrom 74 = .ok (.aload_n 1, 1) := by decide +kernel
theorem dX3_copyFrom_75 : decode cX3_copyFrom 75 = .ok (.getfield 27, 3) := by decide +kernel
theorem dX3_copyFrom_78 : decode cX3_copyFrom 78 = .ok (.iconst 0, 1) := by decide +kernel
theorem dX3_copyFrom_79 : decode cX3_copyFrom 79 = .ok (.aload_n 0, 1) := by decide +kernel
theorem dX3_copyFrom_80 : decode cX3_copyFrom 80 = .ok (.getfield 27, 3) := by decide +kernel
theorem dX3_copyFrom_83 : decode cX3_copyFrom 83 = .ok (.iconst 0, 1) := by decide +kernel
theorem dX3_copyFrom_84 : decode cX3_copyFrom 84 = .ok (.iconst 5, 1) := by decide +kernel
theorem dX3_copyFrom_85 : decode cX3_copyFrom 85 = .ok (.invokestatic 48, 3) := by decide +kernel
theorem dX3_copyFrom_88 : decode cX3_copyFrom 88 = .ok (.aload_n 1, 1) := by decide +kernel
theorem dX3_copyFrom_89 : decode cX3_copyFrom 89 = .ok (.getfield 30, 3) := by decide +kernel
theorem dX3_copyFrom_92 : decode cX3_copyFrom 92 = .ok (.iconst 0, 1) := by decide +kernel
theorem dX3_copyFrom_93 : decode cX3_copyFrom 93 = .ok (.aload_n 0, 1) := by decide +kernel
theorem dX3_copyFrom_94 : decode cX3_copyFrom 94 = .ok (.getfield 30, 3) := by decide +kernel
theorem dX3_copyFrom_97 : decode cX3_copyFrom 97 = .ok (.iconst 0, 1) := by decide +kernel
theorem dX3_copyFrom_98 : decode cX3_copyFrom 98 = .ok (.iconst 5, 1) := by decide +kernel
theorem dX3_copyFrom_99 : decode cX3_copyFrom 99 = .ok (.invokestatic 48, 3) := by decide +kernel
theorem dX3_copyFrom_102 : decode cX3_copyFrom 102 = .ok (.aload_n 1, 1) := by decide +kernel
theorem dX3_copyFrom_103 : decode cX3_copyFrom 103 = .ok (.getfield 33, 3) := by decide +kernel
theorem dX3_copyFrom_106 : decode cX3_copyFrom 106 = .ok (.iconst 0, 1) := by decide +kernel
theorem dX3_copyFrom_107 : decode cX3_copyFrom 107 = .ok (.aload_n 0, 1) := by decide +kernel
theorem dX3_copyFrom_108 : decode cX3_copyFrom 108 = .ok (.getfield 33, 3) := by decide +kernel
theorem dX3_copyFrom_111 : decode cX3_copyFrom 111 = .ok (.iconst 0, 1) := by decide +kernel
theorem dX3_copyFrom_112 : decode cX3_copyFrom 112 = .ok (.iconst 5, 1) := by decide +kernel
theorem dX3_copyFrom_113 : decode cX3_copyFrom 113 = .ok (.invokestatic 48, 3) := by decide +kernel
theorem dX3_copyFrom_116 : decode cX3_copyFrom 116 = .ok (.aload_n 1, 1) := by decide +kernel
theorem dX3_copyFrom_117 : decode cX3_copyFrom 117 = .ok (.getfield 36, 3) := by decide +kernel
theorem dX3_copyFrom_120 : decode cX3_copyFrom 120 = .ok (.iconst 0, 1) := by decide +kernel
theorem dX3_copyFrom_121 : decode cX3_copyFrom 121 = .ok (.aload_n 0, 1) := by decide +kernel
theorem dX3_copyFrom_122 : decode cX3_copyFrom 122 = .ok (.getfield 36, 3) := by decide +kernel
theorem dX3_copyFrom_125 : decode cX3_copyFrom 125 = .ok (.iconst 0, 1) := by decide +kernel
theorem dX3_copyFrom_126 : decode cX3_copyFrom 126 = .ok (.iconst 5, 1) := by decide +kernel
theorem dX3_copyFrom_127 : decode cX3_copyFrom 127 = .ok (.invokestatic 48, 3) := by decide +kernel
theorem dX3_copyFrom_130 : decode cX3_copyFrom 130 = .ok (.aload_n 0, 1) := by decide +kernel
theorem dX3_copyFrom_131 : decode cX3_copyFrom 131 = .ok (.aload_n 1, 1) := by decide +kernel
theorem dX3_copyFrom_132 : decode cX3_copyFrom 132 = .ok (.getfield 57, 3) := by decide +kernel
theorem dX3_copyFrom_135 : decode cX3_copyFrom 135 = .ok (.putfield 57, 3) := by decide +kernel
theorem dX3_copyFrom_138 : decode cX3_copyFrom 138 = .ok (.aload_n 0, 1) := by decide +kernel
theorem dX3_copyFrom_139 : decode cX3_copyFrom 139 = .ok (.aload_n 1, 1) := by decide +kernel
theorem dX3_copyFrom_140 : decode cX3_copyFrom 140 = .ok (.getfield 61, 3) := by decide +kernel
theorem dX3_copyFrom_143 : decode cX3_copyFrom 143 = .ok (.putfield 61, 3) := by decide +kernel
theorem dX3_copyFrom_146 : decode cX3_copyFrom 146 = .ok (.aload_n 0, 1) := by decide +kernel
theorem dX3_copyFrom_147 : decode cX3_copyFrom 147 = .ok (.aload_n 1, 1) := by decide +kernel
theorem dX3_copyFrom_148 : decode cX3_copyFrom 148 = .ok (.getfield 65, 3) := by decide +kernel
theorem dX3_copyFrom_151 : decode cX3_copyFrom 151 = .ok (.putfield 65, 3) := by decide +kernel
theorem dX3_copyFrom_154 : decode cX3_copyFrom 154 = .ok (.aload_n 0, 1) := by decide +kernel
theorem dX3_copyFrom_155 : decode cX3_copyFrom 155 = .ok (.aload_n 1, 1) := by decide +kernel
theorem dX3_copyFrom_156 : decode cX3_copyFrom 156 = .ok (.getfield 68, 3) := by decide +kernel
theorem dX3_copyFrom_159 : decode cX3_copyFrom 159 = .ok (.putfield 68, 3) := by decide +kernel
theorem dX3_copyFrom_162 : decode cX3_copyFrom 162 = .ok (.aload_n 0, 1) := by decide +kernel
theorem dX3_copyFrom_163 : decode cX3_copyFrom 163 = .ok (.aload_n 1, 1) := by decide +kernel
theorem dX3_copyFrom_164 : decode cX3_copyFrom 164 = .ok (.getfield 71, 3) := by decide +kernel
theorem dX3_copyFrom_167 : decode cX3_copyFrom 167 = .ok (.putfield 71, 3) := by decide +kernel
theorem dX3_copyFrom_170 : decode cX3_copyFrom 170 = .ok (.return_, 1) := by decide +kernel
theorem dX3_passDay_0 : decode cX3_passDay 0 = .ok (.aload_n 0, 1) := by decide +kernel
theorem dX3_passDay_1 : decode cX3_passDay 1 = .ok (.getfield 18, 3) := by decide +kernel
theorem dX3_passDay_4 : decode cX3_passDay 4 = .ok (.iconst (-1), 1) := by decide +kernel
theorem dX3_passDay_5 : decode cX3_passDay 5 = .ok (.invokestatic 39, 3) := by decide +kernel
theorem dX3_passDay_8 : decode cX3_passDay 8 = .ok (.iconst 0, 1) := by decide +kernel
theorem dX3_passDay_9 : decode cX3_passDay 9 = .ok (.istore_n 2, 1) := by decide +kernel
theorem dX3_passDay_10 : decode cX3_passDay 10 = .ok (.iload_n 2, 1) := by decide +kernel
theorem dX3_passDay_11 : decode cX3_passDay 11 = .ok (.aload_n 1, 1) := by decide +kernel
theorem dX3_passDay_12 : decode cX3_passDay 12 = .ok (.getfield 74, 3) := by decide +kernel
theorem dX3_passDay_15 : decode cX3_passDay 15 = .ok (.if_icmp .ge 47, 3) := by decide +kernel
theorem dX3_passDay_18 : decode cX3_passDay 18 = .ok (.aload_n 0, 1) := by decide +kernel
theorem dX3_passDay_19 : decode cX3_passDay 19 = .ok (.iload_n 2, 1) := by decide +kernel
theorem dX3_passDay_20 : decode cX3_passDay 20 = .ok (.invokevirtual 77, 3) := by decide +kernel
theorem dX3_passDay_23 : decode cX3_passDay 23 = .ok (.ifCond .eq 12, 3) := by decide +kernel
theorem dX3_passDay_26 : decode cX3_passDay 26 = .ok (.aload_n 0, 1) := by decide +kernel
theorem dX3_passDay_27 : decode cX3_passDay 27 = .ok (.aload_n 1, 1) := by decide +kernel
theorem dX3_passDay_28 : decode cX3_passDay 28 = .ok (.iload_n 2, 1) := by decide +kernel
theorem dX3_passDay_29 : decode cX3_passDay 29 = .ok (.invokevirtual 81, 3) := by decide +kernel
theorem dX3_passDay_32 : decode cX3_passDay 32 = .ok (.goto 4, 3) := by decide +kernel
theorem dX3_passDay_35 : decode cX3_passDay 35 = .ok (.iconst (-1), 1) := by decide +kernel
theorem dX3_passDay_36 : decode cX3_passDay 36 = .ok (.istore_n 3, 1) := by decide +kernel
theorem dX3_passDay_37 : decode cX3_passDay 37 = .ok (.iload_n 3, 1) := by decide +kernel
theorem dX3_passDay_38 : decode cX3_passDay 38 = .ok (.iconst (-1), 1) := by decide +kernel
theorem dX3_passDay_39 : decode cX3_passDay 39 = .ok (.if_icmp .eq 17, 3) := by decide +kernel
theorem dX3_passDay_42 : decode cX3_passDay 42 = .ok (.aload_n 0, 1) := by decide +kernel
theorem dX3_passDay_43 : decode cX3_passDay 43 = .ok (.iload_n 2, 1) := by decide +kernel
theorem dX3_passDay_44 : decode cX3_passDay 44 = .ok (.iload_n 3, 1) := by decide +kernel
theorem dX3_passDay_45 : decode cX3_passDay 45 = .ok (.aload_n 1, 1) := by decide +kernel
theorem dX3_passDay_46 : decode cX3_passDay 46 = .ok (.aload_n 0, 1) := by decide +kernel
theorem dX3_passDay_47 : decode cX3_passDay 47 = .ok (.getfield 57, 3) := by decide +kernel
theorem dX3_passDay_50 : decode cX3_passDay 50 = .ok (.invokevirtual 85, 3) := by decide +kernel
theorem dX3_passDay_53 : decode cX3_passDay 53 = .ok (.invokevirtual 89, 3) := by decide +kernel
theorem dX3_passDay_56 : decode cX3_passDay 56 = .ok (.iinc 2 1, 3) := by decide +kernel
theorem dX3_passDay_59 : decode cX3_passDay 59 = .ok (.goto (-49), 3) := by decide +kernel
theorem dX3_passDay_62 : decode cX3_passDay 62 = .ok (.aload_n 0, 1) := by decide +kernel
theorem dX3_passDay_63 : decode cX3_passDay 63 = .ok (.iconst 0, 1) := by decide +kernel
theorem dX3_passDay_64 : decode cX3_passDay 64 = .ok (.putfield 61, 3) := by decide +kernel
theorem dX3_passDay_67 : decode cX3_passDay 67 = .ok (.aload_n 0, 1) := by decide +kernel
theorem dX3_passDay_68 : decode cX3_passDay 68 = .ok (.dup, 1) := by decide +kernel
theorem dX3_passDay_69 : decode cX3_passDay 69 = .ok (.getfield 57, 3) := by decide +kernel
theorem dX3_passDay_72 : decode cX3_passDay 72 = .ok (.iconst 1, 1) := by decide +kernel
theorem dX3_passDay_73 : decode cX3_passDay 73 = .ok (.iadd, 1) := by decide +kernel
theorem dX3_passDay_74 : decode cX3_passDay 74 = .ok (.putfield 57, 3) := by decide +kernel
theorem dX3_passDay_77 : decode cX3_passDay 77 = .ok (.return_, 1) := by decide +kernel
theorem dX3_laysToday_0 : decode cX3_laysToday 0 = .ok (.aload_n 0, 1) := by decide +kernel
theorem dX3_laysToday_1 : decode cX3_laysToday 1 = .ok (.getfield 61, 3) := by decide +kernel
theorem dX3_laysToday_4 : decode cX3_laysToday 4 = .ok (.ifCond .ne 26, 3) := by decide +kernel
theorem dX3_laysToday_7 : decode cX3_laysToday 7 = .ok (.aload_n 0, 1) := by decide +kernel
theorem dX3_laysToday_8 : decode cX3_laysToday 8 = .ok (.getfield 24, 3) := by decide +kernel
theorem dX3_laysToday_11 : decode cX3_laysToday 11 = .ok (.iload_n 1, 1) := by decide +kernel
theorem dX3_laysToday_12 : decode cX3_laysToday 12 = .ok (.iaload, 1) := by decide +kernel
theorem dX3_laysToday_13 : decode cX3_laysToday 13 = .ok (.iconst 1, 1) := by decide +kernel
theorem dX3_laysToday_14 : decode cX3_laysToday 14 = .ok (.if_icmp .ne 12, 3) := by decide +kernel
theorem dX3_laysToday_17 : decode cX3_laysToday 17 = .ok (.aload_n 0, 1) := by decide +kernel
theorem dX3_laysToday_18 : decode cX3_laysToday 18 = .ok (.getfield 57, 3) := by decide +kernel
theorem dX3_laysToday_21 : decode cX3_laysToday 21 = .ok (.iconst 2, 1) := by decide +kernel
theorem dX3_laysToday_22 : decode cX3_laysToday 22 = .ok (.irem, 1) := by decide +kernel
theorem dX3_laysToday_23 : decode cX3_laysToday 23 = .ok (.ifCond .ne 7, 3) := by decide +kernel
theorem dX3_laysToday_26 : decode cX3_laysToday 26 = .ok (.iconst 1, 1) := by decide +kernel
theorem dX3_laysToday_27 : decode cX3_laysToday 27 = .ok (.goto 4, 3) := by decide +kernel
theorem dX3_laysToday_30 : decode cX3_laysToday 30 = .ok (.iconst 0, 1) := by decide +kernel
theorem dX3_laysToday_31 : decode cX3_laysToday 31 = .ok (.ireturn, 1) := by decide +kernel
theorem dX3_favourite_0 : decode cX3_favourite 0 = .ok (.iconst (-1), 1) := by decide +kernel
theorem dX3_favourite_1 : decode cX3_favourite 1 = .ok (.istore_n 3, 1) := by decide +kernel
theorem dX3_favourite_2 : decode cX3_favourite 2 = .ok (.iconst 0, 1) := by decide +kernel
theorem dX3_favourite_3 : decode cX3_favourite 3 = .ok (.istore 4, 2) := by decide +kernel
theorem dX3_favourite_5 : decode cX3_favourite 5 = .ok (.iconst 0, 1) := by decide +kernel
theorem dX3_favourite_6 : decode cX3_favourite 6 = .ok (.istore 5, 2) := by decide +kernel
theorem dX3_favourite_8 : decode cX3_favourite 8 = .ok (.iload 5, 2) := by decide +kernel
theorem dX3_favourite_10 : decode cX3_favourite 10 = .ok (.aload_n 1, 1) := by decide +kernel
theorem dX3_favourite_11 : decode cX3_favourite 11 = .ok (.getfield 93, 3) := by decide +kernel
theorem dX3_favourite_14 : decode cX3_favourite 14 = .ok (.if_icmp .ge 49, 3) := by decide +kernel
theorem dX3_favourite_17 : decode cX3_favourite 17 = .ok (.aload_n 0, 1) := by decide +kernel
theorem dX3_favourite_18 : decode cX3_favourite 18 = .ok (.getfield 18, 3) := by decide +kernel
theorem dX3_favourite_21 : decode cX3_favourite 21 = .ok (.iload 5, 2) := by decide +kernel
theorem dX3_favourite_23 : decode cX3_favourite 23 = .ok (.iaload, 1) := by decide +kernel
theorem dX3_favourite_24 : decode cX3_favourite 24 = .ok (.iconst (-1), 1) := by decide +kernel
theorem dX3_favourite_25 : decode cX3_favourite 25 = .ok (.if_icmp .ne 32, 3) := by decide +kernel
theorem dX3_favourite_28 : decode cX3_favourite 28 = .ok (.aload_n 0, 1) := by decide +kernel
theorem dX3_favourite_29 : decode cX3_favourite 29 = .ok (.aload_n 1, 1) := by decide +kernel
theorem dX3_favourite_30 : decode cX3_favourite 30 = .ok (.iload_n 2, 1) := by decide +kernel
theorem dX3_favourite_31 : decode cX3_favourite 31 = .ok (.iload 5, 2) := by decide +kernel
theorem dX3_favourite_33 : decode cX3_favourite 33 = .ok (.invokevirtual 96, 3) := by decide +kernel
theorem dX3_favourite_36 : decode cX3_favourite 36 = .ok (.istore 6, 2) := by decide +kernel
theorem dX3_favourite_38 : decode cX3_favourite 38 = .ok (.iload_n 3, 1) := by decide +kernel
theorem dX3_favourite_39 : decode cX3_favourite 39 = .ok (.iconst (-1), 1) := by decide +kernel
theorem dX3_favourite_40 : decode cX3_favourite 40 = .ok (.if_icmp .eq 10, 3) := by decide +kernel
theorem dX3_favourite_43 : decode cX3_favourite 43 = .ok (.iload 6, 2) := by decide +kernel
theorem dX3_favourite_45 : decode cX3_favourite 45 = .ok (.iload 4, 2) := by decide +kernel
theorem dX3_favourite_47 : decode cX3_favourite 47 = .ok (.if_icmp .le 10, 3) := by decide +kernel
theorem dX3_favourite_50 : decode cX3_favourite 50 = .ok (.iload 5, 2) := by decide +kernel
theorem dX3_favourite_52 : decode cX3_favourite 52 = .ok (.istore_n 3, 1) := by decide +kernel
theorem dX3_favourite_53 : decode cX3_favourite 53 = .ok (.iload 6, 2) := by decide +kernel
theorem dX3_favourite_55 : decode cX3_favourite 55 = .ok (.istore 4, 2) := by decide +kernel
theorem dX3_favourite_57 : decode cX3_favourite 57 = .ok (.iinc 5 1, 3) := by decide +kernel
theorem dX3_favourite_60 : decode cX3_favourite 60 = .ok (.goto (-52), 3) := by decide +kernel
theorem dX3_favourite_63 : decode cX3_favourite 63 = .ok (.iload_n 3, 1) := by decide +kernel
theorem dX3_favourite_64 : decode cX3_favourite 64 = .ok (.ireturn, 1) := by decide +kernel
theorem dX3_layEgg_0 : decode cX3_layEgg 0 = .ok (.iload_n 3, 1) := by decide +kernel
theorem dX3_layEgg_1 : decode cX3_layEgg 1 = .ok (.aload_n 0, 1) := by decide +kernel
theorem dX3_layEgg_2 : decode cX3_layEgg 2 = .ok (.getfield 9, 3) := by decide +kernel
theorem dX3_layEgg_5 : decode cX3_layEgg 5 = .ok (.iload_n 2, 1) := by decide +kernel
theorem dX3_layEgg_6 : decode cX3_layEgg 6 = .ok (.iaload, 1) := by decide +kernel
theorem dX3_layEgg_7 : decode cX3_layEgg 7 = .ok (.if_icmp .ne 7, 3) := by decide +kernel
theorem dX3_layEgg_10 : decode cX3_layEgg 10 = .ok (.iconst 1, 1) := by decide +kernel
theorem dX3_layEgg_11 : decode cX3_layEgg 11 = .ok (.goto 4, 3) := by decide +kernel
theorem dX3_layEgg_14 : decode cX3_layEgg 14 = .ok (.iconst 0, 1) := by decide +kernel
theorem dX3_layEgg_15 : decode cX3_layEgg 15 = .ok (.istore 4, 2) := by decide +kernel
theorem dX3_layEgg_17 : decode cX3_layEgg 17 = .ok (.aload_n 0, 1) := by decide +kernel
theorem dX3_layEgg_18 : decode cX3_layEgg 18 = .ok (.getfield 18, 3) := by decide +kernel
theorem dX3_layEgg_21 : decode cX3_layEgg 21 = .ok (.iload_n 2, 1) := by decide +kernel
theorem dX3_layEgg_22 : decode cX3_layEgg 22 = .ok (.iload_n 1, 1) := by decide +kernel
theorem dX3_layEgg_23 : decode cX3_layEgg 23 = .ok (.iastore, 1) := by decide +kernel
theorem dX3_layEgg_24 : decode cX3_layEgg 24 = .ok (.aload_n 0, 1) := by decide +kernel
theorem dX3_layEgg_25 : decode cX3_layEgg 25 = .ok (.getfield 30, 3) := by decide +kernel
theorem dX3_layEgg_28 : decode cX3_layEgg 28 = .ok (.iload_n 1, 1) := by decide +kernel
theorem dX3_layEgg_29 : decode cX3_layEgg 29 = .ok (.iload_n 2, 1) := by decide +kernel
theorem dX3_layEgg_30 : decode cX3_layEgg 30 = .ok (.iastore, 1) := by decide +kernel
theorem dX3_layEgg_31 : decode cX3_layEgg 31 = .ok (.aload_n 0, 1) := by decide +kernel
theorem dX3_layEgg_32 : decode cX3_layEgg 32 = .ok (.getfield 21, 3) := by decide +kernel
theorem dX3_layEgg_35 : decode cX3_layEgg 35 = .ok (.iload_n 2, 1) := by decide +kernel
theorem dX3_layEgg_36 : decode cX3_layEgg 36 = .ok (.iload 4, 2) := by decide +kernel
theorem dX3_layEgg_38 : decode cX3_layEgg 38 = .ok (.ifCond .eq 7, 3) := by decide +kernel
theorem dX3_layEgg_41 : decode cX3_layEgg 41 = .ok (.iconst 2, 1) := by decide +kernel
theorem dX3_layEgg_42 : decode cX3_layEgg 42 = .ok (.goto 4, 3) := by decide +kernel
theorem dX3_layEgg_45 : decode cX3_layEgg 45 = .ok (.iconst (-1), 1) := by decide +kernel
theorem dX3_layEgg_46 : decode cX3_layEgg 46 = .ok (.iastore, 1) := by decide +kernel
theorem dX3_layEgg_47 : decode cX3_layEgg 47 = .ok (.iload 4, 2) := by decide +kernel
theorem dX3_layEgg_49 : decode cX3_layEgg 49 = .ok (.ifCond .eq 16, 3) := by decide +kernel
theorem dX3_layEgg_52 : decode cX3_layEgg 52 = .ok (.aload_n 0, 1) := by decide +kernel
theorem dX3_layEgg_53 : decode cX3_layEgg 53 = .ok (.getfield 33, 3) := by decide +kernel
theorem dX3_layEgg_56 : decode cX3_layEgg 56 = .ok (.iload_n 1, 1) := by decide +kernel
theorem dX3_layEgg_57 : decode cX3_layEgg 57 = .ok (.dup2, 1) := by decide +kernel
theorem dX3_layEgg_58 : decode cX3_layEgg 58 = .ok (.iaload, 1) := by decide +kernel
theorem dX3_layEgg_59 : decode cX3_layEgg 59 = .ok (.iconst 1, 1) := by decide +kernel
theorem dX3_layEgg_60 : decode cX3_layEgg 60 = .ok (.iadd, 1) := by decide +kernel
theorem dX3_layEgg_61 : decode cX3_layEgg 61 = .ok (.iastore, 1) := by decide +kernel
theorem dX3_layEgg_62 : decode cX3_layEgg 62 = .ok (.goto 13, 3) := by decide +kernel
theorem dX3_layEgg_65 : decode cX3_layEgg 65 = .ok (.aload_n 0, 1) := by decide +kernel
theorem dX3_layEgg_66 : decode cX3_layEgg 66 = .ok (.getfield 36, 3) := by decide +kernel
theorem dX3_layEgg_69 : decode cX3_layEgg 69 = .ok (.iload_n 1, 1) := by decide +kernel
theorem dX3_layEgg_70 : decode cX3_layEgg 70 = .ok (.dup2, 1) := by decide +kernel
theorem dX3_layEgg_71 : decode cX3_layEgg 71 = .ok (.iaload, 1) := by decide +kernel
theorem dX3_layEgg_72 : decode cX3_layEgg 72 = .ok (.iconst 1, 1) := by decide +kernel
theorem dX3_layEgg_73 : decode cX3_layEgg 73 = .ok (.iadd, 1) := by decide +kernel
theorem dX3_layEgg_74 : decode cX3_layEgg 74 = .ok (.iastore, 1) := by decide +kernel
theorem dX3_layEgg_75 : decode cX3_layEgg 75 = .ok (.return_, 1) := by decide +kernel
theorem dX3_likes_0 : decode cX3_likes 0 = .ok (.iconst 2, 1) := by decide +kernel
theorem dX3_likes_1 : decode cX3_likes 1 = .ok (.aload_n 0, 1) := by decide +kernel
theorem dX3_likes_2 : decode cX3_likes 2 = .ok (.getfield 15, 3) := by decide +kernel
theorem dX3_likes_5 : decode cX3_likes 5 = .ok (.iload_n 3, 1) := by decide +kernel
theorem dX3_likes_6 : decode cX3_likes 6 = .ok (.iaload, 1) := by decide +kernel
theorem dX3_likes_7 : decode cX3_likes 7 = .ok (.imul, 1) := by decide +kernel
theorem dX3_likes_8 : decode cX3_likes 8 = .ok (.aload_n 1, 1) := by decide +kernel
theorem dX3_likes_9 : decode cX3_likes 9 = .ok (.getfield 100, 3) := by decide +kernel
theorem dX3_likes_12 : decode cX3_likes 12 = .ok (.iload_n 3, 1) := by decide +kernel
theorem dX3_likes_13 : decode cX3_likes 13 = .ok (.iaload, 1) := by decide +kernel
theorem dX3_likes_14 : decode cX3_likes 14 = .ok (.iadd, 1) := by decide +kernel
theorem dX3_likes_15 : decode cX3_likes 15 = .ok (.istore 4, 2) := by decide +kernel
theorem dX3_likes_17 : decode cX3_likes 17 = .ok (.aload_n 0, 1) := by decide +kernel
theorem dX3_likes_18 : decode cX3_likes 18 = .ok (.getfield 30, 3) := by decide +kernel
theorem dX3_likes_21 : decode cX3_likes 21 = .ok (.iload_n 2, 1) := by decide +kernel
theorem dX3_likes_22 : decode cX3_likes 22 = .ok (.iaload, 1) := by decide +kernel
theorem dX3_likes_23 : decode cX3_likes 23 = .ok (.iload_n 3, 1) := by decide +kernel
theorem dX3_likes_24 : decode cX3_likes 24 = .ok (.if_icmp .ne 7, 3) := by decide +kernel
theorem dX3_likes_27 : decode cX3_likes 27 = .ok (.iconst 1, 1) := by decide +kernel
theorem dX3_likes_28 : decode cX3_likes 28 = .ok (.goto 4, 3) := by decide +kernel
theorem dX3_likes_31 : decode cX3_likes 31 = .ok (.iconst 0, 1) := by decide +kernel
theorem dX3_likes_32 : decode cX3_likes 32 = .ok (.istore 5, 2) := by decide +kernel
theorem dX3_likes_34 : decode cX3_likes 34 = .ok (.aload_n 0, 1) := by decide +kernel
theorem dX3_likes_35 : decode cX3_likes 35 = .ok (.getfield 24, 3) := by decide +kernel
theorem dX3_likes_38 : decode cX3_likes 38 = .ok (.iload_n 2, 1) := by decide +kernel
theorem dX3_likes_39 : decode cX3_likes 39 = .ok (.iaload, 1) := by decide +kernel
theorem dX3_likes_40 : decode cX3_likes 40 = .ok (.tableswitch 93 0 2 #[28, 48, 71], 28) := by decide +kernel
theorem dX3_likes_68 : decode cX3_likes 68 = .ok (.iload 5, 2) := by decide +kernel
theorem dX3_likes_70 : decode cX3_likes 70 = .ok (.ifCond .eq 15, 3) := by decide +kernel
theorem dX3_likes_73 : decode cX3_likes 73 = .ok (.iload 4, 2) := by decide +kernel
theorem dX3_likes_75 : decode cX3_likes 75 = .ok (.aload_n 0, 1) := by decide +kernel
theorem dX3_likes_76 : decode cX3_likes 76 = .ok (.getfield 27, 3) := by decide +kernel
theorem dX3_likes_79 : decode cX3_likes 79 = .ok (.iload_n 2, 1) := by decide +kernel
theorem dX3_likes_80 : decode cX3_likes 80 = .ok (.iaload, 1) := by decide +kernel
theorem dX3_likes_81 : decode cX3_likes 81 = .ok (.isub, 1) := by decide +kernel
theorem dX3_likes_82 : decode cX3_likes 82 = .ok (.goto 5, 3) := by decide +kernel
theorem dX3_likes_85 : decode cX3_likes 85 = .ok (.iload 4, 2) := by decide +kernel
theorem dX3_likes_87 : decode cX3_likes 87 = .ok (.ireturn, 1) := by decide +kernel
theorem dX3_likes_88 : decode cX3_likes 88 = .ok (.iload 5, 2) := by decide +kernel
theorem dX3_likes_90 : decode cX3_likes 90 = .ok (.ifCond .eq 18, 3) := by decide +kernel
theorem dX3_likes_93 : decode cX3_likes 93 = .ok (.iload 4, 2) := by decide +kernel
theorem dX3_likes_95 : decode cX3_likes 95 = .ok (.aload_n 0, 1) := by decide +kernel
theorem dX3_likes_96 : decode cX3_likes 96 = .ok (.getfield 27, 3) := by decide +kernel
theorem dX3_likes_99 : decode cX3_likes 99 = .ok (.iload_n 2, 1) := by decide +kernel
theorem dX3_likes_100 : decode cX3_likes 100 = .ok (.iaload, 1) := by decide +kernel
theorem dX3_likes_101 : decode cX3_likes 101 = .ok (.isub, 1) := by decide +kernel
theorem dX3_likes_102 : decode cX3_likes 102 = .ok (.bipush 9, 2) := by decide +kernel
theorem dX3_likes_104 : decode cX3_likes 104 = .ok (.iadd, 1) := by decide +kernel
theorem dX3_likes_105 : decode cX3_likes 105 = .ok (.goto 5, 3) := by decide +kernel
theorem dX3_likes_108 : decode cX3_likes 108 = .ok (.iload 4, 2) := by decide +kernel
theorem dX3_likes_110 : decode cX3_likes 110 = .ok (.ireturn, 1) := by decide +kernel
theorem dX3_likes_111 : decode cX3_likes 111 = .ok (.aload_n 1, 1) := by decide +kernel
theorem dX3_likes_112 : decode cX3_likes 112 = .ok (.getfield 100, 3) := by decide +kernel
theorem dX3_likes_115 : decode cX3_likes 115 = .ok (.iload_n 3, 1) := by decide +kernel
theorem dX3_likes_116 : decode cX3_likes 116 = .ok (.iaload, 1) := by decide +kernel
theorem dX3_likes_117 : decode cX3_likes 117 = .ok (.aload_n 0, 1) := by decide +kernel
theorem dX3_likes_118 : decode cX3_likes 118 = .ok (.getfield 57, 3) := by decide +kernel
theorem dX3_likes_121 : decode cX3_likes 121 = .ok (.aload_n 0, 1) := by decide +kernel
theorem dX3_likes_122 : decode cX3_likes 122 = .ok (.getfield 27, 3) := by decide +kernel
theorem dX3_likes_125 : decode cX3_likes 125 = .ok (.iload_n 2, 1) := by decide +kernel
theorem dX3_likes_126 : decode cX3_likes 126 = .ok (.iaload, 1) := by decide +kernel
theorem dX3_likes_127 : decode cX3_likes 127 = .ok (.imul, 1) := by decide +kernel
theorem dX3_likes_128 : decode cX3_likes 128 = .ok (.iadd, 1) := by decide +kernel
theorem dX3_likes_129 : decode cX3_likes 129 = .ok (.bipush 10, 2) := by decide +kernel
theorem dX3_likes_131 : decode cX3_likes 131 = .ok (.irem, 1) := by decide +kernel
theorem dX3_likes_132 : decode cX3_likes 132 = .ok (.ireturn, 1) := by decide +kernel
theorem dX3_likes_133 : decode cX3_likes 133 = .ok (.aload_n 1, 1) := by decide +kernel
theorem dX3_likes_134 : decode cX3_likes 134 = .ok (.getfield 93, 3) := by decide +kernel
theorem dX3_likes_137 : decode cX3_likes 137 = .ok (.ifCond .le 22, 3) := by decide +kernel
theorem dX3_likes_140 : decode cX3_likes 140 = .ok (.iload_n 3, 1) := by decide +kernel
theorem dX3_likes_141 : decode cX3_likes 141 = .ok (.aload_n 0, 1) := by decide +kernel
theorem dX3_likes_142 : decode cX3_likes 142 = .ok (.getfield 27, 3) := by decide +kernel
theorem dX3_likes_145 : decode cX3_likes 145 = .ok (.iload_n 2, 1) := by decide +kernel
theorem dX3_likes_146 : decode cX3_likes 146 = .ok (.iaload, 1) := by decide +kernel
theorem dX3_likes_147 : decode cX3_likes 147 = .ok (.aload_n 1, 1) := by decide +kernel
theorem dX3_likes_148 : decode cX3_likes 148 = .ok (.getfield 93, 3) := by decide +kernel
theorem dX3_likes_151 : decode cX3_likes 151 = .ok (.irem, 1) := by decide +kernel
theorem dX3_likes_152 : decode cX3_likes 152 = .ok (.if_icmp .ne 7, 3) := by decide +kernel
theorem dX3_likes_155 : decode cX3_likes 155 = .ok (.iconst 1, 1) := by decide +kernel
theorem dX3_likes_156 : decode cX3_likes 156 = .ok (.goto 4, 3) := by decide +kernel
theorem dX3_likes_159 : decode cX3_likes 159 = .ok (.iconst 0, 1) := by decide +kernel
theorem dX3_likes_160 : decode cX3_likes 160 = .ok (.ireturn, 1) := by decide +kernel
theorem dX3_placeOfEgg_0 : decode cX3_placeOfEgg 0 = .ok (.iconst 0, 1) := by decide +kernel
theorem dX3_placeOfEgg_1 : decode cX3_placeOfEgg 1 = .ok (.istore_n 2, 1) := by decide +kernel
theorem dX3_placeOfEgg_2 : decode cX3_placeOfEgg 2 = .ok (.iload_n 2, 1) := by decide +kernel
theorem dX3_placeOfEgg_3 : decode cX3_placeOfEgg 3 = .ok (.bipush 8, 2) := by decide +kernel
theorem dX3_placeOfEgg_5 : decode cX3_placeOfEgg 5 = .ok (.if_icmp .ge 21, 3) := by decide +kernel
theorem dX3_placeOfEgg_8 : decode cX3_placeOfEgg 8 = .ok (.aload_n 0, 1) := by decide +kernel
theorem dX3_placeOfEgg_9 : decode cX3_placeOfEgg 9 = .ok (.getfield 18, 3) := by decide +kernel
theorem dX3_placeOfEgg_12 : decode cX3_placeOfEgg 12 = .ok (.iload_n 2, 1) := by decide +kernel
theorem dX3_placeOfEgg_13 : decode cX3_placeOfEgg 13 = .ok (.iaload, 1) := by decide +kernel
theorem dX3_placeOfEgg_14 : decode cX3_placeOfEgg 14 = .ok (.iload_n 1, 1) := by decide +kernel
theorem dX3_placeOfEgg_15 : decode cX3_placeOfEgg 15 = .ok (.if_icmp .ne 5, 3) := by decide +kernel
theorem dX3_placeOfEgg_18 : decode cX3_placeOfEgg 18 = .ok (.iload_n 2, 1) := by decide +kernel
theorem dX3_placeOfEgg_19 : decode cX3_placeOfEgg 19 = .ok (.ireturn, 1) := by decide +kernel
theorem dX3_placeOfEgg_20 : decode cX3_placeOfEgg 20 = .ok (.iinc 2 1, 3) := by decide +kernel
theorem dX3_placeOfEgg_23 : decode cX3_placeOfEgg 23 = .ok (.goto (-21), 3) := by decide +kernel
theorem dX3_placeOfEgg_26 : decode cX3_placeOfEgg 26 = .ok (.iconst (-1), 1) := by decide +kernel
theorem dX3_placeOfEgg_27 : decode cX3_placeOfEgg 27 = .ok (.ireturn, 1) := by decide +kernel
theorem dX3_eggBits_0 : decode cX3_eggBits 0 = .ok (.iconst 0, 1) := by decide +kernel
theorem dX3_eggBits_1 : decode cX3_eggBits 1 = .ok (.istore_n 1, 1) := by decide +kernel
theorem dX3_eggBits_2 : decode cX3_eggBits 2 = .ok (.iconst 0, 1) := by decide +kernel
theorem dX3_eggBits_3 : decode cX3_eggBits 3 = .ok (.istore_n 2, 1) := by decide +kernel
theorem dX3_eggBits_4 : decode cX3_eggBits 4 = .ok (.iload_n 2, 1) := by decide +kernel
theorem dX3_eggBits_5 : decode cX3_eggBits 5 = .ok (.bipush 8, 2) := by decide +kernel
theorem dX3_eggBits_7 : decode cX3_eggBits 7 = .ok (.if_icmp .ge 25, 3) := by decide +kernel
theorem dX3_eggBits_10 : decode cX3_eggBits 10 = .ok (.aload_n 0, 1) := by decide +kernel
theorem dX3_eggBits_11 : decode cX3_eggBits 11 = .ok (.getfield 18, 3) := by decide +kernel
theorem dX3_eggBits_14 : decode cX3_eggBits 14 = .ok (.iload_n 2, 1) := by decide +kernel
theorem dX3_eggBits_15 : decode cX3_eggBits 15 = .ok (.iaload, 1) := by decide +kernel
theorem dX3_eggBits_16 : decode cX3_eggBits 16 = .ok (.iconst (-1), 1) := by decide +kernel
theorem dX3_eggBits_17 : decode cX3_eggBits 17 = .ok (.if_icmp .eq 9, 3) := by decide +kernel
theorem dX3_eggBits_20 : decode cX3_eggBits 20 = .ok (.iload_n 1, 1) := by decide +kernel
theorem dX3_eggBits_21 : decode cX3_eggBits 21 = .ok (.iconst 1, 1) := by decide +kernel
theorem dX3_eggBits_22 : decode cX3_eggBits 22 = .ok (.iload_n 2, 1) := by decide +kernel
theorem dX3_eggBits_23 : decode cX3_eggBits 23 = .ok (.ishl, 1) := by decide +kernel
theorem dX3_eggBits_24 : decode cX3_eggBits 24 = .ok (.ior, 1) := by decide +kernel
theorem dX3_eggBits_25 : decode cX3_eggBits 25 = .ok (.istore_n 1, 1) := by decide +kernel
theorem dX3_eggBits_26 : decode cX3_eggBits 26 = .ok (.iinc 2 1, 3) := by decide +kernel
theorem dX3_eggBits_29 : decode cX3_eggBits 29 = .ok (.goto (-25), 3) := by decide +kernel
theorem dX3_eggBits_32 : decode cX3_eggBits 32 = .ok (.iload_n 1, 1) := by decide +kernel
theorem dX3_eggBits_33 : decode cX3_eggBits 33 = .ok (.ireturn, 1) := by decide +kernel
theorem dX4_init_0 : decode cX4_init 0 = .ok (.aload_n 0, 1) := by decide +kernel
theorem dX4_init_1 : decode cX4_init 1 = .ok (.invokespecial 1, 3) := by decide +kernel
theorem dX4_init_4 : decode cX4_init 4 = .ok (.aload_n 0, 1) := by decide +kernel
theorem dX4_init_5 : decode cX4_init 5 = .ok (.new 7, 3) := by decide +kernel
theorem dX4_init_8 : decode cX4_init 8 = .ok (.dup, 1) := by decide +kernel
theorem dX4_init_9 : decode cX4_init 9 = .ok (.invokespecial 9, 3) := by decide +kernel
theorem dX4_init_12 : decode cX4_init 12 = .ok (.putfield 10, 3) := by decide +kernel
theorem dX4_init_15 : decode cX4_init 15 = .ok (.aload_n 0, 1) := by decide +kernel
theorem dX4_init_16 : decode cX4_init 16 = .ok (.new 16, 3) := by decide +kernel
theorem dX4_init_19 : decode cX4_init 19 = .ok (.dup, 1) := by decide +kernel
theorem dX4_init_20 : decode cX4_init 20 = .ok (.invokespecial 18, 3) := by decide +kernel
theorem dX4_init_23 : decode cX4_init 23 = .ok (.putfield 19, 3) := by decide +kernel
theorem dX4_init_26 : decode cX4_init 26 = .ok (.aload_n 0, 1) := by decide +kernel
theorem dX4_init_27 : decode cX4_init 27 = .ok (.new 16, 3) := by decide +kernel
theorem dX4_init_30 : decode cX4_init 30 = .ok (.dup, 1) := by decide +kernel
theorem dX4_init_31 : decode cX4_init 31 = .ok (.invokespecial 18, 3) := by decide +kernel
theorem dX4_init_34 : decode cX4_init 34 = .ok (.putfield 23, 3) := by decide +kernel
theorem dX4_init_37 : decode cX4_init 37 = .ok (.aload_n 0, 1) := by decide +kernel
theorem dX4_init_38 : decode cX4_init 38 = .ok (.new 26, 3) := by decide +kernel
theorem dX4_init_41 : decode cX4_init 41 = .ok (.dup, 1) := by decide +kernel
theorem dX4_init_42 : decode cX4_init 42 = .ok (.invokespecial 28, 3) := by decide +kernel
theorem dX4_init_45 : decode cX4_init 45 = .ok (.putfield 29, 3) := by decide +kernel
theorem dX4_init_48 : decode cX4_init 48 = .ok (.aload_n 0, 1) := by decide +kernel
theorem dX4_init_49 : decode cX4_init 49 = .ok (.new 26, 3) := by decide +kernel
theorem dX4_init_52 : decode cX4_init 52 = .ok (.dup, 1) := by decide +kernel
theorem dX4_init_53 : decode cX4_init 53 = .ok (.invokespecial 28, 3) := by decide +kernel
theorem dX4_init_56 : decode cX4_init 56 = .ok (.putfield 33, 3) := by decide +kernel
theorem dX4_init_59 : decode cX4_init 59 = .ok (.aload_n 0, 1) := by decide +kernel
theorem dX4_init_60 : decode cX4_init 60 = .ok (.bipush 8, 2) := by decide +kernel
theorem dX4_init_62 : decode cX4_init 62 = .ok (.anewarray 26, 3) := by decide +kernel
theorem dX4_init_65 : decode cX4_init 65 = .ok (.putfield 36, 3) := by decide +kernel
theorem dX4_init_68 : decode cX4_init 68 = .ok (.aload_n 0, 1) := by decide +kernel
theorem dX4_init_69 : decode cX4_init 69 = .ok (.iconst 2, 1) := by decide +kernel
theorem dX4_init_70 : decode cX4_init 70 = .ok (.anewarray 26, 3) := by decide +kernel
theorem dX4_init_73 : decode cX4_init 73 = .ok (.putfield 40, 3) := by decide +kernel
theorem dX4_init_76 : decode cX4_init 76 = .ok (.aload_n 0, 1) := by decide +kernel
theorem dX4_init_77 : decode cX4_init 77 = .ok (.iconst 2, 1) := by decide +kernel
theorem dX4_init_78 : decode cX4_init 78 = .ok (.newarray .boolean, 2) := by decide +kernel
theorem dX4_init_80 : decode cX4_init 80 = .ok (.putfield 43, 3) := by decide +kernel
theorem dX4_init_83 : decode cX4_init 83 = .ok (.aload_n 0, 1) := by decide +kernel
theorem dX4_init_84 : decode cX4_init 84 = .ok (.new 47, 3) := by decide +kernel
theorem dX4_init_87 : decode cX4_init 87 = .ok (.dup, 1) := by decide +kernel
theorem dX4_init_88 : decode cX4_init 88 = .ok (.invokespecial 49, 3) := by decide +kernel
theorem dX4_init_91 : decode cX4_init 91 = .ok (.putfield 50, 3) := by decide +kernel
theorem dX4_init_94 : decode cX4_init 94 = .ok (.aload_n 0, 1) := by decide +kernel
theorem dX4_init_95 : decode cX4_init 95 = .ok (.bipush 64, 2) := by decide +kernel
theorem dX4_init_97 : decode cX4_init 97 = .ok (.newarray .int, 2) := by decide +kernel
theorem dX4_init_99 : decode cX4_init 99 = .ok (.putfield 54, 3) := by decide +kernel
theorem dX4_init_102 : decode cX4_init 102 = .ok (.iconst 0, 1) := by decide +kernel
theorem dX4_init_103 : decode cX4_init 103 = .ok (.istore_n 1, 1) := by decide +kernel
theorem dX4_init_104 : decode cX4_init 104 = .ok (.iload_n 1, 1) := by decide +kernel
theorem dX4_init_105 : decode cX4_init 105 = .ok (.bipush 8, 2) := by decide +kernel
theorem dX4_init_107 : decode cX4_init 107 = .ok (.if_icmp .ge 22, 3) := by decide +kernel
theorem dX4_init_110 : decode cX4_init 110 = .ok (.aload_n 0, 1) := by decide +kernel
theorem dX4_init_111 : decode cX4_init 111 = .ok (.getfield 36, 3) := by decide +kernel
theorem dX4_init_114 : decode cX4_init 114 = .ok (.iload_n 1, 1) := by decide +kernel
theorem dX4_init_115 : decode cX4_init 115 = .ok (.new 26, 3) := by decide +kernel
theorem dX4_init_118 : decode cX4_init 118 = .ok (.dup, 1) := by decide +kernel
theorem dX4_init_119 : decode cX4_init 119 = .ok (.invokespecial 28, 3) := by decide +kernel
theorem dX4_init_122 : decode cX4_init 122 = .ok (.aastore, 1) := by decide +kernel
theorem dX4_init_123 : decode cX4_init 123 = .ok (.iinc 1 1, 3) := by decide +kernel
theorem dX4_init_126 : decode cX4_init 126 = .ok (.goto (-22), 3) := by decide +kernel
theorem dX4_init_129 : decode cX4_init 129 = .ok (.iconst 0, 1) := by decide +kernel
theorem dX4_init_130 : decode cX4_init 130 = .ok (.istore_n 1, 1) := by decide +kernel
theorem dX4_init_131 : decode cX4_init 131 = .ok (.iload_n 1, 1) := by decide +kernel
theorem dX4_init_132 : decode cX4_init 132 = .ok (.iconst 2, 1) := by decide +kernel
theorem dX4_init_133 : decode cX4_init 133 = .ok (.if_icmp .ge 22, 3) := by decide +kernel
theorem dX4_init_136 : decode cX4_init 136 = .ok (.aload_n 0, 1) := by decide +kernel
theorem dX4_init_137 : decode cX4_init 137 = .ok (.getfield 40, 3) := by decide +kernel
theorem dX4_init_140 : decode cX4_init 140 = .ok (.iload_n 1, 1) := by decide +kernel
theorem dX4_init_141 : decode cX4_init 141 = .ok (.new 26, 3) := by decide +kernel
theorem dX4_init_144 : decode cX4_init 144 = .ok (.dup, 1) := by decide +kernel
theorem dX4_init_145 : decode cX4_init 145 = .ok (.invokespecial 28, 3) := by decide +kernel
theorem dX4_init_148 : decode cX4_init 148 = .ok (.aastore, 1) := by decide +kernel
theorem dX4_init_149 : decode cX4_init 149 = .ok (.iinc 1 1, 3) := by decide +kernel
theorem dX4_init_152 : decode cX4_init 152 = .ok (.goto (-21), 3) := by decide +kernel
theorem dX4_init_155 : decode cX4_init 155 = .ok (.return_, 1) := by decide +kernel
theorem dX4_write_0 : decode cX4_write 0 = .ok (.iload_n 1, 1) := by decide +kernel
theorem dX4_write_1 : decode cX4_write 1 = .ok (.ifCond .lt 10, 3) := by decide +kernel
theorem dX4_write_4 : decode cX4_write 4 = .ok (.iload_n 1, 1) := by decide +kernel
theorem dX4_write_5 : decode cX4_write 5 = .ok (.sipush 255, 3) := by decide +kernel
theorem dX4_write_8 : decode cX4_write 8 = .ok (.if_icmp .le 6, 3) := by decide +kernel
theorem dX4_write_11 : decode cX4_write 11 = .ok (.bipush (-3), 2) := by decide +kernel
theorem dX4_write_13 : decode cX4_write 13 = .ok (.ireturn, 1) := by decide +kernel
theorem dX4_write_14 : decode cX4_write 14 = .ok (.aload_n 0, 1) := by decide +kernel
theorem dX4_write_15 : decode cX4_write 15 = .ok (.getfield 10, 3) := by decide +kernel
theorem dX4_write_18 : decode cX4_write 18 = .ok (.getfield 58, 3) := by decide +kernel
theorem dX4_write_21 : decode cX4_write 21 = .ok (.sipush 160, 3) := by decide +kernel
theorem dX4_write_24 : decode cX4_write 24 = .ok (.if_icmp .lt 6, 3) := by decide +kernel
theorem dX4_write_27 : decode cX4_write 27 = .ok (.bipush (-5), 2) := by decide +kernel
theorem dX4_write_29 : decode cX4_write 29 = .ok (.ireturn, 1) := by decide +kernel
theorem dX4_write_30 : decode cX4_write 30 = .ok (.aload_n 0, 1) := by decide +kernel
theorem dX4_write_31 : decode cX4_write 31 = .ok (.getfield 10, 3) := by decide +kernel
theorem dX4_write_34 : decode cX4_write 34 = .ok (.iload_n 1, 1) := by decide +kernel
theorem dX4_write_35 : decode cX4_write 35 = .ok (.i2c, 1) := by decide +kernel
theorem dX4_write_36 : decode cX4_write 36 = .ok (.invokevirtual 62, 3) := by decide +kernel
theorem dX4_write_39 : decode cX4_write 39 = .ok (.aload_n 0, 1) := by decide +kernel
theorem dX4_write_40 : decode cX4_write 40 = .ok (.getfield 10, 3) := by decide +kernel
theorem dX4_write_43 : decode cX4_write 43 = .ok (.getfield 58, 3) := by decide +kernel
theorem dX4_write_46 : decode cX4_write 46 = .ok (.ireturn, 1) := by decide +kernel
theorem dX4_erase_0 : decode cX4_erase 0 = .ok (.aload_n 0, 1) := by decide +kernel
theorem dX4_erase_1 : decode cX4_erase 1 = .ok (.getfield 10, 3) := by decide +kernel
theorem dX4_erase_4 : decode cX4_erase 4 = .ok (.getfield 58, 3) := by decide +kernel
theorem dX4_erase_7 : decode cX4_erase 7 = .ok (.istore_n 1, 1) := by decide +kernel
theorem dX4_erase_8 : decode cX4_erase 8 = .ok (.aload_n 0, 1) := by decide +kernel
theorem dX4_erase_9 : decode cX4_erase 9 = .ok (.getfield 10, 3) := by decide +kernel
theorem dX4_erase_12 : decode cX4_erase 12 = .ok (.iconst 0, 1) := by decide +kernel
theorem dX4_erase_13 : decode cX4_erase 13 = .ok (.putfield 58, 3) := by decide +kernel
theorem dX4_erase_16 : decode cX4_erase 16 = .ok (.iload_n 1, 1) := by decide +kernel
theorem dX4_erase_17 : decode cX4_erase 17 = .ok (.ireturn, 1) := by decide +kernel
theorem dX4_fault_0 : decode cX4_fault 0 = .ok (.aload_n 0, 1) := by decide +kernel
theorem dX4_fault_1 : decode cX4_fault 1 = .ok (.getfield 23, 3) := by decide +kernel
theorem dX4_fault_4 : decode cX4_fault 4 = .ok (.aload_n 0, 1) := by decide +kernel
theorem dX4_fault_5 : decode cX4_fault 5 = .ok (.getfield 19, 3) := by decide +kernel
theorem dX4_fault_8 : decode cX4_fault 8 = .ok (.invokevirtual 66, 3) := by decide +kernel
theorem dX4_fault_11 : decode cX4_fault 11 = .ok (.aload_n 0, 1) := by decide +kernel
theorem dX4_fault_12 : decode cX4_fault 12 = .ok (.getfield 10, 3) := by decide +kernel
theorem dX4_fault_15 : decode cX4_fault 15 = .ok (.aload_n 0, 1) := by decide +kernel
theorem dX4_fault_16 : decode cX4_fault 16 = .ok (.getfield 23, 3) := by decide +kernel
theorem dX4_fault_19 : decode cX4_fault 19 = .ok (.invokevirtual 70, 3) := by decide +kernel
theorem dX4_fault_22 : decode cX4_fault 22 = .ok (.ireturn, 1) := by decide +kernel
theorem dX4_yard_0 : decode cX4_yard 0 = .ok (.aload_n 0, 1) := by decide +kernel
theorem dX4_yard_1 : decode cX4_yard 1 = .ok (.getfield 23, 3) := by decide +kernel
theorem dX4_yard_4 : decode cX4_yard 4 = .ok (.aload_n 0, 1) := by decide +kernel
theorem dX4_yard_5 : decode cX4_yard 5 = .ok (.getfield 19, 3) := by decide +kernel
theorem dX4_yard_8 : decode cX4_yard 8 = .ok (.invokevirtual 66, 3) := by decide +kernel
theorem dX4_yard_11 : decode cX4_yard 11 = .ok (.aload_n 0, 1) := by decide +kernel
theorem dX4_yard_12 : decode cX4_yard 12 = .ok (.getfield 10, 3) := by decide +kernel
theorem dX4_yard_15 : decode cX4_yard 15 = .ok (.aload_n 0, 1) := by decide +kernel
theorem dX4_yard_16 : decode cX4_yard 16 = .ok (.getfield 23, 3) := by decide +kernel
theorem dX4_yard_19 : decode cX4_yard 19 = .ok (.invokevirtual 70, 3) := by decide +kernel
theorem dX4_yard_22 : decode cX4_yard 22 = .ok (.iconst (-1), 1) := by decide +kernel
theorem dX4_yard_23 : decode cX4_yard 23 = .ok (.if_icmp .eq 6, 3) := by decide +kernel
theorem dX4_yard_26 : decode cX4_yard 26 = .ok (.bipush (-4), 2) := by decide +kernel
theorem dX4_yard_28 : decode cX4_yard 28 = .ok (.ireturn, 1) := by decide +kernel
theorem dX4_yard_29 : decode cX4_yard 29 = .ok (.aload_n 0, 1) := by decide +kernel
theorem dX4_yard_30 : decode cX4_yard 30 = .ok (.getfield 19, 3) := by decide +kernel
theorem dX4_yard_33 : decode cX4_yard 33 = .ok (.aload_n 0, 1) := by decide +kernel
theorem dX4_yard_34 : decode cX4_yard 34 = .ok (.getfield 23, 3) := by decide +kernel
theorem dX4_yard_37 : decode cX4_yard 37 = .ok (.invokevirtual 66, 3) := by decide +kernel
theorem dX4_yard_40 : decode cX4_yard 40 = .ok (.aload_n 0, 1) := by decide +kernel
theorem dX4_yard_41 : decode cX4_yard 41 = .ok (.getfield 10, 3) := by decide +kernel
theorem dX4_yard_44 : decode cX4_yard 44 = .ok (.iconst 0, 1) := by decide +kernel
theorem dX4_yard_45 : decode cX4_yard 45 = .ok (.putfield 58, 3) := by decide +kernel
theorem dX4_yard_48 : decode cX4_yard 48 = .ok (.aload_n 0, 1) := by decide +kernel
theorem dX4_yard_49 : decode cX4_yard 49 = .ok (.getfield 29, 3) := by decide +kernel
theorem dX4_yard_52 : decode cX4_yard 52 = .ok (.aload_n 0, 1) := by decide +kernel
theorem dX4_yard_53 : decode cX4_yard 53 = .ok (.getfield 19, 3) := by decide +kernel
theorem dX4_yard_56 : decode cX4_yard 56 = .ok (.invokevirtual 74, 3) := by decide +kernel
theorem dX4_yard_59 : decode cX4_yard 59 = .ok (.aload_n 0, 1) := by decide +kernel
theorem dX4_yard_60 : decode cX4_yard 60 = .ok (.getfield 50, 3) := by decide +kernel
theorem dX4_yard_63 : decode cX4_yard 63 = .ok (.iconst 0, 1) := by decide +kernel
theorem dX4_yard_64 : decode cX4_yard 64 = .ok (.putfield 77, 3) := by decide +kernel
theorem dX4_yard_67 : decode cX4_yard 67 = .ok (.aload_n 0, 1) := by decide +kernel
theorem dX4_yard_68 : decode cX4_yard 68 = .ok (.iconst 0, 1) := by decide +kernel
theorem dX4_yard_69 : decode cX4_yard 69 = .ok (.putfield 80, 3) := by decide +kernel
theorem dX4_yard_72 : decode cX4_yard 72 = .ok (.iconst 0, 1) := by decide +kernel
theorem dX4_yard_73 : decode cX4_yard 73 = .ok (.istore_n 1, 1) := by decide +kernel
theorem dX4_yard_74 : decode cX4_yard 74 = .ok (.iload_n 1, 1) := by decide +kernel
theorem dX4_yard_75 : decode cX4_yard 75 = .ok (.iconst 2, 1) := by decide +kernel
theorem dX4_yard_76 : decode cX4_yard 76 = .ok (.if_icmp .ge 16, 3) := by decide +kernel
theorem dX4_yard_79 : decode cX4_yard 79 = .ok (.aload_n 0, 1) := by decide +kernel
theorem dX4_yard_80 : decode cX4_yard 80 = .ok (.getfield 43, 3) := by decide +kernel
theorem dX4_yard_83 : decode cX4_yard 83 = .ok (.iload_n 1, 1) := by decide +kernel
theorem dX4_yard_84 : decode cX4_yard 84 = .ok (.iconst 0, 1) := by decide +kernel
theorem dX4_yard_85 : decode cX4_yard 85 = .ok (.bastore, 1) := by decide +kernel
theorem dX4_yard_86 : decode cX4_yard 86 = .ok (.iinc 1 1, 3) := by decide +kernel
theorem dX4_yard_89 : decode cX4_yard 89 = .ok (.goto (-15), 3) := by decide +kernel
theorem dX4_yard_92 : decode cX4_yard 92 = .ok (.aload_n 0, 1) := by decide +kernel
theorem dX4_yard_93 : decode cX4_yard 93 = .ok (.getfield 10, 3) := by decide +kernel
theorem dX4_yard_96 : decode cX4_yard 96 = .ok (.getfield 83, 3) := by decide +kernel
theorem dX4_yard_99 : decode cX4_yard 99 = .ok (.ireturn, 1) := by decide +kernel
theorem dX4_place_0 : decode cX4_place 0 = .ok (.aload_n 0, 1) := by decide +kernel
theorem dX4_place_1 : decode cX4_place 1 = .ok (.iload_n 1, 1) := by decide +kernel
theorem dX4_place_2 : decode cX4_place 2 = .ok (.invokevirtual 86, 3) := by decide +kernel
theorem dX4_place_5 : decode cX4_place 5 = .ok (.ifCond .ne 6, 3) := by decide +kernel
theorem dX4_place_8 : decode cX4_place 8 = .ok (.bipush (-2), 2) := by decide +kernel
theorem dX4_place_10 : decode cX4_place 10 = .ok (.ireturn, 1) := by decide +kernel
theorem dX4_place_11 : decode cX4_place 11 = .ok (.iload_n 2, 1) := by decide +kernel
theorem dX4_place_12 : decode cX4_place 12 = .ok (.tableswitch 72 0 3 #[32, 42, 52, 62], 32) := by decide +kernel
theorem dX4_place_44 : decode cX4_place 44 = .ok (.aload_n 0, 1) := by decide +kernel
theorem dX4_place_45 : decode cX4_place 45 = .ok (.getfield 29, 3) := by decide +kernel
theorem dX4_place_48 : decode cX4_place 48 = .ok (.getfield 90, 3) := by decide +kernel
theorem dX4_place_51 : decode cX4_place 51 = .ok (.iload_n 1, 1) := by decide +kernel
theorem dX4_place_52 : decode cX4_place 52 = .ok (.iaload, 1) := by decide +kernel
theorem dX4_place_53 : decode cX4_place 53 = .ok (.ireturn, 1) := by decide +kernel
theorem dX4_place_54 : decode cX4_place 54 = .ok (.aload_n 0, 1) := by decide +kernel
theorem dX4_place_55 : decode cX4_place 55 = .ok (.getfield 29, 3) := by decide +kernel
theorem dX4_place_58 : decode cX4_place 58 = .ok (.getfield 93, 3) := by decide +kernel
theorem dX4_place_61 : decode cX4_place 61 = .ok (.iload_n 1, 1) := by decide +kernel
theorem dX4_place_62 : decode cX4_place 62 = .ok (.iaload, 1) := by decide +kernel
theorem dX4_place_63 : decode cX4_place 63 = .ok (.ireturn, 1) := by decide +kernel
theorem dX4_place_64 : decode cX4_place 64 = .ok (.aload_n 0, 1) := by decide +kernel
theorem dX4_place_65 : decode cX4_place 65 = .ok (.getfield 19, 3) := by decide +kernel
theorem dX4_place_68 : decode cX4_place 68 = .ok (.getfield 96, 3) := by decide +kernel
theorem dX4_place_71 : decode cX4_place 71 = .ok (.iload_n 1, 1) := by decide +kernel
theorem dX4_place_72 : decode cX4_place 72 = .ok (.iaload, 1) := by decide +kernel
theorem dX4_place_73 : decode cX4_place 73 = .ok (.ireturn, 1) := by decide +kernel
theorem dX4_place_74 : decode cX4_place 74 = .ok (.aload_n 0, 1) := by decide +kernel
theorem dX4_place_75 : decode cX4_place 75 = .ok (.getfield 29, 3) := by decide +kernel
theorem dX4_place_78 : decode cX4_place 78 = .ok (.getfield 99, 3) := by decide +kernel
theorem dX4_place_81 : decode cX4_place 81 = .ok (.iload_n 1, 1) := by decide +kernel
theorem dX4_place_82 : decode cX4_place 82 = .ok (.iaload, 1) := by decide +kernel
theorem dX4_place_83 : decode cX4_place 83 = .ok (.ireturn, 1) := by decide +kernel
theorem dX4_place_84 : decode cX4_place 84 = .ok (.bipush (-3), 2) := by decide +kernel
theorem dX4_place_86 : decode cX4_place 86 = .ok (.ireturn, 1) := by decide +kernel
theorem dX4_hen_0 : decode cX4_hen 0 = .ok (.aload_n 0, 1) := by decide +kernel
theorem dX4_hen_1 : decode cX4_hen 1 = .ok (.iload_n 1, 1) := by decide +kernel
theorem dX4_hen_2 : decode cX4_hen 2 = .ok (.invokevirtual 102, 3) := by decide +kernel
theorem dX4_hen_5 : decode cX4_hen 5 = .ok (.ifCond .ne 6, 3) := by decide +kernel
theorem dX4_hen_8 : decode cX4_hen 8 = .ok (.bipush (-2), 2) := by decide +kernel
theorem dX4_hen_10 : decode cX4_hen 10 = .ok (.ireturn, 1) := by decide +kernel
theorem dX4_hen_11 : decode cX4_hen 11 = .ok (.iload_n 2, 1) := by decide +kernel
theorem dX4_hen_12 : decode cX4_hen 12 = .ok (.tableswitch 86 0 4 #[36, 46, 56, 66, 76], 36) := by decide +kernel
theorem dX4_hen_48 : decode cX4_hen 48 = .ok (.aload_n 0, 1) := by decide +kernel
theorem dX4_hen_49 : decode cX4_hen 49 = .ok (.getfield 29, 3) := by decide +kernel
theorem dX4_hen_52 : decode cX4_hen 52 = .ok (.getfield 105, 3) := by decide +kernel
theorem dX4_hen_55 : decode cX4_hen 55 = .ok (.iload_n 1, 1) := by decide +kernel
theorem dX4_hen_56 : decode cX4_hen 56 = .ok (.iaload, 1) := by decide +kernel
theorem dX4_hen_57 : decode cX4_hen 57 = .ok (.ireturn, 1) := by decide +kernel
theorem dX4_hen_58 : decode cX4_hen 58 = .ok (.aload_n 0, 1) := by decide +kernel
theorem dX4_hen_59 : decode cX4_hen 59 = .ok (.getfield 29, 3) := by decide +kernel
theorem dX4_hen_62 : decode cX4_hen 62 = .ok (.getfield 108, 3) := by decide +kernel
theorem dX4_hen_65 : decode cX4_hen 65 = .ok (.iload_n 1, 1) := by decide +kernel
theorem dX4_hen_66 : decode cX4_hen 66 = .ok (.iaload, 1) := by decide +kernel
theorem dX4_hen_67 : decode cX4_hen 67 = .ok (.ireturn, 1) := by decide +kernel
theorem dX4_hen_68 : decode cX4_hen 68 = .ok (.aload_n 0, 1) := by decide +kernel
theorem dX4_hen_69 : decode cX4_hen 69 = .ok (.getfield 29, 3) := by decide +kernel
theorem dX4_hen_72 : decode cX4_hen 72 = .ok (.getfield 111, 3) := by decide +kernel
theorem dX4_hen_75 : decode cX4_hen 75 = .ok (.iload_n 1, 1) := by decide +kernel
theorem dX4_hen_76 : decode cX4_hen 76 = .ok (.iaload, 1) := by decide +kernel
theorem dX4_hen_77 : decode cX4_hen 77 = .ok (.ireturn, 1) := by decide +kernel
theorem dX4_hen_78 : decode cX4_hen 78 = .ok (.aload_n 0, 1) := by decide +kernel
theorem dX4_hen_79 : decode cX4_hen 79 = .ok (.getfield 29, 3) := by decide +kernel
theorem dX4_hen_82 : decode cX4_hen 82 = .ok (.getfield 114, 3) := by decide +kernel
theorem dX4_hen_85 : decode cX4_hen 85 = .ok (.iload_n 1, 1) := by decide +kernel
theorem dX4_hen_86 : decode cX4_hen 86 = .ok (.iaload, 1) := by decide +kernel
theorem dX4_hen_87 : decode cX4_hen 87 = .ok (.ireturn, 1) := by decide +kernel
theorem dX4_hen_88 : decode cX4_hen 88 = .ok (.aload_n 0, 1) := by decide +kernel
theorem dX4_hen_89 : decode cX4_hen 89 = .ok (.getfield 29, 3) := by decide +kernel
theorem dX4_hen_92 : decode cX4_hen 92 = .ok (.getfield 117, 3) := by decide +kernel
theorem dX4_hen_95 : decode cX4_hen 95 = .ok (.iload_n 1, 1) := by decide +kernel
theorem dX4_hen_96 : decode cX4_hen 96 = .ok (.iaload, 1) := by decide +kernel
theorem dX4_hen_97 : decode cX4_hen 97 = .ok (.ireturn, 1) := by decide +kernel
theorem dX4_hen_98 : decode cX4_hen 98 = .ok (.bipush (-3), 2) := by decide +kernel
theorem dX4_hen_100 : decode cX4_hen 100 = .ok (.ireturn, 1) := by decide +kernel
theorem dX4_news_0 : decode cX4_news 0 = .ok (.iload_n 1, 1) := by decide +kernel
theorem dX4_news_1 : decode cX4_news 1 = .ok (.ifCond .lt 9, 3) := by decide +kernel
theorem dX4_news_4 : decode cX4_news 4 = .ok (.iload_n 1, 1) := by decide +kernel
theorem dX4_news_5 : decode cX4_news 5 = .ok (.bipush 14, 2) := by decide +kernel
theorem dX4_news_7 : decode cX4_news 7 = .ok (.if_icmp .lt 6, 3) := by decide +kernel
theorem dX4_news_10 : decode cX4_news 10 = .ok (.bipush (-3), 2) := by decide +kernel
theorem dX4_news_12 : decode cX4_news 12 = .ok (.ireturn, 1) := by decide +kernel
theorem dX4_news_13 : decode cX4_news 13 = .ok (.aload_n 0, 1) := by decide +kernel
theorem dX4_news_14 : decode cX4_news 14 = .ok (.getfield 19, 3) := by decide +kernel
theorem dX4_news_17 : decode cX4_news 17 = .ok (.getfield 120, 3) := by decide +kernel
theorem dX4_news_20 : decode cX4_news 20 = .ok (.iload_n 1, 1) := by decide +kernel
theorem dX4_news_21 : decode cX4_news 21 = .ok (.iaload, 1) := by decide +kernel
theorem dX4_news_22 : decode cX4_news 22 = .ok (.ireturn, 1) := by decide +kernel
theorem dX4_as_0 : decode cX4_as 0 = .ok (.aload_n 0, 1) := by decide +kernel
theorem dX4_as_1 : decode cX4_as 1 = .ok (.iload_n 1, 1) := by decide +kernel
theorem dX4_as_2 : decode cX4_as 2 = .ok (.invokevirtual 102, 3) := by decide +kernel
theorem dX4_as_5 : decode cX4_as 5 = .ok (.ifCond .ne 6, 3) := by decide +kernel
theorem dX4_as_8 : decode cX4_as 8 = .ok (.bipush (-2), 2) := by decide +kernel
theorem dX4_as_10 : decode cX4_as 10 = .ok (.ireturn, 1) := by decide +kernel
theorem dX4_as_11 : decode cX4_as 11 = .ok (.iload_n 2, 1) := by decide +kernel
theorem dX4_as_12 : decode cX4_as 12 = .ok (.ifCond .lt 8, 3) := by decide +kernel
theorem dX4_as_15 : decode cX4_as 15 = .ok (.iload_n 2, 1) := by decide +kernel
theorem dX4_as_16 : decode cX4_as 16 = .ok (.iconst 4, 1) := by decide +kernel
theorem dX4_as_17 : decode cX4_as 17 = .ok (.if_icmp .le 6, 3) := by decide +kernel
theorem dX4_as_20 : decode cX4_as 20 = .ok (.bipush (-3), 2) := by decide +kernel
theorem dX4_as_22 : decode cX4_as 22 = .ok (.ireturn, 1) := by decide +kernel
theorem dX4_as_23 : decode cX4_as 23 = .ok (.aload_n 0, 1) := by decide +kernel
theorem dX4_as_24 : decode cX4_as 24 = .ok (.getfield 29, 3) := by decide +kernel
theorem dX4_as_27 : decode cX4_as 27 = .ok (.getfield 105, 3) := by decide +kernel
theorem dX4_as_30 : decode cX4_as 30 = .ok (.iload_n 1, 1) := by decide +kernel
theorem dX4_as_31 : decode cX4_as 31 = .ok (.iaload, 1) := by decide +kernel
theorem dX4_as_32 : decode cX4_as 32 = .ok (.iload_n 2, 1) := by decide +kernel
theorem dX4_as_33 : decode cX4_as 33 = .ok (.invokestatic 123, 3) := by decide +kernel
theorem dX4_as_36 : decode cX4_as 36 = .ok (.ifCond .eq 13, 3) := by decide +kernel
theorem dX4_as_39 : decode cX4_as 39 = .ok (.aload_n 0, 1) := by decide +kernel
theorem dX4_as_40 : decode cX4_as 40 = .ok (.getfield 19, 3) := by decide +kernel
theorem dX4_as_43 : decode cX4_as 43 = .ok (.getfield 127, 3) := by decide +kernel
theorem dX4_as_46 : decode cX4_as 46 = .ok (.ifCond .ne 6, 3) := by decide +kernel
theorem dX4_as_49 : decode cX4_as 49 = .ok (.bipush (-4), 2) := by decide +kernel
theorem dX4_as_51 : decode cX4_as 51 = .ok (.ireturn, 1) := by decide +kernel
theorem dX4_as_52 : decode cX4_as 52 = .ok (.aload_n 0, 1) := by decide +kernel
theorem dX4_as_53 : decode cX4_as 53 = .ok (.getfield 29, 3) := by decide +kernel
theorem dX4_as_56 : decode cX4_as 56 = .ok (.aload_n 0, 1) := by decide +kernel
theorem dX4_as_57 : decode cX4_as 57 = .ok (.getfield 19, 3) := by decide +kernel
theorem dX4_as_60 : decode cX4_as 60 = .ok (.iload_n 1, 1) := by decide +kernel
theorem dX4_as_61 : decode cX4_as 61 = .ok (.iconst 0, 1) := by decide +kernel
theorem dX4_as_62 : decode cX4_as 62 = .ok (.invokevirtual 130, 3) := by decide +kernel
theorem dX4_as_65 : decode cX4_as 65 = .ok (.sipush 9999, 3) := by decide +kernel
theorem dX4_as_68 : decode cX4_as 68 = .ok (.iadd, 1) := by decide +kernel
theorem dX4_as_69 : decode cX4_as 69 = .ok (.ireturn, 1) := by decide +kernel
theorem dX4_day_0 : decode cX4_day 0 = .ok (.aload_n 0, 1) := by decide +kernel
theorem dX4_day_1 : decode cX4_day 1 = .ok (.getfield 29, 3) := by decide +kernel
theorem dX4_day_4 : decode cX4_day 4 = .ok (.getfield 134, 3) := by decide +kernel
theorem dX4_day_7 : decode cX4_day 7 = .ok (.sipush 999, 3) := by decide +kernel
theorem dX4_day_10 : decode cX4_day 10 = .ok (.if_icmp .lt 6, 3) := by decide +kernel
theorem dX4_day_13 : decode cX4_day 13 = .ok (.bipush (-5), 2) := by decide +kernel
theorem dX4_day_15 : decode cX4_day 15 = .ok (.ireturn, 1) := by decide +kernel
theorem dX4_day_16 : decode cX4_day 16 = .ok (.aload_n 0, 1) := by decide +kernel
theorem dX4_day_17 : decode cX4_day 17 = .ok (.invokevirtual 137, 3) := by decide +kernel
theorem dX4_day_20 : decode cX4_day 20 = .ok (.aload_n 0, 1) := by decide +kernel
theorem dX4_day_21 : decode cX4_day 21 = .ok (.getfield 29, 3) := by decide +kernel
theorem dX4_day_24 : decode cX4_day 24 = .ok (.aload_n 0, 1) := by decide +kernel
theorem dX4_day_25 : decode cX4_day 25 = .ok (.getfield 19, 3) := by decide +kernel
theorem dX4_day_28 : decode cX4_day 28 = .ok (.invokevirtual 140, 3) := by decide +kernel
theorem dX4_day_31 : decode cX4_day 31 = .ok (.aload_n 0, 1) := by decide +kernel
theorem dX4_day_32 : decode cX4_day 32 = .ok (.getfield 29, 3) := by decide +kernel
theorem dX4_day_35 : decode cX4_day 35 = .ok (.invokevirtual 143, 3) := by decide +kernel
theorem dX4_day_38 : decode cX4_day 38 = .ok (.ireturn, 1) := by decide +kernel
theorem dX4_thunder_0 : decode cX4_thunder 0 = .ok (.aload_n 0, 1) := by decide +kernel
theorem dX4_thunder_1 : decode cX4_thunder 1 = .ok (.invokevirtual 137, 3) := by decide +kernel
theorem dX4_thunder_4 : decode cX4_thunder 4 = .ok (.aload_n 0, 1) := by decide +kernel
theorem dX4_thunder_5 : decode cX4_thunder 5 = .ok (.getfield 29, 3) := by decide +kernel
theorem dX4_thunder_8 : decode cX4_thunder 8 = .ok (.getfield 147, 3) := by decide +kernel
theorem dX4_thunder_11 : decode cX4_thunder 11 = .ok (.ifCond .eq 7, 3) := by decide +kernel
theorem dX4_thunder_14 : decode cX4_thunder 14 = .ok (.iconst 1, 1) := by decide +kernel
theorem dX4_thunder_15 : decode cX4_thunder 15 = .ok (.goto 4, 3) := by decide +kernel
theorem dX4_thunder_18 : decode cX4_thunder 18 = .ok (.iconst 0, 1) := by decide +kernel
theorem dX4_thunder_19 : decode cX4_thunder 19 = .ok (.istore_n 1, 1) := by decide +kernel
theorem dX4_thunder_20 : decode cX4_thunder 20 = .ok (.aload_n 0, 1) := by decide +kernel
theorem dX4_thunder_21 : decode cX4_thunder 21 = .ok (.getfield 29, 3) := by decide +kernel
theorem dX4_thunder_24 : decode cX4_thunder 24 = .ok (.iconst 1, 1) := by decide +kernel
theorem dX4_thunder_25 : decode cX4_thunder 25 = .ok (.putfield 147, 3) := by decide +kernel
theorem dX4_thunder_28 : decode cX4_thunder 28 = .ok (.iload_n 1, 1) := by decide +kernel
theorem dX4_thunder_29 : decode cX4_thunder 29 = .ok (.ireturn, 1) := by decide +kernel
theorem dX4_straw_0 : decode cX4_straw 0 = .ok (.aload_n 0, 1) := by decide +kernel
theorem dX4_straw_1 : decode cX4_straw 1 = .ok (.iload_n 1, 1) := by decide +kernel
theorem dX4_straw_2 : decode cX4_straw 2 = .ok (.invokevirtual 86, 3) := by decide +kernel
theorem dX4_straw_5 : decode cX4_straw 5 = .ok (.ifCond .ne 6, 3) := by decide +kernel
theorem dX4_straw_8 : decode cX4_straw 8 = .ok (.bipush (-2), 2) := by decide +kernel
theorem dX4_straw_10 : decode cX4_straw 10 = .ok (.ireturn, 1) := by decide +kernel
theorem dX4_straw_11 : decode cX4_straw 11 = .ok (.iload_n 2, 1) := by decide +kernel
theorem dX4_straw_12 : decode cX4_straw 12 = .ok (.ifCond .lt 9, 3) := by decide +kernel
theorem dX4_straw_15 : decode cX4_straw 15 = .ok (.iload_n 2, 1) := by decide +kernel
theorem dX4_straw_16 : decode cX4_straw 16 = .ok (.bipush 9, 2) := by decide +kernel
theorem dX4_straw_18 : decode cX4_straw 18 = .ok (.if_icmp .le 6, 3) := by decide +kernel
theorem dX4_straw_21 : decode cX4_straw 21 = .ok (.bipush (-3), 2) := by decide +kernel
theorem dX4_straw_23 : decode cX4_straw 23 = .ok (.ireturn, 1) := by decide +kernel
theorem dX4_straw_24 : decode cX4_straw 24 = .ok (.aload_n 0, 1) := by decide +kernel
theorem dX4_straw_25 : decode cX4_straw 25 = .ok (.invokevirtual 137, 3) := by decide +kernel
theorem dX4_straw_28 : decode cX4_straw 28 = .ok (.aload_n 0, 1) := by decide +kernel
theorem dX4_straw_29 : decode cX4_straw 29 = .ok (.getfield 29, 3) := by decide +kernel
theorem dX4_straw_32 : decode cX4_straw 32 = .ok (.getfield 93, 3) := by decide +kernel
theorem dX4_straw_35 : decode cX4_straw 35 = .ok (.iload_n 1, 1) := by decide +kernel
theorem dX4_straw_36 : decode cX4_straw 36 = .ok (.iaload, 1) := by decide +kernel
theorem dX4_straw_37 : decode cX4_straw 37 = .ok (.istore_n 3, 1) := by decide +kernel
theorem dX4_straw_38 : decode cX4_straw 38 = .ok (.aload_n 0, 1) := by decide +kernel
theorem dX4_straw_39 : decode cX4_straw 39 = .ok (.getfield 29, 3) := by decide +kernel
theorem dX4_straw_42 : decode cX4_straw 42 = .ok (.getfield 93, 3) := by decide +kernel
theorem dX4_straw_45 : decode cX4_straw 45 = .ok (.iload_n 1, 1) := by decide +kernel
theorem dX4_straw_46 : decode cX4_straw 46 = .ok (.iload_n 2, 1) := by decide +kernel
theorem dX4_straw_47 : decode cX4_straw 47 = .ok (.iastore, 1) := by decide +kernel
theorem dX4_straw_48 : decode cX4_straw 48 = .ok (.iload_n 3, 1) := by decide +kernel
theorem dX4_straw_49 : decode cX4_straw 49 = .ok (.ireturn, 1) := by decide +kernel
theorem dX4_move_0 : decode cX4_move 0 = .ok (.aload_n 0, 1) := by decide +kernel
theorem dX4_move_1 : decode cX4_move 1 = .ok (.iload_n 1, 1) := by decide +kernel
theorem dX4_move_2 : decode cX4_move 2 = .ok (.invokevirtual 86, 3) := by decide +kernel
theorem dX4_move_5 : decode cX4_move 5 = .ok (.ifCond .eq 16, 3) := by decide +kernel
theorem dX4_move_8 : decode cX4_move 8 = .ok (.aload_n 0, 1) := by decide +kernel
theorem dX4_move_9 : decode cX4_move 9 = .ok (.iload_n 2, 1) := by decide +kernel
theorem dX4_move_10 : decode cX4_move 10 = .ok (.invokevirtual 86, 3) := by decide +kernel
theorem dX4_move_13 : decode cX4_move 13 = .ok (.ifCond .eq 8, 3) := by decide +kernel
theorem dX4_move_16 : decode cX4_move 16 = .ok (.iload_n 1, 1) := by decide +kernel
theorem dX4_move_17 : decode cX4_move 17 = .ok (.iload_n 2, 1) := by decide +kernel
theorem dX4_move_18 : decode cX4_move 18 = .ok (.if_icmp .ne 6, 3) := by decide +kernel
theorem dX4_move_21 : decode cX4_move 21 = .ok (.bipush (-2), 2) := by decide +kernel
theorem dX4_move_23 : decode cX4_move 23 = .ok (.ireturn, 1) := by decide +kernel
theorem dX4_move_24 : decode cX4_move 24 = .ok (.aload_n 0, 1) := by decide +kernel
theorem dX4_move_25 : decode cX4_move 25 = .ok (.invokevirtual 137, 3) := by decide +kernel
theorem dX4_move_28 : decode cX4_move 28 = .ok (.aload_n 0, 1) := by decide +kernel
theorem dX4_move_29 : decode cX4_move 29 = .ok (.getfield 29, 3) := by decide +kernel
theorem dX4_move_32 : decode cX4_move 32 = .ok (.getfield 90, 3) := by decide +kernel
theorem dX4_move_35 : decode cX4_move 35 = .ok (.iload_n 1, 1) := by decide +kernel
theorem dX4_move_36 : decode cX4_move 36 = .ok (.iaload, 1) := by decide +kernel
theorem dX4_move_37 : decode cX4_move 37 = .ok (.istore_n 3, 1) := by decide +kernel
theorem dX4_move_38 : decode cX4_move 38 = .ok (.aload_n 0, 1) := by decide +kernel
theorem dX4_move_39 : decode cX4_move 39 = .ok (.getfield 29, 3) := by decide +kernel
theorem dX4_move_42 : decode cX4_move 42 = .ok (.getfield 90, 3) := by decide +kernel
theorem dX4_move_45 : decode cX4_move 45 = .ok (.iload_n 1, 1) := by decide +kernel
theorem dX4_move_46 : decode cX4_move 46 = .ok (.aload_n 0, 1) := by decide +kernel
theorem dX4_move_47 : decode cX4_move 47 = .ok (.getfield 29, 3) := by decide +kernel
theorem dX4_move_50 : decode cX4_move 50 = .ok (.getfield 90, 3) := by decide +kernel
theorem dX4_move_53 : decode cX4_move 53 = .ok (.iload_n 2, 1) := by decide +kernel
theorem dX4_move_54 : decode cX4_move 54 = .ok (.iaload, 1) := by decide +kernel
theorem dX4_move_55 : decode cX4_move 55 = .ok (.iastore, 1) := by decide +kernel
theorem dX4_move_56 : decode cX4_move 56 = .ok (.aload_n 0, 1) := by decide +kernel
theorem dX4_move_57 : decode cX4_move 57 = .ok (.getfield 29, 3) := by decide +kernel
theorem dX4_move_60 : decode cX4_move 60 = .ok (.getfield 90, 3) := by decide +kernel
theorem dX4_move_63 : decode cX4_move 63 = .ok (.iload_n 2, 1) := by decide +kernel
theorem dX4_move_64 : decode cX4_move 64 = .ok (.iload_n 3, 1) := by decide +kernel
theorem dX4_move_65 : decode cX4_move 65 = .ok (.iastore, 1) := by decide +kernel
theorem dX4_move_66 : decode cX4_move 66 = .ok (.aload_n 0, 1) := by decide +kernel
theorem dX4_move_67 : decode cX4_move 67 = .ok (.getfield 29, 3) := by decide +kernel
theorem dX4_move_70 : decode cX4_move 70 = .ok (.getfield 90, 3) := by decide +kernel
theorem dX4_move_73 : decode cX4_move 73 = .ok (.iload_n 1, 1) := by decide +kernel
theorem dX4_move_74 : decode cX4_move 74 = .ok (.iaload, 1) := by decide +kernel
theorem dX4_move_75 : decode cX4_move 75 = .ok (.ireturn, 1) := by decide +kernel
theorem dX4_eat_0 : decode cX4_eat 0 = .ok (.aload_n 0, 1) := by decide +kernel
theorem dX4_eat_1 : decode cX4_eat 1 = .ok (.iload_n 1, 1) := by decide +kernel
theorem dX4_eat_2 : decode cX4_eat 2 = .ok (.invokevirtual 86, 3) := by decide +kernel
theorem dX4_eat_5 : decode cX4_eat 5 = .ok (.ifCond .ne 6, 3) := by decide +kernel
theorem dX4_eat_8 : decode cX4_eat 8 = .ok (.bipush (-2), 2) := by decide +kernel
theorem dX4_eat_10 : decode cX4_eat 10 = .ok (.ireturn, 1) := by decide +kernel
theorem dX4_eat_11 : decode cX4_eat 11 = .ok (.aload_n 0, 1) := by decide +kernel
theorem dX4_eat_12 : decode cX4_eat 12 = .ok (.getfield 29, 3) := by decide +kernel
theorem dX4_eat_15 : decode cX4_eat 15 = .ok (.getfield 99, 3) := by decide +kernel
theorem dX4_eat_18 : decode cX4_eat 18 = .ok (.iload_n 1, 1) := by decide +kernel
theorem dX4_eat_19 : decode cX4_eat 19 = .ok (.iaload, 1) := by decide +kernel
theorem dX4_eat_20 : decode cX4_eat 20 = .ok (.iconst (-1), 1) := by decide +kernel
theorem dX4_eat_21 : decode cX4_eat 21 = .ok (.if_icmp .ne 6, 3) := by decide +kernel
theorem dX4_eat_24 : decode cX4_eat 24 = .ok (.bipush (-4), 2) := by decide +kernel
theorem dX4_eat_26 : decode cX4_eat 26 = .ok (.ireturn, 1) := by decide +kernel
theorem dX4_eat_27 : decode cX4_eat 27 = .ok (.aload_n 0, 1) := by decide +kernel
theorem dX4_eat_28 : decode cX4_eat 28 = .ok (.invokevirtual 137, 3) := by decide +kernel
theorem dX4_eat_31 : decode cX4_eat 31 = .ok (.aload_n 0, 1) := by decide +kernel
theorem dX4_eat_32 : decode cX4_eat 32 = .ok (.getfield 29, 3) := by decide +kernel
theorem dX4_eat_35 : decode cX4_eat 35 = .ok (.getfield 99, 3) := by decide +kernel
theorem dX4_eat_38 : decode cX4_eat 38 = .ok (.iload_n 1, 1) := by decide +kernel
theorem dX4_eat_39 : decode cX4_eat 39 = .ok (.iconst (-1), 1) := by decide +kernel
theorem dX4_eat_40 : decode cX4_eat 40 = .ok (.iastore, 1) := by decide +kernel
theorem dX4_eat_41 : decode cX4_eat 41 = .ok (.aload_n 0, 1) := by decide +kernel
theorem dX4_eat_42 : decode cX4_eat 42 = .ok (.getfield 29, 3) := by decide +kernel
theorem dX4_eat_45 : decode cX4_eat 45 = .ok (.dup, 1) := by decide +kernel
theorem dX4_eat_46 : decode cX4_eat 46 = .ok (.getfield 151, 3) := by decide +kernel
theorem dX4_eat_49 : decode cX4_eat 49 = .ok (.iconst 1, 1) := by decide +kernel
theorem dX4_eat_50 : decode cX4_eat 50 = .ok (.iadd, 1) := by decide +kernel
theorem dX4_eat_51 : decode cX4_eat 51 = .ok (.putfield 151, 3) := by decide +kernel
theorem dX4_eat_54 : decode cX4_eat 54 = .ok (.aload_n 0, 1) := by decide +kernel
theorem dX4_eat_55 : decode cX4_eat 55 = .ok (.getfield 29, 3) := by decide +kernel
theorem dX4_eat_58 : decode cX4_eat 58 = .ok (.getfield 151, 3) := by decide +kernel
theorem dX4_eat_61 : decode cX4_eat 61 = .ok (.ireturn, 1) := by decide +kernel
theorem dX4_heed_0 : decode cX4_heed 0 = .ok (.aload_n 0, 1) := by decide +kernel
theorem dX4_heed_1 : decode cX4_heed 1 = .ok (.iload_n 1, 1) := by decide +kernel
theorem dX4_heed_2 : decode cX4_heed 2 = .ok (.invokevirtual 86, 3) := by decide +kernel
theorem dX4_heed_5 : decode cX4_heed 5 = .ok (.ifCond .ne 6, 3) := by decide +kernel
theorem dX4_heed_8 : decode cX4_heed 8 = .ok (.bipush (-2), 2) := by decide +kernel
theorem dX4_heed_10 : decode cX4_heed 10 = .ok (.ireturn, 1) := by decide +kernel
theorem dX4_heed_11 : decode cX4_heed 11 = .ok (.aload_n 0, 1) := by decide +kernel
theorem dX4_heed_12 : decode cX4_heed 12 = .ok (.getfield 29, 3) := by decide +kernel
theorem dX4_heed_15 : decode cX4_heed 15 = .ok (.getfield 99, 3) := by decide +kernel
theorem dX4_heed_18 : decode cX4_heed 18 = .ok (.iload_n 1, 1) := by decide +kernel
theorem dX4_heed_19 : decode cX4_heed 19 = .ok (.iaload, 1) := by decide +kernel
theorem dX4_heed_20 : decode cX4_heed 20 = .ok (.iconst (-1), 1) := by decide +kernel
theorem dX4_heed_21 : decode cX4_heed 21 = .ok (.if_icmp .ne 6, 3) := by decide +kernel
theorem dX4_heed_24 : decode cX4_heed 24 = .ok (.bipush (-4), 2) := by decide +kernel
theorem dX4_heed_26 : decode cX4_heed 26 = .ok (.ireturn, 1) := by decide +kernel
theorem dX4_heed_27 : decode cX4_heed 27 = .ok (.aload_n 0, 1) := by decide +kernel
theorem dX4_heed_28 : decode cX4_heed 28 = .ok (.invokevirtual 137, 3) := by decide +kernel
theorem dX4_heed_31 : decode cX4_heed 31 = .ok (.aload_n 0, 1) := by decide +kernel
theorem dX4_heed_32 : decode cX4_heed 32 = .ok (.getfield 29, 3) := by decide +kernel
theorem dX4_heed_35 : decode cX4_heed 35 = .ok (.getfield 99, 3) := by decide +kernel
theorem dX4_heed_38 : decode cX4_heed 38 = .ok (.iload_n 1, 1) := by decide +kernel
theorem dX4_heed_39 : decode cX4_heed 39 = .ok (.iconst (-1), 1) := by decide +kernel
theorem dX4_heed_40 : decode cX4_heed 40 = .ok (.iastore, 1) := by decide +kernel
theorem dX4_heed_41 : decode cX4_heed 41 = .ok (.aload_n 0, 1) := by decide +kernel
theorem dX4_heed_42 : decode cX4_heed 42 = .ok (.getfield 29, 3) := by decide +kernel
theorem dX4_heed_45 : decode cX4_heed 45 = .ok (.dup, 1) := by decide +kernel
theorem dX4_heed_46 : decode cX4_heed 46 = .ok (.getfield 154, 3) := by decide +kernel
theorem dX4_heed_49 : decode cX4_heed 49 = .ok (.iconst 1, 1) := by decide +kernel
theorem dX4_heed_50 : decode cX4_heed 50 = .ok (.iadd, 1) := by decide +kernel
theorem dX4_heed_51 : decode cX4_heed 51 = .ok (.putfield 154, 3) := by decide +kernel
theorem dX4_heed_54 : decode cX4_heed 54 = .ok (.aload_n 0, 1) := by decide +kernel
theorem dX4_heed_55 : decode cX4_heed 55 = .ok (.getfield 29, 3) := by decide +kernel
theorem dX4_heed_58 : decode cX4_heed 58 = .ok (.dup, 1) := by decide +kernel
theorem dX4_heed_59 : decode cX4_heed 59 = .ok (.getfield 157, 3) := by decide +kernel
theorem dX4_heed_62 : decode cX4_heed 62 = .ok (.aload_n 0, 1) := by decide +kernel
theorem dX4_heed_63 : decode cX4_heed 63 = .ok (.getfield 29, 3) := by decide +kernel
theorem dX4_heed_66 : decode cX4_heed 66 = .ok (.getfield 160, 3) := by decide +kernel
theorem dX4_heed_69 : decode cX4_heed 69 = .ok (.iload_n 1, 1) := by decide +kernel
theorem dX4_heed_70 : decode cX4_heed 70 = .ok (.iaload, 1) := by decide +kernel
theorem dX4_heed_71 : decode cX4_heed 71 = .ok (.iadd, 1) := by decide +kernel
theorem dX4_heed_72 : decode cX4_heed 72 = .ok (.putfield 157, 3) := by decide +kernel
theorem dX4_heed_75 : decode cX4_heed 75 = .ok (.aload_n 0, 1) := by decide +kernel
theorem dX4_heed_76 : decode cX4_heed 76 = .ok (.getfield 29, 3) := by decide +kernel
theorem dX4_heed_79 : decode cX4_heed 79 = .ok (.getfield 157, 3) := by decide +kernel
theorem dX4_heed_82 : decode cX4_heed 82 = .ok (.sipush 9999, 3) := by decide +kernel
theorem dX4_heed_85 : decode cX4_heed 85 = .ok (.iadd, 1) := by decide +kernel
theorem dX4_heed_86 : decode cX4_heed 86 = .ok (.ireturn, 1) := by decide +kernel
theorem dX4_undo_0 : decode cX4_undo 0 = .ok (.aload_n 0, 1) := by decide +kernel
theorem dX4_undo_1 : decode cX4_undo 1 = .ok (.getfield 80, 3) := by decide +kernel
theorem dX4_undo_4 : decode cX4_undo 4 = .ok (.ifCond .le 12, 3) := by decide +kernel
theorem dX4_undo_7 : decode cX4_undo 7 = .ok (.aload_n 0, 1) := by decide +kernel
theorem dX4_undo_8 : decode cX4_undo 8 = .ok (.getfield 80, 3) := by decide +kernel
theorem dX4_undo_11 : decode cX4_undo 11 = .ok (.bipush 8, 2) := by decide +kernel
theorem dX4_undo_13 : decode cX4_undo 13 = .ok (.if_icmp .le 6, 3) := by decide +kernel
theorem dX4_undo_16 : decode cX4_undo 16 = .ok (.bipush (-4), 2) := by decide +kernel
theorem dX4_undo_18 : decode cX4_undo 18 = .ok (.ireturn, 1) := by decide +kernel
theorem dX4_undo_19 : decode cX4_undo 19 = .ok (.aload_n 0, 1) := by decide +kernel
theorem dX4_undo_20 : decode cX4_undo 20 = .ok (.dup, 1) := by decide +kernel
theorem dX4_undo_21 : decode cX4_undo 21 = .ok (.getfield 80, 3) := by decide +kernel
theorem dX4_undo_24 : decode cX4_undo 24 = .ok (.iconst 1, 1) := by decide +kernel
theorem dX4_undo_25 : decode cX4_undo 25 = .ok (.isub, 1) := by decide +kernel
theorem dX4_undo_26 : decode cX4_undo 26 = .ok (.putfield 80, 3) := by decide +kernel
theorem dX4_undo_29 : decode cX4_undo 29 = .ok (.aload_n 0, 1) := by decide +kernel
theorem dX4_undo_30 : decode cX4_undo 30 = .ok (.getfield 29, 3) := by decide +kernel
theorem dX4_undo_33 : decode cX4_undo 33 = .ok (.aload_n 0, 1) := by decide +kernel
theorem dX4_undo_34 : decode cX4_undo 34 = .ok (.getfield 36, 3) := by decide +kernel
theorem dX4_undo_37 : decode cX4_undo 37 = .ok (.aload_n 0, 1) := by decide +kernel
theorem dX4_undo_38 : decode cX4_undo 38 = .ok (.getfield 80, 3) := by decide +kernel
theorem dX4_undo_41 : decode cX4_undo 41 = .ok (.aaload, 1) := by decide +kernel
theorem dX4_undo_42 : decode cX4_undo 42 = .ok (.invokevirtual 163, 3) := by decide +kernel
theorem dX4_undo_45 : decode cX4_undo 45 = .ok (.aload_n 0, 1) := by decide +kernel
theorem dX4_undo_46 : decode cX4_undo 46 = .ok (.getfield 80, 3) := by decide +kernel
theorem dX4_undo_49 : decode cX4_undo 49 = .ok (.ireturn, 1) := by decide +kernel
theorem dX4_keep_0 : decode cX4_keep 0 = .ok (.iload_n 1, 1) := by decide +kernel
theorem dX4_keep_1 : decode cX4_keep 1 = .ok (.ifCond .lt 8, 3) := by decide +kernel
theorem dX4_keep_4 : decode cX4_keep 4 = .ok (.iload_n 1, 1) := by decide +kernel
theorem dX4_keep_5 : decode cX4_keep 5 = .ok (.iconst 2, 1) := by decide +kernel
theorem dX4_keep_6 : decode cX4_keep 6 = .ok (.if_icmp .lt 6, 3) := by decide +kernel
theorem dX4_keep_9 : decode cX4_keep 9 = .ok (.bipush (-2), 2) := by decide +kernel
theorem dX4_keep_11 : decode cX4_keep 11 = .ok (.ireturn, 1) := by decide +kernel
theorem dX4_keep_12 : decode cX4_keep 12 = .ok (.aload_n 0, 1) := by decide +kernel
theorem dX4_keep_13 : decode cX4_keep 13 = .ok (.getfield 40, 3) := by decide +kernel
theorem dX4_keep_16 : decode cX4_keep 16 = .ok (.iload_n 1, 1) := by decide +kernel
theorem dX4_keep_17 : decode cX4_keep 17 = .ok (.aaload, 1) := by decide +kernel
theorem dX4_keep_18 : decode cX4_keep 18 = .ok (.aload_n 0, 1) := by decide +kernel
theorem dX4_keep_19 : decode cX4_keep 19 = .ok (.getfield 29, 3) := by decide +kernel
theorem dX4_keep_22 : decode cX4_keep 22 = .ok (.invokevirtual 163, 3) := by decide +kernel
theorem dX4_keep_25 : decode cX4_keep 25 = .ok (.aload_n 0, 1) := by decide +kernel
theorem dX4_keep_26 : decode cX4_keep 26 = .ok (.getfield 43, 3) := by decide +kernel
theorem dX4_keep_29 : decode cX4_keep 29 = .ok (.iload_n 1, 1) := by decide +kernel
theorem dX4_keep_30 : decode cX4_keep 30 = .ok (.iconst 1, 1) := by decide +kernel
theorem dX4_keep_31 : decode cX4_keep 31 = .ok (.bastore, 1) := by decide +kernel
theorem dX4_keep_32 : decode cX4_keep 32 = .ok (.aload_n 0, 1) := by decide +kernel
theorem dX4_keep_33 : decode cX4_keep 33 = .ok (.getfield 29, 3) := by decide +kernel
theorem dX4_keep_36 : decode cX4_keep 36 = .ok (.getfield 134, 3) := by decide +kernel
theorem dX4_keep_39 : decode cX4_keep 39 = .ok (.ireturn, 1) := by decide +kernel
theorem dX4_back_0 : decode cX4_back 0 = .ok (.iload_n 1, 1) := by decide +kernel
theorem dX4_back_1 : decode cX4_back 1 = .ok (.ifCond .lt 8, 3) := by decide +kernel
theorem dX4_back_4 : decode cX4_back 4 = .ok (.iload_n 1, 1) := by decide +kernel
theorem dX4_back_5 : decode cX4_back 5 = .ok (.iconst 2, 1) := by decide +kernel
theorem dX4_back_6 : decode cX4_back 6 = .ok (.if_icmp .lt 6, 3) := by decide +kernel
theorem dX4_back_9 : decode cX4_back 9 = .ok (.bipush (-2), 2) := by decide +kernel
theorem dX4_back_11 : decode cX4_back 11 = .ok (.ireturn, 1) := by decide +kernel
theorem dX4_back_12 : decode cX4_back 12 = .ok (.aload_n 0, 1) := by decide +kernel
theorem dX4_back_13 : decode cX4_back 13 = .ok (.getfield 43, 3) := by decide +kernel
theorem dX4_back_16 : decode cX4_back 16 = .ok (.iload_n 1, 1) := by decide +kernel
theorem dX4_back_17 : decode cX4_back 17 = .ok (.baload, 1) := by decide +kernel
theorem dX4_back_18 : decode cX4_back 18 = .ok (.ifCond .ne 6, 3) := by decide +kernel
theorem dX4_back_21 : decode cX4_back 21 = .ok (.bipush (-4), 2) := by decide +kernel
theorem dX4_back_23 : decode cX4_back 23 = .ok (.ireturn, 1) := by decide +kernel
theorem dX4_back_24 : decode cX4_back 24 = .ok (.aload_n 0, 1) := by decide +kernel
theorem dX4_back_25 : decode cX4_back 25 = .ok (.getfield 29, 3) := by decide +kernel
theorem dX4_back_28 : decode cX4_back 28 = .ok (.aload_n 0, 1) := by decide +kernel
theorem dX4_back_29 : decode cX4_back 29 = .ok (.getfield 40, 3) := by decide +kernel
theorem dX4_back_32 : decode cX4_back 32 = .ok (.iload_n 1, 1) := by decide +kernel
theorem dX4_back_33 : decode cX4_back 33 = .ok (.aaload, 1) := by decide +kernel
theorem dX4_back_34 : decode cX4_back 34 = .ok (.invokevirtual 163, 3) := by decide +kernel
theorem dX4_back_37 : decode cX4_back 37 = .ok (.aload_n 0, 1) := by decide +kernel
theorem dX4_back_38 : decode cX4_back 38 = .ok (.iconst 0, 1) := by decide +kernel
theorem dX4_back_39 : decode cX4_back 39 = .ok (.putfield 80, 3) := by decide +kernel
theorem dX4_back_42 : decode cX4_back 42 = .ok (.aload_n 0, 1) := by decide +kernel
theorem dX4_back_43 : decode cX4_back 43 = .ok (.getfield 29, 3) := by decide +kernel
theorem dX4_back_46 : decode cX4_back 46 = .ok (.getfield 134, 3) := by decide +kernel
theorem dX4_back_49 : decode cX4_back 49 = .ok (.ireturn, 1) := by decide +kernel
theorem dX4_lays_0 : decode cX4_lays 0 = .ok (.aload_n 0, 1) := by decide +kernel
theorem dX4_lays_1 : decode cX4_lays 1 = .ok (.iload_n 1, 1) := by decide +kernel
theorem dX4_lays_2 : decode cX4_lays 2 = .ok (.invokevirtual 102, 3) := by decide +kernel
theorem dX4_lays_5 : decode cX4_lays 5 = .ok (.ifCond .ne 6, 3) := by decide +kernel
theorem dX4_lays_8 : decode cX4_lays 8 = .ok (.bipush (-2), 2) := by decide +kernel
theorem dX4_lays_10 : decode cX4_lays 10 = .ok (.ireturn, 1) := by decide +kernel
theorem dX4_lays_11 : decode cX4_lays 11 = .ok (.iload_n 2, 1) := by decide +kernel
theorem dX4_lays_12 : decode cX4_lays 12 = .ok (.iconst 1, 1) := by decide +kernel
theorem dX4_lays_13 : decode cX4_lays 13 = .ok (.if_icmp .lt 9, 3) := by decide +kernel
theorem dX4_lays_16 : decode cX4_lays 16 = .ok (.iload_n 2, 1) := by decide +kernel
theorem dX4_lays_17 : decode cX4_lays 17 = .ok (.bipush 30, 2) := by decide +kernel
theorem dX4_lays_19 : decode cX4_lays 19 = .ok (.if_icmp .le 6, 3) := by decide +kernel
theorem dX4_lays_22 : decode cX4_lays 22 = .ok (.bipush (-3), 2) := by decide +kernel
theorem dX4_lays_24 : decode cX4_lays 24 = .ok (.ireturn, 1) := by decide +kernel
theorem dX4_lays_25 : decode cX4_lays 25 = .ok (.aload_n 0, 1) := by decide +kernel
theorem dX4_lays_26 : decode cX4_lays 26 = .ok (.iload_n 2, 1) := by decide +kernel
theorem dX4_lays_27 : decode cX4_lays 27 = .ok (.invokevirtual 166, 3) := by decide +kernel
theorem dX4_lays_30 : decode cX4_lays 30 = .ok (.aload_n 0, 1) := by decide +kernel
theorem dX4_lays_31 : decode cX4_lays 31 = .ok (.getfield 33, 3) := by decide +kernel
theorem dX4_lays_34 : decode cX4_lays 34 = .ok (.iload_n 1, 1) := by decide +kernel
theorem dX4_lays_35 : decode cX4_lays 35 = .ok (.invokevirtual 170, 3) := by decide +kernel
theorem dX4_lays_38 : decode cX4_lays 38 = .ok (.ireturn, 1) := by decide +kernel
theorem dX4_rights_0 : decode cX4_rights 0 = .ok (.aload_n 0, 1) := by decide +kernel
theorem dX4_rights_1 : decode cX4_rights 1 = .ok (.iload_n 1, 1) := by decide +kernel
theorem dX4_rights_2 : decode cX4_rights 2 = .ok (.invokevirtual 102, 3) := by decide +kernel
theorem dX4_rights_5 : decode cX4_rights 5 = .ok (.ifCond .ne 6, 3) := by decide +kernel
theorem dX4_rights_8 : decode cX4_rights 8 = .ok (.bipush (-2), 2) := by decide +kernel
theorem dX4_rights_10 : decode cX4_rights 10 = .ok (.ireturn, 1) := by decide +kernel
theorem dX4_rights_11 : decode cX4_rights 11 = .ok (.iload_n 2, 1) := by decide +kernel
theorem dX4_rights_12 : decode cX4_rights 12 = .ok (.ifCond .lt 9, 3) := by decide +kernel
theorem dX4_rights_15 : decode cX4_rights 15 = .ok (.iload_n 2, 1) := by decide +kernel
theorem dX4_rights_16 : decode cX4_rights 16 = .ok (.bipush 30, 2) := by decide +kernel
theorem dX4_rights_18 : decode cX4_rights 18 = .ok (.if_icmp .le 6, 3) := by decide +kernel
theorem dX4_rights_21 : decode cX4_rights 21 = .ok (.bipush (-3), 2) := by decide +kernel
theorem dX4_rights_23 : decode cX4_rights 23 = .ok (.ireturn, 1) := by decide +kernel
theorem dX4_rights_24 : decode cX4_rights 24 = .ok (.aload_n 0, 1) := by decide +kernel
theorem dX4_rights_25 : decode cX4_rights 25 = .ok (.iload_n 2, 1) := by decide +kernel
theorem dX4_rights_26 : decode cX4_rights 26 = .ok (.invokevirtual 166, 3) := by decide +kernel
theorem dX4_rights_29 : decode cX4_rights 29 = .ok (.aload_n 0, 1) := by decide +kernel
theorem dX4_rights_30 : decode cX4_rights 30 = .ok (.iload_n 1, 1) := by decide +kernel
theorem dX4_rights_31 : decode cX4_rights 31 = .ok (.invokevirtual 174, 3) := by decide +kernel
theorem dX4_rights_34 : decode cX4_rights 34 = .ok (.ireturn, 1) := by decide +kernel
theorem dX4_ask_0 : decode cX4_ask 0 = .ok (.iload_n 1, 1) := by decide +kernel
theorem dX4_ask_1 : decode cX4_ask 1 = .ok (.ifCond .lt 18, 3) := by decide +kernel
theorem dX4_ask_4 : decode cX4_ask 4 = .ok (.iload_n 1, 1) := by decide +kernel
theorem dX4_ask_5 : decode cX4_ask 5 = .ok (.bipush 30, 2) := by decide +kernel
theorem dX4_ask_7 : decode cX4_ask 7 = .ok (.if_icmp .gt 12, 3) := by decide +kernel
theorem dX4_ask_10 : decode cX4_ask 10 = .ok (.iload_n 2, 1) := by decide +kernel
theorem dX4_ask_11 : decode cX4_ask 11 = .ok (.ifCond .lt 8, 3) := by decide +kernel
theorem dX4_ask_14 : decode cX4_ask 14 = .ok (.iload_n 2, 1) := by decide +kernel
theorem dX4_ask_15 : decode cX4_ask 15 = .ok (.iconst 1, 1) := by decide +kernel
theorem dX4_ask_16 : decode cX4_ask 16 = .ok (.if_icmp .le 6, 3) := by decide +kernel
theorem dX4_ask_19 : decode cX4_ask 19 = .ok (.bipush (-3), 2) := by decide +kernel
theorem dX4_ask_21 : decode cX4_ask 21 = .ok (.ireturn, 1) := by decide +kernel
theorem dX4_ask_22 : decode cX4_ask 22 = .ok (.aload_n 0, 1) := by decide +kernel
theorem dX4_ask_23 : decode cX4_ask 23 = .ok (.iload_n 1, 1) := by decide +kernel
theorem dX4_ask_24 : decode cX4_ask 24 = .ok (.invokevirtual 166, 3) := by decide +kernel
theorem dX4_ask_27 : decode cX4_ask 27 = .ok (.iconst (-1), 1) := by decide +kernel
theorem dX4_ask_28 : decode cX4_ask 28 = .ok (.istore_n 3, 1) := by decide +kernel
theorem dX4_ask_29 : decode cX4_ask 29 = .ok (.iconst (-1), 1) := by decide +kernel
theorem dX4_ask_30 : decode cX4_ask 30 = .ok (.istore 4, 2) := by decide +kernel
theorem dX4_ask_32 : decode cX4_ask 32 = .ok (.iconst 0, 1) := by decide +kernel
theorem dX4_ask_33 : decode cX4_ask 33 = .ok (.istore 5, 2) := by decide +kernel
theorem dX4_ask_35 : decode cX4_ask 35 = .ok (.iload 5, 2) := by decide +kernel
theorem dX4_ask_37 : decode cX4_ask 37 = .ok (.aload_n 0, 1) := by decide +kernel
theorem dX4_ask_38 : decode cX4_ask 38 = .ok (.getfield 19, 3) := by decide +kernel
theorem dX4_ask_41 : decode cX4_ask 41 = .ok (.getfield 177, 3) := by decide +kernel
theorem dX4_ask_44 : decode cX4_ask 44 = .ok (.if_icmp .ge 31, 3) := by decide +kernel
theorem dX4_ask_47 : decode cX4_ask 47 = .ok (.aload_n 0, 1) := by decide +kernel
theorem dX4_ask_48 : decode cX4_ask 48 = .ok (.iload 5, 2) := by decide +kernel
theorem dX4_ask_50 : decode cX4_ask 50 = .ok (.invokevirtual 174, 3) := by decide +kernel
theorem dX4_ask_53 : decode cX4_ask 53 = .ok (.iload 4, 2) := by decide +kernel
theorem dX4_ask_55 : decode cX4_ask 55 = .ok (.if_icmp .le 14, 3) := by decide +kernel
theorem dX4_ask_58 : decode cX4_ask 58 = .ok (.aload_n 0, 1) := by decide +kernel
theorem dX4_ask_59 : decode cX4_ask 59 = .ok (.iload 5, 2) := by decide +kernel
theorem dX4_ask_61 : decode cX4_ask 61 = .ok (.invokevirtual 174, 3) := by decide +kernel
theorem dX4_ask_64 : decode cX4_ask 64 = .ok (.istore 4, 2) := by decide +kernel
theorem dX4_ask_66 : decode cX4_ask 66 = .ok (.iload 5, 2) := by decide +kernel
theorem dX4_ask_68 : decode cX4_ask 68 = .ok (.istore_n 3, 1) := by decide +kernel
theorem dX4_ask_69 : decode cX4_ask 69 = .ok (.iinc 5 1, 3) := by decide +kernel
theorem dX4_ask_72 : decode cX4_ask 72 = .ok (.goto (-37), 3) := by decide +kernel
theorem dX4_ask_75 : decode cX4_ask 75 = .ok (.iload_n 2, 1) := by decide +kernel
theorem dX4_ask_76 : decode cX4_ask 76 = .ok (.ifCond .ne 7, 3) := by decide +kernel
theorem dX4_ask_79 : decode cX4_ask 79 = .ok (.iload_n 3, 1) := by decide +kernel
theorem dX4_ask_80 : decode cX4_ask 80 = .ok (.goto 5, 3) := by decide +kernel
theorem dX4_ask_83 : decode cX4_ask 83 = .ok (.iload 4, 2) := by decide +kernel
theorem dX4_ask_85 : decode cX4_ask 85 = .ok (.ireturn, 1) := by decide +kernel
theorem dX4_trough_0 : decode cX4_trough 0 = .ok (.iload_n 1, 1) := by decide +kernel
theorem dX4_trough_1 : decode cX4_trough 1 = .ok (.iconst 1, 1) := by decide +kernel
theorem dX4_trough_2 : decode cX4_trough 2 = .ok (.if_icmp .lt 9, 3) := by decide +kernel
theorem dX4_trough_5 : decode cX4_trough 5 = .ok (.iload_n 1, 1) := by decide +kernel
theorem dX4_trough_6 : decode cX4_trough 6 = .ok (.bipush 20, 2) := by decide +kernel
theorem dX4_trough_8 : decode cX4_trough 8 = .ok (.if_icmp .le 6, 3) := by decide +kernel
theorem dX4_trough_11 : decode cX4_trough 11 = .ok (.bipush (-3), 2) := by decide +kernel
theorem dX4_trough_13 : decode cX4_trough 13 = .ok (.ireturn, 1) := by decide +kernel
theorem dX4_trough_14 : decode cX4_trough 14 = .ok (.aload_n 0, 1) := by decide +kernel
theorem dX4_trough_15 : decode cX4_trough 15 = .ok (.iload_n 1, 1) := by decide +kernel
theorem dX4_trough_16 : decode cX4_trough 16 = .ok (.invokevirtual 180, 3) := by decide +kernel
theorem dX4_trough_19 : decode cX4_trough 19 = .ok (.iconst (-1), 1) := by decide +kernel
theorem dX4_trough_20 : decode cX4_trough 20 = .ok (.istore_n 2, 1) := by decide +kernel
theorem dX4_trough_21 : decode cX4_trough 21 = .ok (.iconst 0, 1) := by decide +kernel
theorem dX4_trough_22 : decode cX4_trough 22 = .ok (.istore_n 3, 1) := by decide +kernel
theorem dX4_trough_23 : decode cX4_trough 23 = .ok (.iconst 0, 1) := by decide +kernel
theorem dX4_trough_24 : decode cX4_trough 24 = .ok (.istore 4, 2) := by decide +kernel
theorem dX4_trough_26 : decode cX4_trough 26 = .ok (.iload 4, 2) := by decide +kernel
theorem dX4_trough_28 : decode cX4_trough 28 = .ok (.aload_n 0, 1) := by decide +kernel
theorem dX4_trough_29 : decode cX4_trough 29 = .ok (.getfield 19, 3) := by decide +kernel
theorem dX4_trough_32 : decode cX4_trough 32 = .ok (.getfield 127, 3) := by decide +kernel
theorem dX4_trough_35 : decode cX4_trough 35 = .ok (.if_icmp .ge 61, 3) := by decide +kernel
theorem dX4_trough_38 : decode cX4_trough 38 = .ok (.iload 4, 2) := by decide +kernel
theorem dX4_trough_40 : decode cX4_trough 40 = .ok (.iconst 1, 1) := by decide +kernel
theorem dX4_trough_41 : decode cX4_trough 41 = .ok (.iadd, 1) := by decide +kernel
theorem dX4_trough_42 : decode cX4_trough 42 = .ok (.istore 5, 2) := by decide +kernel
theorem dX4_trough_44 : decode cX4_trough 44 = .ok (.iload 5, 2) := by decide +kernel
theorem dX4_trough_46 : decode cX4_trough 46 = .ok (.aload_n 0, 1) := by decide +kernel
theorem dX4_trough_47 : decode cX4_trough 47 = .ok (.getfield 19, 3) := by decide +kernel
theorem dX4_trough_50 : decode cX4_trough 50 = .ok (.getfield 127, 3) := by decide +kernel
theorem dX4_trough_53 : decode cX4_trough 53 = .ok (.if_icmp .ge 37, 3) := by decide +kernel
theorem dX4_trough_56 : decode cX4_trough 56 = .ok (.aload_n 0, 1) := by decide +kernel
theorem dX4_trough_57 : decode cX4_trough 57 = .ok (.iload 4, 2) := by decide +kernel
theorem dX4_trough_59 : decode cX4_trough 59 = .ok (.iload 5, 2) := by decide +kernel
theorem dX4_trough_61 : decode cX4_trough 61 = .ok (.invokevirtual 183, 3) := by decide +kernel
theorem dX4_trough_64 : decode cX4_trough 64 = .ok (.istore 6, 2) := by decide +kernel
theorem dX4_trough_66 : decode cX4_trough 66 = .ok (.iload 6, 2) := by decide +kernel
theorem dX4_trough_68 : decode cX4_trough 68 = .ok (.iload_n 3, 1) := by decide +kernel
theorem dX4_trough_69 : decode cX4_trough 69 = .ok (.if_icmp .le 15, 3) := by decide +kernel
theorem dX4_trough_72 : decode cX4_trough 72 = .ok (.iload 6, 2) := by decide +kernel
theorem dX4_trough_74 : decode cX4_trough 74 = .ok (.istore_n 3, 1) := by decide +kernel
theorem dX4_trough_75 : decode cX4_trough 75 = .ok (.bipush 10, 2) := by decide +kernel
theorem dX4_trough_77 : decode cX4_trough 77 = .ok (.iload 4, 2) := by decide +kernel
theorem dX4_trough_79 : decode cX4_trough 79 = .ok (.imul, 1) := by decide +kernel
theorem dX4_trough_80 : decode cX4_trough 80 = .ok (.iload 5, 2) := by decide +kernel
theorem dX4_trough_82 : decode cX4_trough 82 = .ok (.iadd, 1) := by decide +kernel
theorem dX4_trough_83 : decode cX4_trough 83 = .ok (.istore_n 2, 1) := by decide +kernel
theorem dX4_trough_84 : decode cX4_trough 84 = .ok (.iinc 5 1, 3) := by decide +kernel
theorem dX4_trough_87 : decode cX4_trough 87 = .ok (.goto (-43), 3) := by decide +kernel
theorem dX4_trough_90 : decode cX4_trough 90 = .ok (.iinc 4 1, 3) := by decide +kernel
theorem dX4_trough_93 : decode cX4_trough 93 = .ok (.goto (-67), 3) := by decide +kernel
theorem dX4_trough_96 : decode cX4_trough 96 = .ok (.iload_n 2, 1) := by decide +kernel
theorem dX4_trough_97 : decode cX4_trough 97 = .ok (.ireturn, 1) := by decide +kernel
theorem dX4_warmth_0 : decode cX4_warmth 0 = .ok (.aload_n 0, 1) := by decide +kernel
theorem dX4_warmth_1 : decode cX4_warmth 1 = .ok (.iload_n 1, 1) := by decide +kernel
theorem dX4_warmth_2 : decode cX4_warmth 2 = .ok (.invokevirtual 102, 3) := by decide +kernel
theorem dX4_warmth_5 : decode cX4_warmth 5 = .ok (.ifCond .eq 11, 3) := by decide +kernel
theorem dX4_warmth_8 : decode cX4_warmth 8 = .ok (.aload_n 0, 1) := by decide +kernel
theorem dX4_warmth_9 : decode cX4_warmth 9 = .ok (.iload_n 2, 1) := by decide +kernel
theorem dX4_warmth_10 : decode cX4_warmth 10 = .ok (.invokevirtual 86, 3) := by decide +kernel
theorem dX4_warmth_13 : decode cX4_warmth 13 = .ok (.ifCond .ne 6, 3) := by decide +kernel
theorem dX4_warmth_16 : decode cX4_warmth 16 = .ok (.bipush (-2), 2) := by decide +kernel
theorem dX4_warmth_18 : decode cX4_warmth 18 = .ok (.ireturn, 1) := by decide +kernel
theorem dX4_warmth_19 : decode cX4_warmth 19 = .ok (.iconst 0, 1) := by decide +kernel
theorem dX4_warmth_20 : decode cX4_warmth 20 = .ok (.istore_n 3, 1) := by decide +kernel
theorem dX4_warmth_21 : decode cX4_warmth 21 = .ok (.iload_n 3, 1) := by decide +kernel
theorem dX4_warmth_22 : decode cX4_warmth 22 = .ok (.bipush 9, 2) := by decide +kernel
theorem dX4_warmth_24 : decode cX4_warmth 24 = .ok (.if_icmp .gt 56, 3) := by decide +kernel
theorem dX4_warmth_27 : decode cX4_warmth 27 = .ok (.aload_n 0, 1) := by decide +kernel
theorem dX4_warmth_28 : decode cX4_warmth 28 = .ok (.getfield 33, 3) := by decide +kernel
theorem dX4_warmth_31 : decode cX4_warmth 31 = .ok (.aload_n 0, 1) := by decide +kernel
theorem dX4_warmth_32 : decode cX4_warmth 32 = .ok (.getfield 29, 3) := by decide +kernel
theorem dX4_warmth_35 : decode cX4_warmth 35 = .ok (.invokevirtual 163, 3) := by decide +kernel
theorem dX4_warmth_38 : decode cX4_warmth 38 = .ok (.aload_n 0, 1) := by decide +kernel
theorem dX4_warmth_39 : decode cX4_warmth 39 = .ok (.getfield 33, 3) := by decide +kernel
theorem dX4_warmth_42 : decode cX4_warmth 42 = .ok (.getfield 93, 3) := by decide +kernel
theorem dX4_warmth_45 : decode cX4_warmth 45 = .ok (.iload_n 2, 1) := by decide +kernel
theorem dX4_warmth_46 : decode cX4_warmth 46 = .ok (.iload_n 3, 1) := by decide +kernel
theorem dX4_warmth_47 : decode cX4_warmth 47 = .ok (.iastore, 1) := by decide +kernel
theorem dX4_warmth_48 : decode cX4_warmth 48 = .ok (.aload_n 0, 1) := by decide +kernel
theorem dX4_warmth_49 : decode cX4_warmth 49 = .ok (.getfield 33, 3) := by decide +kernel
theorem dX4_warmth_52 : decode cX4_warmth 52 = .ok (.aload_n 0, 1) := by decide +kernel
theorem dX4_warmth_53 : decode cX4_warmth 53 = .ok (.getfield 19, 3) := by decide +kernel
theorem dX4_warmth_56 : decode cX4_warmth 56 = .ok (.invokevirtual 140, 3) := by decide +kernel
theorem dX4_warmth_59 : decode cX4_warmth 59 = .ok (.aload_n 0, 1) := by decide +kernel
theorem dX4_warmth_60 : decode cX4_warmth 60 = .ok (.getfield 33, 3) := by decide +kernel
theorem dX4_warmth_63 : decode cX4_warmth 63 = .ok (.getfield 99, 3) := by decide +kernel
theorem dX4_warmth_66 : decode cX4_warmth 66 = .ok (.iload_n 2, 1) := by decide +kernel
theorem dX4_warmth_67 : decode cX4_warmth 67 = .ok (.iaload, 1) := by decide +kernel
theorem dX4_warmth_68 : decode cX4_warmth 68 = .ok (.iload_n 1, 1) := by decide +kernel
theorem dX4_warmth_69 : decode cX4_warmth 69 = .ok (.if_icmp .ne 5, 3) := by decide +kernel
theorem dX4_warmth_72 : decode cX4_warmth 72 = .ok (.iload_n 3, 1) := by decide +kernel
theorem dX4_warmth_73 : decode cX4_warmth 73 = .ok (.ireturn, 1) := by decide +kernel
theorem dX4_warmth_74 : decode cX4_warmth 74 = .ok (.iinc 3 1, 3) := by decide +kernel
theorem dX4_warmth_77 : decode cX4_warmth 77 = .ok (.goto (-56), 3) := by decide +kernel
theorem dX4_warmth_80 : decode cX4_warmth 80 = .ok (.iconst (-1), 1) := by decide +kernel
theorem dX4_warmth_81 : decode cX4_warmth 81 = .ok (.ireturn, 1) := by decide +kernel
theorem dX4_seen_0 : decode cX4_seen 0 = .ok (.aload_n 0, 1) := by decide +kernel
theorem dX4_seen_1 : decode cX4_seen 1 = .ok (.iload_n 1, 1) := by decide +kernel
theorem dX4_seen_2 : decode cX4_seen 2 = .ok (.invokevirtual 102, 3) := by decide +kernel
theorem dX4_seen_5 : decode cX4_seen 5 = .ok (.ifCond .eq 16, 3) := by decide +kernel
theorem dX4_seen_8 : decode cX4_seen 8 = .ok (.iload_n 3, 1) := by decide +kernel
theorem dX4_seen_9 : decode cX4_seen 9 = .ok (.iconst (-1), 1) := by decide +kernel
theorem dX4_seen_10 : decode cX4_seen 10 = .ok (.if_icmp .eq 14, 3) := by decide +kernel
theorem dX4_seen_13 : decode cX4_seen 13 = .ok (.aload_n 0, 1) := by decide +kernel
theorem dX4_seen_14 : decode cX4_seen 14 = .ok (.iload_n 3, 1) := by decide +kernel
theorem dX4_seen_15 : decode cX4_seen 15 = .ok (.invokevirtual 86, 3) := by decide +kernel
theorem dX4_seen_18 : decode cX4_seen 18 = .ok (.ifCond .ne 6, 3) := by decide +kernel
theorem dX4_seen_21 : decode cX4_seen 21 = .ok (.bipush (-2), 2) := by decide +kernel
theorem dX4_seen_23 : decode cX4_seen 23 = .ok (.ireturn, 1) := by decide +kernel
theorem dX4_seen_24 : decode cX4_seen 24 = .ok (.iload_n 2, 1) := by decide +kernel
theorem dX4_seen_25 : decode cX4_seen 25 = .ok (.iconst 1, 1) := by decide +kernel
theorem dX4_seen_26 : decode cX4_seen 26 = .ok (.if_icmp .lt 9, 3) := by decide +kernel
theorem dX4_seen_29 : decode cX4_seen 29 = .ok (.iload_n 2, 1) := by decide +kernel
theorem dX4_seen_30 : decode cX4_seen 30 = .ok (.bipush 14, 2) := by decide +kernel
theorem dX4_seen_32 : decode cX4_seen 32 = .ok (.if_icmp .le 6, 3) := by decide +kernel
theorem dX4_seen_35 : decode cX4_seen 35 = .ok (.bipush (-3), 2) := by decide +kernel
theorem dX4_seen_37 : decode cX4_seen 37 = .ok (.ireturn, 1) := by decide +kernel
theorem dX4_seen_38 : decode cX4_seen 38 = .ok (.aload_n 0, 1) := by decide +kernel
theorem dX4_seen_39 : decode cX4_seen 39 = .ok (.getfield 50, 3) := by decide +kernel
theorem dX4_seen_42 : decode cX4_seen 42 = .ok (.getfield 77, 3) := by decide +kernel
theorem dX4_seen_45 : decode cX4_seen 45 = .ok (.bipush 6, 2) := by decide +kernel
theorem dX4_seen_47 : decode cX4_seen 47 = .ok (.if_icmp .lt 6, 3) := by decide +kernel
theorem dX4_seen_50 : decode cX4_seen 50 = .ok (.bipush (-5), 2) := by decide +kernel
theorem dX4_seen_52 : decode cX4_seen 52 = .ok (.ireturn, 1) := by decide +kernel
theorem dX4_seen_53 : decode cX4_seen 53 = .ok (.aload_n 0, 1) := by decide +kernel
theorem dX4_seen_54 : decode cX4_seen 54 = .ok (.getfield 50, 3) := by decide +kernel
theorem dX4_seen_57 : decode cX4_seen 57 = .ok (.iload_n 1, 1) := by decide +kernel
theorem dX4_seen_58 : decode cX4_seen 58 = .ok (.iload_n 2, 1) := by decide +kernel
theorem dX4_seen_59 : decode cX4_seen 59 = .ok (.iload_n 3, 1) := by decide +kernel
theorem dX4_seen_60 : decode cX4_seen 60 = .ok (.invokevirtual 187, 3) := by decide +kernel
theorem dX4_seen_63 : decode cX4_seen 63 = .ok (.aload_n 0, 1) := by decide +kernel
theorem dX4_seen_64 : decode cX4_seen 64 = .ok (.getfield 50, 3) := by decide +kernel
theorem dX4_seen_67 : decode cX4_seen 67 = .ok (.getfield 77, 3) := by decide +kernel
theorem dX4_seen_70 : decode cX4_seen 70 = .ok (.ireturn, 1) := by decide +kernel
theorem dX4_forget_0 : decode cX4_forget 0 = .ok (.aload_n 0, 1) := by decide +kernel
theorem dX4_forget_1 : decode cX4_forget 1 = .ok (.getfield 50, 3) := by decide +kernel
theorem dX4_forget_4 : decode cX4_forget 4 = .ok (.getfield 77, 3) := by decide +kernel
theorem dX4_forget_7 : decode cX4_forget 7 = .ok (.istore_n 1, 1) := by decide +kernel
theorem dX4_forget_8 : decode cX4_forget 8 = .ok (.aload_n 0, 1) := by decide +kernel
theorem dX4_forget_9 : decode cX4_forget 9 = .ok (.getfield 50, 3) := by decide +kernel
theorem dX4_forget_12 : decode cX4_forget 12 = .ok (.iconst 0, 1) := by decide +kernel
theorem dX4_forget_13 : decode cX4_forget 13 = .ok (.putfield 77, 3) := by decide +kernel
theorem dX4_forget_16 : decode cX4_forget 16 = .ok (.iload_n 1, 1) := by decide +kernel
theorem dX4_forget_17 : decode cX4_forget 17 = .ok (.ireturn, 1) := by decide +kernel
theorem dX4_kinds_0 : decode cX4_kinds 0 = .ok (.aload_n 0, 1) := by decide +kernel
theorem dX4_kinds_1 : decode cX4_kinds 1 = .ok (.iload_n 1, 1) := by decide +kernel
theorem dX4_kinds_2 : decode cX4_kinds 2 = .ok (.invokevirtual 102, 3) := by decide +kernel
theorem dX4_kinds_5 : decode cX4_kinds 5 = .ok (.ifCond .ne 6, 3) := by decide +kernel
theorem dX4_kinds_8 : decode cX4_kinds 8 = .ok (.bipush (-2), 2) := by decide +kernel
theorem dX4_kinds_10 : decode cX4_kinds 10 = .ok (.ireturn, 1) := by decide +kernel
theorem dX4_kinds_11 : decode cX4_kinds 11 = .ok (.iconst 0, 1) := by decide +kernel
theorem dX4_kinds_12 : decode cX4_kinds 12 = .ok (.istore_n 2, 1) := by decide +kernel
theorem dX4_kinds_13 : decode cX4_kinds 13 = .ok (.iconst 0, 1) := by decide +kernel
theorem dX4_kinds_14 : decode cX4_kinds 14 = .ok (.istore_n 3, 1) := by decide +kernel
theorem dX4_kinds_15 : decode cX4_kinds 15 = .ok (.iload_n 3, 1) := by decide +kernel
theorem dX4_kinds_16 : decode cX4_kinds 16 = .ok (.iconst 3, 1) := by decide +kernel
theorem dX4_kinds_17 : decode cX4_kinds 17 = .ok (.if_icmp .gt 33, 3) := by decide +kernel
theorem dX4_kinds_20 : decode cX4_kinds 20 = .ok (.aload_n 0, 1) := by decide +kernel
theorem dX4_kinds_21 : decode cX4_kinds 21 = .ok (.iload_n 1, 1) := by decide +kernel
theorem dX4_kinds_22 : decode cX4_kinds 22 = .ok (.iload_n 3, 1) := by decide +kernel
theorem dX4_kinds_23 : decode cX4_kinds 23 = .ok (.aload_n 0, 1) := by decide +kernel
theorem dX4_kinds_24 : decode cX4_kinds 24 = .ok (.getfield 29, 3) := by decide +kernel
theorem dX4_kinds_27 : decode cX4_kinds 27 = .ok (.getfield 108, 3) := by decide +kernel
theorem dX4_kinds_30 : decode cX4_kinds 30 = .ok (.iload_n 1, 1) := by decide +kernel
theorem dX4_kinds_31 : decode cX4_kinds 31 = .ok (.iaload, 1) := by decide +kernel
theorem dX4_kinds_32 : decode cX4_kinds 32 = .ok (.invokevirtual 191, 3) := by decide +kernel
theorem dX4_kinds_35 : decode cX4_kinds 35 = .ok (.ifCond .eq 9, 3) := by decide +kernel
theorem dX4_kinds_38 : decode cX4_kinds 38 = .ok (.iload_n 2, 1) := by decide +kernel
theorem dX4_kinds_39 : decode cX4_kinds 39 = .ok (.iconst 1, 1) := by decide +kernel
theorem dX4_kinds_40 : decode cX4_kinds 40 = .ok (.iload_n 3, 1) := by decide +kernel
theorem dX4_kinds_41 : decode cX4_kinds 41 = .ok (.ishl, 1) := by decide +kernel
theorem dX4_kinds_42 : decode cX4_kinds 42 = .ok (.ior, 1) := by decide +kernel
theorem dX4_kinds_43 : decode cX4_kinds 43 = .ok (.istore_n 2, 1) := by decide +kernel
theorem dX4_kinds_44 : decode cX4_kinds 44 = .ok (.iinc 3 1, 3) := by decide +kernel
theorem dX4_kinds_47 : decode cX4_kinds 47 = .ok (.goto (-32), 3) := by decide +kernel
theorem dX4_kinds_50 : decode cX4_kinds 50 = .ok (.iload_n 2, 1) := by decide +kernel
theorem dX4_kinds_51 : decode cX4_kinds 51 = .ok (.ireturn, 1) := by decide +kernel
theorem dX4_habits_0 : decode cX4_habits 0 = .ok (.aload_n 0, 1) := by decide +kernel
theorem dX4_habits_1 : decode cX4_habits 1 = .ok (.iload_n 1, 1) := by decide +kernel
theorem dX4_habits_2 : decode cX4_habits 2 = .ok (.invokevirtual 102, 3) := by decide +kernel
theorem dX4_habits_5 : decode cX4_habits 5 = .ok (.ifCond .ne 6, 3) := by decide +kernel
theorem dX4_habits_8 : decode cX4_habits 8 = .ok (.bipush (-2), 2) := by decide +kernel
theorem dX4_habits_10 : decode cX4_habits 10 = .ok (.ireturn, 1) := by decide +kernel
theorem dX4_habits_11 : decode cX4_habits 11 = .ok (.iconst 0, 1) := by decide +kernel
theorem dX4_habits_12 : decode cX4_habits 12 = .ok (.istore_n 2, 1) := by decide +kernel
theorem dX4_habits_13 : decode cX4_habits 13 = .ok (.iconst 0, 1) := by decide +kernel
theorem dX4_habits_14 : decode cX4_habits 14 = .ok (.istore_n 3, 1) := by decide +kernel
theorem dX4_habits_15 : decode cX4_habits 15 = .ok (.iload_n 3, 1) := by decide +kernel
theorem dX4_habits_16 : decode cX4_habits 16 = .ok (.bipush 9, 2) := by decide +kernel
theorem dX4_habits_18 : decode cX4_habits 18 = .ok (.if_icmp .gt 33, 3) := by decide +kernel
theorem dX4_habits_21 : decode cX4_habits 21 = .ok (.aload_n 0, 1) := by decide +kernel
theorem dX4_habits_22 : decode cX4_habits 22 = .ok (.iload_n 1, 1) := by decide +kernel
theorem dX4_habits_23 : decode cX4_habits 23 = .ok (.aload_n 0, 1) := by decide +kernel
theorem dX4_habits_24 : decode cX4_habits 24 = .ok (.getfield 29, 3) := by decide +kernel
theorem dX4_habits_27 : decode cX4_habits 27 = .ok (.getfield 105, 3) := by decide +kernel
theorem dX4_habits_30 : decode cX4_habits 30 = .ok (.iload_n 1, 1) := by decide +kernel
theorem dX4_habits_31 : decode cX4_habits 31 = .ok (.iaload, 1) := by decide +kernel
theorem dX4_habits_32 : decode cX4_habits 32 = .ok (.iload_n 3, 1) := by decide +kernel
theorem dX4_habits_33 : decode cX4_habits 33 = .ok (.invokevirtual 191, 3) := by decide +kernel
theorem dX4_habits_36 : decode cX4_habits 36 = .ok (.ifCond .eq 9, 3) := by decide +kernel
theorem dX4_habits_39 : decode cX4_habits 39 = .ok (.iload_n 2, 1) := by decide +kernel
theorem dX4_habits_40 : decode cX4_habits 40 = .ok (.iconst 1, 1) := by decide +kernel
theorem dX4_habits_41 : decode cX4_habits 41 = .ok (.iload_n 3, 1) := by decide +kernel
theorem dX4_habits_42 : decode cX4_habits 42 = .ok (.ishl, 1) := by decide +kernel
theorem dX4_habits_43 : decode cX4_habits 43 = .ok (.ior, 1) := by decide +kernel
theorem dX4_habits_44 : decode cX4_habits 44 = .ok (.istore_n 2, 1) := by decide +kernel
theorem dX4_habits_45 : decode cX4_habits 45 = .ok (.iinc 3 1, 3) := by decide +kernel
theorem dX4_habits_48 : decode cX4_habits 48 = .ok (.goto (-33), 3) := by decide +kernel
theorem dX4_habits_51 : decode cX4_habits 51 = .ok (.iload_n 2, 1) := by decide +kernel
theorem dX4_habits_52 : decode cX4_habits 52 = .ok (.ireturn, 1) := by decide +kernel
theorem dX4_foxes_0 : decode cX4_foxes 0 = .ok (.aload_n 0, 1) := by decide +kernel
theorem dX4_foxes_1 : decode cX4_foxes 1 = .ok (.iload_n 1, 1) := by decide +kernel
theorem dX4_foxes_2 : decode cX4_foxes 2 = .ok (.invokevirtual 102, 3) := by decide +kernel
theorem dX4_foxes_5 : decode cX4_foxes 5 = .ok (.ifCond .ne 6, 3) := by decide +kernel
theorem dX4_foxes_8 : decode cX4_foxes 8 = .ok (.bipush (-2), 2) := by decide +kernel
theorem dX4_foxes_10 : decode cX4_foxes 10 = .ok (.ireturn, 1) := by decide +kernel
theorem dX4_foxes_11 : decode cX4_foxes 11 = .ok (.iload_n 2, 1) := by decide +kernel
theorem dX4_foxes_12 : decode cX4_foxes 12 = .ok (.ifCond .lt 30, 3) := by decide +kernel
theorem dX4_foxes_15 : decode cX4_foxes 15 = .ok (.iload_n 2, 1) := by decide +kernel
theorem dX4_foxes_16 : decode cX4_foxes 16 = .ok (.bipush 6, 2) := by decide +kernel
theorem dX4_foxes_18 : decode cX4_foxes 18 = .ok (.if_icmp .gt 24, 3) := by decide +kernel
theorem dX4_foxes_21 : decode cX4_foxes 21 = .ok (.iload_n 3, 1) := by decide +kernel
theorem dX4_foxes_22 : decode cX4_foxes 22 = .ok (.ifCond .lt 20, 3) := by decide +kernel
theorem dX4_foxes_25 : decode cX4_foxes 25 = .ok (.iload_n 3, 1) := by decide +kernel
theorem dX4_foxes_26 : decode cX4_foxes 26 = .ok (.bipush 10, 2) := by decide +kernel
theorem dX4_foxes_28 : decode cX4_foxes 28 = .ok (.if_icmp .gt 14, 3) := by decide +kernel
theorem dX4_foxes_31 : decode cX4_foxes 31 = .ok (.iload 4, 2) := by decide +kernel
theorem dX4_foxes_33 : decode cX4_foxes 33 = .ok (.ifCond .lt 9, 3) := by decide +kernel
theorem dX4_foxes_36 : decode cX4_foxes 36 = .ok (.iload 4, 2) := by decide +kernel
theorem dX4_foxes_38 : decode cX4_foxes 38 = .ok (.iconst 1, 1) := by decide +kernel
theorem dX4_foxes_39 : decode cX4_foxes 39 = .ok (.if_icmp .le 6, 3) := by decide +kernel
theorem dX4_foxes_42 : decode cX4_foxes 42 = .ok (.bipush (-3), 2) := by decide +kernel
theorem dX4_foxes_44 : decode cX4_foxes 44 = .ok (.ireturn, 1) := by decide +kernel
theorem dX4_foxes_45 : decode cX4_foxes 45 = .ok (.aload_n 0, 1) := by decide +kernel
theorem dX4_foxes_46 : decode cX4_foxes 46 = .ok (.iload_n 1, 1) := by decide +kernel
theorem dX4_foxes_47 : decode cX4_foxes 47 = .ok (.iload_n 2, 1) := by decide +kernel
theorem dX4_foxes_48 : decode cX4_foxes 48 = .ok (.invokevirtual 195, 3) := by decide +kernel
theorem dX4_foxes_51 : decode cX4_foxes 51 = .ok (.istore 5, 2) := by decide +kernel
theorem dX4_foxes_53 : decode cX4_foxes 53 = .ok (.iload 5, 2) := by decide +kernel
theorem dX4_foxes_55 : decode cX4_foxes 55 = .ok (.iconst (-1), 1) := by decide +kernel
theorem dX4_foxes_56 : decode cX4_foxes 56 = .ok (.if_icmp .ne 7, 3) := by decide +kernel
theorem dX4_foxes_59 : decode cX4_foxes 59 = .ok (.iconst 0, 1) := by decide +kernel
theorem dX4_foxes_60 : decode cX4_foxes 60 = .ok (.goto 12, 3) := by decide +kernel
theorem dX4_foxes_63 : decode cX4_foxes 63 = .ok (.bipush 10, 2) := by decide +kernel
theorem dX4_foxes_65 : decode cX4_foxes 65 = .ok (.iload_n 3, 1) := by decide +kernel
theorem dX4_foxes_66 : decode cX4_foxes 66 = .ok (.isub, 1) := by decide +kernel
theorem dX4_foxes_67 : decode cX4_foxes 67 = .ok (.iload 5, 2) := by decide +kernel
theorem dX4_foxes_69 : decode cX4_foxes 69 = .ok (.invokestatic 198, 3) := by decide +kernel
theorem dX4_foxes_72 : decode cX4_foxes 72 = .ok (.istore 6, 2) := by decide +kernel
theorem dX4_foxes_74 : decode cX4_foxes 74 = .ok (.iload 5, 2) := by decide +kernel
theorem dX4_foxes_76 : decode cX4_foxes 76 = .ok (.iconst (-1), 1) := by decide +kernel
theorem dX4_foxes_77 : decode cX4_foxes 77 = .ok (.if_icmp .ne 7, 3) := by decide +kernel
theorem dX4_foxes_80 : decode cX4_foxes 80 = .ok (.iconst 1, 1) := by decide +kernel
theorem dX4_foxes_81 : decode cX4_foxes 81 = .ok (.goto 10, 3) := by decide +kernel
theorem dX4_foxes_84 : decode cX4_foxes 84 = .ok (.bipush 10, 2) := by decide +kernel
theorem dX4_foxes_86 : decode cX4_foxes 86 = .ok (.iload 5, 2) := by decide +kernel
theorem dX4_foxes_88 : decode cX4_foxes 88 = .ok (.invokestatic 198, 3) := by decide +kernel
theorem dX4_foxes_91 : decode cX4_foxes 91 = .ok (.istore 7, 2) := by decide +kernel
theorem dX4_foxes_93 : decode cX4_foxes 93 = .ok (.iconst 1, 1) := by decide +kernel
theorem dX4_foxes_94 : decode cX4_foxes 94 = .ok (.iload 6, 2) := by decide +kernel
theorem dX4_foxes_96 : decode cX4_foxes 96 = .ok (.iload 7, 2) := by decide +kernel
theorem dX4_foxes_98 : decode cX4_foxes 98 = .ok (.invokestatic 201, 3) := by decide +kernel
theorem dX4_foxes_101 : decode cX4_foxes 101 = .ok (.invokestatic 204, 3) := by decide +kernel
theorem dX4_foxes_104 : decode cX4_foxes 104 = .ok (.istore 8, 2) := by decide +kernel
theorem dX4_foxes_106 : decode cX4_foxes 106 = .ok (.iload 4, 2) := by decide +kernel
theorem dX4_foxes_108 : decode cX4_foxes 108 = .ok (.ifCond .ne 11, 3) := by decide +kernel
theorem dX4_foxes_111 : decode cX4_foxes 111 = .ok (.iload 6, 2) := by decide +kernel
theorem dX4_foxes_113 : decode cX4_foxes 113 = .ok (.iload 8, 2) := by decide +kernel
theorem dX4_foxes_115 : decode cX4_foxes 115 = .ok (.idiv, 1) := by decide +kernel
theorem dX4_foxes_116 : decode cX4_foxes 116 = .ok (.goto 8, 3) := by decide +kernel
theorem dX4_foxes_119 : decode cX4_foxes 119 = .ok (.iload 7, 2) := by decide +kernel
theorem dX4_foxes_121 : decode cX4_foxes 121 = .ok (.iload 8, 2) := by decide +kernel
theorem dX4_foxes_123 : decode cX4_foxes 123 = .ok (.idiv, 1) := by decide +kernel
theorem dX4_foxes_124 : decode cX4_foxes 124 = .ok (.ireturn, 1) := by decide +kernel
theorem dX4_count_0 : decode cX4_count 0 = .ok (.iload_n 1, 1) := by decide +kernel
theorem dX4_count_1 : decode cX4_count 1 = .ok (.tableswitch 186 0 12 #[67, 75, 83, 91, 99, 107, 115, 127, 138, 149, 165, 173, 178], 67) := by decide +kernel
theorem dX4_count_68 : decode cX4_count 68 = .ok (.aload_n 0, 1) := by decide +kernel
theorem dX4_count_69 : decode cX4_count 69 = .ok (.getfield 19, 3) := by decide +kernel
theorem dX4_count_72 : decode cX4_count 72 = .ok (.getfield 127, 3) := by decide +kernel
theorem dX4_count_75 : decode cX4_count 75 = .ok (.ireturn, 1) := by decide +kernel
theorem dX4_count_76 : decode cX4_count 76 = .ok (.aload_n 0, 1) := by decide +kernel
theorem dX4_count_77 : decode cX4_count 77 = .ok (.getfield 19, 3) := by decide +kernel
theorem dX4_count_80 : decode cX4_count 80 = .ok (.getfield 177, 3) := by decide +kernel
theorem dX4_count_83 : decode cX4_count 83 = .ok (.ireturn, 1) := by decide +kernel
theorem dX4_count_84 : decode cX4_count 84 = .ok (.aload_n 0, 1) := by decide +kernel
theorem dX4_count_85 : decode cX4_count 85 = .ok (.getfield 29, 3) := by decide +kernel
theorem dX4_count_88 : decode cX4_count 88 = .ok (.getfield 134, 3) := by decide +kernel
theorem dX4_count_91 : decode cX4_count 91 = .ok (.ireturn, 1) := by decide +kernel
theorem dX4_count_92 : decode cX4_count 92 = .ok (.aload_n 0, 1) := by decide +kernel
theorem dX4_count_93 : decode cX4_count 93 = .ok (.getfield 29, 3) := by decide +kernel
theorem dX4_count_96 : decode cX4_count 96 = .ok (.invokevirtual 143, 3) := by decide +kernel
theorem dX4_count_99 : decode cX4_count 99 = .ok (.ireturn, 1) := by decide +kernel
theorem dX4_count_100 : decode cX4_count 100 = .ok (.aload_n 0, 1) := by decide +kernel
theorem dX4_count_101 : decode cX4_count 101 = .ok (.getfield 29, 3) := by decide +kernel
theorem dX4_count_104 : decode cX4_count 104 = .ok (.getfield 151, 3) := by decide +kernel
theorem dX4_count_107 : decode cX4_count 107 = .ok (.ireturn, 1) := by decide +kernel
theorem dX4_count_108 : decode cX4_count 108 = .ok (.aload_n 0, 1) := by decide +kernel
theorem dX4_count_109 : decode cX4_count 109 = .ok (.getfield 29, 3) := by decide +kernel
theorem dX4_count_112 : decode cX4_count 112 = .ok (.getfield 154, 3) := by decide +kernel
theorem dX4_count_115 : decode cX4_count 115 = .ok (.ireturn, 1) := by decide +kernel
theorem dX4_count_116 : decode cX4_count 116 = .ok (.aload_n 0, 1) := by decide +kernel
theorem dX4_count_117 : decode cX4_count 117 = .ok (.getfield 29, 3) := by decide +kernel
theorem dX4_count_120 : decode cX4_count 120 = .ok (.getfield 157, 3) := by decide +kernel
theorem dX4_count_123 : decode cX4_count 123 = .ok (.sipush 9999, 3) := by decide +kernel
theorem dX4_count_126 : decode cX4_count 126 = .ok (.iadd, 1) := by decide +kernel
theorem dX4_count_127 : decode cX4_count 127 = .ok (.ireturn, 1) := by decide +kernel
theorem dX4_count_128 : decode cX4_count 128 = .ok (.aload_n 0, 1) := by decide +kernel
theorem dX4_count_129 : decode cX4_count 129 = .ok (.getfield 29, 3) := by decide +kernel
theorem dX4_count_132 : decode cX4_count 132 = .ok (.getfield 114, 3) := by decide +kernel
theorem dX4_count_135 : decode cX4_count 135 = .ok (.invokestatic 209, 3) := by decide +kernel
theorem dX4_count_138 : decode cX4_count 138 = .ok (.ireturn, 1) := by decide +kernel
theorem dX4_count_139 : decode cX4_count 139 = .ok (.aload_n 0, 1) := by decide +kernel
theorem dX4_count_140 : decode cX4_count 140 = .ok (.getfield 29, 3) := by decide +kernel
theorem dX4_count_143 : decode cX4_count 143 = .ok (.getfield 117, 3) := by decide +kernel
theorem dX4_count_146 : decode cX4_count 146 = .ok (.invokestatic 209, 3) := by decide +kernel
theorem dX4_count_149 : decode cX4_count 149 = .ok (.ireturn, 1) := by decide +kernel
theorem dX4_count_150 : decode cX4_count 150 = .ok (.aload_n 0, 1) := by decide +kernel
theorem dX4_count_151 : decode cX4_count 151 = .ok (.getfield 29, 3) := by decide +kernel
theorem dX4_count_154 : decode cX4_count 154 = .ok (.getfield 147, 3) := by decide +kernel
theorem dX4_count_157 : decode cX4_count 157 = .ok (.ifCond .eq 7, 3) := by decide +kernel
theorem dX4_count_160 : decode cX4_count 160 = .ok (.iconst 1, 1) := by decide +kernel
theorem dX4_count_161 : decode cX4_count 161 = .ok (.goto 4, 3) := by decide +kernel
theorem dX4_count_164 : decode cX4_count 164 = .ok (.iconst 0, 1) := by decide +kernel
theorem dX4_count_165 : decode cX4_count 165 = .ok (.ireturn, 1) := by decide +kernel
theorem dX4_count_166 : decode cX4_count 166 = .ok (.aload_n 0, 1) := by decide +kernel
theorem dX4_count_167 : decode cX4_count 167 = .ok (.getfield 50, 3) := by decide +kernel
theorem dX4_count_170 : decode cX4_count 170 = .ok (.getfield 77, 3) := by decide +kernel
theorem dX4_count_173 : decode cX4_count 173 = .ok (.ireturn, 1) := by decide +kernel
theorem dX4_count_174 : decode cX4_count 174 = .ok (.aload_n 0, 1) := by decide +kernel
theorem dX4_count_175 : decode cX4_count 175 = .ok (.getfield 80, 3) := by decide +kernel
theorem dX4_count_178 : decode cX4_count 178 = .ok (.ireturn, 1) := by decide +kernel
theorem dX4_count_179 : decode cX4_count 179 = .ok (.aload_n 0, 1) := by decide +kernel
theorem dX4_count_180 : decode cX4_count 180 = .ok (.getfield 10, 3) := by decide +kernel
theorem dX4_count_183 : decode cX4_count 183 = .ok (.getfield 58, 3) := by decide +kernel
theorem dX4_count_186 : decode cX4_count 186 = .ok (.ireturn, 1) := by decide +kernel
theorem dX4_count_187 : decode cX4_count 187 = .ok (.bipush (-3), 2) := by decide +kernel
theorem dX4_count_189 : decode cX4_count 189 = .ok (.ireturn, 1) := by decide +kernel
theorem dX4_isPlace_0 : decode cX4_isPlace 0 = .ok (.iload_n 1, 1) := by decide +kernel
theorem dX4_isPlace_1 : decode cX4_isPlace 1 = .ok (.ifCond .lt 18, 3) := by decide +kernel
theorem dX4_isPlace_4 : decode cX4_isPlace 4 = .ok (.iload_n 1, 1) := by decide +kernel
theorem dX4_isPlace_5 : decode cX4_isPlace 5 = .ok (.aload_n 0, 1) := by decide +kernel
theorem dX4_isPlace_6 : decode cX4_isPlace 6 = .ok (.getfield 19, 3) := by decide +kernel
theorem dX4_isPlace_9 : decode cX4_isPlace 9 = .ok (.getfield 127, 3) := by decide +kernel
theorem dX4_isPlace_12 : decode cX4_isPlace 12 = .ok (.if_icmp .ge 7, 3) := by decide +kernel
theorem dX4_isPlace_15 : decode cX4_isPlace 15 = .ok (.iconst 1, 1) := by decide +kernel
theorem dX4_isPlace_16 : decode cX4_isPlace 16 = .ok (.goto 4, 3) := by decide +kernel
theorem dX4_isPlace_19 : decode cX4_isPlace 19 = .ok (.iconst 0, 1) := by decide +kernel
theorem dX4_isPlace_20 : decode cX4_isPlace 20 = .ok (.ireturn, 1) := by decide +kernel
theorem dX4_isHen_0 : decode cX4_isHen 0 = .ok (.iload_n 1, 1) := by decide +kernel
theorem dX4_isHen_1 : decode cX4_isHen 1 = .ok (.ifCond .lt 18, 3) := by decide +kernel
theorem dX4_isHen_4 : decode cX4_isHen 4 = .ok (.iload_n 1, 1) := by decide +kernel
theorem dX4_isHen_5 : decode cX4_isHen 5 = .ok (.aload_n 0, 1) := by decide +kernel
theorem dX4_isHen_6 : decode cX4_isHen 6 = .ok (.getfield 19, 3) := by decide +kernel
theorem dX4_isHen_9 : decode cX4_isHen 9 = .ok (.getfield 177, 3) := by decide +kernel
theorem dX4_isHen_12 : decode cX4_isHen 12 = .ok (.if_icmp .ge 7, 3) := by decide +kernel
theorem dX4_isHen_15 : decode cX4_isHen 15 = .ok (.iconst 1, 1) := by decide +kernel
theorem dX4_isHen_16 : decode cX4_isHen 16 = .ok (.goto 4, 3) := by decide +kernel
theorem dX4_isHen_19 : decode cX4_isHen 19 = .ok (.iconst 0, 1) := by decide +kernel
theorem dX4_isHen_20 : decode cX4_isHen 20 = .ok (.ireturn, 1) := by decide +kernel
theorem dX4_isUnder_0 : decode cX4_isUnder 0 = .ok (.iload_n 1, 1) := by decide +kernel
theorem dX4_isUnder_1 : decode cX4_isUnder 1 = .ok (.ifCond .ne 5, 3) := by decide +kernel
theorem dX4_isUnder_4 : decode cX4_isUnder 4 = .ok (.iconst 1, 1) := by decide +kernel
theorem dX4_isUnder_5 : decode cX4_isUnder 5 = .ok (.ireturn, 1) := by decide +kernel
theorem dX4_isUnder_6 : decode cX4_isUnder 6 = .ok (.iload_n 1, 1) := by decide +kernel
theorem dX4_isUnder_7 : decode cX4_isUnder 7 = .ok (.iconst 1, 1) := by decide +kernel
theorem dX4_isUnder_8 : decode cX4_isUnder 8 = .ok (.if_icmp .ne 14, 3) := by decide +kernel
theorem dX4_isUnder_11 : decode cX4_isUnder 11 = .ok (.iload_n 0, 1) := by decide +kernel
theorem dX4_isUnder_12 : decode cX4_isUnder 12 = .ok (.iconst 3, 1) := by decide +kernel
theorem dX4_isUnder_13 : decode cX4_isUnder 13 = .ok (.if_icmp .eq 7, 3) := by decide +kernel
theorem dX4_isUnder_16 : decode cX4_isUnder 16 = .ok (.iconst 1, 1) := by decide +kernel
theorem dX4_isUnder_17 : decode cX4_isUnder 17 = .ok (.goto 4, 3) := by decide +kernel
theorem dX4_isUnder_20 : decode cX4_isUnder 20 = .ok (.iconst 0, 1) := by decide +kernel
theorem dX4_isUnder_21 : decode cX4_isUnder 21 = .ok (.ireturn, 1) := by decide +kernel
theorem dX4_isUnder_22 : decode cX4_isUnder 22 = .ok (.iload_n 1, 1) := by decide +kernel
theorem dX4_isUnder_23 : decode cX4_isUnder 23 = .ok (.iload_n 0, 1) := by decide +kernel
theorem dX4_isUnder_24 : decode cX4_isUnder 24 = .ok (.iconst 1, 1) := by decide +kernel
theorem dX4_isUnder_25 : decode cX4_isUnder 25 = .ok (.iadd, 1) := by decide +kernel
theorem dX4_isUnder_26 : decode cX4_isUnder 26 = .ok (.if_icmp .ne 7, 3) := by decide +kernel
theorem dX4_isUnder_29 : decode cX4_isUnder 29 = .ok (.iconst 1, 1) := by decide +kernel
theorem dX4_isUnder_30 : decode cX4_isUnder 30 = .ok (.goto 4, 3) := by decide +kernel
theorem dX4_isUnder_33 : decode cX4_isUnder 33 = .ok (.iconst 0, 1) := by decide +kernel
theorem dX4_isUnder_34 : decode cX4_isUnder 34 = .ok (.ireturn, 1) := by decide +kernel
theorem dX4_remember_0 : decode cX4_remember 0 = .ok (.aload_n 0, 1) := by decide +kernel
theorem dX4_remember_1 : decode cX4_remember 1 = .ok (.getfield 80, 3) := by decide +kernel
theorem dX4_remember_4 : decode cX4_remember 4 = .ok (.bipush 8, 2) := by decide +kernel
theorem dX4_remember_6 : decode cX4_remember 6 = .ok (.if_icmp .lt 7, 3) := by decide +kernel
theorem dX4_remember_9 : decode cX4_remember 9 = .ok (.aload_n 0, 1) := by decide +kernel
theorem dX4_remember_10 : decode cX4_remember 10 = .ok (.invokevirtual 213, 3) := by decide +kernel
theorem dX4_remember_13 : decode cX4_remember 13 = .ok (.aload_n 0, 1) := by decide +kernel
theorem dX4_remember_14 : decode cX4_remember 14 = .ok (.getfield 36, 3) := by decide +kernel
theorem dX4_remember_17 : decode cX4_remember 17 = .ok (.aload_n 0, 1) := by decide +kernel
theorem dX4_remember_18 : decode cX4_remember 18 = .ok (.getfield 80, 3) := by decide +kernel
theorem dX4_remember_21 : decode cX4_remember 21 = .ok (.aaload, 1) := by decide +kernel
theorem dX4_remember_22 : decode cX4_remember 22 = .ok (.aload_n 0, 1) := by decide +kernel
theorem dX4_remember_23 : decode cX4_remember 23 = .ok (.getfield 29, 3) := by decide +kernel
theorem dX4_remember_26 : decode cX4_remember 26 = .ok (.invokevirtual 163, 3) := by decide +kernel
theorem dX4_remember_29 : decode cX4_remember 29 = .ok (.aload_n 0, 1) := by decide +kernel
theorem dX4_remember_30 : decode cX4_remember 30 = .ok (.dup, 1) := by decide +kernel
theorem dX4_remember_31 : decode cX4_remember 31 = .ok (.getfield 80, 3) := by decide +kernel
theorem dX4_remember_34 : decode cX4_remember 34 = .ok (.iconst 1, 1) := by decide +kernel
theorem dX4_remember_35 : decode cX4_remember 35 = .ok (.iadd, 1) := by decide +kernel
theorem dX4_remember_36 : decode cX4_remember 36 = .ok (.putfield 80, 3) := by decide +kernel
theorem dX4_remember_39 : decode cX4_remember 39 = .ok (.return_, 1) := by decide +kernel
theorem dX4_dropOldest_0 : decode cX4_dropOldest 0 = .ok (.aload_n 0, 1) := by decide +kernel
theorem dX4_dropOldest_1 : decode cX4_dropOldest 1 = .ok (.getfield 36, 3) := by decide +kernel
theorem dX4_dropOldest_4 : decode cX4_dropOldest 4 = .ok (.iconst 0, 1) := by decide +kernel
theorem dX4_dropOldest_5 : decode cX4_dropOldest 5 = .ok (.aaload, 1) := by decide +kernel
theorem dX4_dropOldest_6 : decode cX4_dropOldest 6 = .ok (.astore_n 1, 1) := by decide +kernel
theorem dX4_dropOldest_7 : decode cX4_dropOldest 7 = .ok (.iconst 1, 1) := by decide +kernel
theorem dX4_dropOldest_8 : decode cX4_dropOldest 8 = .ok (.istore_n 2, 1) := by decide +kernel
theorem dX4_dropOldest_9 : decode cX4_dropOldest 9 = .ok (.iload_n 2, 1) := by decide +kernel
theorem dX4_dropOldest_10 : decode cX4_dropOldest 10 = .ok (.bipush 8, 2) := by decide +kernel
theorem dX4_dropOldest_12 : decode cX4_dropOldest 12 = .ok (.if_icmp .ge 23, 3) := by decide +kernel
theorem dX4_dropOldest_15 : decode cX4_dropOldest 15 = .ok (.aload_n 0, 1) := by decide +kernel
theorem dX4_dropOldest_16 : decode cX4_dropOldest 16 = .ok (.getfield 36, 3) := by decide +kernel
theorem dX4_dropOldest_19 : decode cX4_dropOldest 19 = .ok (.iload_n 2, 1) := by decide +kernel
theorem dX4_dropOldest_20 : decode cX4_dropOldest 20 = .ok (.iconst 1, 1) := by decide +kernel
theorem dX4_dropOldest_21 : decode cX4_dropOldest 21 = .ok (.isub, 1) := by decide +kernel
theorem dX4_dropOldest_22 : decode cX4_dropOldest 22 = .ok (.aload_n 0, 1) := by decide +kernel
theorem dX4_dropOldest_23 : decode cX4_dropOldest 23 = .ok (.getfield 36, 3) := by decide +kernel
theorem dX4_dropOldest_26 : decode cX4_dropOldest 26 = .ok (.iload_n 2, 1) := by decide +kernel
theorem dX4_dropOldest_27 : decode cX4_dropOldest 27 = .ok (.aaload, 1) := by decide +kernel
theorem dX4_dropOldest_28 : decode cX4_dropOldest 28 = .ok (.aastore, 1) := by decide +kernel
theorem dX4_dropOldest_29 : decode cX4_dropOldest 29 = .ok (.iinc 2 1, 3) := by decide +kernel
theorem dX4_dropOldest_32 : decode cX4_dropOldest 32 = .ok (.goto (-23), 3) := by decide +kernel
theorem dX4_dropOldest_35 : decode cX4_dropOldest 35 = .ok (.aload_n 0, 1) := by decide +kernel
theorem dX4_dropOldest_36 : decode cX4_dropOldest 36 = .ok (.getfield 36, 3) := by decide +kernel
theorem dX4_dropOldest_39 : decode cX4_dropOldest 39 = .ok (.bipush 7, 2) := by decide +kernel
theorem dX4_dropOldest_41 : decode cX4_dropOldest 41 = .ok (.aload_n 1, 1) := by decide +kernel
theorem dX4_dropOldest_42 : decode cX4_dropOldest 42 = .ok (.aastore, 1) := by decide +kernel
theorem dX4_dropOldest_43 : decode cX4_dropOldest 43 = .ok (.aload_n 0, 1) := by decide +kernel
theorem dX4_dropOldest_44 : decode cX4_dropOldest 44 = .ok (.bipush 7, 2) := by decide +kernel
theorem dX4_dropOldest_46 : decode cX4_dropOldest 46 = .ok (.putfield 80, 3) := by decide +kernel
theorem dX4_dropOldest_49 : decode cX4_dropOldest 49 = .ok (.return_, 1) := by decide +kernel
theorem dX4_foretell_0 : decode cX4_foretell 0 = .ok (.aload_n 0, 1) := by decide +kernel
theorem dX4_foretell_1 : decode cX4_foretell 1 = .ok (.getfield 33, 3) := by decide +kernel
theorem dX4_foretell_4 : decode cX4_foretell 4 = .ok (.aload_n 0, 1) := by decide +kernel
theorem dX4_foretell_5 : decode cX4_foretell 5 = .ok (.getfield 29, 3) := by decide +kernel
theorem dX4_foretell_8 : decode cX4_foretell 8 = .ok (.invokevirtual 163, 3) := by decide +kernel
theorem dX4_foretell_11 : decode cX4_foretell 11 = .ok (.iconst 0, 1) := by decide +kernel
theorem dX4_foretell_12 : decode cX4_foretell 12 = .ok (.istore_n 2, 1) := by decide +kernel
theorem dX4_foretell_13 : decode cX4_foretell 13 = .ok (.iload_n 2, 1) := by decide +kernel
theorem dX4_foretell_14 : decode cX4_foretell 14 = .ok (.iload_n 1, 1) := by decide +kernel
theorem dX4_foretell_15 : decode cX4_foretell 15 = .ok (.if_icmp .ge 20, 3) := by decide +kernel
theorem dX4_foretell_18 : decode cX4_foretell 18 = .ok (.aload_n 0, 1) := by decide +kernel
theorem dX4_foretell_19 : decode cX4_foretell 19 = .ok (.getfield 33, 3) := by decide +kernel
theorem dX4_foretell_22 : decode cX4_foretell 22 = .ok (.aload_n 0, 1) := by decide +kernel
theorem dX4_foretell_23 : decode cX4_foretell 23 = .ok (.getfield 19, 3) := by decide +kernel
theorem dX4_foretell_26 : decode cX4_foretell 26 = .ok (.invokevirtual 140, 3) := by decide +kernel
theorem dX4_foretell_29 : decode cX4_foretell 29 = .ok (.iinc 2 1, 3) := by decide +kernel
theorem dX4_foretell_32 : decode cX4_foretell 32 = .ok (.goto (-19), 3) := by decide +kernel
theorem dX4_foretell_35 : decode cX4_foretell 35 = .ok (.return_, 1) := by decide +kernel
theorem dX4_rightsForetold_0 : decode cX4_rightsForetold 0 = .ok (.aload_n 0, 1) := by decide +kernel
theorem dX4_rightsForetold_1 : decode cX4_rightsForetold 1 = .ok (.getfield 33, 3) := by decide +kernel
theorem dX4_rightsForetold_4 : decode cX4_rightsForetold 4 = .ok (.getfield 114, 3) := by decide +kernel
theorem dX4_rightsForetold_7 : decode cX4_rightsForetold 7 = .ok (.iload_n 1, 1) := by decide +kernel
theorem dX4_rightsForetold_8 : decode cX4_rightsForetold 8 = .ok (.iaload, 1) := by decide +kernel
theorem dX4_rightsForetold_9 : decode cX4_rightsForetold 9 = .ok (.aload_n 0, 1) := by decide +kernel
theorem dX4_rightsForetold_10 : decode cX4_rightsForetold 10 = .ok (.getfield 29, 3) := by decide +kernel
theorem dX4_rightsForetold_13 : decode cX4_rightsForetold 13 = .ok (.getfield 114, 3) := by decide +kernel
theorem dX4_rightsForetold_16 : decode cX4_rightsForetold 16 = .ok (.iload_n 1, 1) := by decide +kernel
theorem dX4_rightsForetold_17 : decode cX4_rightsForetold 17 = .ok (.iaload, 1) := by decide +kernel
theorem dX4_rightsForetold_18 : decode cX4_rightsForetold 18 = .ok (.isub, 1) := by decide +kernel
theorem dX4_rightsForetold_19 : decode cX4_rightsForetold 19 = .ok (.ireturn, 1) := by decide +kernel
theorem dX4_tallyHits_0 : decode cX4_tallyHits 0 = .ok (.aload_n 0, 1) := by decide +kernel
theorem dX4_tallyHits_1 : decode cX4_tallyHits 1 = .ok (.getfield 54, 3) := by decide +kernel
theorem dX4_tallyHits_4 : decode cX4_tallyHits 4 = .ok (.iconst 0, 1) := by decide +kernel
theorem dX4_tallyHits_5 : decode cX4_tallyHits 5 = .ok (.invokestatic 216, 3) := by decide +kernel
theorem dX4_tallyHits_8 : decode cX4_tallyHits 8 = .ok (.aload_n 0, 1) := by decide +kernel
theorem dX4_tallyHits_9 : decode cX4_tallyHits 9 = .ok (.getfield 33, 3) := by decide +kernel
theorem dX4_tallyHits_12 : decode cX4_tallyHits 12 = .ok (.aload_n 0, 1) := by decide +kernel
theorem dX4_tallyHits_13 : decode cX4_tallyHits 13 = .ok (.getfield 29, 3) := by decide +kernel
theorem dX4_tallyHits_16 : decode cX4_tallyHits 16 = .ok (.invokevirtual 163, 3) := by decide +kernel
theorem dX4_tallyHits_19 : decode cX4_tallyHits 19 = .ok (.iconst 0, 1) := by decide +kernel
theorem dX4_tallyHits_20 : decode cX4_tallyHits 20 = .ok (.istore_n 2, 1) := by decide +kernel
theorem dX4_tallyHits_21 : decode cX4_tallyHits 21 = .ok (.iload_n 2, 1) := by decide +kernel
theorem dX4_tallyHits_22 : decode cX4_tallyHits 22 = .ok (.iload_n 1, 1) := by decide +kernel
theorem dX4_tallyHits_23 : decode cX4_tallyHits 23 = .ok (.if_icmp .ge 45, 3) := by decide +kernel
theorem dX4_tallyHits_26 : decode cX4_tallyHits 26 = .ok (.aload_n 0, 1) := by decide +kernel
theorem dX4_tallyHits_27 : decode cX4_tallyHits 27 = .ok (.getfield 19, 3) := by decide +kernel
theorem dX4_tallyHits_30 : decode cX4_tallyHits 30 = .ok (.aload_n 0, 1) := by decide +kernel
theorem dX4_tallyHits_31 : decode cX4_tallyHits 31 = .ok (.getfield 33, 3) := by decide +kernel
theorem dX4_tallyHits_34 : decode cX4_tallyHits 34 = .ok (.getfield 134, 3) := by decide +kernel
theorem dX4_tallyHits_37 : decode cX4_tallyHits 37 = .ok (.invokevirtual 222, 3) := by decide +kernel
theorem dX4_tallyHits_40 : decode cX4_tallyHits 40 = .ok (.istore_n 3, 1) := by decide +kernel
theorem dX4_tallyHits_41 : decode cX4_tallyHits 41 = .ok (.aload_n 0, 1) := by decide +kernel
theorem dX4_tallyHits_42 : decode cX4_tallyHits 42 = .ok (.getfield 33, 3) := by decide +kernel
theorem dX4_tallyHits_45 : decode cX4_tallyHits 45 = .ok (.aload_n 0, 1) := by decide +kernel
theorem dX4_tallyHits_46 : decode cX4_tallyHits 46 = .ok (.getfield 19, 3) := by decide +kernel
theorem dX4_tallyHits_49 : decode cX4_tallyHits 49 = .ok (.invokevirtual 140, 3) := by decide +kernel
theorem dX4_tallyHits_52 : decode cX4_tallyHits 52 = .ok (.iload_n 3, 1) := by decide +kernel
theorem dX4_tallyHits_53 : decode cX4_tallyHits 53 = .ok (.iconst (-1), 1) := by decide +kernel
theorem dX4_tallyHits_54 : decode cX4_tallyHits 54 = .ok (.if_icmp .eq 8, 3) := by decide +kernel
theorem dX4_tallyHits_57 : decode cX4_tallyHits 57 = .ok (.aload_n 0, 1) := by decide +kernel
theorem dX4_tallyHits_58 : decode cX4_tallyHits 58 = .ok (.iload_n 3, 1) := by decide +kernel
theorem dX4_tallyHits_59 : decode cX4_tallyHits 59 = .ok (.invokevirtual 225, 3) := by decide +kernel
theorem dX4_tallyHits_62 : decode cX4_tallyHits 62 = .ok (.iinc 2 1, 3) := by decide +kernel
theorem dX4_tallyHits_65 : decode cX4_tallyHits 65 = .ok (.goto (-44), 3) := by decide +kernel
theorem dX4_tallyHits_68 : decode cX4_tallyHits 68 = .ok (.return_, 1) := by decide +kernel
theorem dX4_tallyEggs_0 : decode cX4_tallyEggs 0 = .ok (.iconst 0, 1) := by decide +kernel
theorem dX4_tallyEggs_1 : decode cX4_tallyEggs 1 = .ok (.istore_n 2, 1) := by decide +kernel
theorem dX4_tallyEggs_2 : decode cX4_tallyEggs 2 = .ok (.iload_n 2, 1) := by decide +kernel
theorem dX4_tallyEggs_3 : decode cX4_tallyEggs 3 = .ok (.aload_n 0, 1) := by decide +kernel
theorem dX4_tallyEggs_4 : decode cX4_tallyEggs 4 = .ok (.getfield 19, 3) := by decide +kernel
theorem dX4_tallyEggs_7 : decode cX4_tallyEggs 7 = .ok (.getfield 127, 3) := by decide +kernel
theorem dX4_tallyEggs_10 : decode cX4_tallyEggs 10 = .ok (.if_icmp .ge 36, 3) := by decide +kernel
theorem dX4_tallyEggs_13 : decode cX4_tallyEggs 13 = .ok (.aload_n 0, 1) := by decide +kernel
theorem dX4_tallyEggs_14 : decode cX4_tallyEggs 14 = .ok (.getfield 33, 3) := by decide +kernel
theorem dX4_tallyEggs_17 : decode cX4_tallyEggs 17 = .ok (.getfield 99, 3) := by decide +kernel
theorem dX4_tallyEggs_20 : decode cX4_tallyEggs 20 = .ok (.iload_n 2, 1) := by decide +kernel
theorem dX4_tallyEggs_21 : decode cX4_tallyEggs 21 = .ok (.iaload, 1) := by decide +kernel
theorem dX4_tallyEggs_22 : decode cX4_tallyEggs 22 = .ok (.iconst (-1), 1) := by decide +kernel
theorem dX4_tallyEggs_23 : decode cX4_tallyEggs 23 = .ok (.if_icmp .eq 17, 3) := by decide +kernel
theorem dX4_tallyEggs_26 : decode cX4_tallyEggs 26 = .ok (.aload_n 0, 1) := by decide +kernel
theorem dX4_tallyEggs_27 : decode cX4_tallyEggs 27 = .ok (.getfield 54, 3) := by decide +kernel
theorem dX4_tallyEggs_30 : decode cX4_tallyEggs 30 = .ok (.iload_n 2, 1) := by decide +kernel
theorem dX4_tallyEggs_31 : decode cX4_tallyEggs 31 = .ok (.iload_n 1, 1) := by decide +kernel
theorem dX4_tallyEggs_32 : decode cX4_tallyEggs 32 = .ok (.invokestatic 228, 3) := by decide +kernel
theorem dX4_tallyEggs_35 : decode cX4_tallyEggs 35 = .ok (.dup2, 1) := by decide +kernel
theorem dX4_tallyEggs_36 : decode cX4_tallyEggs 36 = .ok (.iaload, 1) := by decide +kernel
theorem dX4_tallyEggs_37 : decode cX4_tallyEggs 37 = .ok (.iconst 1, 1) := by decide +kernel
theorem dX4_tallyEggs_38 : decode cX4_tallyEggs 38 = .ok (.iadd, 1) := by decide +kernel
theorem dX4_tallyEggs_39 : decode cX4_tallyEggs 39 = .ok (.iastore, 1) := by decide +kernel
theorem dX4_tallyEggs_40 : decode cX4_tallyEggs 40 = .ok (.iinc 2 1, 3) := by decide +kernel
theorem dX4_tallyEggs_43 : decode cX4_tallyEggs 43 = .ok (.goto (-41), 3) := by decide +kernel
theorem dX4_tallyEggs_46 : decode cX4_tallyEggs 46 = .ok (.return_, 1) := by decide +kernel
theorem dX4_gainOfMove_0 : decode cX4_gainOfMove 0 = .ok (.aload_n 0, 1) := by decide +kernel
theorem dX4_gainOfMove_1 : decode cX4_gainOfMove 1 = .ok (.getfield 29, 3) := by decide +kernel
theorem dX4_gainOfMove_4 : decode cX4_gainOfMove 4 = .ok (.getfield 90, 3) := by decide +kernel
theorem dX4_gainOfMove_7 : decode cX4_gainOfMove 7 = .ok (.iload_n 1, 1) := by decide +kernel
theorem dX4_gainOfMove_8 : decode cX4_gainOfMove 8 = .ok (.iaload, 1) := by decide +kernel
theorem dX4_gainOfMove_9 : decode cX4_gainOfMove 9 = .ok (.istore_n 3, 1) := by decide +kernel
theorem dX4_gainOfMove_10 : decode cX4_gainOfMove 10 = .ok (.aload_n 0, 1) := by decide +kernel
theorem dX4_gainOfMove_11 : decode cX4_gainOfMove 11 = .ok (.getfield 29, 3) := by decide +kernel
theorem dX4_gainOfMove_14 : decode cX4_gainOfMove 14 = .ok (.getfield 90, 3) := by decide +kernel
theorem dX4_gainOfMove_17 : decode cX4_gainOfMove 17 = .ok (.iload_n 2, 1) := by decide +kernel
theorem dX4_gainOfMove_18 : decode cX4_gainOfMove 18 = .ok (.iaload, 1) := by decide +kernel
theorem dX4_gainOfMove_19 : decode cX4_gainOfMove 19 = .ok (.istore 4, 2) := by decide +kernel
theorem dX4_gainOfMove_21 : decode cX4_gainOfMove 21 = .ok (.aload_n 0, 1) := by decide +kernel
theorem dX4_gainOfMove_22 : decode cX4_gainOfMove 22 = .ok (.getfield 54, 3) := by decide +kernel
theorem dX4_gainOfMove_25 : decode cX4_gainOfMove 25 = .ok (.iload_n 1, 1) := by decide +kernel
theorem dX4_gainOfMove_26 : decode cX4_gainOfMove 26 = .ok (.iload 4, 2) := by decide +kernel
theorem dX4_gainOfMove_28 : decode cX4_gainOfMove 28 = .ok (.invokestatic 228, 3) := by decide +kernel
theorem dX4_gainOfMove_31 : decode cX4_gainOfMove 31 = .ok (.iaload, 1) := by decide +kernel
theorem dX4_gainOfMove_32 : decode cX4_gainOfMove 32 = .ok (.aload_n 0, 1) := by decide +kernel
theorem dX4_gainOfMove_33 : decode cX4_gainOfMove 33 = .ok (.getfield 54, 3) := by decide +kernel
theorem dX4_gainOfMove_36 : decode cX4_gainOfMove 36 = .ok (.iload_n 2, 1) := by decide +kernel
theorem dX4_gainOfMove_37 : decode cX4_gainOfMove 37 = .ok (.iload_n 3, 1) := by decide +kernel
theorem dX4_gainOfMove_38 : decode cX4_gainOfMove 38 = .ok (.invokestatic 228, 3) := by decide +kernel
theorem dX4_gainOfMove_41 : decode cX4_gainOfMove 41 = .ok (.iaload, 1) := by decide +kernel
theorem dX4_gainOfMove_42 : decode cX4_gainOfMove 42 = .ok (.iadd, 1) := by decide +kernel
theorem dX4_gainOfMove_43 : decode cX4_gainOfMove 43 = .ok (.aload_n 0, 1) := by decide +kernel
theorem dX4_gainOfMove_44 : decode cX4_gainOfMove 44 = .ok (.getfield 54, 3) := by decide +kernel
theorem dX4_gainOfMove_47 : decode cX4_gainOfMove 47 = .ok (.iload_n 1, 1) := by decide +kernel
theorem dX4_gainOfMove_48 : decode cX4_gainOfMove 48 = .ok (.iload_n 3, 1) := by decide +kernel
theorem dX4_gainOfMove_49 : decode cX4_gainOfMove 49 = .ok (.invokestatic 228, 3) := by decide +kernel
theorem dX4_gainOfMove_52 : decode cX4_gainOfMove 52 = .ok (.iaload, 1) := by decide +kernel
theorem dX4_gainOfMove_53 : decode cX4_gainOfMove 53 = .ok (.isub, 1) := by decide +kernel
theorem dX4_gainOfMove_54 : decode cX4_gainOfMove 54 = .ok (.aload_n 0, 1) := by decide +kernel
theorem dX4_gainOfMove_55 : decode cX4_gainOfMove 55 = .ok (.getfield 54, 3) := by decide +kernel
theorem dX4_gainOfMove_58 : decode cX4_gainOfMove 58 = .ok (.iload_n 2, 1) := by decide +kernel
theorem dX4_gainOfMove_59 : decode cX4_gainOfMove 59 = .ok (.iload 4, 2) := by decide +kernel
theorem dX4_gainOfMove_61 : decode cX4_gainOfMove 61 = .ok (.invokestatic 228, 3) := by decide +kernel
theorem dX4_gainOfMove_64 : decode cX4_gainOfMove 64 = .ok (.iaload, 1) := by decide +kernel
theorem dX4_gainOfMove_65 : decode cX4_gainOfMove 65 = .ok (.isub, 1) := by decide +kernel
theorem dX4_gainOfMove_66 : decode cX4_gainOfMove 66 = .ok (.ireturn, 1) := by decide +kernel
theorem dX4_hitIndex_0 : decode cX4_hitIndex 0 = .ok (.iload_n 0, 1) := by decide +kernel
theorem dX4_hitIndex_1 : decode cX4_hitIndex 1 = .ok (.bipush 8, 2) := by decide +kernel
theorem dX4_hitIndex_3 : decode cX4_hitIndex 3 = .ok (.imul, 1) := by decide +kernel
theorem dX4_hitIndex_4 : decode cX4_hitIndex 4 = .ok (.iload_n 1, 1) := by decide +kernel
theorem dX4_hitIndex_5 : decode cX4_hitIndex 5 = .ok (.iadd, 1) := by decide +kernel
theorem dX4_hitIndex_6 : decode cX4_hitIndex 6 = .ok (.ireturn, 1) := by decide +kernel
theorem dX4_wouldBeSeen_0 : decode cX4_wouldBeSeen 0 = .ok (.aload_n 0, 1) := by decide +kernel
theorem dX4_wouldBeSeen_1 : decode cX4_wouldBeSeen 1 = .ok (.getfield 50, 3) := by decide +kernel
theorem dX4_wouldBeSeen_4 : decode cX4_wouldBeSeen 4 = .ok (.iload_n 1, 1) := by decide +kernel
theorem dX4_wouldBeSeen_5 : decode cX4_wouldBeSeen 5 = .ok (.invokevirtual 231, 3) := by decide +kernel
theorem dX4_wouldBeSeen_8 : decode cX4_wouldBeSeen 8 = .ok (.istore 4, 2) := by decide +kernel
theorem dX4_wouldBeSeen_10 : decode cX4_wouldBeSeen 10 = .ok (.aload_n 0, 1) := by decide +kernel
theorem dX4_wouldBeSeen_11 : decode cX4_wouldBeSeen 11 = .ok (.getfield 33, 3) := by decide +kernel
theorem dX4_wouldBeSeen_14 : decode cX4_wouldBeSeen 14 = .ok (.aload_n 0, 1) := by decide +kernel
theorem dX4_wouldBeSeen_15 : decode cX4_wouldBeSeen 15 = .ok (.getfield 29, 3) := by decide +kernel
theorem dX4_wouldBeSeen_18 : decode cX4_wouldBeSeen 18 = .ok (.invokevirtual 163, 3) := by decide +kernel
theorem dX4_wouldBeSeen_21 : decode cX4_wouldBeSeen 21 = .ok (.aload_n 0, 1) := by decide +kernel
theorem dX4_wouldBeSeen_22 : decode cX4_wouldBeSeen 22 = .ok (.getfield 33, 3) := by decide +kernel
theorem dX4_wouldBeSeen_25 : decode cX4_wouldBeSeen 25 = .ok (.getfield 105, 3) := by decide +kernel
theorem dX4_wouldBeSeen_28 : decode cX4_wouldBeSeen 28 = .ok (.iload_n 1, 1) := by decide +kernel
theorem dX4_wouldBeSeen_29 : decode cX4_wouldBeSeen 29 = .ok (.iload_n 2, 1) := by decide +kernel
theorem dX4_wouldBeSeen_30 : decode cX4_wouldBeSeen 30 = .ok (.iastore, 1) := by decide +kernel
theorem dX4_wouldBeSeen_31 : decode cX4_wouldBeSeen 31 = .ok (.aload_n 0, 1) := by decide +kernel
theorem dX4_wouldBeSeen_32 : decode cX4_wouldBeSeen 32 = .ok (.getfield 33, 3) := by decide +kernel
theorem dX4_wouldBeSeen_35 : decode cX4_wouldBeSeen 35 = .ok (.getfield 108, 3) := by decide +kernel
theorem dX4_wouldBeSeen_38 : decode cX4_wouldBeSeen 38 = .ok (.iload_n 1, 1) := by decide +kernel
theorem dX4_wouldBeSeen_39 : decode cX4_wouldBeSeen 39 = .ok (.iload_n 3, 1) := by decide +kernel
theorem dX4_wouldBeSeen_40 : decode cX4_wouldBeSeen 40 = .ok (.iastore, 1) := by decide +kernel
theorem dX4_wouldBeSeen_41 : decode cX4_wouldBeSeen 41 = .ok (.iconst 1, 1) := by decide +kernel
theorem dX4_wouldBeSeen_42 : decode cX4_wouldBeSeen 42 = .ok (.istore 5, 2) := by decide +kernel
theorem dX4_wouldBeSeen_44 : decode cX4_wouldBeSeen 44 = .ok (.iload 5, 2) := by decide +kernel
theorem dX4_wouldBeSeen_46 : decode cX4_wouldBeSeen 46 = .ok (.iload 4, 2) := by decide +kernel
theorem dX4_wouldBeSeen_48 : decode cX4_wouldBeSeen 48 = .ok (.if_icmp .gt 43, 3) := by decide +kernel
theorem dX4_wouldBeSeen_51 : decode cX4_wouldBeSeen 51 = .ok (.aload_n 0, 1) := by decide +kernel
theorem dX4_wouldBeSeen_52 : decode cX4_wouldBeSeen 52 = .ok (.getfield 33, 3) := by decide +kernel
theorem dX4_wouldBeSeen_55 : decode cX4_wouldBeSeen 55 = .ok (.aload_n 0, 1) := by decide +kernel
theorem dX4_wouldBeSeen_56 : decode cX4_wouldBeSeen 56 = .ok (.getfield 19, 3) := by decide +kernel
theorem dX4_wouldBeSeen_59 : decode cX4_wouldBeSeen 59 = .ok (.invokevirtual 140, 3) := by decide +kernel
theorem dX4_wouldBeSeen_62 : decode cX4_wouldBeSeen 62 = .ok (.aload_n 0, 1) := by decide +kernel
theorem dX4_wouldBeSeen_63 : decode cX4_wouldBeSeen 63 = .ok (.getfield 50, 3) := by decide +kernel
theorem dX4_wouldBeSeen_66 : decode cX4_wouldBeSeen 66 = .ok (.iload_n 1, 1) := by decide +kernel
theorem dX4_wouldBeSeen_67 : decode cX4_wouldBeSeen 67 = .ok (.iload 5, 2) := by decide +kernel
theorem dX4_wouldBeSeen_69 : decode cX4_wouldBeSeen 69 = .ok (.aload_n 0, 1) := by decide +kernel
theorem dX4_wouldBeSeen_70 : decode cX4_wouldBeSeen 70 = .ok (.getfield 33, 3) := by decide +kernel
theorem dX4_wouldBeSeen_73 : decode cX4_wouldBeSeen 73 = .ok (.iload_n 1, 1) := by decide +kernel
theorem dX4_wouldBeSeen_74 : decode cX4_wouldBeSeen 74 = .ok (.invokevirtual 170, 3) := by decide +kernel
theorem dX4_wouldBeSeen_77 : decode cX4_wouldBeSeen 77 = .ok (.invokevirtual 234, 3) := by decide +kernel
theorem dX4_wouldBeSeen_80 : decode cX4_wouldBeSeen 80 = .ok (.ifCond .ne 5, 3) := by decide +kernel
theorem dX4_wouldBeSeen_83 : decode cX4_wouldBeSeen 83 = .ok (.iconst 0, 1) := by decide +kernel
theorem dX4_wouldBeSeen_84 : decode cX4_wouldBeSeen 84 = .ok (.ireturn, 1) := by decide +kernel
theorem dX4_wouldBeSeen_85 : decode cX4_wouldBeSeen 85 = .ok (.iinc 5 1, 3) := by decide +kernel
theorem dX4_wouldBeSeen_88 : decode cX4_wouldBeSeen 88 = .ok (.goto (-44), 3) := by decide +kernel
theorem dX4_wouldBeSeen_91 : decode cX4_wouldBeSeen 91 = .ok (.iconst 1, 1) := by decide +kernel
theorem dX4_wouldBeSeen_92 : decode cX4_wouldBeSeen 92 = .ok (.ireturn, 1) := by decide +kernel
theorem dX4_daysToFirstRight_0 : decode cX4_daysToFirstRight 0 = .ok (.aload_n 0, 1) := by decide +kernel
theorem dX4_daysToFirstRight_1 : decode cX4_daysToFirstRight 1 = .ok (.getfield 33, 3) := by decide +kernel
theorem dX4_daysToFirstRight_4 : decode cX4_daysToFirstRight 4 = .ok (.aload_n 0, 1) := by decide +kernel
theorem dX4_daysToFirstRight_5 : decode cX4_daysToFirstRight 5 = .ok (.getfield 29, 3) := by decide +kernel
theorem dX4_daysToFirstRight_8 : decode cX4_daysToFirstRight 8 = .ok (.invokevirtual 163, 3) := by decide +kernel
theorem dX4_daysToFirstRight_11 : decode cX4_daysToFirstRight 11 = .ok (.iconst 1, 1) := by decide +kernel
theorem dX4_daysToFirstRight_12 : decode cX4_daysToFirstRight 12 = .ok (.istore_n 3, 1) := by decide +kernel
theorem dX4_daysToFirstRight_13 : decode cX4_daysToFirstRight 13 = .ok (.iload_n 3, 1) := by decide +kernel
theorem dX4_daysToFirstRight_14 : decode cX4_daysToFirstRight 14 = .ok (.iload_n 2, 1) := by decide +kernel
theorem dX4_daysToFirstRight_15 : decode cX4_daysToFirstRight 15 = .ok (.if_icmp .gt 30, 3) := by decide +kernel
theorem dX4_daysToFirstRight_18 : decode cX4_daysToFirstRight 18 = .ok (.aload_n 0, 1) := by decide +kernel
theorem dX4_daysToFirstRight_19 : decode cX4_daysToFirstRight 19 = .ok (.getfield 33, 3) := by decide +kernel
theorem dX4_daysToFirstRight_22 : decode cX4_daysToFirstRight 22 = .ok (.aload_n 0, 1) := by decide +kernel
theorem dX4_daysToFirstRight_23 : decode cX4_daysToFirstRight 23 = .ok (.getfield 19, 3) := by decide +kernel
theorem dX4_daysToFirstRight_26 : decode cX4_daysToFirstRight 26 = .ok (.invokevirtual 140, 3) := by decide +kernel
theorem dX4_daysToFirstRight_29 : decode cX4_daysToFirstRight 29 = .ok (.aload_n 0, 1) := by decide +kernel
theorem dX4_daysToFirstRight_30 : decode cX4_daysToFirstRight 30 = .ok (.iload_n 1, 1) := by decide +kernel
theorem dX4_daysToFirstRight_31 : decode cX4_daysToFirstRight 31 = .ok (.invokevirtual 174, 3) := by decide +kernel
theorem dX4_daysToFirstRight_34 : decode cX4_daysToFirstRight 34 = .ok (.ifCond .le 5, 3) := by decide +kernel
theorem dX4_daysToFirstRight_37 : decode cX4_daysToFirstRight 37 = .ok (.iload_n 3, 1) := by decide +kernel
theorem dX4_daysToFirstRight_38 : decode cX4_daysToFirstRight 38 = .ok (.ireturn, 1) := by decide +kernel
theorem dX4_daysToFirstRight_39 : decode cX4_daysToFirstRight 39 = .ok (.iinc 3 1, 3) := by decide +kernel
theorem dX4_daysToFirstRight_42 : decode cX4_daysToFirstRight 42 = .ok (.goto (-29), 3) := by decide +kernel
theorem dX4_daysToFirstRight_45 : decode cX4_daysToFirstRight 45 = .ok (.iconst (-1), 1) := by decide +kernel
theorem dX4_daysToFirstRight_46 : decode cX4_daysToFirstRight 46 = .ok (.ireturn, 1) := by decide +kernel
theorem dX4_power_0 : decode cX4_power 0 = .ok (.iconst 1, 1) := by decide +kernel
theorem dX4_power_1 : decode cX4_power 1 = .ok (.istore_n 2, 1) := by decide +kernel
theorem dX4_power_2 : decode cX4_power 2 = .ok (.iconst 0, 1) := by decide +kernel
theorem dX4_power_3 : decode cX4_power 3 = .ok (.istore_n 3, 1) := by decide +kernel
theorem dX4_power_4 : decode cX4_power 4 = .ok (.iload_n 3, 1) := by decide +kernel
theorem dX4_power_5 : decode cX4_power 5 = .ok (.iload_n 1, 1) := by decide +kernel
theorem dX4_power_6 : decode cX4_power 6 = .ok (.if_icmp .ge 13, 3) := by decide +kernel
theorem dX4_power_9 : decode cX4_power 9 = .ok (.iload_n 2, 1) := by decide +kernel
theorem dX4_power_10 : decode cX4_power 10 = .ok (.iload_n 0, 1) := by decide +kernel
theorem dX4_power_11 : decode cX4_power 11 = .ok (.imul, 1) := by decide +kernel
theorem dX4_power_12 : decode cX4_power 12 = .ok (.istore_n 2, 1) := by decide +kernel
theorem dX4_power_13 : decode cX4_power 13 = .ok (.iinc 3 1, 3) := by decide +kernel
theorem dX4_power_16 : decode cX4_power 16 = .ok (.goto (-12), 3) := by decide +kernel
theorem dX4_power_19 : decode cX4_power 19 = .ok (.iload_n 2, 1) := by decide +kernel
theorem dX4_power_20 : decode cX4_power 20 = .ok (.ireturn, 1) := by decide +kernel
theorem dX4_commonDivisor_0 : decode cX4_commonDivisor 0 = .ok (.iload_n 1, 1) := by decide +kernel
theorem dX4_commonDivisor_1 : decode cX4_commonDivisor 1 = .ok (.istore_n 2, 1) := by decide +kernel
theorem dX4_commonDivisor_2 : decode cX4_commonDivisor 2 = .ok (.iload_n 0, 1) := by decide +kernel
theorem dX4_commonDivisor_3 : decode cX4_commonDivisor 3 = .ok (.istore_n 3, 1) := by decide +kernel
theorem dX4_commonDivisor_4 : decode cX4_commonDivisor 4 = .ok (.iconst 0, 1) := by decide +kernel
theorem dX4_commonDivisor_5 : decode cX4_commonDivisor 5 = .ok (.istore 4, 2) := by decide +kernel
theorem dX4_commonDivisor_7 : decode cX4_commonDivisor 7 = .ok (.iload 4, 2) := by decide +kernel
theorem dX4_commonDivisor_9 : decode cX4_commonDivisor 9 = .ok (.bipush 64, 2) := by decide +kernel
theorem dX4_commonDivisor_11 : decode cX4_commonDivisor 11 = .ok (.if_icmp .ge 23, 3) := by decide +kernel
theorem dX4_commonDivisor_14 : decode cX4_commonDivisor 14 = .ok (.iload_n 3, 1) := by decide +kernel
theorem dX4_commonDivisor_15 : decode cX4_commonDivisor 15 = .ok (.ifCond .le 19, 3) := by decide +kernel
theorem dX4_commonDivisor_18 : decode cX4_commonDivisor 18 = .ok (.iload_n 2, 1) := by decide +kernel
theorem dX4_commonDivisor_19 : decode cX4_commonDivisor 19 = .ok (.iload_n 3, 1) := by decide +kernel
theorem dX4_commonDivisor_20 : decode cX4_commonDivisor 20 = .ok (.irem, 1) := by decide +kernel
theorem dX4_commonDivisor_21 : decode cX4_commonDivisor 21 = .ok (.istore 5, 2) := by decide +kernel
theorem dX4_commonDivisor_23 : decode cX4_commonDivisor 23 = .ok (.iload_n 3, 1) := by decide +kernel
theorem dX4_commonDivisor_24 : decode cX4_commonDivisor 24 = .ok (.istore_n 2, 1) := by decide +kernel
theorem dX4_commonDivisor_25 : decode cX4_commonDivisor 25 = .ok (.iload 5, 2) := by decide +kernel
theorem dX4_commonDivisor_27 : decode cX4_commonDivisor 27 = .ok (.istore_n 3, 1) := by decide +kernel
theorem dX4_commonDivisor_28 : decode cX4_commonDivisor 28 = .ok (.iinc 4 1, 3) := by decide +kernel
theorem dX4_commonDivisor_31 : decode cX4_commonDivisor 31 = .ok (.goto (-24), 3) := by decide +kernel
theorem dX4_commonDivisor_34 : decode cX4_commonDivisor 34 = .ok (.iload_n 2, 1) := by decide +kernel
theorem dX4_commonDivisor_35 : decode cX4_commonDivisor 35 = .ok (.ireturn, 1) := by decide +kernel
theorem dX4_sum_0 : decode cX4_sum 0 = .ok (.iconst 0, 1) := by decide +kernel
theorem dX4_sum_1 : decode cX4_sum 1 = .ok (.istore_n 1, 1) := by decide +kernel
theorem dX4_sum_2 : decode cX4_sum 2 = .ok (.iconst 0, 1) := by decide +kernel
theorem dX4_sum_3 : decode cX4_sum 3 = .ok (.istore_n 2, 1) := by decide +kernel
theorem dX4_sum_4 : decode cX4_sum 4 = .ok (.iload_n 2, 1) := by decide +kernel
theorem dX4_sum_5 : decode cX4_sum 5 = .ok (.aload_n 0, 1) := by decide +kernel
theorem dX4_sum_6 : decode cX4_sum 6 = .ok (.arraylength, 1) := by decide +kernel
theorem dX4_sum_7 : decode cX4_sum 7 = .ok (.if_icmp .ge 15, 3) := by decide +kernel
theorem dX4_sum_10 : decode cX4_sum 10 = .ok (.iload_n 1, 1) := by decide +kernel
theorem dX4_sum_11 : decode cX4_sum 11 = .ok (.aload_n 0, 1) := by decide +kernel
theorem dX4_sum_12 : decode cX4_sum 12 = .ok (.iload_n 2, 1) := by decide +kernel
theorem dX4_sum_13 : decode cX4_sum 13 = .ok (.iaload, 1) := by decide +kernel
theorem dX4_sum_14 : decode cX4_sum 14 = .ok (.iadd, 1) := by decide +kernel
theorem dX4_sum_15 : decode cX4_sum 15 = .ok (.istore_n 1, 1) := by decide +kernel
theorem dX4_sum_16 : decode cX4_sum 16 = .ok (.iinc 2 1, 3) := by decide +kernel
theorem dX4_sum_19 : decode cX4_sum 19 = .ok (.goto (-15), 3) := by decide +kernel
theorem dX4_sum_22 : decode cX4_sum 22 = .ok (.iload_n 1, 1) := by decide +kernel
theorem dX4_sum_23 : decode cX4_sum 23 = .ok (.ireturn, 1) := by decide +kernel
theorem dJ9_floorMod_7cf53_0 : decode cJ9_floorMod_7cf53 0 = .ok (.iload_n 0, 1) := by decide +kernel
theorem dJ9_floorMod_7cf53_1 : decode cJ9_floorMod_7cf53 1 = .ok (.iload_n 1, 1) := by decide +kernel
theorem dJ9_floorMod_7cf53_2 : decode cJ9_floorMod_7cf53 2 = .ok (.irem, 1) := by decide +kernel
theorem dJ9_floorMod_7cf53_3 : decode cJ9_floorMod_7cf53 3 = .ok (.istore_n 2, 1) := by decide +kernel
theorem dJ9_floorMod_7cf53_4 : decode cJ9_floorMod_7cf53 4 = .ok (.iload_n 0, 1) := by decide +kernel
theorem dJ9_floorMod_7cf53_5 : decode cJ9_floorMod_7cf53 5 = .ok (.iload_n 1, 1) := by decide +kernel
theorem dJ9_floorMod_7cf53_6 : decode cJ9_floorMod_7cf53 6 = .ok (.ixor, 1) := by decide +kernel
theorem dJ9_floorMod_7cf53_7 : decode cJ9_floorMod_7cf53 7 = .ok (.ifCond .ge 11, 3) := by decide +kernel
theorem dJ9_floorMod_7cf53_10 : decode cJ9_floorMod_7cf53 10 = .ok (.iload_n 2, 1) := by decide +kernel
theorem dJ9_floorMod_7cf53_11 : decode cJ9_floorMod_7cf53 11 = .ok (.ifCond .eq 7, 3) := by decide +kernel
theorem dJ9_floorMod_7cf53_14 : decode cJ9_floorMod_7cf53 14 = .ok (.iload_n 2, 1) := by decide +kernel
theorem dJ9_floorMod_7cf53_15 : decode cJ9_floorMod_7cf53 15 = .ok (.iload_n 1, 1) := by decide +kernel
theorem dJ9_floorMod_7cf53_16 : decode cJ9_floorMod_7cf53 16 = .ok (.iadd, 1) := by decide +kernel
theorem dJ9_floorMod_7cf53_17 : decode cJ9_floorMod_7cf53 17 = .ok (.ireturn, 1) := by decide +kernel
theorem dJ9_floorMod_7cf53_18 : decode cJ9_floorMod_7cf53 18 = .ok (.iload_n 2, 1) := by decide +kernel
theorem dJ9_floorMod_7cf53_19 : decode cJ9_floorMod_7cf53 19 = .ok (.ireturn, 1) := by decide +kernel
theorem dJ9_max_7cf53_0 : decode cJ9_max_7cf53 0 = .ok (.iload_n 0, 1) := by decide +kernel
theorem dJ9_max_7cf53_1 : decode cJ9_max_7cf53 1 = .ok (.iload_n 1, 1) := by decide +kernel
theorem dJ9_max_7cf53_2 : decode cJ9_max_7cf53 2 = .ok (.if_icmp .lt 7, 3) := by decide +kernel
theorem dJ9_max_7cf53_5 : decode cJ9_max_7cf53 5 = .ok (.iload_n 0, 1) := by decide +kernel
theorem dJ9_max_7cf53_6 : decode cJ9_max_7cf53 6 = .ok (.goto 4, 3) := by decide +kernel
theorem dJ9_max_7cf53_9 : decode cJ9_max_7cf53 9 = .ok (.iload_n 1, 1) := by decide +kernel
theorem dJ9_max_7cf53_10 : decode cJ9_max_7cf53 10 = .ok (.ireturn, 1) := by decide +kernel
theorem dJ0_length_8abf5_0 : decode cJ0_length_8abf5 0 = .ok (.aload_n 0, 1) := by decide +kernel
theorem dJ0_length_8abf5_1 : decode cJ0_length_8abf5 1 = .ok (.getfield 9, 3) := by decide +kernel
theorem dJ0_length_8abf5_4 : decode cJ0_length_8abf5 4 = .ok (.arraylength, 1) := by decide +kernel
theorem dJ0_length_8abf5_5 : decode cJ0_length_8abf5 5 = .ok (.aload_n 0, 1) := by decide +kernel
theorem dJ0_length_8abf5_6 : decode cJ0_length_8abf5 6 = .ok (.invokevirtual 335, 3) := by decide +kernel
theorem dJ0_length_8abf5_9 : decode cJ0_length_8abf5 9 = .ok (.ishr, 1) := by decide +kernel
theorem dJ0_length_8abf5_10 : decode cJ0_length_8abf5 10 = .ok (.ireturn, 1) := by decide +kernel
theorem dJ0_charAt_5068e_0 : decode cJ0_charAt_5068e 0 = .ok (.aload_n 0, 1) := by decide +kernel
theorem dJ0_charAt_5068e_1 : decode cJ0_charAt_5068e 1 = .ok (.invokevirtual 492, 3) := by decide +kernel
theorem dJ0_charAt_5068e_4 : decode cJ0_charAt_5068e 4 = .ok (.ifCond .eq 12, 3) := by decide +kernel
theorem dJ0_charAt_5068e_7 : decode cJ0_charAt_5068e 7 = .ok (.aload_n 0, 1) := by decide +kernel
theorem dJ0_charAt_5068e_8 : decode cJ0_charAt_5068e 8 = .ok (.getfield 9, 3) := by decide +kernel
theorem dJ0_charAt_5068e_11 : decode cJ0_charAt_5068e 11 = .ok (.iload_n 1, 1) := by decide +kernel
theorem dJ0_charAt_5068e_12 : decode cJ0_charAt_5068e 12 = .ok (.invokestatic 495, 3) := by decide +kernel
theorem dJ0_charAt_5068e_15 : decode cJ0_charAt_5068e 15 = .ok (.ireturn, 1) := by decide +kernel
theorem dJ0_charAt_5068e_16 : decode cJ0_charAt_5068e 16 = .ok (.aload_n 0, 1) := by decide +kernel
theorem dJ0_charAt_5068e_17 : decode cJ0_charAt_5068e 17 = .ok (.getfield 9, 3) := by decide +kernel
theorem dJ0_charAt_5068e_20 : decode cJ0_charAt_5068e 20 = .ok (.iload_n 1, 1) := by decide +kernel
theorem dJ0_charAt_5068e_21 : decode cJ0_charAt_5068e 21 = .ok (.invokestatic 498, 3) := by decide +kernel
theorem dJ0_charAt_5068e_24 : decode cJ0_charAt_5068e 24 = .ok (.ireturn, 1) := by decide +kernel
theorem dJ0_coder_7d493_0 : decode cJ0_coder_7d493 0 = .ok (.getstatic 38, 3) := by decide +kernel
theorem dJ0_coder_7d493_3 : decode cJ0_coder_7d493 3 = .ok (.ifCond .eq 10, 3) := by decide +kernel
theorem dJ0_coder_7d493_6 : decode cJ0_coder_7d493 6 = .ok (.aload_n 0, 1) := by decide +kernel
theorem dJ0_coder_7d493_7 : decode cJ0_coder_7d493 7 = .ok (.getfield 15, 3) := by decide +kernel
theorem dJ0_coder_7d493_10 : decode cJ0_coder_7d493 10 = .ok (.goto 4, 3) := by decide +kernel
theorem dJ0_coder_7d493_13 : decode cJ0_coder_7d493 13 = .ok (.iconst 1, 1) := by decide +kernel
theorem dJ0_coder_7d493_14 : decode cJ0_coder_7d493 14 = .ok (.ireturn, 1) := by decide +kernel
theorem dJ0_isLatin1_aae02_0 : decode cJ0_isLatin1_aae02 0 = .ok (.getstatic 38, 3) := by decide +kernel
theorem dJ0_isLatin1_aae02_3 : decode cJ0_isLatin1_aae02 3 = .ok (.ifCond .eq 14, 3) := by decide +kernel
theorem dJ0_isLatin1_aae02_6 : decode cJ0_isLatin1_aae02 6 = .ok (.aload_n 0, 1) := by decide +kernel
theorem dJ0_isLatin1_aae02_7 : decode cJ0_isLatin1_aae02 7 = .ok (.getfield 15, 3) := by decide +kernel
theorem dJ0_isLatin1_aae02_10 : decode cJ0_isLatin1_aae02 10 = .ok (.ifCond .ne 7, 3) := by decide +kernel
theorem dJ0_isLatin1_aae02_13 : decode cJ0_isLatin1_aae02 13 = .ok (.iconst 1, 1) := by decide +kernel
theorem dJ0_isLatin1_aae02_14 : decode cJ0_isLatin1_aae02 14 = .ok (.goto 4, 3) := by decide +kernel
theorem dJ0_isLatin1_aae02_17 : decode cJ0_isLatin1_aae02 17 = .ok (.iconst 0, 1) := by decide +kernel
theorem dJ0_isLatin1_aae02_18 : decode cJ0_isLatin1_aae02 18 = .ok (.ireturn, 1) := by decide +kernel
theorem dJ0_checkIndex_df160_0 : decode cJ0_checkIndex_df160 0 = .ok (.iload_n 0, 1) := by decide +kernel
theorem dJ0_checkIndex_df160_1 : decode cJ0_checkIndex_df160 1 = .ok (.iload_n 1, 1) := by decide +kernel
theorem dJ0_checkIndex_df160_2 : decode cJ0_checkIndex_df160 2 = .ok (.getstatic 1053, 3) := by decide +kernel
theorem dJ0_checkIndex_df160_5 : decode cJ0_checkIndex_df160 5 = .ok (.invokestatic 1059, 3) := by decide +kernel
theorem dJ0_checkIndex_df160_8 : decode cJ0_checkIndex_df160 8 = .ok (.pop, 1) := by decide +kernel
theorem dJ0_checkIndex_df160_9 : decode cJ0_checkIndex_df160 9 = .ok (.return_, 1) := by decide +kernel
theorem dJ1_charAt_3b067_0 : decode cJ1_charAt_3b067 0 = .ok (.iload_n 1, 1) := by decide +kernel
theorem dJ1_charAt_3b067_1 : decode cJ1_charAt_3b067 1 = .ok (.aload_n 0, 1) := by decide +kernel
theorem dJ1_charAt_3b067_2 : decode cJ1_charAt_3b067 2 = .ok (.arraylength, 1) := by decide +kernel
theorem dJ1_charAt_3b067_3 : decode cJ1_charAt_3b067 3 = .ok (.invokestatic 9, 3) := by decide +kernel
theorem dJ1_charAt_3b067_6 : decode cJ1_charAt_3b067 6 = .ok (.aload_n 0, 1) := by decide +kernel
theorem dJ1_charAt_3b067_7 : decode cJ1_charAt_3b067 7 = .ok (.iload_n 1, 1) := by decide +kernel
theorem dJ1_charAt_3b067_8 : decode cJ1_charAt_3b067 8 = .ok (.baload, 1) := by decide +kernel
theorem dJ1_charAt_3b067_9 : decode cJ1_charAt_3b067 9 = .ok (.sipush 255, 3) := by decide +kernel
theorem dJ1_charAt_3b067_12 : decode cJ1_charAt_3b067 12 = .ok (.iand, 1) := by decide +kernel
theorem dJ1_charAt_3b067_13 : decode cJ1_charAt_3b067 13 = .ok (.i2c, 1) := by decide +kernel
theorem dJ1_charAt_3b067_14 : decode cJ1_charAt_3b067 14 = .ok (.ireturn, 1) := by decide +kernel
theorem dJ2_getChar_3b067_0 : decode cJ2_getChar_3b067 0 = .ok (.getstatic 44, 3) := by decide +kernel
theorem dJ2_getChar_3b067_3 : decode cJ2_getChar_3b067 3 = .ok (.ifCond .ne 25, 3) := by decide +kernel
theorem dJ2_getChar_3b067_6 : decode cJ2_getChar_3b067 6 = .ok (.iload_n 1, 1) := by decide +kernel
theorem dJ2_getChar_3b067_7 : decode cJ2_getChar_3b067 7 = .ok (.ifCond .lt 11, 3) := by decide +kernel
theorem dJ2_getChar_3b067_10 : decode cJ2_getChar_3b067 10 = .ok (.iload_n 1, 1) := by decide +kernel
theorem dJ2_getChar_3b067_11 : decode cJ2_getChar_3b067 11 = .ok (.aload_n 0, 1) := by decide +kernel
theorem dJ2_getChar_3b067_12 : decode cJ2_getChar_3b067 12 = .ok (.invokestatic 48, 3) := by decide +kernel
theorem dJ2_getChar_3b067_15 : decode cJ2_getChar_3b067 15 = .ok (.if_icmp .lt 13, 3) := by decide +kernel
theorem dJ2_getChar_3b067_18 : decode cJ2_getChar_3b067 18 = .ok (.new 52, 3) := by decide +kernel
theorem dJ2_getChar_3b067_21 : decode cJ2_getChar_3b067 21 = .ok (.dup, 1) := by decide +kernel
theorem dJ2_getChar_3b067_22 : decode cJ2_getChar_3b067 22 = .ok (.ldc 54, 2) := by decide +kernel
theorem dJ2_getChar_3b067_24 : decode cJ2_getChar_3b067 24 = .ok (.invokespecial 56, 3) := by decide +kernel
theorem dJ2_getChar_3b067_27 : decode cJ2_getChar_3b067 27 = .ok (.athrow, 1) := by decide +kernel
theorem dJ2_getChar_3b067_28 : decode cJ2_getChar_3b067 28 = .ok (.iload_n 1, 1) := by decide +kernel
theorem dJ2_getChar_3b067_29 : decode cJ2_getChar_3b067 29 = .ok (.iconst 1, 1) := by decide +kernel
theorem dJ2_getChar_3b067_30 : decode cJ2_getChar_3b067 30 = .ok (.ishl, 1) := by decide +kernel
theorem dJ2_getChar_3b067_31 : decode cJ2_getChar_3b067 31 = .ok (.istore_n 1, 1) := by decide +kernel
theorem dJ2_getChar_3b067_32 : decode cJ2_getChar_3b067 32 = .ok (.aload_n 0, 1) := by decide +kernel
theorem dJ2_getChar_3b067_33 : decode cJ2_getChar_3b067 33 = .ok (.iload_n 1, 1) := by decide +kernel
theorem dJ2_getChar_3b067_34 : decode cJ2_getChar_3b067 34 = .ok (.iinc 1 1, 3) := by decide +kernel
theorem dJ2_getChar_3b067_37 : decode cJ2_getChar_3b067 37 = .ok (.baload, 1) := by decide +kernel
theorem dJ2_getChar_3b067_38 : decode cJ2_getChar_3b067 38 = .ok (.sipush 255, 3) := by decide +kernel
theorem dJ2_getChar_3b067_41 : decode cJ2_getChar_3b067 41 = .ok (.iand, 1) := by decide +kernel
theorem dJ2_getChar_3b067_42 : decode cJ2_getChar_3b067 42 = .ok (.getstatic 59, 3) := by decide +kernel
theorem dJ2_getChar_3b067_45 : decode cJ2_getChar_3b067 45 = .ok (.ishl, 1) := by decide +kernel
theorem dJ2_getChar_3b067_46 : decode cJ2_getChar_3b067 46 = .ok (.aload_n 0, 1) := by decide +kernel
theorem dJ2_getChar_3b067_47 : decode cJ2_getChar_3b067 47 = .ok (.iload_n 1, 1) := by decide +kernel
theorem dJ2_getChar_3b067_48 : decode cJ2_getChar_3b067 48 = .ok (.baload, 1) := by decide +kernel
theorem dJ2_getChar_3b067_49 : decode cJ2_getChar_3b067 49 = .ok (.sipush 255, 3) := by decide +kernel
theorem dJ2_getChar_3b067_52 : decode cJ2_getChar_3b067 52 = .ok (.iand, 1) := by decide +kernel
theorem dJ2_getChar_3b067_53 : decode cJ2_getChar_3b067 53 = .ok (.getstatic 63, 3) := by decide +kernel
theorem dJ2_getChar_3b067_56 : decode cJ2_getChar_3b067 56 = .ok (.ishl, 1) := by decide +kernel
theorem dJ2_getChar_3b067_57 : decode cJ2_getChar_3b067 57 = .ok (.ior, 1) := by decide +kernel
theorem dJ2_getChar_3b067_58 : decode cJ2_getChar_3b067 58 = .ok (.i2c, 1) := by decide +kernel
theorem dJ2_getChar_3b067_59 : decode cJ2_getChar_3b067 59 = .ok (.ireturn, 1) := by decide +kernel
theorem dJ2_length_9d52b_0 : decode cJ2_length_9d52b 0 = .ok (.aload_n 0, 1) := by decide +kernel
theorem dJ2_length_9d52b_1 : decode cJ2_length_9d52b 1 = .ok (.arraylength, 1) := by decide +kernel
theorem dJ2_length_9d52b_2 : decode cJ2_length_9d52b 2 = .ok (.iconst 1, 1) := by decide +kernel
theorem dJ2_length_9d52b_3 : decode cJ2_length_9d52b 3 = .ok (.ishr, 1) := by decide +kernel
theorem dJ2_length_9d52b_4 : decode cJ2_length_9d52b 4 = .ok (.ireturn, 1) := by decide +kernel
theorem dJ2_charAt_3b067_0 : decode cJ2_charAt_3b067 0 = .ok (.iload_n 1, 1) := by decide +kernel
theorem dJ2_charAt_3b067_1 : decode cJ2_charAt_3b067 1 = .ok (.aload_n 0, 1) := by decide +kernel
theorem dJ2_charAt_3b067_2 : decode cJ2_charAt_3b067 2 = .ok (.invokestatic 67, 3) := by decide +kernel
theorem dJ2_charAt_3b067_5 : decode cJ2_charAt_3b067 5 = .ok (.aload_n 0, 1) := by decide +kernel
theorem dJ2_charAt_3b067_6 : decode cJ2_charAt_3b067 6 = .ok (.iload_n 1, 1) := by decide +kernel
theorem dJ2_charAt_3b067_7 : decode cJ2_charAt_3b067 7 = .ok (.invokestatic 71, 3) := by decide +kernel
theorem dJ2_charAt_3b067_10 : decode cJ2_charAt_3b067 10 = .ok (.ireturn, 1) := by decide +kernel
theorem dJ2_checkIndex_2214a_0 : decode cJ2_checkIndex_2214a 0 = .ok (.iload_n 0, 1) := by decide +kernel
theorem dJ2_checkIndex_2214a_1 : decode cJ2_checkIndex_2214a 1 = .ok (.aload_n 1, 1) := by decide +kernel
theorem dJ2_checkIndex_2214a_2 : decode cJ2_checkIndex_2214a 2 = .ok (.invokestatic 48, 3) := by decide +kernel
theorem dJ2_checkIndex_2214a_5 : decode cJ2_checkIndex_2214a 5 = .ok (.invokestatic 414, 3) := by decide +kernel
theorem dJ2_checkIndex_2214a_8 : decode cJ2_checkIndex_2214a 8 = .ok (.return_, 1) := by decide +kernel
theorem dJ7_fill_53178_0 : decode cJ7_fill_53178 0 = .ok (.iconst 0, 1) := by decide +kernel
theorem dJ7_fill_53178_1 : decode cJ7_fill_53178 1 = .ok (.istore_n 2, 1) := by decide +kernel
theorem dJ7_fill_53178_2 : decode cJ7_fill_53178 2 = .ok (.aload_n 0, 1) := by decide +kernel
theorem dJ7_fill_53178_3 : decode cJ7_fill_53178 3 = .ok (.arraylength, 1) := by decide +kernel
theorem dJ7_fill_53178_4 : decode cJ7_fill_53178 4 = .ok (.istore_n 3, 1) := by decide +kernel
theorem dJ7_fill_53178_5 : decode cJ7_fill_53178 5 = .ok (.iload_n 2, 1) := by decide +kernel
theorem dJ7_fill_53178_6 : decode cJ7_fill_53178 6 = .ok (.iload_n 3, 1) := by decide +kernel
theorem dJ7_fill_53178_7 : decode cJ7_fill_53178 7 = .ok (.if_icmp .ge 13, 3) := by decide +kernel
theorem dJ7_fill_53178_10 : decode cJ7_fill_53178 10 = .ok (.aload_n 0, 1) := by decide +kernel
theorem dJ7_fill_53178_11 : decode cJ7_fill_53178 11 = .ok (.iload_n 2, 1) := by decide +kernel
theorem dJ7_fill_53178_12 : decode cJ7_fill_53178 12 = .ok (.iload_n 1, 1) := by decide +kernel
theorem dJ7_fill_53178_13 : decode cJ7_fill_53178 13 = .ok (.iastore, 1) := by decide +kernel
theorem dJ7_fill_53178_14 : decode cJ7_fill_53178 14 = .ok (.iinc 2 1, 3) := by decide +kernel
theorem dJ7_fill_53178_17 : decode cJ7_fill_53178 17 = .ok (.goto (-12), 3) := by decide +kernel
theorem dJ7_fill_53178_20 : decode cJ7_fill_53178 20 = .ok (.return_, 1) := by decide +kernel
theorem dJ3_checkIndex_8e157_0 : decode cJ3_checkIndex_8e157 0 = .ok (.iload_n 0, 1) := by decide +kernel
theorem dJ3_checkIndex_8e157_1 : decode cJ3_checkIndex_8e157 1 = .ok (.ifCond .lt 8, 3) := by decide +kernel
theorem dJ3_checkIndex_8e157_4 : decode cJ3_checkIndex_8e157 4 = .ok (.iload_n 0, 1) := by decide +kernel
theorem dJ3_checkIndex_8e157_5 : decode cJ3_checkIndex_8e157 5 = .ok (.iload_n 1, 1) := by decide +kernel
theorem dJ3_checkIndex_8e157_6 : decode cJ3_checkIndex_8e157 6 = .ok (.if_icmp .lt 10, 3) := by decide +kernel
theorem dJ3_checkIndex_8e157_9 : decode cJ3_checkIndex_8e157 9 = .ok (.aload_n 2, 1) := by decide +kernel
theorem dJ3_checkIndex_8e157_10 : decode cJ3_checkIndex_8e157 10 = .ok (.iload_n 0, 1) := by decide +kernel
theorem dJ3_checkIndex_8e157_11 : decode cJ3_checkIndex_8e157 11 = .ok (.iload_n 1, 1) := by decide +kernel
theorem dJ3_checkIndex_8e157_12 : decode cJ3_checkIndex_8e157 12 = .ok (.invokestatic 95, 3) := by decide +kernel
theorem dJ3_checkIndex_8e157_15 : decode cJ3_checkIndex_8e157 15 = .ok (.athrow, 1) := by decide +kernel
theorem dJ3_checkIndex_8e157_16 : decode cJ3_checkIndex_8e157 16 = .ok (.iload_n 0, 1) := by decide +kernel
theorem dJ3_checkIndex_8e157_17 : decode cJ3_checkIndex_8e157 17 = .ok (.ireturn, 1) := by decide +kernel

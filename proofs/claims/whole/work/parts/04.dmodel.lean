theorem dX5_init_0 : decode cX5_init 0 = .ok (.aload_n 0, 1) := by decide +kernel
theorem dX5_init_1 : decode cX5_init 1 = .ok (.invokespecial 1, 3) := by decide +kernel
theorem dX5_init_4 : decode cX5_init 4 = .ok (.aload_n 0, 1) := by decide +kernel
theorem dX5_init_5 : decode cX5_init 5 = .ok (.bipush 50, 2) := by decide +kernel
theorem dX5_init_7 : decode cX5_init 7 = .ok (.newarray .int, 2) := by decide +kernel
theorem dX5_init_9 : decode cX5_init 9 = .ok (.putfield 7, 3) := by decide +kernel
theorem dX5_init_12 : decode cX5_init 12 = .ok (.aload_n 0, 1) := by decide +kernel
theorem dX5_init_13 : decode cX5_init 13 = .ok (.bipush 50, 2) := by decide +kernel
theorem dX5_init_15 : decode cX5_init 15 = .ok (.newarray .int, 2) := by decide +kernel
theorem dX5_init_17 : decode cX5_init 17 = .ok (.putfield 13, 3) := by decide +kernel
theorem dX5_init_20 : decode cX5_init 20 = .ok (.aload_n 0, 1) := by decide +kernel
theorem dX5_init_21 : decode cX5_init 21 = .ok (.bipush 52, 2) := by decide +kernel
theorem dX5_init_23 : decode cX5_init 23 = .ok (.newarray .int, 2) := by decide +kernel
theorem dX5_init_25 : decode cX5_init 25 = .ok (.putfield 16, 3) := by decide +kernel
theorem dX5_init_28 : decode cX5_init 28 = .ok (.aload_n 0, 1) := by decide +kernel
theorem dX5_init_29 : decode cX5_init 29 = .ok (.sipush 416, 3) := by decide +kernel
theorem dX5_init_32 : decode cX5_init 32 = .ok (.newarray .int, 2) := by decide +kernel
theorem dX5_init_34 : decode cX5_init 34 = .ok (.putfield 19, 3) := by decide +kernel
theorem dX5_init_37 : decode cX5_init 37 = .ok (.aload_n 0, 1) := by decide +kernel
theorem dX5_init_38 : decode cX5_init 38 = .ok (.bipush 104, 2) := by decide +kernel
theorem dX5_init_40 : decode cX5_init 40 = .ok (.newarray .int, 2) := by decide +kernel
theorem dX5_init_42 : decode cX5_init 42 = .ok (.putfield 22, 3) := by decide +kernel
theorem dX5_init_45 : decode cX5_init 45 = .ok (.aload_n 0, 1) := by decide +kernel
theorem dX5_init_46 : decode cX5_init 46 = .ok (.iconst 2, 1) := by decide +kernel
theorem dX5_init_47 : decode cX5_init 47 = .ok (.newarray .boolean, 2) := by decide +kernel
theorem dX5_init_49 : decode cX5_init 49 = .ok (.putfield 25, 3) := by decide +kernel
theorem dX5_init_52 : decode cX5_init 52 = .ok (.aload_n 0, 1) := by decide +kernel
theorem dX5_init_53 : decode cX5_init 53 = .ok (.sipush 160, 3) := by decide +kernel
theorem dX5_init_56 : decode cX5_init 56 = .ok (.newarray .int, 2) := by decide +kernel
theorem dX5_init_58 : decode cX5_init 58 = .ok (.putfield 29, 3) := by decide +kernel
theorem dX5_init_61 : decode cX5_init 61 = .ok (.aload_n 0, 1) := by decide +kernel
theorem dX5_init_62 : decode cX5_init 62 = .ok (.bipush 18, 2) := by decide +kernel
theorem dX5_init_64 : decode cX5_init 64 = .ok (.newarray .int, 2) := by decide +kernel
theorem dX5_init_66 : decode cX5_init 66 = .ok (.putfield 32, 3) := by decide +kernel
theorem dX5_init_69 : decode cX5_init 69 = .ok (.aload_n 0, 1) := by decide +kernel
theorem dX5_init_70 : decode cX5_init 70 = .ok (.iconst 5, 1) := by decide +kernel
theorem dX5_init_71 : decode cX5_init 71 = .ok (.newarray .int, 2) := by decide +kernel
theorem dX5_init_73 : decode cX5_init 73 = .ok (.putfield 35, 3) := by decide +kernel
theorem dX5_init_76 : decode cX5_init 76 = .ok (.aload_n 0, 1) := by decide +kernel
theorem dX5_init_77 : decode cX5_init 77 = .ok (.iconst 5, 1) := by decide +kernel
theorem dX5_init_78 : decode cX5_init 78 = .ok (.newarray .int, 2) := by decide +kernel
theorem dX5_init_80 : decode cX5_init 80 = .ok (.putfield 38, 3) := by decide +kernel
theorem dX5_init_83 : decode cX5_init 83 = .ok (.aload_n 0, 1) := by decide +kernel
theorem dX5_init_84 : decode cX5_init 84 = .ok (.iconst 5, 1) := by decide +kernel
theorem dX5_init_85 : decode cX5_init 85 = .ok (.newarray .int, 2) := by decide +kernel
theorem dX5_init_87 : decode cX5_init 87 = .ok (.putfield 41, 3) := by decide +kernel
theorem dX5_init_90 : decode cX5_init 90 = .ok (.aload_n 0, 1) := by decide +kernel
theorem dX5_init_91 : decode cX5_init 91 = .ok (.bipush 52, 2) := by decide +kernel
theorem dX5_init_93 : decode cX5_init 93 = .ok (.newarray .int, 2) := by decide +kernel
theorem dX5_init_95 : decode cX5_init 95 = .ok (.putfield 44, 3) := by decide +kernel
theorem dX5_init_98 : decode cX5_init 98 = .ok (.aload_n 0, 1) := by decide +kernel
theorem dX5_init_99 : decode cX5_init 99 = .ok (.getfield 7, 3) := by decide +kernel
theorem dX5_init_102 : decode cX5_init 102 = .ok (.invokestatic 47, 3) := by decide +kernel
theorem dX5_init_105 : decode cX5_init 105 = .ok (.aload_n 0, 1) := by decide +kernel
theorem dX5_init_106 : decode cX5_init 106 = .ok (.invokevirtual 51, 3) := by decide +kernel
theorem dX5_init_109 : decode cX5_init 109 = .ok (.return_, 1) := by decide +kernel
theorem dX5_in_0 : decode cX5_in 0 = .ok (.lload_n 0, 1) := by decide +kernel
theorem dX5_in_1 : decode cX5_in 1 = .ok (.lload_n 2, 1) := by decide +kernel
theorem dX5_in_2 : decode cX5_in 2 = .ok (.lcmp, 1) := by decide +kernel
theorem dX5_in_3 : decode cX5_in 3 = .ok (.ifCond .lt 14, 3) := by decide +kernel
theorem dX5_in_6 : decode cX5_in 6 = .ok (.lload_n 0, 1) := by decide +kernel
theorem dX5_in_7 : decode cX5_in 7 = .ok (.lload 4, 2) := by decide +kernel
theorem dX5_in_9 : decode cX5_in 9 = .ok (.lcmp, 1) := by decide +kernel
theorem dX5_in_10 : decode cX5_in 10 = .ok (.ifCond .gt 7, 3) := by decide +kernel
theorem dX5_in_13 : decode cX5_in 13 = .ok (.iconst 1, 1) := by decide +kernel
theorem dX5_in_14 : decode cX5_in 14 = .ok (.goto 4, 3) := by decide +kernel
theorem dX5_in_17 : decode cX5_in 17 = .ok (.iconst 0, 1) := by decide +kernel
theorem dX5_in_18 : decode cX5_in 18 = .ok (.ireturn, 1) := by decide +kernel
theorem dX5_copies_0 : decode cX5_copies 0 = .ok (.iconst 0, 1) := by decide +kernel
theorem dX5_copies_1 : decode cX5_copies 1 = .ok (.istore 5, 2) := by decide +kernel
theorem dX5_copies_3 : decode cX5_copies 3 = .ok (.iload 5, 2) := by decide +kernel
theorem dX5_copies_5 : decode cX5_copies 5 = .ok (.iload 4, 2) := by decide +kernel
theorem dX5_copies_7 : decode cX5_copies 7 = .ok (.if_icmp .ge 21, 3) := by decide +kernel
theorem dX5_copies_10 : decode cX5_copies 10 = .ok (.aload_n 2, 1) := by decide +kernel
theorem dX5_copies_11 : decode cX5_copies 11 = .ok (.iload_n 3, 1) := by decide +kernel
theorem dX5_copies_12 : decode cX5_copies 12 = .ok (.iload 5, 2) := by decide +kernel
theorem dX5_copies_14 : decode cX5_copies 14 = .ok (.iadd, 1) := by decide +kernel
theorem dX5_copies_15 : decode cX5_copies 15 = .ok (.aload_n 0, 1) := by decide +kernel
theorem dX5_copies_16 : decode cX5_copies 16 = .ok (.iload_n 1, 1) := by decide +kernel
theorem dX5_copies_17 : decode cX5_copies 17 = .ok (.iload 5, 2) := by decide +kernel
theorem dX5_copies_19 : decode cX5_copies 19 = .ok (.iadd, 1) := by decide +kernel
theorem dX5_copies_20 : decode cX5_copies 20 = .ok (.iaload, 1) := by decide +kernel
theorem dX5_copies_21 : decode cX5_copies 21 = .ok (.iastore, 1) := by decide +kernel
theorem dX5_copies_22 : decode cX5_copies 22 = .ok (.iinc 5 1, 3) := by decide +kernel
theorem dX5_copies_25 : decode cX5_copies 25 = .ok (.goto (-22), 3) := by decide +kernel
theorem dX5_copies_28 : decode cX5_copies 28 = .ok (.return_, 1) := by decide +kernel
theorem dX5_blank_0 : decode cX5_blank 0 = .ok (.iconst 0, 1) := by decide +kernel
theorem dX5_blank_1 : decode cX5_blank 1 = .ok (.istore_n 1, 1) := by decide +kernel
theorem dX5_blank_2 : decode cX5_blank 2 = .ok (.iload_n 1, 1) := by decide +kernel
theorem dX5_blank_3 : decode cX5_blank 3 = .ok (.bipush 50, 2) := by decide +kernel
theorem dX5_blank_5 : decode cX5_blank 5 = .ok (.if_icmp .ge 23, 3) := by decide +kernel
theorem dX5_blank_8 : decode cX5_blank 8 = .ok (.aload_n 0, 1) := by decide +kernel
theorem dX5_blank_9 : decode cX5_blank 9 = .ok (.iload_n 1, 1) := by decide +kernel
theorem dX5_blank_10 : decode cX5_blank 10 = .ok (.iload_n 1, 1) := by decide +kernel
theorem dX5_blank_11 : decode cX5_blank 11 = .ok (.bipush 36, 2) := by decide +kernel
theorem dX5_blank_13 : decode cX5_blank 13 = .ok (.if_icmp .ge 7, 3) := by decide +kernel
theorem dX5_blank_16 : decode cX5_blank 16 = .ok (.iconst 0, 1) := by decide +kernel
theorem dX5_blank_17 : decode cX5_blank 17 = .ok (.goto 4, 3) := by decide +kernel
theorem dX5_blank_20 : decode cX5_blank 20 = .ok (.iconst (-1), 1) := by decide +kernel
theorem dX5_blank_21 : decode cX5_blank 21 = .ok (.iastore, 1) := by decide +kernel
theorem dX5_blank_22 : decode cX5_blank 22 = .ok (.iinc 1 1, 3) := by decide +kernel
theorem dX5_blank_25 : decode cX5_blank 25 = .ok (.goto (-23), 3) := by decide +kernel
theorem dX5_blank_28 : decode cX5_blank 28 = .ok (.return_, 1) := by decide +kernel
theorem dX5_begins_0 : decode cX5_begins 0 = .ok (.iconst 0, 1) := by decide +kernel
theorem dX5_begins_1 : decode cX5_begins 1 = .ok (.istore_n 1, 1) := by decide +kernel
theorem dX5_begins_2 : decode cX5_begins 2 = .ok (.iload_n 1, 1) := by decide +kernel
theorem dX5_begins_3 : decode cX5_begins 3 = .ok (.bipush 52, 2) := by decide +kernel
theorem dX5_begins_5 : decode cX5_begins 5 = .ok (.if_icmp .ge 16, 3) := by decide +kernel
theorem dX5_begins_8 : decode cX5_begins 8 = .ok (.aload_n 0, 1) := by decide +kernel
theorem dX5_begins_9 : decode cX5_begins 9 = .ok (.getfield 16, 3) := by decide +kernel
theorem dX5_begins_12 : decode cX5_begins 12 = .ok (.iload_n 1, 1) := by decide +kernel
theorem dX5_begins_13 : decode cX5_begins 13 = .ok (.iconst 0, 1) := by decide +kernel
theorem dX5_begins_14 : decode cX5_begins 14 = .ok (.iastore, 1) := by decide +kernel
theorem dX5_begins_15 : decode cX5_begins 15 = .ok (.iinc 1 1, 3) := by decide +kernel
theorem dX5_begins_18 : decode cX5_begins 18 = .ok (.goto (-16), 3) := by decide +kernel
theorem dX5_begins_21 : decode cX5_begins 21 = .ok (.iconst 0, 1) := by decide +kernel
theorem dX5_begins_22 : decode cX5_begins 22 = .ok (.istore_n 1, 1) := by decide +kernel
theorem dX5_begins_23 : decode cX5_begins 23 = .ok (.iload_n 1, 1) := by decide +kernel
theorem dX5_begins_24 : decode cX5_begins 24 = .ok (.bipush 8, 2) := by decide +kernel
theorem dX5_begins_26 : decode cX5_begins 26 = .ok (.if_icmp .ge 53, 3) := by decide +kernel
theorem dX5_begins_29 : decode cX5_begins 29 = .ok (.aload_n 0, 1) := by decide +kernel
theorem dX5_begins_30 : decode cX5_begins 30 = .ok (.getfield 16, 3) := by decide +kernel
theorem dX5_begins_33 : decode cX5_begins 33 = .ok (.iconst 2, 1) := by decide +kernel
theorem dX5_begins_34 : decode cX5_begins 34 = .ok (.iload_n 1, 1) := by decide +kernel
theorem dX5_begins_35 : decode cX5_begins 35 = .ok (.iadd, 1) := by decide +kernel
theorem dX5_begins_36 : decode cX5_begins 36 = .ok (.aload_n 0, 1) := by decide +kernel
theorem dX5_begins_37 : decode cX5_begins 37 = .ok (.getfield 7, 3) := by decide +kernel
theorem dX5_begins_40 : decode cX5_begins 40 = .ok (.iconst 1, 1) := by decide +kernel
theorem dX5_begins_41 : decode cX5_begins 41 = .ok (.iload_n 1, 1) := by decide +kernel
theorem dX5_begins_42 : decode cX5_begins 42 = .ok (.iadd, 1) := by decide +kernel
theorem dX5_begins_43 : decode cX5_begins 43 = .ok (.iaload, 1) := by decide +kernel
theorem dX5_begins_44 : decode cX5_begins 44 = .ok (.iastore, 1) := by decide +kernel
theorem dX5_begins_45 : decode cX5_begins 45 = .ok (.aload_n 0, 1) := by decide +kernel
theorem dX5_begins_46 : decode cX5_begins 46 = .ok (.getfield 16, 3) := by decide +kernel
theorem dX5_begins_49 : decode cX5_begins 49 = .ok (.bipush 10, 2) := by decide +kernel
theorem dX5_begins_51 : decode cX5_begins 51 = .ok (.iload_n 1, 1) := by decide +kernel
theorem dX5_begins_52 : decode cX5_begins 52 = .ok (.iadd, 1) := by decide +kernel
theorem dX5_begins_53 : decode cX5_begins 53 = .ok (.aload_n 0, 1) := by decide +kernel
theorem dX5_begins_54 : decode cX5_begins 54 = .ok (.getfield 7, 3) := by decide +kernel
theorem dX5_begins_57 : decode cX5_begins 57 = .ok (.bipush 9, 2) := by decide +kernel
theorem dX5_begins_59 : decode cX5_begins 59 = .ok (.iload_n 1, 1) := by decide +kernel
theorem dX5_begins_60 : decode cX5_begins 60 = .ok (.iadd, 1) := by decide +kernel
theorem dX5_begins_61 : decode cX5_begins 61 = .ok (.iaload, 1) := by decide +kernel
theorem dX5_begins_62 : decode cX5_begins 62 = .ok (.iastore, 1) := by decide +kernel
theorem dX5_begins_63 : decode cX5_begins 63 = .ok (.aload_n 0, 1) := by decide +kernel
theorem dX5_begins_64 : decode cX5_begins 64 = .ok (.getfield 16, 3) := by decide +kernel
theorem dX5_begins_67 : decode cX5_begins 67 = .ok (.bipush 18, 2) := by decide +kernel
theorem dX5_begins_69 : decode cX5_begins 69 = .ok (.iload_n 1, 1) := by decide +kernel
theorem dX5_begins_70 : decode cX5_begins 70 = .ok (.iadd, 1) := by decide +kernel
theorem dX5_begins_71 : decode cX5_begins 71 = .ok (.iconst (-1), 1) := by decide +kernel
theorem dX5_begins_72 : decode cX5_begins 72 = .ok (.iastore, 1) := by decide +kernel
theorem dX5_begins_73 : decode cX5_begins 73 = .ok (.iinc 1 1, 3) := by decide +kernel
theorem dX5_begins_76 : decode cX5_begins 76 = .ok (.goto (-53), 3) := by decide +kernel
theorem dX5_begins_79 : decode cX5_begins 79 = .ok (.iconst 0, 1) := by decide +kernel
theorem dX5_begins_80 : decode cX5_begins 80 = .ok (.istore_n 1, 1) := by decide +kernel
theorem dX5_begins_81 : decode cX5_begins 81 = .ok (.iload_n 1, 1) := by decide +kernel
theorem dX5_begins_82 : decode cX5_begins 82 = .ok (.iconst 5, 1) := by decide +kernel
theorem dX5_begins_83 : decode cX5_begins 83 = .ok (.if_icmp .ge 19, 3) := by decide +kernel
theorem dX5_begins_86 : decode cX5_begins 86 = .ok (.aload_n 0, 1) := by decide +kernel
theorem dX5_begins_87 : decode cX5_begins 87 = .ok (.getfield 16, 3) := by decide +kernel
theorem dX5_begins_90 : decode cX5_begins 90 = .ok (.bipush 34, 2) := by decide +kernel
theorem dX5_begins_92 : decode cX5_begins 92 = .ok (.iload_n 1, 1) := by decide +kernel
theorem dX5_begins_93 : decode cX5_begins 93 = .ok (.iadd, 1) := by decide +kernel
theorem dX5_begins_94 : decode cX5_begins 94 = .ok (.iconst (-1), 1) := by decide +kernel
theorem dX5_begins_95 : decode cX5_begins 95 = .ok (.iastore, 1) := by decide +kernel
theorem dX5_begins_96 : decode cX5_begins 96 = .ok (.iinc 1 1, 3) := by decide +kernel
theorem dX5_begins_99 : decode cX5_begins 99 = .ok (.goto (-18), 3) := by decide +kernel
theorem dX5_begins_102 : decode cX5_begins 102 = .ok (.aload_n 0, 1) := by decide +kernel
theorem dX5_begins_103 : decode cX5_begins 103 = .ok (.iconst 0, 1) := by decide +kernel
theorem dX5_begins_104 : decode cX5_begins 104 = .ok (.putfield 54, 3) := by decide +kernel
theorem dX5_begins_107 : decode cX5_begins 107 = .ok (.aload_n 0, 1) := by decide +kernel
theorem dX5_begins_108 : decode cX5_begins 108 = .ok (.getfield 25, 3) := by decide +kernel
theorem dX5_begins_111 : decode cX5_begins 111 = .ok (.iconst 0, 1) := by decide +kernel
theorem dX5_begins_112 : decode cX5_begins 112 = .ok (.iconst 0, 1) := by decide +kernel
theorem dX5_begins_113 : decode cX5_begins 113 = .ok (.bastore, 1) := by decide +kernel
theorem dX5_begins_114 : decode cX5_begins 114 = .ok (.aload_n 0, 1) := by decide +kernel
theorem dX5_begins_115 : decode cX5_begins 115 = .ok (.getfield 25, 3) := by decide +kernel
theorem dX5_begins_118 : decode cX5_begins 118 = .ok (.iconst 1, 1) := by decide +kernel
theorem dX5_begins_119 : decode cX5_begins 119 = .ok (.iconst 0, 1) := by decide +kernel
theorem dX5_begins_120 : decode cX5_begins 120 = .ok (.bastore, 1) := by decide +kernel
theorem dX5_begins_121 : decode cX5_begins 121 = .ok (.aload_n 0, 1) := by decide +kernel
theorem dX5_begins_122 : decode cX5_begins 122 = .ok (.iconst 0, 1) := by decide +kernel
theorem dX5_begins_123 : decode cX5_begins 123 = .ok (.putfield 58, 3) := by decide +kernel
theorem dX5_begins_126 : decode cX5_begins 126 = .ok (.return_, 1) := by decide +kernel
theorem dX5_write_0 : decode cX5_write 0 = .ok (.iload_n 1, 1) := by decide +kernel
theorem dX5_write_1 : decode cX5_write 1 = .ok (.i2l, 1) := by decide +kernel
theorem dX5_write_2 : decode cX5_write 2 = .ok (.lconst 0, 1) := by decide +kernel
theorem dX5_write_3 : decode cX5_write 3 = .ok (.ldc2_w 61, 3) := by decide +kernel
theorem dX5_write_6 : decode cX5_write 6 = .ok (.invokestatic 63, 3) := by decide +kernel
theorem dX5_write_9 : decode cX5_write 9 = .ok (.ifCond .ne 6, 3) := by decide +kernel
theorem dX5_write_12 : decode cX5_write 12 = .ok (.bipush (-3), 2) := by decide +kernel
theorem dX5_write_14 : decode cX5_write 14 = .ok (.ireturn, 1) := by decide +kernel
theorem dX5_write_15 : decode cX5_write 15 = .ok (.aload_n 0, 1) := by decide +kernel
theorem dX5_write_16 : decode cX5_write 16 = .ok (.getfield 67, 3) := by decide +kernel
theorem dX5_write_19 : decode cX5_write 19 = .ok (.sipush 160, 3) := by decide +kernel
theorem dX5_write_22 : decode cX5_write 22 = .ok (.if_icmp .ne 6, 3) := by decide +kernel
theorem dX5_write_25 : decode cX5_write 25 = .ok (.bipush (-5), 2) := by decide +kernel
theorem dX5_write_27 : decode cX5_write 27 = .ok (.ireturn, 1) := by decide +kernel
theorem dX5_write_28 : decode cX5_write 28 = .ok (.aload_n 0, 1) := by decide +kernel
theorem dX5_write_29 : decode cX5_write 29 = .ok (.getfield 29, 3) := by decide +kernel
theorem dX5_write_32 : decode cX5_write 32 = .ok (.aload_n 0, 1) := by decide +kernel
theorem dX5_write_33 : decode cX5_write 33 = .ok (.getfield 67, 3) := by decide +kernel
theorem dX5_write_36 : decode cX5_write 36 = .ok (.iload_n 1, 1) := by decide +kernel
theorem dX5_write_37 : decode cX5_write 37 = .ok (.iastore, 1) := by decide +kernel
theorem dX5_write_38 : decode cX5_write 38 = .ok (.aload_n 0, 1) := by decide +kernel
theorem dX5_write_39 : decode cX5_write 39 = .ok (.dup, 1) := by decide +kernel
theorem dX5_write_40 : decode cX5_write 40 = .ok (.getfield 67, 3) := by decide +kernel
theorem dX5_write_43 : decode cX5_write 43 = .ok (.iconst 1, 1) := by decide +kernel
theorem dX5_write_44 : decode cX5_write 44 = .ok (.iadd, 1) := by decide +kernel
theorem dX5_write_45 : decode cX5_write 45 = .ok (.putfield 67, 3) := by decide +kernel
theorem dX5_write_48 : decode cX5_write 48 = .ok (.aload_n 0, 1) := by decide +kernel
theorem dX5_write_49 : decode cX5_write 49 = .ok (.getfield 67, 3) := by decide +kernel
theorem dX5_write_52 : decode cX5_write 52 = .ok (.ireturn, 1) := by decide +kernel
theorem dX5_erase_0 : decode cX5_erase 0 = .ok (.aload_n 0, 1) := by decide +kernel
theorem dX5_erase_1 : decode cX5_erase 1 = .ok (.getfield 67, 3) := by decide +kernel
theorem dX5_erase_4 : decode cX5_erase 4 = .ok (.istore_n 1, 1) := by decide +kernel
theorem dX5_erase_5 : decode cX5_erase 5 = .ok (.aload_n 0, 1) := by decide +kernel
theorem dX5_erase_6 : decode cX5_erase 6 = .ok (.iconst 0, 1) := by decide +kernel
theorem dX5_erase_7 : decode cX5_erase 7 = .ok (.putfield 67, 3) := by decide +kernel
theorem dX5_erase_10 : decode cX5_erase 10 = .ok (.iload_n 1, 1) := by decide +kernel
theorem dX5_erase_11 : decode cX5_erase 11 = .ok (.ireturn, 1) := by decide +kernel
theorem dX5_here_0 : decode cX5_here 0 = .ok (.aload_n 0, 1) := by decide +kernel
theorem dX5_here_1 : decode cX5_here 1 = .ok (.getfield 70, 3) := by decide +kernel
theorem dX5_here_4 : decode cX5_here 4 = .ok (.aload_n 0, 1) := by decide +kernel
theorem dX5_here_5 : decode cX5_here 5 = .ok (.getfield 67, 3) := by decide +kernel
theorem dX5_here_8 : decode cX5_here 8 = .ok (.if_icmp .ge 15, 3) := by decide +kernel
theorem dX5_here_11 : decode cX5_here 11 = .ok (.aload_n 0, 1) := by decide +kernel
theorem dX5_here_12 : decode cX5_here 12 = .ok (.getfield 29, 3) := by decide +kernel
theorem dX5_here_15 : decode cX5_here 15 = .ok (.aload_n 0, 1) := by decide +kernel
theorem dX5_here_16 : decode cX5_here 16 = .ok (.getfield 70, 3) := by decide +kernel
theorem dX5_here_19 : decode cX5_here 19 = .ok (.iaload, 1) := by decide +kernel
theorem dX5_here_20 : decode cX5_here 20 = .ok (.goto 4, 3) := by decide +kernel
theorem dX5_here_23 : decode cX5_here 23 = .ok (.iconst (-1), 1) := by decide +kernel
theorem dX5_here_24 : decode cX5_here 24 = .ok (.ireturn, 1) := by decide +kernel
theorem dX5_step_0 : decode cX5_step 0 = .ok (.aload_n 0, 1) := by decide +kernel
theorem dX5_step_1 : decode cX5_step 1 = .ok (.invokevirtual 73, 3) := by decide +kernel
theorem dX5_step_4 : decode cX5_step 4 = .ok (.bipush 32, 2) := by decide +kernel
theorem dX5_step_6 : decode cX5_step 6 = .ok (.if_icmp .ne 16, 3) := by decide +kernel
theorem dX5_step_9 : decode cX5_step 9 = .ok (.aload_n 0, 1) := by decide +kernel
theorem dX5_step_10 : decode cX5_step 10 = .ok (.dup, 1) := by decide +kernel
theorem dX5_step_11 : decode cX5_step 11 = .ok (.getfield 70, 3) := by decide +kernel
theorem dX5_step_14 : decode cX5_step 14 = .ok (.iconst 1, 1) := by decide +kernel
theorem dX5_step_15 : decode cX5_step 15 = .ok (.iadd, 1) := by decide +kernel
theorem dX5_step_16 : decode cX5_step 16 = .ok (.putfield 70, 3) := by decide +kernel
theorem dX5_step_19 : decode cX5_step 19 = .ok (.goto (-19), 3) := by decide +kernel
theorem dX5_step_22 : decode cX5_step 22 = .ok (.aload_n 0, 1) := by decide +kernel
theorem dX5_step_23 : decode cX5_step 23 = .ok (.aload_n 0, 1) := by decide +kernel
theorem dX5_step_24 : decode cX5_step 24 = .ok (.getfield 70, 3) := by decide +kernel
theorem dX5_step_27 : decode cX5_step 27 = .ok (.putfield 77, 3) := by decide +kernel
theorem dX5_step_30 : decode cX5_step 30 = .ok (.aload_n 0, 1) := by decide +kernel
theorem dX5_step_31 : decode cX5_step 31 = .ok (.lconst 0, 1) := by decide +kernel
theorem dX5_step_32 : decode cX5_step 32 = .ok (.putfield 80, 3) := by decide +kernel
theorem dX5_step_35 : decode cX5_step 35 = .ok (.aload_n 0, 1) := by decide +kernel
theorem dX5_step_36 : decode cX5_step 36 = .ok (.iconst 0, 1) := by decide +kernel
theorem dX5_step_37 : decode cX5_step 37 = .ok (.putfield 84, 3) := by decide +kernel
theorem dX5_step_40 : decode cX5_step 40 = .ok (.aload_n 0, 1) := by decide +kernel
theorem dX5_step_41 : decode cX5_step 41 = .ok (.invokevirtual 73, 3) := by decide +kernel
theorem dX5_step_44 : decode cX5_step 44 = .ok (.istore_n 1, 1) := by decide +kernel
theorem dX5_step_45 : decode cX5_step 45 = .ok (.aload_n 0, 1) := by decide +kernel
theorem dX5_step_46 : decode cX5_step 46 = .ok (.iload_n 1, 1) := by decide +kernel
theorem dX5_step_47 : decode cX5_step 47 = .ok (.ifCond .ge 7, 3) := by decide +kernel
theorem dX5_step_50 : decode cX5_step 50 = .ok (.iconst 0, 1) := by decide +kernel
theorem dX5_step_51 : decode cX5_step 51 = .ok (.goto 50, 3) := by decide +kernel
theorem dX5_step_54 : decode cX5_step 54 = .ok (.iload_n 1, 1) := by decide +kernel
theorem dX5_step_55 : decode cX5_step 55 = .ok (.i2l, 1) := by decide +kernel
theorem dX5_step_56 : decode cX5_step 56 = .ok (.ldc2_w 87, 3) := by decide +kernel
theorem dX5_step_59 : decode cX5_step 59 = .ok (.ldc2_w 89, 3) := by decide +kernel
theorem dX5_step_62 : decode cX5_step 62 = .ok (.invokestatic 63, 3) := by decide +kernel
theorem dX5_step_65 : decode cX5_step 65 = .ok (.ifCond .eq 7, 3) := by decide +kernel
theorem dX5_step_68 : decode cX5_step 68 = .ok (.iconst 1, 1) := by decide +kernel
theorem dX5_step_69 : decode cX5_step 69 = .ok (.goto 32, 3) := by decide +kernel
theorem dX5_step_72 : decode cX5_step 72 = .ok (.iload_n 1, 1) := by decide +kernel
theorem dX5_step_73 : decode cX5_step 73 = .ok (.i2l, 1) := by decide +kernel
theorem dX5_step_74 : decode cX5_step 74 = .ok (.ldc2_w 91, 3) := by decide +kernel
theorem dX5_step_77 : decode cX5_step 77 = .ok (.ldc2_w 93, 3) := by decide +kernel
theorem dX5_step_80 : decode cX5_step 80 = .ok (.invokestatic 63, 3) := by decide +kernel
theorem dX5_step_83 : decode cX5_step 83 = .ok (.ifCond .eq 7, 3) := by decide +kernel
theorem dX5_step_86 : decode cX5_step 86 = .ok (.iconst 2, 1) := by decide +kernel
theorem dX5_step_87 : decode cX5_step 87 = .ok (.goto 14, 3) := by decide +kernel
theorem dX5_step_90 : decode cX5_step 90 = .ok (.iload_n 1, 1) := by decide +kernel
theorem dX5_step_91 : decode cX5_step 91 = .ok (.bipush 59, 2) := by decide +kernel
theorem dX5_step_93 : decode cX5_step 93 = .ok (.if_icmp .ne 7, 3) := by decide +kernel
theorem dX5_step_96 : decode cX5_step 96 = .ok (.iconst 3, 1) := by decide +kernel
theorem dX5_step_97 : decode cX5_step 97 = .ok (.goto 4, 3) := by decide +kernel
theorem dX5_step_100 : decode cX5_step 100 = .ok (.iconst 4, 1) := by decide +kernel
theorem dX5_step_101 : decode cX5_step 101 = .ok (.putfield 95, 3) := by decide +kernel
theorem dX5_step_104 : decode cX5_step 104 = .ok (.aload_n 0, 1) := by decide +kernel
theorem dX5_step_105 : decode cX5_step 105 = .ok (.getfield 95, 3) := by decide +kernel
theorem dX5_step_108 : decode cX5_step 108 = .ok (.iconst 2, 1) := by decide +kernel
theorem dX5_step_109 : decode cX5_step 109 = .ok (.if_icmp .le 13, 3) := by decide +kernel
theorem dX5_step_112 : decode cX5_step 112 = .ok (.aload_n 0, 1) := by decide +kernel
theorem dX5_step_113 : decode cX5_step 113 = .ok (.dup, 1) := by decide +kernel
theorem dX5_step_114 : decode cX5_step 114 = .ok (.getfield 70, 3) := by decide +kernel
theorem dX5_step_117 : decode cX5_step 117 = .ok (.iconst 1, 1) := by decide +kernel
theorem dX5_step_118 : decode cX5_step 118 = .ok (.iadd, 1) := by decide +kernel
theorem dX5_step_119 : decode cX5_step 119 = .ok (.putfield 70, 3) := by decide +kernel
theorem dX5_step_122 : decode cX5_step 122 = .ok (.aload_n 0, 1) := by decide +kernel
theorem dX5_step_123 : decode cX5_step 123 = .ok (.getfield 95, 3) := by decide +kernel
theorem dX5_step_126 : decode cX5_step 126 = .ok (.iconst 1, 1) := by decide +kernel
theorem dX5_step_127 : decode cX5_step 127 = .ok (.if_icmp .ne 71, 3) := by decide +kernel
theorem dX5_step_130 : decode cX5_step 130 = .ok (.aload_n 0, 1) := by decide +kernel
theorem dX5_step_131 : decode cX5_step 131 = .ok (.invokevirtual 73, 3) := by decide +kernel
theorem dX5_step_134 : decode cX5_step 134 = .ok (.i2l, 1) := by decide +kernel
theorem dX5_step_135 : decode cX5_step 135 = .ok (.ldc2_w 87, 3) := by decide +kernel
theorem dX5_step_138 : decode cX5_step 138 = .ok (.ldc2_w 89, 3) := by decide +kernel
theorem dX5_step_141 : decode cX5_step 141 = .ok (.invokestatic 63, 3) := by decide +kernel
theorem dX5_step_144 : decode cX5_step 144 = .ok (.ifCond .eq 54, 3) := by decide +kernel
theorem dX5_step_147 : decode cX5_step 147 = .ok (.aload_n 0, 1) := by decide +kernel
theorem dX5_step_148 : decode cX5_step 148 = .ok (.aload_n 0, 1) := by decide +kernel
theorem dX5_step_149 : decode cX5_step 149 = .ok (.getfield 70, 3) := by decide +kernel
theorem dX5_step_152 : decode cX5_step 152 = .ok (.aload_n 0, 1) := by decide +kernel
theorem dX5_step_153 : decode cX5_step 153 = .ok (.getfield 77, 3) := by decide +kernel
theorem dX5_step_156 : decode cX5_step 156 = .ok (.isub, 1) := by decide +kernel
theorem dX5_step_157 : decode cX5_step 157 = .ok (.bipush 7, 2) := by decide +kernel
theorem dX5_step_159 : decode cX5_step 159 = .ok (.if_icmp .ge 20, 3) := by decide +kernel
theorem dX5_step_162 : decode cX5_step 162 = .ok (.aload_n 0, 1) := by decide +kernel
theorem dX5_step_163 : decode cX5_step 163 = .ok (.getfield 80, 3) := by decide +kernel
theorem dX5_step_166 : decode cX5_step 166 = .ok (.ldc2_w 98, 3) := by decide +kernel
theorem dX5_step_169 : decode cX5_step 169 = .ok (.lmul, 1) := by decide +kernel
theorem dX5_step_170 : decode cX5_step 170 = .ok (.aload_n 0, 1) := by decide +kernel
theorem dX5_step_171 : decode cX5_step 171 = .ok (.invokevirtual 73, 3) := by decide +kernel
theorem dX5_step_174 : decode cX5_step 174 = .ok (.i2l, 1) := by decide +kernel
theorem dX5_step_175 : decode cX5_step 175 = .ok (.ladd, 1) := by decide +kernel
theorem dX5_step_176 : decode cX5_step 176 = .ok (.goto 6, 3) := by decide +kernel
theorem dX5_step_179 : decode cX5_step 179 = .ok (.ldc2_w 100, 3) := by decide +kernel
theorem dX5_step_182 : decode cX5_step 182 = .ok (.putfield 80, 3) := by decide +kernel
theorem dX5_step_185 : decode cX5_step 185 = .ok (.aload_n 0, 1) := by decide +kernel
theorem dX5_step_186 : decode cX5_step 186 = .ok (.dup, 1) := by decide +kernel
theorem dX5_step_187 : decode cX5_step 187 = .ok (.getfield 70, 3) := by decide +kernel
theorem dX5_step_190 : decode cX5_step 190 = .ok (.iconst 1, 1) := by decide +kernel
theorem dX5_step_191 : decode cX5_step 191 = .ok (.iadd, 1) := by decide +kernel
theorem dX5_step_192 : decode cX5_step 192 = .ok (.putfield 70, 3) := by decide +kernel
theorem dX5_step_195 : decode cX5_step 195 = .ok (.goto (-73), 3) := by decide +kernel
theorem dX5_step_198 : decode cX5_step 198 = .ok (.aload_n 0, 1) := by decide +kernel
theorem dX5_step_199 : decode cX5_step 199 = .ok (.getfield 95, 3) := by decide +kernel
theorem dX5_step_202 : decode cX5_step 202 = .ok (.iconst 2, 1) := by decide +kernel
theorem dX5_step_203 : decode cX5_step 203 = .ok (.if_icmp .ne 72, 3) := by decide +kernel
theorem dX5_step_206 : decode cX5_step 206 = .ok (.aload_n 0, 1) := by decide +kernel
theorem dX5_step_207 : decode cX5_step 207 = .ok (.invokevirtual 73, 3) := by decide +kernel
theorem dX5_step_210 : decode cX5_step 210 = .ok (.i2l, 1) := by decide +kernel
theorem dX5_step_211 : decode cX5_step 211 = .ok (.ldc2_w 91, 3) := by decide +kernel
theorem dX5_step_214 : decode cX5_step 214 = .ok (.ldc2_w 93, 3) := by decide +kernel
theorem dX5_step_217 : decode cX5_step 217 = .ok (.invokestatic 63, 3) := by decide +kernel
theorem dX5_step_220 : decode cX5_step 220 = .ok (.ifCond .eq 55, 3) := by decide +kernel
theorem dX5_step_223 : decode cX5_step 223 = .ok (.aload_n 0, 1) := by decide +kernel
theorem dX5_step_224 : decode cX5_step 224 = .ok (.aload_n 0, 1) := by decide +kernel
theorem dX5_step_225 : decode cX5_step 225 = .ok (.getfield 70, 3) := by decide +kernel
theorem dX5_step_228 : decode cX5_step 228 = .ok (.aload_n 0, 1) := by decide +kernel
theorem dX5_step_229 : decode cX5_step 229 = .ok (.getfield 77, 3) := by decide +kernel
theorem dX5_step_232 : decode cX5_step 232 = .ok (.isub, 1) := by decide +kernel
theorem dX5_step_233 : decode cX5_step 233 = .ok (.iconst 2, 1) := by decide +kernel
theorem dX5_step_234 : decode cX5_step 234 = .ok (.if_icmp .ge 21, 3) := by decide +kernel
theorem dX5_step_237 : decode cX5_step 237 = .ok (.bipush 10, 2) := by decide +kernel
theorem dX5_step_239 : decode cX5_step 239 = .ok (.aload_n 0, 1) := by decide +kernel
theorem dX5_step_240 : decode cX5_step 240 = .ok (.getfield 84, 3) := by decide +kernel
theorem dX5_step_243 : decode cX5_step 243 = .ok (.imul, 1) := by decide +kernel
theorem dX5_step_244 : decode cX5_step 244 = .ok (.aload_n 0, 1) := by decide +kernel
theorem dX5_step_245 : decode cX5_step 245 = .ok (.invokevirtual 73, 3) := by decide +kernel
theorem dX5_step_248 : decode cX5_step 248 = .ok (.iadd, 1) := by decide +kernel
theorem dX5_step_249 : decode cX5_step 249 = .ok (.bipush 48, 2) := by decide +kernel
theorem dX5_step_251 : decode cX5_step 251 = .ok (.isub, 1) := by decide +kernel
theorem dX5_step_252 : decode cX5_step 252 = .ok (.goto 7, 3) := by decide +kernel
theorem dX5_step_255 : decode cX5_step 255 = .ok (.aload_n 0, 1) := by decide +kernel
theorem dX5_step_256 : decode cX5_step 256 = .ok (.getfield 84, 3) := by decide +kernel
theorem dX5_step_259 : decode cX5_step 259 = .ok (.putfield 84, 3) := by decide +kernel
theorem dX5_step_262 : decode cX5_step 262 = .ok (.aload_n 0, 1) := by decide +kernel
theorem dX5_step_263 : decode cX5_step 263 = .ok (.dup, 1) := by decide +kernel
theorem dX5_step_264 : decode cX5_step 264 = .ok (.getfield 70, 3) := by decide +kernel
theorem dX5_step_267 : decode cX5_step 267 = .ok (.iconst 1, 1) := by decide +kernel
theorem dX5_step_268 : decode cX5_step 268 = .ok (.iadd, 1) := by decide +kernel
theorem dX5_step_269 : decode cX5_step 269 = .ok (.putfield 70, 3) := by decide +kernel
theorem dX5_step_272 : decode cX5_step 272 = .ok (.goto (-74), 3) := by decide +kernel
theorem dX5_step_275 : decode cX5_step 275 = .ok (.aload_n 0, 1) := by decide +kernel
theorem dX5_step_276 : decode cX5_step 276 = .ok (.aload_n 0, 1) := by decide +kernel
theorem dX5_step_277 : decode cX5_step 277 = .ok (.getfield 95, 3) := by decide +kernel
theorem dX5_step_280 : decode cX5_step 280 = .ok (.iconst 2, 1) := by decide +kernel
theorem dX5_step_281 : decode cX5_step 281 = .ok (.if_icmp .ne 20, 3) := by decide +kernel
theorem dX5_step_284 : decode cX5_step 284 = .ok (.aload_n 0, 1) := by decide +kernel
theorem dX5_step_285 : decode cX5_step 285 = .ok (.getfield 70, 3) := by decide +kernel
theorem dX5_step_288 : decode cX5_step 288 = .ok (.aload_n 0, 1) := by decide +kernel
theorem dX5_step_289 : decode cX5_step 289 = .ok (.getfield 77, 3) := by decide +kernel
theorem dX5_step_292 : decode cX5_step 292 = .ok (.isub, 1) := by decide +kernel
theorem dX5_step_293 : decode cX5_step 293 = .ok (.iconst 2, 1) := by decide +kernel
theorem dX5_step_294 : decode cX5_step 294 = .ok (.if_icmp .le 7, 3) := by decide +kernel
theorem dX5_step_297 : decode cX5_step 297 = .ok (.iconst 4, 1) := by decide +kernel
theorem dX5_step_298 : decode cX5_step 298 = .ok (.goto 7, 3) := by decide +kernel
theorem dX5_step_301 : decode cX5_step 301 = .ok (.aload_n 0, 1) := by decide +kernel
theorem dX5_step_302 : decode cX5_step 302 = .ok (.getfield 95, 3) := by decide +kernel
theorem dX5_step_305 : decode cX5_step 305 = .ok (.putfield 95, 3) := by decide +kernel
theorem dX5_step_308 : decode cX5_step 308 = .ok (.return_, 1) := by decide +kernel
theorem dX5_number_0 : decode cX5_number 0 = .ok (.aload_n 0, 1) := by decide +kernel
theorem dX5_number_1 : decode cX5_number 1 = .ok (.invokevirtual 102, 3) := by decide +kernel
theorem dX5_number_4 : decode cX5_number 4 = .ok (.aload_n 0, 1) := by decide +kernel
theorem dX5_number_5 : decode cX5_number 5 = .ok (.getfield 95, 3) := by decide +kernel
theorem dX5_number_8 : decode cX5_number 8 = .ok (.iconst 2, 1) := by decide +kernel
theorem dX5_number_9 : decode cX5_number 9 = .ok (.if_icmp .ne 15, 3) := by decide +kernel
theorem dX5_number_12 : decode cX5_number 12 = .ok (.aload_n 0, 1) := by decide +kernel
theorem dX5_number_13 : decode cX5_number 13 = .ok (.getfield 84, 3) := by decide +kernel
theorem dX5_number_16 : decode cX5_number 16 = .ok (.iload_n 1, 1) := by decide +kernel
theorem dX5_number_17 : decode cX5_number 17 = .ok (.if_icmp .gt 7, 3) := by decide +kernel
theorem dX5_number_20 : decode cX5_number 20 = .ok (.iconst 1, 1) := by decide +kernel
theorem dX5_number_21 : decode cX5_number 21 = .ok (.goto 4, 3) := by decide +kernel
theorem dX5_number_24 : decode cX5_number 24 = .ok (.iconst 0, 1) := by decide +kernel
theorem dX5_number_25 : decode cX5_number 25 = .ok (.ireturn, 1) := by decide +kernel
theorem dX5_readsPlace_0 : decode cX5_readsPlace 0 = .ok (.aload_n 0, 1) := by decide +kernel
theorem dX5_readsPlace_1 : decode cX5_readsPlace 1 = .ok (.getfield 13, 3) := by decide +kernel
theorem dX5_readsPlace_4 : decode cX5_readsPlace 4 = .ok (.iconst 0, 1) := by decide +kernel
theorem dX5_readsPlace_5 : decode cX5_readsPlace 5 = .ok (.iaload, 1) := by decide +kernel
theorem dX5_readsPlace_6 : decode cX5_readsPlace 6 = .ok (.istore_n 1, 1) := by decide +kernel
theorem dX5_readsPlace_7 : decode cX5_readsPlace 7 = .ok (.iload_n 1, 1) := by decide +kernel
theorem dX5_readsPlace_8 : decode cX5_readsPlace 8 = .ok (.bipush 8, 2) := by decide +kernel
theorem dX5_readsPlace_10 : decode cX5_readsPlace 10 = .ok (.if_icmp .eq 12, 3) := by decide +kernel
theorem dX5_readsPlace_13 : decode cX5_readsPlace 13 = .ok (.aload_n 0, 1) := by decide +kernel
theorem dX5_readsPlace_14 : decode cX5_readsPlace 14 = .ok (.bipush 7, 2) := by decide +kernel
theorem dX5_readsPlace_16 : decode cX5_readsPlace 16 = .ok (.invokevirtual 105, 3) := by decide +kernel
theorem dX5_readsPlace_19 : decode cX5_readsPlace 19 = .ok (.ifCond .ne 5, 3) := by decide +kernel
theorem dX5_readsPlace_22 : decode cX5_readsPlace 22 = .ok (.iconst 0, 1) := by decide +kernel
theorem dX5_readsPlace_23 : decode cX5_readsPlace 23 = .ok (.ireturn, 1) := by decide +kernel
theorem dX5_readsPlace_24 : decode cX5_readsPlace 24 = .ok (.aload_n 0, 1) := by decide +kernel
theorem dX5_readsPlace_25 : decode cX5_readsPlace 25 = .ok (.getfield 13, 3) := by decide +kernel
theorem dX5_readsPlace_28 : decode cX5_readsPlace 28 = .ok (.iconst 1, 1) := by decide +kernel
theorem dX5_readsPlace_29 : decode cX5_readsPlace 29 = .ok (.iload_n 1, 1) := by decide +kernel
theorem dX5_readsPlace_30 : decode cX5_readsPlace 30 = .ok (.iadd, 1) := by decide +kernel
theorem dX5_readsPlace_31 : decode cX5_readsPlace 31 = .ok (.aload_n 0, 1) := by decide +kernel
theorem dX5_readsPlace_32 : decode cX5_readsPlace 32 = .ok (.getfield 84, 3) := by decide +kernel
theorem dX5_readsPlace_35 : decode cX5_readsPlace 35 = .ok (.iastore, 1) := by decide +kernel
theorem dX5_readsPlace_36 : decode cX5_readsPlace 36 = .ok (.aload_n 0, 1) := by decide +kernel
theorem dX5_readsPlace_37 : decode cX5_readsPlace 37 = .ok (.bipush 9, 2) := by decide +kernel
theorem dX5_readsPlace_39 : decode cX5_readsPlace 39 = .ok (.invokevirtual 105, 3) := by decide +kernel
theorem dX5_readsPlace_42 : decode cX5_readsPlace 42 = .ok (.ifCond .ne 5, 3) := by decide +kernel
theorem dX5_readsPlace_45 : decode cX5_readsPlace 45 = .ok (.iconst 0, 1) := by decide +kernel
theorem dX5_readsPlace_46 : decode cX5_readsPlace 46 = .ok (.ireturn, 1) := by decide +kernel
theorem dX5_readsPlace_47 : decode cX5_readsPlace 47 = .ok (.aload_n 0, 1) := by decide +kernel
theorem dX5_readsPlace_48 : decode cX5_readsPlace 48 = .ok (.getfield 13, 3) := by decide +kernel
theorem dX5_readsPlace_51 : decode cX5_readsPlace 51 = .ok (.bipush 9, 2) := by decide +kernel
theorem dX5_readsPlace_53 : decode cX5_readsPlace 53 = .ok (.iload_n 1, 1) := by decide +kernel
theorem dX5_readsPlace_54 : decode cX5_readsPlace 54 = .ok (.iadd, 1) := by decide +kernel
theorem dX5_readsPlace_55 : decode cX5_readsPlace 55 = .ok (.aload_n 0, 1) := by decide +kernel
theorem dX5_readsPlace_56 : decode cX5_readsPlace 56 = .ok (.getfield 84, 3) := by decide +kernel
theorem dX5_readsPlace_59 : decode cX5_readsPlace 59 = .ok (.iastore, 1) := by decide +kernel
theorem dX5_readsPlace_60 : decode cX5_readsPlace 60 = .ok (.aload_n 0, 1) := by decide +kernel
theorem dX5_readsPlace_61 : decode cX5_readsPlace 61 = .ok (.bipush 9, 2) := by decide +kernel
theorem dX5_readsPlace_63 : decode cX5_readsPlace 63 = .ok (.invokevirtual 105, 3) := by decide +kernel
theorem dX5_readsPlace_66 : decode cX5_readsPlace 66 = .ok (.ifCond .ne 5, 3) := by decide +kernel
theorem dX5_readsPlace_69 : decode cX5_readsPlace 69 = .ok (.iconst 0, 1) := by decide +kernel
theorem dX5_readsPlace_70 : decode cX5_readsPlace 70 = .ok (.ireturn, 1) := by decide +kernel
theorem dX5_readsPlace_71 : decode cX5_readsPlace 71 = .ok (.aload_n 0, 1) := by decide +kernel
theorem dX5_readsPlace_72 : decode cX5_readsPlace 72 = .ok (.getfield 13, 3) := by decide +kernel
theorem dX5_readsPlace_75 : decode cX5_readsPlace 75 = .ok (.bipush 17, 2) := by decide +kernel
theorem dX5_readsPlace_77 : decode cX5_readsPlace 77 = .ok (.iload_n 1, 1) := by decide +kernel
theorem dX5_readsPlace_78 : decode cX5_readsPlace 78 = .ok (.iadd, 1) := by decide +kernel
theorem dX5_readsPlace_79 : decode cX5_readsPlace 79 = .ok (.aload_n 0, 1) := by decide +kernel
theorem dX5_readsPlace_80 : decode cX5_readsPlace 80 = .ok (.getfield 84, 3) := by decide +kernel
theorem dX5_readsPlace_83 : decode cX5_readsPlace 83 = .ok (.iastore, 1) := by decide +kernel
theorem dX5_readsPlace_84 : decode cX5_readsPlace 84 = .ok (.aload_n 0, 1) := by decide +kernel
theorem dX5_readsPlace_85 : decode cX5_readsPlace 85 = .ok (.getfield 13, 3) := by decide +kernel
theorem dX5_readsPlace_88 : decode cX5_readsPlace 88 = .ok (.iconst 0, 1) := by decide +kernel
theorem dX5_readsPlace_89 : decode cX5_readsPlace 89 = .ok (.dup2, 1) := by decide +kernel
theorem dX5_readsPlace_90 : decode cX5_readsPlace 90 = .ok (.iaload, 1) := by decide +kernel
theorem dX5_readsPlace_91 : decode cX5_readsPlace 91 = .ok (.iconst 1, 1) := by decide +kernel
theorem dX5_readsPlace_92 : decode cX5_readsPlace 92 = .ok (.iadd, 1) := by decide +kernel
theorem dX5_readsPlace_93 : decode cX5_readsPlace 93 = .ok (.iastore, 1) := by decide +kernel
theorem dX5_readsPlace_94 : decode cX5_readsPlace 94 = .ok (.iconst 1, 1) := by decide +kernel
theorem dX5_readsPlace_95 : decode cX5_readsPlace 95 = .ok (.ireturn, 1) := by decide +kernel
theorem dX5_readsHen_0 : decode cX5_readsHen 0 = .ok (.aload_n 0, 1) := by decide +kernel
theorem dX5_readsHen_1 : decode cX5_readsHen 1 = .ok (.getfield 13, 3) := by decide +kernel
theorem dX5_readsHen_4 : decode cX5_readsHen 4 = .ok (.bipush 25, 2) := by decide +kernel
theorem dX5_readsHen_6 : decode cX5_readsHen 6 = .ok (.iaload, 1) := by decide +kernel
theorem dX5_readsHen_7 : decode cX5_readsHen 7 = .ok (.istore_n 2, 1) := by decide +kernel
theorem dX5_readsHen_8 : decode cX5_readsHen 8 = .ok (.iload_n 2, 1) := by decide +kernel
theorem dX5_readsHen_9 : decode cX5_readsHen 9 = .ok (.iconst 5, 1) := by decide +kernel
theorem dX5_readsHen_10 : decode cX5_readsHen 10 = .ok (.if_icmp .eq 12, 3) := by decide +kernel
theorem dX5_readsHen_13 : decode cX5_readsHen 13 = .ok (.aload_n 0, 1) := by decide +kernel
theorem dX5_readsHen_14 : decode cX5_readsHen 14 = .ok (.bipush 9, 2) := by decide +kernel
theorem dX5_readsHen_16 : decode cX5_readsHen 16 = .ok (.invokevirtual 105, 3) := by decide +kernel
theorem dX5_readsHen_19 : decode cX5_readsHen 19 = .ok (.ifCond .ne 5, 3) := by decide +kernel
theorem dX5_readsHen_22 : decode cX5_readsHen 22 = .ok (.iconst 0, 1) := by decide +kernel
theorem dX5_readsHen_23 : decode cX5_readsHen 23 = .ok (.ireturn, 1) := by decide +kernel
theorem dX5_readsHen_24 : decode cX5_readsHen 24 = .ok (.aload_n 0, 1) := by decide +kernel
theorem dX5_readsHen_25 : decode cX5_readsHen 25 = .ok (.getfield 13, 3) := by decide +kernel
theorem dX5_readsHen_28 : decode cX5_readsHen 28 = .ok (.bipush 26, 2) := by decide +kernel
theorem dX5_readsHen_30 : decode cX5_readsHen 30 = .ok (.iload_n 2, 1) := by decide +kernel
theorem dX5_readsHen_31 : decode cX5_readsHen 31 = .ok (.iadd, 1) := by decide +kernel
theorem dX5_readsHen_32 : decode cX5_readsHen 32 = .ok (.iload_n 1, 1) := by decide +kernel
theorem dX5_readsHen_33 : decode cX5_readsHen 33 = .ok (.iastore, 1) := by decide +kernel
theorem dX5_readsHen_34 : decode cX5_readsHen 34 = .ok (.aload_n 0, 1) := by decide +kernel
theorem dX5_readsHen_35 : decode cX5_readsHen 35 = .ok (.getfield 13, 3) := by decide +kernel
theorem dX5_readsHen_38 : decode cX5_readsHen 38 = .ok (.bipush 31, 2) := by decide +kernel
theorem dX5_readsHen_40 : decode cX5_readsHen 40 = .ok (.iload_n 2, 1) := by decide +kernel
theorem dX5_readsHen_41 : decode cX5_readsHen 41 = .ok (.iadd, 1) := by decide +kernel
theorem dX5_readsHen_42 : decode cX5_readsHen 42 = .ok (.aload_n 0, 1) := by decide +kernel
theorem dX5_readsHen_43 : decode cX5_readsHen 43 = .ok (.getfield 84, 3) := by decide +kernel
theorem dX5_readsHen_46 : decode cX5_readsHen 46 = .ok (.iastore, 1) := by decide +kernel
theorem dX5_readsHen_47 : decode cX5_readsHen 47 = .ok (.aload_n 0, 1) := by decide +kernel
theorem dX5_readsHen_48 : decode cX5_readsHen 48 = .ok (.getfield 13, 3) := by decide +kernel
theorem dX5_readsHen_51 : decode cX5_readsHen 51 = .ok (.bipush 25, 2) := by decide +kernel
theorem dX5_readsHen_53 : decode cX5_readsHen 53 = .ok (.dup2, 1) := by decide +kernel
theorem dX5_readsHen_54 : decode cX5_readsHen 54 = .ok (.iaload, 1) := by decide +kernel
theorem dX5_readsHen_55 : decode cX5_readsHen 55 = .ok (.iconst 1, 1) := by decide +kernel
theorem dX5_readsHen_56 : decode cX5_readsHen 56 = .ok (.iadd, 1) := by decide +kernel
theorem dX5_readsHen_57 : decode cX5_readsHen 57 = .ok (.iastore, 1) := by decide +kernel
theorem dX5_readsHen_58 : decode cX5_readsHen 58 = .ok (.iconst 1, 1) := by decide +kernel
theorem dX5_readsHen_59 : decode cX5_readsHen 59 = .ok (.ireturn, 1) := by decide +kernel
theorem dX5_readsNews_0 : decode cX5_readsNews 0 = .ok (.aload_n 0, 1) := by decide +kernel
theorem dX5_readsNews_1 : decode cX5_readsNews 1 = .ok (.bipush 13, 2) := by decide +kernel
theorem dX5_readsNews_3 : decode cX5_readsNews 3 = .ok (.invokevirtual 105, 3) := by decide +kernel
theorem dX5_readsNews_6 : decode cX5_readsNews 6 = .ok (.ifCond .ne 5, 3) := by decide +kernel
theorem dX5_readsNews_9 : decode cX5_readsNews 9 = .ok (.iconst 0, 1) := by decide +kernel
theorem dX5_readsNews_10 : decode cX5_readsNews 10 = .ok (.ireturn, 1) := by decide +kernel
theorem dX5_readsNews_11 : decode cX5_readsNews 11 = .ok (.aload_n 0, 1) := by decide +kernel
theorem dX5_readsNews_12 : decode cX5_readsNews 12 = .ok (.getfield 84, 3) := by decide +kernel
theorem dX5_readsNews_15 : decode cX5_readsNews 15 = .ok (.istore_n 1, 1) := by decide +kernel
theorem dX5_readsNews_16 : decode cX5_readsNews 16 = .ok (.aload_n 0, 1) := by decide +kernel
theorem dX5_readsNews_17 : decode cX5_readsNews 17 = .ok (.bipush 7, 2) := by decide +kernel
theorem dX5_readsNews_19 : decode cX5_readsNews 19 = .ok (.invokevirtual 105, 3) := by decide +kernel
theorem dX5_readsNews_22 : decode cX5_readsNews 22 = .ok (.ifCond .ne 5, 3) := by decide +kernel
theorem dX5_readsNews_25 : decode cX5_readsNews 25 = .ok (.iconst 0, 1) := by decide +kernel
theorem dX5_readsNews_26 : decode cX5_readsNews 26 = .ok (.ireturn, 1) := by decide +kernel
theorem dX5_readsNews_27 : decode cX5_readsNews 27 = .ok (.aload_n 0, 1) := by decide +kernel
theorem dX5_readsNews_28 : decode cX5_readsNews 28 = .ok (.getfield 13, 3) := by decide +kernel
theorem dX5_readsNews_31 : decode cX5_readsNews 31 = .ok (.bipush 36, 2) := by decide +kernel
theorem dX5_readsNews_33 : decode cX5_readsNews 33 = .ok (.iload_n 1, 1) := by decide +kernel
theorem dX5_readsNews_34 : decode cX5_readsNews 34 = .ok (.iadd, 1) := by decide +kernel
theorem dX5_readsNews_35 : decode cX5_readsNews 35 = .ok (.aload_n 0, 1) := by decide +kernel
theorem dX5_readsNews_36 : decode cX5_readsNews 36 = .ok (.getfield 84, 3) := by decide +kernel
theorem dX5_readsNews_39 : decode cX5_readsNews 39 = .ok (.iastore, 1) := by decide +kernel
theorem dX5_readsNews_40 : decode cX5_readsNews 40 = .ok (.iconst 1, 1) := by decide +kernel
theorem dX5_readsNews_41 : decode cX5_readsNews 41 = .ok (.ireturn, 1) := by decide +kernel
theorem dX5_calm_0 : decode cX5_calm 0 = .ok (.iconst 0, 1) := by decide +kernel
theorem dX5_calm_1 : decode cX5_calm 1 = .ok (.istore_n 1, 1) := by decide +kernel
theorem dX5_calm_2 : decode cX5_calm 2 = .ok (.iload_n 1, 1) := by decide +kernel
theorem dX5_calm_3 : decode cX5_calm 3 = .ok (.bipush 14, 2) := by decide +kernel
theorem dX5_calm_5 : decode cX5_calm 5 = .ok (.if_icmp .ge 19, 3) := by decide +kernel
theorem dX5_calm_8 : decode cX5_calm 8 = .ok (.aload_n 0, 1) := by decide +kernel
theorem dX5_calm_9 : decode cX5_calm 9 = .ok (.getfield 13, 3) := by decide +kernel
theorem dX5_calm_12 : decode cX5_calm 12 = .ok (.bipush 36, 2) := by decide +kernel
theorem dX5_calm_14 : decode cX5_calm 14 = .ok (.iload_n 1, 1) := by decide +kernel
theorem dX5_calm_15 : decode cX5_calm 15 = .ok (.iadd, 1) := by decide +kernel
theorem dX5_calm_16 : decode cX5_calm 16 = .ok (.iconst (-1), 1) := by decide +kernel
theorem dX5_calm_17 : decode cX5_calm 17 = .ok (.iastore, 1) := by decide +kernel
theorem dX5_calm_18 : decode cX5_calm 18 = .ok (.iinc 1 1, 3) := by decide +kernel
theorem dX5_calm_21 : decode cX5_calm 21 = .ok (.goto (-19), 3) := by decide +kernel
theorem dX5_calm_24 : decode cX5_calm 24 = .ok (.iconst 1, 1) := by decide +kernel
theorem dX5_calm_25 : decode cX5_calm 25 = .ok (.ireturn, 1) := by decide +kernel
theorem dX5_anew_0 : decode cX5_anew 0 = .ok (.aload_n 0, 1) := by decide +kernel
theorem dX5_anew_1 : decode cX5_anew 1 = .ok (.getfield 13, 3) := by decide +kernel
theorem dX5_anew_4 : decode cX5_anew 4 = .ok (.invokestatic 47, 3) := by decide +kernel
theorem dX5_anew_7 : decode cX5_anew 7 = .ok (.iconst 1, 1) := by decide +kernel
theorem dX5_anew_8 : decode cX5_anew 8 = .ok (.ireturn, 1) := by decide +kernel
theorem dX5_readsClause_0 : decode cX5_readsClause 0 = .ok (.aload_n 0, 1) := by decide +kernel
theorem dX5_readsClause_1 : decode cX5_readsClause 1 = .ok (.getfield 95, 3) := by decide +kernel
theorem dX5_readsClause_4 : decode cX5_readsClause 4 = .ok (.iconst 1, 1) := by decide +kernel
theorem dX5_readsClause_5 : decode cX5_readsClause 5 = .ok (.if_icmp .eq 5, 3) := by decide +kernel
theorem dX5_readsClause_8 : decode cX5_readsClause 8 = .ok (.iconst 0, 1) := by decide +kernel
theorem dX5_readsClause_9 : decode cX5_readsClause 9 = .ok (.ireturn, 1) := by decide +kernel
theorem dX5_readsClause_10 : decode cX5_readsClause 10 = .ok (.aload_n 0, 1) := by decide +kernel
theorem dX5_readsClause_11 : decode cX5_readsClause 11 = .ok (.getfield 80, 3) := by decide +kernel
theorem dX5_readsClause_14 : decode cX5_readsClause 14 = .ok (.lstore_n 1, 1) := by decide +kernel
theorem dX5_readsClause_15 : decode cX5_readsClause 15 = .ok (.lload_n 1, 1) := by decide +kernel
theorem dX5_readsClause_16 : decode cX5_readsClause 16 = .ok (.ldc2_w 109, 3) := by decide +kernel
theorem dX5_readsClause_19 : decode cX5_readsClause 19 = .ok (.lcmp, 1) := by decide +kernel
theorem dX5_readsClause_20 : decode cX5_readsClause 20 = .ok (.ifCond .ne 8, 3) := by decide +kernel
theorem dX5_readsClause_23 : decode cX5_readsClause 23 = .ok (.aload_n 0, 1) := by decide +kernel
theorem dX5_readsClause_24 : decode cX5_readsClause 24 = .ok (.invokevirtual 111, 3) := by decide +kernel
theorem dX5_readsClause_27 : decode cX5_readsClause 27 = .ok (.ireturn, 1) := by decide +kernel
theorem dX5_readsClause_28 : decode cX5_readsClause 28 = .ok (.lload_n 1, 1) := by decide +kernel
theorem dX5_readsClause_29 : decode cX5_readsClause 29 = .ok (.ldc2_w 115, 3) := by decide +kernel
theorem dX5_readsClause_32 : decode cX5_readsClause 32 = .ok (.lcmp, 1) := by decide +kernel
theorem dX5_readsClause_33 : decode cX5_readsClause 33 = .ok (.ifCond .ne 8, 3) := by decide +kernel
theorem dX5_readsClause_36 : decode cX5_readsClause 36 = .ok (.aload_n 0, 1) := by decide +kernel
theorem dX5_readsClause_37 : decode cX5_readsClause 37 = .ok (.invokevirtual 117, 3) := by decide +kernel
theorem dX5_readsClause_40 : decode cX5_readsClause 40 = .ok (.ireturn, 1) := by decide +kernel
theorem dX5_readsClause_41 : decode cX5_readsClause 41 = .ok (.lload_n 1, 1) := by decide +kernel
theorem dX5_readsClause_42 : decode cX5_readsClause 42 = .ok (.ldc2_w 120, 3) := by decide +kernel
theorem dX5_readsClause_45 : decode cX5_readsClause 45 = .ok (.lcmp, 1) := by decide +kernel
theorem dX5_readsClause_46 : decode cX5_readsClause 46 = .ok (.ifCond .ne 8, 3) := by decide +kernel
theorem dX5_readsClause_49 : decode cX5_readsClause 49 = .ok (.aload_n 0, 1) := by decide +kernel
theorem dX5_readsClause_50 : decode cX5_readsClause 50 = .ok (.invokevirtual 122, 3) := by decide +kernel
theorem dX5_readsClause_53 : decode cX5_readsClause 53 = .ok (.ireturn, 1) := by decide +kernel
theorem dX5_readsClause_54 : decode cX5_readsClause 54 = .ok (.lload_n 1, 1) := by decide +kernel
theorem dX5_readsClause_55 : decode cX5_readsClause 55 = .ok (.ldc2_w 125, 3) := by decide +kernel
theorem dX5_readsClause_58 : decode cX5_readsClause 58 = .ok (.lcmp, 1) := by decide +kernel
theorem dX5_readsClause_59 : decode cX5_readsClause 59 = .ok (.ifCond .ne 8, 3) := by decide +kernel
theorem dX5_readsClause_62 : decode cX5_readsClause 62 = .ok (.aload_n 0, 1) := by decide +kernel
theorem dX5_readsClause_63 : decode cX5_readsClause 63 = .ok (.invokevirtual 127, 3) := by decide +kernel
theorem dX5_readsClause_66 : decode cX5_readsClause 66 = .ok (.ireturn, 1) := by decide +kernel
theorem dX5_readsClause_67 : decode cX5_readsClause 67 = .ok (.lload_n 1, 1) := by decide +kernel
theorem dX5_readsClause_68 : decode cX5_readsClause 68 = .ok (.ldc2_w 130, 3) := by decide +kernel
theorem dX5_readsClause_71 : decode cX5_readsClause 71 = .ok (.lcmp, 1) := by decide +kernel
theorem dX5_readsClause_72 : decode cX5_readsClause 72 = .ok (.ifCond .ne 7, 3) := by decide +kernel
theorem dX5_readsClause_75 : decode cX5_readsClause 75 = .ok (.iconst 0, 1) := by decide +kernel
theorem dX5_readsClause_76 : decode cX5_readsClause 76 = .ok (.goto 40, 3) := by decide +kernel
theorem dX5_readsClause_79 : decode cX5_readsClause 79 = .ok (.lload_n 1, 1) := by decide +kernel
theorem dX5_readsClause_80 : decode cX5_readsClause 80 = .ok (.ldc2_w 132, 3) := by decide +kernel
theorem dX5_readsClause_83 : decode cX5_readsClause 83 = .ok (.lcmp, 1) := by decide +kernel
theorem dX5_readsClause_84 : decode cX5_readsClause 84 = .ok (.ifCond .ne 7, 3) := by decide +kernel
theorem dX5_readsClause_87 : decode cX5_readsClause 87 = .ok (.iconst 1, 1) := by decide +kernel
theorem dX5_readsClause_88 : decode cX5_readsClause 88 = .ok (.goto 28, 3) := by decide +kernel
theorem dX5_readsClause_91 : decode cX5_readsClause 91 = .ok (.lload_n 1, 1) := by decide +kernel
theorem dX5_readsClause_92 : decode cX5_readsClause 92 = .ok (.ldc2_w 134, 3) := by decide +kernel
theorem dX5_readsClause_95 : decode cX5_readsClause 95 = .ok (.lcmp, 1) := by decide +kernel
theorem dX5_readsClause_96 : decode cX5_readsClause 96 = .ok (.ifCond .ne 7, 3) := by decide +kernel
theorem dX5_readsClause_99 : decode cX5_readsClause 99 = .ok (.iconst 2, 1) := by decide +kernel
theorem dX5_readsClause_100 : decode cX5_readsClause 100 = .ok (.goto 16, 3) := by decide +kernel
theorem dX5_readsClause_103 : decode cX5_readsClause 103 = .ok (.lload_n 1, 1) := by decide +kernel
theorem dX5_readsClause_104 : decode cX5_readsClause 104 = .ok (.ldc2_w 136, 3) := by decide +kernel
theorem dX5_readsClause_107 : decode cX5_readsClause 107 = .ok (.lcmp, 1) := by decide +kernel
theorem dX5_readsClause_108 : decode cX5_readsClause 108 = .ok (.ifCond .ne 7, 3) := by decide +kernel
theorem dX5_readsClause_111 : decode cX5_readsClause 111 = .ok (.iconst 3, 1) := by decide +kernel
theorem dX5_readsClause_112 : decode cX5_readsClause 112 = .ok (.goto 4, 3) := by decide +kernel
theorem dX5_readsClause_115 : decode cX5_readsClause 115 = .ok (.iconst (-1), 1) := by decide +kernel
theorem dX5_readsClause_116 : decode cX5_readsClause 116 = .ok (.istore_n 3, 1) := by decide +kernel
theorem dX5_readsClause_117 : decode cX5_readsClause 117 = .ok (.iload_n 3, 1) := by decide +kernel
theorem dX5_readsClause_118 : decode cX5_readsClause 118 = .ok (.ifCond .lt 15, 3) := by decide +kernel
theorem dX5_readsClause_121 : decode cX5_readsClause 121 = .ok (.aload_n 0, 1) := by decide +kernel
theorem dX5_readsClause_122 : decode cX5_readsClause 122 = .ok (.iload_n 3, 1) := by decide +kernel
theorem dX5_readsClause_123 : decode cX5_readsClause 123 = .ok (.invokevirtual 138, 3) := by decide +kernel
theorem dX5_readsClause_126 : decode cX5_readsClause 126 = .ok (.ifCond .eq 7, 3) := by decide +kernel
theorem dX5_readsClause_129 : decode cX5_readsClause 129 = .ok (.iconst 1, 1) := by decide +kernel
theorem dX5_readsClause_130 : decode cX5_readsClause 130 = .ok (.goto 4, 3) := by decide +kernel
theorem dX5_readsClause_133 : decode cX5_readsClause 133 = .ok (.iconst 0, 1) := by decide +kernel
theorem dX5_readsClause_134 : decode cX5_readsClause 134 = .ok (.ireturn, 1) := by decide +kernel
theorem dX5_reads_0 : decode cX5_reads 0 = .ok (.aload_n 0, 1) := by decide +kernel
theorem dX5_reads_1 : decode cX5_reads 1 = .ok (.getfield 7, 3) := by decide +kernel
theorem dX5_reads_4 : decode cX5_reads 4 = .ok (.iconst 0, 1) := by decide +kernel
theorem dX5_reads_5 : decode cX5_reads 5 = .ok (.aload_n 0, 1) := by decide +kernel
theorem dX5_reads_6 : decode cX5_reads 6 = .ok (.getfield 13, 3) := by decide +kernel
theorem dX5_reads_9 : decode cX5_reads 9 = .ok (.iconst 0, 1) := by decide +kernel
theorem dX5_reads_10 : decode cX5_reads 10 = .ok (.bipush 50, 2) := by decide +kernel
theorem dX5_reads_12 : decode cX5_reads 12 = .ok (.invokestatic 141, 3) := by decide +kernel
theorem dX5_reads_15 : decode cX5_reads 15 = .ok (.aload_n 0, 1) := by decide +kernel
theorem dX5_reads_16 : decode cX5_reads 16 = .ok (.iconst 0, 1) := by decide +kernel
theorem dX5_reads_17 : decode cX5_reads 17 = .ok (.putfield 70, 3) := by decide +kernel
theorem dX5_reads_20 : decode cX5_reads 20 = .ok (.aload_n 0, 1) := by decide +kernel
theorem dX5_reads_21 : decode cX5_reads 21 = .ok (.iconst 0, 1) := by decide +kernel
theorem dX5_reads_22 : decode cX5_reads 22 = .ok (.putfield 145, 3) := by decide +kernel
theorem dX5_reads_25 : decode cX5_reads 25 = .ok (.iconst 1, 1) := by decide +kernel
theorem dX5_reads_26 : decode cX5_reads 26 = .ok (.istore_n 1, 1) := by decide +kernel
theorem dX5_reads_27 : decode cX5_reads 27 = .ok (.iload_n 1, 1) := by decide +kernel
theorem dX5_reads_28 : decode cX5_reads 28 = .ok (.ifCond .eq 59, 3) := by decide +kernel
theorem dX5_reads_31 : decode cX5_reads 31 = .ok (.aload_n 0, 1) := by decide +kernel
theorem dX5_reads_32 : decode cX5_reads 32 = .ok (.invokevirtual 102, 3) := by decide +kernel
theorem dX5_reads_35 : decode cX5_reads 35 = .ok (.aload_n 0, 1) := by decide +kernel
theorem dX5_reads_36 : decode cX5_reads 36 = .ok (.invokevirtual 148, 3) := by decide +kernel
theorem dX5_reads_39 : decode cX5_reads 39 = .ok (.ifCond .ne 8, 3) := by decide +kernel
theorem dX5_reads_42 : decode cX5_reads 42 = .ok (.aload_n 0, 1) := by decide +kernel
theorem dX5_reads_43 : decode cX5_reads 43 = .ok (.getfield 77, 3) := by decide +kernel
theorem dX5_reads_46 : decode cX5_reads 46 = .ok (.ireturn, 1) := by decide +kernel
theorem dX5_reads_47 : decode cX5_reads 47 = .ok (.aload_n 0, 1) := by decide +kernel
theorem dX5_reads_48 : decode cX5_reads 48 = .ok (.dup, 1) := by decide +kernel
theorem dX5_reads_49 : decode cX5_reads 49 = .ok (.getfield 145, 3) := by decide +kernel
theorem dX5_reads_52 : decode cX5_reads 52 = .ok (.iconst 1, 1) := by decide +kernel
theorem dX5_reads_53 : decode cX5_reads 53 = .ok (.iadd, 1) := by decide +kernel
theorem dX5_reads_54 : decode cX5_reads 54 = .ok (.putfield 145, 3) := by decide +kernel
theorem dX5_reads_57 : decode cX5_reads 57 = .ok (.aload_n 0, 1) := by decide +kernel
theorem dX5_reads_58 : decode cX5_reads 58 = .ok (.invokevirtual 102, 3) := by decide +kernel
theorem dX5_reads_61 : decode cX5_reads 61 = .ok (.aload_n 0, 1) := by decide +kernel
theorem dX5_reads_62 : decode cX5_reads 62 = .ok (.getfield 95, 3) := by decide +kernel
theorem dX5_reads_65 : decode cX5_reads 65 = .ok (.iconst 3, 1) := by decide +kernel
theorem dX5_reads_66 : decode cX5_reads 66 = .ok (.if_icmp .ne 16, 3) := by decide +kernel
theorem dX5_reads_69 : decode cX5_reads 69 = .ok (.aload_n 0, 1) := by decide +kernel
theorem dX5_reads_70 : decode cX5_reads 70 = .ok (.getfield 145, 3) := by decide +kernel
theorem dX5_reads_73 : decode cX5_reads 73 = .ok (.bipush 14, 2) := by decide +kernel
theorem dX5_reads_75 : decode cX5_reads 75 = .ok (.if_icmp .ge 7, 3) := by decide +kernel
theorem dX5_reads_78 : decode cX5_reads 78 = .ok (.iconst 1, 1) := by decide +kernel
theorem dX5_reads_79 : decode cX5_reads 79 = .ok (.goto 4, 3) := by decide +kernel
theorem dX5_reads_82 : decode cX5_reads 82 = .ok (.iconst 0, 1) := by decide +kernel
theorem dX5_reads_83 : decode cX5_reads 83 = .ok (.istore_n 1, 1) := by decide +kernel
theorem dX5_reads_84 : decode cX5_reads 84 = .ok (.goto (-57), 3) := by decide +kernel
theorem dX5_reads_87 : decode cX5_reads 87 = .ok (.aload_n 0, 1) := by decide +kernel
theorem dX5_reads_88 : decode cX5_reads 88 = .ok (.getfield 95, 3) := by decide +kernel
theorem dX5_reads_91 : decode cX5_reads 91 = .ok (.ifCond .ne 7, 3) := by decide +kernel
theorem dX5_reads_94 : decode cX5_reads 94 = .ok (.iconst (-1), 1) := by decide +kernel
theorem dX5_reads_95 : decode cX5_reads 95 = .ok (.goto 7, 3) := by decide +kernel
theorem dX5_reads_98 : decode cX5_reads 98 = .ok (.aload_n 0, 1) := by decide +kernel
theorem dX5_reads_99 : decode cX5_reads 99 = .ok (.getfield 77, 3) := by decide +kernel
theorem dX5_reads_102 : decode cX5_reads 102 = .ok (.ireturn, 1) := by decide +kernel
theorem dX5_fault_0 : decode cX5_fault 0 = .ok (.aload_n 0, 1) := by decide +kernel
theorem dX5_fault_1 : decode cX5_fault 1 = .ok (.invokevirtual 151, 3) := by decide +kernel
theorem dX5_fault_4 : decode cX5_fault 4 = .ok (.ireturn, 1) := by decide +kernel
theorem dX5_yard_0 : decode cX5_yard 0 = .ok (.aload_n 0, 1) := by decide +kernel
theorem dX5_yard_1 : decode cX5_yard 1 = .ok (.invokevirtual 151, 3) := by decide +kernel
theorem dX5_yard_4 : decode cX5_yard 4 = .ok (.iconst (-1), 1) := by decide +kernel
theorem dX5_yard_5 : decode cX5_yard 5 = .ok (.if_icmp .eq 6, 3) := by decide +kernel
theorem dX5_yard_8 : decode cX5_yard 8 = .ok (.bipush (-4), 2) := by decide +kernel
theorem dX5_yard_10 : decode cX5_yard 10 = .ok (.ireturn, 1) := by decide +kernel
theorem dX5_yard_11 : decode cX5_yard 11 = .ok (.aload_n 0, 1) := by decide +kernel
theorem dX5_yard_12 : decode cX5_yard 12 = .ok (.getfield 13, 3) := by decide +kernel
theorem dX5_yard_15 : decode cX5_yard 15 = .ok (.iconst 0, 1) := by decide +kernel
theorem dX5_yard_16 : decode cX5_yard 16 = .ok (.aload_n 0, 1) := by decide +kernel
theorem dX5_yard_17 : decode cX5_yard 17 = .ok (.getfield 7, 3) := by decide +kernel
theorem dX5_yard_20 : decode cX5_yard 20 = .ok (.iconst 0, 1) := by decide +kernel
theorem dX5_yard_21 : decode cX5_yard 21 = .ok (.bipush 50, 2) := by decide +kernel
theorem dX5_yard_23 : decode cX5_yard 23 = .ok (.invokestatic 141, 3) := by decide +kernel
theorem dX5_yard_26 : decode cX5_yard 26 = .ok (.aload_n 0, 1) := by decide +kernel
theorem dX5_yard_27 : decode cX5_yard 27 = .ok (.iconst 0, 1) := by decide +kernel
theorem dX5_yard_28 : decode cX5_yard 28 = .ok (.putfield 67, 3) := by decide +kernel
theorem dX5_yard_31 : decode cX5_yard 31 = .ok (.aload_n 0, 1) := by decide +kernel
theorem dX5_yard_32 : decode cX5_yard 32 = .ok (.invokevirtual 51, 3) := by decide +kernel
theorem dX5_yard_35 : decode cX5_yard 35 = .ok (.aload_n 0, 1) := by decide +kernel
theorem dX5_yard_36 : decode cX5_yard 36 = .ok (.getfield 145, 3) := by decide +kernel
theorem dX5_yard_39 : decode cX5_yard 39 = .ok (.ireturn, 1) := by decide +kernel
theorem dX5_isPlace_0 : decode cX5_isPlace 0 = .ok (.iload_n 1, 1) := by decide +kernel
theorem dX5_isPlace_1 : decode cX5_isPlace 1 = .ok (.i2l, 1) := by decide +kernel
theorem dX5_isPlace_2 : decode cX5_isPlace 2 = .ok (.lconst 0, 1) := by decide +kernel
theorem dX5_isPlace_3 : decode cX5_isPlace 3 = .ok (.aload_n 0, 1) := by decide +kernel
theorem dX5_isPlace_4 : decode cX5_isPlace 4 = .ok (.getfield 7, 3) := by decide +kernel
theorem dX5_isPlace_7 : decode cX5_isPlace 7 = .ok (.iconst 0, 1) := by decide +kernel
theorem dX5_isPlace_8 : decode cX5_isPlace 8 = .ok (.iaload, 1) := by decide +kernel
theorem dX5_isPlace_9 : decode cX5_isPlace 9 = .ok (.iconst 1, 1) := by decide +kernel
theorem dX5_isPlace_10 : decode cX5_isPlace 10 = .ok (.isub, 1) := by decide +kernel
theorem dX5_isPlace_11 : decode cX5_isPlace 11 = .ok (.i2l, 1) := by decide +kernel
theorem dX5_isPlace_12 : decode cX5_isPlace 12 = .ok (.invokestatic 63, 3) := by decide +kernel
theorem dX5_isPlace_15 : decode cX5_isPlace 15 = .ok (.ireturn, 1) := by decide +kernel
theorem dX5_isHen_0 : decode cX5_isHen 0 = .ok (.iload_n 1, 1) := by decide +kernel
theorem dX5_isHen_1 : decode cX5_isHen 1 = .ok (.i2l, 1) := by decide +kernel
theorem dX5_isHen_2 : decode cX5_isHen 2 = .ok (.lconst 0, 1) := by decide +kernel
theorem dX5_isHen_3 : decode cX5_isHen 3 = .ok (.aload_n 0, 1) := by decide +kernel
theorem dX5_isHen_4 : decode cX5_isHen 4 = .ok (.getfield 7, 3) := by decide +kernel
theorem dX5_isHen_7 : decode cX5_isHen 7 = .ok (.bipush 25, 2) := by decide +kernel
theorem dX5_isHen_9 : decode cX5_isHen 9 = .ok (.iaload, 1) := by decide +kernel
theorem dX5_isHen_10 : decode cX5_isHen 10 = .ok (.iconst 1, 1) := by decide +kernel
theorem dX5_isHen_11 : decode cX5_isHen 11 = .ok (.isub, 1) := by decide +kernel
theorem dX5_isHen_12 : decode cX5_isHen 12 = .ok (.i2l, 1) := by decide +kernel
theorem dX5_isHen_13 : decode cX5_isHen 13 = .ok (.invokestatic 63, 3) := by decide +kernel
theorem dX5_isHen_16 : decode cX5_isHen 16 = .ok (.ireturn, 1) := by decide +kernel
theorem dX5_isTwo_0 : decode cX5_isTwo 0 = .ok (.iload_n 0, 1) := by decide +kernel
theorem dX5_isTwo_1 : decode cX5_isTwo 1 = .ok (.i2l, 1) := by decide +kernel
theorem dX5_isTwo_2 : decode cX5_isTwo 2 = .ok (.lconst 0, 1) := by decide +kernel
theorem dX5_isTwo_3 : decode cX5_isTwo 3 = .ok (.lconst 1, 1) := by decide +kernel
theorem dX5_isTwo_4 : decode cX5_isTwo 4 = .ok (.invokestatic 63, 3) := by decide +kernel
theorem dX5_isTwo_7 : decode cX5_isTwo 7 = .ok (.ireturn, 1) := by decide +kernel
theorem dX5_asTold_0 : decode cX5_asTold 0 = .ok (.aload_n 0, 1) := by decide +kernel
theorem dX5_asTold_1 : decode cX5_asTold 1 = .ok (.getfield 7, 3) := by decide +kernel
theorem dX5_asTold_4 : decode cX5_asTold 4 = .ok (.bipush 26, 2) := by decide +kernel
theorem dX5_asTold_6 : decode cX5_asTold 6 = .ok (.aload_n 0, 1) := by decide +kernel
theorem dX5_asTold_7 : decode cX5_asTold 7 = .ok (.getfield 35, 3) := by decide +kernel
theorem dX5_asTold_10 : decode cX5_asTold 10 = .ok (.iconst 0, 1) := by decide +kernel
theorem dX5_asTold_11 : decode cX5_asTold 11 = .ok (.iconst 5, 1) := by decide +kernel
theorem dX5_asTold_12 : decode cX5_asTold 12 = .ok (.invokestatic 141, 3) := by decide +kernel
theorem dX5_asTold_15 : decode cX5_asTold 15 = .ok (.aload_n 0, 1) := by decide +kernel
theorem dX5_asTold_16 : decode cX5_asTold 16 = .ok (.getfield 7, 3) := by decide +kernel
theorem dX5_asTold_19 : decode cX5_asTold 19 = .ok (.bipush 31, 2) := by decide +kernel
theorem dX5_asTold_21 : decode cX5_asTold 21 = .ok (.aload_n 0, 1) := by decide +kernel
theorem dX5_asTold_22 : decode cX5_asTold 22 = .ok (.getfield 38, 3) := by decide +kernel
theorem dX5_asTold_25 : decode cX5_asTold 25 = .ok (.iconst 0, 1) := by decide +kernel
theorem dX5_asTold_26 : decode cX5_asTold 26 = .ok (.iconst 5, 1) := by decide +kernel
theorem dX5_asTold_27 : decode cX5_asTold 27 = .ok (.invokestatic 141, 3) := by decide +kernel
theorem dX5_asTold_30 : decode cX5_asTold 30 = .ok (.return_, 1) := by decide +kernel
theorem dX5_likes_0 : decode cX5_likes 0 = .ok (.iconst 2, 1) := by decide +kernel
theorem dX5_likes_1 : decode cX5_likes 1 = .ok (.aload_n 1, 1) := by decide +kernel
theorem dX5_likes_2 : decode cX5_likes 2 = .ok (.bipush 10, 2) := by decide +kernel
theorem dX5_likes_4 : decode cX5_likes 4 = .ok (.iload_n 3, 1) := by decide +kernel
theorem dX5_likes_5 : decode cX5_likes 5 = .ok (.iadd, 1) := by decide +kernel
theorem dX5_likes_6 : decode cX5_likes 6 = .ok (.iaload, 1) := by decide +kernel
theorem dX5_likes_7 : decode cX5_likes 7 = .ok (.imul, 1) := by decide +kernel
theorem dX5_likes_8 : decode cX5_likes 8 = .ok (.aload_n 0, 1) := by decide +kernel
theorem dX5_likes_9 : decode cX5_likes 9 = .ok (.getfield 7, 3) := by decide +kernel
theorem dX5_likes_12 : decode cX5_likes 12 = .ok (.bipush 17, 2) := by decide +kernel
theorem dX5_likes_14 : decode cX5_likes 14 = .ok (.iload_n 3, 1) := by decide +kernel
theorem dX5_likes_15 : decode cX5_likes 15 = .ok (.iadd, 1) := by decide +kernel
theorem dX5_likes_16 : decode cX5_likes 16 = .ok (.iaload, 1) := by decide +kernel
theorem dX5_likes_17 : decode cX5_likes 17 = .ok (.iadd, 1) := by decide +kernel
theorem dX5_likes_18 : decode cX5_likes 18 = .ok (.aload_n 1, 1) := by decide +kernel
theorem dX5_likes_19 : decode cX5_likes 19 = .ok (.bipush 34, 2) := by decide +kernel
theorem dX5_likes_21 : decode cX5_likes 21 = .ok (.iload_n 2, 1) := by decide +kernel
theorem dX5_likes_22 : decode cX5_likes 22 = .ok (.iadd, 1) := by decide +kernel
theorem dX5_likes_23 : decode cX5_likes 23 = .ok (.iaload, 1) := by decide +kernel
theorem dX5_likes_24 : decode cX5_likes 24 = .ok (.iload_n 3, 1) := by decide +kernel
theorem dX5_likes_25 : decode cX5_likes 25 = .ok (.if_icmp .ne 12, 3) := by decide +kernel
theorem dX5_likes_28 : decode cX5_likes 28 = .ok (.aload_n 0, 1) := by decide +kernel
theorem dX5_likes_29 : decode cX5_likes 29 = .ok (.getfield 38, 3) := by decide +kernel
theorem dX5_likes_32 : decode cX5_likes 32 = .ok (.iload_n 2, 1) := by decide +kernel
theorem dX5_likes_33 : decode cX5_likes 33 = .ok (.iaload, 1) := by decide +kernel
theorem dX5_likes_34 : decode cX5_likes 34 = .ok (.goto 4, 3) := by decide +kernel
theorem dX5_likes_37 : decode cX5_likes 37 = .ok (.iconst 0, 1) := by decide +kernel
theorem dX5_likes_38 : decode cX5_likes 38 = .ok (.isub, 1) := by decide +kernel
theorem dX5_likes_39 : decode cX5_likes 39 = .ok (.istore 4, 2) := by decide +kernel
theorem dX5_likes_41 : decode cX5_likes 41 = .ok (.aload_n 0, 1) := by decide +kernel
theorem dX5_likes_42 : decode cX5_likes 42 = .ok (.getfield 35, 3) := by decide +kernel
theorem dX5_likes_45 : decode cX5_likes 45 = .ok (.iload_n 2, 1) := by decide +kernel
theorem dX5_likes_46 : decode cX5_likes 46 = .ok (.iaload, 1) := by decide +kernel
theorem dX5_likes_47 : decode cX5_likes 47 = .ok (.tableswitch 73 0 2 #[25, 28, 49], 25) := by decide +kernel
theorem dX5_likes_72 : decode cX5_likes 72 = .ok (.iload 4, 2) := by decide +kernel
theorem dX5_likes_74 : decode cX5_likes 74 = .ok (.ireturn, 1) := by decide +kernel
theorem dX5_likes_75 : decode cX5_likes 75 = .ok (.aload_n 1, 1) := by decide +kernel
theorem dX5_likes_76 : decode cX5_likes 76 = .ok (.bipush 34, 2) := by decide +kernel
theorem dX5_likes_78 : decode cX5_likes 78 = .ok (.iload_n 2, 1) := by decide +kernel
theorem dX5_likes_79 : decode cX5_likes 79 = .ok (.iadd, 1) := by decide +kernel
theorem dX5_likes_80 : decode cX5_likes 80 = .ok (.iaload, 1) := by decide +kernel
theorem dX5_likes_81 : decode cX5_likes 81 = .ok (.iload_n 3, 1) := by decide +kernel
theorem dX5_likes_82 : decode cX5_likes 82 = .ok (.if_icmp .ne 11, 3) := by decide +kernel
theorem dX5_likes_85 : decode cX5_likes 85 = .ok (.iload 4, 2) := by decide +kernel
theorem dX5_likes_87 : decode cX5_likes 87 = .ok (.bipush 9, 2) := by decide +kernel
theorem dX5_likes_89 : decode cX5_likes 89 = .ok (.iadd, 1) := by decide +kernel
theorem dX5_likes_90 : decode cX5_likes 90 = .ok (.goto 5, 3) := by decide +kernel
theorem dX5_likes_93 : decode cX5_likes 93 = .ok (.iload 4, 2) := by decide +kernel
theorem dX5_likes_95 : decode cX5_likes 95 = .ok (.ireturn, 1) := by decide +kernel
theorem dX5_likes_96 : decode cX5_likes 96 = .ok (.aload_n 0, 1) := by decide +kernel
theorem dX5_likes_97 : decode cX5_likes 97 = .ok (.getfield 7, 3) := by decide +kernel
theorem dX5_likes_100 : decode cX5_likes 100 = .ok (.bipush 17, 2) := by decide +kernel
theorem dX5_likes_102 : decode cX5_likes 102 = .ok (.iload_n 3, 1) := by decide +kernel
theorem dX5_likes_103 : decode cX5_likes 103 = .ok (.iadd, 1) := by decide +kernel
theorem dX5_likes_104 : decode cX5_likes 104 = .ok (.iaload, 1) := by decide +kernel
theorem dX5_likes_105 : decode cX5_likes 105 = .ok (.aload_n 1, 1) := by decide +kernel
theorem dX5_likes_106 : decode cX5_likes 106 = .ok (.iconst 0, 1) := by decide +kernel
theorem dX5_likes_107 : decode cX5_likes 107 = .ok (.iaload, 1) := by decide +kernel
theorem dX5_likes_108 : decode cX5_likes 108 = .ok (.aload_n 0, 1) := by decide +kernel
theorem dX5_likes_109 : decode cX5_likes 109 = .ok (.getfield 38, 3) := by decide +kernel
theorem dX5_likes_112 : decode cX5_likes 112 = .ok (.iload_n 2, 1) := by decide +kernel
theorem dX5_likes_113 : decode cX5_likes 113 = .ok (.iaload, 1) := by decide +kernel
theorem dX5_likes_114 : decode cX5_likes 114 = .ok (.imul, 1) := by decide +kernel
theorem dX5_likes_115 : decode cX5_likes 115 = .ok (.iadd, 1) := by decide +kernel
theorem dX5_likes_116 : decode cX5_likes 116 = .ok (.bipush 10, 2) := by decide +kernel
theorem dX5_likes_118 : decode cX5_likes 118 = .ok (.irem, 1) := by decide +kernel
theorem dX5_likes_119 : decode cX5_likes 119 = .ok (.ireturn, 1) := by decide +kernel
theorem dX5_likes_120 : decode cX5_likes 120 = .ok (.aload_n 0, 1) := by decide +kernel
theorem dX5_likes_121 : decode cX5_likes 121 = .ok (.getfield 38, 3) := by decide +kernel
theorem dX5_likes_124 : decode cX5_likes 124 = .ok (.iload_n 2, 1) := by decide +kernel
theorem dX5_likes_125 : decode cX5_likes 125 = .ok (.iaload, 1) := by decide +kernel
theorem dX5_likes_126 : decode cX5_likes 126 = .ok (.aload_n 0, 1) := by decide +kernel
theorem dX5_likes_127 : decode cX5_likes 127 = .ok (.getfield 7, 3) := by decide +kernel
theorem dX5_likes_130 : decode cX5_likes 130 = .ok (.iconst 0, 1) := by decide +kernel
theorem dX5_likes_131 : decode cX5_likes 131 = .ok (.iaload, 1) := by decide +kernel
theorem dX5_likes_132 : decode cX5_likes 132 = .ok (.irem, 1) := by decide +kernel
theorem dX5_likes_133 : decode cX5_likes 133 = .ok (.iload_n 3, 1) := by decide +kernel
theorem dX5_likes_134 : decode cX5_likes 134 = .ok (.if_icmp .ne 7, 3) := by decide +kernel
theorem dX5_likes_137 : decode cX5_likes 137 = .ok (.iconst 1, 1) := by decide +kernel
theorem dX5_likes_138 : decode cX5_likes 138 = .ok (.goto 4, 3) := by decide +kernel
theorem dX5_likes_141 : decode cX5_likes 141 = .ok (.iconst 0, 1) := by decide +kernel
theorem dX5_likes_142 : decode cX5_likes 142 = .ok (.ireturn, 1) := by decide +kernel
theorem dX5_bestOf_0 : decode cX5_bestOf 0 = .ok (.iconst (-1), 1) := by decide +kernel
theorem dX5_bestOf_1 : decode cX5_bestOf 1 = .ok (.istore_n 3, 1) := by decide +kernel
theorem dX5_bestOf_2 : decode cX5_bestOf 2 = .ok (.ldc 154, 2) := by decide +kernel
theorem dX5_bestOf_4 : decode cX5_bestOf 4 = .ok (.istore 4, 2) := by decide +kernel
theorem dX5_bestOf_6 : decode cX5_bestOf 6 = .ok (.iconst 0, 1) := by decide +kernel
theorem dX5_bestOf_7 : decode cX5_bestOf 7 = .ok (.istore 5, 2) := by decide +kernel
theorem dX5_bestOf_9 : decode cX5_bestOf 9 = .ok (.iload 5, 2) := by decide +kernel
theorem dX5_bestOf_11 : decode cX5_bestOf 11 = .ok (.aload_n 0, 1) := by decide +kernel
theorem dX5_bestOf_12 : decode cX5_bestOf 12 = .ok (.getfield 7, 3) := by decide +kernel
theorem dX5_bestOf_15 : decode cX5_bestOf 15 = .ok (.iconst 0, 1) := by decide +kernel
theorem dX5_bestOf_16 : decode cX5_bestOf 16 = .ok (.iaload, 1) := by decide +kernel
theorem dX5_bestOf_17 : decode cX5_bestOf 17 = .ok (.if_icmp .ge 46, 3) := by decide +kernel
theorem dX5_bestOf_20 : decode cX5_bestOf 20 = .ok (.aload_n 1, 1) := by decide +kernel
theorem dX5_bestOf_21 : decode cX5_bestOf 21 = .ok (.bipush 18, 2) := by decide +kernel
theorem dX5_bestOf_23 : decode cX5_bestOf 23 = .ok (.iload 5, 2) := by decide +kernel
theorem dX5_bestOf_25 : decode cX5_bestOf 25 = .ok (.iadd, 1) := by decide +kernel
theorem dX5_bestOf_26 : decode cX5_bestOf 26 = .ok (.iaload, 1) := by decide +kernel
theorem dX5_bestOf_27 : decode cX5_bestOf 27 = .ok (.iconst (-1), 1) := by decide +kernel
theorem dX5_bestOf_28 : decode cX5_bestOf 28 = .ok (.if_icmp .ne 29, 3) := by decide +kernel
theorem dX5_bestOf_31 : decode cX5_bestOf 31 = .ok (.aload_n 0, 1) := by decide +kernel
theorem dX5_bestOf_32 : decode cX5_bestOf 32 = .ok (.aload_n 1, 1) := by decide +kernel
theorem dX5_bestOf_33 : decode cX5_bestOf 33 = .ok (.iload_n 2, 1) := by decide +kernel
theorem dX5_bestOf_34 : decode cX5_bestOf 34 = .ok (.iload 5, 2) := by decide +kernel
theorem dX5_bestOf_36 : decode cX5_bestOf 36 = .ok (.invokevirtual 155, 3) := by decide +kernel
theorem dX5_bestOf_39 : decode cX5_bestOf 39 = .ok (.iload 4, 2) := by decide +kernel
theorem dX5_bestOf_41 : decode cX5_bestOf 41 = .ok (.if_icmp .le 16, 3) := by decide +kernel
theorem dX5_bestOf_44 : decode cX5_bestOf 44 = .ok (.aload_n 0, 1) := by decide +kernel
theorem dX5_bestOf_45 : decode cX5_bestOf 45 = .ok (.aload_n 1, 1) := by decide +kernel
theorem dX5_bestOf_46 : decode cX5_bestOf 46 = .ok (.iload_n 2, 1) := by decide +kernel
theorem dX5_bestOf_47 : decode cX5_bestOf 47 = .ok (.iload 5, 2) := by decide +kernel
theorem dX5_bestOf_49 : decode cX5_bestOf 49 = .ok (.invokevirtual 155, 3) := by decide +kernel
theorem dX5_bestOf_52 : decode cX5_bestOf 52 = .ok (.istore 4, 2) := by decide +kernel
theorem dX5_bestOf_54 : decode cX5_bestOf 54 = .ok (.iload 5, 2) := by decide +kernel
theorem dX5_bestOf_56 : decode cX5_bestOf 56 = .ok (.istore_n 3, 1) := by decide +kernel
theorem dX5_bestOf_57 : decode cX5_bestOf 57 = .ok (.iinc 5 1, 3) := by decide +kernel
theorem dX5_bestOf_60 : decode cX5_bestOf 60 = .ok (.goto (-51), 3) := by decide +kernel
theorem dX5_bestOf_63 : decode cX5_bestOf 63 = .ok (.iload_n 3, 1) := by decide +kernel
theorem dX5_bestOf_64 : decode cX5_bestOf 64 = .ok (.ireturn, 1) := by decide +kernel
theorem dX5_goes_0 : decode cX5_goes 0 = .ok (.iconst 0, 1) := by decide +kernel
theorem dX5_goes_1 : decode cX5_goes 1 = .ok (.istore_n 2, 1) := by decide +kernel
theorem dX5_goes_2 : decode cX5_goes 2 = .ok (.iload_n 2, 1) := by decide +kernel
theorem dX5_goes_3 : decode cX5_goes 3 = .ok (.bipush 8, 2) := by decide +kernel
theorem dX5_goes_5 : decode cX5_goes 5 = .ok (.if_icmp .ge 23, 3) := by decide +kernel
theorem dX5_goes_8 : decode cX5_goes 8 = .ok (.aload_n 1, 1) := by decide +kernel
theorem dX5_goes_9 : decode cX5_goes 9 = .ok (.bipush 18, 2) := by decide +kernel
theorem dX5_goes_11 : decode cX5_goes 11 = .ok (.iload_n 2, 1) := by decide +kernel
theorem dX5_goes_12 : decode cX5_goes 12 = .ok (.iadd, 1) := by decide +kernel
theorem dX5_goes_13 : decode cX5_goes 13 = .ok (.iconst (-1), 1) := by decide +kernel
theorem dX5_goes_14 : decode cX5_goes 14 = .ok (.iastore, 1) := by decide +kernel
theorem dX5_goes_15 : decode cX5_goes 15 = .ok (.aload_n 1, 1) := by decide +kernel
theorem dX5_goes_16 : decode cX5_goes 16 = .ok (.bipush 26, 2) := by decide +kernel
theorem dX5_goes_18 : decode cX5_goes 18 = .ok (.iload_n 2, 1) := by decide +kernel
theorem dX5_goes_19 : decode cX5_goes 19 = .ok (.iadd, 1) := by decide +kernel
theorem dX5_goes_20 : decode cX5_goes 20 = .ok (.iconst 0, 1) := by decide +kernel
theorem dX5_goes_21 : decode cX5_goes 21 = .ok (.iastore, 1) := by decide +kernel
theorem dX5_goes_22 : decode cX5_goes 22 = .ok (.iinc 2 1, 3) := by decide +kernel
theorem dX5_goes_25 : decode cX5_goes 25 = .ok (.goto (-23), 3) := by decide +kernel
theorem dX5_goes_28 : decode cX5_goes 28 = .ok (.iconst 0, 1) := by decide +kernel
theorem dX5_goes_29 : decode cX5_goes 29 = .ok (.istore_n 2, 1) := by decide +kernel
theorem dX5_goes_30 : decode cX5_goes 30 = .ok (.aload_n 1, 1) := by decide +kernel
theorem dX5_goes_31 : decode cX5_goes 31 = .ok (.iconst 1, 1) := by decide +kernel
theorem dX5_goes_32 : decode cX5_goes 32 = .ok (.iaload, 1) := by decide +kernel
theorem dX5_goes_33 : decode cX5_goes 33 = .ok (.iconst 1, 1) := by decide +kernel
theorem dX5_goes_34 : decode cX5_goes 34 = .ok (.if_icmp .ne 7, 3) := by decide +kernel
theorem dX5_goes_37 : decode cX5_goes 37 = .ok (.iconst 1, 1) := by decide +kernel
theorem dX5_goes_38 : decode cX5_goes 38 = .ok (.goto 4, 3) := by decide +kernel
theorem dX5_goes_41 : decode cX5_goes 41 = .ok (.iconst 0, 1) := by decide +kernel
theorem dX5_goes_42 : decode cX5_goes 42 = .ok (.istore_n 3, 1) := by decide +kernel
theorem dX5_goes_43 : decode cX5_goes 43 = .ok (.iconst 0, 1) := by decide +kernel
theorem dX5_goes_44 : decode cX5_goes 44 = .ok (.istore 4, 2) := by decide +kernel
theorem dX5_goes_46 : decode cX5_goes 46 = .ok (.iload 4, 2) := by decide +kernel
theorem dX5_goes_48 : decode cX5_goes 48 = .ok (.iconst 5, 1) := by decide +kernel
theorem dX5_goes_49 : decode cX5_goes 49 = .ok (.if_icmp .ge 196, 3) := by decide +kernel
theorem dX5_goes_52 : decode cX5_goes 52 = .ok (.iload 4, 2) := by decide +kernel
theorem dX5_goes_54 : decode cX5_goes 54 = .ok (.aload_n 0, 1) := by decide +kernel
theorem dX5_goes_55 : decode cX5_goes 55 = .ok (.getfield 7, 3) := by decide +kernel
theorem dX5_goes_58 : decode cX5_goes 58 = .ok (.bipush 25, 2) := by decide +kernel
theorem dX5_goes_60 : decode cX5_goes 60 = .ok (.iaload, 1) := by decide +kernel
theorem dX5_goes_61 : decode cX5_goes 61 = .ok (.if_icmp .ge 30, 3) := by decide +kernel
theorem dX5_goes_64 : decode cX5_goes 64 = .ok (.iload_n 3, 1) := by decide +kernel
theorem dX5_goes_65 : decode cX5_goes 65 = .ok (.ifCond .ne 26, 3) := by decide +kernel
theorem dX5_goes_68 : decode cX5_goes 68 = .ok (.aload_n 0, 1) := by decide +kernel
theorem dX5_goes_69 : decode cX5_goes 69 = .ok (.getfield 35, 3) := by decide +kernel
theorem dX5_goes_72 : decode cX5_goes 72 = .ok (.iload 4, 2) := by decide +kernel
theorem dX5_goes_74 : decode cX5_goes 74 = .ok (.iaload, 1) := by decide +kernel
theorem dX5_goes_75 : decode cX5_goes 75 = .ok (.iconst 1, 1) := by decide +kernel
theorem dX5_goes_76 : decode cX5_goes 76 = .ok (.if_icmp .ne 11, 3) := by decide +kernel
theorem dX5_goes_79 : decode cX5_goes 79 = .ok (.aload_n 1, 1) := by decide +kernel
theorem dX5_goes_80 : decode cX5_goes 80 = .ok (.iconst 0, 1) := by decide +kernel
theorem dX5_goes_81 : decode cX5_goes 81 = .ok (.iaload, 1) := by decide +kernel
theorem dX5_goes_82 : decode cX5_goes 82 = .ok (.iconst 2, 1) := by decide +kernel
theorem dX5_goes_83 : decode cX5_goes 83 = .ok (.irem, 1) := by decide +kernel
theorem dX5_goes_84 : decode cX5_goes 84 = .ok (.ifCond .ne 7, 3) := by decide +kernel
theorem dX5_goes_87 : decode cX5_goes 87 = .ok (.iconst 1, 1) := by decide +kernel
theorem dX5_goes_88 : decode cX5_goes 88 = .ok (.goto 4, 3) := by decide +kernel
theorem dX5_goes_91 : decode cX5_goes 91 = .ok (.iconst 0, 1) := by decide +kernel
theorem dX5_goes_92 : decode cX5_goes 92 = .ok (.istore 5, 2) := by decide +kernel
theorem dX5_goes_94 : decode cX5_goes 94 = .ok (.iload 5, 2) := by decide +kernel
theorem dX5_goes_96 : decode cX5_goes 96 = .ok (.ifCond .eq 13, 3) := by decide +kernel
theorem dX5_goes_99 : decode cX5_goes 99 = .ok (.aload_n 0, 1) := by decide +kernel
theorem dX5_goes_100 : decode cX5_goes 100 = .ok (.aload_n 1, 1) := by decide +kernel
theorem dX5_goes_101 : decode cX5_goes 101 = .ok (.iload 4, 2) := by decide +kernel
theorem dX5_goes_103 : decode cX5_goes 103 = .ok (.invokevirtual 159, 3) := by decide +kernel
theorem dX5_goes_106 : decode cX5_goes 106 = .ok (.goto 4, 3) := by decide +kernel
theorem dX5_goes_109 : decode cX5_goes 109 = .ok (.iconst (-1), 1) := by decide +kernel
theorem dX5_goes_110 : decode cX5_goes 110 = .ok (.istore 6, 2) := by decide +kernel
theorem dX5_goes_112 : decode cX5_goes 112 = .ok (.aload_n 0, 1) := by decide +kernel
theorem dX5_goes_113 : decode cX5_goes 113 = .ok (.getfield 41, 3) := by decide +kernel
theorem dX5_goes_116 : decode cX5_goes 116 = .ok (.iload 4, 2) := by decide +kernel
theorem dX5_goes_118 : decode cX5_goes 118 = .ok (.iload 6, 2) := by decide +kernel
theorem dX5_goes_120 : decode cX5_goes 120 = .ok (.iastore, 1) := by decide +kernel
theorem dX5_goes_121 : decode cX5_goes 121 = .ok (.iload 6, 2) := by decide +kernel
theorem dX5_goes_123 : decode cX5_goes 123 = .ok (.iconst (-1), 1) := by decide +kernel
theorem dX5_goes_124 : decode cX5_goes 124 = .ok (.if_icmp .eq 115, 3) := by decide +kernel
theorem dX5_goes_127 : decode cX5_goes 127 = .ok (.aload_n 0, 1) := by decide +kernel
theorem dX5_goes_128 : decode cX5_goes 128 = .ok (.getfield 7, 3) := by decide +kernel
theorem dX5_goes_131 : decode cX5_goes 131 = .ok (.bipush 36, 2) := by decide +kernel
theorem dX5_goes_133 : decode cX5_goes 133 = .ok (.aload_n 1, 1) := by decide +kernel
theorem dX5_goes_134 : decode cX5_goes 134 = .ok (.iconst 0, 1) := by decide +kernel
theorem dX5_goes_135 : decode cX5_goes 135 = .ok (.iaload, 1) := by decide +kernel
theorem dX5_goes_136 : decode cX5_goes 136 = .ok (.bipush 14, 2) := by decide +kernel
theorem dX5_goes_138 : decode cX5_goes 138 = .ok (.irem, 1) := by decide +kernel
theorem dX5_goes_139 : decode cX5_goes 139 = .ok (.iadd, 1) := by decide +kernel
theorem dX5_goes_140 : decode cX5_goes 140 = .ok (.iaload, 1) := by decide +kernel
theorem dX5_goes_141 : decode cX5_goes 141 = .ok (.aload_n 1, 1) := by decide +kernel
theorem dX5_goes_142 : decode cX5_goes 142 = .ok (.iconst 2, 1) := by decide +kernel
theorem dX5_goes_143 : decode cX5_goes 143 = .ok (.iload 6, 2) := by decide +kernel
theorem dX5_goes_145 : decode cX5_goes 145 = .ok (.iadd, 1) := by decide +kernel
theorem dX5_goes_146 : decode cX5_goes 146 = .ok (.iaload, 1) := by decide +kernel
theorem dX5_goes_147 : decode cX5_goes 147 = .ok (.if_icmp .ne 7, 3) := by decide +kernel
theorem dX5_goes_150 : decode cX5_goes 150 = .ok (.iconst 1, 1) := by decide +kernel
theorem dX5_goes_151 : decode cX5_goes 151 = .ok (.goto 4, 3) := by decide +kernel
theorem dX5_goes_154 : decode cX5_goes 154 = .ok (.iconst 0, 1) := by decide +kernel
theorem dX5_goes_155 : decode cX5_goes 155 = .ok (.istore 7, 2) := by decide +kernel
theorem dX5_goes_157 : decode cX5_goes 157 = .ok (.aload_n 1, 1) := by decide +kernel
theorem dX5_goes_158 : decode cX5_goes 158 = .ok (.bipush 18, 2) := by decide +kernel
theorem dX5_goes_160 : decode cX5_goes 160 = .ok (.iload 6, 2) := by decide +kernel
theorem dX5_goes_162 : decode cX5_goes 162 = .ok (.iadd, 1) := by decide +kernel
theorem dX5_goes_163 : decode cX5_goes 163 = .ok (.iload 4, 2) := by decide +kernel
theorem dX5_goes_165 : decode cX5_goes 165 = .ok (.iastore, 1) := by decide +kernel
theorem dX5_goes_166 : decode cX5_goes 166 = .ok (.aload_n 1, 1) := by decide +kernel
theorem dX5_goes_167 : decode cX5_goes 167 = .ok (.bipush 26, 2) := by decide +kernel
theorem dX5_goes_169 : decode cX5_goes 169 = .ok (.iload 6, 2) := by decide +kernel
theorem dX5_goes_171 : decode cX5_goes 171 = .ok (.iadd, 1) := by decide +kernel
theorem dX5_goes_172 : decode cX5_goes 172 = .ok (.iload 7, 2) := by decide +kernel
theorem dX5_goes_174 : decode cX5_goes 174 = .ok (.ifCond .eq 7, 3) := by decide +kernel
theorem dX5_goes_177 : decode cX5_goes 177 = .ok (.iconst 1, 1) := by decide +kernel
theorem dX5_goes_178 : decode cX5_goes 178 = .ok (.goto 4, 3) := by decide +kernel
theorem dX5_goes_181 : decode cX5_goes 181 = .ok (.iconst 0, 1) := by decide +kernel
theorem dX5_goes_182 : decode cX5_goes 182 = .ok (.iastore, 1) := by decide +kernel
theorem dX5_goes_183 : decode cX5_goes 183 = .ok (.aload_n 1, 1) := by decide +kernel
theorem dX5_goes_184 : decode cX5_goes 184 = .ok (.bipush 34, 2) := by decide +kernel
theorem dX5_goes_186 : decode cX5_goes 186 = .ok (.iload 4, 2) := by decide +kernel
theorem dX5_goes_188 : decode cX5_goes 188 = .ok (.iadd, 1) := by decide +kernel
theorem dX5_goes_189 : decode cX5_goes 189 = .ok (.iload 6, 2) := by decide +kernel
theorem dX5_goes_191 : decode cX5_goes 191 = .ok (.iastore, 1) := by decide +kernel
theorem dX5_goes_192 : decode cX5_goes 192 = .ok (.aload_n 1, 1) := by decide +kernel
theorem dX5_goes_193 : decode cX5_goes 193 = .ok (.bipush 39, 2) := by decide +kernel
theorem dX5_goes_195 : decode cX5_goes 195 = .ok (.iload 4, 2) := by decide +kernel
theorem dX5_goes_197 : decode cX5_goes 197 = .ok (.iadd, 1) := by decide +kernel
theorem dX5_goes_198 : decode cX5_goes 198 = .ok (.dup2, 1) := by decide +kernel
theorem dX5_goes_199 : decode cX5_goes 199 = .ok (.iaload, 1) := by decide +kernel
theorem dX5_goes_200 : decode cX5_goes 200 = .ok (.iload 7, 2) := by decide +kernel
theorem dX5_goes_202 : decode cX5_goes 202 = .ok (.ifCond .eq 7, 3) := by decide +kernel
theorem dX5_goes_205 : decode cX5_goes 205 = .ok (.iconst 1, 1) := by decide +kernel
theorem dX5_goes_206 : decode cX5_goes 206 = .ok (.goto 4, 3) := by decide +kernel
theorem dX5_goes_209 : decode cX5_goes 209 = .ok (.iconst 0, 1) := by decide +kernel
theorem dX5_goes_210 : decode cX5_goes 210 = .ok (.iadd, 1) := by decide +kernel
theorem dX5_goes_211 : decode cX5_goes 211 = .ok (.iastore, 1) := by decide +kernel
theorem dX5_goes_212 : decode cX5_goes 212 = .ok (.aload_n 1, 1) := by decide +kernel
theorem dX5_goes_213 : decode cX5_goes 213 = .ok (.bipush 44, 2) := by decide +kernel
theorem dX5_goes_215 : decode cX5_goes 215 = .ok (.iload 4, 2) := by decide +kernel
theorem dX5_goes_217 : decode cX5_goes 217 = .ok (.iadd, 1) := by decide +kernel
theorem dX5_goes_218 : decode cX5_goes 218 = .ok (.dup2, 1) := by decide +kernel
theorem dX5_goes_219 : decode cX5_goes 219 = .ok (.iaload, 1) := by decide +kernel
theorem dX5_goes_220 : decode cX5_goes 220 = .ok (.iload 7, 2) := by decide +kernel
theorem dX5_goes_222 : decode cX5_goes 222 = .ok (.ifCond .eq 7, 3) := by decide +kernel
theorem dX5_goes_225 : decode cX5_goes 225 = .ok (.iconst 0, 1) := by decide +kernel
theorem dX5_goes_226 : decode cX5_goes 226 = .ok (.goto 4, 3) := by decide +kernel
theorem dX5_goes_229 : decode cX5_goes 229 = .ok (.iconst 1, 1) := by decide +kernel
theorem dX5_goes_230 : decode cX5_goes 230 = .ok (.iadd, 1) := by decide +kernel
theorem dX5_goes_231 : decode cX5_goes 231 = .ok (.iastore, 1) := by decide +kernel
theorem dX5_goes_232 : decode cX5_goes 232 = .ok (.iload_n 2, 1) := by decide +kernel
theorem dX5_goes_233 : decode cX5_goes 233 = .ok (.iconst 1, 1) := by decide +kernel
theorem dX5_goes_234 : decode cX5_goes 234 = .ok (.iload 6, 2) := by decide +kernel
theorem dX5_goes_236 : decode cX5_goes 236 = .ok (.ishl, 1) := by decide +kernel
theorem dX5_goes_237 : decode cX5_goes 237 = .ok (.ior, 1) := by decide +kernel
theorem dX5_goes_238 : decode cX5_goes 238 = .ok (.istore_n 2, 1) := by decide +kernel
theorem dX5_goes_239 : decode cX5_goes 239 = .ok (.iinc 4 1, 3) := by decide +kernel
theorem dX5_goes_242 : decode cX5_goes 242 = .ok (.goto (-196), 3) := by decide +kernel
theorem dX5_goes_245 : decode cX5_goes 245 = .ok (.aload_n 1, 1) := by decide +kernel
theorem dX5_goes_246 : decode cX5_goes 246 = .ok (.iconst 1, 1) := by decide +kernel
theorem dX5_goes_247 : decode cX5_goes 247 = .ok (.iconst 0, 1) := by decide +kernel
theorem dX5_goes_248 : decode cX5_goes 248 = .ok (.iastore, 1) := by decide +kernel
theorem dX5_goes_249 : decode cX5_goes 249 = .ok (.aload_n 1, 1) := by decide +kernel
theorem dX5_goes_250 : decode cX5_goes 250 = .ok (.iconst 0, 1) := by decide +kernel
theorem dX5_goes_251 : decode cX5_goes 251 = .ok (.dup2, 1) := by decide +kernel
theorem dX5_goes_252 : decode cX5_goes 252 = .ok (.iaload, 1) := by decide +kernel
theorem dX5_goes_253 : decode cX5_goes 253 = .ok (.iconst 1, 1) := by decide +kernel
theorem dX5_goes_254 : decode cX5_goes 254 = .ok (.iadd, 1) := by decide +kernel
theorem dX5_goes_255 : decode cX5_goes 255 = .ok (.iastore, 1) := by decide +kernel
theorem dX5_goes_256 : decode cX5_goes 256 = .ok (.iload_n 2, 1) := by decide +kernel
theorem dX5_goes_257 : decode cX5_goes 257 = .ok (.ireturn, 1) := by decide +kernel
theorem dX5_place_0 : decode cX5_place 0 = .ok (.aload_n 0, 1) := by decide +kernel
theorem dX5_place_1 : decode cX5_place 1 = .ok (.iload_n 1, 1) := by decide +kernel
theorem dX5_place_2 : decode cX5_place 2 = .ok (.invokevirtual 163, 3) := by decide +kernel
theorem dX5_place_5 : decode cX5_place 5 = .ok (.ifCond .ne 6, 3) := by decide +kernel
theorem dX5_place_8 : decode cX5_place 8 = .ok (.bipush (-2), 2) := by decide +kernel
theorem dX5_place_10 : decode cX5_place 10 = .ok (.ireturn, 1) := by decide +kernel
theorem dX5_place_11 : decode cX5_place 11 = .ok (.iload_n 2, 1) := by decide +kernel
theorem dX5_place_12 : decode cX5_place 12 = .ok (.tableswitch 71 0 3 #[32, 41, 51, 61], 32) := by decide +kernel
theorem dX5_place_44 : decode cX5_place 44 = .ok (.aload_n 0, 1) := by decide +kernel
theorem dX5_place_45 : decode cX5_place 45 = .ok (.getfield 16, 3) := by decide +kernel
theorem dX5_place_48 : decode cX5_place 48 = .ok (.iconst 2, 1) := by decide +kernel
theorem dX5_place_49 : decode cX5_place 49 = .ok (.iload_n 1, 1) := by decide +kernel
theorem dX5_place_50 : decode cX5_place 50 = .ok (.iadd, 1) := by decide +kernel
theorem dX5_place_51 : decode cX5_place 51 = .ok (.iaload, 1) := by decide +kernel
theorem dX5_place_52 : decode cX5_place 52 = .ok (.ireturn, 1) := by decide +kernel
theorem dX5_place_53 : decode cX5_place 53 = .ok (.aload_n 0, 1) := by decide +kernel
theorem dX5_place_54 : decode cX5_place 54 = .ok (.getfield 16, 3) := by decide +kernel
theorem dX5_place_57 : decode cX5_place 57 = .ok (.bipush 10, 2) := by decide +kernel
theorem dX5_place_59 : decode cX5_place 59 = .ok (.iload_n 1, 1) := by decide +kernel
theorem dX5_place_60 : decode cX5_place 60 = .ok (.iadd, 1) := by decide +kernel
theorem dX5_place_61 : decode cX5_place 61 = .ok (.iaload, 1) := by decide +kernel
theorem dX5_place_62 : decode cX5_place 62 = .ok (.ireturn, 1) := by decide +kernel
theorem dX5_place_63 : decode cX5_place 63 = .ok (.aload_n 0, 1) := by decide +kernel
theorem dX5_place_64 : decode cX5_place 64 = .ok (.getfield 7, 3) := by decide +kernel
theorem dX5_place_67 : decode cX5_place 67 = .ok (.bipush 17, 2) := by decide +kernel
theorem dX5_place_69 : decode cX5_place 69 = .ok (.iload_n 1, 1) := by decide +kernel
theorem dX5_place_70 : decode cX5_place 70 = .ok (.iadd, 1) := by decide +kernel
theorem dX5_place_71 : decode cX5_place 71 = .ok (.iaload, 1) := by decide +kernel
theorem dX5_place_72 : decode cX5_place 72 = .ok (.ireturn, 1) := by decide +kernel
theorem dX5_place_73 : decode cX5_place 73 = .ok (.aload_n 0, 1) := by decide +kernel
theorem dX5_place_74 : decode cX5_place 74 = .ok (.getfield 16, 3) := by decide +kernel
theorem dX5_place_77 : decode cX5_place 77 = .ok (.bipush 18, 2) := by decide +kernel
theorem dX5_place_79 : decode cX5_place 79 = .ok (.iload_n 1, 1) := by decide +kernel
theorem dX5_place_80 : decode cX5_place 80 = .ok (.iadd, 1) := by decide +kernel
theorem dX5_place_81 : decode cX5_place 81 = .ok (.iaload, 1) := by decide +kernel
theorem dX5_place_82 : decode cX5_place 82 = .ok (.ireturn, 1) := by decide +kernel
theorem dX5_place_83 : decode cX5_place 83 = .ok (.bipush (-3), 2) := by decide +kernel
theorem dX5_place_85 : decode cX5_place 85 = .ok (.ireturn, 1) := by decide +kernel
theorem dX5_hen_0 : decode cX5_hen 0 = .ok (.aload_n 0, 1) := by decide +kernel
theorem dX5_hen_1 : decode cX5_hen 1 = .ok (.iload_n 1, 1) := by decide +kernel
theorem dX5_hen_2 : decode cX5_hen 2 = .ok (.invokevirtual 166, 3) := by decide +kernel
theorem dX5_hen_5 : decode cX5_hen 5 = .ok (.ifCond .ne 6, 3) := by decide +kernel
theorem dX5_hen_8 : decode cX5_hen 8 = .ok (.bipush (-2), 2) := by decide +kernel
theorem dX5_hen_10 : decode cX5_hen 10 = .ok (.ireturn, 1) := by decide +kernel
theorem dX5_hen_11 : decode cX5_hen 11 = .ok (.iload_n 2, 1) := by decide +kernel
theorem dX5_hen_12 : decode cX5_hen 12 = .ok (.tableswitch 86 0 4 #[36, 46, 56, 66, 76], 36) := by decide +kernel
theorem dX5_hen_48 : decode cX5_hen 48 = .ok (.aload_n 0, 1) := by decide +kernel
theorem dX5_hen_49 : decode cX5_hen 49 = .ok (.getfield 7, 3) := by decide +kernel
theorem dX5_hen_52 : decode cX5_hen 52 = .ok (.bipush 26, 2) := by decide +kernel
theorem dX5_hen_54 : decode cX5_hen 54 = .ok (.iload_n 1, 1) := by decide +kernel
theorem dX5_hen_55 : decode cX5_hen 55 = .ok (.iadd, 1) := by decide +kernel
theorem dX5_hen_56 : decode cX5_hen 56 = .ok (.iaload, 1) := by decide +kernel
theorem dX5_hen_57 : decode cX5_hen 57 = .ok (.ireturn, 1) := by decide +kernel
theorem dX5_hen_58 : decode cX5_hen 58 = .ok (.aload_n 0, 1) := by decide +kernel
theorem dX5_hen_59 : decode cX5_hen 59 = .ok (.getfield 7, 3) := by decide +kernel
theorem dX5_hen_62 : decode cX5_hen 62 = .ok (.bipush 31, 2) := by decide +kernel
theorem dX5_hen_64 : decode cX5_hen 64 = .ok (.iload_n 1, 1) := by decide +kernel
theorem dX5_hen_65 : decode cX5_hen 65 = .ok (.iadd, 1) := by decide +kernel
theorem dX5_hen_66 : decode cX5_hen 66 = .ok (.iaload, 1) := by decide +kernel
theorem dX5_hen_67 : decode cX5_hen 67 = .ok (.ireturn, 1) := by decide +kernel
theorem dX5_hen_68 : decode cX5_hen 68 = .ok (.aload_n 0, 1) := by decide +kernel
theorem dX5_hen_69 : decode cX5_hen 69 = .ok (.getfield 16, 3) := by decide +kernel
theorem dX5_hen_72 : decode cX5_hen 72 = .ok (.bipush 34, 2) := by decide +kernel
theorem dX5_hen_74 : decode cX5_hen 74 = .ok (.iload_n 1, 1) := by decide +kernel
theorem dX5_hen_75 : decode cX5_hen 75 = .ok (.iadd, 1) := by decide +kernel
theorem dX5_hen_76 : decode cX5_hen 76 = .ok (.iaload, 1) := by decide +kernel
theorem dX5_hen_77 : decode cX5_hen 77 = .ok (.ireturn, 1) := by decide +kernel
theorem dX5_hen_78 : decode cX5_hen 78 = .ok (.aload_n 0, 1) := by decide +kernel
theorem dX5_hen_79 : decode cX5_hen 79 = .ok (.getfield 16, 3) := by decide +kernel
theorem dX5_hen_82 : decode cX5_hen 82 = .ok (.bipush 39, 2) := by decide +kernel
theorem dX5_hen_84 : decode cX5_hen 84 = .ok (.iload_n 1, 1) := by decide +kernel
theorem dX5_hen_85 : decode cX5_hen 85 = .ok (.iadd, 1) := by decide +kernel
theorem dX5_hen_86 : decode cX5_hen 86 = .ok (.iaload, 1) := by decide +kernel
theorem dX5_hen_87 : decode cX5_hen 87 = .ok (.ireturn, 1) := by decide +kernel
theorem dX5_hen_88 : decode cX5_hen 88 = .ok (.aload_n 0, 1) := by decide +kernel
theorem dX5_hen_89 : decode cX5_hen 89 = .ok (.getfield 16, 3) := by decide +kernel
theorem dX5_hen_92 : decode cX5_hen 92 = .ok (.bipush 44, 2) := by decide +kernel
theorem dX5_hen_94 : decode cX5_hen 94 = .ok (.iload_n 1, 1) := by decide +kernel
theorem dX5_hen_95 : decode cX5_hen 95 = .ok (.iadd, 1) := by decide +kernel
theorem dX5_hen_96 : decode cX5_hen 96 = .ok (.iaload, 1) := by decide +kernel
theorem dX5_hen_97 : decode cX5_hen 97 = .ok (.ireturn, 1) := by decide +kernel
theorem dX5_hen_98 : decode cX5_hen 98 = .ok (.bipush (-3), 2) := by decide +kernel
theorem dX5_hen_100 : decode cX5_hen 100 = .ok (.ireturn, 1) := by decide +kernel
theorem dX5_news_0 : decode cX5_news 0 = .ok (.iload_n 1, 1) := by decide +kernel
theorem dX5_news_1 : decode cX5_news 1 = .ok (.i2l, 1) := by decide +kernel
theorem dX5_news_2 : decode cX5_news 2 = .ok (.lconst 0, 1) := by decide +kernel
theorem dX5_news_3 : decode cX5_news 3 = .ok (.ldc2_w 169, 3) := by decide +kernel
theorem dX5_news_6 : decode cX5_news 6 = .ok (.invokestatic 63, 3) := by decide +kernel
theorem dX5_news_9 : decode cX5_news 9 = .ok (.ifCond .eq 15, 3) := by decide +kernel
theorem dX5_news_12 : decode cX5_news 12 = .ok (.aload_n 0, 1) := by decide +kernel
theorem dX5_news_13 : decode cX5_news 13 = .ok (.getfield 7, 3) := by decide +kernel
theorem dX5_news_16 : decode cX5_news 16 = .ok (.bipush 36, 2) := by decide +kernel
theorem dX5_news_18 : decode cX5_news 18 = .ok (.iload_n 1, 1) := by decide +kernel
theorem dX5_news_19 : decode cX5_news 19 = .ok (.iadd, 1) := by decide +kernel
theorem dX5_news_20 : decode cX5_news 20 = .ok (.iaload, 1) := by decide +kernel
theorem dX5_news_21 : decode cX5_news 21 = .ok (.goto 5, 3) := by decide +kernel
theorem dX5_news_24 : decode cX5_news 24 = .ok (.bipush (-3), 2) := by decide +kernel
theorem dX5_news_26 : decode cX5_news 26 = .ok (.ireturn, 1) := by decide +kernel
theorem dX5_as_0 : decode cX5_as 0 = .ok (.aload_n 0, 1) := by decide +kernel
theorem dX5_as_1 : decode cX5_as 1 = .ok (.iload_n 1, 1) := by decide +kernel
theorem dX5_as_2 : decode cX5_as 2 = .ok (.invokevirtual 166, 3) := by decide +kernel
theorem dX5_as_5 : decode cX5_as 5 = .ok (.ifCond .ne 6, 3) := by decide +kernel
theorem dX5_as_8 : decode cX5_as 8 = .ok (.bipush (-2), 2) := by decide +kernel
theorem dX5_as_10 : decode cX5_as 10 = .ok (.ireturn, 1) := by decide +kernel
theorem dX5_as_11 : decode cX5_as 11 = .ok (.iload_n 2, 1) := by decide +kernel
theorem dX5_as_12 : decode cX5_as 12 = .ok (.i2l, 1) := by decide +kernel
theorem dX5_as_13 : decode cX5_as 13 = .ok (.lconst 0, 1) := by decide +kernel
theorem dX5_as_14 : decode cX5_as 14 = .ok (.ldc2_w 171, 3) := by decide +kernel
theorem dX5_as_17 : decode cX5_as 17 = .ok (.invokestatic 63, 3) := by decide +kernel
theorem dX5_as_20 : decode cX5_as 20 = .ok (.ifCond .ne 6, 3) := by decide +kernel
theorem dX5_as_23 : decode cX5_as 23 = .ok (.bipush (-3), 2) := by decide +kernel
theorem dX5_as_25 : decode cX5_as 25 = .ok (.ireturn, 1) := by decide +kernel
theorem dX5_as_26 : decode cX5_as 26 = .ok (.aload_n 0, 1) := by decide +kernel
theorem dX5_as_27 : decode cX5_as 27 = .ok (.getfield 7, 3) := by decide +kernel
theorem dX5_as_30 : decode cX5_as 30 = .ok (.bipush 26, 2) := by decide +kernel
theorem dX5_as_32 : decode cX5_as 32 = .ok (.iload_n 1, 1) := by decide +kernel
theorem dX5_as_33 : decode cX5_as 33 = .ok (.iadd, 1) := by decide +kernel
theorem dX5_as_34 : decode cX5_as 34 = .ok (.iaload, 1) := by decide +kernel
theorem dX5_as_35 : decode cX5_as 35 = .ok (.istore_n 3, 1) := by decide +kernel
theorem dX5_as_36 : decode cX5_as 36 = .ok (.iload_n 2, 1) := by decide +kernel
theorem dX5_as_37 : decode cX5_as 37 = .ok (.ifCond .eq 20, 3) := by decide +kernel
theorem dX5_as_40 : decode cX5_as 40 = .ok (.iload_n 2, 1) := by decide +kernel
theorem dX5_as_41 : decode cX5_as 41 = .ok (.iload_n 3, 1) := by decide +kernel
theorem dX5_as_42 : decode cX5_as 42 = .ok (.iconst 1, 1) := by decide +kernel
theorem dX5_as_43 : decode cX5_as 43 = .ok (.iadd, 1) := by decide +kernel
theorem dX5_as_44 : decode cX5_as 44 = .ok (.if_icmp .eq 13, 3) := by decide +kernel
theorem dX5_as_47 : decode cX5_as 47 = .ok (.iload_n 2, 1) := by decide +kernel
theorem dX5_as_48 : decode cX5_as 48 = .ok (.iconst 1, 1) := by decide +kernel
theorem dX5_as_49 : decode cX5_as 49 = .ok (.if_icmp .ne 12, 3) := by decide +kernel
theorem dX5_as_52 : decode cX5_as 52 = .ok (.iload_n 3, 1) := by decide +kernel
theorem dX5_as_53 : decode cX5_as 53 = .ok (.iconst 3, 1) := by decide +kernel
theorem dX5_as_54 : decode cX5_as 54 = .ok (.if_icmp .ge 7, 3) := by decide +kernel
theorem dX5_as_57 : decode cX5_as 57 = .ok (.iconst 1, 1) := by decide +kernel
theorem dX5_as_58 : decode cX5_as 58 = .ok (.goto 4, 3) := by decide +kernel
theorem dX5_as_61 : decode cX5_as 61 = .ok (.iconst 0, 1) := by decide +kernel
theorem dX5_as_62 : decode cX5_as 62 = .ok (.istore 4, 2) := by decide +kernel
theorem dX5_as_64 : decode cX5_as 64 = .ok (.iload 4, 2) := by decide +kernel
theorem dX5_as_66 : decode cX5_as 66 = .ok (.ifCond .eq 12, 3) := by decide +kernel
theorem dX5_as_69 : decode cX5_as 69 = .ok (.aload_n 0, 1) := by decide +kernel
theorem dX5_as_70 : decode cX5_as 70 = .ok (.getfield 7, 3) := by decide +kernel
theorem dX5_as_73 : decode cX5_as 73 = .ok (.iconst 0, 1) := by decide +kernel
theorem dX5_as_74 : decode cX5_as 74 = .ok (.iaload, 1) := by decide +kernel
theorem dX5_as_75 : decode cX5_as 75 = .ok (.ifCond .ne 6, 3) := by decide +kernel
theorem dX5_as_78 : decode cX5_as 78 = .ok (.bipush (-4), 2) := by decide +kernel
theorem dX5_as_80 : decode cX5_as 80 = .ok (.ireturn, 1) := by decide +kernel
theorem dX5_as_81 : decode cX5_as 81 = .ok (.aload_n 0, 1) := by decide +kernel
theorem dX5_as_82 : decode cX5_as 82 = .ok (.invokevirtual 173, 3) := by decide +kernel
theorem dX5_as_85 : decode cX5_as 85 = .ok (.aload_n 0, 1) := by decide +kernel
theorem dX5_as_86 : decode cX5_as 86 = .ok (.aload_n 0, 1) := by decide +kernel
theorem dX5_as_87 : decode cX5_as 87 = .ok (.getfield 16, 3) := by decide +kernel
theorem dX5_as_90 : decode cX5_as 90 = .ok (.iload_n 1, 1) := by decide +kernel
theorem dX5_as_91 : decode cX5_as 91 = .ok (.iconst 0, 1) := by decide +kernel
theorem dX5_as_92 : decode cX5_as 92 = .ok (.invokevirtual 155, 3) := by decide +kernel
theorem dX5_as_95 : decode cX5_as 95 = .ok (.sipush 9999, 3) := by decide +kernel
theorem dX5_as_98 : decode cX5_as 98 = .ok (.iadd, 1) := by decide +kernel
theorem dX5_as_99 : decode cX5_as 99 = .ok (.ireturn, 1) := by decide +kernel
theorem dX5_remember_0 : decode cX5_remember 0 = .ok (.aload_n 0, 1) := by decide +kernel
theorem dX5_remember_1 : decode cX5_remember 1 = .ok (.getfield 54, 3) := by decide +kernel
theorem dX5_remember_4 : decode cX5_remember 4 = .ok (.bipush 8, 2) := by decide +kernel
theorem dX5_remember_6 : decode cX5_remember 6 = .ok (.if_icmp .ne 43, 3) := by decide +kernel
theorem dX5_remember_9 : decode cX5_remember 9 = .ok (.iconst 0, 1) := by decide +kernel
theorem dX5_remember_10 : decode cX5_remember 10 = .ok (.istore_n 1, 1) := by decide +kernel
theorem dX5_remember_11 : decode cX5_remember 11 = .ok (.iload_n 1, 1) := by decide +kernel
theorem dX5_remember_12 : decode cX5_remember 12 = .ok (.sipush 364, 3) := by decide +kernel
theorem dX5_remember_15 : decode cX5_remember 15 = .ok (.if_icmp .ge 24, 3) := by decide +kernel
theorem dX5_remember_18 : decode cX5_remember 18 = .ok (.aload_n 0, 1) := by decide +kernel
theorem dX5_remember_19 : decode cX5_remember 19 = .ok (.getfield 19, 3) := by decide +kernel
theorem dX5_remember_22 : decode cX5_remember 22 = .ok (.iload_n 1, 1) := by decide +kernel
theorem dX5_remember_23 : decode cX5_remember 23 = .ok (.aload_n 0, 1) := by decide +kernel
theorem dX5_remember_24 : decode cX5_remember 24 = .ok (.getfield 19, 3) := by decide +kernel
theorem dX5_remember_27 : decode cX5_remember 27 = .ok (.iload_n 1, 1) := by decide +kernel
theorem dX5_remember_28 : decode cX5_remember 28 = .ok (.bipush 52, 2) := by decide +kernel
theorem dX5_remember_30 : decode cX5_remember 30 = .ok (.iadd, 1) := by decide +kernel
theorem dX5_remember_31 : decode cX5_remember 31 = .ok (.iaload, 1) := by decide +kernel
theorem dX5_remember_32 : decode cX5_remember 32 = .ok (.iastore, 1) := by decide +kernel
theorem dX5_remember_33 : decode cX5_remember 33 = .ok (.iinc 1 1, 3) := by decide +kernel
theorem dX5_remember_36 : decode cX5_remember 36 = .ok (.goto (-25), 3) := by decide +kernel
theorem dX5_remember_39 : decode cX5_remember 39 = .ok (.aload_n 0, 1) := by decide +kernel
theorem dX5_remember_40 : decode cX5_remember 40 = .ok (.dup, 1) := by decide +kernel
theorem dX5_remember_41 : decode cX5_remember 41 = .ok (.getfield 54, 3) := by decide +kernel
theorem dX5_remember_44 : decode cX5_remember 44 = .ok (.iconst 1, 1) := by decide +kernel
theorem dX5_remember_45 : decode cX5_remember 45 = .ok (.isub, 1) := by decide +kernel
theorem dX5_remember_46 : decode cX5_remember 46 = .ok (.putfield 54, 3) := by decide +kernel
theorem dX5_remember_49 : decode cX5_remember 49 = .ok (.aload_n 0, 1) := by decide +kernel
theorem dX5_remember_50 : decode cX5_remember 50 = .ok (.getfield 16, 3) := by decide +kernel
theorem dX5_remember_53 : decode cX5_remember 53 = .ok (.iconst 0, 1) := by decide +kernel
theorem dX5_remember_54 : decode cX5_remember 54 = .ok (.aload_n 0, 1) := by decide +kernel
theorem dX5_remember_55 : decode cX5_remember 55 = .ok (.getfield 19, 3) := by decide +kernel
theorem dX5_remember_58 : decode cX5_remember 58 = .ok (.bipush 52, 2) := by decide +kernel
theorem dX5_remember_60 : decode cX5_remember 60 = .ok (.aload_n 0, 1) := by decide +kernel
theorem dX5_remember_61 : decode cX5_remember 61 = .ok (.getfield 54, 3) := by decide +kernel
theorem dX5_remember_64 : decode cX5_remember 64 = .ok (.imul, 1) := by decide +kernel
theorem dX5_remember_65 : decode cX5_remember 65 = .ok (.bipush 52, 2) := by decide +kernel
theorem dX5_remember_67 : decode cX5_remember 67 = .ok (.invokestatic 141, 3) := by decide +kernel
theorem dX5_remember_70 : decode cX5_remember 70 = .ok (.aload_n 0, 1) := by decide +kernel
theorem dX5_remember_71 : decode cX5_remember 71 = .ok (.dup, 1) := by decide +kernel
theorem dX5_remember_72 : decode cX5_remember 72 = .ok (.getfield 54, 3) := by decide +kernel
theorem dX5_remember_75 : decode cX5_remember 75 = .ok (.iconst 1, 1) := by decide +kernel
theorem dX5_remember_76 : decode cX5_remember 76 = .ok (.iadd, 1) := by decide +kernel
theorem dX5_remember_77 : decode cX5_remember 77 = .ok (.putfield 54, 3) := by decide +kernel
theorem dX5_remember_80 : decode cX5_remember 80 = .ok (.return_, 1) := by decide +kernel
theorem dX5_day_0 : decode cX5_day 0 = .ok (.aload_n 0, 1) := by decide +kernel
theorem dX5_day_1 : decode cX5_day 1 = .ok (.getfield 16, 3) := by decide +kernel
theorem dX5_day_4 : decode cX5_day 4 = .ok (.iconst 0, 1) := by decide +kernel
theorem dX5_day_5 : decode cX5_day 5 = .ok (.iaload, 1) := by decide +kernel
theorem dX5_day_6 : decode cX5_day 6 = .ok (.sipush 999, 3) := by decide +kernel
theorem dX5_day_9 : decode cX5_day 9 = .ok (.if_icmp .ne 6, 3) := by decide +kernel
theorem dX5_day_12 : decode cX5_day 12 = .ok (.bipush (-5), 2) := by decide +kernel
theorem dX5_day_14 : decode cX5_day 14 = .ok (.ireturn, 1) := by decide +kernel
theorem dX5_day_15 : decode cX5_day 15 = .ok (.aload_n 0, 1) := by decide +kernel
theorem dX5_day_16 : decode cX5_day 16 = .ok (.invokevirtual 176, 3) := by decide +kernel
theorem dX5_day_19 : decode cX5_day 19 = .ok (.aload_n 0, 1) := by decide +kernel
theorem dX5_day_20 : decode cX5_day 20 = .ok (.invokevirtual 173, 3) := by decide +kernel
theorem dX5_day_23 : decode cX5_day 23 = .ok (.aload_n 0, 1) := by decide +kernel
theorem dX5_day_24 : decode cX5_day 24 = .ok (.aload_n 0, 1) := by decide +kernel
theorem dX5_day_25 : decode cX5_day 25 = .ok (.getfield 16, 3) := by decide +kernel
theorem dX5_day_28 : decode cX5_day 28 = .ok (.invokevirtual 179, 3) := by decide +kernel
theorem dX5_day_31 : decode cX5_day 31 = .ok (.ireturn, 1) := by decide +kernel
theorem dX5_thunder_0 : decode cX5_thunder 0 = .ok (.aload_n 0, 1) := by decide +kernel
theorem dX5_thunder_1 : decode cX5_thunder 1 = .ok (.invokevirtual 176, 3) := by decide +kernel
theorem dX5_thunder_4 : decode cX5_thunder 4 = .ok (.aload_n 0, 1) := by decide +kernel
theorem dX5_thunder_5 : decode cX5_thunder 5 = .ok (.getfield 16, 3) := by decide +kernel
theorem dX5_thunder_8 : decode cX5_thunder 8 = .ok (.iconst 1, 1) := by decide +kernel
theorem dX5_thunder_9 : decode cX5_thunder 9 = .ok (.iaload, 1) := by decide +kernel
theorem dX5_thunder_10 : decode cX5_thunder 10 = .ok (.istore_n 1, 1) := by decide +kernel
theorem dX5_thunder_11 : decode cX5_thunder 11 = .ok (.aload_n 0, 1) := by decide +kernel
theorem dX5_thunder_12 : decode cX5_thunder 12 = .ok (.getfield 16, 3) := by decide +kernel
theorem dX5_thunder_15 : decode cX5_thunder 15 = .ok (.iconst 1, 1) := by decide +kernel
theorem dX5_thunder_16 : decode cX5_thunder 16 = .ok (.iconst 1, 1) := by decide +kernel
theorem dX5_thunder_17 : decode cX5_thunder 17 = .ok (.iastore, 1) := by decide +kernel
theorem dX5_thunder_18 : decode cX5_thunder 18 = .ok (.iload_n 1, 1) := by decide +kernel
theorem dX5_thunder_19 : decode cX5_thunder 19 = .ok (.ireturn, 1) := by decide +kernel
theorem dX5_straw_0 : decode cX5_straw 0 = .ok (.aload_n 0, 1) := by decide +kernel
theorem dX5_straw_1 : decode cX5_straw 1 = .ok (.iload_n 1, 1) := by decide +kernel
theorem dX5_straw_2 : decode cX5_straw 2 = .ok (.invokevirtual 163, 3) := by decide +kernel
theorem dX5_straw_5 : decode cX5_straw 5 = .ok (.ifCond .ne 6, 3) := by decide +kernel
theorem dX5_straw_8 : decode cX5_straw 8 = .ok (.bipush (-2), 2) := by decide +kernel
theorem dX5_straw_10 : decode cX5_straw 10 = .ok (.ireturn, 1) := by decide +kernel
theorem dX5_straw_11 : decode cX5_straw 11 = .ok (.iload_n 2, 1) := by decide +kernel
theorem dX5_straw_12 : decode cX5_straw 12 = .ok (.i2l, 1) := by decide +kernel
theorem dX5_straw_13 : decode cX5_straw 13 = .ok (.lconst 0, 1) := by decide +kernel
theorem dX5_straw_14 : decode cX5_straw 14 = .ok (.ldc2_w 183, 3) := by decide +kernel
theorem dX5_straw_17 : decode cX5_straw 17 = .ok (.invokestatic 63, 3) := by decide +kernel
theorem dX5_straw_20 : decode cX5_straw 20 = .ok (.ifCond .ne 6, 3) := by decide +kernel
theorem dX5_straw_23 : decode cX5_straw 23 = .ok (.bipush (-3), 2) := by decide +kernel
theorem dX5_straw_25 : decode cX5_straw 25 = .ok (.ireturn, 1) := by decide +kernel
theorem dX5_straw_26 : decode cX5_straw 26 = .ok (.aload_n 0, 1) := by decide +kernel
theorem dX5_straw_27 : decode cX5_straw 27 = .ok (.invokevirtual 176, 3) := by decide +kernel
theorem dX5_straw_30 : decode cX5_straw 30 = .ok (.aload_n 0, 1) := by decide +kernel
theorem dX5_straw_31 : decode cX5_straw 31 = .ok (.getfield 16, 3) := by decide +kernel
theorem dX5_straw_34 : decode cX5_straw 34 = .ok (.bipush 10, 2) := by decide +kernel
theorem dX5_straw_36 : decode cX5_straw 36 = .ok (.iload_n 1, 1) := by decide +kernel
theorem dX5_straw_37 : decode cX5_straw 37 = .ok (.iadd, 1) := by decide +kernel
theorem dX5_straw_38 : decode cX5_straw 38 = .ok (.iaload, 1) := by decide +kernel
theorem dX5_straw_39 : decode cX5_straw 39 = .ok (.istore_n 3, 1) := by decide +kernel
theorem dX5_straw_40 : decode cX5_straw 40 = .ok (.aload_n 0, 1) := by decide +kernel
theorem dX5_straw_41 : decode cX5_straw 41 = .ok (.getfield 16, 3) := by decide +kernel
theorem dX5_straw_44 : decode cX5_straw 44 = .ok (.bipush 10, 2) := by decide +kernel
theorem dX5_straw_46 : decode cX5_straw 46 = .ok (.iload_n 1, 1) := by decide +kernel
theorem dX5_straw_47 : decode cX5_straw 47 = .ok (.iadd, 1) := by decide +kernel
theorem dX5_straw_48 : decode cX5_straw 48 = .ok (.iload_n 2, 1) := by decide +kernel
theorem dX5_straw_49 : decode cX5_straw 49 = .ok (.iastore, 1) := by decide +kernel
theorem dX5_straw_50 : decode cX5_straw 50 = .ok (.iload_n 3, 1) := by decide +kernel
theorem dX5_straw_51 : decode cX5_straw 51 = .ok (.ireturn, 1) := by decide +kernel
theorem dX5_moves_0 : decode cX5_moves 0 = .ok (.aload_n 0, 1) := by decide +kernel
theorem dX5_moves_1 : decode cX5_moves 1 = .ok (.iconst 2, 1) := by decide +kernel
theorem dX5_moves_2 : decode cX5_moves 2 = .ok (.iload_n 1, 1) := by decide +kernel
theorem dX5_moves_3 : decode cX5_moves 3 = .ok (.iadd, 1) := by decide +kernel
theorem dX5_moves_4 : decode cX5_moves 4 = .ok (.iaload, 1) := by decide +kernel
theorem dX5_moves_5 : decode cX5_moves 5 = .ok (.istore_n 3, 1) := by decide +kernel
theorem dX5_moves_6 : decode cX5_moves 6 = .ok (.aload_n 0, 1) := by decide +kernel
theorem dX5_moves_7 : decode cX5_moves 7 = .ok (.iconst 2, 1) := by decide +kernel
theorem dX5_moves_8 : decode cX5_moves 8 = .ok (.iload_n 1, 1) := by decide +kernel
theorem dX5_moves_9 : decode cX5_moves 9 = .ok (.iadd, 1) := by decide +kernel
theorem dX5_moves_10 : decode cX5_moves 10 = .ok (.aload_n 0, 1) := by decide +kernel
theorem dX5_moves_11 : decode cX5_moves 11 = .ok (.iconst 2, 1) := by decide +kernel
theorem dX5_moves_12 : decode cX5_moves 12 = .ok (.iload_n 2, 1) := by decide +kernel
theorem dX5_moves_13 : decode cX5_moves 13 = .ok (.iadd, 1) := by decide +kernel
theorem dX5_moves_14 : decode cX5_moves 14 = .ok (.iaload, 1) := by decide +kernel
theorem dX5_moves_15 : decode cX5_moves 15 = .ok (.iastore, 1) := by decide +kernel
theorem dX5_moves_16 : decode cX5_moves 16 = .ok (.aload_n 0, 1) := by decide +kernel
theorem dX5_moves_17 : decode cX5_moves 17 = .ok (.iconst 2, 1) := by decide +kernel
theorem dX5_moves_18 : decode cX5_moves 18 = .ok (.iload_n 2, 1) := by decide +kernel
theorem dX5_moves_19 : decode cX5_moves 19 = .ok (.iadd, 1) := by decide +kernel
theorem dX5_moves_20 : decode cX5_moves 20 = .ok (.iload_n 3, 1) := by decide +kernel
theorem dX5_moves_21 : decode cX5_moves 21 = .ok (.iastore, 1) := by decide +kernel
theorem dX5_moves_22 : decode cX5_moves 22 = .ok (.return_, 1) := by decide +kernel
theorem dX5_move_0 : decode cX5_move 0 = .ok (.aload_n 0, 1) := by decide +kernel
theorem dX5_move_1 : decode cX5_move 1 = .ok (.iload_n 1, 1) := by decide +kernel
theorem dX5_move_2 : decode cX5_move 2 = .ok (.invokevirtual 163, 3) := by decide +kernel
theorem dX5_move_5 : decode cX5_move 5 = .ok (.ifCond .eq 16, 3) := by decide +kernel
theorem dX5_move_8 : decode cX5_move 8 = .ok (.aload_n 0, 1) := by decide +kernel
theorem dX5_move_9 : decode cX5_move 9 = .ok (.iload_n 2, 1) := by decide +kernel
theorem dX5_move_10 : decode cX5_move 10 = .ok (.invokevirtual 163, 3) := by decide +kernel
theorem dX5_move_13 : decode cX5_move 13 = .ok (.ifCond .eq 8, 3) := by decide +kernel
theorem dX5_move_16 : decode cX5_move 16 = .ok (.iload_n 1, 1) := by decide +kernel
theorem dX5_move_17 : decode cX5_move 17 = .ok (.iload_n 2, 1) := by decide +kernel
theorem dX5_move_18 : decode cX5_move 18 = .ok (.if_icmp .ne 6, 3) := by decide +kernel
theorem dX5_move_21 : decode cX5_move 21 = .ok (.bipush (-2), 2) := by decide +kernel
theorem dX5_move_23 : decode cX5_move 23 = .ok (.ireturn, 1) := by decide +kernel
theorem dX5_move_24 : decode cX5_move 24 = .ok (.aload_n 0, 1) := by decide +kernel
theorem dX5_move_25 : decode cX5_move 25 = .ok (.invokevirtual 176, 3) := by decide +kernel
theorem dX5_move_28 : decode cX5_move 28 = .ok (.aload_n 0, 1) := by decide +kernel
theorem dX5_move_29 : decode cX5_move 29 = .ok (.getfield 16, 3) := by decide +kernel
theorem dX5_move_32 : decode cX5_move 32 = .ok (.iload_n 1, 1) := by decide +kernel
theorem dX5_move_33 : decode cX5_move 33 = .ok (.iload_n 2, 1) := by decide +kernel
theorem dX5_move_34 : decode cX5_move 34 = .ok (.invokestatic 185, 3) := by decide +kernel
theorem dX5_move_37 : decode cX5_move 37 = .ok (.aload_n 0, 1) := by decide +kernel
theorem dX5_move_38 : decode cX5_move 38 = .ok (.getfield 16, 3) := by decide +kernel
theorem dX5_move_41 : decode cX5_move 41 = .ok (.iconst 2, 1) := by decide +kernel
theorem dX5_move_42 : decode cX5_move 42 = .ok (.iload_n 1, 1) := by decide +kernel
theorem dX5_move_43 : decode cX5_move 43 = .ok (.iadd, 1) := by decide +kernel
theorem dX5_move_44 : decode cX5_move 44 = .ok (.iaload, 1) := by decide +kernel
theorem dX5_move_45 : decode cX5_move 45 = .ok (.ireturn, 1) := by decide +kernel
theorem dX5_eat_0 : decode cX5_eat 0 = .ok (.aload_n 0, 1) := by decide +kernel
theorem dX5_eat_1 : decode cX5_eat 1 = .ok (.iload_n 1, 1) := by decide +kernel
theorem dX5_eat_2 : decode cX5_eat 2 = .ok (.invokevirtual 163, 3) := by decide +kernel
theorem dX5_eat_5 : decode cX5_eat 5 = .ok (.ifCond .ne 6, 3) := by decide +kernel
theorem dX5_eat_8 : decode cX5_eat 8 = .ok (.bipush (-2), 2) := by decide +kernel
theorem dX5_eat_10 : decode cX5_eat 10 = .ok (.ireturn, 1) := by decide +kernel
theorem dX5_eat_11 : decode cX5_eat 11 = .ok (.aload_n 0, 1) := by decide +kernel
theorem dX5_eat_12 : decode cX5_eat 12 = .ok (.getfield 16, 3) := by decide +kernel
theorem dX5_eat_15 : decode cX5_eat 15 = .ok (.bipush 18, 2) := by decide +kernel
theorem dX5_eat_17 : decode cX5_eat 17 = .ok (.iload_n 1, 1) := by decide +kernel
theorem dX5_eat_18 : decode cX5_eat 18 = .ok (.iadd, 1) := by decide +kernel
theorem dX5_eat_19 : decode cX5_eat 19 = .ok (.iaload, 1) := by decide +kernel
theorem dX5_eat_20 : decode cX5_eat 20 = .ok (.iconst (-1), 1) := by decide +kernel
theorem dX5_eat_21 : decode cX5_eat 21 = .ok (.if_icmp .ne 6, 3) := by decide +kernel
theorem dX5_eat_24 : decode cX5_eat 24 = .ok (.bipush (-4), 2) := by decide +kernel
theorem dX5_eat_26 : decode cX5_eat 26 = .ok (.ireturn, 1) := by decide +kernel
theorem dX5_eat_27 : decode cX5_eat 27 = .ok (.aload_n 0, 1) := by decide +kernel
theorem dX5_eat_28 : decode cX5_eat 28 = .ok (.invokevirtual 176, 3) := by decide +kernel
theorem dX5_eat_31 : decode cX5_eat 31 = .ok (.aload_n 0, 1) := by decide +kernel
theorem dX5_eat_32 : decode cX5_eat 32 = .ok (.getfield 16, 3) := by decide +kernel
theorem dX5_eat_35 : decode cX5_eat 35 = .ok (.bipush 18, 2) := by decide +kernel
theorem dX5_eat_37 : decode cX5_eat 37 = .ok (.iload_n 1, 1) := by decide +kernel
theorem dX5_eat_38 : decode cX5_eat 38 = .ok (.iadd, 1) := by decide +kernel
theorem dX5_eat_39 : decode cX5_eat 39 = .ok (.iconst (-1), 1) := by decide +kernel
theorem dX5_eat_40 : decode cX5_eat 40 = .ok (.iastore, 1) := by decide +kernel
theorem dX5_eat_41 : decode cX5_eat 41 = .ok (.aload_n 0, 1) := by decide +kernel
theorem dX5_eat_42 : decode cX5_eat 42 = .ok (.getfield 16, 3) := by decide +kernel
theorem dX5_eat_45 : decode cX5_eat 45 = .ok (.bipush 49, 2) := by decide +kernel
theorem dX5_eat_47 : decode cX5_eat 47 = .ok (.dup2, 1) := by decide +kernel
theorem dX5_eat_48 : decode cX5_eat 48 = .ok (.iaload, 1) := by decide +kernel
theorem dX5_eat_49 : decode cX5_eat 49 = .ok (.iconst 1, 1) := by decide +kernel
theorem dX5_eat_50 : decode cX5_eat 50 = .ok (.iadd, 1) := by decide +kernel
theorem dX5_eat_51 : decode cX5_eat 51 = .ok (.iastore, 1) := by decide +kernel
theorem dX5_eat_52 : decode cX5_eat 52 = .ok (.aload_n 0, 1) := by decide +kernel
theorem dX5_eat_53 : decode cX5_eat 53 = .ok (.getfield 16, 3) := by decide +kernel
theorem dX5_eat_56 : decode cX5_eat 56 = .ok (.bipush 49, 2) := by decide +kernel
theorem dX5_eat_58 : decode cX5_eat 58 = .ok (.iaload, 1) := by decide +kernel
theorem dX5_eat_59 : decode cX5_eat 59 = .ok (.ireturn, 1) := by decide +kernel
theorem dX5_heed_0 : decode cX5_heed 0 = .ok (.aload_n 0, 1) := by decide +kernel
theorem dX5_heed_1 : decode cX5_heed 1 = .ok (.iload_n 1, 1) := by decide +kernel
theorem dX5_heed_2 : decode cX5_heed 2 = .ok (.invokevirtual 163, 3) := by decide +kernel
theorem dX5_heed_5 : decode cX5_heed 5 = .ok (.ifCond .ne 6, 3) := by decide +kernel
theorem dX5_heed_8 : decode cX5_heed 8 = .ok (.bipush (-2), 2) := by decide +kernel
theorem dX5_heed_10 : decode cX5_heed 10 = .ok (.ireturn, 1) := by decide +kernel
theorem dX5_heed_11 : decode cX5_heed 11 = .ok (.aload_n 0, 1) := by decide +kernel
theorem dX5_heed_12 : decode cX5_heed 12 = .ok (.getfield 16, 3) := by decide +kernel
theorem dX5_heed_15 : decode cX5_heed 15 = .ok (.bipush 18, 2) := by decide +kernel
theorem dX5_heed_17 : decode cX5_heed 17 = .ok (.iload_n 1, 1) := by decide +kernel
theorem dX5_heed_18 : decode cX5_heed 18 = .ok (.iadd, 1) := by decide +kernel
theorem dX5_heed_19 : decode cX5_heed 19 = .ok (.iaload, 1) := by decide +kernel
theorem dX5_heed_20 : decode cX5_heed 20 = .ok (.iconst (-1), 1) := by decide +kernel
theorem dX5_heed_21 : decode cX5_heed 21 = .ok (.if_icmp .ne 6, 3) := by decide +kernel
theorem dX5_heed_24 : decode cX5_heed 24 = .ok (.bipush (-4), 2) := by decide +kernel
theorem dX5_heed_26 : decode cX5_heed 26 = .ok (.ireturn, 1) := by decide +kernel
theorem dX5_heed_27 : decode cX5_heed 27 = .ok (.aload_n 0, 1) := by decide +kernel
theorem dX5_heed_28 : decode cX5_heed 28 = .ok (.invokevirtual 176, 3) := by decide +kernel
theorem dX5_heed_31 : decode cX5_heed 31 = .ok (.aload_n 0, 1) := by decide +kernel
theorem dX5_heed_32 : decode cX5_heed 32 = .ok (.getfield 16, 3) := by decide +kernel
theorem dX5_heed_35 : decode cX5_heed 35 = .ok (.bipush 18, 2) := by decide +kernel
theorem dX5_heed_37 : decode cX5_heed 37 = .ok (.iload_n 1, 1) := by decide +kernel
theorem dX5_heed_38 : decode cX5_heed 38 = .ok (.iadd, 1) := by decide +kernel
theorem dX5_heed_39 : decode cX5_heed 39 = .ok (.iconst (-1), 1) := by decide +kernel
theorem dX5_heed_40 : decode cX5_heed 40 = .ok (.iastore, 1) := by decide +kernel
theorem dX5_heed_41 : decode cX5_heed 41 = .ok (.aload_n 0, 1) := by decide +kernel
theorem dX5_heed_42 : decode cX5_heed 42 = .ok (.getfield 16, 3) := by decide +kernel
theorem dX5_heed_45 : decode cX5_heed 45 = .ok (.bipush 50, 2) := by decide +kernel
theorem dX5_heed_47 : decode cX5_heed 47 = .ok (.dup2, 1) := by decide +kernel
theorem dX5_heed_48 : decode cX5_heed 48 = .ok (.iaload, 1) := by decide +kernel
theorem dX5_heed_49 : decode cX5_heed 49 = .ok (.iconst 1, 1) := by decide +kernel
theorem dX5_heed_50 : decode cX5_heed 50 = .ok (.iadd, 1) := by decide +kernel
theorem dX5_heed_51 : decode cX5_heed 51 = .ok (.iastore, 1) := by decide +kernel
theorem dX5_heed_52 : decode cX5_heed 52 = .ok (.aload_n 0, 1) := by decide +kernel
theorem dX5_heed_53 : decode cX5_heed 53 = .ok (.getfield 16, 3) := by decide +kernel
theorem dX5_heed_56 : decode cX5_heed 56 = .ok (.bipush 51, 2) := by decide +kernel
theorem dX5_heed_58 : decode cX5_heed 58 = .ok (.dup2, 1) := by decide +kernel
theorem dX5_heed_59 : decode cX5_heed 59 = .ok (.iaload, 1) := by decide +kernel
theorem dX5_heed_60 : decode cX5_heed 60 = .ok (.aload_n 0, 1) := by decide +kernel
theorem dX5_heed_61 : decode cX5_heed 61 = .ok (.getfield 16, 3) := by decide +kernel
theorem dX5_heed_64 : decode cX5_heed 64 = .ok (.bipush 26, 2) := by decide +kernel
theorem dX5_heed_66 : decode cX5_heed 66 = .ok (.iload_n 1, 1) := by decide +kernel
theorem dX5_heed_67 : decode cX5_heed 67 = .ok (.iadd, 1) := by decide +kernel
theorem dX5_heed_68 : decode cX5_heed 68 = .ok (.iaload, 1) := by decide +kernel
theorem dX5_heed_69 : decode cX5_heed 69 = .ok (.iconst 1, 1) := by decide +kernel
theorem dX5_heed_70 : decode cX5_heed 70 = .ok (.if_icmp .ne 7, 3) := by decide +kernel
theorem dX5_heed_73 : decode cX5_heed 73 = .ok (.iconst 2, 1) := by decide +kernel
theorem dX5_heed_74 : decode cX5_heed 74 = .ok (.goto 4, 3) := by decide +kernel
theorem dX5_heed_77 : decode cX5_heed 77 = .ok (.iconst (-1), 1) := by decide +kernel
theorem dX5_heed_78 : decode cX5_heed 78 = .ok (.iadd, 1) := by decide +kernel
theorem dX5_heed_79 : decode cX5_heed 79 = .ok (.iastore, 1) := by decide +kernel
theorem dX5_heed_80 : decode cX5_heed 80 = .ok (.aload_n 0, 1) := by decide +kernel
theorem dX5_heed_81 : decode cX5_heed 81 = .ok (.getfield 16, 3) := by decide +kernel
theorem dX5_heed_84 : decode cX5_heed 84 = .ok (.bipush 51, 2) := by decide +kernel
theorem dX5_heed_86 : decode cX5_heed 86 = .ok (.iaload, 1) := by decide +kernel
theorem dX5_heed_87 : decode cX5_heed 87 = .ok (.sipush 9999, 3) := by decide +kernel
theorem dX5_heed_90 : decode cX5_heed 90 = .ok (.iadd, 1) := by decide +kernel
theorem dX5_heed_91 : decode cX5_heed 91 = .ok (.ireturn, 1) := by decide +kernel
theorem dX5_undo_0 : decode cX5_undo 0 = .ok (.aload_n 0, 1) := by decide +kernel
theorem dX5_undo_1 : decode cX5_undo 1 = .ok (.getfield 54, 3) := by decide +kernel
theorem dX5_undo_4 : decode cX5_undo 4 = .ok (.ifCond .ne 6, 3) := by decide +kernel
theorem dX5_undo_7 : decode cX5_undo 7 = .ok (.bipush (-4), 2) := by decide +kernel
theorem dX5_undo_9 : decode cX5_undo 9 = .ok (.ireturn, 1) := by decide +kernel
theorem dX5_undo_10 : decode cX5_undo 10 = .ok (.aload_n 0, 1) := by decide +kernel
theorem dX5_undo_11 : decode cX5_undo 11 = .ok (.dup, 1) := by decide +kernel
theorem dX5_undo_12 : decode cX5_undo 12 = .ok (.getfield 54, 3) := by decide +kernel
theorem dX5_undo_15 : decode cX5_undo 15 = .ok (.iconst 1, 1) := by decide +kernel
theorem dX5_undo_16 : decode cX5_undo 16 = .ok (.isub, 1) := by decide +kernel
theorem dX5_undo_17 : decode cX5_undo 17 = .ok (.putfield 54, 3) := by decide +kernel
theorem dX5_undo_20 : decode cX5_undo 20 = .ok (.aload_n 0, 1) := by decide +kernel
theorem dX5_undo_21 : decode cX5_undo 21 = .ok (.getfield 19, 3) := by decide +kernel
theorem dX5_undo_24 : decode cX5_undo 24 = .ok (.bipush 52, 2) := by decide +kernel
theorem dX5_undo_26 : decode cX5_undo 26 = .ok (.aload_n 0, 1) := by decide +kernel
theorem dX5_undo_27 : decode cX5_undo 27 = .ok (.getfield 54, 3) := by decide +kernel
theorem dX5_undo_30 : decode cX5_undo 30 = .ok (.imul, 1) := by decide +kernel
theorem dX5_undo_31 : decode cX5_undo 31 = .ok (.aload_n 0, 1) := by decide +kernel
theorem dX5_undo_32 : decode cX5_undo 32 = .ok (.getfield 16, 3) := by decide +kernel
theorem dX5_undo_35 : decode cX5_undo 35 = .ok (.iconst 0, 1) := by decide +kernel
theorem dX5_undo_36 : decode cX5_undo 36 = .ok (.bipush 52, 2) := by decide +kernel
theorem dX5_undo_38 : decode cX5_undo 38 = .ok (.invokestatic 141, 3) := by decide +kernel
theorem dX5_undo_41 : decode cX5_undo 41 = .ok (.aload_n 0, 1) := by decide +kernel
theorem dX5_undo_42 : decode cX5_undo 42 = .ok (.getfield 54, 3) := by decide +kernel
theorem dX5_undo_45 : decode cX5_undo 45 = .ok (.ireturn, 1) := by decide +kernel
theorem dX5_keep_0 : decode cX5_keep 0 = .ok (.iload_n 1, 1) := by decide +kernel
theorem dX5_keep_1 : decode cX5_keep 1 = .ok (.invokestatic 189, 3) := by decide +kernel
theorem dX5_keep_4 : decode cX5_keep 4 = .ok (.ifCond .ne 6, 3) := by decide +kernel
theorem dX5_keep_7 : decode cX5_keep 7 = .ok (.bipush (-2), 2) := by decide +kernel
theorem dX5_keep_9 : decode cX5_keep 9 = .ok (.ireturn, 1) := by decide +kernel
theorem dX5_keep_10 : decode cX5_keep 10 = .ok (.aload_n 0, 1) := by decide +kernel
theorem dX5_keep_11 : decode cX5_keep 11 = .ok (.getfield 16, 3) := by decide +kernel
theorem dX5_keep_14 : decode cX5_keep 14 = .ok (.iconst 0, 1) := by decide +kernel
theorem dX5_keep_15 : decode cX5_keep 15 = .ok (.aload_n 0, 1) := by decide +kernel
theorem dX5_keep_16 : decode cX5_keep 16 = .ok (.getfield 22, 3) := by decide +kernel
theorem dX5_keep_19 : decode cX5_keep 19 = .ok (.bipush 52, 2) := by decide +kernel
theorem dX5_keep_21 : decode cX5_keep 21 = .ok (.iload_n 1, 1) := by decide +kernel
theorem dX5_keep_22 : decode cX5_keep 22 = .ok (.imul, 1) := by decide +kernel
theorem dX5_keep_23 : decode cX5_keep 23 = .ok (.bipush 52, 2) := by decide +kernel
theorem dX5_keep_25 : decode cX5_keep 25 = .ok (.invokestatic 141, 3) := by decide +kernel
theorem dX5_keep_28 : decode cX5_keep 28 = .ok (.aload_n 0, 1) := by decide +kernel
theorem dX5_keep_29 : decode cX5_keep 29 = .ok (.getfield 25, 3) := by decide +kernel
theorem dX5_keep_32 : decode cX5_keep 32 = .ok (.iload_n 1, 1) := by decide +kernel
theorem dX5_keep_33 : decode cX5_keep 33 = .ok (.iconst 1, 1) := by decide +kernel
theorem dX5_keep_34 : decode cX5_keep 34 = .ok (.bastore, 1) := by decide +kernel
theorem dX5_keep_35 : decode cX5_keep 35 = .ok (.aload_n 0, 1) := by decide +kernel
theorem dX5_keep_36 : decode cX5_keep 36 = .ok (.getfield 16, 3) := by decide +kernel
theorem dX5_keep_39 : decode cX5_keep 39 = .ok (.iconst 0, 1) := by decide +kernel
theorem dX5_keep_40 : decode cX5_keep 40 = .ok (.iaload, 1) := by decide +kernel
theorem dX5_keep_41 : decode cX5_keep 41 = .ok (.ireturn, 1) := by decide +kernel
theorem dX5_back_0 : decode cX5_back 0 = .ok (.iload_n 1, 1) := by decide +kernel
theorem dX5_back_1 : decode cX5_back 1 = .ok (.invokestatic 189, 3) := by decide +kernel
theorem dX5_back_4 : decode cX5_back 4 = .ok (.ifCond .ne 6, 3) := by decide +kernel
theorem dX5_back_7 : decode cX5_back 7 = .ok (.bipush (-2), 2) := by decide +kernel
theorem dX5_back_9 : decode cX5_back 9 = .ok (.ireturn, 1) := by decide +kernel
theorem dX5_back_10 : decode cX5_back 10 = .ok (.aload_n 0, 1) := by decide +kernel
theorem dX5_back_11 : decode cX5_back 11 = .ok (.getfield 25, 3) := by decide +kernel
theorem dX5_back_14 : decode cX5_back 14 = .ok (.iload_n 1, 1) := by decide +kernel
theorem dX5_back_15 : decode cX5_back 15 = .ok (.baload, 1) := by decide +kernel
theorem dX5_back_16 : decode cX5_back 16 = .ok (.ifCond .ne 6, 3) := by decide +kernel
theorem dX5_back_19 : decode cX5_back 19 = .ok (.bipush (-4), 2) := by decide +kernel
theorem dX5_back_21 : decode cX5_back 21 = .ok (.ireturn, 1) := by decide +kernel
theorem dX5_back_22 : decode cX5_back 22 = .ok (.aload_n 0, 1) := by decide +kernel
theorem dX5_back_23 : decode cX5_back 23 = .ok (.getfield 22, 3) := by decide +kernel
theorem dX5_back_26 : decode cX5_back 26 = .ok (.bipush 52, 2) := by decide +kernel
theorem dX5_back_28 : decode cX5_back 28 = .ok (.iload_n 1, 1) := by decide +kernel
theorem dX5_back_29 : decode cX5_back 29 = .ok (.imul, 1) := by decide +kernel
theorem dX5_back_30 : decode cX5_back 30 = .ok (.aload_n 0, 1) := by decide +kernel
theorem dX5_back_31 : decode cX5_back 31 = .ok (.getfield 16, 3) := by decide +kernel
theorem dX5_back_34 : decode cX5_back 34 = .ok (.iconst 0, 1) := by decide +kernel
theorem dX5_back_35 : decode cX5_back 35 = .ok (.bipush 52, 2) := by decide +kernel
theorem dX5_back_37 : decode cX5_back 37 = .ok (.invokestatic 141, 3) := by decide +kernel
theorem dX5_back_40 : decode cX5_back 40 = .ok (.aload_n 0, 1) := by decide +kernel
theorem dX5_back_41 : decode cX5_back 41 = .ok (.iconst 0, 1) := by decide +kernel
theorem dX5_back_42 : decode cX5_back 42 = .ok (.putfield 54, 3) := by decide +kernel
theorem dX5_back_45 : decode cX5_back 45 = .ok (.aload_n 0, 1) := by decide +kernel
theorem dX5_back_46 : decode cX5_back 46 = .ok (.getfield 16, 3) := by decide +kernel
theorem dX5_back_49 : decode cX5_back 49 = .ok (.iconst 0, 1) := by decide +kernel
theorem dX5_back_50 : decode cX5_back 50 = .ok (.iaload, 1) := by decide +kernel
theorem dX5_back_51 : decode cX5_back 51 = .ok (.ireturn, 1) := by decide +kernel
theorem dX5_layAside_0 : decode cX5_layAside 0 = .ok (.aload_n 0, 1) := by decide +kernel
theorem dX5_layAside_1 : decode cX5_layAside 1 = .ok (.getfield 16, 3) := by decide +kernel
theorem dX5_layAside_4 : decode cX5_layAside 4 = .ok (.iconst 0, 1) := by decide +kernel
theorem dX5_layAside_5 : decode cX5_layAside 5 = .ok (.aload_n 0, 1) := by decide +kernel
theorem dX5_layAside_6 : decode cX5_layAside 6 = .ok (.getfield 44, 3) := by decide +kernel
theorem dX5_layAside_9 : decode cX5_layAside 9 = .ok (.iconst 0, 1) := by decide +kernel
theorem dX5_layAside_10 : decode cX5_layAside 10 = .ok (.bipush 52, 2) := by decide +kernel
theorem dX5_layAside_12 : decode cX5_layAside 12 = .ok (.invokestatic 141, 3) := by decide +kernel
theorem dX5_layAside_15 : decode cX5_layAside 15 = .ok (.return_, 1) := by decide +kernel
theorem dX5_go_0 : decode cX5_go 0 = .ok (.iconst 0, 1) := by decide +kernel
theorem dX5_go_1 : decode cX5_go 1 = .ok (.istore_n 2, 1) := by decide +kernel
theorem dX5_go_2 : decode cX5_go 2 = .ok (.iload_n 2, 1) := by decide +kernel
theorem dX5_go_3 : decode cX5_go 3 = .ok (.iload_n 1, 1) := by decide +kernel
theorem dX5_go_4 : decode cX5_go 4 = .ok (.if_icmp .ge 18, 3) := by decide +kernel
theorem dX5_go_7 : decode cX5_go 7 = .ok (.aload_n 0, 1) := by decide +kernel
theorem dX5_go_8 : decode cX5_go 8 = .ok (.aload_n 0, 1) := by decide +kernel
theorem dX5_go_9 : decode cX5_go 9 = .ok (.getfield 44, 3) := by decide +kernel
theorem dX5_go_12 : decode cX5_go 12 = .ok (.invokevirtual 179, 3) := by decide +kernel
theorem dX5_go_15 : decode cX5_go 15 = .ok (.istore_n 3, 1) := by decide +kernel
theorem dX5_go_16 : decode cX5_go 16 = .ok (.iinc 2 1, 3) := by decide +kernel
theorem dX5_go_19 : decode cX5_go 19 = .ok (.goto (-17), 3) := by decide +kernel
theorem dX5_go_22 : decode cX5_go 22 = .ok (.return_, 1) := by decide +kernel
theorem dX5_lays_0 : decode cX5_lays 0 = .ok (.aload_n 0, 1) := by decide +kernel
theorem dX5_lays_1 : decode cX5_lays 1 = .ok (.iload_n 1, 1) := by decide +kernel
theorem dX5_lays_2 : decode cX5_lays 2 = .ok (.invokevirtual 166, 3) := by decide +kernel
theorem dX5_lays_5 : decode cX5_lays 5 = .ok (.ifCond .ne 6, 3) := by decide +kernel
theorem dX5_lays_8 : decode cX5_lays 8 = .ok (.bipush (-2), 2) := by decide +kernel
theorem dX5_lays_10 : decode cX5_lays 10 = .ok (.ireturn, 1) := by decide +kernel
theorem dX5_lays_11 : decode cX5_lays 11 = .ok (.iload_n 2, 1) := by decide +kernel
theorem dX5_lays_12 : decode cX5_lays 12 = .ok (.i2l, 1) := by decide +kernel
theorem dX5_lays_13 : decode cX5_lays 13 = .ok (.lconst 1, 1) := by decide +kernel
theorem dX5_lays_14 : decode cX5_lays 14 = .ok (.ldc2_w 192, 3) := by decide +kernel
theorem dX5_lays_17 : decode cX5_lays 17 = .ok (.invokestatic 63, 3) := by decide +kernel
theorem dX5_lays_20 : decode cX5_lays 20 = .ok (.ifCond .ne 6, 3) := by decide +kernel
theorem dX5_lays_23 : decode cX5_lays 23 = .ok (.bipush (-3), 2) := by decide +kernel
theorem dX5_lays_25 : decode cX5_lays 25 = .ok (.ireturn, 1) := by decide +kernel
theorem dX5_lays_26 : decode cX5_lays 26 = .ok (.aload_n 0, 1) := by decide +kernel
theorem dX5_lays_27 : decode cX5_lays 27 = .ok (.invokevirtual 173, 3) := by decide +kernel
theorem dX5_lays_30 : decode cX5_lays 30 = .ok (.aload_n 0, 1) := by decide +kernel
theorem dX5_lays_31 : decode cX5_lays 31 = .ok (.invokevirtual 194, 3) := by decide +kernel
theorem dX5_lays_34 : decode cX5_lays 34 = .ok (.aload_n 0, 1) := by decide +kernel
theorem dX5_lays_35 : decode cX5_lays 35 = .ok (.iload_n 2, 1) := by decide +kernel
theorem dX5_lays_36 : decode cX5_lays 36 = .ok (.invokevirtual 197, 3) := by decide +kernel
theorem dX5_lays_39 : decode cX5_lays 39 = .ok (.aload_n 0, 1) := by decide +kernel
theorem dX5_lays_40 : decode cX5_lays 40 = .ok (.getfield 41, 3) := by decide +kernel
theorem dX5_lays_43 : decode cX5_lays 43 = .ok (.iload_n 1, 1) := by decide +kernel
theorem dX5_lays_44 : decode cX5_lays 44 = .ok (.iaload, 1) := by decide +kernel
theorem dX5_lays_45 : decode cX5_lays 45 = .ok (.ireturn, 1) := by decide +kernel
theorem dX5_rights_0 : decode cX5_rights 0 = .ok (.aload_n 0, 1) := by decide +kernel
theorem dX5_rights_1 : decode cX5_rights 1 = .ok (.iload_n 1, 1) := by decide +kernel
theorem dX5_rights_2 : decode cX5_rights 2 = .ok (.invokevirtual 166, 3) := by decide +kernel
theorem dX5_rights_5 : decode cX5_rights 5 = .ok (.ifCond .ne 6, 3) := by decide +kernel
theorem dX5_rights_8 : decode cX5_rights 8 = .ok (.bipush (-2), 2) := by decide +kernel
theorem dX5_rights_10 : decode cX5_rights 10 = .ok (.ireturn, 1) := by decide +kernel
theorem dX5_rights_11 : decode cX5_rights 11 = .ok (.iload_n 2, 1) := by decide +kernel
theorem dX5_rights_12 : decode cX5_rights 12 = .ok (.i2l, 1) := by decide +kernel
theorem dX5_rights_13 : decode cX5_rights 13 = .ok (.lconst 0, 1) := by decide +kernel
theorem dX5_rights_14 : decode cX5_rights 14 = .ok (.ldc2_w 192, 3) := by decide +kernel
theorem dX5_rights_17 : decode cX5_rights 17 = .ok (.invokestatic 63, 3) := by decide +kernel
theorem dX5_rights_20 : decode cX5_rights 20 = .ok (.ifCond .ne 6, 3) := by decide +kernel
theorem dX5_rights_23 : decode cX5_rights 23 = .ok (.bipush (-3), 2) := by decide +kernel
theorem dX5_rights_25 : decode cX5_rights 25 = .ok (.ireturn, 1) := by decide +kernel
theorem dX5_rights_26 : decode cX5_rights 26 = .ok (.aload_n 0, 1) := by decide +kernel
theorem dX5_rights_27 : decode cX5_rights 27 = .ok (.invokevirtual 173, 3) := by decide +kernel
theorem dX5_rights_30 : decode cX5_rights 30 = .ok (.aload_n 0, 1) := by decide +kernel
theorem dX5_rights_31 : decode cX5_rights 31 = .ok (.invokevirtual 194, 3) := by decide +kernel
theorem dX5_rights_34 : decode cX5_rights 34 = .ok (.aload_n 0, 1) := by decide +kernel
theorem dX5_rights_35 : decode cX5_rights 35 = .ok (.iload_n 2, 1) := by decide +kernel
theorem dX5_rights_36 : decode cX5_rights 36 = .ok (.invokevirtual 197, 3) := by decide +kernel
theorem dX5_rights_39 : decode cX5_rights 39 = .ok (.aload_n 0, 1) := by decide +kernel
theorem dX5_rights_40 : decode cX5_rights 40 = .ok (.getfield 44, 3) := by decide +kernel
theorem dX5_rights_43 : decode cX5_rights 43 = .ok (.bipush 39, 2) := by decide +kernel
theorem dX5_rights_45 : decode cX5_rights 45 = .ok (.iload_n 1, 1) := by decide +kernel
theorem dX5_rights_46 : decode cX5_rights 46 = .ok (.iadd, 1) := by decide +kernel
theorem dX5_rights_47 : decode cX5_rights 47 = .ok (.iaload, 1) := by decide +kernel
theorem dX5_rights_48 : decode cX5_rights 48 = .ok (.aload_n 0, 1) := by decide +kernel
theorem dX5_rights_49 : decode cX5_rights 49 = .ok (.getfield 16, 3) := by decide +kernel
theorem dX5_rights_52 : decode cX5_rights 52 = .ok (.bipush 39, 2) := by decide +kernel
theorem dX5_rights_54 : decode cX5_rights 54 = .ok (.iload_n 1, 1) := by decide +kernel
theorem dX5_rights_55 : decode cX5_rights 55 = .ok (.iadd, 1) := by decide +kernel
theorem dX5_rights_56 : decode cX5_rights 56 = .ok (.iaload, 1) := by decide +kernel
theorem dX5_rights_57 : decode cX5_rights 57 = .ok (.isub, 1) := by decide +kernel
theorem dX5_rights_58 : decode cX5_rights 58 = .ok (.ireturn, 1) := by decide +kernel
theorem dX5_ask_0 : decode cX5_ask 0 = .ok (.iload_n 1, 1) := by decide +kernel
theorem dX5_ask_1 : decode cX5_ask 1 = .ok (.i2l, 1) := by decide +kernel
theorem dX5_ask_2 : decode cX5_ask 2 = .ok (.lconst 0, 1) := by decide +kernel
theorem dX5_ask_3 : decode cX5_ask 3 = .ok (.ldc2_w 192, 3) := by decide +kernel
theorem dX5_ask_6 : decode cX5_ask 6 = .ok (.invokestatic 63, 3) := by decide +kernel
theorem dX5_ask_9 : decode cX5_ask 9 = .ok (.ifCond .eq 10, 3) := by decide +kernel
theorem dX5_ask_12 : decode cX5_ask 12 = .ok (.iload_n 2, 1) := by decide +kernel
theorem dX5_ask_13 : decode cX5_ask 13 = .ok (.invokestatic 189, 3) := by decide +kernel
theorem dX5_ask_16 : decode cX5_ask 16 = .ok (.ifCond .ne 6, 3) := by decide +kernel
theorem dX5_ask_19 : decode cX5_ask 19 = .ok (.bipush (-3), 2) := by decide +kernel
theorem dX5_ask_21 : decode cX5_ask 21 = .ok (.ireturn, 1) := by decide +kernel
theorem dX5_ask_22 : decode cX5_ask 22 = .ok (.aload_n 0, 1) := by decide +kernel
theorem dX5_ask_23 : decode cX5_ask 23 = .ok (.invokevirtual 173, 3) := by decide +kernel
theorem dX5_ask_26 : decode cX5_ask 26 = .ok (.aload_n 0, 1) := by decide +kernel
theorem dX5_ask_27 : decode cX5_ask 27 = .ok (.invokevirtual 194, 3) := by decide +kernel
theorem dX5_ask_30 : decode cX5_ask 30 = .ok (.aload_n 0, 1) := by decide +kernel
theorem dX5_ask_31 : decode cX5_ask 31 = .ok (.iload_n 1, 1) := by decide +kernel
theorem dX5_ask_32 : decode cX5_ask 32 = .ok (.invokevirtual 197, 3) := by decide +kernel
theorem dX5_ask_35 : decode cX5_ask 35 = .ok (.iconst (-1), 1) := by decide +kernel
theorem dX5_ask_36 : decode cX5_ask 36 = .ok (.istore_n 3, 1) := by decide +kernel
theorem dX5_ask_37 : decode cX5_ask 37 = .ok (.iconst (-1), 1) := by decide +kernel
theorem dX5_ask_38 : decode cX5_ask 38 = .ok (.istore 4, 2) := by decide +kernel
theorem dX5_ask_40 : decode cX5_ask 40 = .ok (.iconst 0, 1) := by decide +kernel
theorem dX5_ask_41 : decode cX5_ask 41 = .ok (.istore 5, 2) := by decide +kernel
theorem dX5_ask_43 : decode cX5_ask 43 = .ok (.iload 5, 2) := by decide +kernel
theorem dX5_ask_45 : decode cX5_ask 45 = .ok (.aload_n 0, 1) := by decide +kernel
theorem dX5_ask_46 : decode cX5_ask 46 = .ok (.getfield 7, 3) := by decide +kernel
theorem dX5_ask_49 : decode cX5_ask 49 = .ok (.bipush 25, 2) := by decide +kernel
theorem dX5_ask_51 : decode cX5_ask 51 = .ok (.iaload, 1) := by decide +kernel
theorem dX5_ask_52 : decode cX5_ask 52 = .ok (.if_icmp .ge 62, 3) := by decide +kernel
theorem dX5_ask_55 : decode cX5_ask 55 = .ok (.aload_n 0, 1) := by decide +kernel
theorem dX5_ask_56 : decode cX5_ask 56 = .ok (.getfield 44, 3) := by decide +kernel
theorem dX5_ask_59 : decode cX5_ask 59 = .ok (.bipush 39, 2) := by decide +kernel
theorem dX5_ask_61 : decode cX5_ask 61 = .ok (.iload 5, 2) := by decide +kernel
theorem dX5_ask_63 : decode cX5_ask 63 = .ok (.iadd, 1) := by decide +kernel
theorem dX5_ask_64 : decode cX5_ask 64 = .ok (.iaload, 1) := by decide +kernel
theorem dX5_ask_65 : decode cX5_ask 65 = .ok (.aload_n 0, 1) := by decide +kernel
theorem dX5_ask_66 : decode cX5_ask 66 = .ok (.getfield 16, 3) := by decide +kernel
theorem dX5_ask_69 : decode cX5_ask 69 = .ok (.bipush 39, 2) := by decide +kernel
theorem dX5_ask_71 : decode cX5_ask 71 = .ok (.iload 5, 2) := by decide +kernel
theorem dX5_ask_73 : decode cX5_ask 73 = .ok (.iadd, 1) := by decide +kernel
theorem dX5_ask_74 : decode cX5_ask 74 = .ok (.iaload, 1) := by decide +kernel
theorem dX5_ask_75 : decode cX5_ask 75 = .ok (.isub, 1) := by decide +kernel
theorem dX5_ask_76 : decode cX5_ask 76 = .ok (.istore 6, 2) := by decide +kernel
theorem dX5_ask_78 : decode cX5_ask 78 = .ok (.iload 6, 2) := by decide +kernel
theorem dX5_ask_80 : decode cX5_ask 80 = .ok (.iload 4, 2) := by decide +kernel
theorem dX5_ask_82 : decode cX5_ask 82 = .ok (.if_icmp .le 8, 3) := by decide +kernel
theorem dX5_ask_85 : decode cX5_ask 85 = .ok (.iload 5, 2) := by decide +kernel
theorem dX5_ask_87 : decode cX5_ask 87 = .ok (.goto 4, 3) := by decide +kernel
theorem dX5_ask_90 : decode cX5_ask 90 = .ok (.iload_n 3, 1) := by decide +kernel
theorem dX5_ask_91 : decode cX5_ask 91 = .ok (.istore_n 3, 1) := by decide +kernel
theorem dX5_ask_92 : decode cX5_ask 92 = .ok (.iload 6, 2) := by decide +kernel
theorem dX5_ask_94 : decode cX5_ask 94 = .ok (.iload 4, 2) := by decide +kernel
theorem dX5_ask_96 : decode cX5_ask 96 = .ok (.if_icmp .le 8, 3) := by decide +kernel
theorem dX5_ask_99 : decode cX5_ask 99 = .ok (.iload 6, 2) := by decide +kernel
theorem dX5_ask_101 : decode cX5_ask 101 = .ok (.goto 5, 3) := by decide +kernel
theorem dX5_ask_104 : decode cX5_ask 104 = .ok (.iload 4, 2) := by decide +kernel
theorem dX5_ask_106 : decode cX5_ask 106 = .ok (.istore 4, 2) := by decide +kernel
theorem dX5_ask_108 : decode cX5_ask 108 = .ok (.iinc 5 1, 3) := by decide +kernel
theorem dX5_ask_111 : decode cX5_ask 111 = .ok (.goto (-68), 3) := by decide +kernel
theorem dX5_ask_114 : decode cX5_ask 114 = .ok (.iload_n 2, 1) := by decide +kernel
theorem dX5_ask_115 : decode cX5_ask 115 = .ok (.ifCond .ne 7, 3) := by decide +kernel
theorem dX5_ask_118 : decode cX5_ask 118 = .ok (.iload_n 3, 1) := by decide +kernel
theorem dX5_ask_119 : decode cX5_ask 119 = .ok (.goto 5, 3) := by decide +kernel
theorem dX5_ask_122 : decode cX5_ask 122 = .ok (.iload 4, 2) := by decide +kernel
theorem dX5_ask_124 : decode cX5_ask 124 = .ok (.ireturn, 1) := by decide +kernel
theorem dX5_rightsOfAll_0 : decode cX5_rightsOfAll 0 = .ok (.iconst 0, 1) := by decide +kernel
theorem dX5_rightsOfAll_1 : decode cX5_rightsOfAll 1 = .ok (.istore_n 2, 1) := by decide +kernel
theorem dX5_rightsOfAll_2 : decode cX5_rightsOfAll 2 = .ok (.iconst 0, 1) := by decide +kernel
theorem dX5_rightsOfAll_3 : decode cX5_rightsOfAll 3 = .ok (.istore_n 3, 1) := by decide +kernel
theorem dX5_rightsOfAll_4 : decode cX5_rightsOfAll 4 = .ok (.iload_n 3, 1) := by decide +kernel
theorem dX5_rightsOfAll_5 : decode cX5_rightsOfAll 5 = .ok (.iconst 5, 1) := by decide +kernel
theorem dX5_rightsOfAll_6 : decode cX5_rightsOfAll 6 = .ok (.if_icmp .ge 18, 3) := by decide +kernel
theorem dX5_rightsOfAll_9 : decode cX5_rightsOfAll 9 = .ok (.iload_n 2, 1) := by decide +kernel
theorem dX5_rightsOfAll_10 : decode cX5_rightsOfAll 10 = .ok (.aload_n 1, 1) := by decide +kernel
theorem dX5_rightsOfAll_11 : decode cX5_rightsOfAll 11 = .ok (.bipush 39, 2) := by decide +kernel
theorem dX5_rightsOfAll_13 : decode cX5_rightsOfAll 13 = .ok (.iload_n 3, 1) := by decide +kernel
theorem dX5_rightsOfAll_14 : decode cX5_rightsOfAll 14 = .ok (.iadd, 1) := by decide +kernel
theorem dX5_rightsOfAll_15 : decode cX5_rightsOfAll 15 = .ok (.iaload, 1) := by decide +kernel
theorem dX5_rightsOfAll_16 : decode cX5_rightsOfAll 16 = .ok (.iadd, 1) := by decide +kernel
theorem dX5_rightsOfAll_17 : decode cX5_rightsOfAll 17 = .ok (.istore_n 2, 1) := by decide +kernel
theorem dX5_rightsOfAll_18 : decode cX5_rightsOfAll 18 = .ok (.iinc 3 1, 3) := by decide +kernel
theorem dX5_rightsOfAll_21 : decode cX5_rightsOfAll 21 = .ok (.goto (-17), 3) := by decide +kernel
theorem dX5_rightsOfAll_24 : decode cX5_rightsOfAll 24 = .ok (.iload_n 2, 1) := by decide +kernel
theorem dX5_rightsOfAll_25 : decode cX5_rightsOfAll 25 = .ok (.ireturn, 1) := by decide +kernel
theorem dX5_trough_0 : decode cX5_trough 0 = .ok (.iload_n 1, 1) := by decide +kernel
theorem dX5_trough_1 : decode cX5_trough 1 = .ok (.i2l, 1) := by decide +kernel
theorem dX5_trough_2 : decode cX5_trough 2 = .ok (.lconst 1, 1) := by decide +kernel
theorem dX5_trough_3 : decode cX5_trough 3 = .ok (.ldc2_w 201, 3) := by decide +kernel
theorem dX5_trough_6 : decode cX5_trough 6 = .ok (.invokestatic 63, 3) := by decide +kernel
theorem dX5_trough_9 : decode cX5_trough 9 = .ok (.ifCond .ne 6, 3) := by decide +kernel
theorem dX5_trough_12 : decode cX5_trough 12 = .ok (.bipush (-3), 2) := by decide +kernel
theorem dX5_trough_14 : decode cX5_trough 14 = .ok (.ireturn, 1) := by decide +kernel
theorem dX5_trough_15 : decode cX5_trough 15 = .ok (.aload_n 0, 1) := by decide +kernel
theorem dX5_trough_16 : decode cX5_trough 16 = .ok (.invokevirtual 173, 3) := by decide +kernel
theorem dX5_trough_19 : decode cX5_trough 19 = .ok (.aload_n 0, 1) := by decide +kernel
theorem dX5_trough_20 : decode cX5_trough 20 = .ok (.invokevirtual 194, 3) := by decide +kernel
theorem dX5_trough_23 : decode cX5_trough 23 = .ok (.aload_n 0, 1) := by decide +kernel
theorem dX5_trough_24 : decode cX5_trough 24 = .ok (.iload_n 1, 1) := by decide +kernel
theorem dX5_trough_25 : decode cX5_trough 25 = .ok (.invokevirtual 197, 3) := by decide +kernel
theorem dX5_trough_28 : decode cX5_trough 28 = .ok (.aload_n 0, 1) := by decide +kernel
theorem dX5_trough_29 : decode cX5_trough 29 = .ok (.aload_n 0, 1) := by decide +kernel
theorem dX5_trough_30 : decode cX5_trough 30 = .ok (.getfield 44, 3) := by decide +kernel
theorem dX5_trough_33 : decode cX5_trough 33 = .ok (.invokevirtual 203, 3) := by decide +kernel
theorem dX5_trough_36 : decode cX5_trough 36 = .ok (.istore_n 2, 1) := by decide +kernel
theorem dX5_trough_37 : decode cX5_trough 37 = .ok (.iconst (-1), 1) := by decide +kernel
theorem dX5_trough_38 : decode cX5_trough 38 = .ok (.istore_n 3, 1) := by decide +kernel
theorem dX5_trough_39 : decode cX5_trough 39 = .ok (.iconst 0, 1) := by decide +kernel
theorem dX5_trough_40 : decode cX5_trough 40 = .ok (.istore 4, 2) := by decide +kernel
theorem dX5_trough_42 : decode cX5_trough 42 = .ok (.iload 4, 2) := by decide +kernel
theorem dX5_trough_44 : decode cX5_trough 44 = .ok (.aload_n 0, 1) := by decide +kernel
theorem dX5_trough_45 : decode cX5_trough 45 = .ok (.getfield 7, 3) := by decide +kernel
theorem dX5_trough_48 : decode cX5_trough 48 = .ok (.iconst 0, 1) := by decide +kernel
theorem dX5_trough_49 : decode cX5_trough 49 = .ok (.iaload, 1) := by decide +kernel
theorem dX5_trough_50 : decode cX5_trough 50 = .ok (.if_icmp .ge 94, 3) := by decide +kernel
theorem dX5_trough_53 : decode cX5_trough 53 = .ok (.iload 4, 2) := by decide +kernel
theorem dX5_trough_55 : decode cX5_trough 55 = .ok (.iconst 1, 1) := by decide +kernel
theorem dX5_trough_56 : decode cX5_trough 56 = .ok (.iadd, 1) := by decide +kernel
theorem dX5_trough_57 : decode cX5_trough 57 = .ok (.istore 5, 2) := by decide +kernel
theorem dX5_trough_59 : decode cX5_trough 59 = .ok (.iload 5, 2) := by decide +kernel
theorem dX5_trough_61 : decode cX5_trough 61 = .ok (.aload_n 0, 1) := by decide +kernel
theorem dX5_trough_62 : decode cX5_trough 62 = .ok (.getfield 7, 3) := by decide +kernel
theorem dX5_trough_65 : decode cX5_trough 65 = .ok (.iconst 0, 1) := by decide +kernel
theorem dX5_trough_66 : decode cX5_trough 66 = .ok (.iaload, 1) := by decide +kernel
theorem dX5_trough_67 : decode cX5_trough 67 = .ok (.if_icmp .ge 71, 3) := by decide +kernel
theorem dX5_trough_70 : decode cX5_trough 70 = .ok (.aload_n 0, 1) := by decide +kernel
theorem dX5_trough_71 : decode cX5_trough 71 = .ok (.invokevirtual 194, 3) := by decide +kernel
theorem dX5_trough_74 : decode cX5_trough 74 = .ok (.aload_n 0, 1) := by decide +kernel
theorem dX5_trough_75 : decode cX5_trough 75 = .ok (.getfield 44, 3) := by decide +kernel
theorem dX5_trough_78 : decode cX5_trough 78 = .ok (.iload 4, 2) := by decide +kernel
theorem dX5_trough_80 : decode cX5_trough 80 = .ok (.iload 5, 2) := by decide +kernel
theorem dX5_trough_82 : decode cX5_trough 82 = .ok (.invokestatic 185, 3) := by decide +kernel
theorem dX5_trough_85 : decode cX5_trough 85 = .ok (.aload_n 0, 1) := by decide +kernel
theorem dX5_trough_86 : decode cX5_trough 86 = .ok (.iload_n 1, 1) := by decide +kernel
theorem dX5_trough_87 : decode cX5_trough 87 = .ok (.invokevirtual 197, 3) := by decide +kernel
theorem dX5_trough_90 : decode cX5_trough 90 = .ok (.aload_n 0, 1) := by decide +kernel
theorem dX5_trough_91 : decode cX5_trough 91 = .ok (.aload_n 0, 1) := by decide +kernel
theorem dX5_trough_92 : decode cX5_trough 92 = .ok (.getfield 44, 3) := by decide +kernel
theorem dX5_trough_95 : decode cX5_trough 95 = .ok (.invokevirtual 203, 3) := by decide +kernel
theorem dX5_trough_98 : decode cX5_trough 98 = .ok (.istore 6, 2) := by decide +kernel
theorem dX5_trough_100 : decode cX5_trough 100 = .ok (.iload 6, 2) := by decide +kernel
theorem dX5_trough_102 : decode cX5_trough 102 = .ok (.iload_n 2, 1) := by decide +kernel
theorem dX5_trough_103 : decode cX5_trough 103 = .ok (.if_icmp .le 14, 3) := by decide +kernel
theorem dX5_trough_106 : decode cX5_trough 106 = .ok (.bipush 10, 2) := by decide +kernel
theorem dX5_trough_108 : decode cX5_trough 108 = .ok (.iload 4, 2) := by decide +kernel
theorem dX5_trough_110 : decode cX5_trough 110 = .ok (.imul, 1) := by decide +kernel
theorem dX5_trough_111 : decode cX5_trough 111 = .ok (.iload 5, 2) := by decide +kernel
theorem dX5_trough_113 : decode cX5_trough 113 = .ok (.iadd, 1) := by decide +kernel
theorem dX5_trough_114 : decode cX5_trough 114 = .ok (.goto 4, 3) := by decide +kernel
theorem dX5_trough_117 : decode cX5_trough 117 = .ok (.iload_n 3, 1) := by decide +kernel
theorem dX5_trough_118 : decode cX5_trough 118 = .ok (.istore_n 3, 1) := by decide +kernel
theorem dX5_trough_119 : decode cX5_trough 119 = .ok (.iload 6, 2) := by decide +kernel
theorem dX5_trough_121 : decode cX5_trough 121 = .ok (.iload_n 2, 1) := by decide +kernel
theorem dX5_trough_122 : decode cX5_trough 122 = .ok (.if_icmp .le 8, 3) := by decide +kernel
theorem dX5_trough_125 : decode cX5_trough 125 = .ok (.iload 6, 2) := by decide +kernel
theorem dX5_trough_127 : decode cX5_trough 127 = .ok (.goto 4, 3) := by decide +kernel
theorem dX5_trough_130 : decode cX5_trough 130 = .ok (.iload_n 2, 1) := by decide +kernel
theorem dX5_trough_131 : decode cX5_trough 131 = .ok (.istore_n 2, 1) := by decide +kernel
theorem dX5_trough_132 : decode cX5_trough 132 = .ok (.iinc 5 1, 3) := by decide +kernel
theorem dX5_trough_135 : decode cX5_trough 135 = .ok (.goto (-76), 3) := by decide +kernel
theorem dX5_trough_138 : decode cX5_trough 138 = .ok (.iinc 4 1, 3) := by decide +kernel
theorem dX5_trough_141 : decode cX5_trough 141 = .ok (.goto (-99), 3) := by decide +kernel
theorem dX5_trough_144 : decode cX5_trough 144 = .ok (.iload_n 3, 1) := by decide +kernel
theorem dX5_trough_145 : decode cX5_trough 145 = .ok (.ireturn, 1) := by decide +kernel
theorem dX5_warmth_0 : decode cX5_warmth 0 = .ok (.aload_n 0, 1) := by decide +kernel
theorem dX5_warmth_1 : decode cX5_warmth 1 = .ok (.iload_n 1, 1) := by decide +kernel
theorem dX5_warmth_2 : decode cX5_warmth 2 = .ok (.invokevirtual 166, 3) := by decide +kernel
theorem dX5_warmth_5 : decode cX5_warmth 5 = .ok (.ifCond .eq 11, 3) := by decide +kernel
theorem dX5_warmth_8 : decode cX5_warmth 8 = .ok (.aload_n 0, 1) := by decide +kernel
theorem dX5_warmth_9 : decode cX5_warmth 9 = .ok (.iload_n 2, 1) := by decide +kernel
theorem dX5_warmth_10 : decode cX5_warmth 10 = .ok (.invokevirtual 163, 3) := by decide +kernel
theorem dX5_warmth_13 : decode cX5_warmth 13 = .ok (.ifCond .ne 6, 3) := by decide +kernel
theorem dX5_warmth_16 : decode cX5_warmth 16 = .ok (.bipush (-2), 2) := by decide +kernel
theorem dX5_warmth_18 : decode cX5_warmth 18 = .ok (.ireturn, 1) := by decide +kernel
theorem dX5_warmth_19 : decode cX5_warmth 19 = .ok (.aload_n 0, 1) := by decide +kernel
theorem dX5_warmth_20 : decode cX5_warmth 20 = .ok (.invokevirtual 173, 3) := by decide +kernel
theorem dX5_warmth_23 : decode cX5_warmth 23 = .ok (.iconst 0, 1) := by decide +kernel
theorem dX5_warmth_24 : decode cX5_warmth 24 = .ok (.istore_n 3, 1) := by decide +kernel
theorem dX5_warmth_25 : decode cX5_warmth 25 = .ok (.iload_n 3, 1) := by decide +kernel
theorem dX5_warmth_26 : decode cX5_warmth 26 = .ok (.bipush 10, 2) := by decide +kernel
theorem dX5_warmth_28 : decode cX5_warmth 28 = .ok (.if_icmp .ge 40, 3) := by decide +kernel
theorem dX5_warmth_31 : decode cX5_warmth 31 = .ok (.aload_n 0, 1) := by decide +kernel
theorem dX5_warmth_32 : decode cX5_warmth 32 = .ok (.invokevirtual 194, 3) := by decide +kernel
theorem dX5_warmth_35 : decode cX5_warmth 35 = .ok (.aload_n 0, 1) := by decide +kernel
theorem dX5_warmth_36 : decode cX5_warmth 36 = .ok (.getfield 44, 3) := by decide +kernel
theorem dX5_warmth_39 : decode cX5_warmth 39 = .ok (.bipush 10, 2) := by decide +kernel
theorem dX5_warmth_41 : decode cX5_warmth 41 = .ok (.iload_n 2, 1) := by decide +kernel
theorem dX5_warmth_42 : decode cX5_warmth 42 = .ok (.iadd, 1) := by decide +kernel
theorem dX5_warmth_43 : decode cX5_warmth 43 = .ok (.iload_n 3, 1) := by decide +kernel
theorem dX5_warmth_44 : decode cX5_warmth 44 = .ok (.iastore, 1) := by decide +kernel
theorem dX5_warmth_45 : decode cX5_warmth 45 = .ok (.aload_n 0, 1) := by decide +kernel
theorem dX5_warmth_46 : decode cX5_warmth 46 = .ok (.iconst 1, 1) := by decide +kernel
theorem dX5_warmth_47 : decode cX5_warmth 47 = .ok (.invokevirtual 197, 3) := by decide +kernel
theorem dX5_warmth_50 : decode cX5_warmth 50 = .ok (.aload_n 0, 1) := by decide +kernel
theorem dX5_warmth_51 : decode cX5_warmth 51 = .ok (.getfield 41, 3) := by decide +kernel
theorem dX5_warmth_54 : decode cX5_warmth 54 = .ok (.iload_n 1, 1) := by decide +kernel
theorem dX5_warmth_55 : decode cX5_warmth 55 = .ok (.iaload, 1) := by decide +kernel
theorem dX5_warmth_56 : decode cX5_warmth 56 = .ok (.iload_n 2, 1) := by decide +kernel
theorem dX5_warmth_57 : decode cX5_warmth 57 = .ok (.if_icmp .ne 5, 3) := by decide +kernel
theorem dX5_warmth_60 : decode cX5_warmth 60 = .ok (.iload_n 3, 1) := by decide +kernel
theorem dX5_warmth_61 : decode cX5_warmth 61 = .ok (.ireturn, 1) := by decide +kernel
theorem dX5_warmth_62 : decode cX5_warmth 62 = .ok (.iinc 3 1, 3) := by decide +kernel
theorem dX5_warmth_65 : decode cX5_warmth 65 = .ok (.goto (-40), 3) := by decide +kernel
theorem dX5_warmth_68 : decode cX5_warmth 68 = .ok (.iconst (-1), 1) := by decide +kernel
theorem dX5_warmth_69 : decode cX5_warmth 69 = .ok (.ireturn, 1) := by decide +kernel
theorem dX5_seen_0 : decode cX5_seen 0 = .ok (.aload_n 0, 1) := by decide +kernel
theorem dX5_seen_1 : decode cX5_seen 1 = .ok (.iload_n 1, 1) := by decide +kernel
theorem dX5_seen_2 : decode cX5_seen 2 = .ok (.invokevirtual 166, 3) := by decide +kernel
theorem dX5_seen_5 : decode cX5_seen 5 = .ok (.ifCond .eq 16, 3) := by decide +kernel
theorem dX5_seen_8 : decode cX5_seen 8 = .ok (.iload_n 3, 1) := by decide +kernel
theorem dX5_seen_9 : decode cX5_seen 9 = .ok (.iconst (-1), 1) := by decide +kernel
theorem dX5_seen_10 : decode cX5_seen 10 = .ok (.if_icmp .eq 14, 3) := by decide +kernel
theorem dX5_seen_13 : decode cX5_seen 13 = .ok (.aload_n 0, 1) := by decide +kernel
theorem dX5_seen_14 : decode cX5_seen 14 = .ok (.iload_n 3, 1) := by decide +kernel
theorem dX5_seen_15 : decode cX5_seen 15 = .ok (.invokevirtual 163, 3) := by decide +kernel
theorem dX5_seen_18 : decode cX5_seen 18 = .ok (.ifCond .ne 6, 3) := by decide +kernel
theorem dX5_seen_21 : decode cX5_seen 21 = .ok (.bipush (-2), 2) := by decide +kernel
theorem dX5_seen_23 : decode cX5_seen 23 = .ok (.ireturn, 1) := by decide +kernel
theorem dX5_seen_24 : decode cX5_seen 24 = .ok (.iload_n 2, 1) := by decide +kernel
theorem dX5_seen_25 : decode cX5_seen 25 = .ok (.i2l, 1) := by decide +kernel
theorem dX5_seen_26 : decode cX5_seen 26 = .ok (.lconst 1, 1) := by decide +kernel
theorem dX5_seen_27 : decode cX5_seen 27 = .ok (.ldc2_w 206, 3) := by decide +kernel
theorem dX5_seen_30 : decode cX5_seen 30 = .ok (.invokestatic 63, 3) := by decide +kernel
theorem dX5_seen_33 : decode cX5_seen 33 = .ok (.ifCond .ne 6, 3) := by decide +kernel
theorem dX5_seen_36 : decode cX5_seen 36 = .ok (.bipush (-3), 2) := by decide +kernel
theorem dX5_seen_38 : decode cX5_seen 38 = .ok (.ireturn, 1) := by decide +kernel
theorem dX5_seen_39 : decode cX5_seen 39 = .ok (.aload_n 0, 1) := by decide +kernel
theorem dX5_seen_40 : decode cX5_seen 40 = .ok (.getfield 58, 3) := by decide +kernel
theorem dX5_seen_43 : decode cX5_seen 43 = .ok (.bipush 6, 2) := by decide +kernel
theorem dX5_seen_45 : decode cX5_seen 45 = .ok (.if_icmp .ne 6, 3) := by decide +kernel
theorem dX5_seen_48 : decode cX5_seen 48 = .ok (.bipush (-5), 2) := by decide +kernel
theorem dX5_seen_50 : decode cX5_seen 50 = .ok (.ireturn, 1) := by decide +kernel
theorem dX5_seen_51 : decode cX5_seen 51 = .ok (.aload_n 0, 1) := by decide +kernel
theorem dX5_seen_52 : decode cX5_seen 52 = .ok (.getfield 32, 3) := by decide +kernel
theorem dX5_seen_55 : decode cX5_seen 55 = .ok (.iconst 3, 1) := by decide +kernel
theorem dX5_seen_56 : decode cX5_seen 56 = .ok (.aload_n 0, 1) := by decide +kernel
theorem dX5_seen_57 : decode cX5_seen 57 = .ok (.getfield 58, 3) := by decide +kernel
theorem dX5_seen_60 : decode cX5_seen 60 = .ok (.imul, 1) := by decide +kernel
theorem dX5_seen_61 : decode cX5_seen 61 = .ok (.iload_n 1, 1) := by decide +kernel
theorem dX5_seen_62 : decode cX5_seen 62 = .ok (.iastore, 1) := by decide +kernel
theorem dX5_seen_63 : decode cX5_seen 63 = .ok (.aload_n 0, 1) := by decide +kernel
theorem dX5_seen_64 : decode cX5_seen 64 = .ok (.getfield 32, 3) := by decide +kernel
theorem dX5_seen_67 : decode cX5_seen 67 = .ok (.iconst 3, 1) := by decide +kernel
theorem dX5_seen_68 : decode cX5_seen 68 = .ok (.aload_n 0, 1) := by decide +kernel
theorem dX5_seen_69 : decode cX5_seen 69 = .ok (.getfield 58, 3) := by decide +kernel
theorem dX5_seen_72 : decode cX5_seen 72 = .ok (.imul, 1) := by decide +kernel
theorem dX5_seen_73 : decode cX5_seen 73 = .ok (.iconst 1, 1) := by decide +kernel
theorem dX5_seen_74 : decode cX5_seen 74 = .ok (.iadd, 1) := by decide +kernel
theorem dX5_seen_75 : decode cX5_seen 75 = .ok (.iload_n 2, 1) := by decide +kernel
theorem dX5_seen_76 : decode cX5_seen 76 = .ok (.iastore, 1) := by decide +kernel
theorem dX5_seen_77 : decode cX5_seen 77 = .ok (.aload_n 0, 1) := by decide +kernel
theorem dX5_seen_78 : decode cX5_seen 78 = .ok (.getfield 32, 3) := by decide +kernel
theorem dX5_seen_81 : decode cX5_seen 81 = .ok (.iconst 3, 1) := by decide +kernel
theorem dX5_seen_82 : decode cX5_seen 82 = .ok (.aload_n 0, 1) := by decide +kernel
theorem dX5_seen_83 : decode cX5_seen 83 = .ok (.getfield 58, 3) := by decide +kernel
theorem dX5_seen_86 : decode cX5_seen 86 = .ok (.imul, 1) := by decide +kernel
theorem dX5_seen_87 : decode cX5_seen 87 = .ok (.iconst 2, 1) := by decide +kernel
theorem dX5_seen_88 : decode cX5_seen 88 = .ok (.iadd, 1) := by decide +kernel
theorem dX5_seen_89 : decode cX5_seen 89 = .ok (.iload_n 3, 1) := by decide +kernel
theorem dX5_seen_90 : decode cX5_seen 90 = .ok (.iastore, 1) := by decide +kernel
theorem dX5_seen_91 : decode cX5_seen 91 = .ok (.aload_n 0, 1) := by decide +kernel
theorem dX5_seen_92 : decode cX5_seen 92 = .ok (.dup, 1) := by decide +kernel
theorem dX5_seen_93 : decode cX5_seen 93 = .ok (.getfield 58, 3) := by decide +kernel
theorem dX5_seen_96 : decode cX5_seen 96 = .ok (.iconst 1, 1) := by decide +kernel
theorem dX5_seen_97 : decode cX5_seen 97 = .ok (.iadd, 1) := by decide +kernel
theorem dX5_seen_98 : decode cX5_seen 98 = .ok (.putfield 58, 3) := by decide +kernel
theorem dX5_seen_101 : decode cX5_seen 101 = .ok (.aload_n 0, 1) := by decide +kernel
theorem dX5_seen_102 : decode cX5_seen 102 = .ok (.getfield 58, 3) := by decide +kernel
theorem dX5_seen_105 : decode cX5_seen 105 = .ok (.ireturn, 1) := by decide +kernel
theorem dX5_forget_0 : decode cX5_forget 0 = .ok (.aload_n 0, 1) := by decide +kernel
theorem dX5_forget_1 : decode cX5_forget 1 = .ok (.getfield 58, 3) := by decide +kernel
theorem dX5_forget_4 : decode cX5_forget 4 = .ok (.istore_n 1, 1) := by decide +kernel
theorem dX5_forget_5 : decode cX5_forget 5 = .ok (.aload_n 0, 1) := by decide +kernel
theorem dX5_forget_6 : decode cX5_forget 6 = .ok (.iconst 0, 1) := by decide +kernel
theorem dX5_forget_7 : decode cX5_forget 7 = .ok (.putfield 58, 3) := by decide +kernel
theorem dX5_forget_10 : decode cX5_forget 10 = .ok (.iload_n 1, 1) := by decide +kernel
theorem dX5_forget_11 : decode cX5_forget 11 = .ok (.ireturn, 1) := by decide +kernel
theorem dX5_comes_0 : decode cX5_comes 0 = .ok (.aload_n 0, 1) := by decide +kernel
theorem dX5_comes_1 : decode cX5_comes 1 = .ok (.invokevirtual 194, 3) := by decide +kernel
theorem dX5_comes_4 : decode cX5_comes 4 = .ok (.iconst 1, 1) := by decide +kernel
theorem dX5_comes_5 : decode cX5_comes 5 = .ok (.istore_n 2, 1) := by decide +kernel
theorem dX5_comes_6 : decode cX5_comes 6 = .ok (.iconst 1, 1) := by decide +kernel
theorem dX5_comes_7 : decode cX5_comes 7 = .ok (.istore_n 3, 1) := by decide +kernel
theorem dX5_comes_8 : decode cX5_comes 8 = .ok (.iload_n 3, 1) := by decide +kernel
theorem dX5_comes_9 : decode cX5_comes 9 = .ok (.bipush 15, 2) := by decide +kernel
theorem dX5_comes_11 : decode cX5_comes 11 = .ok (.if_icmp .ge 102, 3) := by decide +kernel
theorem dX5_comes_14 : decode cX5_comes 14 = .ok (.aload_n 0, 1) := by decide +kernel
theorem dX5_comes_15 : decode cX5_comes 15 = .ok (.iconst 1, 1) := by decide +kernel
theorem dX5_comes_16 : decode cX5_comes 16 = .ok (.invokevirtual 197, 3) := by decide +kernel
theorem dX5_comes_19 : decode cX5_comes 19 = .ok (.iconst 0, 1) := by decide +kernel
theorem dX5_comes_20 : decode cX5_comes 20 = .ok (.istore 4, 2) := by decide +kernel
theorem dX5_comes_22 : decode cX5_comes 22 = .ok (.iload 4, 2) := by decide +kernel
theorem dX5_comes_24 : decode cX5_comes 24 = .ok (.aload_n 0, 1) := by decide +kernel
theorem dX5_comes_25 : decode cX5_comes 25 = .ok (.getfield 58, 3) := by decide +kernel
theorem dX5_comes_28 : decode cX5_comes 28 = .ok (.if_icmp .ge 79, 3) := by decide +kernel
theorem dX5_comes_31 : decode cX5_comes 31 = .ok (.aload_n 0, 1) := by decide +kernel
theorem dX5_comes_32 : decode cX5_comes 32 = .ok (.getfield 32, 3) := by decide +kernel
theorem dX5_comes_35 : decode cX5_comes 35 = .ok (.iconst 3, 1) := by decide +kernel
theorem dX5_comes_36 : decode cX5_comes 36 = .ok (.iload 4, 2) := by decide +kernel
theorem dX5_comes_38 : decode cX5_comes 38 = .ok (.imul, 1) := by decide +kernel
theorem dX5_comes_39 : decode cX5_comes 39 = .ok (.iaload, 1) := by decide +kernel
theorem dX5_comes_40 : decode cX5_comes 40 = .ok (.iload_n 1, 1) := by decide +kernel
theorem dX5_comes_41 : decode cX5_comes 41 = .ok (.if_icmp .ne 22, 3) := by decide +kernel
theorem dX5_comes_44 : decode cX5_comes 44 = .ok (.aload_n 0, 1) := by decide +kernel
theorem dX5_comes_45 : decode cX5_comes 45 = .ok (.getfield 32, 3) := by decide +kernel
theorem dX5_comes_48 : decode cX5_comes 48 = .ok (.iconst 3, 1) := by decide +kernel
theorem dX5_comes_49 : decode cX5_comes 49 = .ok (.iload 4, 2) := by decide +kernel
theorem dX5_comes_51 : decode cX5_comes 51 = .ok (.imul, 1) := by decide +kernel
theorem dX5_comes_52 : decode cX5_comes 52 = .ok (.iconst 1, 1) := by decide +kernel
theorem dX5_comes_53 : decode cX5_comes 53 = .ok (.iadd, 1) := by decide +kernel
theorem dX5_comes_54 : decode cX5_comes 54 = .ok (.iaload, 1) := by decide +kernel
theorem dX5_comes_55 : decode cX5_comes 55 = .ok (.iload_n 3, 1) := by decide +kernel
theorem dX5_comes_56 : decode cX5_comes 56 = .ok (.if_icmp .ne 7, 3) := by decide +kernel
theorem dX5_comes_59 : decode cX5_comes 59 = .ok (.iconst 1, 1) := by decide +kernel
theorem dX5_comes_60 : decode cX5_comes 60 = .ok (.goto 4, 3) := by decide +kernel
theorem dX5_comes_63 : decode cX5_comes 63 = .ok (.iconst 0, 1) := by decide +kernel
theorem dX5_comes_64 : decode cX5_comes 64 = .ok (.istore 5, 2) := by decide +kernel
theorem dX5_comes_66 : decode cX5_comes 66 = .ok (.iload_n 2, 1) := by decide +kernel
theorem dX5_comes_67 : decode cX5_comes 67 = .ok (.ifCond .eq 32, 3) := by decide +kernel
theorem dX5_comes_70 : decode cX5_comes 70 = .ok (.iload 5, 2) := by decide +kernel
theorem dX5_comes_72 : decode cX5_comes 72 = .ok (.ifCond .eq 23, 3) := by decide +kernel
theorem dX5_comes_75 : decode cX5_comes 75 = .ok (.aload_n 0, 1) := by decide +kernel
theorem dX5_comes_76 : decode cX5_comes 76 = .ok (.getfield 41, 3) := by decide +kernel
theorem dX5_comes_79 : decode cX5_comes 79 = .ok (.iload_n 1, 1) := by decide +kernel
theorem dX5_comes_80 : decode cX5_comes 80 = .ok (.iaload, 1) := by decide +kernel
theorem dX5_comes_81 : decode cX5_comes 81 = .ok (.aload_n 0, 1) := by decide +kernel
theorem dX5_comes_82 : decode cX5_comes 82 = .ok (.getfield 32, 3) := by decide +kernel
theorem dX5_comes_85 : decode cX5_comes 85 = .ok (.iconst 3, 1) := by decide +kernel
theorem dX5_comes_86 : decode cX5_comes 86 = .ok (.iload 4, 2) := by decide +kernel
theorem dX5_comes_88 : decode cX5_comes 88 = .ok (.imul, 1) := by decide +kernel
theorem dX5_comes_89 : decode cX5_comes 89 = .ok (.iconst 2, 1) := by decide +kernel
theorem dX5_comes_90 : decode cX5_comes 90 = .ok (.iadd, 1) := by decide +kernel
theorem dX5_comes_91 : decode cX5_comes 91 = .ok (.iaload, 1) := by decide +kernel
theorem dX5_comes_92 : decode cX5_comes 92 = .ok (.if_icmp .ne 7, 3) := by decide +kernel
theorem dX5_comes_95 : decode cX5_comes 95 = .ok (.iconst 1, 1) := by decide +kernel
theorem dX5_comes_96 : decode cX5_comes 96 = .ok (.goto 4, 3) := by decide +kernel
theorem dX5_comes_99 : decode cX5_comes 99 = .ok (.iconst 0, 1) := by decide +kernel
theorem dX5_comes_100 : decode cX5_comes 100 = .ok (.istore_n 2, 1) := by decide +kernel
theorem dX5_comes_101 : decode cX5_comes 101 = .ok (.iinc 4 1, 3) := by decide +kernel
theorem dX5_comes_104 : decode cX5_comes 104 = .ok (.goto (-82), 3) := by decide +kernel
theorem dX5_comes_107 : decode cX5_comes 107 = .ok (.iinc 3 1, 3) := by decide +kernel
theorem dX5_comes_110 : decode cX5_comes 110 = .ok (.goto (-102), 3) := by decide +kernel
theorem dX5_comes_113 : decode cX5_comes 113 = .ok (.iload_n 2, 1) := by decide +kernel
theorem dX5_comes_114 : decode cX5_comes 114 = .ok (.ireturn, 1) := by decide +kernel
theorem dX5_kinds_0 : decode cX5_kinds 0 = .ok (.aload_n 0, 1) := by decide +kernel
theorem dX5_kinds_1 : decode cX5_kinds 1 = .ok (.iload_n 1, 1) := by decide +kernel
theorem dX5_kinds_2 : decode cX5_kinds 2 = .ok (.invokevirtual 166, 3) := by decide +kernel
theorem dX5_kinds_5 : decode cX5_kinds 5 = .ok (.ifCond .ne 6, 3) := by decide +kernel
theorem dX5_kinds_8 : decode cX5_kinds 8 = .ok (.bipush (-2), 2) := by decide +kernel
theorem dX5_kinds_10 : decode cX5_kinds 10 = .ok (.ireturn, 1) := by decide +kernel
theorem dX5_kinds_11 : decode cX5_kinds 11 = .ok (.aload_n 0, 1) := by decide +kernel
theorem dX5_kinds_12 : decode cX5_kinds 12 = .ok (.invokevirtual 173, 3) := by decide +kernel
theorem dX5_kinds_15 : decode cX5_kinds 15 = .ok (.iconst 0, 1) := by decide +kernel
theorem dX5_kinds_16 : decode cX5_kinds 16 = .ok (.istore_n 2, 1) := by decide +kernel
theorem dX5_kinds_17 : decode cX5_kinds 17 = .ok (.iconst 0, 1) := by decide +kernel
theorem dX5_kinds_18 : decode cX5_kinds 18 = .ok (.istore_n 3, 1) := by decide +kernel
theorem dX5_kinds_19 : decode cX5_kinds 19 = .ok (.iload_n 3, 1) := by decide +kernel
theorem dX5_kinds_20 : decode cX5_kinds 20 = .ok (.iconst 4, 1) := by decide +kernel
theorem dX5_kinds_21 : decode cX5_kinds 21 = .ok (.if_icmp .ge 34, 3) := by decide +kernel
theorem dX5_kinds_24 : decode cX5_kinds 24 = .ok (.aload_n 0, 1) := by decide +kernel
theorem dX5_kinds_25 : decode cX5_kinds 25 = .ok (.getfield 35, 3) := by decide +kernel
theorem dX5_kinds_28 : decode cX5_kinds 28 = .ok (.iload_n 1, 1) := by decide +kernel
theorem dX5_kinds_29 : decode cX5_kinds 29 = .ok (.iload_n 3, 1) := by decide +kernel
theorem dX5_kinds_30 : decode cX5_kinds 30 = .ok (.iastore, 1) := by decide +kernel
theorem dX5_kinds_31 : decode cX5_kinds 31 = .ok (.iload_n 2, 1) := by decide +kernel
theorem dX5_kinds_32 : decode cX5_kinds 32 = .ok (.aload_n 0, 1) := by decide +kernel
theorem dX5_kinds_33 : decode cX5_kinds 33 = .ok (.iload_n 1, 1) := by decide +kernel
theorem dX5_kinds_34 : decode cX5_kinds 34 = .ok (.invokevirtual 208, 3) := by decide +kernel
theorem dX5_kinds_37 : decode cX5_kinds 37 = .ok (.ifCond .eq 9, 3) := by decide +kernel
theorem dX5_kinds_40 : decode cX5_kinds 40 = .ok (.iconst 1, 1) := by decide +kernel
theorem dX5_kinds_41 : decode cX5_kinds 41 = .ok (.iload_n 3, 1) := by decide +kernel
theorem dX5_kinds_42 : decode cX5_kinds 42 = .ok (.ishl, 1) := by decide +kernel
theorem dX5_kinds_43 : decode cX5_kinds 43 = .ok (.goto 4, 3) := by decide +kernel
theorem dX5_kinds_46 : decode cX5_kinds 46 = .ok (.iconst 0, 1) := by decide +kernel
theorem dX5_kinds_47 : decode cX5_kinds 47 = .ok (.ior, 1) := by decide +kernel
theorem dX5_kinds_48 : decode cX5_kinds 48 = .ok (.istore_n 2, 1) := by decide +kernel
theorem dX5_kinds_49 : decode cX5_kinds 49 = .ok (.iinc 3 1, 3) := by decide +kernel
theorem dX5_kinds_52 : decode cX5_kinds 52 = .ok (.goto (-33), 3) := by decide +kernel
theorem dX5_kinds_55 : decode cX5_kinds 55 = .ok (.iload_n 2, 1) := by decide +kernel
theorem dX5_kinds_56 : decode cX5_kinds 56 = .ok (.ireturn, 1) := by decide +kernel
theorem dX5_habits_0 : decode cX5_habits 0 = .ok (.aload_n 0, 1) := by decide +kernel
theorem dX5_habits_1 : decode cX5_habits 1 = .ok (.iload_n 1, 1) := by decide +kernel
theorem dX5_habits_2 : decode cX5_habits 2 = .ok (.invokevirtual 166, 3) := by decide +kernel
theorem dX5_habits_5 : decode cX5_habits 5 = .ok (.ifCond .ne 6, 3) := by decide +kernel
theorem dX5_habits_8 : decode cX5_habits 8 = .ok (.bipush (-2), 2) := by decide +kernel
theorem dX5_habits_10 : decode cX5_habits 10 = .ok (.ireturn, 1) := by decide +kernel
theorem dX5_habits_11 : decode cX5_habits 11 = .ok (.aload_n 0, 1) := by decide +kernel
theorem dX5_habits_12 : decode cX5_habits 12 = .ok (.invokevirtual 173, 3) := by decide +kernel
theorem dX5_habits_15 : decode cX5_habits 15 = .ok (.iconst 0, 1) := by decide +kernel
theorem dX5_habits_16 : decode cX5_habits 16 = .ok (.istore_n 2, 1) := by decide +kernel
theorem dX5_habits_17 : decode cX5_habits 17 = .ok (.iconst 0, 1) := by decide +kernel
theorem dX5_habits_18 : decode cX5_habits 18 = .ok (.istore_n 3, 1) := by decide +kernel
theorem dX5_habits_19 : decode cX5_habits 19 = .ok (.iload_n 3, 1) := by decide +kernel
theorem dX5_habits_20 : decode cX5_habits 20 = .ok (.bipush 10, 2) := by decide +kernel
theorem dX5_habits_22 : decode cX5_habits 22 = .ok (.if_icmp .ge 34, 3) := by decide +kernel
theorem dX5_habits_25 : decode cX5_habits 25 = .ok (.aload_n 0, 1) := by decide +kernel
theorem dX5_habits_26 : decode cX5_habits 26 = .ok (.getfield 38, 3) := by decide +kernel
theorem dX5_habits_29 : decode cX5_habits 29 = .ok (.iload_n 1, 1) := by decide +kernel
theorem dX5_habits_30 : decode cX5_habits 30 = .ok (.iload_n 3, 1) := by decide +kernel
theorem dX5_habits_31 : decode cX5_habits 31 = .ok (.iastore, 1) := by decide +kernel
theorem dX5_habits_32 : decode cX5_habits 32 = .ok (.iload_n 2, 1) := by decide +kernel
theorem dX5_habits_33 : decode cX5_habits 33 = .ok (.aload_n 0, 1) := by decide +kernel
theorem dX5_habits_34 : decode cX5_habits 34 = .ok (.iload_n 1, 1) := by decide +kernel
theorem dX5_habits_35 : decode cX5_habits 35 = .ok (.invokevirtual 208, 3) := by decide +kernel
theorem dX5_habits_38 : decode cX5_habits 38 = .ok (.ifCond .eq 9, 3) := by decide +kernel
theorem dX5_habits_41 : decode cX5_habits 41 = .ok (.iconst 1, 1) := by decide +kernel
theorem dX5_habits_42 : decode cX5_habits 42 = .ok (.iload_n 3, 1) := by decide +kernel
theorem dX5_habits_43 : decode cX5_habits 43 = .ok (.ishl, 1) := by decide +kernel
theorem dX5_habits_44 : decode cX5_habits 44 = .ok (.goto 4, 3) := by decide +kernel
theorem dX5_habits_47 : decode cX5_habits 47 = .ok (.iconst 0, 1) := by decide +kernel
theorem dX5_habits_48 : decode cX5_habits 48 = .ok (.ior, 1) := by decide +kernel
theorem dX5_habits_49 : decode cX5_habits 49 = .ok (.istore_n 2, 1) := by decide +kernel
theorem dX5_habits_50 : decode cX5_habits 50 = .ok (.iinc 3 1, 3) := by decide +kernel
theorem dX5_habits_53 : decode cX5_habits 53 = .ok (.goto (-34), 3) := by decide +kernel
theorem dX5_habits_56 : decode cX5_habits 56 = .ok (.iload_n 2, 1) := by decide +kernel
theorem dX5_habits_57 : decode cX5_habits 57 = .ok (.ireturn, 1) := by decide +kernel
theorem dX5_foxes_0 : decode cX5_foxes 0 = .ok (.aload_n 0, 1) := by decide +kernel
theorem dX5_foxes_1 : decode cX5_foxes 1 = .ok (.iload_n 1, 1) := by decide +kernel
theorem dX5_foxes_2 : decode cX5_foxes 2 = .ok (.invokevirtual 166, 3) := by decide +kernel
theorem dX5_foxes_5 : decode cX5_foxes 5 = .ok (.ifCond .ne 6, 3) := by decide +kernel
theorem dX5_foxes_8 : decode cX5_foxes 8 = .ok (.bipush (-2), 2) := by decide +kernel
theorem dX5_foxes_10 : decode cX5_foxes 10 = .ok (.ireturn, 1) := by decide +kernel
theorem dX5_foxes_11 : decode cX5_foxes 11 = .ok (.iload_n 2, 1) := by decide +kernel
theorem dX5_foxes_12 : decode cX5_foxes 12 = .ok (.i2l, 1) := by decide +kernel
theorem dX5_foxes_13 : decode cX5_foxes 13 = .ok (.lconst 0, 1) := by decide +kernel
theorem dX5_foxes_14 : decode cX5_foxes 14 = .ok (.ldc2_w 211, 3) := by decide +kernel
theorem dX5_foxes_17 : decode cX5_foxes 17 = .ok (.invokestatic 63, 3) := by decide +kernel
theorem dX5_foxes_20 : decode cX5_foxes 20 = .ok (.ifCond .eq 23, 3) := by decide +kernel
theorem dX5_foxes_23 : decode cX5_foxes 23 = .ok (.iload_n 3, 1) := by decide +kernel
theorem dX5_foxes_24 : decode cX5_foxes 24 = .ok (.i2l, 1) := by decide +kernel
theorem dX5_foxes_25 : decode cX5_foxes 25 = .ok (.lconst 0, 1) := by decide +kernel
theorem dX5_foxes_26 : decode cX5_foxes 26 = .ok (.ldc2_w 213, 3) := by decide +kernel
theorem dX5_foxes_29 : decode cX5_foxes 29 = .ok (.invokestatic 63, 3) := by decide +kernel
theorem dX5_foxes_32 : decode cX5_foxes 32 = .ok (.ifCond .eq 11, 3) := by decide +kernel
theorem dX5_foxes_35 : decode cX5_foxes 35 = .ok (.iload 4, 2) := by decide +kernel
theorem dX5_foxes_37 : decode cX5_foxes 37 = .ok (.invokestatic 189, 3) := by decide +kernel
theorem dX5_foxes_40 : decode cX5_foxes 40 = .ok (.ifCond .ne 6, 3) := by decide +kernel
theorem dX5_foxes_43 : decode cX5_foxes 43 = .ok (.bipush (-3), 2) := by decide +kernel
theorem dX5_foxes_45 : decode cX5_foxes 45 = .ok (.ireturn, 1) := by decide +kernel
theorem dX5_foxes_46 : decode cX5_foxes 46 = .ok (.aload_n 0, 1) := by decide +kernel
theorem dX5_foxes_47 : decode cX5_foxes 47 = .ok (.invokevirtual 173, 3) := by decide +kernel
theorem dX5_foxes_50 : decode cX5_foxes 50 = .ok (.aload_n 0, 1) := by decide +kernel
theorem dX5_foxes_51 : decode cX5_foxes 51 = .ok (.invokevirtual 194, 3) := by decide +kernel
theorem dX5_foxes_54 : decode cX5_foxes 54 = .ok (.lconst 1, 1) := by decide +kernel
theorem dX5_foxes_55 : decode cX5_foxes 55 = .ok (.lstore 5, 2) := by decide +kernel
theorem dX5_foxes_57 : decode cX5_foxes 57 = .ok (.lconst 1, 1) := by decide +kernel
theorem dX5_foxes_58 : decode cX5_foxes 58 = .ok (.lstore 7, 2) := by decide +kernel
theorem dX5_foxes_60 : decode cX5_foxes 60 = .ok (.iconst 0, 1) := by decide +kernel
theorem dX5_foxes_61 : decode cX5_foxes 61 = .ok (.istore 9, 2) := by decide +kernel
theorem dX5_foxes_63 : decode cX5_foxes 63 = .ok (.iconst 0, 1) := by decide +kernel
theorem dX5_foxes_64 : decode cX5_foxes 64 = .ok (.istore 10, 2) := by decide +kernel
theorem dX5_foxes_66 : decode cX5_foxes 66 = .ok (.iload 10, 2) := by decide +kernel
theorem dX5_foxes_68 : decode cX5_foxes 68 = .ok (.iload_n 2, 1) := by decide +kernel
theorem dX5_foxes_69 : decode cX5_foxes 69 = .ok (.if_icmp .ge 65, 3) := by decide +kernel
theorem dX5_foxes_72 : decode cX5_foxes 72 = .ok (.iload 9, 2) := by decide +kernel
theorem dX5_foxes_74 : decode cX5_foxes 74 = .ok (.ifCond .ne 60, 3) := by decide +kernel
theorem dX5_foxes_77 : decode cX5_foxes 77 = .ok (.aload_n 0, 1) := by decide +kernel
theorem dX5_foxes_78 : decode cX5_foxes 78 = .ok (.iconst 1, 1) := by decide +kernel
theorem dX5_foxes_79 : decode cX5_foxes 79 = .ok (.invokevirtual 197, 3) := by decide +kernel
theorem dX5_foxes_82 : decode cX5_foxes 82 = .ok (.lload 5, 2) := by decide +kernel
theorem dX5_foxes_84 : decode cX5_foxes 84 = .ok (.bipush 10, 2) := by decide +kernel
theorem dX5_foxes_86 : decode cX5_foxes 86 = .ok (.iload_n 3, 1) := by decide +kernel
theorem dX5_foxes_87 : decode cX5_foxes 87 = .ok (.isub, 1) := by decide +kernel
theorem dX5_foxes_88 : decode cX5_foxes 88 = .ok (.i2l, 1) := by decide +kernel
theorem dX5_foxes_89 : decode cX5_foxes 89 = .ok (.lmul, 1) := by decide +kernel
theorem dX5_foxes_90 : decode cX5_foxes 90 = .ok (.lstore 5, 2) := by decide +kernel
theorem dX5_foxes_92 : decode cX5_foxes 92 = .ok (.lload 7, 2) := by decide +kernel
theorem dX5_foxes_94 : decode cX5_foxes 94 = .ok (.ldc2_w 213, 3) := by decide +kernel
theorem dX5_foxes_97 : decode cX5_foxes 97 = .ok (.lmul, 1) := by decide +kernel
theorem dX5_foxes_98 : decode cX5_foxes 98 = .ok (.lstore 7, 2) := by decide +kernel
theorem dX5_foxes_100 : decode cX5_foxes 100 = .ok (.aload_n 0, 1) := by decide +kernel
theorem dX5_foxes_101 : decode cX5_foxes 101 = .ok (.getfield 44, 3) := by decide +kernel
theorem dX5_foxes_104 : decode cX5_foxes 104 = .ok (.bipush 39, 2) := by decide +kernel
theorem dX5_foxes_106 : decode cX5_foxes 106 = .ok (.iload_n 1, 1) := by decide +kernel
theorem dX5_foxes_107 : decode cX5_foxes 107 = .ok (.iadd, 1) := by decide +kernel
theorem dX5_foxes_108 : decode cX5_foxes 108 = .ok (.iaload, 1) := by decide +kernel
theorem dX5_foxes_109 : decode cX5_foxes 109 = .ok (.aload_n 0, 1) := by decide +kernel
theorem dX5_foxes_110 : decode cX5_foxes 110 = .ok (.getfield 16, 3) := by decide +kernel
theorem dX5_foxes_113 : decode cX5_foxes 113 = .ok (.bipush 39, 2) := by decide +kernel
theorem dX5_foxes_115 : decode cX5_foxes 115 = .ok (.iload_n 1, 1) := by decide +kernel
theorem dX5_foxes_116 : decode cX5_foxes 116 = .ok (.iadd, 1) := by decide +kernel
theorem dX5_foxes_117 : decode cX5_foxes 117 = .ok (.iaload, 1) := by decide +kernel
theorem dX5_foxes_118 : decode cX5_foxes 118 = .ok (.if_icmp .le 7, 3) := by decide +kernel
theorem dX5_foxes_121 : decode cX5_foxes 121 = .ok (.iconst 1, 1) := by decide +kernel
theorem dX5_foxes_122 : decode cX5_foxes 122 = .ok (.goto 4, 3) := by decide +kernel
theorem dX5_foxes_125 : decode cX5_foxes 125 = .ok (.iconst 0, 1) := by decide +kernel
theorem dX5_foxes_126 : decode cX5_foxes 126 = .ok (.istore 9, 2) := by decide +kernel
theorem dX5_foxes_128 : decode cX5_foxes 128 = .ok (.iinc 10 1, 3) := by decide +kernel
theorem dX5_foxes_131 : decode cX5_foxes 131 = .ok (.goto (-65), 3) := by decide +kernel
theorem dX5_foxes_134 : decode cX5_foxes 134 = .ok (.iload 9, 2) := by decide +kernel
theorem dX5_foxes_136 : decode cX5_foxes 136 = .ok (.ifCond .eq 8, 3) := by decide +kernel
theorem dX5_foxes_139 : decode cX5_foxes 139 = .ok (.lload 5, 2) := by decide +kernel
theorem dX5_foxes_141 : decode cX5_foxes 141 = .ok (.goto 4, 3) := by decide +kernel
theorem dX5_foxes_144 : decode cX5_foxes 144 = .ok (.lconst 0, 1) := by decide +kernel
theorem dX5_foxes_145 : decode cX5_foxes 145 = .ok (.lstore 5, 2) := by decide +kernel
theorem dX5_foxes_147 : decode cX5_foxes 147 = .ok (.lload 5, 2) := by decide +kernel
theorem dX5_foxes_149 : decode cX5_foxes 149 = .ok (.lstore 10, 2) := by decide +kernel
theorem dX5_foxes_151 : decode cX5_foxes 151 = .ok (.lload 7, 2) := by decide +kernel
theorem dX5_foxes_153 : decode cX5_foxes 153 = .ok (.lstore 12, 2) := by decide +kernel
theorem dX5_foxes_155 : decode cX5_foxes 155 = .ok (.lload 12, 2) := by decide +kernel
theorem dX5_foxes_157 : decode cX5_foxes 157 = .ok (.lconst 0, 1) := by decide +kernel
theorem dX5_foxes_158 : decode cX5_foxes 158 = .ok (.lcmp, 1) := by decide +kernel
theorem dX5_foxes_159 : decode cX5_foxes 159 = .ok (.ifCond .eq 21, 3) := by decide +kernel
theorem dX5_foxes_162 : decode cX5_foxes 162 = .ok (.lload 10, 2) := by decide +kernel
theorem dX5_foxes_164 : decode cX5_foxes 164 = .ok (.lload 12, 2) := by decide +kernel
theorem dX5_foxes_166 : decode cX5_foxes 166 = .ok (.lrem, 1) := by decide +kernel
theorem dX5_foxes_167 : decode cX5_foxes 167 = .ok (.lstore 14, 2) := by decide +kernel
theorem dX5_foxes_169 : decode cX5_foxes 169 = .ok (.lload 12, 2) := by decide +kernel
theorem dX5_foxes_171 : decode cX5_foxes 171 = .ok (.lstore 10, 2) := by decide +kernel
theorem dX5_foxes_173 : decode cX5_foxes 173 = .ok (.lload 14, 2) := by decide +kernel
theorem dX5_foxes_175 : decode cX5_foxes 175 = .ok (.lstore 12, 2) := by decide +kernel
theorem dX5_foxes_177 : decode cX5_foxes 177 = .ok (.goto (-22), 3) := by decide +kernel
theorem dX5_foxes_180 : decode cX5_foxes 180 = .ok (.iload 4, 2) := by decide +kernel
theorem dX5_foxes_182 : decode cX5_foxes 182 = .ok (.ifCond .ne 11, 3) := by decide +kernel
theorem dX5_foxes_185 : decode cX5_foxes 185 = .ok (.lload 5, 2) := by decide +kernel
theorem dX5_foxes_187 : decode cX5_foxes 187 = .ok (.lload 10, 2) := by decide +kernel
theorem dX5_foxes_189 : decode cX5_foxes 189 = .ok (.ldiv, 1) := by decide +kernel
theorem dX5_foxes_190 : decode cX5_foxes 190 = .ok (.goto 8, 3) := by decide +kernel
theorem dX5_foxes_193 : decode cX5_foxes 193 = .ok (.lload 7, 2) := by decide +kernel
theorem dX5_foxes_195 : decode cX5_foxes 195 = .ok (.lload 10, 2) := by decide +kernel
theorem dX5_foxes_197 : decode cX5_foxes 197 = .ok (.ldiv, 1) := by decide +kernel
theorem dX5_foxes_198 : decode cX5_foxes 198 = .ok (.l2i, 1) := by decide +kernel
theorem dX5_foxes_199 : decode cX5_foxes 199 = .ok (.ireturn, 1) := by decide +kernel
theorem dX5_count_0 : decode cX5_count 0 = .ok (.iconst 0, 1) := by decide +kernel
theorem dX5_count_1 : decode cX5_count 1 = .ok (.istore_n 2, 1) := by decide +kernel
theorem dX5_count_2 : decode cX5_count 2 = .ok (.iconst 0, 1) := by decide +kernel
theorem dX5_count_3 : decode cX5_count 3 = .ok (.istore_n 3, 1) := by decide +kernel
theorem dX5_count_4 : decode cX5_count 4 = .ok (.iconst 0, 1) := by decide +kernel
theorem dX5_count_5 : decode cX5_count 5 = .ok (.istore 4, 2) := by decide +kernel
theorem dX5_count_7 : decode cX5_count 7 = .ok (.iconst 0, 1) := by decide +kernel
theorem dX5_count_8 : decode cX5_count 8 = .ok (.istore 5, 2) := by decide +kernel
theorem dX5_count_10 : decode cX5_count 10 = .ok (.iload 5, 2) := by decide +kernel
theorem dX5_count_12 : decode cX5_count 12 = .ok (.bipush 8, 2) := by decide +kernel
theorem dX5_count_14 : decode cX5_count 14 = .ok (.if_icmp .ge 34, 3) := by decide +kernel
theorem dX5_count_17 : decode cX5_count 17 = .ok (.iload_n 2, 1) := by decide +kernel
theorem dX5_count_18 : decode cX5_count 18 = .ok (.aload_n 0, 1) := by decide +kernel
theorem dX5_count_19 : decode cX5_count 19 = .ok (.getfield 16, 3) := by decide +kernel
theorem dX5_count_22 : decode cX5_count 22 = .ok (.bipush 18, 2) := by decide +kernel
theorem dX5_count_24 : decode cX5_count 24 = .ok (.iload 5, 2) := by decide +kernel
theorem dX5_count_26 : decode cX5_count 26 = .ok (.iadd, 1) := by decide +kernel
theorem dX5_count_27 : decode cX5_count 27 = .ok (.iaload, 1) := by decide +kernel
theorem dX5_count_28 : decode cX5_count 28 = .ok (.iconst (-1), 1) := by decide +kernel
theorem dX5_count_29 : decode cX5_count 29 = .ok (.if_icmp .ne 7, 3) := by decide +kernel
theorem dX5_count_32 : decode cX5_count 32 = .ok (.iconst 0, 1) := by decide +kernel
theorem dX5_count_33 : decode cX5_count 33 = .ok (.goto 7, 3) := by decide +kernel
theorem dX5_count_36 : decode cX5_count 36 = .ok (.iconst 1, 1) := by decide +kernel
theorem dX5_count_37 : decode cX5_count 37 = .ok (.iload 5, 2) := by decide +kernel
theorem dX5_count_39 : decode cX5_count 39 = .ok (.ishl, 1) := by decide +kernel
theorem dX5_count_40 : decode cX5_count 40 = .ok (.ior, 1) := by decide +kernel
theorem dX5_count_41 : decode cX5_count 41 = .ok (.istore_n 2, 1) := by decide +kernel
theorem dX5_count_42 : decode cX5_count 42 = .ok (.iinc 5 1, 3) := by decide +kernel
theorem dX5_count_45 : decode cX5_count 45 = .ok (.goto (-35), 3) := by decide +kernel
theorem dX5_count_48 : decode cX5_count 48 = .ok (.iconst 0, 1) := by decide +kernel
theorem dX5_count_49 : decode cX5_count 49 = .ok (.istore 5, 2) := by decide +kernel
theorem dX5_count_51 : decode cX5_count 51 = .ok (.iload 5, 2) := by decide +kernel
theorem dX5_count_53 : decode cX5_count 53 = .ok (.iconst 5, 1) := by decide +kernel
theorem dX5_count_54 : decode cX5_count 54 = .ok (.if_icmp .ge 37, 3) := by decide +kernel
theorem dX5_count_57 : decode cX5_count 57 = .ok (.iload_n 3, 1) := by decide +kernel
theorem dX5_count_58 : decode cX5_count 58 = .ok (.aload_n 0, 1) := by decide +kernel
theorem dX5_count_59 : decode cX5_count 59 = .ok (.getfield 16, 3) := by decide +kernel
theorem dX5_count_62 : decode cX5_count 62 = .ok (.bipush 39, 2) := by decide +kernel
theorem dX5_count_64 : decode cX5_count 64 = .ok (.iload 5, 2) := by decide +kernel
theorem dX5_count_66 : decode cX5_count 66 = .ok (.iadd, 1) := by decide +kernel
theorem dX5_count_67 : decode cX5_count 67 = .ok (.iaload, 1) := by decide +kernel
theorem dX5_count_68 : decode cX5_count 68 = .ok (.iadd, 1) := by decide +kernel
theorem dX5_count_69 : decode cX5_count 69 = .ok (.istore_n 3, 1) := by decide +kernel
theorem dX5_count_70 : decode cX5_count 70 = .ok (.iload 4, 2) := by decide +kernel
theorem dX5_count_72 : decode cX5_count 72 = .ok (.aload_n 0, 1) := by decide +kernel
theorem dX5_count_73 : decode cX5_count 73 = .ok (.getfield 16, 3) := by decide +kernel
theorem dX5_count_76 : decode cX5_count 76 = .ok (.bipush 44, 2) := by decide +kernel
theorem dX5_count_78 : decode cX5_count 78 = .ok (.iload 5, 2) := by decide +kernel
theorem dX5_count_80 : decode cX5_count 80 = .ok (.iadd, 1) := by decide +kernel
theorem dX5_count_81 : decode cX5_count 81 = .ok (.iaload, 1) := by decide +kernel
theorem dX5_count_82 : decode cX5_count 82 = .ok (.iadd, 1) := by decide +kernel
theorem dX5_count_83 : decode cX5_count 83 = .ok (.istore 4, 2) := by decide +kernel
theorem dX5_count_85 : decode cX5_count 85 = .ok (.iinc 5 1, 3) := by decide +kernel
theorem dX5_count_88 : decode cX5_count 88 = .ok (.goto (-37), 3) := by decide +kernel
theorem dX5_count_91 : decode cX5_count 91 = .ok (.iload_n 1, 1) := by decide +kernel
theorem dX5_count_92 : decode cX5_count 92 = .ok (.tableswitch 143 0 12 #[68, 75, 83, 90, 92, 92, 104, 116, 118, 121, 128, 133, 138], 68) := by decide +kernel
theorem dX5_count_160 : decode cX5_count 160 = .ok (.aload_n 0, 1) := by decide +kernel
theorem dX5_count_161 : decode cX5_count 161 = .ok (.getfield 7, 3) := by decide +kernel
theorem dX5_count_164 : decode cX5_count 164 = .ok (.iconst 0, 1) := by decide +kernel
theorem dX5_count_165 : decode cX5_count 165 = .ok (.iaload, 1) := by decide +kernel
theorem dX5_count_166 : decode cX5_count 166 = .ok (.ireturn, 1) := by decide +kernel
theorem dX5_count_167 : decode cX5_count 167 = .ok (.aload_n 0, 1) := by decide +kernel
theorem dX5_count_168 : decode cX5_count 168 = .ok (.getfield 7, 3) := by decide +kernel
theorem dX5_count_171 : decode cX5_count 171 = .ok (.bipush 25, 2) := by decide +kernel
theorem dX5_count_173 : decode cX5_count 173 = .ok (.iaload, 1) := by decide +kernel
theorem dX5_count_174 : decode cX5_count 174 = .ok (.ireturn, 1) := by decide +kernel
theorem dX5_count_175 : decode cX5_count 175 = .ok (.aload_n 0, 1) := by decide +kernel
theorem dX5_count_176 : decode cX5_count 176 = .ok (.getfield 16, 3) := by decide +kernel
theorem dX5_count_179 : decode cX5_count 179 = .ok (.iconst 0, 1) := by decide +kernel
theorem dX5_count_180 : decode cX5_count 180 = .ok (.iaload, 1) := by decide +kernel
theorem dX5_count_181 : decode cX5_count 181 = .ok (.ireturn, 1) := by decide +kernel
theorem dX5_count_182 : decode cX5_count 182 = .ok (.iload_n 2, 1) := by decide +kernel
theorem dX5_count_183 : decode cX5_count 183 = .ok (.ireturn, 1) := by decide +kernel
theorem dX5_count_184 : decode cX5_count 184 = .ok (.aload_n 0, 1) := by decide +kernel
theorem dX5_count_185 : decode cX5_count 185 = .ok (.getfield 16, 3) := by decide +kernel
theorem dX5_count_188 : decode cX5_count 188 = .ok (.bipush 49, 2) := by decide +kernel
theorem dX5_count_190 : decode cX5_count 190 = .ok (.iload_n 1, 1) := by decide +kernel
theorem dX5_count_191 : decode cX5_count 191 = .ok (.iadd, 1) := by decide +kernel
theorem dX5_count_192 : decode cX5_count 192 = .ok (.iconst 4, 1) := by decide +kernel
theorem dX5_count_193 : decode cX5_count 193 = .ok (.isub, 1) := by decide +kernel
theorem dX5_count_194 : decode cX5_count 194 = .ok (.iaload, 1) := by decide +kernel
theorem dX5_count_195 : decode cX5_count 195 = .ok (.ireturn, 1) := by decide +kernel
theorem dX5_count_196 : decode cX5_count 196 = .ok (.aload_n 0, 1) := by decide +kernel
theorem dX5_count_197 : decode cX5_count 197 = .ok (.getfield 16, 3) := by decide +kernel
theorem dX5_count_200 : decode cX5_count 200 = .ok (.bipush 51, 2) := by decide +kernel
theorem dX5_count_202 : decode cX5_count 202 = .ok (.iaload, 1) := by decide +kernel
theorem dX5_count_203 : decode cX5_count 203 = .ok (.sipush 9999, 3) := by decide +kernel
theorem dX5_count_206 : decode cX5_count 206 = .ok (.iadd, 1) := by decide +kernel
theorem dX5_count_207 : decode cX5_count 207 = .ok (.ireturn, 1) := by decide +kernel
theorem dX5_count_208 : decode cX5_count 208 = .ok (.iload_n 3, 1) := by decide +kernel
theorem dX5_count_209 : decode cX5_count 209 = .ok (.ireturn, 1) := by decide +kernel
theorem dX5_count_210 : decode cX5_count 210 = .ok (.iload 4, 2) := by decide +kernel
theorem dX5_count_212 : decode cX5_count 212 = .ok (.ireturn, 1) := by decide +kernel
theorem dX5_count_213 : decode cX5_count 213 = .ok (.aload_n 0, 1) := by decide +kernel
theorem dX5_count_214 : decode cX5_count 214 = .ok (.getfield 16, 3) := by decide +kernel
theorem dX5_count_217 : decode cX5_count 217 = .ok (.iconst 1, 1) := by decide +kernel
theorem dX5_count_218 : decode cX5_count 218 = .ok (.iaload, 1) := by decide +kernel
theorem dX5_count_219 : decode cX5_count 219 = .ok (.ireturn, 1) := by decide +kernel
theorem dX5_count_220 : decode cX5_count 220 = .ok (.aload_n 0, 1) := by decide +kernel
theorem dX5_count_221 : decode cX5_count 221 = .ok (.getfield 58, 3) := by decide +kernel
theorem dX5_count_224 : decode cX5_count 224 = .ok (.ireturn, 1) := by decide +kernel
theorem dX5_count_225 : decode cX5_count 225 = .ok (.aload_n 0, 1) := by decide +kernel
theorem dX5_count_226 : decode cX5_count 226 = .ok (.getfield 54, 3) := by decide +kernel
theorem dX5_count_229 : decode cX5_count 229 = .ok (.ireturn, 1) := by decide +kernel
theorem dX5_count_230 : decode cX5_count 230 = .ok (.aload_n 0, 1) := by decide +kernel
theorem dX5_count_231 : decode cX5_count 231 = .ok (.getfield 67, 3) := by decide +kernel
theorem dX5_count_234 : decode cX5_count 234 = .ok (.ireturn, 1) := by decide +kernel
theorem dX5_count_235 : decode cX5_count 235 = .ok (.bipush (-3), 2) := by decide +kernel
theorem dX5_count_237 : decode cX5_count 237 = .ok (.ireturn, 1) := by decide +kernel

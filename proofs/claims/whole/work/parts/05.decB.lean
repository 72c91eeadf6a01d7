theorem dX5_init_0 : decode cX5_init 0 = .ok (.aload_n 0, 1) := by decide +kernel
theorem dX5_init_1 : decode cX5_init 1 = .ok (.invokespecial 1, 3) := by decide +kernel
theorem dX5_init_4 : decode cX5_init 4 = .ok (.aload_n 0, 1) := by decide +kernel
theorem dX5_init_5 : decode cX5_init 5 = .ok (.sipush 551, 3) := by decide +kernel
theorem dX5_init_8 : decode cX5_init 8 = .ok (.newarray .int, 2) := by decide +kernel
theorem dX5_init_10 : decode cX5_init 10 = .ok (.putfield 7, 3) := by decide +kernel
theorem dX5_init_13 : decode cX5_init 13 = .ok (.aload_n 0, 1) := by decide +kernel
theorem dX5_init_14 : decode cX5_init 14 = .ok (.sipush 551, 3) := by decide +kernel
theorem dX5_init_17 : decode cX5_init 17 = .ok (.newarray .int, 2) := by decide +kernel
theorem dX5_init_19 : decode cX5_init 19 = .ok (.putfield 13, 3) := by decide +kernel
theorem dX5_init_22 : decode cX5_init 22 = .ok (.aload_n 0, 1) := by decide +kernel
theorem dX5_init_23 : decode cX5_init 23 = .ok (.sipush 2204, 3) := by decide +kernel
theorem dX5_init_26 : decode cX5_init 26 = .ok (.newarray .int, 2) := by decide +kernel
theorem dX5_init_28 : decode cX5_init 28 = .ok (.putfield 16, 3) := by decide +kernel
theorem dX5_init_31 : decode cX5_init 31 = .ok (.aload_n 0, 1) := by decide +kernel
theorem dX5_init_32 : decode cX5_init 32 = .ok (.sipush 1102, 3) := by decide +kernel
theorem dX5_init_35 : decode cX5_init 35 = .ok (.newarray .int, 2) := by decide +kernel
theorem dX5_init_37 : decode cX5_init 37 = .ok (.putfield 19, 3) := by decide +kernel
theorem dX5_init_40 : decode cX5_init 40 = .ok (.aload_n 0, 1) := by decide +kernel
theorem dX5_init_41 : decode cX5_init 41 = .ok (.iconst 2, 1) := by decide +kernel
theorem dX5_init_42 : decode cX5_init 42 = .ok (.newarray .boolean, 2) := by decide +kernel
theorem dX5_init_44 : decode cX5_init 44 = .ok (.putfield 22, 3) := by decide +kernel
theorem dX5_init_47 : decode cX5_init 47 = .ok (.aload_n 0, 1) := by decide +kernel
theorem dX5_init_48 : decode cX5_init 48 = .ok (.bipush 60, 2) := by decide +kernel
theorem dX5_init_50 : decode cX5_init 50 = .ok (.newarray .int, 2) := by decide +kernel
theorem dX5_init_52 : decode cX5_init 52 = .ok (.putfield 26, 3) := by decide +kernel
theorem dX5_init_55 : decode cX5_init 55 = .ok (.aload_n 0, 1) := by decide +kernel
theorem dX5_init_56 : decode cX5_init 56 = .ok (.bipush 40, 2) := by decide +kernel
theorem dX5_init_58 : decode cX5_init 58 = .ok (.newarray .boolean, 2) := by decide +kernel
theorem dX5_init_60 : decode cX5_init 60 = .ok (.putfield 29, 3) := by decide +kernel
theorem dX5_init_63 : decode cX5_init 63 = .ok (.aload_n 0, 1) := by decide +kernel
theorem dX5_init_64 : decode cX5_init 64 = .ok (.bipush 40, 2) := by decide +kernel
theorem dX5_init_66 : decode cX5_init 66 = .ok (.newarray .boolean, 2) := by decide +kernel
theorem dX5_init_68 : decode cX5_init 68 = .ok (.putfield 32, 3) := by decide +kernel
theorem dX5_init_71 : decode cX5_init 71 = .ok (.aload_n 0, 1) := by decide +kernel
theorem dX5_init_72 : decode cX5_init 72 = .ok (.bipush 40, 2) := by decide +kernel
theorem dX5_init_74 : decode cX5_init 74 = .ok (.newarray .int, 2) := by decide +kernel
theorem dX5_init_76 : decode cX5_init 76 = .ok (.putfield 35, 3) := by decide +kernel
theorem dX5_init_79 : decode cX5_init 79 = .ok (.aload_n 0, 1) := by decide +kernel
theorem dX5_init_80 : decode cX5_init 80 = .ok (.getfield 7, 3) := by decide +kernel
theorem dX5_init_83 : decode cX5_init 83 = .ok (.iconst 0, 1) := by decide +kernel
theorem dX5_init_84 : decode cX5_init 84 = .ok (.iconst 3, 1) := by decide +kernel
theorem dX5_init_85 : decode cX5_init 85 = .ok (.iastore, 1) := by decide +kernel
theorem dX5_init_86 : decode cX5_init 86 = .ok (.aload_n 0, 1) := by decide +kernel
theorem dX5_init_87 : decode cX5_init 87 = .ok (.getfield 7, 3) := by decide +kernel
theorem dX5_init_90 : decode cX5_init 90 = .ok (.iconst 1, 1) := by decide +kernel
theorem dX5_init_91 : decode cX5_init 91 = .ok (.iconst 2, 1) := by decide +kernel
theorem dX5_init_92 : decode cX5_init 92 = .ok (.iastore, 1) := by decide +kernel
theorem dX5_init_93 : decode cX5_init 93 = .ok (.aload_n 0, 1) := by decide +kernel
theorem dX5_init_94 : decode cX5_init 94 = .ok (.getfield 7, 3) := by decide +kernel
theorem dX5_init_97 : decode cX5_init 97 = .ok (.iconst 2, 1) := by decide +kernel
theorem dX5_init_98 : decode cX5_init 98 = .ok (.iconst 2, 1) := by decide +kernel
theorem dX5_init_99 : decode cX5_init 99 = .ok (.iastore, 1) := by decide +kernel
theorem dX5_init_100 : decode cX5_init 100 = .ok (.iconst 0, 1) := by decide +kernel
theorem dX5_init_101 : decode cX5_init 101 = .ok (.istore_n 1, 1) := by decide +kernel
theorem dX5_init_102 : decode cX5_init 102 = .ok (.iload_n 1, 1) := by decide +kernel
theorem dX5_init_103 : decode cX5_init 103 = .ok (.bipush 8, 2) := by decide +kernel
theorem dX5_init_105 : decode cX5_init 105 = .ok (.if_icmp .ge 26, 3) := by decide +kernel
theorem dX5_init_108 : decode cX5_init 108 = .ok (.aload_n 0, 1) := by decide +kernel
theorem dX5_init_109 : decode cX5_init 109 = .ok (.getfield 7, 3) := by decide +kernel
theorem dX5_init_112 : decode cX5_init 112 = .ok (.iconst 5, 1) := by decide +kernel
theorem dX5_init_113 : decode cX5_init 113 = .ok (.iload_n 1, 1) := by decide +kernel
theorem dX5_init_114 : decode cX5_init 114 = .ok (.iadd, 1) := by decide +kernel
theorem dX5_init_115 : decode cX5_init 115 = .ok (.iload_n 1, 1) := by decide +kernel
theorem dX5_init_116 : decode cX5_init 116 = .ok (.iconst 2, 1) := by decide +kernel
theorem dX5_init_117 : decode cX5_init 117 = .ok (.idiv, 1) := by decide +kernel
theorem dX5_init_118 : decode cX5_init 118 = .ok (.iload_n 1, 1) := by decide +kernel
theorem dX5_init_119 : decode cX5_init 119 = .ok (.iconst 2, 1) := by decide +kernel
theorem dX5_init_120 : decode cX5_init 120 = .ok (.irem, 1) := by decide +kernel
theorem dX5_init_121 : decode cX5_init 121 = .ok (.iadd, 1) := by decide +kernel
theorem dX5_init_122 : decode cX5_init 122 = .ok (.iconst 4, 1) := by decide +kernel
theorem dX5_init_123 : decode cX5_init 123 = .ok (.irem, 1) := by decide +kernel
theorem dX5_init_124 : decode cX5_init 124 = .ok (.iastore, 1) := by decide +kernel
theorem dX5_init_125 : decode cX5_init 125 = .ok (.iinc 1 1, 3) := by decide +kernel
theorem dX5_init_128 : decode cX5_init 128 = .ok (.goto (-26), 3) := by decide +kernel
theorem dX5_init_131 : decode cX5_init 131 = .ok (.return_, 1) := by decide +kernel
theorem dX5_in_0 : decode cX5_in 0 = .ok (.iload_n 0, 1) := by decide +kernel
theorem dX5_in_1 : decode cX5_in 1 = .ok (.iload_n 1, 1) := by decide +kernel
theorem dX5_in_2 : decode cX5_in 2 = .ok (.if_icmp .lt 12, 3) := by decide +kernel
theorem dX5_in_5 : decode cX5_in 5 = .ok (.iload_n 0, 1) := by decide +kernel
theorem dX5_in_6 : decode cX5_in 6 = .ok (.iload_n 2, 1) := by decide +kernel
theorem dX5_in_7 : decode cX5_in 7 = .ok (.if_icmp .gt 7, 3) := by decide +kernel
theorem dX5_in_10 : decode cX5_in 10 = .ok (.iconst 1, 1) := by decide +kernel
theorem dX5_in_11 : decode cX5_in 11 = .ok (.goto 4, 3) := by decide +kernel
theorem dX5_in_14 : decode cX5_in 14 = .ok (.iconst 0, 1) := by decide +kernel
theorem dX5_in_15 : decode cX5_in 15 = .ok (.ireturn, 1) := by decide +kernel
theorem dX5_isLetter_0 : decode cX5_isLetter 0 = .ok (.iload_n 1, 1) := by decide +kernel
theorem dX5_isLetter_1 : decode cX5_isLetter 1 = .ok (.iconst 0, 1) := by decide +kernel
theorem dX5_isLetter_2 : decode cX5_isLetter 2 = .ok (.aload_n 0, 1) := by decide +kernel
theorem dX5_isLetter_3 : decode cX5_isLetter 3 = .ok (.getfield 7, 3) := by decide +kernel
theorem dX5_isLetter_6 : decode cX5_isLetter 6 = .ok (.iconst 4, 1) := by decide +kernel
theorem dX5_isLetter_7 : decode cX5_isLetter 7 = .ok (.iaload, 1) := by decide +kernel
theorem dX5_isLetter_8 : decode cX5_isLetter 8 = .ok (.iconst 1, 1) := by decide +kernel
theorem dX5_isLetter_9 : decode cX5_isLetter 9 = .ok (.isub, 1) := by decide +kernel
theorem dX5_isLetter_10 : decode cX5_isLetter 10 = .ok (.invokestatic 38, 3) := by decide +kernel
theorem dX5_isLetter_13 : decode cX5_isLetter 13 = .ok (.ireturn, 1) := by decide +kernel
theorem dX5_at_0 : decode cX5_at 0 = .ok (.bipush 111, 2) := by decide +kernel
theorem dX5_at_2 : decode cX5_at 2 = .ok (.bipush 11, 2) := by decide +kernel
theorem dX5_at_4 : decode cX5_at 4 = .ok (.iload_n 0, 1) := by decide +kernel
theorem dX5_at_5 : decode cX5_at 5 = .ok (.imul, 1) := by decide +kernel
theorem dX5_at_6 : decode cX5_at 6 = .ok (.iadd, 1) := by decide +kernel
theorem dX5_at_7 : decode cX5_at 7 = .ok (.iload_n 1, 1) := by decide +kernel
theorem dX5_at_8 : decode cX5_at 8 = .ok (.iadd, 1) := by decide +kernel
theorem dX5_at_9 : decode cX5_at 9 = .ok (.ireturn, 1) := by decide +kernel
theorem dX5_of_0 : decode cX5_of 0 = .ok (.aload_n 0, 1) := by decide +kernel
theorem dX5_of_1 : decode cX5_of 1 = .ok (.getfield 7, 3) := by decide +kernel
theorem dX5_of_4 : decode cX5_of 4 = .ok (.iload_n 1, 1) := by decide +kernel
theorem dX5_of_5 : decode cX5_of 5 = .ok (.iload_n 2, 1) := by decide +kernel
theorem dX5_of_6 : decode cX5_of 6 = .ok (.invokestatic 42, 3) := by decide +kernel
theorem dX5_of_9 : decode cX5_of 9 = .ok (.iaload, 1) := by decide +kernel
theorem dX5_of_10 : decode cX5_of 10 = .ok (.ireturn, 1) := by decide +kernel
theorem dX5_inRow_0 : decode cX5_inRow 0 = .ok (.bipush 31, 2) := by decide +kernel
theorem dX5_inRow_2 : decode cX5_inRow 2 = .ok (.bipush 40, 2) := by decide +kernel
theorem dX5_inRow_4 : decode cX5_inRow 4 = .ok (.iload_n 0, 1) := by decide +kernel
theorem dX5_inRow_5 : decode cX5_inRow 5 = .ok (.imul, 1) := by decide +kernel
theorem dX5_inRow_6 : decode cX5_inRow 6 = .ok (.iadd, 1) := by decide +kernel
theorem dX5_inRow_7 : decode cX5_inRow 7 = .ok (.iload_n 1, 1) := by decide +kernel
theorem dX5_inRow_8 : decode cX5_inRow 8 = .ok (.iadd, 1) := by decide +kernel
theorem dX5_inRow_9 : decode cX5_inRow 9 = .ok (.ireturn, 1) := by decide +kernel
theorem dX5_ofCensor_0 : decode cX5_ofCensor 0 = .ok (.bipush 13, 2) := by decide +kernel
theorem dX5_ofCensor_2 : decode cX5_ofCensor 2 = .ok (.iconst 4, 1) := by decide +kernel
theorem dX5_ofCensor_3 : decode cX5_ofCensor 3 = .ok (.iload_n 0, 1) := by decide +kernel
theorem dX5_ofCensor_4 : decode cX5_ofCensor 4 = .ok (.imul, 1) := by decide +kernel
theorem dX5_ofCensor_5 : decode cX5_ofCensor 5 = .ok (.iadd, 1) := by decide +kernel
theorem dX5_ofCensor_6 : decode cX5_ofCensor 6 = .ok (.iload_n 1, 1) := by decide +kernel
theorem dX5_ofCensor_7 : decode cX5_ofCensor 7 = .ok (.iadd, 1) := by decide +kernel
theorem dX5_ofCensor_8 : decode cX5_ofCensor 8 = .ok (.ireturn, 1) := by decide +kernel
theorem dX5_record_0 : decode cX5_record 0 = .ok (.aload_n 0, 1) := by decide +kernel
theorem dX5_record_1 : decode cX5_record 1 = .ok (.getfield 46, 3) := by decide +kernel
theorem dX5_record_4 : decode cX5_record 4 = .ok (.iconst 4, 1) := by decide +kernel
theorem dX5_record_5 : decode cX5_record 5 = .ok (.if_icmp .ne 44, 3) := by decide +kernel
theorem dX5_record_8 : decode cX5_record 8 = .ok (.iconst 0, 1) := by decide +kernel
theorem dX5_record_9 : decode cX5_record 9 = .ok (.istore_n 1, 1) := by decide +kernel
theorem dX5_record_10 : decode cX5_record 10 = .ok (.iload_n 1, 1) := by decide +kernel
theorem dX5_record_11 : decode cX5_record 11 = .ok (.sipush 1653, 3) := by decide +kernel
theorem dX5_record_14 : decode cX5_record 14 = .ok (.if_icmp .ge 25, 3) := by decide +kernel
theorem dX5_record_17 : decode cX5_record 17 = .ok (.aload_n 0, 1) := by decide +kernel
theorem dX5_record_18 : decode cX5_record 18 = .ok (.getfield 16, 3) := by decide +kernel
theorem dX5_record_21 : decode cX5_record 21 = .ok (.iload_n 1, 1) := by decide +kernel
theorem dX5_record_22 : decode cX5_record 22 = .ok (.aload_n 0, 1) := by decide +kernel
theorem dX5_record_23 : decode cX5_record 23 = .ok (.getfield 16, 3) := by decide +kernel
theorem dX5_record_26 : decode cX5_record 26 = .ok (.iload_n 1, 1) := by decide +kernel
theorem dX5_record_27 : decode cX5_record 27 = .ok (.sipush 551, 3) := by decide +kernel
theorem dX5_record_30 : decode cX5_record 30 = .ok (.iadd, 1) := by decide +kernel
theorem dX5_record_31 : decode cX5_record 31 = .ok (.iaload, 1) := by decide +kernel
theorem dX5_record_32 : decode cX5_record 32 = .ok (.iastore, 1) := by decide +kernel
theorem dX5_record_33 : decode cX5_record 33 = .ok (.iinc 1 1, 3) := by decide +kernel
theorem dX5_record_36 : decode cX5_record 36 = .ok (.goto (-26), 3) := by decide +kernel
theorem dX5_record_39 : decode cX5_record 39 = .ok (.aload_n 0, 1) := by decide +kernel
theorem dX5_record_40 : decode cX5_record 40 = .ok (.dup, 1) := by decide +kernel
theorem dX5_record_41 : decode cX5_record 41 = .ok (.getfield 46, 3) := by decide +kernel
theorem dX5_record_44 : decode cX5_record 44 = .ok (.iconst 1, 1) := by decide +kernel
theorem dX5_record_45 : decode cX5_record 45 = .ok (.isub, 1) := by decide +kernel
theorem dX5_record_46 : decode cX5_record 46 = .ok (.putfield 46, 3) := by decide +kernel
theorem dX5_record_49 : decode cX5_record 49 = .ok (.iconst 0, 1) := by decide +kernel
theorem dX5_record_50 : decode cX5_record 50 = .ok (.istore_n 1, 1) := by decide +kernel
theorem dX5_record_51 : decode cX5_record 51 = .ok (.iload_n 1, 1) := by decide +kernel
theorem dX5_record_52 : decode cX5_record 52 = .ok (.sipush 551, 3) := by decide +kernel
theorem dX5_record_55 : decode cX5_record 55 = .ok (.if_icmp .ge 30, 3) := by decide +kernel
theorem dX5_record_58 : decode cX5_record 58 = .ok (.aload_n 0, 1) := by decide +kernel
theorem dX5_record_59 : decode cX5_record 59 = .ok (.getfield 16, 3) := by decide +kernel
theorem dX5_record_62 : decode cX5_record 62 = .ok (.sipush 551, 3) := by decide +kernel
theorem dX5_record_65 : decode cX5_record 65 = .ok (.aload_n 0, 1) := by decide +kernel
theorem dX5_record_66 : decode cX5_record 66 = .ok (.getfield 46, 3) := by decide +kernel
theorem dX5_record_69 : decode cX5_record 69 = .ok (.imul, 1) := by decide +kernel
theorem dX5_record_70 : decode cX5_record 70 = .ok (.iload_n 1, 1) := by decide +kernel
theorem dX5_record_71 : decode cX5_record 71 = .ok (.iadd, 1) := by decide +kernel
theorem dX5_record_72 : decode cX5_record 72 = .ok (.aload_n 0, 1) := by decide +kernel
theorem dX5_record_73 : decode cX5_record 73 = .ok (.getfield 7, 3) := by decide +kernel
theorem dX5_record_76 : decode cX5_record 76 = .ok (.iload_n 1, 1) := by decide +kernel
theorem dX5_record_77 : decode cX5_record 77 = .ok (.iaload, 1) := by decide +kernel
theorem dX5_record_78 : decode cX5_record 78 = .ok (.iastore, 1) := by decide +kernel
theorem dX5_record_79 : decode cX5_record 79 = .ok (.iinc 1 1, 3) := by decide +kernel
theorem dX5_record_82 : decode cX5_record 82 = .ok (.goto (-31), 3) := by decide +kernel
theorem dX5_record_85 : decode cX5_record 85 = .ok (.aload_n 0, 1) := by decide +kernel
theorem dX5_record_86 : decode cX5_record 86 = .ok (.dup, 1) := by decide +kernel
theorem dX5_record_87 : decode cX5_record 87 = .ok (.getfield 46, 3) := by decide +kernel
theorem dX5_record_90 : decode cX5_record 90 = .ok (.iconst 1, 1) := by decide +kernel
theorem dX5_record_91 : decode cX5_record 91 = .ok (.iadd, 1) := by decide +kernel
theorem dX5_record_92 : decode cX5_record 92 = .ok (.putfield 46, 3) := by decide +kernel
theorem dX5_record_95 : decode cX5_record 95 = .ok (.return_, 1) := by decide +kernel
theorem dX5_putAside_0 : decode cX5_putAside 0 = .ok (.iconst 0, 1) := by decide +kernel
theorem dX5_putAside_1 : decode cX5_putAside 1 = .ok (.istore_n 1, 1) := by decide +kernel
theorem dX5_putAside_2 : decode cX5_putAside 2 = .ok (.iload_n 1, 1) := by decide +kernel
theorem dX5_putAside_3 : decode cX5_putAside 3 = .ok (.sipush 551, 3) := by decide +kernel
theorem dX5_putAside_6 : decode cX5_putAside 6 = .ok (.if_icmp .ge 21, 3) := by decide +kernel
theorem dX5_putAside_9 : decode cX5_putAside 9 = .ok (.aload_n 0, 1) := by decide +kernel
theorem dX5_putAside_10 : decode cX5_putAside 10 = .ok (.getfield 13, 3) := by decide +kernel
theorem dX5_putAside_13 : decode cX5_putAside 13 = .ok (.iload_n 1, 1) := by decide +kernel
theorem dX5_putAside_14 : decode cX5_putAside 14 = .ok (.aload_n 0, 1) := by decide +kernel
theorem dX5_putAside_15 : decode cX5_putAside 15 = .ok (.getfield 7, 3) := by decide +kernel
theorem dX5_putAside_18 : decode cX5_putAside 18 = .ok (.iload_n 1, 1) := by decide +kernel
theorem dX5_putAside_19 : decode cX5_putAside 19 = .ok (.iaload, 1) := by decide +kernel
theorem dX5_putAside_20 : decode cX5_putAside 20 = .ok (.iastore, 1) := by decide +kernel
theorem dX5_putAside_21 : decode cX5_putAside 21 = .ok (.iinc 1 1, 3) := by decide +kernel
theorem dX5_putAside_24 : decode cX5_putAside 24 = .ok (.goto (-22), 3) := by decide +kernel
theorem dX5_putAside_27 : decode cX5_putAside 27 = .ok (.return_, 1) := by decide +kernel
theorem dX5_putBack_0 : decode cX5_putBack 0 = .ok (.iconst 0, 1) := by decide +kernel
theorem dX5_putBack_1 : decode cX5_putBack 1 = .ok (.istore_n 1, 1) := by decide +kernel
theorem dX5_putBack_2 : decode cX5_putBack 2 = .ok (.iload_n 1, 1) := by decide +kernel
theorem dX5_putBack_3 : decode cX5_putBack 3 = .ok (.sipush 551, 3) := by decide +kernel
theorem dX5_putBack_6 : decode cX5_putBack 6 = .ok (.if_icmp .ge 21, 3) := by decide +kernel
theorem dX5_putBack_9 : decode cX5_putBack 9 = .ok (.aload_n 0, 1) := by decide +kernel
theorem dX5_putBack_10 : decode cX5_putBack 10 = .ok (.getfield 7, 3) := by decide +kernel
theorem dX5_putBack_13 : decode cX5_putBack 13 = .ok (.iload_n 1, 1) := by decide +kernel
theorem dX5_putBack_14 : decode cX5_putBack 14 = .ok (.aload_n 0, 1) := by decide +kernel
theorem dX5_putBack_15 : decode cX5_putBack 15 = .ok (.getfield 13, 3) := by decide +kernel
theorem dX5_putBack_18 : decode cX5_putBack 18 = .ok (.iload_n 1, 1) := by decide +kernel
theorem dX5_putBack_19 : decode cX5_putBack 19 = .ok (.iaload, 1) := by decide +kernel
theorem dX5_putBack_20 : decode cX5_putBack 20 = .ok (.iastore, 1) := by decide +kernel
theorem dX5_putBack_21 : decode cX5_putBack 21 = .ok (.iinc 1 1, 3) := by decide +kernel
theorem dX5_putBack_24 : decode cX5_putBack 24 = .ok (.goto (-22), 3) := by decide +kernel
theorem dX5_putBack_27 : decode cX5_putBack 27 = .ok (.return_, 1) := by decide +kernel
theorem dX5_bits_0 : decode cX5_bits 0 = .ok (.iconst 0, 1) := by decide +kernel
theorem dX5_bits_1 : decode cX5_bits 1 = .ok (.istore_n 1, 1) := by decide +kernel
theorem dX5_bits_2 : decode cX5_bits 2 = .ok (.iconst 0, 1) := by decide +kernel
theorem dX5_bits_3 : decode cX5_bits 3 = .ok (.istore_n 2, 1) := by decide +kernel
theorem dX5_bits_4 : decode cX5_bits 4 = .ok (.iload_n 2, 1) := by decide +kernel
theorem dX5_bits_5 : decode cX5_bits 5 = .ok (.bipush 26, 2) := by decide +kernel
theorem dX5_bits_7 : decode cX5_bits 7 = .ok (.if_icmp .ge 17, 3) := by decide +kernel
theorem dX5_bits_10 : decode cX5_bits 10 = .ok (.iload_n 1, 1) := by decide +kernel
theorem dX5_bits_11 : decode cX5_bits 11 = .ok (.iload_n 0, 1) := by decide +kernel
theorem dX5_bits_12 : decode cX5_bits 12 = .ok (.iload_n 2, 1) := by decide +kernel
theorem dX5_bits_13 : decode cX5_bits 13 = .ok (.ishr, 1) := by decide +kernel
theorem dX5_bits_14 : decode cX5_bits 14 = .ok (.iconst 1, 1) := by decide +kernel
theorem dX5_bits_15 : decode cX5_bits 15 = .ok (.iand, 1) := by decide +kernel
theorem dX5_bits_16 : decode cX5_bits 16 = .ok (.iadd, 1) := by decide +kernel
theorem dX5_bits_17 : decode cX5_bits 17 = .ok (.istore_n 1, 1) := by decide +kernel
theorem dX5_bits_18 : decode cX5_bits 18 = .ok (.iinc 2 1, 3) := by decide +kernel
theorem dX5_bits_21 : decode cX5_bits 21 = .ok (.goto (-17), 3) := by decide +kernel
theorem dX5_bits_24 : decode cX5_bits 24 = .ok (.iload_n 1, 1) := by decide +kernel
theorem dX5_bits_25 : decode cX5_bits 25 = .ok (.ireturn, 1) := by decide +kernel
theorem dX5_wordOf_0 : decode cX5_wordOf 0 = .ok (.aload_n 0, 1) := by decide +kernel
theorem dX5_wordOf_1 : decode cX5_wordOf 1 = .ok (.iload_n 1, 1) := by decide +kernel
theorem dX5_wordOf_2 : decode cX5_wordOf 2 = .ok (.bipush 9, 2) := by decide +kernel
theorem dX5_wordOf_4 : decode cX5_wordOf 4 = .ok (.iload_n 2, 1) := by decide +kernel
theorem dX5_wordOf_5 : decode cX5_wordOf 5 = .ok (.iconst 4, 1) := by decide +kernel
theorem dX5_wordOf_6 : decode cX5_wordOf 6 = .ok (.idiv, 1) := by decide +kernel
theorem dX5_wordOf_7 : decode cX5_wordOf 7 = .ok (.iadd, 1) := by decide +kernel
theorem dX5_wordOf_8 : decode cX5_wordOf 8 = .ok (.invokevirtual 50, 3) := by decide +kernel
theorem dX5_wordOf_11 : decode cX5_wordOf 11 = .ok (.istore_n 3, 1) := by decide +kernel
theorem dX5_wordOf_12 : decode cX5_wordOf 12 = .ok (.iconst 0, 1) := by decide +kernel
theorem dX5_wordOf_13 : decode cX5_wordOf 13 = .ok (.istore 4, 2) := by decide +kernel
theorem dX5_wordOf_15 : decode cX5_wordOf 15 = .ok (.iload 4, 2) := by decide +kernel
theorem dX5_wordOf_17 : decode cX5_wordOf 17 = .ok (.iload_n 2, 1) := by decide +kernel
theorem dX5_wordOf_18 : decode cX5_wordOf 18 = .ok (.iconst 4, 1) := by decide +kernel
theorem dX5_wordOf_19 : decode cX5_wordOf 19 = .ok (.irem, 1) := by decide +kernel
theorem dX5_wordOf_20 : decode cX5_wordOf 20 = .ok (.if_icmp .ge 14, 3) := by decide +kernel
theorem dX5_wordOf_23 : decode cX5_wordOf 23 = .ok (.iload_n 3, 1) := by decide +kernel
theorem dX5_wordOf_24 : decode cX5_wordOf 24 = .ok (.bipush 26, 2) := by decide +kernel
theorem dX5_wordOf_26 : decode cX5_wordOf 26 = .ok (.idiv, 1) := by decide +kernel
theorem dX5_wordOf_27 : decode cX5_wordOf 27 = .ok (.istore_n 3, 1) := by decide +kernel
theorem dX5_wordOf_28 : decode cX5_wordOf 28 = .ok (.iinc 4 1, 3) := by decide +kernel
theorem dX5_wordOf_31 : decode cX5_wordOf 31 = .ok (.goto (-16), 3) := by decide +kernel
theorem dX5_wordOf_34 : decode cX5_wordOf 34 = .ok (.iload_n 3, 1) := by decide +kernel
theorem dX5_wordOf_35 : decode cX5_wordOf 35 = .ok (.bipush 26, 2) := by decide +kernel
theorem dX5_wordOf_37 : decode cX5_wordOf 37 = .ok (.irem, 1) := by decide +kernel
theorem dX5_wordOf_38 : decode cX5_wordOf 38 = .ok (.ireturn, 1) := by decide +kernel
theorem dX5_strikes_0 : decode cX5_strikes 0 = .ok (.iconst 0, 1) := by decide +kernel
theorem dX5_strikes_1 : decode cX5_strikes 1 = .ok (.istore_n 3, 1) := by decide +kernel
theorem dX5_strikes_2 : decode cX5_strikes 2 = .ok (.iconst 0, 1) := by decide +kernel
theorem dX5_strikes_3 : decode cX5_strikes 3 = .ok (.istore 4, 2) := by decide +kernel
theorem dX5_strikes_5 : decode cX5_strikes 5 = .ok (.iload 4, 2) := by decide +kernel
theorem dX5_strikes_7 : decode cX5_strikes 7 = .ok (.aload_n 0, 1) := by decide +kernel
theorem dX5_strikes_8 : decode cX5_strikes 8 = .ok (.iload_n 2, 1) := by decide +kernel
theorem dX5_strikes_9 : decode cX5_strikes 9 = .ok (.bipush 8, 2) := by decide +kernel
theorem dX5_strikes_11 : decode cX5_strikes 11 = .ok (.invokevirtual 50, 3) := by decide +kernel
theorem dX5_strikes_14 : decode cX5_strikes 14 = .ok (.if_icmp .ge 35, 3) := by decide +kernel
theorem dX5_strikes_17 : decode cX5_strikes 17 = .ok (.iload_n 3, 1) := by decide +kernel
theorem dX5_strikes_18 : decode cX5_strikes 18 = .ok (.aload_n 0, 1) := by decide +kernel
theorem dX5_strikes_19 : decode cX5_strikes 19 = .ok (.getfield 7, 3) := by decide +kernel
theorem dX5_strikes_22 : decode cX5_strikes 22 = .ok (.iload_n 1, 1) := by decide +kernel
theorem dX5_strikes_23 : decode cX5_strikes 23 = .ok (.iconst 0, 1) := by decide +kernel
theorem dX5_strikes_24 : decode cX5_strikes 24 = .ok (.invokestatic 53, 3) := by decide +kernel
theorem dX5_strikes_27 : decode cX5_strikes 27 = .ok (.iaload, 1) := by decide +kernel
theorem dX5_strikes_28 : decode cX5_strikes 28 = .ok (.aload_n 0, 1) := by decide +kernel
theorem dX5_strikes_29 : decode cX5_strikes 29 = .ok (.iload_n 2, 1) := by decide +kernel
theorem dX5_strikes_30 : decode cX5_strikes 30 = .ok (.iload 4, 2) := by decide +kernel
theorem dX5_strikes_32 : decode cX5_strikes 32 = .ok (.invokevirtual 56, 3) := by decide +kernel
theorem dX5_strikes_35 : decode cX5_strikes 35 = .ok (.ishr, 1) := by decide +kernel
theorem dX5_strikes_36 : decode cX5_strikes 36 = .ok (.iconst 1, 1) := by decide +kernel
theorem dX5_strikes_37 : decode cX5_strikes 37 = .ok (.iand, 1) := by decide +kernel
theorem dX5_strikes_38 : decode cX5_strikes 38 = .ok (.iload 4, 2) := by decide +kernel
theorem dX5_strikes_40 : decode cX5_strikes 40 = .ok (.ishl, 1) := by decide +kernel
theorem dX5_strikes_41 : decode cX5_strikes 41 = .ok (.ior, 1) := by decide +kernel
theorem dX5_strikes_42 : decode cX5_strikes 42 = .ok (.istore_n 3, 1) := by decide +kernel
theorem dX5_strikes_43 : decode cX5_strikes 43 = .ok (.iinc 4 1, 3) := by decide +kernel
theorem dX5_strikes_46 : decode cX5_strikes 46 = .ok (.goto (-41), 3) := by decide +kernel
theorem dX5_strikes_49 : decode cX5_strikes 49 = .ok (.iload_n 3, 1) := by decide +kernel
theorem dX5_strikes_50 : decode cX5_strikes 50 = .ok (.ireturn, 1) := by decide +kernel
theorem dX5_shiftNow_0 : decode cX5_shiftNow 0 = .ok (.aload_n 0, 1) := by decide +kernel
theorem dX5_shiftNow_1 : decode cX5_shiftNow 1 = .ok (.getfield 7, 3) := by decide +kernel
theorem dX5_shiftNow_4 : decode cX5_shiftNow 4 = .ok (.iconst 5, 1) := by decide +kernel
theorem dX5_shiftNow_5 : decode cX5_shiftNow 5 = .ok (.iconst 2, 1) := by decide +kernel
theorem dX5_shiftNow_6 : decode cX5_shiftNow 6 = .ok (.aload_n 0, 1) := by decide +kernel
theorem dX5_shiftNow_7 : decode cX5_shiftNow 7 = .ok (.getfield 7, 3) := by decide +kernel
theorem dX5_shiftNow_10 : decode cX5_shiftNow 10 = .ok (.iconst 3, 1) := by decide +kernel
theorem dX5_shiftNow_11 : decode cX5_shiftNow 11 = .ok (.iaload, 1) := by decide +kernel
theorem dX5_shiftNow_12 : decode cX5_shiftNow 12 = .ok (.iconst 4, 1) := by decide +kernel
theorem dX5_shiftNow_13 : decode cX5_shiftNow 13 = .ok (.irem, 1) := by decide +kernel
theorem dX5_shiftNow_14 : decode cX5_shiftNow 14 = .ok (.imul, 1) := by decide +kernel
theorem dX5_shiftNow_15 : decode cX5_shiftNow 15 = .ok (.iadd, 1) := by decide +kernel
theorem dX5_shiftNow_16 : decode cX5_shiftNow 16 = .ok (.iload_n 1, 1) := by decide +kernel
theorem dX5_shiftNow_17 : decode cX5_shiftNow 17 = .ok (.iadd, 1) := by decide +kernel
theorem dX5_shiftNow_18 : decode cX5_shiftNow 18 = .ok (.iaload, 1) := by decide +kernel
theorem dX5_shiftNow_19 : decode cX5_shiftNow 19 = .ok (.ireturn, 1) := by decide +kernel
theorem dX5_isBarred_0 : decode cX5_isBarred 0 = .ok (.iconst 0, 1) := by decide +kernel
theorem dX5_isBarred_1 : decode cX5_isBarred 1 = .ok (.istore_n 2, 1) := by decide +kernel
theorem dX5_isBarred_2 : decode cX5_isBarred 2 = .ok (.iconst 0, 1) := by decide +kernel
theorem dX5_isBarred_3 : decode cX5_isBarred 3 = .ok (.istore_n 3, 1) := by decide +kernel
theorem dX5_isBarred_4 : decode cX5_isBarred 4 = .ok (.iload_n 3, 1) := by decide +kernel
theorem dX5_isBarred_5 : decode cX5_isBarred 5 = .ok (.iload_n 1, 1) := by decide +kernel
theorem dX5_isBarred_6 : decode cX5_isBarred 6 = .ok (.if_icmp .ge 43, 3) := by decide +kernel
theorem dX5_isBarred_9 : decode cX5_isBarred 9 = .ok (.iload_n 2, 1) := by decide +kernel
theorem dX5_isBarred_10 : decode cX5_isBarred 10 = .ok (.ifCond .ne 27, 3) := by decide +kernel
theorem dX5_isBarred_13 : decode cX5_isBarred 13 = .ok (.aload_n 0, 1) := by decide +kernel
theorem dX5_isBarred_14 : decode cX5_isBarred 14 = .ok (.iload_n 3, 1) := by decide +kernel
theorem dX5_isBarred_15 : decode cX5_isBarred 15 = .ok (.iconst 0, 1) := by decide +kernel
theorem dX5_isBarred_16 : decode cX5_isBarred 16 = .ok (.invokevirtual 50, 3) := by decide +kernel
theorem dX5_isBarred_19 : decode cX5_isBarred 19 = .ok (.aload_n 0, 1) := by decide +kernel
theorem dX5_isBarred_20 : decode cX5_isBarred 20 = .ok (.iload_n 1, 1) := by decide +kernel
theorem dX5_isBarred_21 : decode cX5_isBarred 21 = .ok (.iconst 0, 1) := by decide +kernel
theorem dX5_isBarred_22 : decode cX5_isBarred 22 = .ok (.invokevirtual 50, 3) := by decide +kernel
theorem dX5_isBarred_25 : decode cX5_isBarred 25 = .ok (.if_icmp .ne 16, 3) := by decide +kernel
theorem dX5_isBarred_28 : decode cX5_isBarred 28 = .ok (.aload_n 0, 1) := by decide +kernel
theorem dX5_isBarred_29 : decode cX5_isBarred 29 = .ok (.getfield 29, 3) := by decide +kernel
theorem dX5_isBarred_32 : decode cX5_isBarred 32 = .ok (.iload_n 3, 1) := by decide +kernel
theorem dX5_isBarred_33 : decode cX5_isBarred 33 = .ok (.baload, 1) := by decide +kernel
theorem dX5_isBarred_34 : decode cX5_isBarred 34 = .ok (.ifCond .eq 7, 3) := by decide +kernel
theorem dX5_isBarred_37 : decode cX5_isBarred 37 = .ok (.iconst 1, 1) := by decide +kernel
theorem dX5_isBarred_38 : decode cX5_isBarred 38 = .ok (.goto 4, 3) := by decide +kernel
theorem dX5_isBarred_41 : decode cX5_isBarred 41 = .ok (.iconst 0, 1) := by decide +kernel
theorem dX5_isBarred_42 : decode cX5_isBarred 42 = .ok (.istore_n 2, 1) := by decide +kernel
theorem dX5_isBarred_43 : decode cX5_isBarred 43 = .ok (.iinc 3 1, 3) := by decide +kernel
theorem dX5_isBarred_46 : decode cX5_isBarred 46 = .ok (.goto (-42), 3) := by decide +kernel
theorem dX5_isBarred_49 : decode cX5_isBarred 49 = .ok (.iload_n 2, 1) := by decide +kernel
theorem dX5_isBarred_50 : decode cX5_isBarred 50 = .ok (.ireturn, 1) := by decide +kernel
theorem dX5_reads_0 : decode cX5_reads 0 = .ok (.aload_n 0, 1) := by decide +kernel
theorem dX5_reads_1 : decode cX5_reads 1 = .ok (.iload_n 1, 1) := by decide +kernel
theorem dX5_reads_2 : decode cX5_reads 2 = .ok (.iload_n 2, 1) := by decide +kernel
theorem dX5_reads_3 : decode cX5_reads 3 = .ok (.invokevirtual 59, 3) := by decide +kernel
theorem dX5_reads_6 : decode cX5_reads 6 = .ok (.istore_n 3, 1) := by decide +kernel
theorem dX5_reads_7 : decode cX5_reads 7 = .ok (.aload_n 0, 1) := by decide +kernel
theorem dX5_reads_8 : decode cX5_reads 8 = .ok (.getfield 32, 3) := by decide +kernel
theorem dX5_reads_11 : decode cX5_reads 11 = .ok (.iload_n 2, 1) := by decide +kernel
theorem dX5_reads_12 : decode cX5_reads 12 = .ok (.iconst 1, 1) := by decide +kernel
theorem dX5_reads_13 : decode cX5_reads 13 = .ok (.bastore, 1) := by decide +kernel
theorem dX5_reads_14 : decode cX5_reads 14 = .ok (.aload_n 0, 1) := by decide +kernel
theorem dX5_reads_15 : decode cX5_reads 15 = .ok (.getfield 7, 3) := by decide +kernel
theorem dX5_reads_18 : decode cX5_reads 18 = .ok (.iload_n 1, 1) := by decide +kernel
theorem dX5_reads_19 : decode cX5_reads 19 = .ok (.iconst 1, 1) := by decide +kernel
theorem dX5_reads_20 : decode cX5_reads 20 = .ok (.invokestatic 53, 3) := by decide +kernel
theorem dX5_reads_23 : decode cX5_reads 23 = .ok (.dup2, 1) := by decide +kernel
theorem dX5_reads_24 : decode cX5_reads 24 = .ok (.iaload, 1) := by decide +kernel
theorem dX5_reads_25 : decode cX5_reads 25 = .ok (.iconst 1, 1) := by decide +kernel
theorem dX5_reads_26 : decode cX5_reads 26 = .ok (.iadd, 1) := by decide +kernel
theorem dX5_reads_27 : decode cX5_reads 27 = .ok (.iastore, 1) := by decide +kernel
theorem dX5_reads_28 : decode cX5_reads 28 = .ok (.iload_n 3, 1) := by decide +kernel
theorem dX5_reads_29 : decode cX5_reads 29 = .ok (.invokestatic 62, 3) := by decide +kernel
theorem dX5_reads_32 : decode cX5_reads 32 = .ok (.aload_n 0, 1) := by decide +kernel
theorem dX5_reads_33 : decode cX5_reads 33 = .ok (.getfield 7, 3) := by decide +kernel
theorem dX5_reads_36 : decode cX5_reads 36 = .ok (.iconst 1, 1) := by decide +kernel
theorem dX5_reads_37 : decode cX5_reads 37 = .ok (.iaload, 1) := by decide +kernel
theorem dX5_reads_38 : decode cX5_reads 38 = .ok (.if_icmp .gt 57, 3) := by decide +kernel
theorem dX5_reads_41 : decode cX5_reads 41 = .ok (.aload_n 0, 1) := by decide +kernel
theorem dX5_reads_42 : decode cX5_reads 42 = .ok (.getfield 7, 3) := by decide +kernel
theorem dX5_reads_45 : decode cX5_reads 45 = .ok (.iload_n 2, 1) := by decide +kernel
theorem dX5_reads_46 : decode cX5_reads 46 = .ok (.iconst 2, 1) := by decide +kernel
theorem dX5_reads_47 : decode cX5_reads 47 = .ok (.invokestatic 42, 3) := by decide +kernel
theorem dX5_reads_50 : decode cX5_reads 50 = .ok (.iconst 3, 1) := by decide +kernel
theorem dX5_reads_51 : decode cX5_reads 51 = .ok (.iastore, 1) := by decide +kernel
theorem dX5_reads_52 : decode cX5_reads 52 = .ok (.aload_n 0, 1) := by decide +kernel
theorem dX5_reads_53 : decode cX5_reads 53 = .ok (.getfield 7, 3) := by decide +kernel
theorem dX5_reads_56 : decode cX5_reads 56 = .ok (.iload_n 2, 1) := by decide +kernel
theorem dX5_reads_57 : decode cX5_reads 57 = .ok (.iconst 5, 1) := by decide +kernel
theorem dX5_reads_58 : decode cX5_reads 58 = .ok (.invokestatic 42, 3) := by decide +kernel
theorem dX5_reads_61 : decode cX5_reads 61 = .ok (.iload_n 3, 1) := by decide +kernel
theorem dX5_reads_62 : decode cX5_reads 62 = .ok (.iastore, 1) := by decide +kernel
theorem dX5_reads_63 : decode cX5_reads 63 = .ok (.aload_n 0, 1) := by decide +kernel
theorem dX5_reads_64 : decode cX5_reads 64 = .ok (.getfield 7, 3) := by decide +kernel
theorem dX5_reads_67 : decode cX5_reads 67 = .ok (.iload_n 2, 1) := by decide +kernel
theorem dX5_reads_68 : decode cX5_reads 68 = .ok (.bipush 7, 2) := by decide +kernel
theorem dX5_reads_70 : decode cX5_reads 70 = .ok (.invokestatic 42, 3) := by decide +kernel
theorem dX5_reads_73 : decode cX5_reads 73 = .ok (.iload_n 1, 1) := by decide +kernel
theorem dX5_reads_74 : decode cX5_reads 74 = .ok (.iastore, 1) := by decide +kernel
theorem dX5_reads_75 : decode cX5_reads 75 = .ok (.aload_n 0, 1) := by decide +kernel
theorem dX5_reads_76 : decode cX5_reads 76 = .ok (.getfield 7, 3) := by decide +kernel
theorem dX5_reads_79 : decode cX5_reads 79 = .ok (.iload_n 1, 1) := by decide +kernel
theorem dX5_reads_80 : decode cX5_reads 80 = .ok (.iconst 2, 1) := by decide +kernel
theorem dX5_reads_81 : decode cX5_reads 81 = .ok (.invokestatic 53, 3) := by decide +kernel
theorem dX5_reads_84 : decode cX5_reads 84 = .ok (.dup2, 1) := by decide +kernel
theorem dX5_reads_85 : decode cX5_reads 85 = .ok (.iaload, 1) := by decide +kernel
theorem dX5_reads_86 : decode cX5_reads 86 = .ok (.iload_n 3, 1) := by decide +kernel
theorem dX5_reads_87 : decode cX5_reads 87 = .ok (.invokestatic 62, 3) := by decide +kernel
theorem dX5_reads_90 : decode cX5_reads 90 = .ok (.iadd, 1) := by decide +kernel
theorem dX5_reads_91 : decode cX5_reads 91 = .ok (.iastore, 1) := by decide +kernel
theorem dX5_reads_92 : decode cX5_reads 92 = .ok (.goto 63, 3) := by decide +kernel
theorem dX5_reads_95 : decode cX5_reads 95 = .ok (.aload_n 0, 1) := by decide +kernel
theorem dX5_reads_96 : decode cX5_reads 96 = .ok (.getfield 7, 3) := by decide +kernel
theorem dX5_reads_99 : decode cX5_reads 99 = .ok (.iload_n 2, 1) := by decide +kernel
theorem dX5_reads_100 : decode cX5_reads 100 = .ok (.bipush 6, 2) := by decide +kernel
theorem dX5_reads_102 : decode cX5_reads 102 = .ok (.invokestatic 42, 3) := by decide +kernel
theorem dX5_reads_105 : decode cX5_reads 105 = .ok (.dup2, 1) := by decide +kernel
theorem dX5_reads_106 : decode cX5_reads 106 = .ok (.iaload, 1) := by decide +kernel
theorem dX5_reads_107 : decode cX5_reads 107 = .ok (.iconst 1, 1) := by decide +kernel
theorem dX5_reads_108 : decode cX5_reads 108 = .ok (.iadd, 1) := by decide +kernel
theorem dX5_reads_109 : decode cX5_reads 109 = .ok (.iastore, 1) := by decide +kernel
theorem dX5_reads_110 : decode cX5_reads 110 = .ok (.aload_n 0, 1) := by decide +kernel
theorem dX5_reads_111 : decode cX5_reads 111 = .ok (.getfield 7, 3) := by decide +kernel
theorem dX5_reads_114 : decode cX5_reads 114 = .ok (.iload_n 1, 1) := by decide +kernel
theorem dX5_reads_115 : decode cX5_reads 115 = .ok (.iconst 3, 1) := by decide +kernel
theorem dX5_reads_116 : decode cX5_reads 116 = .ok (.invokestatic 53, 3) := by decide +kernel
theorem dX5_reads_119 : decode cX5_reads 119 = .ok (.dup2, 1) := by decide +kernel
theorem dX5_reads_120 : decode cX5_reads 120 = .ok (.iaload, 1) := by decide +kernel
theorem dX5_reads_121 : decode cX5_reads 121 = .ok (.iconst 1, 1) := by decide +kernel
theorem dX5_reads_122 : decode cX5_reads 122 = .ok (.iadd, 1) := by decide +kernel
theorem dX5_reads_123 : decode cX5_reads 123 = .ok (.iastore, 1) := by decide +kernel
theorem dX5_reads_124 : decode cX5_reads 124 = .ok (.aload_n 0, 1) := by decide +kernel
theorem dX5_reads_125 : decode cX5_reads 125 = .ok (.getfield 7, 3) := by decide +kernel
theorem dX5_reads_128 : decode cX5_reads 128 = .ok (.iload_n 2, 1) := by decide +kernel
theorem dX5_reads_129 : decode cX5_reads 129 = .ok (.iconst 2, 1) := by decide +kernel
theorem dX5_reads_130 : decode cX5_reads 130 = .ok (.invokestatic 42, 3) := by decide +kernel
theorem dX5_reads_133 : decode cX5_reads 133 = .ok (.aload_n 0, 1) := by decide +kernel
theorem dX5_reads_134 : decode cX5_reads 134 = .ok (.iload_n 2, 1) := by decide +kernel
theorem dX5_reads_135 : decode cX5_reads 135 = .ok (.bipush 6, 2) := by decide +kernel
theorem dX5_reads_137 : decode cX5_reads 137 = .ok (.invokevirtual 50, 3) := by decide +kernel
theorem dX5_reads_140 : decode cX5_reads 140 = .ok (.aload_n 0, 1) := by decide +kernel
theorem dX5_reads_141 : decode cX5_reads 141 = .ok (.getfield 7, 3) := by decide +kernel
theorem dX5_reads_144 : decode cX5_reads 144 = .ok (.iconst 2, 1) := by decide +kernel
theorem dX5_reads_145 : decode cX5_reads 145 = .ok (.iaload, 1) := by decide +kernel
theorem dX5_reads_146 : decode cX5_reads 146 = .ok (.if_icmp .lt 7, 3) := by decide +kernel
theorem dX5_reads_149 : decode cX5_reads 149 = .ok (.iconst 2, 1) := by decide +kernel
theorem dX5_reads_150 : decode cX5_reads 150 = .ok (.goto 4, 3) := by decide +kernel
theorem dX5_reads_153 : decode cX5_reads 153 = .ok (.iconst 0, 1) := by decide +kernel
theorem dX5_reads_154 : decode cX5_reads 154 = .ok (.iastore, 1) := by decide +kernel
theorem dX5_reads_155 : decode cX5_reads 155 = .ok (.return_, 1) := by decide +kernel
theorem dX5_goesThrough_0 : decode cX5_goesThrough 0 = .ok (.aload_n 0, 1) := by decide +kernel
theorem dX5_goesThrough_1 : decode cX5_goesThrough 1 = .ok (.iload_n 1, 1) := by decide +kernel
theorem dX5_goesThrough_2 : decode cX5_goesThrough 2 = .ok (.invokevirtual 66, 3) := by decide +kernel
theorem dX5_goesThrough_5 : decode cX5_goesThrough 5 = .ok (.istore_n 2, 1) := by decide +kernel
theorem dX5_goesThrough_6 : decode cX5_goesThrough 6 = .ok (.aload_n 0, 1) := by decide +kernel
theorem dX5_goesThrough_7 : decode cX5_goesThrough 7 = .ok (.getfield 7, 3) := by decide +kernel
theorem dX5_goesThrough_10 : decode cX5_goesThrough 10 = .ok (.bipush 29, 2) := by decide +kernel
theorem dX5_goesThrough_12 : decode cX5_goesThrough 12 = .ok (.iload_n 1, 1) := by decide +kernel
theorem dX5_goesThrough_13 : decode cX5_goesThrough 13 = .ok (.iadd, 1) := by decide +kernel
theorem dX5_goesThrough_14 : decode cX5_goesThrough 14 = .ok (.iaload, 1) := by decide +kernel
theorem dX5_goesThrough_15 : decode cX5_goesThrough 15 = .ok (.istore_n 3, 1) := by decide +kernel
theorem dX5_goesThrough_16 : decode cX5_goesThrough 16 = .ok (.iconst 0, 1) := by decide +kernel
theorem dX5_goesThrough_17 : decode cX5_goesThrough 17 = .ok (.istore 4, 2) := by decide +kernel
theorem dX5_goesThrough_19 : decode cX5_goesThrough 19 = .ok (.iconst 0, 1) := by decide +kernel
theorem dX5_goesThrough_20 : decode cX5_goesThrough 20 = .ok (.istore 5, 2) := by decide +kernel
theorem dX5_goesThrough_22 : decode cX5_goesThrough 22 = .ok (.iload 5, 2) := by decide +kernel
theorem dX5_goesThrough_24 : decode cX5_goesThrough 24 = .ok (.iload_n 3, 1) := by decide +kernel
theorem dX5_goesThrough_25 : decode cX5_goesThrough 25 = .ok (.if_icmp .ge 52, 3) := by decide +kernel
theorem dX5_goesThrough_28 : decode cX5_goesThrough 28 = .ok (.aload_n 0, 1) := by decide +kernel
theorem dX5_goesThrough_29 : decode cX5_goesThrough 29 = .ok (.getfield 7, 3) := by decide +kernel
theorem dX5_goesThrough_32 : decode cX5_goesThrough 32 = .ok (.iload_n 1, 1) := by decide +kernel
theorem dX5_goesThrough_33 : decode cX5_goesThrough 33 = .ok (.iload 5, 2) := by decide +kernel
theorem dX5_goesThrough_35 : decode cX5_goesThrough 35 = .ok (.invokestatic 69, 3) := by decide +kernel
theorem dX5_goesThrough_38 : decode cX5_goesThrough 38 = .ok (.iaload, 1) := by decide +kernel
theorem dX5_goesThrough_39 : decode cX5_goesThrough 39 = .ok (.istore 6, 2) := by decide +kernel
theorem dX5_goesThrough_41 : decode cX5_goesThrough 41 = .ok (.iload 4, 2) := by decide +kernel
theorem dX5_goesThrough_43 : decode cX5_goesThrough 43 = .ok (.aload_n 0, 1) := by decide +kernel
theorem dX5_goesThrough_44 : decode cX5_goesThrough 44 = .ok (.getfield 7, 3) := by decide +kernel
theorem dX5_goesThrough_47 : decode cX5_goesThrough 47 = .ok (.iconst 0, 1) := by decide +kernel
theorem dX5_goesThrough_48 : decode cX5_goesThrough 48 = .ok (.iaload, 1) := by decide +kernel
theorem dX5_goesThrough_49 : decode cX5_goesThrough 49 = .ok (.if_icmp .ge 22, 3) := by decide +kernel
theorem dX5_goesThrough_52 : decode cX5_goesThrough 52 = .ok (.aload_n 0, 1) := by decide +kernel
theorem dX5_goesThrough_53 : decode cX5_goesThrough 53 = .ok (.iload 6, 2) := by decide +kernel
theorem dX5_goesThrough_55 : decode cX5_goesThrough 55 = .ok (.invokevirtual 72, 3) := by decide +kernel
theorem dX5_goesThrough_58 : decode cX5_goesThrough 58 = .ok (.ifCond .ne 13, 3) := by decide +kernel
theorem dX5_goesThrough_61 : decode cX5_goesThrough 61 = .ok (.aload_n 0, 1) := by decide +kernel
theorem dX5_goesThrough_62 : decode cX5_goesThrough 62 = .ok (.iload_n 2, 1) := by decide +kernel
theorem dX5_goesThrough_63 : decode cX5_goesThrough 63 = .ok (.iload 6, 2) := by decide +kernel
theorem dX5_goesThrough_65 : decode cX5_goesThrough 65 = .ok (.invokevirtual 76, 3) := by decide +kernel
theorem dX5_goesThrough_68 : decode cX5_goesThrough 68 = .ok (.iinc 4 1, 3) := by decide +kernel
theorem dX5_goesThrough_71 : decode cX5_goesThrough 71 = .ok (.iinc 5 1, 3) := by decide +kernel
theorem dX5_goesThrough_74 : decode cX5_goesThrough 74 = .ok (.goto (-52), 3) := by decide +kernel
theorem dX5_goesThrough_77 : decode cX5_goesThrough 77 = .ok (.iconst 0, 1) := by decide +kernel
theorem dX5_goesThrough_78 : decode cX5_goesThrough 78 = .ok (.istore 5, 2) := by decide +kernel
theorem dX5_goesThrough_80 : decode cX5_goesThrough 80 = .ok (.iconst 0, 1) := by decide +kernel
theorem dX5_goesThrough_81 : decode cX5_goesThrough 81 = .ok (.istore 6, 2) := by decide +kernel
theorem dX5_goesThrough_83 : decode cX5_goesThrough 83 = .ok (.iload 6, 2) := by decide +kernel
theorem dX5_goesThrough_85 : decode cX5_goesThrough 85 = .ok (.iconst 2, 1) := by decide +kernel
theorem dX5_goesThrough_86 : decode cX5_goesThrough 86 = .ok (.if_icmp .ge 80, 3) := by decide +kernel
theorem dX5_goesThrough_89 : decode cX5_goesThrough 89 = .ok (.iconst 0, 1) := by decide +kernel
theorem dX5_goesThrough_90 : decode cX5_goesThrough 90 = .ok (.istore 7, 2) := by decide +kernel
theorem dX5_goesThrough_92 : decode cX5_goesThrough 92 = .ok (.iload 7, 2) := by decide +kernel
theorem dX5_goesThrough_94 : decode cX5_goesThrough 94 = .ok (.iload_n 3, 1) := by decide +kernel
theorem dX5_goesThrough_95 : decode cX5_goesThrough 95 = .ok (.if_icmp .ge 65, 3) := by decide +kernel
theorem dX5_goesThrough_98 : decode cX5_goesThrough 98 = .ok (.aload_n 0, 1) := by decide +kernel
theorem dX5_goesThrough_99 : decode cX5_goesThrough 99 = .ok (.getfield 7, 3) := by decide +kernel
theorem dX5_goesThrough_102 : decode cX5_goesThrough 102 = .ok (.iload_n 1, 1) := by decide +kernel
theorem dX5_goesThrough_103 : decode cX5_goesThrough 103 = .ok (.iload 7, 2) := by decide +kernel
theorem dX5_goesThrough_105 : decode cX5_goesThrough 105 = .ok (.invokestatic 69, 3) := by decide +kernel
theorem dX5_goesThrough_108 : decode cX5_goesThrough 108 = .ok (.iaload, 1) := by decide +kernel
theorem dX5_goesThrough_109 : decode cX5_goesThrough 109 = .ok (.istore 8, 2) := by decide +kernel
theorem dX5_goesThrough_111 : decode cX5_goesThrough 111 = .ok (.aload_n 0, 1) := by decide +kernel
theorem dX5_goesThrough_112 : decode cX5_goesThrough 112 = .ok (.iload 8, 2) := by decide +kernel
theorem dX5_goesThrough_114 : decode cX5_goesThrough 114 = .ok (.iconst 2, 1) := by decide +kernel
theorem dX5_goesThrough_115 : decode cX5_goesThrough 115 = .ok (.invokevirtual 50, 3) := by decide +kernel
theorem dX5_goesThrough_118 : decode cX5_goesThrough 118 = .ok (.ifCond .ne 36, 3) := by decide +kernel
theorem dX5_goesThrough_121 : decode cX5_goesThrough 121 = .ok (.aload_n 0, 1) := by decide +kernel
theorem dX5_goesThrough_122 : decode cX5_goesThrough 122 = .ok (.getfield 32, 3) := by decide +kernel
theorem dX5_goesThrough_125 : decode cX5_goesThrough 125 = .ok (.iload 8, 2) := by decide +kernel
theorem dX5_goesThrough_127 : decode cX5_goesThrough 127 = .ok (.baload, 1) := by decide +kernel
theorem dX5_goesThrough_128 : decode cX5_goesThrough 128 = .ok (.iload 6, 2) := by decide +kernel
theorem dX5_goesThrough_130 : decode cX5_goesThrough 130 = .ok (.iconst 1, 1) := by decide +kernel
theorem dX5_goesThrough_131 : decode cX5_goesThrough 131 = .ok (.if_icmp .ne 7, 3) := by decide +kernel
theorem dX5_goesThrough_134 : decode cX5_goesThrough 134 = .ok (.iconst 1, 1) := by decide +kernel
theorem dX5_goesThrough_135 : decode cX5_goesThrough 135 = .ok (.goto 4, 3) := by decide +kernel
theorem dX5_goesThrough_138 : decode cX5_goesThrough 138 = .ok (.iconst 0, 1) := by decide +kernel
theorem dX5_goesThrough_139 : decode cX5_goesThrough 139 = .ok (.if_icmp .ne 15, 3) := by decide +kernel
theorem dX5_goesThrough_142 : decode cX5_goesThrough 142 = .ok (.aload_n 0, 1) := by decide +kernel
theorem dX5_goesThrough_143 : decode cX5_goesThrough 143 = .ok (.getfield 35, 3) := by decide +kernel
theorem dX5_goesThrough_146 : decode cX5_goesThrough 146 = .ok (.iload 5, 2) := by decide +kernel
theorem dX5_goesThrough_148 : decode cX5_goesThrough 148 = .ok (.iload 8, 2) := by decide +kernel
theorem dX5_goesThrough_150 : decode cX5_goesThrough 150 = .ok (.iastore, 1) := by decide +kernel
theorem dX5_goesThrough_151 : decode cX5_goesThrough 151 = .ok (.iinc 5 1, 3) := by decide +kernel
theorem dX5_goesThrough_154 : decode cX5_goesThrough 154 = .ok (.iinc 7 1, 3) := by decide +kernel
theorem dX5_goesThrough_157 : decode cX5_goesThrough 157 = .ok (.goto (-65), 3) := by decide +kernel
theorem dX5_goesThrough_160 : decode cX5_goesThrough 160 = .ok (.iinc 6 1, 3) := by decide +kernel
theorem dX5_goesThrough_163 : decode cX5_goesThrough 163 = .ok (.goto (-80), 3) := by decide +kernel
theorem dX5_goesThrough_166 : decode cX5_goesThrough 166 = .ok (.iconst 0, 1) := by decide +kernel
theorem dX5_goesThrough_167 : decode cX5_goesThrough 167 = .ok (.istore 6, 2) := by decide +kernel
theorem dX5_goesThrough_169 : decode cX5_goesThrough 169 = .ok (.iload 6, 2) := by decide +kernel
theorem dX5_goesThrough_171 : decode cX5_goesThrough 171 = .ok (.iload_n 3, 1) := by decide +kernel
theorem dX5_goesThrough_172 : decode cX5_goesThrough 172 = .ok (.if_icmp .ge 38, 3) := by decide +kernel
theorem dX5_goesThrough_175 : decode cX5_goesThrough 175 = .ok (.aload_n 0, 1) := by decide +kernel
theorem dX5_goesThrough_176 : decode cX5_goesThrough 176 = .ok (.getfield 7, 3) := by decide +kernel
theorem dX5_goesThrough_179 : decode cX5_goesThrough 179 = .ok (.iload_n 1, 1) := by decide +kernel
theorem dX5_goesThrough_180 : decode cX5_goesThrough 180 = .ok (.iload 6, 2) := by decide +kernel
theorem dX5_goesThrough_182 : decode cX5_goesThrough 182 = .ok (.invokestatic 69, 3) := by decide +kernel
theorem dX5_goesThrough_185 : decode cX5_goesThrough 185 = .ok (.iload 6, 2) := by decide +kernel
theorem dX5_goesThrough_187 : decode cX5_goesThrough 187 = .ok (.iload 5, 2) := by decide +kernel
theorem dX5_goesThrough_189 : decode cX5_goesThrough 189 = .ok (.if_icmp .ge 13, 3) := by decide +kernel
theorem dX5_goesThrough_192 : decode cX5_goesThrough 192 = .ok (.aload_n 0, 1) := by decide +kernel
theorem dX5_goesThrough_193 : decode cX5_goesThrough 193 = .ok (.getfield 35, 3) := by decide +kernel
theorem dX5_goesThrough_196 : decode cX5_goesThrough 196 = .ok (.iload 6, 2) := by decide +kernel
theorem dX5_goesThrough_198 : decode cX5_goesThrough 198 = .ok (.iaload, 1) := by decide +kernel
theorem dX5_goesThrough_199 : decode cX5_goesThrough 199 = .ok (.goto 4, 3) := by decide +kernel
theorem dX5_goesThrough_202 : decode cX5_goesThrough 202 = .ok (.iconst 0, 1) := by decide +kernel
theorem dX5_goesThrough_203 : decode cX5_goesThrough 203 = .ok (.iastore, 1) := by decide +kernel
theorem dX5_goesThrough_204 : decode cX5_goesThrough 204 = .ok (.iinc 6 1, 3) := by decide +kernel
theorem dX5_goesThrough_207 : decode cX5_goesThrough 207 = .ok (.goto (-38), 3) := by decide +kernel
theorem dX5_goesThrough_210 : decode cX5_goesThrough 210 = .ok (.aload_n 0, 1) := by decide +kernel
theorem dX5_goesThrough_211 : decode cX5_goesThrough 211 = .ok (.getfield 7, 3) := by decide +kernel
theorem dX5_goesThrough_214 : decode cX5_goesThrough 214 = .ok (.bipush 29, 2) := by decide +kernel
theorem dX5_goesThrough_216 : decode cX5_goesThrough 216 = .ok (.iload_n 1, 1) := by decide +kernel
theorem dX5_goesThrough_217 : decode cX5_goesThrough 217 = .ok (.iadd, 1) := by decide +kernel
theorem dX5_goesThrough_218 : decode cX5_goesThrough 218 = .ok (.iload 5, 2) := by decide +kernel
theorem dX5_goesThrough_220 : decode cX5_goesThrough 220 = .ok (.iastore, 1) := by decide +kernel
theorem dX5_goesThrough_221 : decode cX5_goesThrough 221 = .ok (.return_, 1) := by decide +kernel
theorem dX5_week_0 : decode cX5_week 0 = .ok (.iconst 0, 1) := by decide +kernel
theorem dX5_week_1 : decode cX5_week 1 = .ok (.istore_n 1, 1) := by decide +kernel
theorem dX5_week_2 : decode cX5_week 2 = .ok (.iload_n 1, 1) := by decide +kernel
theorem dX5_week_3 : decode cX5_week 3 = .ok (.aload_n 0, 1) := by decide +kernel
theorem dX5_week_4 : decode cX5_week 4 = .ok (.getfield 7, 3) := by decide +kernel
theorem dX5_week_7 : decode cX5_week 7 = .ok (.iconst 4, 1) := by decide +kernel
theorem dX5_week_8 : decode cX5_week 8 = .ok (.iaload, 1) := by decide +kernel
theorem dX5_week_9 : decode cX5_week 9 = .ok (.if_icmp .ge 36, 3) := by decide +kernel
theorem dX5_week_12 : decode cX5_week 12 = .ok (.aload_n 0, 1) := by decide +kernel
theorem dX5_week_13 : decode cX5_week 13 = .ok (.getfield 29, 3) := by decide +kernel
theorem dX5_week_16 : decode cX5_week 16 = .ok (.iload_n 1, 1) := by decide +kernel
theorem dX5_week_17 : decode cX5_week 17 = .ok (.aload_n 0, 1) := by decide +kernel
theorem dX5_week_18 : decode cX5_week 18 = .ok (.iload_n 1, 1) := by decide +kernel
theorem dX5_week_19 : decode cX5_week 19 = .ok (.iconst 2, 1) := by decide +kernel
theorem dX5_week_20 : decode cX5_week 20 = .ok (.invokevirtual 50, 3) := by decide +kernel
theorem dX5_week_23 : decode cX5_week 23 = .ok (.ifCond .ne 7, 3) := by decide +kernel
theorem dX5_week_26 : decode cX5_week 26 = .ok (.iconst 1, 1) := by decide +kernel
theorem dX5_week_27 : decode cX5_week 27 = .ok (.goto 4, 3) := by decide +kernel
theorem dX5_week_30 : decode cX5_week 30 = .ok (.iconst 0, 1) := by decide +kernel
theorem dX5_week_31 : decode cX5_week 31 = .ok (.bastore, 1) := by decide +kernel
theorem dX5_week_32 : decode cX5_week 32 = .ok (.aload_n 0, 1) := by decide +kernel
theorem dX5_week_33 : decode cX5_week 33 = .ok (.getfield 32, 3) := by decide +kernel
theorem dX5_week_36 : decode cX5_week 36 = .ok (.iload_n 1, 1) := by decide +kernel
theorem dX5_week_37 : decode cX5_week 37 = .ok (.iconst 0, 1) := by decide +kernel
theorem dX5_week_38 : decode cX5_week 38 = .ok (.bastore, 1) := by decide +kernel
theorem dX5_week_39 : decode cX5_week 39 = .ok (.iinc 1 1, 3) := by decide +kernel
theorem dX5_week_42 : decode cX5_week 42 = .ok (.goto (-40), 3) := by decide +kernel
theorem dX5_week_45 : decode cX5_week 45 = .ok (.aload_n 0, 1) := by decide +kernel
theorem dX5_week_46 : decode cX5_week 46 = .ok (.iconst 0, 1) := by decide +kernel
theorem dX5_week_47 : decode cX5_week 47 = .ok (.invokevirtual 80, 3) := by decide +kernel
theorem dX5_week_50 : decode cX5_week 50 = .ok (.aload_n 0, 1) := by decide +kernel
theorem dX5_week_51 : decode cX5_week 51 = .ok (.iconst 1, 1) := by decide +kernel
theorem dX5_week_52 : decode cX5_week 52 = .ok (.invokevirtual 80, 3) := by decide +kernel
theorem dX5_week_55 : decode cX5_week 55 = .ok (.aload_n 0, 1) := by decide +kernel
theorem dX5_week_56 : decode cX5_week 56 = .ok (.getfield 7, 3) := by decide +kernel
theorem dX5_week_59 : decode cX5_week 59 = .ok (.iconst 3, 1) := by decide +kernel
theorem dX5_week_60 : decode cX5_week 60 = .ok (.dup2, 1) := by decide +kernel
theorem dX5_week_61 : decode cX5_week 61 = .ok (.iaload, 1) := by decide +kernel
theorem dX5_week_62 : decode cX5_week 62 = .ok (.iconst 1, 1) := by decide +kernel
theorem dX5_week_63 : decode cX5_week 63 = .ok (.iadd, 1) := by decide +kernel
theorem dX5_week_64 : decode cX5_week 64 = .ok (.iastore, 1) := by decide +kernel
theorem dX5_week_65 : decode cX5_week 65 = .ok (.iconst 0, 1) := by decide +kernel
theorem dX5_week_66 : decode cX5_week 66 = .ok (.istore_n 1, 1) := by decide +kernel
theorem dX5_week_67 : decode cX5_week 67 = .ok (.iconst 0, 1) := by decide +kernel
theorem dX5_week_68 : decode cX5_week 68 = .ok (.istore_n 2, 1) := by decide +kernel
theorem dX5_week_69 : decode cX5_week 69 = .ok (.iload_n 2, 1) := by decide +kernel
theorem dX5_week_70 : decode cX5_week 70 = .ok (.aload_n 0, 1) := by decide +kernel
theorem dX5_week_71 : decode cX5_week 71 = .ok (.getfield 7, 3) := by decide +kernel
theorem dX5_week_74 : decode cX5_week 74 = .ok (.iconst 4, 1) := by decide +kernel
theorem dX5_week_75 : decode cX5_week 75 = .ok (.iaload, 1) := by decide +kernel
theorem dX5_week_76 : decode cX5_week 76 = .ok (.if_icmp .ge 56, 3) := by decide +kernel
theorem dX5_week_79 : decode cX5_week 79 = .ok (.aload_n 0, 1) := by decide +kernel
theorem dX5_week_80 : decode cX5_week 80 = .ok (.iload_n 2, 1) := by decide +kernel
theorem dX5_week_81 : decode cX5_week 81 = .ok (.iconst 2, 1) := by decide +kernel
theorem dX5_week_82 : decode cX5_week 82 = .ok (.invokevirtual 50, 3) := by decide +kernel
theorem dX5_week_85 : decode cX5_week 85 = .ok (.iconst 3, 1) := by decide +kernel
theorem dX5_week_86 : decode cX5_week 86 = .ok (.if_icmp .ne 40, 3) := by decide +kernel
theorem dX5_week_89 : decode cX5_week 89 = .ok (.aload_n 0, 1) := by decide +kernel
theorem dX5_week_90 : decode cX5_week 90 = .ok (.getfield 7, 3) := by decide +kernel
theorem dX5_week_93 : decode cX5_week 93 = .ok (.iload_n 2, 1) := by decide +kernel
theorem dX5_week_94 : decode cX5_week 94 = .ok (.iconst 2, 1) := by decide +kernel
theorem dX5_week_95 : decode cX5_week 95 = .ok (.invokestatic 42, 3) := by decide +kernel
theorem dX5_week_98 : decode cX5_week 98 = .ok (.iconst 1, 1) := by decide +kernel
theorem dX5_week_99 : decode cX5_week 99 = .ok (.iastore, 1) := by decide +kernel
theorem dX5_week_100 : decode cX5_week 100 = .ok (.aload_n 0, 1) := by decide +kernel
theorem dX5_week_101 : decode cX5_week 101 = .ok (.getfield 7, 3) := by decide +kernel
theorem dX5_week_104 : decode cX5_week 104 = .ok (.iload_n 2, 1) := by decide +kernel
theorem dX5_week_105 : decode cX5_week 105 = .ok (.iconst 4, 1) := by decide +kernel
theorem dX5_week_106 : decode cX5_week 106 = .ok (.invokestatic 42, 3) := by decide +kernel
theorem dX5_week_109 : decode cX5_week 109 = .ok (.aload_n 0, 1) := by decide +kernel
theorem dX5_week_110 : decode cX5_week 110 = .ok (.getfield 7, 3) := by decide +kernel
theorem dX5_week_113 : decode cX5_week 113 = .ok (.iconst 3, 1) := by decide +kernel
theorem dX5_week_114 : decode cX5_week 114 = .ok (.iaload, 1) := by decide +kernel
theorem dX5_week_115 : decode cX5_week 115 = .ok (.aload_n 0, 1) := by decide +kernel
theorem dX5_week_116 : decode cX5_week 116 = .ok (.iload_n 2, 1) := by decide +kernel
theorem dX5_week_117 : decode cX5_week 117 = .ok (.iconst 3, 1) := by decide +kernel
theorem dX5_week_118 : decode cX5_week 118 = .ok (.invokevirtual 50, 3) := by decide +kernel
theorem dX5_week_121 : decode cX5_week 121 = .ok (.isub, 1) := by decide +kernel
theorem dX5_week_122 : decode cX5_week 122 = .ok (.iastore, 1) := by decide +kernel
theorem dX5_week_123 : decode cX5_week 123 = .ok (.iinc 1 1, 3) := by decide +kernel
theorem dX5_week_126 : decode cX5_week 126 = .ok (.iinc 2 1, 3) := by decide +kernel
theorem dX5_week_129 : decode cX5_week 129 = .ok (.goto (-60), 3) := by decide +kernel
theorem dX5_week_132 : decode cX5_week 132 = .ok (.iload_n 1, 1) := by decide +kernel
theorem dX5_week_133 : decode cX5_week 133 = .ok (.ireturn, 1) := by decide +kernel
theorem dX5_passes_0 : decode cX5_passes 0 = .ok (.iconst 0, 1) := by decide +kernel
theorem dX5_passes_1 : decode cX5_passes 1 = .ok (.istore_n 2, 1) := by decide +kernel
theorem dX5_passes_2 : decode cX5_passes 2 = .ok (.iconst 0, 1) := by decide +kernel
theorem dX5_passes_3 : decode cX5_passes 3 = .ok (.istore_n 3, 1) := by decide +kernel
theorem dX5_passes_4 : decode cX5_passes 4 = .ok (.iload_n 3, 1) := by decide +kernel
theorem dX5_passes_5 : decode cX5_passes 5 = .ok (.iload_n 1, 1) := by decide +kernel
theorem dX5_passes_6 : decode cX5_passes 6 = .ok (.if_icmp .ge 16, 3) := by decide +kernel
theorem dX5_passes_9 : decode cX5_passes 9 = .ok (.iload_n 2, 1) := by decide +kernel
theorem dX5_passes_10 : decode cX5_passes 10 = .ok (.aload_n 0, 1) := by decide +kernel
theorem dX5_passes_11 : decode cX5_passes 11 = .ok (.invokevirtual 84, 3) := by decide +kernel
theorem dX5_passes_14 : decode cX5_passes 14 = .ok (.iadd, 1) := by decide +kernel
theorem dX5_passes_15 : decode cX5_passes 15 = .ok (.istore_n 2, 1) := by decide +kernel
theorem dX5_passes_16 : decode cX5_passes 16 = .ok (.iinc 3 1, 3) := by decide +kernel
theorem dX5_passes_19 : decode cX5_passes 19 = .ok (.goto (-15), 3) := by decide +kernel
theorem dX5_passes_22 : decode cX5_passes 22 = .ok (.iload_n 2, 1) := by decide +kernel
theorem dX5_passes_23 : decode cX5_passes 23 = .ok (.ireturn, 1) := by decide +kernel
theorem dX5_many_0 : decode cX5_many 0 = .ok (.iconst 0, 1) := by decide +kernel
theorem dX5_many_1 : decode cX5_many 1 = .ok (.istore_n 2, 1) := by decide +kernel
theorem dX5_many_2 : decode cX5_many 2 = .ok (.iconst 0, 1) := by decide +kernel
theorem dX5_many_3 : decode cX5_many 3 = .ok (.istore_n 3, 1) := by decide +kernel
theorem dX5_many_4 : decode cX5_many 4 = .ok (.iload_n 3, 1) := by decide +kernel
theorem dX5_many_5 : decode cX5_many 5 = .ok (.aload_n 0, 1) := by decide +kernel
theorem dX5_many_6 : decode cX5_many 6 = .ok (.getfield 7, 3) := by decide +kernel
theorem dX5_many_9 : decode cX5_many 9 = .ok (.iconst 4, 1) := by decide +kernel
theorem dX5_many_10 : decode cX5_many 10 = .ok (.iaload, 1) := by decide +kernel
theorem dX5_many_11 : decode cX5_many 11 = .ok (.if_icmp .ge 27, 3) := by decide +kernel
theorem dX5_many_14 : decode cX5_many 14 = .ok (.iload_n 2, 1) := by decide +kernel
theorem dX5_many_15 : decode cX5_many 15 = .ok (.aload_n 0, 1) := by decide +kernel
theorem dX5_many_16 : decode cX5_many 16 = .ok (.iload_n 3, 1) := by decide +kernel
theorem dX5_many_17 : decode cX5_many 17 = .ok (.iconst 2, 1) := by decide +kernel
theorem dX5_many_18 : decode cX5_many 18 = .ok (.invokevirtual 50, 3) := by decide +kernel
theorem dX5_many_21 : decode cX5_many 21 = .ok (.iload_n 1, 1) := by decide +kernel
theorem dX5_many_22 : decode cX5_many 22 = .ok (.if_icmp .ne 7, 3) := by decide +kernel
theorem dX5_many_25 : decode cX5_many 25 = .ok (.iconst 1, 1) := by decide +kernel
theorem dX5_many_26 : decode cX5_many 26 = .ok (.goto 4, 3) := by decide +kernel
theorem dX5_many_29 : decode cX5_many 29 = .ok (.iconst 0, 1) := by decide +kernel
theorem dX5_many_30 : decode cX5_many 30 = .ok (.iadd, 1) := by decide +kernel
theorem dX5_many_31 : decode cX5_many 31 = .ok (.istore_n 2, 1) := by decide +kernel
theorem dX5_many_32 : decode cX5_many 32 = .ok (.iinc 3 1, 3) := by decide +kernel
theorem dX5_many_35 : decode cX5_many 35 = .ok (.goto (-31), 3) := by decide +kernel
theorem dX5_many_38 : decode cX5_many 38 = .ok (.iload_n 2, 1) := by decide +kernel
theorem dX5_many_39 : decode cX5_many 39 = .ok (.ireturn, 1) := by decide +kernel
theorem dX5_struckWords_0 : decode cX5_struckWords 0 = .ok (.iconst 0, 1) := by decide +kernel
theorem dX5_struckWords_1 : decode cX5_struckWords 1 = .ok (.istore_n 1, 1) := by decide +kernel
theorem dX5_struckWords_2 : decode cX5_struckWords 2 = .ok (.iconst 0, 1) := by decide +kernel
theorem dX5_struckWords_3 : decode cX5_struckWords 3 = .ok (.istore_n 2, 1) := by decide +kernel
theorem dX5_struckWords_4 : decode cX5_struckWords 4 = .ok (.iload_n 2, 1) := by decide +kernel
theorem dX5_struckWords_5 : decode cX5_struckWords 5 = .ok (.aload_n 0, 1) := by decide +kernel
theorem dX5_struckWords_6 : decode cX5_struckWords 6 = .ok (.getfield 7, 3) := by decide +kernel
theorem dX5_struckWords_9 : decode cX5_struckWords 9 = .ok (.iconst 4, 1) := by decide +kernel
theorem dX5_struckWords_10 : decode cX5_struckWords 10 = .ok (.iaload, 1) := by decide +kernel
theorem dX5_struckWords_11 : decode cX5_struckWords 11 = .ok (.if_icmp .ge 35, 3) := by decide +kernel
theorem dX5_struckWords_14 : decode cX5_struckWords 14 = .ok (.iload_n 1, 1) := by decide +kernel
theorem dX5_struckWords_15 : decode cX5_struckWords 15 = .ok (.aload_n 0, 1) := by decide +kernel
theorem dX5_struckWords_16 : decode cX5_struckWords 16 = .ok (.iload_n 2, 1) := by decide +kernel
theorem dX5_struckWords_17 : decode cX5_struckWords 17 = .ok (.iconst 2, 1) := by decide +kernel
theorem dX5_struckWords_18 : decode cX5_struckWords 18 = .ok (.invokevirtual 50, 3) := by decide +kernel
theorem dX5_struckWords_21 : decode cX5_struckWords 21 = .ok (.iconst 1, 1) := by decide +kernel
theorem dX5_struckWords_22 : decode cX5_struckWords 22 = .ok (.if_icmp .ne 15, 3) := by decide +kernel
theorem dX5_struckWords_25 : decode cX5_struckWords 25 = .ok (.aload_n 0, 1) := by decide +kernel
theorem dX5_struckWords_26 : decode cX5_struckWords 26 = .ok (.iload_n 2, 1) := by decide +kernel
theorem dX5_struckWords_27 : decode cX5_struckWords 27 = .ok (.iconst 5, 1) := by decide +kernel
theorem dX5_struckWords_28 : decode cX5_struckWords 28 = .ok (.invokevirtual 50, 3) := by decide +kernel
theorem dX5_struckWords_31 : decode cX5_struckWords 31 = .ok (.invokestatic 62, 3) := by decide +kernel
theorem dX5_struckWords_34 : decode cX5_struckWords 34 = .ok (.goto 4, 3) := by decide +kernel
theorem dX5_struckWords_37 : decode cX5_struckWords 37 = .ok (.iconst 0, 1) := by decide +kernel
theorem dX5_struckWords_38 : decode cX5_struckWords 38 = .ok (.iadd, 1) := by decide +kernel
theorem dX5_struckWords_39 : decode cX5_struckWords 39 = .ok (.istore_n 1, 1) := by decide +kernel
theorem dX5_struckWords_40 : decode cX5_struckWords 40 = .ok (.iinc 2 1, 3) := by decide +kernel
theorem dX5_struckWords_43 : decode cX5_struckWords 43 = .ok (.goto (-39), 3) := by decide +kernel
theorem dX5_struckWords_46 : decode cX5_struckWords 46 = .ok (.iload_n 1, 1) := by decide +kernel
theorem dX5_struckWords_47 : decode cX5_struckWords 47 = .ok (.ireturn, 1) := by decide +kernel
theorem dX5_turnedBack_0 : decode cX5_turnedBack 0 = .ok (.aload_n 0, 1) := by decide +kernel
theorem dX5_turnedBack_1 : decode cX5_turnedBack 1 = .ok (.getfield 7, 3) := by decide +kernel
theorem dX5_turnedBack_4 : decode cX5_turnedBack 4 = .ok (.iconst 0, 1) := by decide +kernel
theorem dX5_turnedBack_5 : decode cX5_turnedBack 5 = .ok (.iconst 3, 1) := by decide +kernel
theorem dX5_turnedBack_6 : decode cX5_turnedBack 6 = .ok (.invokestatic 53, 3) := by decide +kernel
theorem dX5_turnedBack_9 : decode cX5_turnedBack 9 = .ok (.iaload, 1) := by decide +kernel
theorem dX5_turnedBack_10 : decode cX5_turnedBack 10 = .ok (.aload_n 0, 1) := by decide +kernel
theorem dX5_turnedBack_11 : decode cX5_turnedBack 11 = .ok (.getfield 7, 3) := by decide +kernel
theorem dX5_turnedBack_14 : decode cX5_turnedBack 14 = .ok (.iconst 1, 1) := by decide +kernel
theorem dX5_turnedBack_15 : decode cX5_turnedBack 15 = .ok (.iconst 3, 1) := by decide +kernel
theorem dX5_turnedBack_16 : decode cX5_turnedBack 16 = .ok (.invokestatic 53, 3) := by decide +kernel
theorem dX5_turnedBack_19 : decode cX5_turnedBack 19 = .ok (.iaload, 1) := by decide +kernel
theorem dX5_turnedBack_20 : decode cX5_turnedBack 20 = .ok (.iadd, 1) := by decide +kernel
theorem dX5_turnedBack_21 : decode cX5_turnedBack 21 = .ok (.aload_n 0, 1) := by decide +kernel
theorem dX5_turnedBack_22 : decode cX5_turnedBack 22 = .ok (.getfield 7, 3) := by decide +kernel
theorem dX5_turnedBack_25 : decode cX5_turnedBack 25 = .ok (.iconst 2, 1) := by decide +kernel
theorem dX5_turnedBack_26 : decode cX5_turnedBack 26 = .ok (.iconst 3, 1) := by decide +kernel
theorem dX5_turnedBack_27 : decode cX5_turnedBack 27 = .ok (.invokestatic 53, 3) := by decide +kernel
theorem dX5_turnedBack_30 : decode cX5_turnedBack 30 = .ok (.iaload, 1) := by decide +kernel
theorem dX5_turnedBack_31 : decode cX5_turnedBack 31 = .ok (.iadd, 1) := by decide +kernel
theorem dX5_turnedBack_32 : decode cX5_turnedBack 32 = .ok (.aload_n 0, 1) := by decide +kernel
theorem dX5_turnedBack_33 : decode cX5_turnedBack 33 = .ok (.getfield 7, 3) := by decide +kernel
theorem dX5_turnedBack_36 : decode cX5_turnedBack 36 = .ok (.iconst 3, 1) := by decide +kernel
theorem dX5_turnedBack_37 : decode cX5_turnedBack 37 = .ok (.iconst 3, 1) := by decide +kernel
theorem dX5_turnedBack_38 : decode cX5_turnedBack 38 = .ok (.invokestatic 53, 3) := by decide +kernel
theorem dX5_turnedBack_41 : decode cX5_turnedBack 41 = .ok (.iaload, 1) := by decide +kernel
theorem dX5_turnedBack_42 : decode cX5_turnedBack 42 = .ok (.iadd, 1) := by decide +kernel
theorem dX5_turnedBack_43 : decode cX5_turnedBack 43 = .ok (.ireturn, 1) := by decide +kernel
theorem dX5_lays_0 : decode cX5_lays 0 = .ok (.aload_n 0, 1) := by decide +kernel
theorem dX5_lays_1 : decode cX5_lays 1 = .ok (.invokevirtual 88, 3) := by decide +kernel
theorem dX5_lays_4 : decode cX5_lays 4 = .ok (.aload_n 0, 1) := by decide +kernel
theorem dX5_lays_5 : decode cX5_lays 5 = .ok (.getfield 7, 3) := by decide +kernel
theorem dX5_lays_8 : decode cX5_lays 8 = .ok (.iload_n 1, 1) := by decide +kernel
theorem dX5_lays_9 : decode cX5_lays 9 = .ok (.iaload, 1) := by decide +kernel
theorem dX5_lays_10 : decode cX5_lays 10 = .ok (.istore_n 3, 1) := by decide +kernel
theorem dX5_lays_11 : decode cX5_lays 11 = .ok (.aload_n 0, 1) := by decide +kernel
theorem dX5_lays_12 : decode cX5_lays 12 = .ok (.getfield 7, 3) := by decide +kernel
theorem dX5_lays_15 : decode cX5_lays 15 = .ok (.iload_n 1, 1) := by decide +kernel
theorem dX5_lays_16 : decode cX5_lays 16 = .ok (.iload_n 2, 1) := by decide +kernel
theorem dX5_lays_17 : decode cX5_lays 17 = .ok (.iastore, 1) := by decide +kernel
theorem dX5_lays_18 : decode cX5_lays 18 = .ok (.iload_n 3, 1) := by decide +kernel
theorem dX5_lays_19 : decode cX5_lays 19 = .ok (.ireturn, 1) := by decide +kernel
theorem dX5_set_0 : decode cX5_set 0 = .ok (.iload_n 1, 1) := by decide +kernel
theorem dX5_set_1 : decode cX5_set 1 = .ok (.ifCond .ne 13, 3) := by decide +kernel
theorem dX5_set_4 : decode cX5_set 4 = .ok (.iload_n 2, 1) := by decide +kernel
theorem dX5_set_5 : decode cX5_set 5 = .ok (.iconst 1, 1) := by decide +kernel
theorem dX5_set_6 : decode cX5_set 6 = .ok (.bipush 9, 2) := by decide +kernel
theorem dX5_set_8 : decode cX5_set 8 = .ok (.invokestatic 38, 3) := by decide +kernel
theorem dX5_set_11 : decode cX5_set 11 = .ok (.goto 37, 3) := by decide +kernel
theorem dX5_set_14 : decode cX5_set 14 = .ok (.iload_n 1, 1) := by decide +kernel
theorem dX5_set_15 : decode cX5_set 15 = .ok (.iconst 1, 1) := by decide +kernel
theorem dX5_set_16 : decode cX5_set 16 = .ok (.if_icmp .ne 13, 3) := by decide +kernel
theorem dX5_set_19 : decode cX5_set 19 = .ok (.iload_n 2, 1) := by decide +kernel
theorem dX5_set_20 : decode cX5_set 20 = .ok (.iconst 0, 1) := by decide +kernel
theorem dX5_set_21 : decode cX5_set 21 = .ok (.bipush 8, 2) := by decide +kernel
theorem dX5_set_23 : decode cX5_set 23 = .ok (.invokestatic 38, 3) := by decide +kernel
theorem dX5_set_26 : decode cX5_set 26 = .ok (.goto 22, 3) := by decide +kernel
theorem dX5_set_29 : decode cX5_set 29 = .ok (.iload_n 1, 1) := by decide +kernel
theorem dX5_set_30 : decode cX5_set 30 = .ok (.iconst 2, 1) := by decide +kernel
theorem dX5_set_31 : decode cX5_set 31 = .ok (.if_icmp .ne 16, 3) := by decide +kernel
theorem dX5_set_34 : decode cX5_set 34 = .ok (.iload_n 2, 1) := by decide +kernel
theorem dX5_set_35 : decode cX5_set 35 = .ok (.iconst 1, 1) := by decide +kernel
theorem dX5_set_36 : decode cX5_set 36 = .ok (.iconst 5, 1) := by decide +kernel
theorem dX5_set_37 : decode cX5_set 37 = .ok (.invokestatic 38, 3) := by decide +kernel
theorem dX5_set_40 : decode cX5_set 40 = .ok (.ifCond .eq 7, 3) := by decide +kernel
theorem dX5_set_43 : decode cX5_set 43 = .ok (.iconst 1, 1) := by decide +kernel
theorem dX5_set_44 : decode cX5_set 44 = .ok (.goto 4, 3) := by decide +kernel
theorem dX5_set_47 : decode cX5_set 47 = .ok (.iconst 0, 1) := by decide +kernel
theorem dX5_set_48 : decode cX5_set 48 = .ok (.istore_n 3, 1) := by decide +kernel
theorem dX5_set_49 : decode cX5_set 49 = .ok (.iload_n 3, 1) := by decide +kernel
theorem dX5_set_50 : decode cX5_set 50 = .ok (.ifCond .eq 12, 3) := by decide +kernel
theorem dX5_set_53 : decode cX5_set 53 = .ok (.aload_n 0, 1) := by decide +kernel
theorem dX5_set_54 : decode cX5_set 54 = .ok (.iload_n 1, 1) := by decide +kernel
theorem dX5_set_55 : decode cX5_set 55 = .ok (.iload_n 2, 1) := by decide +kernel
theorem dX5_set_56 : decode cX5_set 56 = .ok (.invokevirtual 91, 3) := by decide +kernel
theorem dX5_set_59 : decode cX5_set 59 = .ok (.goto 5, 3) := by decide +kernel
theorem dX5_set_62 : decode cX5_set 62 = .ok (.bipush (-2), 2) := by decide +kernel
theorem dX5_set_64 : decode cX5_set 64 = .ok (.ireturn, 1) := by decide +kernel
theorem dX5_strike_0 : decode cX5_strike 0 = .ok (.iload_n 1, 1) := by decide +kernel
theorem dX5_strike_1 : decode cX5_strike 1 = .ok (.iconst 0, 1) := by decide +kernel
theorem dX5_strike_2 : decode cX5_strike 2 = .ok (.iconst 3, 1) := by decide +kernel
theorem dX5_strike_3 : decode cX5_strike 3 = .ok (.invokestatic 38, 3) := by decide +kernel
theorem dX5_strike_6 : decode cX5_strike 6 = .ok (.ifCond .eq 13, 3) := by decide +kernel
theorem dX5_strike_9 : decode cX5_strike 9 = .ok (.iload_n 2, 1) := by decide +kernel
theorem dX5_strike_10 : decode cX5_strike 10 = .ok (.iconst 0, 1) := by decide +kernel
theorem dX5_strike_11 : decode cX5_strike 11 = .ok (.bipush 25, 2) := by decide +kernel
theorem dX5_strike_13 : decode cX5_strike 13 = .ok (.invokestatic 38, 3) := by decide +kernel
theorem dX5_strike_16 : decode cX5_strike 16 = .ok (.ifCond .ne 5, 3) := by decide +kernel
theorem dX5_strike_19 : decode cX5_strike 19 = .ok (.iconst (-1), 1) := by decide +kernel
theorem dX5_strike_20 : decode cX5_strike 20 = .ok (.ireturn, 1) := by decide +kernel
theorem dX5_strike_21 : decode cX5_strike 21 = .ok (.aload_n 0, 1) := by decide +kernel
theorem dX5_strike_22 : decode cX5_strike 22 = .ok (.iload_n 1, 1) := by decide +kernel
theorem dX5_strike_23 : decode cX5_strike 23 = .ok (.iconst 0, 1) := by decide +kernel
theorem dX5_strike_24 : decode cX5_strike 24 = .ok (.invokestatic 53, 3) := by decide +kernel
theorem dX5_strike_27 : decode cX5_strike 27 = .ok (.aload_n 0, 1) := by decide +kernel
theorem dX5_strike_28 : decode cX5_strike 28 = .ok (.getfield 7, 3) := by decide +kernel
theorem dX5_strike_31 : decode cX5_strike 31 = .ok (.iload_n 1, 1) := by decide +kernel
theorem dX5_strike_32 : decode cX5_strike 32 = .ok (.iconst 0, 1) := by decide +kernel
theorem dX5_strike_33 : decode cX5_strike 33 = .ok (.invokestatic 53, 3) := by decide +kernel
theorem dX5_strike_36 : decode cX5_strike 36 = .ok (.iaload, 1) := by decide +kernel
theorem dX5_strike_37 : decode cX5_strike 37 = .ok (.iconst 1, 1) := by decide +kernel
theorem dX5_strike_38 : decode cX5_strike 38 = .ok (.iload_n 2, 1) := by decide +kernel
theorem dX5_strike_39 : decode cX5_strike 39 = .ok (.ishl, 1) := by decide +kernel
theorem dX5_strike_40 : decode cX5_strike 40 = .ok (.ixor, 1) := by decide +kernel
theorem dX5_strike_41 : decode cX5_strike 41 = .ok (.invokevirtual 91, 3) := by decide +kernel
theorem dX5_strike_44 : decode cX5_strike 44 = .ok (.istore_n 3, 1) := by decide +kernel
theorem dX5_strike_45 : decode cX5_strike 45 = .ok (.aload_n 0, 1) := by decide +kernel
theorem dX5_strike_46 : decode cX5_strike 46 = .ok (.getfield 7, 3) := by decide +kernel
theorem dX5_strike_49 : decode cX5_strike 49 = .ok (.iload_n 1, 1) := by decide +kernel
theorem dX5_strike_50 : decode cX5_strike 50 = .ok (.iconst 0, 1) := by decide +kernel
theorem dX5_strike_51 : decode cX5_strike 51 = .ok (.invokestatic 53, 3) := by decide +kernel
theorem dX5_strike_54 : decode cX5_strike 54 = .ok (.iaload, 1) := by decide +kernel
theorem dX5_strike_55 : decode cX5_strike 55 = .ok (.invokestatic 62, 3) := by decide +kernel
theorem dX5_strike_58 : decode cX5_strike 58 = .ok (.ireturn, 1) := by decide +kernel
theorem dX5_isShift_0 : decode cX5_isShift 0 = .ok (.iload_n 0, 1) := by decide +kernel
theorem dX5_isShift_1 : decode cX5_isShift 1 = .ok (.iconst 0, 1) := by decide +kernel
theorem dX5_isShift_2 : decode cX5_isShift 2 = .ok (.bipush 7, 2) := by decide +kernel
theorem dX5_isShift_4 : decode cX5_isShift 4 = .ok (.invokestatic 38, 3) := by decide +kernel
theorem dX5_isShift_7 : decode cX5_isShift 7 = .ok (.ireturn, 1) := by decide +kernel
theorem dX5_trades_0 : decode cX5_trades 0 = .ok (.aload_n 0, 1) := by decide +kernel
theorem dX5_trades_1 : decode cX5_trades 1 = .ok (.getfield 7, 3) := by decide +kernel
theorem dX5_trades_4 : decode cX5_trades 4 = .ok (.iconst 5, 1) := by decide +kernel
theorem dX5_trades_5 : decode cX5_trades 5 = .ok (.iload_n 1, 1) := by decide +kernel
theorem dX5_trades_6 : decode cX5_trades 6 = .ok (.iadd, 1) := by decide +kernel
theorem dX5_trades_7 : decode cX5_trades 7 = .ok (.iaload, 1) := by decide +kernel
theorem dX5_trades_8 : decode cX5_trades 8 = .ok (.istore_n 3, 1) := by decide +kernel
theorem dX5_trades_9 : decode cX5_trades 9 = .ok (.aload_n 0, 1) := by decide +kernel
theorem dX5_trades_10 : decode cX5_trades 10 = .ok (.getfield 7, 3) := by decide +kernel
theorem dX5_trades_13 : decode cX5_trades 13 = .ok (.iconst 5, 1) := by decide +kernel
theorem dX5_trades_14 : decode cX5_trades 14 = .ok (.iload_n 1, 1) := by decide +kernel
theorem dX5_trades_15 : decode cX5_trades 15 = .ok (.iadd, 1) := by decide +kernel
theorem dX5_trades_16 : decode cX5_trades 16 = .ok (.aload_n 0, 1) := by decide +kernel
theorem dX5_trades_17 : decode cX5_trades 17 = .ok (.getfield 7, 3) := by decide +kernel
theorem dX5_trades_20 : decode cX5_trades 20 = .ok (.iconst 5, 1) := by decide +kernel
theorem dX5_trades_21 : decode cX5_trades 21 = .ok (.iload_n 2, 1) := by decide +kernel
theorem dX5_trades_22 : decode cX5_trades 22 = .ok (.iadd, 1) := by decide +kernel
theorem dX5_trades_23 : decode cX5_trades 23 = .ok (.iaload, 1) := by decide +kernel
theorem dX5_trades_24 : decode cX5_trades 24 = .ok (.iastore, 1) := by decide +kernel
theorem dX5_trades_25 : decode cX5_trades 25 = .ok (.aload_n 0, 1) := by decide +kernel
theorem dX5_trades_26 : decode cX5_trades 26 = .ok (.getfield 7, 3) := by decide +kernel
theorem dX5_trades_29 : decode cX5_trades 29 = .ok (.iconst 5, 1) := by decide +kernel
theorem dX5_trades_30 : decode cX5_trades 30 = .ok (.iload_n 2, 1) := by decide +kernel
theorem dX5_trades_31 : decode cX5_trades 31 = .ok (.iadd, 1) := by decide +kernel
theorem dX5_trades_32 : decode cX5_trades 32 = .ok (.iload_n 3, 1) := by decide +kernel
theorem dX5_trades_33 : decode cX5_trades 33 = .ok (.iastore, 1) := by decide +kernel
theorem dX5_trades_34 : decode cX5_trades 34 = .ok (.return_, 1) := by decide +kernel
theorem dX5_trade_0 : decode cX5_trade 0 = .ok (.iload_n 1, 1) := by decide +kernel
theorem dX5_trade_1 : decode cX5_trade 1 = .ok (.invokestatic 94, 3) := by decide +kernel
theorem dX5_trade_4 : decode cX5_trade 4 = .ok (.ifCond .eq 10, 3) := by decide +kernel
theorem dX5_trade_7 : decode cX5_trade 7 = .ok (.iload_n 2, 1) := by decide +kernel
theorem dX5_trade_8 : decode cX5_trade 8 = .ok (.invokestatic 94, 3) := by decide +kernel
theorem dX5_trade_11 : decode cX5_trade 11 = .ok (.ifCond .ne 5, 3) := by decide +kernel
theorem dX5_trade_14 : decode cX5_trade 14 = .ok (.iconst (-1), 1) := by decide +kernel
theorem dX5_trade_15 : decode cX5_trade 15 = .ok (.ireturn, 1) := by decide +kernel
theorem dX5_trade_16 : decode cX5_trade 16 = .ok (.aload_n 0, 1) := by decide +kernel
theorem dX5_trade_17 : decode cX5_trade 17 = .ok (.getfield 7, 3) := by decide +kernel
theorem dX5_trade_20 : decode cX5_trade 20 = .ok (.iconst 5, 1) := by decide +kernel
theorem dX5_trade_21 : decode cX5_trade 21 = .ok (.iload_n 1, 1) := by decide +kernel
theorem dX5_trade_22 : decode cX5_trade 22 = .ok (.iadd, 1) := by decide +kernel
theorem dX5_trade_23 : decode cX5_trade 23 = .ok (.iaload, 1) := by decide +kernel
theorem dX5_trade_24 : decode cX5_trade 24 = .ok (.aload_n 0, 1) := by decide +kernel
theorem dX5_trade_25 : decode cX5_trade 25 = .ok (.getfield 7, 3) := by decide +kernel
theorem dX5_trade_28 : decode cX5_trade 28 = .ok (.iconst 5, 1) := by decide +kernel
theorem dX5_trade_29 : decode cX5_trade 29 = .ok (.iload_n 2, 1) := by decide +kernel
theorem dX5_trade_30 : decode cX5_trade 30 = .ok (.iadd, 1) := by decide +kernel
theorem dX5_trade_31 : decode cX5_trade 31 = .ok (.iaload, 1) := by decide +kernel
theorem dX5_trade_32 : decode cX5_trade 32 = .ok (.if_icmp .ne 6, 3) := by decide +kernel
theorem dX5_trade_35 : decode cX5_trade 35 = .ok (.bipush (-5), 2) := by decide +kernel
theorem dX5_trade_37 : decode cX5_trade 37 = .ok (.ireturn, 1) := by decide +kernel
theorem dX5_trade_38 : decode cX5_trade 38 = .ok (.aload_n 0, 1) := by decide +kernel
theorem dX5_trade_39 : decode cX5_trade 39 = .ok (.invokevirtual 88, 3) := by decide +kernel
theorem dX5_trade_42 : decode cX5_trade 42 = .ok (.aload_n 0, 1) := by decide +kernel
theorem dX5_trade_43 : decode cX5_trade 43 = .ok (.iload_n 1, 1) := by decide +kernel
theorem dX5_trade_44 : decode cX5_trade 44 = .ok (.iload_n 2, 1) := by decide +kernel
theorem dX5_trade_45 : decode cX5_trade 45 = .ok (.invokevirtual 97, 3) := by decide +kernel
theorem dX5_trade_48 : decode cX5_trade 48 = .ok (.aload_n 0, 1) := by decide +kernel
theorem dX5_trade_49 : decode cX5_trade 49 = .ok (.getfield 7, 3) := by decide +kernel
theorem dX5_trade_52 : decode cX5_trade 52 = .ok (.iconst 5, 1) := by decide +kernel
theorem dX5_trade_53 : decode cX5_trade 53 = .ok (.iload_n 1, 1) := by decide +kernel
theorem dX5_trade_54 : decode cX5_trade 54 = .ok (.iadd, 1) := by decide +kernel
theorem dX5_trade_55 : decode cX5_trade 55 = .ok (.iaload, 1) := by decide +kernel
theorem dX5_trade_56 : decode cX5_trade 56 = .ok (.ireturn, 1) := by decide +kernel
theorem dX5_burn_0 : decode cX5_burn 0 = .ok (.aload_n 0, 1) := by decide +kernel
theorem dX5_burn_1 : decode cX5_burn 1 = .ok (.iload_n 1, 1) := by decide +kernel
theorem dX5_burn_2 : decode cX5_burn 2 = .ok (.invokevirtual 100, 3) := by decide +kernel
theorem dX5_burn_5 : decode cX5_burn 5 = .ok (.ifCond .ne 5, 3) := by decide +kernel
theorem dX5_burn_8 : decode cX5_burn 8 = .ok (.iconst (-1), 1) := by decide +kernel
theorem dX5_burn_9 : decode cX5_burn 9 = .ok (.ireturn, 1) := by decide +kernel
theorem dX5_burn_10 : decode cX5_burn 10 = .ok (.aload_n 0, 1) := by decide +kernel
theorem dX5_burn_11 : decode cX5_burn 11 = .ok (.iload_n 1, 1) := by decide +kernel
theorem dX5_burn_12 : decode cX5_burn 12 = .ok (.iconst 2, 1) := by decide +kernel
theorem dX5_burn_13 : decode cX5_burn 13 = .ok (.invokevirtual 50, 3) := by decide +kernel
theorem dX5_burn_16 : decode cX5_burn 16 = .ok (.ifCond .eq 6, 3) := by decide +kernel
theorem dX5_burn_19 : decode cX5_burn 19 = .ok (.bipush (-5), 2) := by decide +kernel
theorem dX5_burn_21 : decode cX5_burn 21 = .ok (.ireturn, 1) := by decide +kernel
theorem dX5_burn_22 : decode cX5_burn 22 = .ok (.aload_n 0, 1) := by decide +kernel
theorem dX5_burn_23 : decode cX5_burn 23 = .ok (.invokevirtual 88, 3) := by decide +kernel
theorem dX5_burn_26 : decode cX5_burn 26 = .ok (.aload_n 0, 1) := by decide +kernel
theorem dX5_burn_27 : decode cX5_burn 27 = .ok (.iload_n 1, 1) := by decide +kernel
theorem dX5_burn_28 : decode cX5_burn 28 = .ok (.iconst 1, 1) := by decide +kernel
theorem dX5_burn_29 : decode cX5_burn 29 = .ok (.invokevirtual 50, 3) := by decide +kernel
theorem dX5_burn_32 : decode cX5_burn 32 = .ok (.istore_n 2, 1) := by decide +kernel
theorem dX5_burn_33 : decode cX5_burn 33 = .ok (.aload_n 0, 1) := by decide +kernel
theorem dX5_burn_34 : decode cX5_burn 34 = .ok (.iload_n 1, 1) := by decide +kernel
theorem dX5_burn_35 : decode cX5_burn 35 = .ok (.invokevirtual 103, 3) := by decide +kernel
theorem dX5_burn_38 : decode cX5_burn 38 = .ok (.istore_n 3, 1) := by decide +kernel
theorem dX5_burn_39 : decode cX5_burn 39 = .ok (.aload_n 0, 1) := by decide +kernel
theorem dX5_burn_40 : decode cX5_burn 40 = .ok (.getfield 7, 3) := by decide +kernel
theorem dX5_burn_43 : decode cX5_burn 43 = .ok (.iload_n 1, 1) := by decide +kernel
theorem dX5_burn_44 : decode cX5_burn 44 = .ok (.iconst 2, 1) := by decide +kernel
theorem dX5_burn_45 : decode cX5_burn 45 = .ok (.invokestatic 42, 3) := by decide +kernel
theorem dX5_burn_48 : decode cX5_burn 48 = .ok (.iconst 2, 1) := by decide +kernel
theorem dX5_burn_49 : decode cX5_burn 49 = .ok (.iastore, 1) := by decide +kernel
theorem dX5_burn_50 : decode cX5_burn 50 = .ok (.aload_n 0, 1) := by decide +kernel
theorem dX5_burn_51 : decode cX5_burn 51 = .ok (.getfield 7, 3) := by decide +kernel
theorem dX5_burn_54 : decode cX5_burn 54 = .ok (.bipush 29, 2) := by decide +kernel
theorem dX5_burn_56 : decode cX5_burn 56 = .ok (.iload_n 2, 1) := by decide +kernel
theorem dX5_burn_57 : decode cX5_burn 57 = .ok (.iadd, 1) := by decide +kernel
theorem dX5_burn_58 : decode cX5_burn 58 = .ok (.dup2, 1) := by decide +kernel
theorem dX5_burn_59 : decode cX5_burn 59 = .ok (.iaload, 1) := by decide +kernel
theorem dX5_burn_60 : decode cX5_burn 60 = .ok (.iconst 1, 1) := by decide +kernel
theorem dX5_burn_61 : decode cX5_burn 61 = .ok (.isub, 1) := by decide +kernel
theorem dX5_burn_62 : decode cX5_burn 62 = .ok (.iastore, 1) := by decide +kernel
theorem dX5_burn_63 : decode cX5_burn 63 = .ok (.iload_n 3, 1) := by decide +kernel
theorem dX5_burn_64 : decode cX5_burn 64 = .ok (.istore 4, 2) := by decide +kernel
theorem dX5_burn_66 : decode cX5_burn 66 = .ok (.iload 4, 2) := by decide +kernel
theorem dX5_burn_68 : decode cX5_burn 68 = .ok (.aload_n 0, 1) := by decide +kernel
theorem dX5_burn_69 : decode cX5_burn 69 = .ok (.getfield 7, 3) := by decide +kernel
theorem dX5_burn_72 : decode cX5_burn 72 = .ok (.bipush 29, 2) := by decide +kernel
theorem dX5_burn_74 : decode cX5_burn 74 = .ok (.iload_n 2, 1) := by decide +kernel
theorem dX5_burn_75 : decode cX5_burn 75 = .ok (.iadd, 1) := by decide +kernel
theorem dX5_burn_76 : decode cX5_burn 76 = .ok (.iaload, 1) := by decide +kernel
theorem dX5_burn_77 : decode cX5_burn 77 = .ok (.if_icmp .ge 33, 3) := by decide +kernel
theorem dX5_burn_80 : decode cX5_burn 80 = .ok (.aload_n 0, 1) := by decide +kernel
theorem dX5_burn_81 : decode cX5_burn 81 = .ok (.getfield 7, 3) := by decide +kernel
theorem dX5_burn_84 : decode cX5_burn 84 = .ok (.iload_n 2, 1) := by decide +kernel
theorem dX5_burn_85 : decode cX5_burn 85 = .ok (.iload 4, 2) := by decide +kernel
theorem dX5_burn_87 : decode cX5_burn 87 = .ok (.invokestatic 69, 3) := by decide +kernel
theorem dX5_burn_90 : decode cX5_burn 90 = .ok (.aload_n 0, 1) := by decide +kernel
theorem dX5_burn_91 : decode cX5_burn 91 = .ok (.getfield 7, 3) := by decide +kernel
theorem dX5_burn_94 : decode cX5_burn 94 = .ok (.iload_n 2, 1) := by decide +kernel
theorem dX5_burn_95 : decode cX5_burn 95 = .ok (.iload 4, 2) := by decide +kernel
theorem dX5_burn_97 : decode cX5_burn 97 = .ok (.iconst 1, 1) := by decide +kernel
theorem dX5_burn_98 : decode cX5_burn 98 = .ok (.iadd, 1) := by decide +kernel
theorem dX5_burn_99 : decode cX5_burn 99 = .ok (.invokestatic 69, 3) := by decide +kernel
theorem dX5_burn_102 : decode cX5_burn 102 = .ok (.iaload, 1) := by decide +kernel
theorem dX5_burn_103 : decode cX5_burn 103 = .ok (.iastore, 1) := by decide +kernel
theorem dX5_burn_104 : decode cX5_burn 104 = .ok (.iinc 4 1, 3) := by decide +kernel
theorem dX5_burn_107 : decode cX5_burn 107 = .ok (.goto (-41), 3) := by decide +kernel
theorem dX5_burn_110 : decode cX5_burn 110 = .ok (.aload_n 0, 1) := by decide +kernel
theorem dX5_burn_111 : decode cX5_burn 111 = .ok (.getfield 7, 3) := by decide +kernel
theorem dX5_burn_114 : decode cX5_burn 114 = .ok (.iload_n 2, 1) := by decide +kernel
theorem dX5_burn_115 : decode cX5_burn 115 = .ok (.aload_n 0, 1) := by decide +kernel
theorem dX5_burn_116 : decode cX5_burn 116 = .ok (.getfield 7, 3) := by decide +kernel
theorem dX5_burn_119 : decode cX5_burn 119 = .ok (.bipush 29, 2) := by decide +kernel
theorem dX5_burn_121 : decode cX5_burn 121 = .ok (.iload_n 2, 1) := by decide +kernel
theorem dX5_burn_122 : decode cX5_burn 122 = .ok (.iadd, 1) := by decide +kernel
theorem dX5_burn_123 : decode cX5_burn 123 = .ok (.iaload, 1) := by decide +kernel
theorem dX5_burn_124 : decode cX5_burn 124 = .ok (.invokestatic 69, 3) := by decide +kernel
theorem dX5_burn_127 : decode cX5_burn 127 = .ok (.iconst 0, 1) := by decide +kernel
theorem dX5_burn_128 : decode cX5_burn 128 = .ok (.iastore, 1) := by decide +kernel
theorem dX5_burn_129 : decode cX5_burn 129 = .ok (.aload_n 0, 1) := by decide +kernel
theorem dX5_burn_130 : decode cX5_burn 130 = .ok (.getfield 7, 3) := by decide +kernel
theorem dX5_burn_133 : decode cX5_burn 133 = .ok (.iconst 3, 1) := by decide +kernel
theorem dX5_burn_134 : decode cX5_burn 134 = .ok (.iaload, 1) := by decide +kernel
theorem dX5_burn_135 : decode cX5_burn 135 = .ok (.aload_n 0, 1) := by decide +kernel
theorem dX5_burn_136 : decode cX5_burn 136 = .ok (.iload_n 1, 1) := by decide +kernel
theorem dX5_burn_137 : decode cX5_burn 137 = .ok (.iconst 3, 1) := by decide +kernel
theorem dX5_burn_138 : decode cX5_burn 138 = .ok (.invokevirtual 50, 3) := by decide +kernel
theorem dX5_burn_141 : decode cX5_burn 141 = .ok (.isub, 1) := by decide +kernel
theorem dX5_burn_142 : decode cX5_burn 142 = .ok (.ireturn, 1) := by decide +kernel
theorem dX5_pass_0 : decode cX5_pass 0 = .ok (.iload_n 1, 1) := by decide +kernel
theorem dX5_pass_1 : decode cX5_pass 1 = .ok (.iconst 1, 1) := by decide +kernel
theorem dX5_pass_2 : decode cX5_pass 2 = .ok (.bipush 52, 2) := by decide +kernel
theorem dX5_pass_4 : decode cX5_pass 4 = .ok (.invokestatic 38, 3) := by decide +kernel
theorem dX5_pass_7 : decode cX5_pass 7 = .ok (.ifCond .ne 6, 3) := by decide +kernel
theorem dX5_pass_10 : decode cX5_pass 10 = .ok (.bipush (-2), 2) := by decide +kernel
theorem dX5_pass_12 : decode cX5_pass 12 = .ok (.ireturn, 1) := by decide +kernel
theorem dX5_pass_13 : decode cX5_pass 13 = .ok (.aload_n 0, 1) := by decide +kernel
theorem dX5_pass_14 : decode cX5_pass 14 = .ok (.getfield 7, 3) := by decide +kernel
theorem dX5_pass_17 : decode cX5_pass 17 = .ok (.iconst 3, 1) := by decide +kernel
theorem dX5_pass_18 : decode cX5_pass 18 = .ok (.iaload, 1) := by decide +kernel
theorem dX5_pass_19 : decode cX5_pass 19 = .ok (.iload_n 1, 1) := by decide +kernel
theorem dX5_pass_20 : decode cX5_pass 20 = .ok (.iadd, 1) := by decide +kernel
theorem dX5_pass_21 : decode cX5_pass 21 = .ok (.sipush 9999, 3) := by decide +kernel
theorem dX5_pass_24 : decode cX5_pass 24 = .ok (.if_icmp .le 6, 3) := by decide +kernel
theorem dX5_pass_27 : decode cX5_pass 27 = .ok (.bipush (-4), 2) := by decide +kernel
theorem dX5_pass_29 : decode cX5_pass 29 = .ok (.ireturn, 1) := by decide +kernel
theorem dX5_pass_30 : decode cX5_pass 30 = .ok (.aload_n 0, 1) := by decide +kernel
theorem dX5_pass_31 : decode cX5_pass 31 = .ok (.invokevirtual 88, 3) := by decide +kernel
theorem dX5_pass_34 : decode cX5_pass 34 = .ok (.aload_n 0, 1) := by decide +kernel
theorem dX5_pass_35 : decode cX5_pass 35 = .ok (.iload_n 1, 1) := by decide +kernel
theorem dX5_pass_36 : decode cX5_pass 36 = .ok (.invokevirtual 106, 3) := by decide +kernel
theorem dX5_pass_39 : decode cX5_pass 39 = .ok (.ireturn, 1) := by decide +kernel
theorem dX5_placeOf_0 : decode cX5_placeOf 0 = .ok (.aload_n 0, 1) := by decide +kernel
theorem dX5_placeOf_1 : decode cX5_placeOf 1 = .ok (.iload_n 1, 1) := by decide +kernel
theorem dX5_placeOf_2 : decode cX5_placeOf 2 = .ok (.iconst 1, 1) := by decide +kernel
theorem dX5_placeOf_3 : decode cX5_placeOf 3 = .ok (.invokevirtual 50, 3) := by decide +kernel
theorem dX5_placeOf_6 : decode cX5_placeOf 6 = .ok (.istore_n 2, 1) := by decide +kernel
theorem dX5_placeOf_7 : decode cX5_placeOf 7 = .ok (.bipush (-6), 2) := by decide +kernel
theorem dX5_placeOf_9 : decode cX5_placeOf 9 = .ok (.istore_n 3, 1) := by decide +kernel
theorem dX5_placeOf_10 : decode cX5_placeOf 10 = .ok (.iconst 0, 1) := by decide +kernel
theorem dX5_placeOf_11 : decode cX5_placeOf 11 = .ok (.istore 4, 2) := by decide +kernel
theorem dX5_placeOf_13 : decode cX5_placeOf 13 = .ok (.iload 4, 2) := by decide +kernel
theorem dX5_placeOf_15 : decode cX5_placeOf 15 = .ok (.aload_n 0, 1) := by decide +kernel
theorem dX5_placeOf_16 : decode cX5_placeOf 16 = .ok (.getfield 7, 3) := by decide +kernel
theorem dX5_placeOf_19 : decode cX5_placeOf 19 = .ok (.bipush 29, 2) := by decide +kernel
theorem dX5_placeOf_21 : decode cX5_placeOf 21 = .ok (.iload_n 2, 1) := by decide +kernel
theorem dX5_placeOf_22 : decode cX5_placeOf 22 = .ok (.iadd, 1) := by decide +kernel
theorem dX5_placeOf_23 : decode cX5_placeOf 23 = .ok (.iaload, 1) := by decide +kernel
theorem dX5_placeOf_24 : decode cX5_placeOf 24 = .ok (.if_icmp .ge 40, 3) := by decide +kernel
theorem dX5_placeOf_27 : decode cX5_placeOf 27 = .ok (.aload_n 0, 1) := by decide +kernel
theorem dX5_placeOf_28 : decode cX5_placeOf 28 = .ok (.iload_n 1, 1) := by decide +kernel
theorem dX5_placeOf_29 : decode cX5_placeOf 29 = .ok (.iconst 2, 1) := by decide +kernel
theorem dX5_placeOf_30 : decode cX5_placeOf 30 = .ok (.invokevirtual 50, 3) := by decide +kernel
theorem dX5_placeOf_33 : decode cX5_placeOf 33 = .ok (.ifCond .ne 31, 3) := by decide +kernel
theorem dX5_placeOf_36 : decode cX5_placeOf 36 = .ok (.aload_n 0, 1) := by decide +kernel
theorem dX5_placeOf_37 : decode cX5_placeOf 37 = .ok (.getfield 7, 3) := by decide +kernel
theorem dX5_placeOf_40 : decode cX5_placeOf 40 = .ok (.iload_n 2, 1) := by decide +kernel
theorem dX5_placeOf_41 : decode cX5_placeOf 41 = .ok (.iload 4, 2) := by decide +kernel
theorem dX5_placeOf_43 : decode cX5_placeOf 43 = .ok (.invokestatic 69, 3) := by decide +kernel
theorem dX5_placeOf_46 : decode cX5_placeOf 46 = .ok (.iaload, 1) := by decide +kernel
theorem dX5_placeOf_47 : decode cX5_placeOf 47 = .ok (.iload_n 1, 1) := by decide +kernel
theorem dX5_placeOf_48 : decode cX5_placeOf 48 = .ok (.if_icmp .ne 8, 3) := by decide +kernel
theorem dX5_placeOf_51 : decode cX5_placeOf 51 = .ok (.iload 4, 2) := by decide +kernel
theorem dX5_placeOf_53 : decode cX5_placeOf 53 = .ok (.goto 4, 3) := by decide +kernel
theorem dX5_placeOf_56 : decode cX5_placeOf 56 = .ok (.iload_n 3, 1) := by decide +kernel
theorem dX5_placeOf_57 : decode cX5_placeOf 57 = .ok (.istore_n 3, 1) := by decide +kernel
theorem dX5_placeOf_58 : decode cX5_placeOf 58 = .ok (.iinc 4 1, 3) := by decide +kernel
theorem dX5_placeOf_61 : decode cX5_placeOf 61 = .ok (.goto (-48), 3) := by decide +kernel
theorem dX5_placeOf_64 : decode cX5_placeOf 64 = .ok (.iload_n 3, 1) := by decide +kernel
theorem dX5_placeOf_65 : decode cX5_placeOf 65 = .ok (.ireturn, 1) := by decide +kernel
theorem dX5_aheadOf_0 : decode cX5_aheadOf 0 = .ok (.bipush (-6), 2) := by decide +kernel
theorem dX5_aheadOf_2 : decode cX5_aheadOf 2 = .ok (.istore_n 2, 1) := by decide +kernel
theorem dX5_aheadOf_3 : decode cX5_aheadOf 3 = .ok (.iconst 0, 1) := by decide +kernel
theorem dX5_aheadOf_4 : decode cX5_aheadOf 4 = .ok (.istore_n 3, 1) := by decide +kernel
theorem dX5_aheadOf_5 : decode cX5_aheadOf 5 = .ok (.iload_n 3, 1) := by decide +kernel
theorem dX5_aheadOf_6 : decode cX5_aheadOf 6 = .ok (.iload_n 1, 1) := by decide +kernel
theorem dX5_aheadOf_7 : decode cX5_aheadOf 7 = .ok (.if_icmp .ge 30, 3) := by decide +kernel
theorem dX5_aheadOf_10 : decode cX5_aheadOf 10 = .ok (.aload_n 0, 1) := by decide +kernel
theorem dX5_aheadOf_11 : decode cX5_aheadOf 11 = .ok (.iload_n 3, 1) := by decide +kernel
theorem dX5_aheadOf_12 : decode cX5_aheadOf 12 = .ok (.iconst 0, 1) := by decide +kernel
theorem dX5_aheadOf_13 : decode cX5_aheadOf 13 = .ok (.invokevirtual 50, 3) := by decide +kernel
theorem dX5_aheadOf_16 : decode cX5_aheadOf 16 = .ok (.aload_n 0, 1) := by decide +kernel
theorem dX5_aheadOf_17 : decode cX5_aheadOf 17 = .ok (.iload_n 1, 1) := by decide +kernel
theorem dX5_aheadOf_18 : decode cX5_aheadOf 18 = .ok (.iconst 0, 1) := by decide +kernel
theorem dX5_aheadOf_19 : decode cX5_aheadOf 19 = .ok (.invokevirtual 50, 3) := by decide +kernel
theorem dX5_aheadOf_22 : decode cX5_aheadOf 22 = .ok (.if_icmp .ne 7, 3) := by decide +kernel
theorem dX5_aheadOf_25 : decode cX5_aheadOf 25 = .ok (.iload_n 3, 1) := by decide +kernel
theorem dX5_aheadOf_26 : decode cX5_aheadOf 26 = .ok (.goto 4, 3) := by decide +kernel
theorem dX5_aheadOf_29 : decode cX5_aheadOf 29 = .ok (.iload_n 2, 1) := by decide +kernel
theorem dX5_aheadOf_30 : decode cX5_aheadOf 30 = .ok (.istore_n 2, 1) := by decide +kernel
theorem dX5_aheadOf_31 : decode cX5_aheadOf 31 = .ok (.iinc 3 1, 3) := by decide +kernel
theorem dX5_aheadOf_34 : decode cX5_aheadOf 34 = .ok (.goto (-29), 3) := by decide +kernel
theorem dX5_aheadOf_37 : decode cX5_aheadOf 37 = .ok (.iload_n 2, 1) := by decide +kernel
theorem dX5_aheadOf_38 : decode cX5_aheadOf 38 = .ok (.ireturn, 1) := by decide +kernel
theorem dX5_letter_0 : decode cX5_letter 0 = .ok (.aload_n 0, 1) := by decide +kernel
theorem dX5_letter_1 : decode cX5_letter 1 = .ok (.iload_n 1, 1) := by decide +kernel
theorem dX5_letter_2 : decode cX5_letter 2 = .ok (.invokevirtual 100, 3) := by decide +kernel
theorem dX5_letter_5 : decode cX5_letter 5 = .ok (.ifCond .ne 5, 3) := by decide +kernel
theorem dX5_letter_8 : decode cX5_letter 8 = .ok (.iconst (-1), 1) := by decide +kernel
theorem dX5_letter_9 : decode cX5_letter 9 = .ok (.ireturn, 1) := by decide +kernel
theorem dX5_letter_10 : decode cX5_letter 10 = .ok (.iload_n 2, 1) := by decide +kernel
theorem dX5_letter_11 : decode cX5_letter 11 = .ok (.tableswitch 112 0 10 #[57, 57, 57, 64, 70, 70, 79, 89, 89, 98, 104], 57) := by decide +kernel
theorem dX5_letter_68 : decode cX5_letter 68 = .ok (.aload_n 0, 1) := by decide +kernel
theorem dX5_letter_69 : decode cX5_letter 69 = .ok (.iload_n 1, 1) := by decide +kernel
theorem dX5_letter_70 : decode cX5_letter 70 = .ok (.iload_n 2, 1) := by decide +kernel
theorem dX5_letter_71 : decode cX5_letter 71 = .ok (.invokevirtual 50, 3) := by decide +kernel
theorem dX5_letter_74 : decode cX5_letter 74 = .ok (.ireturn, 1) := by decide +kernel
theorem dX5_letter_75 : decode cX5_letter 75 = .ok (.aload_n 0, 1) := by decide +kernel
theorem dX5_letter_76 : decode cX5_letter 76 = .ok (.iload_n 1, 1) := by decide +kernel
theorem dX5_letter_77 : decode cX5_letter 77 = .ok (.invokevirtual 103, 3) := by decide +kernel
theorem dX5_letter_80 : decode cX5_letter 80 = .ok (.ireturn, 1) := by decide +kernel
theorem dX5_letter_81 : decode cX5_letter 81 = .ok (.aload_n 0, 1) := by decide +kernel
theorem dX5_letter_82 : decode cX5_letter 82 = .ok (.iload_n 1, 1) := by decide +kernel
theorem dX5_letter_83 : decode cX5_letter 83 = .ok (.iload_n 2, 1) := by decide +kernel
theorem dX5_letter_84 : decode cX5_letter 84 = .ok (.iconst 1, 1) := by decide +kernel
theorem dX5_letter_85 : decode cX5_letter 85 = .ok (.isub, 1) := by decide +kernel
theorem dX5_letter_86 : decode cX5_letter 86 = .ok (.invokevirtual 50, 3) := by decide +kernel
theorem dX5_letter_89 : decode cX5_letter 89 = .ok (.ireturn, 1) := by decide +kernel
theorem dX5_letter_90 : decode cX5_letter 90 = .ok (.aload_n 0, 1) := by decide +kernel
theorem dX5_letter_91 : decode cX5_letter 91 = .ok (.iload_n 1, 1) := by decide +kernel
theorem dX5_letter_92 : decode cX5_letter 92 = .ok (.iconst 5, 1) := by decide +kernel
theorem dX5_letter_93 : decode cX5_letter 93 = .ok (.invokevirtual 50, 3) := by decide +kernel
theorem dX5_letter_96 : decode cX5_letter 96 = .ok (.invokestatic 62, 3) := by decide +kernel
theorem dX5_letter_99 : decode cX5_letter 99 = .ok (.ireturn, 1) := by decide +kernel
theorem dX5_letter_100 : decode cX5_letter 100 = .ok (.aload_n 0, 1) := by decide +kernel
theorem dX5_letter_101 : decode cX5_letter 101 = .ok (.iload_n 1, 1) := by decide +kernel
theorem dX5_letter_102 : decode cX5_letter 102 = .ok (.iload_n 2, 1) := by decide +kernel
theorem dX5_letter_103 : decode cX5_letter 103 = .ok (.iconst 1, 1) := by decide +kernel
theorem dX5_letter_104 : decode cX5_letter 104 = .ok (.isub, 1) := by decide +kernel
theorem dX5_letter_105 : decode cX5_letter 105 = .ok (.invokevirtual 50, 3) := by decide +kernel
theorem dX5_letter_108 : decode cX5_letter 108 = .ok (.ireturn, 1) := by decide +kernel
theorem dX5_letter_109 : decode cX5_letter 109 = .ok (.aload_n 0, 1) := by decide +kernel
theorem dX5_letter_110 : decode cX5_letter 110 = .ok (.iload_n 1, 1) := by decide +kernel
theorem dX5_letter_111 : decode cX5_letter 111 = .ok (.invokevirtual 109, 3) := by decide +kernel
theorem dX5_letter_114 : decode cX5_letter 114 = .ok (.ireturn, 1) := by decide +kernel
theorem dX5_letter_115 : decode cX5_letter 115 = .ok (.aload_n 0, 1) := by decide +kernel
theorem dX5_letter_116 : decode cX5_letter 116 = .ok (.iload_n 1, 1) := by decide +kernel
theorem dX5_letter_117 : decode cX5_letter 117 = .ok (.bipush 8, 2) := by decide +kernel
theorem dX5_letter_119 : decode cX5_letter 119 = .ok (.invokevirtual 50, 3) := by decide +kernel
theorem dX5_letter_122 : decode cX5_letter 122 = .ok (.ireturn, 1) := by decide +kernel
theorem dX5_letter_123 : decode cX5_letter 123 = .ok (.bipush (-2), 2) := by decide +kernel
theorem dX5_letter_125 : decode cX5_letter 125 = .ok (.ireturn, 1) := by decide +kernel
theorem dX5_word_0 : decode cX5_word 0 = .ok (.aload_n 0, 1) := by decide +kernel
theorem dX5_word_1 : decode cX5_word 1 = .ok (.iload_n 1, 1) := by decide +kernel
theorem dX5_word_2 : decode cX5_word 2 = .ok (.invokevirtual 100, 3) := by decide +kernel
theorem dX5_word_5 : decode cX5_word 5 = .ok (.ifCond .eq 20, 3) := by decide +kernel
theorem dX5_word_8 : decode cX5_word 8 = .ok (.iload_n 2, 1) := by decide +kernel
theorem dX5_word_9 : decode cX5_word 9 = .ok (.iconst 0, 1) := by decide +kernel
theorem dX5_word_10 : decode cX5_word 10 = .ok (.aload_n 0, 1) := by decide +kernel
theorem dX5_word_11 : decode cX5_word 11 = .ok (.iload_n 1, 1) := by decide +kernel
theorem dX5_word_12 : decode cX5_word 12 = .ok (.bipush 8, 2) := by decide +kernel
theorem dX5_word_14 : decode cX5_word 14 = .ok (.invokevirtual 50, 3) := by decide +kernel
theorem dX5_word_17 : decode cX5_word 17 = .ok (.iconst 1, 1) := by decide +kernel
theorem dX5_word_18 : decode cX5_word 18 = .ok (.isub, 1) := by decide +kernel
theorem dX5_word_19 : decode cX5_word 19 = .ok (.invokestatic 38, 3) := by decide +kernel
theorem dX5_word_22 : decode cX5_word 22 = .ok (.ifCond .ne 5, 3) := by decide +kernel
theorem dX5_word_25 : decode cX5_word 25 = .ok (.iconst (-1), 1) := by decide +kernel
theorem dX5_word_26 : decode cX5_word 26 = .ok (.ireturn, 1) := by decide +kernel
theorem dX5_word_27 : decode cX5_word 27 = .ok (.aload_n 0, 1) := by decide +kernel
theorem dX5_word_28 : decode cX5_word 28 = .ok (.iload_n 1, 1) := by decide +kernel
theorem dX5_word_29 : decode cX5_word 29 = .ok (.iconst 5, 1) := by decide +kernel
theorem dX5_word_30 : decode cX5_word 30 = .ok (.invokevirtual 50, 3) := by decide +kernel
theorem dX5_word_33 : decode cX5_word 33 = .ok (.iload_n 2, 1) := by decide +kernel
theorem dX5_word_34 : decode cX5_word 34 = .ok (.ishr, 1) := by decide +kernel
theorem dX5_word_35 : decode cX5_word 35 = .ok (.iconst 1, 1) := by decide +kernel
theorem dX5_word_36 : decode cX5_word 36 = .ok (.iand, 1) := by decide +kernel
theorem dX5_word_37 : decode cX5_word 37 = .ok (.iconst 1, 1) := by decide +kernel
theorem dX5_word_38 : decode cX5_word 38 = .ok (.if_icmp .ne 8, 3) := by decide +kernel
theorem dX5_word_41 : decode cX5_word 41 = .ok (.bipush 42, 2) := by decide +kernel
theorem dX5_word_43 : decode cX5_word 43 = .ok (.goto 12, 3) := by decide +kernel
theorem dX5_word_46 : decode cX5_word 46 = .ok (.bipush 97, 2) := by decide +kernel
theorem dX5_word_48 : decode cX5_word 48 = .ok (.aload_n 0, 1) := by decide +kernel
theorem dX5_word_49 : decode cX5_word 49 = .ok (.iload_n 1, 1) := by decide +kernel
theorem dX5_word_50 : decode cX5_word 50 = .ok (.iload_n 2, 1) := by decide +kernel
theorem dX5_word_51 : decode cX5_word 51 = .ok (.invokevirtual 56, 3) := by decide +kernel
theorem dX5_word_54 : decode cX5_word 54 = .ok (.iadd, 1) := by decide +kernel
theorem dX5_word_55 : decode cX5_word 55 = .ok (.ireturn, 1) := by decide +kernel
theorem dX5_why_0 : decode cX5_why 0 = .ok (.aload_n 0, 1) := by decide +kernel
theorem dX5_why_1 : decode cX5_why 1 = .ok (.iload_n 1, 1) := by decide +kernel
theorem dX5_why_2 : decode cX5_why 2 = .ok (.invokevirtual 100, 3) := by decide +kernel
theorem dX5_why_5 : decode cX5_why 5 = .ok (.ifCond .ne 5, 3) := by decide +kernel
theorem dX5_why_8 : decode cX5_why 8 = .ok (.iconst (-1), 1) := by decide +kernel
theorem dX5_why_9 : decode cX5_why 9 = .ok (.ireturn, 1) := by decide +kernel
theorem dX5_why_10 : decode cX5_why 10 = .ok (.aload_n 0, 1) := by decide +kernel
theorem dX5_why_11 : decode cX5_why 11 = .ok (.iload_n 1, 1) := by decide +kernel
theorem dX5_why_12 : decode cX5_why 12 = .ok (.iconst 2, 1) := by decide +kernel
theorem dX5_why_13 : decode cX5_why 13 = .ok (.invokevirtual 50, 3) := by decide +kernel
theorem dX5_why_16 : decode cX5_why 16 = .ok (.ifCond .eq 5, 3) := by decide +kernel
theorem dX5_why_19 : decode cX5_why 19 = .ok (.iconst 1, 1) := by decide +kernel
theorem dX5_why_20 : decode cX5_why 20 = .ok (.ireturn, 1) := by decide +kernel
theorem dX5_why_21 : decode cX5_why 21 = .ok (.aload_n 0, 1) := by decide +kernel
theorem dX5_why_22 : decode cX5_why 22 = .ok (.invokevirtual 112, 3) := by decide +kernel
theorem dX5_why_25 : decode cX5_why 25 = .ok (.aload_n 0, 1) := by decide +kernel
theorem dX5_why_26 : decode cX5_why 26 = .ok (.invokevirtual 84, 3) := by decide +kernel
theorem dX5_why_29 : decode cX5_why 29 = .ok (.istore_n 2, 1) := by decide +kernel
theorem dX5_why_30 : decode cX5_why 30 = .ok (.aload_n 0, 1) := by decide +kernel
theorem dX5_why_31 : decode cX5_why 31 = .ok (.iload_n 1, 1) := by decide +kernel
theorem dX5_why_32 : decode cX5_why 32 = .ok (.iconst 2, 1) := by decide +kernel
theorem dX5_why_33 : decode cX5_why 33 = .ok (.invokevirtual 50, 3) := by decide +kernel
theorem dX5_why_36 : decode cX5_why 36 = .ok (.istore_n 3, 1) := by decide +kernel
theorem dX5_why_37 : decode cX5_why 37 = .ok (.iload_n 3, 1) := by decide +kernel
theorem dX5_why_38 : decode cX5_why 38 = .ok (.iconst 1, 1) := by decide +kernel
theorem dX5_why_39 : decode cX5_why 39 = .ok (.if_icmp .ne 7, 3) := by decide +kernel
theorem dX5_why_42 : decode cX5_why 42 = .ok (.iconst 0, 1) := by decide +kernel
theorem dX5_why_43 : decode cX5_why 43 = .ok (.goto 37, 3) := by decide +kernel
theorem dX5_why_46 : decode cX5_why 46 = .ok (.aload_n 0, 1) := by decide +kernel
theorem dX5_why_47 : decode cX5_why 47 = .ok (.iload_n 1, 1) := by decide +kernel
theorem dX5_why_48 : decode cX5_why 48 = .ok (.invokevirtual 72, 3) := by decide +kernel
theorem dX5_why_51 : decode cX5_why 51 = .ok (.ifCond .eq 7, 3) := by decide +kernel
theorem dX5_why_54 : decode cX5_why 54 = .ok (.iconst 2, 1) := by decide +kernel
theorem dX5_why_55 : decode cX5_why 55 = .ok (.goto 25, 3) := by decide +kernel
theorem dX5_why_58 : decode cX5_why 58 = .ok (.aload_n 0, 1) := by decide +kernel
theorem dX5_why_59 : decode cX5_why 59 = .ok (.getfield 32, 3) := by decide +kernel
theorem dX5_why_62 : decode cX5_why 62 = .ok (.iload_n 1, 1) := by decide +kernel
theorem dX5_why_63 : decode cX5_why 63 = .ok (.baload, 1) := by decide +kernel
theorem dX5_why_64 : decode cX5_why 64 = .ok (.ifCond .ne 7, 3) := by decide +kernel
theorem dX5_why_67 : decode cX5_why 67 = .ok (.iconst 3, 1) := by decide +kernel
theorem dX5_why_68 : decode cX5_why 68 = .ok (.goto 12, 3) := by decide +kernel
theorem dX5_why_71 : decode cX5_why 71 = .ok (.iload_n 3, 1) := by decide +kernel
theorem dX5_why_72 : decode cX5_why 72 = .ok (.ifCond .ne 7, 3) := by decide +kernel
theorem dX5_why_75 : decode cX5_why 75 = .ok (.iconst 4, 1) := by decide +kernel
theorem dX5_why_76 : decode cX5_why 76 = .ok (.goto 4, 3) := by decide +kernel
theorem dX5_why_79 : decode cX5_why 79 = .ok (.iconst 5, 1) := by decide +kernel
theorem dX5_why_80 : decode cX5_why 80 = .ok (.istore 4, 2) := by decide +kernel
theorem dX5_why_82 : decode cX5_why 82 = .ok (.aload_n 0, 1) := by decide +kernel
theorem dX5_why_83 : decode cX5_why 83 = .ok (.invokevirtual 115, 3) := by decide +kernel
theorem dX5_why_86 : decode cX5_why 86 = .ok (.iload 4, 2) := by decide +kernel
theorem dX5_why_88 : decode cX5_why 88 = .ok (.ireturn, 1) := by decide +kernel
theorem dX5_shiftsOf_0 : decode cX5_shiftsOf 0 = .ok (.iconst 0, 1) := by decide +kernel
theorem dX5_shiftsOf_1 : decode cX5_shiftsOf 1 = .ok (.istore_n 2, 1) := by decide +kernel
theorem dX5_shiftsOf_2 : decode cX5_shiftsOf 2 = .ok (.iconst 0, 1) := by decide +kernel
theorem dX5_shiftsOf_3 : decode cX5_shiftsOf 3 = .ok (.istore_n 3, 1) := by decide +kernel
theorem dX5_shiftsOf_4 : decode cX5_shiftsOf 4 = .ok (.iload_n 3, 1) := by decide +kernel
theorem dX5_shiftsOf_5 : decode cX5_shiftsOf 5 = .ok (.bipush 8, 2) := by decide +kernel
theorem dX5_shiftsOf_7 : decode cX5_shiftsOf 7 = .ok (.if_icmp .ge 29, 3) := by decide +kernel
theorem dX5_shiftsOf_10 : decode cX5_shiftsOf 10 = .ok (.iload_n 2, 1) := by decide +kernel
theorem dX5_shiftsOf_11 : decode cX5_shiftsOf 11 = .ok (.aload_n 0, 1) := by decide +kernel
theorem dX5_shiftsOf_12 : decode cX5_shiftsOf 12 = .ok (.getfield 7, 3) := by decide +kernel
theorem dX5_shiftsOf_15 : decode cX5_shiftsOf 15 = .ok (.iconst 5, 1) := by decide +kernel
theorem dX5_shiftsOf_16 : decode cX5_shiftsOf 16 = .ok (.iload_n 3, 1) := by decide +kernel
theorem dX5_shiftsOf_17 : decode cX5_shiftsOf 17 = .ok (.iadd, 1) := by decide +kernel
theorem dX5_shiftsOf_18 : decode cX5_shiftsOf 18 = .ok (.iaload, 1) := by decide +kernel
theorem dX5_shiftsOf_19 : decode cX5_shiftsOf 19 = .ok (.iload_n 1, 1) := by decide +kernel
theorem dX5_shiftsOf_20 : decode cX5_shiftsOf 20 = .ok (.if_icmp .ne 7, 3) := by decide +kernel
theorem dX5_shiftsOf_23 : decode cX5_shiftsOf 23 = .ok (.iconst 1, 1) := by decide +kernel
theorem dX5_shiftsOf_24 : decode cX5_shiftsOf 24 = .ok (.goto 4, 3) := by decide +kernel
theorem dX5_shiftsOf_27 : decode cX5_shiftsOf 27 = .ok (.iconst 0, 1) := by decide +kernel
theorem dX5_shiftsOf_28 : decode cX5_shiftsOf 28 = .ok (.iadd, 1) := by decide +kernel
theorem dX5_shiftsOf_29 : decode cX5_shiftsOf 29 = .ok (.istore_n 2, 1) := by decide +kernel
theorem dX5_shiftsOf_30 : decode cX5_shiftsOf 30 = .ok (.iinc 3 1, 3) := by decide +kernel
theorem dX5_shiftsOf_33 : decode cX5_shiftsOf 33 = .ok (.goto (-29), 3) := by decide +kernel
theorem dX5_shiftsOf_36 : decode cX5_shiftsOf 36 = .ok (.iload_n 2, 1) := by decide +kernel
theorem dX5_shiftsOf_37 : decode cX5_shiftsOf 37 = .ok (.ireturn, 1) := by decide +kernel
theorem dX5_censor_0 : decode cX5_censor 0 = .ok (.iload_n 1, 1) := by decide +kernel
theorem dX5_censor_1 : decode cX5_censor 1 = .ok (.iconst 0, 1) := by decide +kernel
theorem dX5_censor_2 : decode cX5_censor 2 = .ok (.iconst 3, 1) := by decide +kernel
theorem dX5_censor_3 : decode cX5_censor 3 = .ok (.invokestatic 38, 3) := by decide +kernel
theorem dX5_censor_6 : decode cX5_censor 6 = .ok (.ifCond .ne 5, 3) := by decide +kernel
theorem dX5_censor_9 : decode cX5_censor 9 = .ok (.iconst (-1), 1) := by decide +kernel
theorem dX5_censor_10 : decode cX5_censor 10 = .ok (.ireturn, 1) := by decide +kernel
theorem dX5_censor_11 : decode cX5_censor 11 = .ok (.iload_n 2, 1) := by decide +kernel
theorem dX5_censor_12 : decode cX5_censor 12 = .ok (.iconst 1, 1) := by decide +kernel
theorem dX5_censor_13 : decode cX5_censor 13 = .ok (.if_icmp .ne 11, 3) := by decide +kernel
theorem dX5_censor_16 : decode cX5_censor 16 = .ok (.aload_n 0, 1) := by decide +kernel
theorem dX5_censor_17 : decode cX5_censor 17 = .ok (.iload_n 1, 1) := by decide +kernel
theorem dX5_censor_18 : decode cX5_censor 18 = .ok (.invokevirtual 118, 3) := by decide +kernel
theorem dX5_censor_21 : decode cX5_censor 21 = .ok (.goto 46, 3) := by decide +kernel
theorem dX5_censor_24 : decode cX5_censor 24 = .ok (.iload_n 2, 1) := by decide +kernel
theorem dX5_censor_25 : decode cX5_censor 25 = .ok (.ifCond .ne 16, 3) := by decide +kernel
theorem dX5_censor_28 : decode cX5_censor 28 = .ok (.aload_n 0, 1) := by decide +kernel
theorem dX5_censor_29 : decode cX5_censor 29 = .ok (.getfield 7, 3) := by decide +kernel
theorem dX5_censor_32 : decode cX5_censor 32 = .ok (.iload_n 1, 1) := by decide +kernel
theorem dX5_censor_33 : decode cX5_censor 33 = .ok (.iconst 0, 1) := by decide +kernel
theorem dX5_censor_34 : decode cX5_censor 34 = .ok (.invokestatic 53, 3) := by decide +kernel
theorem dX5_censor_37 : decode cX5_censor 37 = .ok (.iaload, 1) := by decide +kernel
theorem dX5_censor_38 : decode cX5_censor 38 = .ok (.goto 29, 3) := by decide +kernel
theorem dX5_censor_41 : decode cX5_censor 41 = .ok (.iload_n 2, 1) := by decide +kernel
theorem dX5_censor_42 : decode cX5_censor 42 = .ok (.iconst 2, 1) := by decide +kernel
theorem dX5_censor_43 : decode cX5_censor 43 = .ok (.iconst 4, 1) := by decide +kernel
theorem dX5_censor_44 : decode cX5_censor 44 = .ok (.invokestatic 38, 3) := by decide +kernel
theorem dX5_censor_47 : decode cX5_censor 47 = .ok (.ifCond .eq 18, 3) := by decide +kernel
theorem dX5_censor_50 : decode cX5_censor 50 = .ok (.aload_n 0, 1) := by decide +kernel
theorem dX5_censor_51 : decode cX5_censor 51 = .ok (.getfield 7, 3) := by decide +kernel
theorem dX5_censor_54 : decode cX5_censor 54 = .ok (.iload_n 1, 1) := by decide +kernel
theorem dX5_censor_55 : decode cX5_censor 55 = .ok (.iload_n 2, 1) := by decide +kernel
theorem dX5_censor_56 : decode cX5_censor 56 = .ok (.iconst 1, 1) := by decide +kernel
theorem dX5_censor_57 : decode cX5_censor 57 = .ok (.isub, 1) := by decide +kernel
theorem dX5_censor_58 : decode cX5_censor 58 = .ok (.invokestatic 53, 3) := by decide +kernel
theorem dX5_censor_61 : decode cX5_censor 61 = .ok (.iaload, 1) := by decide +kernel
theorem dX5_censor_62 : decode cX5_censor 62 = .ok (.goto 5, 3) := by decide +kernel
theorem dX5_censor_65 : decode cX5_censor 65 = .ok (.bipush (-2), 2) := by decide +kernel
theorem dX5_censor_67 : decode cX5_censor 67 = .ok (.ireturn, 1) := by decide +kernel
theorem dX5_onShift_0 : decode cX5_onShift 0 = .ok (.iload_n 2, 1) := by decide +kernel
theorem dX5_onShift_1 : decode cX5_onShift 1 = .ok (.iconst 0, 1) := by decide +kernel
theorem dX5_onShift_2 : decode cX5_onShift 2 = .ok (.iconst 1, 1) := by decide +kernel
theorem dX5_onShift_3 : decode cX5_onShift 3 = .ok (.invokestatic 38, 3) := by decide +kernel
theorem dX5_onShift_6 : decode cX5_onShift 6 = .ok (.ifCond .ne 7, 3) := by decide +kernel
theorem dX5_onShift_9 : decode cX5_onShift 9 = .ok (.iconst (-1), 1) := by decide +kernel
theorem dX5_onShift_10 : decode cX5_onShift 10 = .ok (.goto 33, 3) := by decide +kernel
theorem dX5_onShift_13 : decode cX5_onShift 13 = .ok (.iload_n 1, 1) := by decide +kernel
theorem dX5_onShift_14 : decode cX5_onShift 14 = .ok (.iconst 0, 1) := by decide +kernel
theorem dX5_onShift_15 : decode cX5_onShift 15 = .ok (.sipush 9999, 3) := by decide +kernel
theorem dX5_onShift_18 : decode cX5_onShift 18 = .ok (.invokestatic 38, 3) := by decide +kernel
theorem dX5_onShift_21 : decode cX5_onShift 21 = .ok (.ifCond .eq 20, 3) := by decide +kernel
theorem dX5_onShift_24 : decode cX5_onShift 24 = .ok (.aload_n 0, 1) := by decide +kernel
theorem dX5_onShift_25 : decode cX5_onShift 25 = .ok (.getfield 7, 3) := by decide +kernel
theorem dX5_onShift_28 : decode cX5_onShift 28 = .ok (.iconst 5, 1) := by decide +kernel
theorem dX5_onShift_29 : decode cX5_onShift 29 = .ok (.iconst 2, 1) := by decide +kernel
theorem dX5_onShift_30 : decode cX5_onShift 30 = .ok (.iload_n 1, 1) := by decide +kernel
theorem dX5_onShift_31 : decode cX5_onShift 31 = .ok (.iconst 4, 1) := by decide +kernel
theorem dX5_onShift_32 : decode cX5_onShift 32 = .ok (.irem, 1) := by decide +kernel
theorem dX5_onShift_33 : decode cX5_onShift 33 = .ok (.imul, 1) := by decide +kernel
theorem dX5_onShift_34 : decode cX5_onShift 34 = .ok (.iadd, 1) := by decide +kernel
theorem dX5_onShift_35 : decode cX5_onShift 35 = .ok (.iload_n 2, 1) := by decide +kernel
theorem dX5_onShift_36 : decode cX5_onShift 36 = .ok (.iadd, 1) := by decide +kernel
theorem dX5_onShift_37 : decode cX5_onShift 37 = .ok (.iaload, 1) := by decide +kernel
theorem dX5_onShift_38 : decode cX5_onShift 38 = .ok (.goto 5, 3) := by decide +kernel
theorem dX5_onShift_41 : decode cX5_onShift 41 = .ok (.bipush (-2), 2) := by decide +kernel
theorem dX5_onShift_43 : decode cX5_onShift 43 = .ok (.ireturn, 1) := by decide +kernel
theorem dX5_delays_0 : decode cX5_delays 0 = .ok (.iconst 0, 1) := by decide +kernel
theorem dX5_delays_1 : decode cX5_delays 1 = .ok (.istore_n 1, 1) := by decide +kernel
theorem dX5_delays_2 : decode cX5_delays 2 = .ok (.iconst 0, 1) := by decide +kernel
theorem dX5_delays_3 : decode cX5_delays 3 = .ok (.istore_n 2, 1) := by decide +kernel
theorem dX5_delays_4 : decode cX5_delays 4 = .ok (.iload_n 2, 1) := by decide +kernel
theorem dX5_delays_5 : decode cX5_delays 5 = .ok (.aload_n 0, 1) := by decide +kernel
theorem dX5_delays_6 : decode cX5_delays 6 = .ok (.getfield 7, 3) := by decide +kernel
theorem dX5_delays_9 : decode cX5_delays 9 = .ok (.iconst 4, 1) := by decide +kernel
theorem dX5_delays_10 : decode cX5_delays 10 = .ok (.iaload, 1) := by decide +kernel
theorem dX5_delays_11 : decode cX5_delays 11 = .ok (.if_icmp .ge 32, 3) := by decide +kernel
theorem dX5_delays_14 : decode cX5_delays 14 = .ok (.iload_n 1, 1) := by decide +kernel
theorem dX5_delays_15 : decode cX5_delays 15 = .ok (.aload_n 0, 1) := by decide +kernel
theorem dX5_delays_16 : decode cX5_delays 16 = .ok (.iload_n 2, 1) := by decide +kernel
theorem dX5_delays_17 : decode cX5_delays 17 = .ok (.iconst 2, 1) := by decide +kernel
theorem dX5_delays_18 : decode cX5_delays 18 = .ok (.invokevirtual 50, 3) := by decide +kernel
theorem dX5_delays_21 : decode cX5_delays 21 = .ok (.iconst 1, 1) := by decide +kernel
theorem dX5_delays_22 : decode cX5_delays 22 = .ok (.if_icmp .ne 12, 3) := by decide +kernel
theorem dX5_delays_25 : decode cX5_delays 25 = .ok (.aload_n 0, 1) := by decide +kernel
theorem dX5_delays_26 : decode cX5_delays 26 = .ok (.iload_n 2, 1) := by decide +kernel
theorem dX5_delays_27 : decode cX5_delays 27 = .ok (.iconst 4, 1) := by decide +kernel
theorem dX5_delays_28 : decode cX5_delays 28 = .ok (.invokevirtual 50, 3) := by decide +kernel
theorem dX5_delays_31 : decode cX5_delays 31 = .ok (.goto 4, 3) := by decide +kernel
theorem dX5_delays_34 : decode cX5_delays 34 = .ok (.iconst 0, 1) := by decide +kernel
theorem dX5_delays_35 : decode cX5_delays 35 = .ok (.iadd, 1) := by decide +kernel
theorem dX5_delays_36 : decode cX5_delays 36 = .ok (.istore_n 1, 1) := by decide +kernel
theorem dX5_delays_37 : decode cX5_delays 37 = .ok (.iinc 2 1, 3) := by decide +kernel
theorem dX5_delays_40 : decode cX5_delays 40 = .ok (.goto (-36), 3) := by decide +kernel
theorem dX5_delays_43 : decode cX5_delays 43 = .ok (.iload_n 1, 1) := by decide +kernel
theorem dX5_delays_44 : decode cX5_delays 44 = .ok (.ireturn, 1) := by decide +kernel
theorem dX5_longest_0 : decode cX5_longest 0 = .ok (.iconst 0, 1) := by decide +kernel
theorem dX5_longest_1 : decode cX5_longest 1 = .ok (.istore_n 1, 1) := by decide +kernel
theorem dX5_longest_2 : decode cX5_longest 2 = .ok (.iconst 0, 1) := by decide +kernel
theorem dX5_longest_3 : decode cX5_longest 3 = .ok (.istore_n 2, 1) := by decide +kernel
theorem dX5_longest_4 : decode cX5_longest 4 = .ok (.iload_n 2, 1) := by decide +kernel
theorem dX5_longest_5 : decode cX5_longest 5 = .ok (.aload_n 0, 1) := by decide +kernel
theorem dX5_longest_6 : decode cX5_longest 6 = .ok (.getfield 7, 3) := by decide +kernel
theorem dX5_longest_9 : decode cX5_longest 9 = .ok (.iconst 4, 1) := by decide +kernel
theorem dX5_longest_10 : decode cX5_longest 10 = .ok (.iaload, 1) := by decide +kernel
theorem dX5_longest_11 : decode cX5_longest 11 = .ok (.if_icmp .ge 30, 3) := by decide +kernel
theorem dX5_longest_14 : decode cX5_longest 14 = .ok (.aload_n 0, 1) := by decide +kernel
theorem dX5_longest_15 : decode cX5_longest 15 = .ok (.iload_n 2, 1) := by decide +kernel
theorem dX5_longest_16 : decode cX5_longest 16 = .ok (.iconst 4, 1) := by decide +kernel
theorem dX5_longest_17 : decode cX5_longest 17 = .ok (.invokevirtual 50, 3) := by decide +kernel
theorem dX5_longest_20 : decode cX5_longest 20 = .ok (.iload_n 1, 1) := by decide +kernel
theorem dX5_longest_21 : decode cX5_longest 21 = .ok (.if_icmp .le 12, 3) := by decide +kernel
theorem dX5_longest_24 : decode cX5_longest 24 = .ok (.aload_n 0, 1) := by decide +kernel
theorem dX5_longest_25 : decode cX5_longest 25 = .ok (.iload_n 2, 1) := by decide +kernel
theorem dX5_longest_26 : decode cX5_longest 26 = .ok (.iconst 4, 1) := by decide +kernel
theorem dX5_longest_27 : decode cX5_longest 27 = .ok (.invokevirtual 50, 3) := by decide +kernel
theorem dX5_longest_30 : decode cX5_longest 30 = .ok (.goto 4, 3) := by decide +kernel
theorem dX5_longest_33 : decode cX5_longest 33 = .ok (.iload_n 1, 1) := by decide +kernel
theorem dX5_longest_34 : decode cX5_longest 34 = .ok (.istore_n 1, 1) := by decide +kernel
theorem dX5_longest_35 : decode cX5_longest 35 = .ok (.iinc 2 1, 3) := by decide +kernel
theorem dX5_longest_38 : decode cX5_longest 38 = .ok (.goto (-34), 3) := by decide +kernel
theorem dX5_longest_41 : decode cX5_longest 41 = .ok (.iload_n 1, 1) := by decide +kernel
theorem dX5_longest_42 : decode cX5_longest 42 = .ok (.ireturn, 1) := by decide +kernel
theorem dX5_waitingThreads_0 : decode cX5_waitingThreads 0 = .ok (.iconst 0, 1) := by decide +kernel
theorem dX5_waitingThreads_1 : decode cX5_waitingThreads 1 = .ok (.istore_n 1, 1) := by decide +kernel
theorem dX5_waitingThreads_2 : decode cX5_waitingThreads 2 = .ok (.iconst 0, 1) := by decide +kernel
theorem dX5_waitingThreads_3 : decode cX5_waitingThreads 3 = .ok (.istore_n 2, 1) := by decide +kernel
theorem dX5_waitingThreads_4 : decode cX5_waitingThreads 4 = .ok (.iload_n 2, 1) := by decide +kernel
theorem dX5_waitingThreads_5 : decode cX5_waitingThreads 5 = .ok (.aload_n 0, 1) := by decide +kernel
theorem dX5_waitingThreads_6 : decode cX5_waitingThreads 6 = .ok (.getfield 7, 3) := by decide +kernel
theorem dX5_waitingThreads_9 : decode cX5_waitingThreads 9 = .ok (.iconst 4, 1) := by decide +kernel
theorem dX5_waitingThreads_10 : decode cX5_waitingThreads 10 = .ok (.iaload, 1) := by decide +kernel
theorem dX5_waitingThreads_11 : decode cX5_waitingThreads 11 = .ok (.if_icmp .ge 33, 3) := by decide +kernel
theorem dX5_waitingThreads_14 : decode cX5_waitingThreads 14 = .ok (.iload_n 1, 1) := by decide +kernel
theorem dX5_waitingThreads_15 : decode cX5_waitingThreads 15 = .ok (.aload_n 0, 1) := by decide +kernel
theorem dX5_waitingThreads_16 : decode cX5_waitingThreads 16 = .ok (.iload_n 2, 1) := by decide +kernel
theorem dX5_waitingThreads_17 : decode cX5_waitingThreads 17 = .ok (.iconst 2, 1) := by decide +kernel
theorem dX5_waitingThreads_18 : decode cX5_waitingThreads 18 = .ok (.invokevirtual 50, 3) := by decide +kernel
theorem dX5_waitingThreads_21 : decode cX5_waitingThreads 21 = .ok (.ifCond .ne 14, 3) := by decide +kernel
theorem dX5_waitingThreads_24 : decode cX5_waitingThreads 24 = .ok (.iconst 1, 1) := by decide +kernel
theorem dX5_waitingThreads_25 : decode cX5_waitingThreads 25 = .ok (.aload_n 0, 1) := by decide +kernel
theorem dX5_waitingThreads_26 : decode cX5_waitingThreads 26 = .ok (.iload_n 2, 1) := by decide +kernel
theorem dX5_waitingThreads_27 : decode cX5_waitingThreads 27 = .ok (.iconst 0, 1) := by decide +kernel
theorem dX5_waitingThreads_28 : decode cX5_waitingThreads 28 = .ok (.invokevirtual 50, 3) := by decide +kernel
theorem dX5_waitingThreads_31 : decode cX5_waitingThreads 31 = .ok (.ishl, 1) := by decide +kernel
theorem dX5_waitingThreads_32 : decode cX5_waitingThreads 32 = .ok (.goto 4, 3) := by decide +kernel
theorem dX5_waitingThreads_35 : decode cX5_waitingThreads 35 = .ok (.iconst 0, 1) := by decide +kernel
theorem dX5_waitingThreads_36 : decode cX5_waitingThreads 36 = .ok (.ior, 1) := by decide +kernel
theorem dX5_waitingThreads_37 : decode cX5_waitingThreads 37 = .ok (.istore_n 1, 1) := by decide +kernel
theorem dX5_waitingThreads_38 : decode cX5_waitingThreads 38 = .ok (.iinc 2 1, 3) := by decide +kernel
theorem dX5_waitingThreads_41 : decode cX5_waitingThreads 41 = .ok (.goto (-37), 3) := by decide +kernel
theorem dX5_waitingThreads_44 : decode cX5_waitingThreads 44 = .ok (.iload_n 1, 1) := by decide +kernel
theorem dX5_waitingThreads_45 : decode cX5_waitingThreads 45 = .ok (.invokestatic 62, 3) := by decide +kernel
theorem dX5_waitingThreads_48 : decode cX5_waitingThreads 48 = .ok (.ireturn, 1) := by decide +kernel
theorem dX5_count_0 : decode cX5_count 0 = .ok (.iload_n 1, 1) := by decide +kernel
theorem dX5_count_1 : decode cX5_count 1 = .ok (.iconst 0, 1) := by decide +kernel
theorem dX5_count_2 : decode cX5_count 2 = .ok (.iconst 4, 1) := by decide +kernel
theorem dX5_count_3 : decode cX5_count 3 = .ok (.invokestatic 38, 3) := by decide +kernel
theorem dX5_count_6 : decode cX5_count 6 = .ok (.ifCond .eq 10, 3) := by decide +kernel
theorem dX5_count_9 : decode cX5_count 9 = .ok (.aload_n 0, 1) := by decide +kernel
theorem dX5_count_10 : decode cX5_count 10 = .ok (.getfield 7, 3) := by decide +kernel
theorem dX5_count_13 : decode cX5_count 13 = .ok (.iload_n 1, 1) := by decide +kernel
theorem dX5_count_14 : decode cX5_count 14 = .ok (.iaload, 1) := by decide +kernel
theorem dX5_count_15 : decode cX5_count 15 = .ok (.ireturn, 1) := by decide +kernel
theorem dX5_count_16 : decode cX5_count 16 = .ok (.iload_n 1, 1) := by decide +kernel
theorem dX5_count_17 : decode cX5_count 17 = .ok (.tableswitch 110 5 15 #[59, 59, 59, 67, 67, 80, 85, 90, 95, 100, 105], 59) := by decide +kernel
theorem dX5_count_76 : decode cX5_count 76 = .ok (.aload_n 0, 1) := by decide +kernel
theorem dX5_count_77 : decode cX5_count 77 = .ok (.iload_n 1, 1) := by decide +kernel
theorem dX5_count_78 : decode cX5_count 78 = .ok (.iconst 5, 1) := by decide +kernel
theorem dX5_count_79 : decode cX5_count 79 = .ok (.isub, 1) := by decide +kernel
theorem dX5_count_80 : decode cX5_count 80 = .ok (.invokevirtual 121, 3) := by decide +kernel
theorem dX5_count_83 : decode cX5_count 83 = .ok (.ireturn, 1) := by decide +kernel
theorem dX5_count_84 : decode cX5_count 84 = .ok (.aload_n 0, 1) := by decide +kernel
theorem dX5_count_85 : decode cX5_count 85 = .ok (.getfield 7, 3) := by decide +kernel
theorem dX5_count_88 : decode cX5_count 88 = .ok (.bipush 29, 2) := by decide +kernel
theorem dX5_count_90 : decode cX5_count 90 = .ok (.iload_n 1, 1) := by decide +kernel
theorem dX5_count_91 : decode cX5_count 91 = .ok (.iadd, 1) := by decide +kernel
theorem dX5_count_92 : decode cX5_count 92 = .ok (.bipush 8, 2) := by decide +kernel
theorem dX5_count_94 : decode cX5_count 94 = .ok (.isub, 1) := by decide +kernel
theorem dX5_count_95 : decode cX5_count 95 = .ok (.iaload, 1) := by decide +kernel
theorem dX5_count_96 : decode cX5_count 96 = .ok (.ireturn, 1) := by decide +kernel
theorem dX5_count_97 : decode cX5_count 97 = .ok (.aload_n 0, 1) := by decide +kernel
theorem dX5_count_98 : decode cX5_count 98 = .ok (.invokevirtual 124, 3) := by decide +kernel
theorem dX5_count_101 : decode cX5_count 101 = .ok (.ireturn, 1) := by decide +kernel
theorem dX5_count_102 : decode cX5_count 102 = .ok (.aload_n 0, 1) := by decide +kernel
theorem dX5_count_103 : decode cX5_count 103 = .ok (.invokevirtual 127, 3) := by decide +kernel
theorem dX5_count_106 : decode cX5_count 106 = .ok (.ireturn, 1) := by decide +kernel
theorem dX5_count_107 : decode cX5_count 107 = .ok (.aload_n 0, 1) := by decide +kernel
theorem dX5_count_108 : decode cX5_count 108 = .ok (.invokevirtual 130, 3) := by decide +kernel
theorem dX5_count_111 : decode cX5_count 111 = .ok (.ireturn, 1) := by decide +kernel
theorem dX5_count_112 : decode cX5_count 112 = .ok (.aload_n 0, 1) := by decide +kernel
theorem dX5_count_113 : decode cX5_count 113 = .ok (.invokevirtual 133, 3) := by decide +kernel
theorem dX5_count_116 : decode cX5_count 116 = .ok (.ireturn, 1) := by decide +kernel
theorem dX5_count_117 : decode cX5_count 117 = .ok (.aload_n 0, 1) := by decide +kernel
theorem dX5_count_118 : decode cX5_count 118 = .ok (.getfield 136, 3) := by decide +kernel
theorem dX5_count_121 : decode cX5_count 121 = .ok (.ireturn, 1) := by decide +kernel
theorem dX5_count_122 : decode cX5_count 122 = .ok (.aload_n 0, 1) := by decide +kernel
theorem dX5_count_123 : decode cX5_count 123 = .ok (.getfield 46, 3) := by decide +kernel
theorem dX5_count_126 : decode cX5_count 126 = .ok (.ireturn, 1) := by decide +kernel
theorem dX5_count_127 : decode cX5_count 127 = .ok (.bipush (-2), 2) := by decide +kernel
theorem dX5_count_129 : decode cX5_count 129 = .ok (.ireturn, 1) := by decide +kernel
theorem dX5_untilCome_0 : decode cX5_untilCome 0 = .ok (.aload_n 0, 1) := by decide +kernel
theorem dX5_untilCome_1 : decode cX5_untilCome 1 = .ok (.iload_n 1, 1) := by decide +kernel
theorem dX5_untilCome_2 : decode cX5_untilCome 2 = .ok (.invokevirtual 100, 3) := by decide +kernel
theorem dX5_untilCome_5 : decode cX5_untilCome 5 = .ok (.ifCond .ne 5, 3) := by decide +kernel
theorem dX5_untilCome_8 : decode cX5_untilCome 8 = .ok (.iconst (-1), 1) := by decide +kernel
theorem dX5_untilCome_9 : decode cX5_untilCome 9 = .ok (.ireturn, 1) := by decide +kernel
theorem dX5_untilCome_10 : decode cX5_untilCome 10 = .ok (.aload_n 0, 1) := by decide +kernel
theorem dX5_untilCome_11 : decode cX5_untilCome 11 = .ok (.invokevirtual 112, 3) := by decide +kernel
theorem dX5_untilCome_14 : decode cX5_untilCome 14 = .ok (.iconst 0, 1) := by decide +kernel
theorem dX5_untilCome_15 : decode cX5_untilCome 15 = .ok (.istore_n 2, 1) := by decide +kernel
theorem dX5_untilCome_16 : decode cX5_untilCome 16 = .ok (.aload_n 0, 1) := by decide +kernel
theorem dX5_untilCome_17 : decode cX5_untilCome 17 = .ok (.iload_n 1, 1) := by decide +kernel
theorem dX5_untilCome_18 : decode cX5_untilCome 18 = .ok (.iconst 2, 1) := by decide +kernel
theorem dX5_untilCome_19 : decode cX5_untilCome 19 = .ok (.invokevirtual 50, 3) := by decide +kernel
theorem dX5_untilCome_22 : decode cX5_untilCome 22 = .ok (.ifCond .ne 20, 3) := by decide +kernel
theorem dX5_untilCome_25 : decode cX5_untilCome 25 = .ok (.iload_n 2, 1) := by decide +kernel
theorem dX5_untilCome_26 : decode cX5_untilCome 26 = .ok (.bipush 100, 2) := by decide +kernel
theorem dX5_untilCome_28 : decode cX5_untilCome 28 = .ok (.if_icmp .ge 14, 3) := by decide +kernel
theorem dX5_untilCome_31 : decode cX5_untilCome 31 = .ok (.aload_n 0, 1) := by decide +kernel
theorem dX5_untilCome_32 : decode cX5_untilCome 32 = .ok (.invokevirtual 84, 3) := by decide +kernel
theorem dX5_untilCome_35 : decode cX5_untilCome 35 = .ok (.istore_n 3, 1) := by decide +kernel
theorem dX5_untilCome_36 : decode cX5_untilCome 36 = .ok (.iinc 2 1, 3) := by decide +kernel
theorem dX5_untilCome_39 : decode cX5_untilCome 39 = .ok (.goto (-23), 3) := by decide +kernel
theorem dX5_untilCome_42 : decode cX5_untilCome 42 = .ok (.aload_n 0, 1) := by decide +kernel
theorem dX5_untilCome_43 : decode cX5_untilCome 43 = .ok (.iload_n 1, 1) := by decide +kernel
theorem dX5_untilCome_44 : decode cX5_untilCome 44 = .ok (.iconst 2, 1) := by decide +kernel
theorem dX5_untilCome_45 : decode cX5_untilCome 45 = .ok (.invokevirtual 50, 3) := by decide +kernel
theorem dX5_untilCome_48 : decode cX5_untilCome 48 = .ok (.iconst 1, 1) := by decide +kernel
theorem dX5_untilCome_49 : decode cX5_untilCome 49 = .ok (.if_icmp .ne 7, 3) := by decide +kernel
theorem dX5_untilCome_52 : decode cX5_untilCome 52 = .ok (.iconst 1, 1) := by decide +kernel
theorem dX5_untilCome_53 : decode cX5_untilCome 53 = .ok (.goto 4, 3) := by decide +kernel
theorem dX5_untilCome_56 : decode cX5_untilCome 56 = .ok (.iconst 0, 1) := by decide +kernel
theorem dX5_untilCome_57 : decode cX5_untilCome 57 = .ok (.istore_n 3, 1) := by decide +kernel
theorem dX5_untilCome_58 : decode cX5_untilCome 58 = .ok (.aload_n 0, 1) := by decide +kernel
theorem dX5_untilCome_59 : decode cX5_untilCome 59 = .ok (.invokevirtual 115, 3) := by decide +kernel
theorem dX5_untilCome_62 : decode cX5_untilCome 62 = .ok (.iload_n 3, 1) := by decide +kernel
theorem dX5_untilCome_63 : decode cX5_untilCome 63 = .ok (.ifCond .eq 7, 3) := by decide +kernel
theorem dX5_untilCome_66 : decode cX5_untilCome 66 = .ok (.iload_n 2, 1) := by decide +kernel
theorem dX5_untilCome_67 : decode cX5_untilCome 67 = .ok (.goto 5, 3) := by decide +kernel
theorem dX5_untilCome_70 : decode cX5_untilCome 70 = .ok (.bipush (-6), 2) := by decide +kernel
theorem dX5_untilCome_72 : decode cX5_untilCome 72 = .ok (.ireturn, 1) := by decide +kernel
theorem dX5_ifPassed_0 : decode cX5_ifPassed 0 = .ok (.iload_n 1, 1) := by decide +kernel
theorem dX5_ifPassed_1 : decode cX5_ifPassed 1 = .ok (.iconst 1, 1) := by decide +kernel
theorem dX5_ifPassed_2 : decode cX5_ifPassed 2 = .ok (.bipush 100, 2) := by decide +kernel
theorem dX5_ifPassed_4 : decode cX5_ifPassed 4 = .ok (.invokestatic 38, 3) := by decide +kernel
theorem dX5_ifPassed_7 : decode cX5_ifPassed 7 = .ok (.ifCond .eq 12, 3) := by decide +kernel
theorem dX5_ifPassed_10 : decode cX5_ifPassed 10 = .ok (.iload_n 2, 1) := by decide +kernel
theorem dX5_ifPassed_11 : decode cX5_ifPassed 11 = .ok (.iconst 0, 1) := by decide +kernel
theorem dX5_ifPassed_12 : decode cX5_ifPassed 12 = .ok (.iconst 2, 1) := by decide +kernel
theorem dX5_ifPassed_13 : decode cX5_ifPassed 13 = .ok (.invokestatic 38, 3) := by decide +kernel
theorem dX5_ifPassed_16 : decode cX5_ifPassed 16 = .ok (.ifCond .ne 6, 3) := by decide +kernel
theorem dX5_ifPassed_19 : decode cX5_ifPassed 19 = .ok (.bipush (-2), 2) := by decide +kernel
theorem dX5_ifPassed_21 : decode cX5_ifPassed 21 = .ok (.ireturn, 1) := by decide +kernel
theorem dX5_ifPassed_22 : decode cX5_ifPassed 22 = .ok (.aload_n 0, 1) := by decide +kernel
theorem dX5_ifPassed_23 : decode cX5_ifPassed 23 = .ok (.invokevirtual 112, 3) := by decide +kernel
theorem dX5_ifPassed_26 : decode cX5_ifPassed 26 = .ok (.iload_n 2, 1) := by decide +kernel
theorem dX5_ifPassed_27 : decode cX5_ifPassed 27 = .ok (.ifCond .ne 11, 3) := by decide +kernel
theorem dX5_ifPassed_30 : decode cX5_ifPassed 30 = .ok (.aload_n 0, 1) := by decide +kernel
theorem dX5_ifPassed_31 : decode cX5_ifPassed 31 = .ok (.iconst 1, 1) := by decide +kernel
theorem dX5_ifPassed_32 : decode cX5_ifPassed 32 = .ok (.invokevirtual 121, 3) := by decide +kernel
theorem dX5_ifPassed_35 : decode cX5_ifPassed 35 = .ok (.goto 20, 3) := by decide +kernel
theorem dX5_ifPassed_38 : decode cX5_ifPassed 38 = .ok (.iload_n 2, 1) := by decide +kernel
theorem dX5_ifPassed_39 : decode cX5_ifPassed 39 = .ok (.iconst 1, 1) := by decide +kernel
theorem dX5_ifPassed_40 : decode cX5_ifPassed 40 = .ok (.if_icmp .ne 11, 3) := by decide +kernel
theorem dX5_ifPassed_43 : decode cX5_ifPassed 43 = .ok (.aload_n 0, 1) := by decide +kernel
theorem dX5_ifPassed_44 : decode cX5_ifPassed 44 = .ok (.iconst 2, 1) := by decide +kernel
theorem dX5_ifPassed_45 : decode cX5_ifPassed 45 = .ok (.invokevirtual 121, 3) := by decide +kernel
theorem dX5_ifPassed_48 : decode cX5_ifPassed 48 = .ok (.goto 7, 3) := by decide +kernel
theorem dX5_ifPassed_51 : decode cX5_ifPassed 51 = .ok (.aload_n 0, 1) := by decide +kernel
theorem dX5_ifPassed_52 : decode cX5_ifPassed 52 = .ok (.invokevirtual 130, 3) := by decide +kernel
theorem dX5_ifPassed_55 : decode cX5_ifPassed 55 = .ok (.istore_n 3, 1) := by decide +kernel
theorem dX5_ifPassed_56 : decode cX5_ifPassed 56 = .ok (.aload_n 0, 1) := by decide +kernel
theorem dX5_ifPassed_57 : decode cX5_ifPassed 57 = .ok (.iload_n 1, 1) := by decide +kernel
theorem dX5_ifPassed_58 : decode cX5_ifPassed 58 = .ok (.invokevirtual 106, 3) := by decide +kernel
theorem dX5_ifPassed_61 : decode cX5_ifPassed 61 = .ok (.istore 4, 2) := by decide +kernel
theorem dX5_ifPassed_63 : decode cX5_ifPassed 63 = .ok (.iload_n 2, 1) := by decide +kernel
theorem dX5_ifPassed_64 : decode cX5_ifPassed 64 = .ok (.ifCond .ne 11, 3) := by decide +kernel
theorem dX5_ifPassed_67 : decode cX5_ifPassed 67 = .ok (.aload_n 0, 1) := by decide +kernel
theorem dX5_ifPassed_68 : decode cX5_ifPassed 68 = .ok (.iconst 1, 1) := by decide +kernel
theorem dX5_ifPassed_69 : decode cX5_ifPassed 69 = .ok (.invokevirtual 121, 3) := by decide +kernel
theorem dX5_ifPassed_72 : decode cX5_ifPassed 72 = .ok (.goto 20, 3) := by decide +kernel
theorem dX5_ifPassed_75 : decode cX5_ifPassed 75 = .ok (.iload_n 2, 1) := by decide +kernel
theorem dX5_ifPassed_76 : decode cX5_ifPassed 76 = .ok (.iconst 1, 1) := by decide +kernel
theorem dX5_ifPassed_77 : decode cX5_ifPassed 77 = .ok (.if_icmp .ne 11, 3) := by decide +kernel
theorem dX5_ifPassed_80 : decode cX5_ifPassed 80 = .ok (.aload_n 0, 1) := by decide +kernel
theorem dX5_ifPassed_81 : decode cX5_ifPassed 81 = .ok (.iconst 2, 1) := by decide +kernel
theorem dX5_ifPassed_82 : decode cX5_ifPassed 82 = .ok (.invokevirtual 121, 3) := by decide +kernel
theorem dX5_ifPassed_85 : decode cX5_ifPassed 85 = .ok (.goto 7, 3) := by decide +kernel
theorem dX5_ifPassed_88 : decode cX5_ifPassed 88 = .ok (.aload_n 0, 1) := by decide +kernel
theorem dX5_ifPassed_89 : decode cX5_ifPassed 89 = .ok (.invokevirtual 130, 3) := by decide +kernel
theorem dX5_ifPassed_92 : decode cX5_ifPassed 92 = .ok (.istore 5, 2) := by decide +kernel
theorem dX5_ifPassed_94 : decode cX5_ifPassed 94 = .ok (.aload_n 0, 1) := by decide +kernel
theorem dX5_ifPassed_95 : decode cX5_ifPassed 95 = .ok (.invokevirtual 115, 3) := by decide +kernel
theorem dX5_ifPassed_98 : decode cX5_ifPassed 98 = .ok (.iload 5, 2) := by decide +kernel
theorem dX5_ifPassed_100 : decode cX5_ifPassed 100 = .ok (.iload_n 3, 1) := by decide +kernel
theorem dX5_ifPassed_101 : decode cX5_ifPassed 101 = .ok (.isub, 1) := by decide +kernel
theorem dX5_ifPassed_102 : decode cX5_ifPassed 102 = .ok (.ireturn, 1) := by decide +kernel
theorem dX5_bestTrade_0 : decode cX5_bestTrade 0 = .ok (.aload_n 0, 1) := by decide +kernel
theorem dX5_bestTrade_1 : decode cX5_bestTrade 1 = .ok (.invokevirtual 112, 3) := by decide +kernel
theorem dX5_bestTrade_4 : decode cX5_bestTrade 4 = .ok (.bipush (-6), 2) := by decide +kernel
theorem dX5_bestTrade_6 : decode cX5_bestTrade 6 = .ok (.istore_n 1, 1) := by decide +kernel
theorem dX5_bestTrade_7 : decode cX5_bestTrade 7 = .ok (.aload_n 0, 1) := by decide +kernel
theorem dX5_bestTrade_8 : decode cX5_bestTrade 8 = .ok (.iconst 4, 1) := by decide +kernel
theorem dX5_bestTrade_9 : decode cX5_bestTrade 9 = .ok (.invokevirtual 106, 3) := by decide +kernel
theorem dX5_bestTrade_12 : decode cX5_bestTrade 12 = .ok (.istore_n 2, 1) := by decide +kernel
theorem dX5_bestTrade_13 : decode cX5_bestTrade 13 = .ok (.aload_n 0, 1) := by decide +kernel
theorem dX5_bestTrade_14 : decode cX5_bestTrade 14 = .ok (.invokevirtual 115, 3) := by decide +kernel
theorem dX5_bestTrade_17 : decode cX5_bestTrade 17 = .ok (.iconst 0, 1) := by decide +kernel
theorem dX5_bestTrade_18 : decode cX5_bestTrade 18 = .ok (.istore_n 3, 1) := by decide +kernel
theorem dX5_bestTrade_19 : decode cX5_bestTrade 19 = .ok (.iload_n 3, 1) := by decide +kernel
theorem dX5_bestTrade_20 : decode cX5_bestTrade 20 = .ok (.bipush 8, 2) := by decide +kernel
theorem dX5_bestTrade_22 : decode cX5_bestTrade 22 = .ok (.if_icmp .ge 96, 3) := by decide +kernel
theorem dX5_bestTrade_25 : decode cX5_bestTrade 25 = .ok (.iload_n 3, 1) := by decide +kernel
theorem dX5_bestTrade_26 : decode cX5_bestTrade 26 = .ok (.iconst 1, 1) := by decide +kernel
theorem dX5_bestTrade_27 : decode cX5_bestTrade 27 = .ok (.iadd, 1) := by decide +kernel
theorem dX5_bestTrade_28 : decode cX5_bestTrade 28 = .ok (.istore 4, 2) := by decide +kernel
theorem dX5_bestTrade_30 : decode cX5_bestTrade 30 = .ok (.iload 4, 2) := by decide +kernel
theorem dX5_bestTrade_32 : decode cX5_bestTrade 32 = .ok (.bipush 8, 2) := by decide +kernel
theorem dX5_bestTrade_34 : decode cX5_bestTrade 34 = .ok (.if_icmp .ge 78, 3) := by decide +kernel
theorem dX5_bestTrade_37 : decode cX5_bestTrade 37 = .ok (.aload_n 0, 1) := by decide +kernel
theorem dX5_bestTrade_38 : decode cX5_bestTrade 38 = .ok (.getfield 7, 3) := by decide +kernel
theorem dX5_bestTrade_41 : decode cX5_bestTrade 41 = .ok (.iconst 5, 1) := by decide +kernel
theorem dX5_bestTrade_42 : decode cX5_bestTrade 42 = .ok (.iload_n 3, 1) := by decide +kernel
theorem dX5_bestTrade_43 : decode cX5_bestTrade 43 = .ok (.iadd, 1) := by decide +kernel
theorem dX5_bestTrade_44 : decode cX5_bestTrade 44 = .ok (.iaload, 1) := by decide +kernel
theorem dX5_bestTrade_45 : decode cX5_bestTrade 45 = .ok (.aload_n 0, 1) := by decide +kernel
theorem dX5_bestTrade_46 : decode cX5_bestTrade 46 = .ok (.getfield 7, 3) := by decide +kernel
theorem dX5_bestTrade_49 : decode cX5_bestTrade 49 = .ok (.iconst 5, 1) := by decide +kernel
theorem dX5_bestTrade_50 : decode cX5_bestTrade 50 = .ok (.iload 4, 2) := by decide +kernel
theorem dX5_bestTrade_52 : decode cX5_bestTrade 52 = .ok (.iadd, 1) := by decide +kernel
theorem dX5_bestTrade_53 : decode cX5_bestTrade 53 = .ok (.iaload, 1) := by decide +kernel
theorem dX5_bestTrade_54 : decode cX5_bestTrade 54 = .ok (.if_icmp .eq 52, 3) := by decide +kernel
theorem dX5_bestTrade_57 : decode cX5_bestTrade 57 = .ok (.aload_n 0, 1) := by decide +kernel
theorem dX5_bestTrade_58 : decode cX5_bestTrade 58 = .ok (.iload_n 3, 1) := by decide +kernel
theorem dX5_bestTrade_59 : decode cX5_bestTrade 59 = .ok (.iload 4, 2) := by decide +kernel
theorem dX5_bestTrade_61 : decode cX5_bestTrade 61 = .ok (.invokevirtual 97, 3) := by decide +kernel
theorem dX5_bestTrade_64 : decode cX5_bestTrade 64 = .ok (.aload_n 0, 1) := by decide +kernel
theorem dX5_bestTrade_65 : decode cX5_bestTrade 65 = .ok (.iconst 4, 1) := by decide +kernel
theorem dX5_bestTrade_66 : decode cX5_bestTrade 66 = .ok (.invokevirtual 106, 3) := by decide +kernel
theorem dX5_bestTrade_69 : decode cX5_bestTrade 69 = .ok (.istore 5, 2) := by decide +kernel
theorem dX5_bestTrade_71 : decode cX5_bestTrade 71 = .ok (.iload 5, 2) := by decide +kernel
theorem dX5_bestTrade_73 : decode cX5_bestTrade 73 = .ok (.iload_n 2, 1) := by decide +kernel
theorem dX5_bestTrade_74 : decode cX5_bestTrade 74 = .ok (.if_icmp .le 13, 3) := by decide +kernel
theorem dX5_bestTrade_77 : decode cX5_bestTrade 77 = .ok (.bipush 8, 2) := by decide +kernel
theorem dX5_bestTrade_79 : decode cX5_bestTrade 79 = .ok (.iload_n 3, 1) := by decide +kernel
theorem dX5_bestTrade_80 : decode cX5_bestTrade 80 = .ok (.imul, 1) := by decide +kernel
theorem dX5_bestTrade_81 : decode cX5_bestTrade 81 = .ok (.iload 4, 2) := by decide +kernel
theorem dX5_bestTrade_83 : decode cX5_bestTrade 83 = .ok (.iadd, 1) := by decide +kernel
theorem dX5_bestTrade_84 : decode cX5_bestTrade 84 = .ok (.goto 4, 3) := by decide +kernel
theorem dX5_bestTrade_87 : decode cX5_bestTrade 87 = .ok (.iload_n 1, 1) := by decide +kernel
theorem dX5_bestTrade_88 : decode cX5_bestTrade 88 = .ok (.istore_n 1, 1) := by decide +kernel
theorem dX5_bestTrade_89 : decode cX5_bestTrade 89 = .ok (.iload 5, 2) := by decide +kernel
theorem dX5_bestTrade_91 : decode cX5_bestTrade 91 = .ok (.iload_n 2, 1) := by decide +kernel
theorem dX5_bestTrade_92 : decode cX5_bestTrade 92 = .ok (.if_icmp .le 8, 3) := by decide +kernel
theorem dX5_bestTrade_95 : decode cX5_bestTrade 95 = .ok (.iload 5, 2) := by decide +kernel
theorem dX5_bestTrade_97 : decode cX5_bestTrade 97 = .ok (.goto 4, 3) := by decide +kernel
theorem dX5_bestTrade_100 : decode cX5_bestTrade 100 = .ok (.iload_n 2, 1) := by decide +kernel
theorem dX5_bestTrade_101 : decode cX5_bestTrade 101 = .ok (.istore_n 2, 1) := by decide +kernel
theorem dX5_bestTrade_102 : decode cX5_bestTrade 102 = .ok (.aload_n 0, 1) := by decide +kernel
theorem dX5_bestTrade_103 : decode cX5_bestTrade 103 = .ok (.invokevirtual 115, 3) := by decide +kernel
theorem dX5_bestTrade_106 : decode cX5_bestTrade 106 = .ok (.iinc 4 1, 3) := by decide +kernel
theorem dX5_bestTrade_109 : decode cX5_bestTrade 109 = .ok (.goto (-79), 3) := by decide +kernel
theorem dX5_bestTrade_112 : decode cX5_bestTrade 112 = .ok (.iinc 3 1, 3) := by decide +kernel
theorem dX5_bestTrade_115 : decode cX5_bestTrade 115 = .ok (.goto (-96), 3) := by decide +kernel
theorem dX5_bestTrade_118 : decode cX5_bestTrade 118 = .ok (.iload_n 1, 1) := by decide +kernel
theorem dX5_bestTrade_119 : decode cX5_bestTrade 119 = .ok (.ireturn, 1) := by decide +kernel
theorem dX5_leastLimit_0 : decode cX5_leastLimit 0 = .ok (.aload_n 0, 1) := by decide +kernel
theorem dX5_leastLimit_1 : decode cX5_leastLimit 1 = .ok (.invokevirtual 112, 3) := by decide +kernel
theorem dX5_leastLimit_4 : decode cX5_leastLimit 4 = .ok (.bipush 8, 2) := by decide +kernel
theorem dX5_leastLimit_6 : decode cX5_leastLimit 6 = .ok (.istore_n 1, 1) := by decide +kernel
theorem dX5_leastLimit_7 : decode cX5_leastLimit 7 = .ok (.bipush 8, 2) := by decide +kernel
theorem dX5_leastLimit_9 : decode cX5_leastLimit 9 = .ok (.istore_n 2, 1) := by decide +kernel
theorem dX5_leastLimit_10 : decode cX5_leastLimit 10 = .ok (.iload_n 2, 1) := by decide +kernel
theorem dX5_leastLimit_11 : decode cX5_leastLimit 11 = .ok (.ifCond .lt 47, 3) := by decide +kernel
theorem dX5_leastLimit_14 : decode cX5_leastLimit 14 = .ok (.aload_n 0, 1) := by decide +kernel
theorem dX5_leastLimit_15 : decode cX5_leastLimit 15 = .ok (.invokevirtual 139, 3) := by decide +kernel
theorem dX5_leastLimit_18 : decode cX5_leastLimit 18 = .ok (.istore_n 3, 1) := by decide +kernel
theorem dX5_leastLimit_19 : decode cX5_leastLimit 19 = .ok (.aload_n 0, 1) := by decide +kernel
theorem dX5_leastLimit_20 : decode cX5_leastLimit 20 = .ok (.getfield 7, 3) := by decide +kernel
theorem dX5_leastLimit_23 : decode cX5_leastLimit 23 = .ok (.iconst 1, 1) := by decide +kernel
theorem dX5_leastLimit_24 : decode cX5_leastLimit 24 = .ok (.iload_n 2, 1) := by decide +kernel
theorem dX5_leastLimit_25 : decode cX5_leastLimit 25 = .ok (.iastore, 1) := by decide +kernel
theorem dX5_leastLimit_26 : decode cX5_leastLimit 26 = .ok (.aload_n 0, 1) := by decide +kernel
theorem dX5_leastLimit_27 : decode cX5_leastLimit 27 = .ok (.bipush 100, 2) := by decide +kernel
theorem dX5_leastLimit_29 : decode cX5_leastLimit 29 = .ok (.invokevirtual 106, 3) := by decide +kernel
theorem dX5_leastLimit_32 : decode cX5_leastLimit 32 = .ok (.istore 4, 2) := by decide +kernel
theorem dX5_leastLimit_34 : decode cX5_leastLimit 34 = .ok (.aload_n 0, 1) := by decide +kernel
theorem dX5_leastLimit_35 : decode cX5_leastLimit 35 = .ok (.invokevirtual 139, 3) := by decide +kernel
theorem dX5_leastLimit_38 : decode cX5_leastLimit 38 = .ok (.iload_n 3, 1) := by decide +kernel
theorem dX5_leastLimit_39 : decode cX5_leastLimit 39 = .ok (.if_icmp .ne 7, 3) := by decide +kernel
theorem dX5_leastLimit_42 : decode cX5_leastLimit 42 = .ok (.iload_n 2, 1) := by decide +kernel
theorem dX5_leastLimit_43 : decode cX5_leastLimit 43 = .ok (.goto 4, 3) := by decide +kernel
theorem dX5_leastLimit_46 : decode cX5_leastLimit 46 = .ok (.iload_n 1, 1) := by decide +kernel
theorem dX5_leastLimit_47 : decode cX5_leastLimit 47 = .ok (.istore_n 1, 1) := by decide +kernel
theorem dX5_leastLimit_48 : decode cX5_leastLimit 48 = .ok (.aload_n 0, 1) := by decide +kernel
theorem dX5_leastLimit_49 : decode cX5_leastLimit 49 = .ok (.invokevirtual 115, 3) := by decide +kernel
theorem dX5_leastLimit_52 : decode cX5_leastLimit 52 = .ok (.iinc 2 (-1), 3) := by decide +kernel
theorem dX5_leastLimit_55 : decode cX5_leastLimit 55 = .ok (.goto (-45), 3) := by decide +kernel
theorem dX5_leastLimit_58 : decode cX5_leastLimit 58 = .ok (.iload_n 1, 1) := by decide +kernel
theorem dX5_leastLimit_59 : decode cX5_leastLimit 59 = .ok (.ireturn, 1) := by decide +kernel
theorem dX5_put_0 : decode cX5_put 0 = .ok (.iconst 0, 1) := by decide +kernel
theorem dX5_put_1 : decode cX5_put 1 = .ok (.istore_n 3, 1) := by decide +kernel
theorem dX5_put_2 : decode cX5_put 2 = .ok (.iconst 0, 1) := by decide +kernel
theorem dX5_put_3 : decode cX5_put 3 = .ok (.istore 4, 2) := by decide +kernel
theorem dX5_put_5 : decode cX5_put 5 = .ok (.iconst 0, 1) := by decide +kernel
theorem dX5_put_6 : decode cX5_put 6 = .ok (.istore 5, 2) := by decide +kernel
theorem dX5_put_8 : decode cX5_put 8 = .ok (.iload 5, 2) := by decide +kernel
theorem dX5_put_10 : decode cX5_put 10 = .ok (.bipush 8, 2) := by decide +kernel
theorem dX5_put_12 : decode cX5_put 12 = .ok (.if_icmp .ge 89, 3) := by decide +kernel
theorem dX5_put_15 : decode cX5_put 15 = .ok (.lload_n 1, 1) := by decide +kernel
theorem dX5_put_16 : decode cX5_put 16 = .ok (.bipush 8, 2) := by decide +kernel
theorem dX5_put_18 : decode cX5_put 18 = .ok (.iload 5, 2) := by decide +kernel
theorem dX5_put_20 : decode cX5_put 20 = .ok (.imul, 1) := by decide +kernel
theorem dX5_put_21 : decode cX5_put 21 = .ok (.lushr, 1) := by decide +kernel
theorem dX5_put_22 : decode cX5_put 22 = .ok (.ldc2_w 142, 3) := by decide +kernel
theorem dX5_put_25 : decode cX5_put 25 = .ok (.land, 1) := by decide +kernel
theorem dX5_put_26 : decode cX5_put 26 = .ok (.l2i, 1) := by decide +kernel
theorem dX5_put_27 : decode cX5_put 27 = .ok (.istore 6, 2) := by decide +kernel
theorem dX5_put_29 : decode cX5_put 29 = .ok (.iload 5, 2) := by decide +kernel
theorem dX5_put_31 : decode cX5_put 31 = .ok (.ifCond .le 19, 3) := by decide +kernel
theorem dX5_put_34 : decode cX5_put 34 = .ok (.lload_n 1, 1) := by decide +kernel
theorem dX5_put_35 : decode cX5_put 35 = .ok (.bipush 8, 2) := by decide +kernel
theorem dX5_put_37 : decode cX5_put 37 = .ok (.iload 5, 2) := by decide +kernel
theorem dX5_put_39 : decode cX5_put 39 = .ok (.imul, 1) := by decide +kernel
theorem dX5_put_40 : decode cX5_put 40 = .ok (.lushr, 1) := by decide +kernel
theorem dX5_put_41 : decode cX5_put 41 = .ok (.lconst 0, 1) := by decide +kernel
theorem dX5_put_42 : decode cX5_put 42 = .ok (.lcmp, 1) := by decide +kernel
theorem dX5_put_43 : decode cX5_put 43 = .ok (.ifCond .ne 7, 3) := by decide +kernel
theorem dX5_put_46 : decode cX5_put 46 = .ok (.iconst 1, 1) := by decide +kernel
theorem dX5_put_47 : decode cX5_put 47 = .ok (.goto 4, 3) := by decide +kernel
theorem dX5_put_50 : decode cX5_put 50 = .ok (.iconst 0, 1) := by decide +kernel
theorem dX5_put_51 : decode cX5_put 51 = .ok (.istore 7, 2) := by decide +kernel
theorem dX5_put_53 : decode cX5_put 53 = .ok (.iload 4, 2) := by decide +kernel
theorem dX5_put_55 : decode cX5_put 55 = .ok (.ifCond .ne 20, 3) := by decide +kernel
theorem dX5_put_58 : decode cX5_put 58 = .ok (.iload 7, 2) := by decide +kernel
theorem dX5_put_60 : decode cX5_put 60 = .ok (.ifCond .ne 19, 3) := by decide +kernel
theorem dX5_put_63 : decode cX5_put 63 = .ok (.iload 6, 2) := by decide +kernel
theorem dX5_put_65 : decode cX5_put 65 = .ok (.bipush 33, 2) := by decide +kernel
theorem dX5_put_67 : decode cX5_put 67 = .ok (.bipush 126, 2) := by decide +kernel
theorem dX5_put_69 : decode cX5_put 69 = .ok (.invokestatic 38, 3) := by decide +kernel
theorem dX5_put_72 : decode cX5_put 72 = .ok (.ifCond .ne 7, 3) := by decide +kernel
theorem dX5_put_75 : decode cX5_put 75 = .ok (.iconst 1, 1) := by decide +kernel
theorem dX5_put_76 : decode cX5_put 76 = .ok (.goto 4, 3) := by decide +kernel
theorem dX5_put_79 : decode cX5_put 79 = .ok (.iconst 0, 1) := by decide +kernel
theorem dX5_put_80 : decode cX5_put 80 = .ok (.istore 4, 2) := by decide +kernel
theorem dX5_put_82 : decode cX5_put 82 = .ok (.iload_n 3, 1) := by decide +kernel
theorem dX5_put_83 : decode cX5_put 83 = .ok (.iload 7, 2) := by decide +kernel
theorem dX5_put_85 : decode cX5_put 85 = .ok (.ifCond .eq 7, 3) := by decide +kernel
theorem dX5_put_88 : decode cX5_put 88 = .ok (.iconst 0, 1) := by decide +kernel
theorem dX5_put_89 : decode cX5_put 89 = .ok (.goto 4, 3) := by decide +kernel
theorem dX5_put_92 : decode cX5_put 92 = .ok (.iconst 1, 1) := by decide +kernel
theorem dX5_put_93 : decode cX5_put 93 = .ok (.iadd, 1) := by decide +kernel
theorem dX5_put_94 : decode cX5_put 94 = .ok (.istore_n 3, 1) := by decide +kernel
theorem dX5_put_95 : decode cX5_put 95 = .ok (.iinc 5 1, 3) := by decide +kernel
theorem dX5_put_98 : decode cX5_put 98 = .ok (.goto (-90), 3) := by decide +kernel
theorem dX5_put_101 : decode cX5_put 101 = .ok (.iload 4, 2) := by decide +kernel
theorem dX5_put_103 : decode cX5_put 103 = .ok (.ifCond .eq 6, 3) := by decide +kernel
theorem dX5_put_106 : decode cX5_put 106 = .ok (.bipush (-2), 2) := by decide +kernel
theorem dX5_put_108 : decode cX5_put 108 = .ok (.ireturn, 1) := by decide +kernel
theorem dX5_put_109 : decode cX5_put 109 = .ok (.aload_n 0, 1) := by decide +kernel
theorem dX5_put_110 : decode cX5_put 110 = .ok (.getfield 136, 3) := by decide +kernel
theorem dX5_put_113 : decode cX5_put 113 = .ok (.iload_n 3, 1) := by decide +kernel
theorem dX5_put_114 : decode cX5_put 114 = .ok (.iadd, 1) := by decide +kernel
theorem dX5_put_115 : decode cX5_put 115 = .ok (.bipush 60, 2) := by decide +kernel
theorem dX5_put_117 : decode cX5_put 117 = .ok (.if_icmp .le 6, 3) := by decide +kernel
theorem dX5_put_120 : decode cX5_put 120 = .ok (.bipush (-4), 2) := by decide +kernel
theorem dX5_put_122 : decode cX5_put 122 = .ok (.ireturn, 1) := by decide +kernel
theorem dX5_put_123 : decode cX5_put 123 = .ok (.iconst 0, 1) := by decide +kernel
theorem dX5_put_124 : decode cX5_put 124 = .ok (.istore 5, 2) := by decide +kernel
theorem dX5_put_126 : decode cX5_put 126 = .ok (.iload 5, 2) := by decide +kernel
theorem dX5_put_128 : decode cX5_put 128 = .ok (.iload_n 3, 1) := by decide +kernel
theorem dX5_put_129 : decode cX5_put 129 = .ok (.if_icmp .ge 37, 3) := by decide +kernel
theorem dX5_put_132 : decode cX5_put 132 = .ok (.aload_n 0, 1) := by decide +kernel
theorem dX5_put_133 : decode cX5_put 133 = .ok (.getfield 26, 3) := by decide +kernel
theorem dX5_put_136 : decode cX5_put 136 = .ok (.aload_n 0, 1) := by decide +kernel
theorem dX5_put_137 : decode cX5_put 137 = .ok (.getfield 136, 3) := by decide +kernel
theorem dX5_put_140 : decode cX5_put 140 = .ok (.iload_n 3, 1) := by decide +kernel
theorem dX5_put_141 : decode cX5_put 141 = .ok (.iadd, 1) := by decide +kernel
theorem dX5_put_142 : decode cX5_put 142 = .ok (.iconst 1, 1) := by decide +kernel
theorem dX5_put_143 : decode cX5_put 143 = .ok (.isub, 1) := by decide +kernel
theorem dX5_put_144 : decode cX5_put 144 = .ok (.iload 5, 2) := by decide +kernel
theorem dX5_put_146 : decode cX5_put 146 = .ok (.isub, 1) := by decide +kernel
theorem dX5_put_147 : decode cX5_put 147 = .ok (.lload_n 1, 1) := by decide +kernel
theorem dX5_put_148 : decode cX5_put 148 = .ok (.bipush 8, 2) := by decide +kernel
theorem dX5_put_150 : decode cX5_put 150 = .ok (.iload 5, 2) := by decide +kernel
theorem dX5_put_152 : decode cX5_put 152 = .ok (.imul, 1) := by decide +kernel
theorem dX5_put_153 : decode cX5_put 153 = .ok (.lushr, 1) := by decide +kernel
theorem dX5_put_154 : decode cX5_put 154 = .ok (.ldc2_w 142, 3) := by decide +kernel
theorem dX5_put_157 : decode cX5_put 157 = .ok (.land, 1) := by decide +kernel
theorem dX5_put_158 : decode cX5_put 158 = .ok (.l2i, 1) := by decide +kernel
theorem dX5_put_159 : decode cX5_put 159 = .ok (.iastore, 1) := by decide +kernel
theorem dX5_put_160 : decode cX5_put 160 = .ok (.iinc 5 1, 3) := by decide +kernel
theorem dX5_put_163 : decode cX5_put 163 = .ok (.goto (-37), 3) := by decide +kernel
theorem dX5_put_166 : decode cX5_put 166 = .ok (.aload_n 0, 1) := by decide +kernel
theorem dX5_put_167 : decode cX5_put 167 = .ok (.dup, 1) := by decide +kernel
theorem dX5_put_168 : decode cX5_put 168 = .ok (.getfield 136, 3) := by decide +kernel
theorem dX5_put_171 : decode cX5_put 171 = .ok (.iload_n 3, 1) := by decide +kernel
theorem dX5_put_172 : decode cX5_put 172 = .ok (.iadd, 1) := by decide +kernel
theorem dX5_put_173 : decode cX5_put 173 = .ok (.putfield 136, 3) := by decide +kernel
theorem dX5_put_176 : decode cX5_put 176 = .ok (.aload_n 0, 1) := by decide +kernel
theorem dX5_put_177 : decode cX5_put 177 = .ok (.getfield 136, 3) := by decide +kernel
theorem dX5_put_180 : decode cX5_put 180 = .ok (.ireturn, 1) := by decide +kernel
theorem dX5_wipe_0 : decode cX5_wipe 0 = .ok (.aload_n 0, 1) := by decide +kernel
theorem dX5_wipe_1 : decode cX5_wipe 1 = .ok (.getfield 136, 3) := by decide +kernel
theorem dX5_wipe_4 : decode cX5_wipe 4 = .ok (.istore_n 1, 1) := by decide +kernel
theorem dX5_wipe_5 : decode cX5_wipe 5 = .ok (.aload_n 0, 1) := by decide +kernel
theorem dX5_wipe_6 : decode cX5_wipe 6 = .ok (.iconst 0, 1) := by decide +kernel
theorem dX5_wipe_7 : decode cX5_wipe 7 = .ok (.putfield 136, 3) := by decide +kernel
theorem dX5_wipe_10 : decode cX5_wipe 10 = .ok (.iload_n 1, 1) := by decide +kernel
theorem dX5_wipe_11 : decode cX5_wipe 11 = .ok (.ireturn, 1) := by decide +kernel
theorem dX5_next_0 : decode cX5_next 0 = .ok (.iload_n 1, 1) := by decide +kernel
theorem dX5_next_1 : decode cX5_next 1 = .ok (.aload_n 0, 1) := by decide +kernel
theorem dX5_next_2 : decode cX5_next 2 = .ok (.getfield 136, 3) := by decide +kernel
theorem dX5_next_5 : decode cX5_next 5 = .ok (.if_icmp .ge 12, 3) := by decide +kernel
theorem dX5_next_8 : decode cX5_next 8 = .ok (.aload_n 0, 1) := by decide +kernel
theorem dX5_next_9 : decode cX5_next 9 = .ok (.getfield 26, 3) := by decide +kernel
theorem dX5_next_12 : decode cX5_next 12 = .ok (.iload_n 1, 1) := by decide +kernel
theorem dX5_next_13 : decode cX5_next 13 = .ok (.iaload, 1) := by decide +kernel
theorem dX5_next_14 : decode cX5_next 14 = .ok (.goto 4, 3) := by decide +kernel
theorem dX5_next_17 : decode cX5_next 17 = .ok (.iconst 0, 1) := by decide +kernel
theorem dX5_next_18 : decode cX5_next 18 = .ok (.ireturn, 1) := by decide +kernel
theorem dX5_isWordAt_0 : decode cX5_isWordAt 0 = .ok (.aload_n 0, 1) := by decide +kernel
theorem dX5_isWordAt_1 : decode cX5_isWordAt 1 = .ok (.iload_n 1, 1) := by decide +kernel
theorem dX5_isWordAt_2 : decode cX5_isWordAt 2 = .ok (.invokevirtual 144, 3) := by decide +kernel
theorem dX5_isWordAt_5 : decode cX5_isWordAt 5 = .ok (.bipush 97, 2) := by decide +kernel
theorem dX5_isWordAt_7 : decode cX5_isWordAt 7 = .ok (.bipush 122, 2) := by decide +kernel
theorem dX5_isWordAt_9 : decode cX5_isWordAt 9 = .ok (.invokestatic 38, 3) := by decide +kernel
theorem dX5_isWordAt_12 : decode cX5_isWordAt 12 = .ok (.ireturn, 1) := by decide +kernel
theorem dX5_right_0 : decode cX5_right 0 = .ok (.aload_n 0, 1) := by decide +kernel
theorem dX5_right_1 : decode cX5_right 1 = .ok (.iload_n 1, 1) := by decide +kernel
theorem dX5_right_2 : decode cX5_right 2 = .ok (.invokevirtual 144, 3) := by decide +kernel
theorem dX5_right_5 : decode cX5_right 5 = .ok (.bipush 48, 2) := by decide +kernel
theorem dX5_right_7 : decode cX5_right 7 = .ok (.bipush 52, 2) := by decide +kernel
theorem dX5_right_9 : decode cX5_right 9 = .ok (.invokestatic 38, 3) := by decide +kernel
theorem dX5_right_12 : decode cX5_right 12 = .ok (.ifCond .ne 5, 3) := by decide +kernel
theorem dX5_right_15 : decode cX5_right 15 = .ok (.iconst 0, 1) := by decide +kernel
theorem dX5_right_16 : decode cX5_right 16 = .ok (.ireturn, 1) := by decide +kernel
theorem dX5_right_17 : decode cX5_right 17 = .ok (.aload_n 0, 1) := by decide +kernel
theorem dX5_right_18 : decode cX5_right 18 = .ok (.iload_n 1, 1) := by decide +kernel
theorem dX5_right_19 : decode cX5_right 19 = .ok (.iconst 1, 1) := by decide +kernel
theorem dX5_right_20 : decode cX5_right 20 = .ok (.iadd, 1) := by decide +kernel
theorem dX5_right_21 : decode cX5_right 21 = .ok (.invokevirtual 144, 3) := by decide +kernel
theorem dX5_right_24 : decode cX5_right 24 = .ok (.bipush 62, 2) := by decide +kernel
theorem dX5_right_26 : decode cX5_right 26 = .ok (.if_icmp .eq 17, 3) := by decide +kernel
theorem dX5_right_29 : decode cX5_right 29 = .ok (.aload_n 0, 1) := by decide +kernel
theorem dX5_right_30 : decode cX5_right 30 = .ok (.iload_n 1, 1) := by decide +kernel
theorem dX5_right_31 : decode cX5_right 31 = .ok (.iconst 1, 1) := by decide +kernel
theorem dX5_right_32 : decode cX5_right 32 = .ok (.iadd, 1) := by decide +kernel
theorem dX5_right_33 : decode cX5_right 33 = .ok (.invokevirtual 144, 3) := by decide +kernel
theorem dX5_right_36 : decode cX5_right 36 = .ok (.bipush 60, 2) := by decide +kernel
theorem dX5_right_38 : decode cX5_right 38 = .ok (.if_icmp .eq 5, 3) := by decide +kernel
theorem dX5_right_41 : decode cX5_right 41 = .ok (.iconst 1, 1) := by decide +kernel
theorem dX5_right_42 : decode cX5_right 42 = .ok (.ireturn, 1) := by decide +kernel
theorem dX5_right_43 : decode cX5_right 43 = .ok (.iconst 2, 1) := by decide +kernel
theorem dX5_right_44 : decode cX5_right 44 = .ok (.istore_n 2, 1) := by decide +kernel
theorem dX5_right_45 : decode cX5_right 45 = .ok (.iload_n 2, 1) := by decide +kernel
theorem dX5_right_46 : decode cX5_right 46 = .ok (.bipush 10, 2) := by decide +kernel
theorem dX5_right_48 : decode cX5_right 48 = .ok (.if_icmp .ge 19, 3) := by decide +kernel
theorem dX5_right_51 : decode cX5_right 51 = .ok (.aload_n 0, 1) := by decide +kernel
theorem dX5_right_52 : decode cX5_right 52 = .ok (.iload_n 1, 1) := by decide +kernel
theorem dX5_right_53 : decode cX5_right 53 = .ok (.iload_n 2, 1) := by decide +kernel
theorem dX5_right_54 : decode cX5_right 54 = .ok (.iadd, 1) := by decide +kernel
theorem dX5_right_55 : decode cX5_right 55 = .ok (.invokevirtual 147, 3) := by decide +kernel
theorem dX5_right_58 : decode cX5_right 58 = .ok (.ifCond .eq 9, 3) := by decide +kernel
theorem dX5_right_61 : decode cX5_right 61 = .ok (.iinc 2 1, 3) := by decide +kernel
theorem dX5_right_64 : decode cX5_right 64 = .ok (.goto (-19), 3) := by decide +kernel
theorem dX5_right_67 : decode cX5_right 67 = .ok (.iload_n 2, 1) := by decide +kernel
theorem dX5_right_68 : decode cX5_right 68 = .ok (.ireturn, 1) := by decide +kernel
theorem dX5_wrong_0 : decode cX5_wrong 0 = .ok (.iconst 0, 1) := by decide +kernel
theorem dX5_wrong_1 : decode cX5_wrong 1 = .ok (.istore_n 1, 1) := by decide +kernel
theorem dX5_wrong_2 : decode cX5_wrong 2 = .ok (.aload_n 0, 1) := by decide +kernel
theorem dX5_wrong_3 : decode cX5_wrong 3 = .ok (.iconst 0, 1) := by decide +kernel
theorem dX5_wrong_4 : decode cX5_wrong 4 = .ok (.putfield 150, 3) := by decide +kernel
theorem dX5_wrong_7 : decode cX5_wrong 7 = .ok (.iconst 1, 1) := by decide +kernel
theorem dX5_wrong_8 : decode cX5_wrong 8 = .ok (.istore_n 2, 1) := by decide +kernel
theorem dX5_wrong_9 : decode cX5_wrong 9 = .ok (.iload_n 2, 1) := by decide +kernel
theorem dX5_wrong_10 : decode cX5_wrong 10 = .ok (.ifCond .eq 76, 3) := by decide +kernel
theorem dX5_wrong_13 : decode cX5_wrong 13 = .ok (.aload_n 0, 1) := by decide +kernel
theorem dX5_wrong_14 : decode cX5_wrong 14 = .ok (.iload_n 1, 1) := by decide +kernel
theorem dX5_wrong_15 : decode cX5_wrong 15 = .ok (.invokevirtual 153, 3) := by decide +kernel
theorem dX5_wrong_18 : decode cX5_wrong 18 = .ok (.istore_n 3, 1) := by decide +kernel
theorem dX5_wrong_19 : decode cX5_wrong 19 = .ok (.iload_n 1, 1) := by decide +kernel
theorem dX5_wrong_20 : decode cX5_wrong 20 = .ok (.iload_n 3, 1) := by decide +kernel
theorem dX5_wrong_21 : decode cX5_wrong 21 = .ok (.iadd, 1) := by decide +kernel
theorem dX5_wrong_22 : decode cX5_wrong 22 = .ok (.istore_n 1, 1) := by decide +kernel
theorem dX5_wrong_23 : decode cX5_wrong 23 = .ok (.iload_n 3, 1) := by decide +kernel
theorem dX5_wrong_24 : decode cX5_wrong 24 = .ok (.iconst 3, 1) := by decide +kernel
theorem dX5_wrong_25 : decode cX5_wrong 25 = .ok (.if_icmp .ge 5, 3) := by decide +kernel
theorem dX5_wrong_28 : decode cX5_wrong 28 = .ok (.iload_n 1, 1) := by decide +kernel
theorem dX5_wrong_29 : decode cX5_wrong 29 = .ok (.ireturn, 1) := by decide +kernel
theorem dX5_wrong_30 : decode cX5_wrong 30 = .ok (.aload_n 0, 1) := by decide +kernel
theorem dX5_wrong_31 : decode cX5_wrong 31 = .ok (.dup, 1) := by decide +kernel
theorem dX5_wrong_32 : decode cX5_wrong 32 = .ok (.getfield 150, 3) := by decide +kernel
theorem dX5_wrong_35 : decode cX5_wrong 35 = .ok (.iconst 1, 1) := by decide +kernel
theorem dX5_wrong_36 : decode cX5_wrong 36 = .ok (.iadd, 1) := by decide +kernel
theorem dX5_wrong_37 : decode cX5_wrong 37 = .ok (.putfield 150, 3) := by decide +kernel
theorem dX5_wrong_40 : decode cX5_wrong 40 = .ok (.iload_n 1, 1) := by decide +kernel
theorem dX5_wrong_41 : decode cX5_wrong 41 = .ok (.aload_n 0, 1) := by decide +kernel
theorem dX5_wrong_42 : decode cX5_wrong 42 = .ok (.getfield 136, 3) := by decide +kernel
theorem dX5_wrong_45 : decode cX5_wrong 45 = .ok (.if_icmp .ge 7, 3) := by decide +kernel
theorem dX5_wrong_48 : decode cX5_wrong 48 = .ok (.iconst 1, 1) := by decide +kernel
theorem dX5_wrong_49 : decode cX5_wrong 49 = .ok (.goto 4, 3) := by decide +kernel
theorem dX5_wrong_52 : decode cX5_wrong 52 = .ok (.iconst 0, 1) := by decide +kernel
theorem dX5_wrong_53 : decode cX5_wrong 53 = .ok (.istore_n 2, 1) := by decide +kernel
theorem dX5_wrong_54 : decode cX5_wrong 54 = .ok (.iload_n 2, 1) := by decide +kernel
theorem dX5_wrong_55 : decode cX5_wrong 55 = .ok (.ifCond .eq 16, 3) := by decide +kernel
theorem dX5_wrong_58 : decode cX5_wrong 58 = .ok (.aload_n 0, 1) := by decide +kernel
theorem dX5_wrong_59 : decode cX5_wrong 59 = .ok (.getfield 26, 3) := by decide +kernel
theorem dX5_wrong_62 : decode cX5_wrong 62 = .ok (.iload_n 1, 1) := by decide +kernel
theorem dX5_wrong_63 : decode cX5_wrong 63 = .ok (.iaload, 1) := by decide +kernel
theorem dX5_wrong_64 : decode cX5_wrong 64 = .ok (.bipush 44, 2) := by decide +kernel
theorem dX5_wrong_66 : decode cX5_wrong 66 = .ok (.if_icmp .eq 5, 3) := by decide +kernel
theorem dX5_wrong_69 : decode cX5_wrong 69 = .ok (.iload_n 1, 1) := by decide +kernel
theorem dX5_wrong_70 : decode cX5_wrong 70 = .ok (.ireturn, 1) := by decide +kernel
theorem dX5_wrong_71 : decode cX5_wrong 71 = .ok (.iload_n 1, 1) := by decide +kernel
theorem dX5_wrong_72 : decode cX5_wrong 72 = .ok (.iload_n 2, 1) := by decide +kernel
theorem dX5_wrong_73 : decode cX5_wrong 73 = .ok (.ifCond .eq 7, 3) := by decide +kernel
theorem dX5_wrong_76 : decode cX5_wrong 76 = .ok (.iconst 1, 1) := by decide +kernel
theorem dX5_wrong_77 : decode cX5_wrong 77 = .ok (.goto 4, 3) := by decide +kernel
theorem dX5_wrong_80 : decode cX5_wrong 80 = .ok (.iconst 0, 1) := by decide +kernel
theorem dX5_wrong_81 : decode cX5_wrong 81 = .ok (.iadd, 1) := by decide +kernel
theorem dX5_wrong_82 : decode cX5_wrong 82 = .ok (.istore_n 1, 1) := by decide +kernel
theorem dX5_wrong_83 : decode cX5_wrong 83 = .ok (.goto (-74), 3) := by decide +kernel
theorem dX5_wrong_86 : decode cX5_wrong 86 = .ok (.bipush (-6), 2) := by decide +kernel
theorem dX5_wrong_88 : decode cX5_wrong 88 = .ok (.ireturn, 1) := by decide +kernel
theorem dX5_fault_0 : decode cX5_fault 0 = .ok (.aload_n 0, 1) := by decide +kernel
theorem dX5_fault_1 : decode cX5_fault 1 = .ok (.invokevirtual 156, 3) := by decide +kernel
theorem dX5_fault_4 : decode cX5_fault 4 = .ok (.ireturn, 1) := by decide +kernel
theorem dX5_writes_0 : decode cX5_writes 0 = .ok (.aload_n 0, 1) := by decide +kernel
theorem dX5_writes_1 : decode cX5_writes 1 = .ok (.getfield 7, 3) := by decide +kernel
theorem dX5_writes_4 : decode cX5_writes 4 = .ok (.iconst 4, 1) := by decide +kernel
theorem dX5_writes_5 : decode cX5_writes 5 = .ok (.iaload, 1) := by decide +kernel
theorem dX5_writes_6 : decode cX5_writes 6 = .ok (.istore_n 3, 1) := by decide +kernel
theorem dX5_writes_7 : decode cX5_writes 7 = .ok (.aload_n 0, 1) := by decide +kernel
theorem dX5_writes_8 : decode cX5_writes 8 = .ok (.iload_n 1, 1) := by decide +kernel
theorem dX5_writes_9 : decode cX5_writes 9 = .ok (.iconst 1, 1) := by decide +kernel
theorem dX5_writes_10 : decode cX5_writes 10 = .ok (.iadd, 1) := by decide +kernel
theorem dX5_writes_11 : decode cX5_writes 11 = .ok (.invokevirtual 144, 3) := by decide +kernel
theorem dX5_writes_14 : decode cX5_writes 14 = .ok (.bipush 62, 2) := by decide +kernel
theorem dX5_writes_16 : decode cX5_writes 16 = .ok (.if_icmp .ne 7, 3) := by decide +kernel
theorem dX5_writes_19 : decode cX5_writes 19 = .ok (.iconst 0, 1) := by decide +kernel
theorem dX5_writes_20 : decode cX5_writes 20 = .ok (.goto 4, 3) := by decide +kernel
theorem dX5_writes_23 : decode cX5_writes 23 = .ok (.iconst 1, 1) := by decide +kernel
theorem dX5_writes_24 : decode cX5_writes 24 = .ok (.istore 4, 2) := by decide +kernel
theorem dX5_writes_26 : decode cX5_writes 26 = .ok (.aload_n 0, 1) := by decide +kernel
theorem dX5_writes_27 : decode cX5_writes 27 = .ok (.getfield 7, 3) := by decide +kernel
theorem dX5_writes_30 : decode cX5_writes 30 = .ok (.iconst 4, 1) := by decide +kernel
theorem dX5_writes_31 : decode cX5_writes 31 = .ok (.dup2, 1) := by decide +kernel
theorem dX5_writes_32 : decode cX5_writes 32 = .ok (.iaload, 1) := by decide +kernel
theorem dX5_writes_33 : decode cX5_writes 33 = .ok (.iconst 1, 1) := by decide +kernel
theorem dX5_writes_34 : decode cX5_writes 34 = .ok (.iadd, 1) := by decide +kernel
theorem dX5_writes_35 : decode cX5_writes 35 = .ok (.iastore, 1) := by decide +kernel
theorem dX5_writes_36 : decode cX5_writes 36 = .ok (.iconst 0, 1) := by decide +kernel
theorem dX5_writes_37 : decode cX5_writes 37 = .ok (.istore 5, 2) := by decide +kernel
theorem dX5_writes_39 : decode cX5_writes 39 = .ok (.iload 5, 2) := by decide +kernel
theorem dX5_writes_41 : decode cX5_writes 41 = .ok (.bipush 11, 2) := by decide +kernel
theorem dX5_writes_43 : decode cX5_writes 43 = .ok (.if_icmp .ge 21, 3) := by decide +kernel
theorem dX5_writes_46 : decode cX5_writes 46 = .ok (.aload_n 0, 1) := by decide +kernel
theorem dX5_writes_47 : decode cX5_writes 47 = .ok (.getfield 7, 3) := by decide +kernel
theorem dX5_writes_50 : decode cX5_writes 50 = .ok (.iload_n 3, 1) := by decide +kernel
theorem dX5_writes_51 : decode cX5_writes 51 = .ok (.iload 5, 2) := by decide +kernel
theorem dX5_writes_53 : decode cX5_writes 53 = .ok (.invokestatic 42, 3) := by decide +kernel
theorem dX5_writes_56 : decode cX5_writes 56 = .ok (.iconst 0, 1) := by decide +kernel
theorem dX5_writes_57 : decode cX5_writes 57 = .ok (.iastore, 1) := by decide +kernel
theorem dX5_writes_58 : decode cX5_writes 58 = .ok (.iinc 5 1, 3) := by decide +kernel
theorem dX5_writes_61 : decode cX5_writes 61 = .ok (.goto (-22), 3) := by decide +kernel
theorem dX5_writes_64 : decode cX5_writes 64 = .ok (.aload_n 0, 1) := by decide +kernel
theorem dX5_writes_65 : decode cX5_writes 65 = .ok (.getfield 7, 3) := by decide +kernel
theorem dX5_writes_68 : decode cX5_writes 68 = .ok (.iload_n 3, 1) := by decide +kernel
theorem dX5_writes_69 : decode cX5_writes 69 = .ok (.iconst 0, 1) := by decide +kernel
theorem dX5_writes_70 : decode cX5_writes 70 = .ok (.invokestatic 42, 3) := by decide +kernel
theorem dX5_writes_73 : decode cX5_writes 73 = .ok (.aload_n 0, 1) := by decide +kernel
theorem dX5_writes_74 : decode cX5_writes 74 = .ok (.iload_n 1, 1) := by decide +kernel
theorem dX5_writes_75 : decode cX5_writes 75 = .ok (.invokevirtual 144, 3) := by decide +kernel
theorem dX5_writes_78 : decode cX5_writes 78 = .ok (.bipush 48, 2) := by decide +kernel
theorem dX5_writes_80 : decode cX5_writes 80 = .ok (.isub, 1) := by decide +kernel
theorem dX5_writes_81 : decode cX5_writes 81 = .ok (.iastore, 1) := by decide +kernel
theorem dX5_writes_82 : decode cX5_writes 82 = .ok (.aload_n 0, 1) := by decide +kernel
theorem dX5_writes_83 : decode cX5_writes 83 = .ok (.getfield 7, 3) := by decide +kernel
theorem dX5_writes_86 : decode cX5_writes 86 = .ok (.iload_n 3, 1) := by decide +kernel
theorem dX5_writes_87 : decode cX5_writes 87 = .ok (.iconst 1, 1) := by decide +kernel
theorem dX5_writes_88 : decode cX5_writes 88 = .ok (.invokestatic 42, 3) := by decide +kernel
theorem dX5_writes_91 : decode cX5_writes 91 = .ok (.iload 4, 2) := by decide +kernel
theorem dX5_writes_93 : decode cX5_writes 93 = .ok (.iastore, 1) := by decide +kernel
theorem dX5_writes_94 : decode cX5_writes 94 = .ok (.aload_n 0, 1) := by decide +kernel
theorem dX5_writes_95 : decode cX5_writes 95 = .ok (.getfield 7, 3) := by decide +kernel
theorem dX5_writes_98 : decode cX5_writes 98 = .ok (.iload_n 3, 1) := by decide +kernel
theorem dX5_writes_99 : decode cX5_writes 99 = .ok (.iconst 3, 1) := by decide +kernel
theorem dX5_writes_100 : decode cX5_writes 100 = .ok (.invokestatic 42, 3) := by decide +kernel
theorem dX5_writes_103 : decode cX5_writes 103 = .ok (.aload_n 0, 1) := by decide +kernel
theorem dX5_writes_104 : decode cX5_writes 104 = .ok (.getfield 7, 3) := by decide +kernel
theorem dX5_writes_107 : decode cX5_writes 107 = .ok (.iconst 3, 1) := by decide +kernel
theorem dX5_writes_108 : decode cX5_writes 108 = .ok (.iaload, 1) := by decide +kernel
theorem dX5_writes_109 : decode cX5_writes 109 = .ok (.iastore, 1) := by decide +kernel
theorem dX5_writes_110 : decode cX5_writes 110 = .ok (.aload_n 0, 1) := by decide +kernel
theorem dX5_writes_111 : decode cX5_writes 111 = .ok (.getfield 7, 3) := by decide +kernel
theorem dX5_writes_114 : decode cX5_writes 114 = .ok (.iload_n 3, 1) := by decide +kernel
theorem dX5_writes_115 : decode cX5_writes 115 = .ok (.iconst 4, 1) := by decide +kernel
theorem dX5_writes_116 : decode cX5_writes 116 = .ok (.invokestatic 42, 3) := by decide +kernel
theorem dX5_writes_119 : decode cX5_writes 119 = .ok (.bipush (-6), 2) := by decide +kernel
theorem dX5_writes_121 : decode cX5_writes 121 = .ok (.iastore, 1) := by decide +kernel
theorem dX5_writes_122 : decode cX5_writes 122 = .ok (.aload_n 0, 1) := by decide +kernel
theorem dX5_writes_123 : decode cX5_writes 123 = .ok (.getfield 7, 3) := by decide +kernel
theorem dX5_writes_126 : decode cX5_writes 126 = .ok (.iload_n 3, 1) := by decide +kernel
theorem dX5_writes_127 : decode cX5_writes 127 = .ok (.bipush 7, 2) := by decide +kernel
theorem dX5_writes_129 : decode cX5_writes 129 = .ok (.invokestatic 42, 3) := by decide +kernel
theorem dX5_writes_132 : decode cX5_writes 132 = .ok (.bipush (-6), 2) := by decide +kernel
theorem dX5_writes_134 : decode cX5_writes 134 = .ok (.iastore, 1) := by decide +kernel
theorem dX5_writes_135 : decode cX5_writes 135 = .ok (.aload_n 0, 1) := by decide +kernel
theorem dX5_writes_136 : decode cX5_writes 136 = .ok (.getfield 7, 3) := by decide +kernel
theorem dX5_writes_139 : decode cX5_writes 139 = .ok (.iload_n 3, 1) := by decide +kernel
theorem dX5_writes_140 : decode cX5_writes 140 = .ok (.bipush 8, 2) := by decide +kernel
theorem dX5_writes_142 : decode cX5_writes 142 = .ok (.invokestatic 42, 3) := by decide +kernel
theorem dX5_writes_145 : decode cX5_writes 145 = .ok (.iload_n 2, 1) := by decide +kernel
theorem dX5_writes_146 : decode cX5_writes 146 = .ok (.iconst 2, 1) := by decide +kernel
theorem dX5_writes_147 : decode cX5_writes 147 = .ok (.isub, 1) := by decide +kernel
theorem dX5_writes_148 : decode cX5_writes 148 = .ok (.iastore, 1) := by decide +kernel
theorem dX5_writes_149 : decode cX5_writes 149 = .ok (.iload_n 2, 1) := by decide +kernel
theorem dX5_writes_150 : decode cX5_writes 150 = .ok (.iconst 3, 1) := by decide +kernel
theorem dX5_writes_151 : decode cX5_writes 151 = .ok (.isub, 1) := by decide +kernel
theorem dX5_writes_152 : decode cX5_writes 152 = .ok (.istore 5, 2) := by decide +kernel
theorem dX5_writes_154 : decode cX5_writes 154 = .ok (.iload 5, 2) := by decide +kernel
theorem dX5_writes_156 : decode cX5_writes 156 = .ok (.ifCond .lt 53, 3) := by decide +kernel
theorem dX5_writes_159 : decode cX5_writes 159 = .ok (.iload_n 3, 1) := by decide +kernel
theorem dX5_writes_160 : decode cX5_writes 160 = .ok (.bipush 9, 2) := by decide +kernel
theorem dX5_writes_162 : decode cX5_writes 162 = .ok (.iload 5, 2) := by decide +kernel
theorem dX5_writes_164 : decode cX5_writes 164 = .ok (.iconst 4, 1) := by decide +kernel
theorem dX5_writes_165 : decode cX5_writes 165 = .ok (.idiv, 1) := by decide +kernel
theorem dX5_writes_166 : decode cX5_writes 166 = .ok (.iadd, 1) := by decide +kernel
theorem dX5_writes_167 : decode cX5_writes 167 = .ok (.invokestatic 42, 3) := by decide +kernel
theorem dX5_writes_170 : decode cX5_writes 170 = .ok (.istore 6, 2) := by decide +kernel
theorem dX5_writes_172 : decode cX5_writes 172 = .ok (.aload_n 0, 1) := by decide +kernel
theorem dX5_writes_173 : decode cX5_writes 173 = .ok (.getfield 7, 3) := by decide +kernel
theorem dX5_writes_176 : decode cX5_writes 176 = .ok (.iload 6, 2) := by decide +kernel
theorem dX5_writes_178 : decode cX5_writes 178 = .ok (.bipush 26, 2) := by decide +kernel
theorem dX5_writes_180 : decode cX5_writes 180 = .ok (.aload_n 0, 1) := by decide +kernel
theorem dX5_writes_181 : decode cX5_writes 181 = .ok (.getfield 7, 3) := by decide +kernel
theorem dX5_writes_184 : decode cX5_writes 184 = .ok (.iload 6, 2) := by decide +kernel
theorem dX5_writes_186 : decode cX5_writes 186 = .ok (.iaload, 1) := by decide +kernel
theorem dX5_writes_187 : decode cX5_writes 187 = .ok (.imul, 1) := by decide +kernel
theorem dX5_writes_188 : decode cX5_writes 188 = .ok (.aload_n 0, 1) := by decide +kernel
theorem dX5_writes_189 : decode cX5_writes 189 = .ok (.iload_n 1, 1) := by decide +kernel
theorem dX5_writes_190 : decode cX5_writes 190 = .ok (.iconst 2, 1) := by decide +kernel
theorem dX5_writes_191 : decode cX5_writes 191 = .ok (.iadd, 1) := by decide +kernel
theorem dX5_writes_192 : decode cX5_writes 192 = .ok (.iload 5, 2) := by decide +kernel
theorem dX5_writes_194 : decode cX5_writes 194 = .ok (.iadd, 1) := by decide +kernel
theorem dX5_writes_195 : decode cX5_writes 195 = .ok (.invokevirtual 144, 3) := by decide +kernel
theorem dX5_writes_198 : decode cX5_writes 198 = .ok (.iadd, 1) := by decide +kernel
theorem dX5_writes_199 : decode cX5_writes 199 = .ok (.bipush 97, 2) := by decide +kernel
theorem dX5_writes_201 : decode cX5_writes 201 = .ok (.isub, 1) := by decide +kernel
theorem dX5_writes_202 : decode cX5_writes 202 = .ok (.iastore, 1) := by decide +kernel
theorem dX5_writes_203 : decode cX5_writes 203 = .ok (.iinc 5 (-1), 3) := by decide +kernel
theorem dX5_writes_206 : decode cX5_writes 206 = .ok (.goto (-52), 3) := by decide +kernel
theorem dX5_writes_209 : decode cX5_writes 209 = .ok (.aload_n 0, 1) := by decide +kernel
theorem dX5_writes_210 : decode cX5_writes 210 = .ok (.getfield 7, 3) := by decide +kernel
theorem dX5_writes_213 : decode cX5_writes 213 = .ok (.iload 4, 2) := by decide +kernel
theorem dX5_writes_215 : decode cX5_writes 215 = .ok (.aload_n 0, 1) := by decide +kernel
theorem dX5_writes_216 : decode cX5_writes 216 = .ok (.getfield 7, 3) := by decide +kernel
theorem dX5_writes_219 : decode cX5_writes 219 = .ok (.bipush 29, 2) := by decide +kernel
theorem dX5_writes_221 : decode cX5_writes 221 = .ok (.iload 4, 2) := by decide +kernel
theorem dX5_writes_223 : decode cX5_writes 223 = .ok (.iadd, 1) := by decide +kernel
theorem dX5_writes_224 : decode cX5_writes 224 = .ok (.iaload, 1) := by decide +kernel
theorem dX5_writes_225 : decode cX5_writes 225 = .ok (.invokestatic 69, 3) := by decide +kernel
theorem dX5_writes_228 : decode cX5_writes 228 = .ok (.iload_n 3, 1) := by decide +kernel
theorem dX5_writes_229 : decode cX5_writes 229 = .ok (.iastore, 1) := by decide +kernel
theorem dX5_writes_230 : decode cX5_writes 230 = .ok (.aload_n 0, 1) := by decide +kernel
theorem dX5_writes_231 : decode cX5_writes 231 = .ok (.getfield 7, 3) := by decide +kernel
theorem dX5_writes_234 : decode cX5_writes 234 = .ok (.bipush 29, 2) := by decide +kernel
theorem dX5_writes_236 : decode cX5_writes 236 = .ok (.iload 4, 2) := by decide +kernel
theorem dX5_writes_238 : decode cX5_writes 238 = .ok (.iadd, 1) := by decide +kernel
theorem dX5_writes_239 : decode cX5_writes 239 = .ok (.dup2, 1) := by decide +kernel
theorem dX5_writes_240 : decode cX5_writes 240 = .ok (.iaload, 1) := by decide +kernel
theorem dX5_writes_241 : decode cX5_writes 241 = .ok (.iconst 1, 1) := by decide +kernel
theorem dX5_writes_242 : decode cX5_writes 242 = .ok (.iadd, 1) := by decide +kernel
theorem dX5_writes_243 : decode cX5_writes 243 = .ok (.iastore, 1) := by decide +kernel
theorem dX5_writes_244 : decode cX5_writes 244 = .ok (.return_, 1) := by decide +kernel
theorem dX5_read_0 : decode cX5_read 0 = .ok (.aload_n 0, 1) := by decide +kernel
theorem dX5_read_1 : decode cX5_read 1 = .ok (.invokevirtual 156, 3) := by decide +kernel
theorem dX5_read_4 : decode cX5_read 4 = .ok (.bipush (-6), 2) := by decide +kernel
theorem dX5_read_6 : decode cX5_read 6 = .ok (.if_icmp .eq 6, 3) := by decide +kernel
theorem dX5_read_9 : decode cX5_read 9 = .ok (.bipush (-3), 2) := by decide +kernel
theorem dX5_read_11 : decode cX5_read 11 = .ok (.ireturn, 1) := by decide +kernel
theorem dX5_read_12 : decode cX5_read 12 = .ok (.aload_n 0, 1) := by decide +kernel
theorem dX5_read_13 : decode cX5_read 13 = .ok (.getfield 7, 3) := by decide +kernel
theorem dX5_read_16 : decode cX5_read 16 = .ok (.iconst 4, 1) := by decide +kernel
theorem dX5_read_17 : decode cX5_read 17 = .ok (.iaload, 1) := by decide +kernel
theorem dX5_read_18 : decode cX5_read 18 = .ok (.aload_n 0, 1) := by decide +kernel
theorem dX5_read_19 : decode cX5_read 19 = .ok (.getfield 150, 3) := by decide +kernel
theorem dX5_read_22 : decode cX5_read 22 = .ok (.iadd, 1) := by decide +kernel
theorem dX5_read_23 : decode cX5_read 23 = .ok (.bipush 40, 2) := by decide +kernel
theorem dX5_read_25 : decode cX5_read 25 = .ok (.if_icmp .le 6, 3) := by decide +kernel
theorem dX5_read_28 : decode cX5_read 28 = .ok (.bipush (-4), 2) := by decide +kernel
theorem dX5_read_30 : decode cX5_read 30 = .ok (.ireturn, 1) := by decide +kernel
theorem dX5_read_31 : decode cX5_read 31 = .ok (.aload_n 0, 1) := by decide +kernel
theorem dX5_read_32 : decode cX5_read 32 = .ok (.invokevirtual 88, 3) := by decide +kernel
theorem dX5_read_35 : decode cX5_read 35 = .ok (.iconst 0, 1) := by decide +kernel
theorem dX5_read_36 : decode cX5_read 36 = .ok (.istore_n 1, 1) := by decide +kernel
theorem dX5_read_37 : decode cX5_read 37 = .ok (.iload_n 1, 1) := by decide +kernel
theorem dX5_read_38 : decode cX5_read 38 = .ok (.aload_n 0, 1) := by decide +kernel
theorem dX5_read_39 : decode cX5_read 39 = .ok (.getfield 136, 3) := by decide +kernel
theorem dX5_read_42 : decode cX5_read 42 = .ok (.if_icmp .ge 24, 3) := by decide +kernel
theorem dX5_read_45 : decode cX5_read 45 = .ok (.aload_n 0, 1) := by decide +kernel
theorem dX5_read_46 : decode cX5_read 46 = .ok (.iload_n 1, 1) := by decide +kernel
theorem dX5_read_47 : decode cX5_read 47 = .ok (.invokevirtual 153, 3) := by decide +kernel
theorem dX5_read_50 : decode cX5_read 50 = .ok (.istore_n 2, 1) := by decide +kernel
theorem dX5_read_51 : decode cX5_read 51 = .ok (.aload_n 0, 1) := by decide +kernel
theorem dX5_read_52 : decode cX5_read 52 = .ok (.iload_n 1, 1) := by decide +kernel
theorem dX5_read_53 : decode cX5_read 53 = .ok (.iload_n 2, 1) := by decide +kernel
theorem dX5_read_54 : decode cX5_read 54 = .ok (.invokevirtual 159, 3) := by decide +kernel
theorem dX5_read_57 : decode cX5_read 57 = .ok (.iload_n 1, 1) := by decide +kernel
theorem dX5_read_58 : decode cX5_read 58 = .ok (.iload_n 2, 1) := by decide +kernel
theorem dX5_read_59 : decode cX5_read 59 = .ok (.iconst 1, 1) := by decide +kernel
theorem dX5_read_60 : decode cX5_read 60 = .ok (.iadd, 1) := by decide +kernel
theorem dX5_read_61 : decode cX5_read 61 = .ok (.iadd, 1) := by decide +kernel
theorem dX5_read_62 : decode cX5_read 62 = .ok (.istore_n 1, 1) := by decide +kernel
theorem dX5_read_63 : decode cX5_read 63 = .ok (.goto (-26), 3) := by decide +kernel
theorem dX5_read_66 : decode cX5_read 66 = .ok (.aload_n 0, 1) := by decide +kernel
theorem dX5_read_67 : decode cX5_read 67 = .ok (.iconst 0, 1) := by decide +kernel
theorem dX5_read_68 : decode cX5_read 68 = .ok (.putfield 136, 3) := by decide +kernel
theorem dX5_read_71 : decode cX5_read 71 = .ok (.aload_n 0, 1) := by decide +kernel
theorem dX5_read_72 : decode cX5_read 72 = .ok (.getfield 7, 3) := by decide +kernel
theorem dX5_read_75 : decode cX5_read 75 = .ok (.iconst 4, 1) := by decide +kernel
theorem dX5_read_76 : decode cX5_read 76 = .ok (.iaload, 1) := by decide +kernel
theorem dX5_read_77 : decode cX5_read 77 = .ok (.ireturn, 1) := by decide +kernel
theorem dX5_undo_0 : decode cX5_undo 0 = .ok (.aload_n 0, 1) := by decide +kernel
theorem dX5_undo_1 : decode cX5_undo 1 = .ok (.getfield 46, 3) := by decide +kernel
theorem dX5_undo_4 : decode cX5_undo 4 = .ok (.ifCond .ne 6, 3) := by decide +kernel
theorem dX5_undo_7 : decode cX5_undo 7 = .ok (.bipush (-5), 2) := by decide +kernel
theorem dX5_undo_9 : decode cX5_undo 9 = .ok (.ireturn, 1) := by decide +kernel
theorem dX5_undo_10 : decode cX5_undo 10 = .ok (.aload_n 0, 1) := by decide +kernel
theorem dX5_undo_11 : decode cX5_undo 11 = .ok (.dup, 1) := by decide +kernel
theorem dX5_undo_12 : decode cX5_undo 12 = .ok (.getfield 46, 3) := by decide +kernel
theorem dX5_undo_15 : decode cX5_undo 15 = .ok (.iconst 1, 1) := by decide +kernel
theorem dX5_undo_16 : decode cX5_undo 16 = .ok (.isub, 1) := by decide +kernel
theorem dX5_undo_17 : decode cX5_undo 17 = .ok (.putfield 46, 3) := by decide +kernel
theorem dX5_undo_20 : decode cX5_undo 20 = .ok (.iconst 0, 1) := by decide +kernel
theorem dX5_undo_21 : decode cX5_undo 21 = .ok (.istore_n 1, 1) := by decide +kernel
theorem dX5_undo_22 : decode cX5_undo 22 = .ok (.iload_n 1, 1) := by decide +kernel
theorem dX5_undo_23 : decode cX5_undo 23 = .ok (.sipush 551, 3) := by decide +kernel
theorem dX5_undo_26 : decode cX5_undo 26 = .ok (.if_icmp .ge 30, 3) := by decide +kernel
theorem dX5_undo_29 : decode cX5_undo 29 = .ok (.aload_n 0, 1) := by decide +kernel
theorem dX5_undo_30 : decode cX5_undo 30 = .ok (.getfield 7, 3) := by decide +kernel
theorem dX5_undo_33 : decode cX5_undo 33 = .ok (.iload_n 1, 1) := by decide +kernel
theorem dX5_undo_34 : decode cX5_undo 34 = .ok (.aload_n 0, 1) := by decide +kernel
theorem dX5_undo_35 : decode cX5_undo 35 = .ok (.getfield 16, 3) := by decide +kernel
theorem dX5_undo_38 : decode cX5_undo 38 = .ok (.sipush 551, 3) := by decide +kernel
theorem dX5_undo_41 : decode cX5_undo 41 = .ok (.aload_n 0, 1) := by decide +kernel
theorem dX5_undo_42 : decode cX5_undo 42 = .ok (.getfield 46, 3) := by decide +kernel
theorem dX5_undo_45 : decode cX5_undo 45 = .ok (.imul, 1) := by decide +kernel
theorem dX5_undo_46 : decode cX5_undo 46 = .ok (.iload_n 1, 1) := by decide +kernel
theorem dX5_undo_47 : decode cX5_undo 47 = .ok (.iadd, 1) := by decide +kernel
theorem dX5_undo_48 : decode cX5_undo 48 = .ok (.iaload, 1) := by decide +kernel
theorem dX5_undo_49 : decode cX5_undo 49 = .ok (.iastore, 1) := by decide +kernel
theorem dX5_undo_50 : decode cX5_undo 50 = .ok (.iinc 1 1, 3) := by decide +kernel
theorem dX5_undo_53 : decode cX5_undo 53 = .ok (.goto (-31), 3) := by decide +kernel
theorem dX5_undo_56 : decode cX5_undo 56 = .ok (.aload_n 0, 1) := by decide +kernel
theorem dX5_undo_57 : decode cX5_undo 57 = .ok (.getfield 46, 3) := by decide +kernel
theorem dX5_undo_60 : decode cX5_undo 60 = .ok (.ireturn, 1) := by decide +kernel
theorem dX5_save_0 : decode cX5_save 0 = .ok (.iload_n 1, 1) := by decide +kernel
theorem dX5_save_1 : decode cX5_save 1 = .ok (.iconst 0, 1) := by decide +kernel
theorem dX5_save_2 : decode cX5_save 2 = .ok (.iconst 1, 1) := by decide +kernel
theorem dX5_save_3 : decode cX5_save 3 = .ok (.invokestatic 38, 3) := by decide +kernel
theorem dX5_save_6 : decode cX5_save 6 = .ok (.ifCond .ne 6, 3) := by decide +kernel
theorem dX5_save_9 : decode cX5_save 9 = .ok (.bipush (-2), 2) := by decide +kernel
theorem dX5_save_11 : decode cX5_save 11 = .ok (.ireturn, 1) := by decide +kernel
theorem dX5_save_12 : decode cX5_save 12 = .ok (.iconst 0, 1) := by decide +kernel
theorem dX5_save_13 : decode cX5_save 13 = .ok (.istore_n 2, 1) := by decide +kernel
theorem dX5_save_14 : decode cX5_save 14 = .ok (.iload_n 2, 1) := by decide +kernel
theorem dX5_save_15 : decode cX5_save 15 = .ok (.sipush 551, 3) := by decide +kernel
theorem dX5_save_18 : decode cX5_save 18 = .ok (.if_icmp .ge 27, 3) := by decide +kernel
theorem dX5_save_21 : decode cX5_save 21 = .ok (.aload_n 0, 1) := by decide +kernel
theorem dX5_save_22 : decode cX5_save 22 = .ok (.getfield 19, 3) := by decide +kernel
theorem dX5_save_25 : decode cX5_save 25 = .ok (.sipush 551, 3) := by decide +kernel
theorem dX5_save_28 : decode cX5_save 28 = .ok (.iload_n 1, 1) := by decide +kernel
theorem dX5_save_29 : decode cX5_save 29 = .ok (.imul, 1) := by decide +kernel
theorem dX5_save_30 : decode cX5_save 30 = .ok (.iload_n 2, 1) := by decide +kernel
theorem dX5_save_31 : decode cX5_save 31 = .ok (.iadd, 1) := by decide +kernel
theorem dX5_save_32 : decode cX5_save 32 = .ok (.aload_n 0, 1) := by decide +kernel
theorem dX5_save_33 : decode cX5_save 33 = .ok (.getfield 7, 3) := by decide +kernel
theorem dX5_save_36 : decode cX5_save 36 = .ok (.iload_n 2, 1) := by decide +kernel
theorem dX5_save_37 : decode cX5_save 37 = .ok (.iaload, 1) := by decide +kernel
theorem dX5_save_38 : decode cX5_save 38 = .ok (.iastore, 1) := by decide +kernel
theorem dX5_save_39 : decode cX5_save 39 = .ok (.iinc 2 1, 3) := by decide +kernel
theorem dX5_save_42 : decode cX5_save 42 = .ok (.goto (-28), 3) := by decide +kernel
theorem dX5_save_45 : decode cX5_save 45 = .ok (.aload_n 0, 1) := by decide +kernel
theorem dX5_save_46 : decode cX5_save 46 = .ok (.getfield 22, 3) := by decide +kernel
theorem dX5_save_49 : decode cX5_save 49 = .ok (.iload_n 1, 1) := by decide +kernel
theorem dX5_save_50 : decode cX5_save 50 = .ok (.iconst 1, 1) := by decide +kernel
theorem dX5_save_51 : decode cX5_save 51 = .ok (.bastore, 1) := by decide +kernel
theorem dX5_save_52 : decode cX5_save 52 = .ok (.aload_n 0, 1) := by decide +kernel
theorem dX5_save_53 : decode cX5_save 53 = .ok (.getfield 7, 3) := by decide +kernel
theorem dX5_save_56 : decode cX5_save 56 = .ok (.iconst 3, 1) := by decide +kernel
theorem dX5_save_57 : decode cX5_save 57 = .ok (.iaload, 1) := by decide +kernel
theorem dX5_save_58 : decode cX5_save 58 = .ok (.ireturn, 1) := by decide +kernel
theorem dX5_restore_0 : decode cX5_restore 0 = .ok (.iload_n 1, 1) := by decide +kernel
theorem dX5_restore_1 : decode cX5_restore 1 = .ok (.iconst 0, 1) := by decide +kernel
theorem dX5_restore_2 : decode cX5_restore 2 = .ok (.iconst 1, 1) := by decide +kernel
theorem dX5_restore_3 : decode cX5_restore 3 = .ok (.invokestatic 38, 3) := by decide +kernel
theorem dX5_restore_6 : decode cX5_restore 6 = .ok (.ifCond .ne 6, 3) := by decide +kernel
theorem dX5_restore_9 : decode cX5_restore 9 = .ok (.bipush (-2), 2) := by decide +kernel
theorem dX5_restore_11 : decode cX5_restore 11 = .ok (.ireturn, 1) := by decide +kernel
theorem dX5_restore_12 : decode cX5_restore 12 = .ok (.aload_n 0, 1) := by decide +kernel
theorem dX5_restore_13 : decode cX5_restore 13 = .ok (.getfield 22, 3) := by decide +kernel
theorem dX5_restore_16 : decode cX5_restore 16 = .ok (.iload_n 1, 1) := by decide +kernel
theorem dX5_restore_17 : decode cX5_restore 17 = .ok (.baload, 1) := by decide +kernel
theorem dX5_restore_18 : decode cX5_restore 18 = .ok (.ifCond .ne 6, 3) := by decide +kernel
theorem dX5_restore_21 : decode cX5_restore 21 = .ok (.bipush (-5), 2) := by decide +kernel
theorem dX5_restore_23 : decode cX5_restore 23 = .ok (.ireturn, 1) := by decide +kernel
theorem dX5_restore_24 : decode cX5_restore 24 = .ok (.aload_n 0, 1) := by decide +kernel
theorem dX5_restore_25 : decode cX5_restore 25 = .ok (.invokevirtual 88, 3) := by decide +kernel
theorem dX5_restore_28 : decode cX5_restore 28 = .ok (.iconst 0, 1) := by decide +kernel
theorem dX5_restore_29 : decode cX5_restore 29 = .ok (.istore_n 2, 1) := by decide +kernel
theorem dX5_restore_30 : decode cX5_restore 30 = .ok (.iload_n 2, 1) := by decide +kernel
theorem dX5_restore_31 : decode cX5_restore 31 = .ok (.sipush 551, 3) := by decide +kernel
theorem dX5_restore_34 : decode cX5_restore 34 = .ok (.if_icmp .ge 27, 3) := by decide +kernel
theorem dX5_restore_37 : decode cX5_restore 37 = .ok (.aload_n 0, 1) := by decide +kernel
theorem dX5_restore_38 : decode cX5_restore 38 = .ok (.getfield 7, 3) := by decide +kernel
theorem dX5_restore_41 : decode cX5_restore 41 = .ok (.iload_n 2, 1) := by decide +kernel
theorem dX5_restore_42 : decode cX5_restore 42 = .ok (.aload_n 0, 1) := by decide +kernel
theorem dX5_restore_43 : decode cX5_restore 43 = .ok (.getfield 19, 3) := by decide +kernel
theorem dX5_restore_46 : decode cX5_restore 46 = .ok (.sipush 551, 3) := by decide +kernel
theorem dX5_restore_49 : decode cX5_restore 49 = .ok (.iload_n 1, 1) := by decide +kernel
theorem dX5_restore_50 : decode cX5_restore 50 = .ok (.imul, 1) := by decide +kernel
theorem dX5_restore_51 : decode cX5_restore 51 = .ok (.iload_n 2, 1) := by decide +kernel
theorem dX5_restore_52 : decode cX5_restore 52 = .ok (.iadd, 1) := by decide +kernel
theorem dX5_restore_53 : decode cX5_restore 53 = .ok (.iaload, 1) := by decide +kernel
theorem dX5_restore_54 : decode cX5_restore 54 = .ok (.iastore, 1) := by decide +kernel
theorem dX5_restore_55 : decode cX5_restore 55 = .ok (.iinc 2 1, 3) := by decide +kernel
theorem dX5_restore_58 : decode cX5_restore 58 = .ok (.goto (-28), 3) := by decide +kernel
theorem dX5_restore_61 : decode cX5_restore 61 = .ok (.aload_n 0, 1) := by decide +kernel
theorem dX5_restore_62 : decode cX5_restore 62 = .ok (.getfield 7, 3) := by decide +kernel
theorem dX5_restore_65 : decode cX5_restore 65 = .ok (.iconst 3, 1) := by decide +kernel
theorem dX5_restore_66 : decode cX5_restore 66 = .ok (.iaload, 1) := by decide +kernel
theorem dX5_restore_67 : decode cX5_restore 67 = .ok (.ireturn, 1) := by decide +kernel

theorem dX0_init_0 : decode cX0_init 0 = .ok (.aload_n 0, 1) := by decide +kernel
theorem dX0_init_1 : decode cX0_init 1 = .ok (.invokespecial 1, 3) := by decide +kernel
theorem dX0_init_4 : decode cX0_init 4 = .ok (.return_, 1) := by decide +kernel
theorem dX0_copyFrom_0 : decode cX0_copyFrom 0 = .ok (.aload_n 0, 1) := by decide +kernel
theorem dX0_copyFrom_1 : decode cX0_copyFrom 1 = .ok (.aload_n 1, 1) := by decide +kernel
theorem dX0_copyFrom_2 : decode cX0_copyFrom 2 = .ok (.getfield 7, 3) := by decide +kernel
theorem dX0_copyFrom_5 : decode cX0_copyFrom 5 = .ok (.putfield 7, 3) := by decide +kernel
theorem dX0_copyFrom_8 : decode cX0_copyFrom 8 = .ok (.aload_n 0, 1) := by decide +kernel
theorem dX0_copyFrom_9 : decode cX0_copyFrom 9 = .ok (.aload_n 1, 1) := by decide +kernel
theorem dX0_copyFrom_10 : decode cX0_copyFrom 10 = .ok (.getfield 13, 3) := by decide +kernel
theorem dX0_copyFrom_13 : decode cX0_copyFrom 13 = .ok (.putfield 13, 3) := by decide +kernel
theorem dX0_copyFrom_16 : decode cX0_copyFrom 16 = .ok (.aload_n 0, 1) := by decide +kernel
theorem dX0_copyFrom_17 : decode cX0_copyFrom 17 = .ok (.aload_n 1, 1) := by decide +kernel
theorem dX0_copyFrom_18 : decode cX0_copyFrom 18 = .ok (.getfield 16, 3) := by decide +kernel
theorem dX0_copyFrom_21 : decode cX0_copyFrom 21 = .ok (.putfield 16, 3) := by decide +kernel
theorem dX0_copyFrom_24 : decode cX0_copyFrom 24 = .ok (.aload_n 0, 1) := by decide +kernel
theorem dX0_copyFrom_25 : decode cX0_copyFrom 25 = .ok (.aload_n 1, 1) := by decide +kernel
theorem dX0_copyFrom_26 : decode cX0_copyFrom 26 = .ok (.getfield 19, 3) := by decide +kernel
theorem dX0_copyFrom_29 : decode cX0_copyFrom 29 = .ok (.putfield 19, 3) := by decide +kernel
theorem dX0_copyFrom_32 : decode cX0_copyFrom 32 = .ok (.return_, 1) := by decide +kernel
theorem dX1_init_0 : decode cX1_init 0 = .ok (.aload_n 0, 1) := by decide +kernel
theorem dX1_init_1 : decode cX1_init 1 = .ok (.invokespecial 3, 3) := by decide +kernel
theorem dX1_init_4 : decode cX1_init 4 = .ok (.return_, 1) := by decide +kernel
theorem dX1_begin_0 : decode cX1_begin 0 = .ok (.aload_n 0, 1) := by decide +kernel
theorem dX1_begin_1 : decode cX1_begin 1 = .ok (.iload_n 1, 1) := by decide +kernel
theorem dX1_begin_2 : decode cX1_begin 2 = .ok (.putfield 9, 3) := by decide +kernel
theorem dX1_begin_5 : decode cX1_begin 5 = .ok (.aload_n 0, 1) := by decide +kernel
theorem dX1_begin_6 : decode cX1_begin 6 = .ok (.iconst 0, 1) := by decide +kernel
theorem dX1_begin_7 : decode cX1_begin 7 = .ok (.putfield 15, 3) := by decide +kernel
theorem dX1_begin_10 : decode cX1_begin 10 = .ok (.aload_n 0, 1) := by decide +kernel
theorem dX1_begin_11 : decode cX1_begin 11 = .ok (.lconst 0, 1) := by decide +kernel
theorem dX1_begin_12 : decode cX1_begin 12 = .ok (.putfield 18, 3) := by decide +kernel
theorem dX1_begin_15 : decode cX1_begin 15 = .ok (.aload_n 0, 1) := by decide +kernel
theorem dX1_begin_16 : decode cX1_begin 16 = .ok (.iconst 0, 1) := by decide +kernel
theorem dX1_begin_17 : decode cX1_begin 17 = .ok (.putfield 22, 3) := by decide +kernel
theorem dX1_begin_20 : decode cX1_begin 20 = .ok (.aload_n 0, 1) := by decide +kernel
theorem dX1_begin_21 : decode cX1_begin 21 = .ok (.iload_n 2, 1) := by decide +kernel
theorem dX1_begin_22 : decode cX1_begin 22 = .ok (.putfield 25, 3) := by decide +kernel
theorem dX1_begin_25 : decode cX1_begin 25 = .ok (.aload_n 0, 1) := by decide +kernel
theorem dX1_begin_26 : decode cX1_begin 26 = .ok (.iconst 0, 1) := by decide +kernel
theorem dX1_begin_27 : decode cX1_begin 27 = .ok (.putfield 28, 3) := by decide +kernel
theorem dX1_begin_30 : decode cX1_begin 30 = .ok (.aload_n 0, 1) := by decide +kernel
theorem dX1_begin_31 : decode cX1_begin 31 = .ok (.iconst 0, 1) := by decide +kernel
theorem dX1_begin_32 : decode cX1_begin 32 = .ok (.putfield 31, 3) := by decide +kernel
theorem dX1_begin_35 : decode cX1_begin 35 = .ok (.aload_n 0, 1) := by decide +kernel
theorem dX1_begin_36 : decode cX1_begin 36 = .ok (.iconst 0, 1) := by decide +kernel
theorem dX1_begin_37 : decode cX1_begin 37 = .ok (.putfield 34, 3) := by decide +kernel
theorem dX1_begin_40 : decode cX1_begin 40 = .ok (.aload_n 0, 1) := by decide +kernel
theorem dX1_begin_41 : decode cX1_begin 41 = .ok (.iconst 0, 1) := by decide +kernel
theorem dX1_begin_42 : decode cX1_begin 42 = .ok (.putfield 37, 3) := by decide +kernel
theorem dX1_begin_45 : decode cX1_begin 45 = .ok (.aload_n 0, 1) := by decide +kernel
theorem dX1_begin_46 : decode cX1_begin 46 = .ok (.bipush (-6), 2) := by decide +kernel
theorem dX1_begin_48 : decode cX1_begin 48 = .ok (.putfield 40, 3) := by decide +kernel
theorem dX1_begin_51 : decode cX1_begin 51 = .ok (.return_, 1) := by decide +kernel
theorem dX1_copyFrom_0 : decode cX1_copyFrom 0 = .ok (.aload_n 0, 1) := by decide +kernel
theorem dX1_copyFrom_1 : decode cX1_copyFrom 1 = .ok (.aload_n 1, 1) := by decide +kernel
theorem dX1_copyFrom_2 : decode cX1_copyFrom 2 = .ok (.getfield 9, 3) := by decide +kernel
theorem dX1_copyFrom_5 : decode cX1_copyFrom 5 = .ok (.putfield 9, 3) := by decide +kernel
theorem dX1_copyFrom_8 : decode cX1_copyFrom 8 = .ok (.aload_n 0, 1) := by decide +kernel
theorem dX1_copyFrom_9 : decode cX1_copyFrom 9 = .ok (.aload_n 1, 1) := by decide +kernel
theorem dX1_copyFrom_10 : decode cX1_copyFrom 10 = .ok (.getfield 15, 3) := by decide +kernel
theorem dX1_copyFrom_13 : decode cX1_copyFrom 13 = .ok (.putfield 15, 3) := by decide +kernel
theorem dX1_copyFrom_16 : decode cX1_copyFrom 16 = .ok (.aload_n 0, 1) := by decide +kernel
theorem dX1_copyFrom_17 : decode cX1_copyFrom 17 = .ok (.aload_n 1, 1) := by decide +kernel
theorem dX1_copyFrom_18 : decode cX1_copyFrom 18 = .ok (.getfield 18, 3) := by decide +kernel
theorem dX1_copyFrom_21 : decode cX1_copyFrom 21 = .ok (.putfield 18, 3) := by decide +kernel
theorem dX1_copyFrom_24 : decode cX1_copyFrom 24 = .ok (.aload_n 0, 1) := by decide +kernel
theorem dX1_copyFrom_25 : decode cX1_copyFrom 25 = .ok (.aload_n 1, 1) := by decide +kernel
theorem dX1_copyFrom_26 : decode cX1_copyFrom 26 = .ok (.getfield 22, 3) := by decide +kernel
theorem dX1_copyFrom_29 : decode cX1_copyFrom 29 = .ok (.putfield 22, 3) := by decide +kernel
theorem dX1_copyFrom_32 : decode cX1_copyFrom 32 = .ok (.aload_n 0, 1) := by decide +kernel
theorem dX1_copyFrom_33 : decode cX1_copyFrom 33 = .ok (.aload_n 1, 1) := by decide +kernel
theorem dX1_copyFrom_34 : decode cX1_copyFrom 34 = .ok (.getfield 25, 3) := by decide +kernel
theorem dX1_copyFrom_37 : decode cX1_copyFrom 37 = .ok (.putfield 25, 3) := by decide +kernel
theorem dX1_copyFrom_40 : decode cX1_copyFrom 40 = .ok (.aload_n 0, 1) := by decide +kernel
theorem dX1_copyFrom_41 : decode cX1_copyFrom 41 = .ok (.aload_n 1, 1) := by decide +kernel
theorem dX1_copyFrom_42 : decode cX1_copyFrom 42 = .ok (.getfield 28, 3) := by decide +kernel
theorem dX1_copyFrom_45 : decode cX1_copyFrom 45 = .ok (.putfield 28, 3) := by decide +kernel
theorem dX1_copyFrom_48 : decode cX1_copyFrom 48 = .ok (.aload_n 0, 1) := by decide +kernel
theorem dX1_copyFrom_49 : decode cX1_copyFrom 49 = .ok (.aload_n 1, 1) := by decide +kernel
theorem dX1_copyFrom_50 : decode cX1_copyFrom 50 = .ok (.getfield 31, 3) := by decide +kernel
theorem dX1_copyFrom_53 : decode cX1_copyFrom 53 = .ok (.putfield 31, 3) := by decide +kernel
theorem dX1_copyFrom_56 : decode cX1_copyFrom 56 = .ok (.aload_n 0, 1) := by decide +kernel
theorem dX1_copyFrom_57 : decode cX1_copyFrom 57 = .ok (.aload_n 1, 1) := by decide +kernel
theorem dX1_copyFrom_58 : decode cX1_copyFrom 58 = .ok (.getfield 34, 3) := by decide +kernel
theorem dX1_copyFrom_61 : decode cX1_copyFrom 61 = .ok (.putfield 34, 3) := by decide +kernel
theorem dX1_copyFrom_64 : decode cX1_copyFrom 64 = .ok (.aload_n 0, 1) := by decide +kernel
theorem dX1_copyFrom_65 : decode cX1_copyFrom 65 = .ok (.aload_n 1, 1) := by decide +kernel
theorem dX1_copyFrom_66 : decode cX1_copyFrom 66 = .ok (.getfield 37, 3) := by decide +kernel
theorem dX1_copyFrom_69 : decode cX1_copyFrom 69 = .ok (.putfield 37, 3) := by decide +kernel
theorem dX1_copyFrom_72 : decode cX1_copyFrom 72 = .ok (.aload_n 0, 1) := by decide +kernel
theorem dX1_copyFrom_73 : decode cX1_copyFrom 73 = .ok (.aload_n 1, 1) := by decide +kernel
theorem dX1_copyFrom_74 : decode cX1_copyFrom 74 = .ok (.getfield 40, 3) := by decide +kernel
theorem dX1_copyFrom_77 : decode cX1_copyFrom 77 = .ok (.putfield 40, 3) := by decide +kernel
theorem dX1_copyFrom_80 : decode cX1_copyFrom 80 = .ok (.return_, 1) := by decide +kernel
theorem dX1_addWord_0 : decode cX1_addWord 0 = .ok (.aload_n 0, 1) := by decide +kernel
theorem dX1_addWord_1 : decode cX1_addWord 1 = .ok (.getfield 22, 3) := by decide +kernel
theorem dX1_addWord_4 : decode cX1_addWord 4 = .ok (.bipush 8, 2) := by decide +kernel
theorem dX1_addWord_6 : decode cX1_addWord 6 = .ok (.if_icmp .ge 32, 3) := by decide +kernel
theorem dX1_addWord_9 : decode cX1_addWord 9 = .ok (.aload_n 0, 1) := by decide +kernel
theorem dX1_addWord_10 : decode cX1_addWord 10 = .ok (.aload_n 0, 1) := by decide +kernel
theorem dX1_addWord_11 : decode cX1_addWord 11 = .ok (.getfield 18, 3) := by decide +kernel
theorem dX1_addWord_14 : decode cX1_addWord 14 = .ok (.iload_n 1, 1) := by decide +kernel
theorem dX1_addWord_15 : decode cX1_addWord 15 = .ok (.i2l, 1) := by decide +kernel
theorem dX1_addWord_16 : decode cX1_addWord 16 = .ok (.bipush 8, 2) := by decide +kernel
theorem dX1_addWord_18 : decode cX1_addWord 18 = .ok (.aload_n 0, 1) := by decide +kernel
theorem dX1_addWord_19 : decode cX1_addWord 19 = .ok (.getfield 22, 3) := by decide +kernel
theorem dX1_addWord_22 : decode cX1_addWord 22 = .ok (.imul, 1) := by decide +kernel
theorem dX1_addWord_23 : decode cX1_addWord 23 = .ok (.lshl, 1) := by decide +kernel
theorem dX1_addWord_24 : decode cX1_addWord 24 = .ok (.lor, 1) := by decide +kernel
theorem dX1_addWord_25 : decode cX1_addWord 25 = .ok (.putfield 18, 3) := by decide +kernel
theorem dX1_addWord_28 : decode cX1_addWord 28 = .ok (.aload_n 0, 1) := by decide +kernel
theorem dX1_addWord_29 : decode cX1_addWord 29 = .ok (.dup, 1) := by decide +kernel
theorem dX1_addWord_30 : decode cX1_addWord 30 = .ok (.getfield 22, 3) := by decide +kernel
theorem dX1_addWord_33 : decode cX1_addWord 33 = .ok (.iconst 1, 1) := by decide +kernel
theorem dX1_addWord_34 : decode cX1_addWord 34 = .ok (.iadd, 1) := by decide +kernel
theorem dX1_addWord_35 : decode cX1_addWord 35 = .ok (.putfield 22, 3) := by decide +kernel
theorem dX1_addWord_38 : decode cX1_addWord 38 = .ok (.return_, 1) := by decide +kernel
theorem dX1_codeAt_0 : decode cX1_codeAt 0 = .ok (.aload_n 0, 1) := by decide +kernel
theorem dX1_codeAt_1 : decode cX1_codeAt 1 = .ok (.getfield 18, 3) := by decide +kernel
theorem dX1_codeAt_4 : decode cX1_codeAt 4 = .ok (.bipush 8, 2) := by decide +kernel
theorem dX1_codeAt_6 : decode cX1_codeAt 6 = .ok (.iload_n 1, 1) := by decide +kernel
theorem dX1_codeAt_7 : decode cX1_codeAt 7 = .ok (.imul, 1) := by decide +kernel
theorem dX1_codeAt_8 : decode cX1_codeAt 8 = .ok (.lushr, 1) := by decide +kernel
theorem dX1_codeAt_9 : decode cX1_codeAt 9 = .ok (.l2i, 1) := by decide +kernel
theorem dX1_codeAt_10 : decode cX1_codeAt 10 = .ok (.sipush 255, 3) := by decide +kernel
theorem dX1_codeAt_13 : decode cX1_codeAt 13 = .ok (.iand, 1) := by decide +kernel
theorem dX1_codeAt_14 : decode cX1_codeAt 14 = .ok (.ireturn, 1) := by decide +kernel
theorem dX1_isStruckAt_0 : decode cX1_isStruckAt 0 = .ok (.aload_n 0, 1) := by decide +kernel
theorem dX1_isStruckAt_1 : decode cX1_isStruckAt 1 = .ok (.getfield 37, 3) := by decide +kernel
theorem dX1_isStruckAt_4 : decode cX1_isStruckAt 4 = .ok (.iload_n 1, 1) := by decide +kernel
theorem dX1_isStruckAt_5 : decode cX1_isStruckAt 5 = .ok (.iushr, 1) := by decide +kernel
theorem dX1_isStruckAt_6 : decode cX1_isStruckAt 6 = .ok (.iconst 1, 1) := by decide +kernel
theorem dX1_isStruckAt_7 : decode cX1_isStruckAt 7 = .ok (.iand, 1) := by decide +kernel
theorem dX1_isStruckAt_8 : decode cX1_isStruckAt 8 = .ok (.ifCond .eq 7, 3) := by decide +kernel
theorem dX1_isStruckAt_11 : decode cX1_isStruckAt 11 = .ok (.iconst 1, 1) := by decide +kernel
theorem dX1_isStruckAt_12 : decode cX1_isStruckAt 12 = .ok (.goto 4, 3) := by decide +kernel
theorem dX1_isStruckAt_15 : decode cX1_isStruckAt 15 = .ok (.iconst 0, 1) := by decide +kernel
theorem dX1_isStruckAt_16 : decode cX1_isStruckAt 16 = .ok (.ireturn, 1) := by decide +kernel
theorem dX1_struckCount_0 : decode cX1_struckCount 0 = .ok (.aload_n 0, 1) := by decide +kernel
theorem dX1_struckCount_1 : decode cX1_struckCount 1 = .ok (.getfield 37, 3) := by decide +kernel
theorem dX1_struckCount_4 : decode cX1_struckCount 4 = .ok (.invokestatic 43, 3) := by decide +kernel
theorem dX1_struckCount_7 : decode cX1_struckCount 7 = .ok (.ireturn, 1) := by decide +kernel
theorem dX1_placesOf_0 : decode cX1_placesOf 0 = .ok (.iconst 0, 1) := by decide +kernel
theorem dX1_placesOf_1 : decode cX1_placesOf 1 = .ok (.istore_n 2, 1) := by decide +kernel
theorem dX1_placesOf_2 : decode cX1_placesOf 2 = .ok (.aload_n 0, 1) := by decide +kernel
theorem dX1_placesOf_3 : decode cX1_placesOf 3 = .ok (.getfield 18, 3) := by decide +kernel
theorem dX1_placesOf_6 : decode cX1_placesOf 6 = .ok (.lstore_n 3, 1) := by decide +kernel
theorem dX1_placesOf_7 : decode cX1_placesOf 7 = .ok (.iconst 0, 1) := by decide +kernel
theorem dX1_placesOf_8 : decode cX1_placesOf 8 = .ok (.istore 5, 2) := by decide +kernel
theorem dX1_placesOf_10 : decode cX1_placesOf 10 = .ok (.iload 5, 2) := by decide +kernel
theorem dX1_placesOf_12 : decode cX1_placesOf 12 = .ok (.aload_n 0, 1) := by decide +kernel
theorem dX1_placesOf_13 : decode cX1_placesOf 13 = .ok (.getfield 22, 3) := by decide +kernel
theorem dX1_placesOf_16 : decode cX1_placesOf 16 = .ok (.if_icmp .ge 41, 3) := by decide +kernel
theorem dX1_placesOf_19 : decode cX1_placesOf 19 = .ok (.lload_n 3, 1) := by decide +kernel
theorem dX1_placesOf_20 : decode cX1_placesOf 20 = .ok (.ldc2_w 49, 3) := by decide +kernel
theorem dX1_placesOf_23 : decode cX1_placesOf 23 = .ok (.land, 1) := by decide +kernel
theorem dX1_placesOf_24 : decode cX1_placesOf 24 = .ok (.l2i, 1) := by decide +kernel
theorem dX1_placesOf_25 : decode cX1_placesOf 25 = .ok (.bipush 97, 2) := by decide +kernel
theorem dX1_placesOf_27 : decode cX1_placesOf 27 = .ok (.isub, 1) := by decide +kernel
theorem dX1_placesOf_28 : decode cX1_placesOf 28 = .ok (.istore 6, 2) := by decide +kernel
theorem dX1_placesOf_30 : decode cX1_placesOf 30 = .ok (.iload_n 1, 1) := by decide +kernel
theorem dX1_placesOf_31 : decode cX1_placesOf 31 = .ok (.iload 6, 2) := by decide +kernel
theorem dX1_placesOf_33 : decode cX1_placesOf 33 = .ok (.iushr, 1) := by decide +kernel
theorem dX1_placesOf_34 : decode cX1_placesOf 34 = .ok (.iconst 1, 1) := by decide +kernel
theorem dX1_placesOf_35 : decode cX1_placesOf 35 = .ok (.iand, 1) := by decide +kernel
theorem dX1_placesOf_36 : decode cX1_placesOf 36 = .ok (.ifCond .eq 10, 3) := by decide +kernel
theorem dX1_placesOf_39 : decode cX1_placesOf 39 = .ok (.iload_n 2, 1) := by decide +kernel
theorem dX1_placesOf_40 : decode cX1_placesOf 40 = .ok (.iconst 1, 1) := by decide +kernel
theorem dX1_placesOf_41 : decode cX1_placesOf 41 = .ok (.iload 5, 2) := by decide +kernel
theorem dX1_placesOf_43 : decode cX1_placesOf 43 = .ok (.ishl, 1) := by decide +kernel
theorem dX1_placesOf_44 : decode cX1_placesOf 44 = .ok (.ior, 1) := by decide +kernel
theorem dX1_placesOf_45 : decode cX1_placesOf 45 = .ok (.istore_n 2, 1) := by decide +kernel
theorem dX1_placesOf_46 : decode cX1_placesOf 46 = .ok (.lload_n 3, 1) := by decide +kernel
theorem dX1_placesOf_47 : decode cX1_placesOf 47 = .ok (.bipush 8, 2) := by decide +kernel
theorem dX1_placesOf_49 : decode cX1_placesOf 49 = .ok (.lushr, 1) := by decide +kernel
theorem dX1_placesOf_50 : decode cX1_placesOf 50 = .ok (.lstore_n 3, 1) := by decide +kernel
theorem dX1_placesOf_51 : decode cX1_placesOf 51 = .ok (.iinc 5 1, 3) := by decide +kernel
theorem dX1_placesOf_54 : decode cX1_placesOf 54 = .ok (.goto (-44), 3) := by decide +kernel
theorem dX1_placesOf_57 : decode cX1_placesOf 57 = .ok (.iload_n 2, 1) := by decide +kernel
theorem dX1_placesOf_58 : decode cX1_placesOf 58 = .ok (.ireturn, 1) := by decide +kernel
theorem dX2_init_0 : decode cX2_init 0 = .ok (.aload_n 0, 1) := by decide +kernel
theorem dX2_init_1 : decode cX2_init 1 = .ok (.invokespecial 3, 3) := by decide +kernel
theorem dX2_init_4 : decode cX2_init 4 = .ok (.aload_n 0, 1) := by decide +kernel
theorem dX2_init_5 : decode cX2_init 5 = .ok (.iconst 3, 1) := by decide +kernel
theorem dX2_init_6 : decode cX2_init 6 = .ok (.newarray .int, 2) := by decide +kernel
theorem dX2_init_8 : decode cX2_init 8 = .ok (.dup, 1) := by decide +kernel
theorem dX2_init_9 : decode cX2_init 9 = .ok (.iconst 0, 1) := by decide +kernel
theorem dX2_init_10 : decode cX2_init 10 = .ok (.iconst 3, 1) := by decide +kernel
theorem dX2_init_11 : decode cX2_init 11 = .ok (.iastore, 1) := by decide +kernel
theorem dX2_init_12 : decode cX2_init 12 = .ok (.dup, 1) := by decide +kernel
theorem dX2_init_13 : decode cX2_init 13 = .ok (.iconst 1, 1) := by decide +kernel
theorem dX2_init_14 : decode cX2_init 14 = .ok (.iconst 2, 1) := by decide +kernel
theorem dX2_init_15 : decode cX2_init 15 = .ok (.iastore, 1) := by decide +kernel
theorem dX2_init_16 : decode cX2_init 16 = .ok (.dup, 1) := by decide +kernel
theorem dX2_init_17 : decode cX2_init 17 = .ok (.iconst 2, 1) := by decide +kernel
theorem dX2_init_18 : decode cX2_init 18 = .ok (.iconst 2, 1) := by decide +kernel
theorem dX2_init_19 : decode cX2_init 19 = .ok (.iastore, 1) := by decide +kernel
theorem dX2_init_20 : decode cX2_init 20 = .ok (.putfield 9, 3) := by decide +kernel
theorem dX2_init_23 : decode cX2_init 23 = .ok (.aload_n 0, 1) := by decide +kernel
theorem dX2_init_24 : decode cX2_init 24 = .ok (.iconst 4, 1) := by decide +kernel
theorem dX2_init_25 : decode cX2_init 25 = .ok (.anewarray 15, 3) := by decide +kernel
theorem dX2_init_28 : decode cX2_init 28 = .ok (.putfield 17, 3) := by decide +kernel
theorem dX2_init_31 : decode cX2_init 31 = .ok (.aload_n 0, 1) := by decide +kernel
theorem dX2_init_32 : decode cX2_init 32 = .ok (.bipush 8, 2) := by decide +kernel
theorem dX2_init_34 : decode cX2_init 34 = .ok (.newarray .int, 2) := by decide +kernel
theorem dX2_init_36 : decode cX2_init 36 = .ok (.putfield 21, 3) := by decide +kernel
theorem dX2_init_39 : decode cX2_init 39 = .ok (.aload_n 0, 1) := by decide +kernel
theorem dX2_init_40 : decode cX2_init 40 = .ok (.bipush 40, 2) := by decide +kernel
theorem dX2_init_42 : decode cX2_init 42 = .ok (.anewarray 24, 3) := by decide +kernel
theorem dX2_init_45 : decode cX2_init 45 = .ok (.putfield 26, 3) := by decide +kernel
theorem dX2_init_48 : decode cX2_init 48 = .ok (.aload_n 0, 1) := by decide +kernel
theorem dX2_init_49 : decode cX2_init 49 = .ok (.iconst 2, 1) := by decide +kernel
theorem dX2_init_50 : decode cX2_init 50 = .ok (.anewarray 30, 3) := by decide +kernel
theorem dX2_init_53 : decode cX2_init 53 = .ok (.putfield 32, 3) := by decide +kernel
theorem dX2_init_56 : decode cX2_init 56 = .ok (.aload_n 0, 1) := by decide +kernel
theorem dX2_init_57 : decode cX2_init 57 = .ok (.new 30, 3) := by decide +kernel
theorem dX2_init_60 : decode cX2_init 60 = .ok (.dup, 1) := by decide +kernel
theorem dX2_init_61 : decode cX2_init 61 = .ok (.invokespecial 36, 3) := by decide +kernel
theorem dX2_init_64 : decode cX2_init 64 = .ok (.putfield 37, 3) := by decide +kernel
theorem dX2_init_67 : decode cX2_init 67 = .ok (.aload_n 0, 1) := by decide +kernel
theorem dX2_init_68 : decode cX2_init 68 = .ok (.iconst 5, 1) := by decide +kernel
theorem dX2_init_69 : decode cX2_init 69 = .ok (.newarray .int, 2) := by decide +kernel
theorem dX2_init_71 : decode cX2_init 71 = .ok (.putfield 41, 3) := by decide +kernel
theorem dX2_init_74 : decode cX2_init 74 = .ok (.iconst 0, 1) := by decide +kernel
theorem dX2_init_75 : decode cX2_init 75 = .ok (.istore_n 1, 1) := by decide +kernel
theorem dX2_init_76 : decode cX2_init 76 = .ok (.iload_n 1, 1) := by decide +kernel
theorem dX2_init_77 : decode cX2_init 77 = .ok (.iconst 4, 1) := by decide +kernel
theorem dX2_init_78 : decode cX2_init 78 = .ok (.if_icmp .ge 22, 3) := by decide +kernel
theorem dX2_init_81 : decode cX2_init 81 = .ok (.aload_n 0, 1) := by decide +kernel
theorem dX2_init_82 : decode cX2_init 82 = .ok (.getfield 17, 3) := by decide +kernel
theorem dX2_init_85 : decode cX2_init 85 = .ok (.iload_n 1, 1) := by decide +kernel
theorem dX2_init_86 : decode cX2_init 86 = .ok (.new 15, 3) := by decide +kernel
theorem dX2_init_89 : decode cX2_init 89 = .ok (.dup, 1) := by decide +kernel
theorem dX2_init_90 : decode cX2_init 90 = .ok (.invokespecial 44, 3) := by decide +kernel
theorem dX2_init_93 : decode cX2_init 93 = .ok (.aastore, 1) := by decide +kernel
theorem dX2_init_94 : decode cX2_init 94 = .ok (.iinc 1 1, 3) := by decide +kernel
theorem dX2_init_97 : decode cX2_init 97 = .ok (.goto (-21), 3) := by decide +kernel
theorem dX2_init_100 : decode cX2_init 100 = .ok (.iconst 0, 1) := by decide +kernel
theorem dX2_init_101 : decode cX2_init 101 = .ok (.istore_n 1, 1) := by decide +kernel
theorem dX2_init_102 : decode cX2_init 102 = .ok (.iload_n 1, 1) := by decide +kernel
theorem dX2_init_103 : decode cX2_init 103 = .ok (.bipush 8, 2) := by decide +kernel
theorem dX2_init_105 : decode cX2_init 105 = .ok (.if_icmp .ge 24, 3) := by decide +kernel
theorem dX2_init_108 : decode cX2_init 108 = .ok (.aload_n 0, 1) := by decide +kernel
theorem dX2_init_109 : decode cX2_init 109 = .ok (.getfield 21, 3) := by decide +kernel
theorem dX2_init_112 : decode cX2_init 112 = .ok (.iload_n 1, 1) := by decide +kernel
theorem dX2_init_113 : decode cX2_init 113 = .ok (.iload_n 1, 1) := by decide +kernel
theorem dX2_init_114 : decode cX2_init 114 = .ok (.iconst 2, 1) := by decide +kernel
theorem dX2_init_115 : decode cX2_init 115 = .ok (.idiv, 1) := by decide +kernel
theorem dX2_init_116 : decode cX2_init 116 = .ok (.iload_n 1, 1) := by decide +kernel
theorem dX2_init_117 : decode cX2_init 117 = .ok (.iconst 2, 1) := by decide +kernel
theorem dX2_init_118 : decode cX2_init 118 = .ok (.irem, 1) := by decide +kernel
theorem dX2_init_119 : decode cX2_init 119 = .ok (.iadd, 1) := by decide +kernel
theorem dX2_init_120 : decode cX2_init 120 = .ok (.iconst 4, 1) := by decide +kernel
theorem dX2_init_121 : decode cX2_init 121 = .ok (.irem, 1) := by decide +kernel
theorem dX2_init_122 : decode cX2_init 122 = .ok (.iastore, 1) := by decide +kernel
theorem dX2_init_123 : decode cX2_init 123 = .ok (.iinc 1 1, 3) := by decide +kernel
theorem dX2_init_126 : decode cX2_init 126 = .ok (.goto (-24), 3) := by decide +kernel
theorem dX2_init_129 : decode cX2_init 129 = .ok (.iconst 0, 1) := by decide +kernel
theorem dX2_init_130 : decode cX2_init 130 = .ok (.istore_n 1, 1) := by decide +kernel
theorem dX2_init_131 : decode cX2_init 131 = .ok (.iload_n 1, 1) := by decide +kernel
theorem dX2_init_132 : decode cX2_init 132 = .ok (.bipush 40, 2) := by decide +kernel
theorem dX2_init_134 : decode cX2_init 134 = .ok (.if_icmp .ge 22, 3) := by decide +kernel
theorem dX2_init_137 : decode cX2_init 137 = .ok (.aload_n 0, 1) := by decide +kernel
theorem dX2_init_138 : decode cX2_init 138 = .ok (.getfield 26, 3) := by decide +kernel
theorem dX2_init_141 : decode cX2_init 141 = .ok (.iload_n 1, 1) := by decide +kernel
theorem dX2_init_142 : decode cX2_init 142 = .ok (.new 24, 3) := by decide +kernel
theorem dX2_init_145 : decode cX2_init 145 = .ok (.dup, 1) := by decide +kernel
theorem dX2_init_146 : decode cX2_init 146 = .ok (.invokespecial 45, 3) := by decide +kernel
theorem dX2_init_149 : decode cX2_init 149 = .ok (.aastore, 1) := by decide +kernel
theorem dX2_init_150 : decode cX2_init 150 = .ok (.iinc 1 1, 3) := by decide +kernel
theorem dX2_init_153 : decode cX2_init 153 = .ok (.goto (-22), 3) := by decide +kernel
theorem dX2_init_156 : decode cX2_init 156 = .ok (.iconst 0, 1) := by decide +kernel
theorem dX2_init_157 : decode cX2_init 157 = .ok (.istore_n 1, 1) := by decide +kernel
theorem dX2_init_158 : decode cX2_init 158 = .ok (.iload_n 1, 1) := by decide +kernel
theorem dX2_init_159 : decode cX2_init 159 = .ok (.iconst 2, 1) := by decide +kernel
theorem dX2_init_160 : decode cX2_init 160 = .ok (.if_icmp .ge 22, 3) := by decide +kernel
theorem dX2_init_163 : decode cX2_init 163 = .ok (.aload_n 0, 1) := by decide +kernel
theorem dX2_init_164 : decode cX2_init 164 = .ok (.getfield 32, 3) := by decide +kernel
theorem dX2_init_167 : decode cX2_init 167 = .ok (.iload_n 1, 1) := by decide +kernel
theorem dX2_init_168 : decode cX2_init 168 = .ok (.new 30, 3) := by decide +kernel
theorem dX2_init_171 : decode cX2_init 171 = .ok (.dup, 1) := by decide +kernel
theorem dX2_init_172 : decode cX2_init 172 = .ok (.invokespecial 36, 3) := by decide +kernel
theorem dX2_init_175 : decode cX2_init 175 = .ok (.aastore, 1) := by decide +kernel
theorem dX2_init_176 : decode cX2_init 176 = .ok (.iinc 1 1, 3) := by decide +kernel
theorem dX2_init_179 : decode cX2_init 179 = .ok (.goto (-21), 3) := by decide +kernel
theorem dX2_init_182 : decode cX2_init 182 = .ok (.return_, 1) := by decide +kernel
theorem dX2_copyFrom_0 : decode cX2_copyFrom 0 = .ok (.aload_n 1, 1) := by decide +kernel
theorem dX2_copyFrom_1 : decode cX2_copyFrom 1 = .ok (.getfield 9, 3) := by decide +kernel
theorem dX2_copyFrom_4 : decode cX2_copyFrom 4 = .ok (.iconst 0, 1) := by decide +kernel
theorem dX2_copyFrom_5 : decode cX2_copyFrom 5 = .ok (.aload_n 0, 1) := by decide +kernel
theorem dX2_copyFrom_6 : decode cX2_copyFrom 6 = .ok (.getfield 9, 3) := by decide +kernel
theorem dX2_copyFrom_9 : decode cX2_copyFrom 9 = .ok (.iconst 0, 1) := by decide +kernel
theorem dX2_copyFrom_10 : decode cX2_copyFrom 10 = .ok (.iconst 3, 1) := by decide +kernel
theorem dX2_copyFrom_11 : decode cX2_copyFrom 11 = .ok (.invokestatic 46, 3) := by decide +kernel
theorem dX2_copyFrom_14 : decode cX2_copyFrom 14 = .ok (.aload_n 1, 1) := by decide +kernel
theorem dX2_copyFrom_15 : decode cX2_copyFrom 15 = .ok (.getfield 21, 3) := by decide +kernel
theorem dX2_copyFrom_18 : decode cX2_copyFrom 18 = .ok (.iconst 0, 1) := by decide +kernel
theorem dX2_copyFrom_19 : decode cX2_copyFrom 19 = .ok (.aload_n 0, 1) := by decide +kernel
theorem dX2_copyFrom_20 : decode cX2_copyFrom 20 = .ok (.getfield 21, 3) := by decide +kernel
theorem dX2_copyFrom_23 : decode cX2_copyFrom 23 = .ok (.iconst 0, 1) := by decide +kernel
theorem dX2_copyFrom_24 : decode cX2_copyFrom 24 = .ok (.bipush 8, 2) := by decide +kernel
theorem dX2_copyFrom_26 : decode cX2_copyFrom 26 = .ok (.invokestatic 46, 3) := by decide +kernel
theorem dX2_copyFrom_29 : decode cX2_copyFrom 29 = .ok (.iconst 0, 1) := by decide +kernel
theorem dX2_copyFrom_30 : decode cX2_copyFrom 30 = .ok (.istore_n 2, 1) := by decide +kernel
theorem dX2_copyFrom_31 : decode cX2_copyFrom 31 = .ok (.iload_n 2, 1) := by decide +kernel
theorem dX2_copyFrom_32 : decode cX2_copyFrom 32 = .ok (.iconst 4, 1) := by decide +kernel
theorem dX2_copyFrom_33 : decode cX2_copyFrom 33 = .ok (.if_icmp .ge 24, 3) := by decide +kernel
theorem dX2_copyFrom_36 : decode cX2_copyFrom 36 = .ok (.aload_n 0, 1) := by decide +kernel
theorem dX2_copyFrom_37 : decode cX2_copyFrom 37 = .ok (.getfield 17, 3) := by decide +kernel
theorem dX2_copyFrom_40 : decode cX2_copyFrom 40 = .ok (.iload_n 2, 1) := by decide +kernel
theorem dX2_copyFrom_41 : decode cX2_copyFrom 41 = .ok (.aaload, 1) := by decide +kernel
theorem dX2_copyFrom_42 : decode cX2_copyFrom 42 = .ok (.aload_n 1, 1) := by decide +kernel
theorem dX2_copyFrom_43 : decode cX2_copyFrom 43 = .ok (.getfield 17, 3) := by decide +kernel
theorem dX2_copyFrom_46 : decode cX2_copyFrom 46 = .ok (.iload_n 2, 1) := by decide +kernel
theorem dX2_copyFrom_47 : decode cX2_copyFrom 47 = .ok (.aaload, 1) := by decide +kernel
theorem dX2_copyFrom_48 : decode cX2_copyFrom 48 = .ok (.invokevirtual 52, 3) := by decide +kernel
theorem dX2_copyFrom_51 : decode cX2_copyFrom 51 = .ok (.iinc 2 1, 3) := by decide +kernel
theorem dX2_copyFrom_54 : decode cX2_copyFrom 54 = .ok (.goto (-23), 3) := by decide +kernel
theorem dX2_copyFrom_57 : decode cX2_copyFrom 57 = .ok (.iconst 0, 1) := by decide +kernel
theorem dX2_copyFrom_58 : decode cX2_copyFrom 58 = .ok (.istore_n 2, 1) := by decide +kernel
theorem dX2_copyFrom_59 : decode cX2_copyFrom 59 = .ok (.iload_n 2, 1) := by decide +kernel
theorem dX2_copyFrom_60 : decode cX2_copyFrom 60 = .ok (.aload_n 1, 1) := by decide +kernel
theorem dX2_copyFrom_61 : decode cX2_copyFrom 61 = .ok (.getfield 56, 3) := by decide +kernel
theorem dX2_copyFrom_64 : decode cX2_copyFrom 64 = .ok (.if_icmp .ge 24, 3) := by decide +kernel
theorem dX2_copyFrom_67 : decode cX2_copyFrom 67 = .ok (.aload_n 0, 1) := by decide +kernel
theorem dX2_copyFrom_68 : decode cX2_copyFrom 68 = .ok (.getfield 26, 3) := by decide +kernel
theorem dX2_copyFrom_71 : decode cX2_copyFrom 71 = .ok (.iload_n 2, 1) := by decide +kernel
theorem dX2_copyFrom_72 : decode cX2_copyFrom 72 = .ok (.aaload, 1) := by decide +kernel
theorem dX2_copyFrom_73 : decode cX2_copyFrom 73 = .ok (.aload_n 1, 1) := by decide +kernel
theorem dX2_copyFrom_74 : decode cX2_copyFrom 74 = .ok (.getfield 26, 3) := by decide +kernel
theorem dX2_copyFrom_77 : decode cX2_copyFrom 77 = .ok (.iload_n 2, 1) := by decide +kernel
theorem dX2_copyFrom_78 : decode cX2_copyFrom 78 = .ok (.aaload, 1) := by decide +kernel
theorem dX2_copyFrom_79 : decode cX2_copyFrom 79 = .ok (.invokevirtual 60, 3) := by decide +kernel
theorem dX2_copyFrom_82 : decode cX2_copyFrom 82 = .ok (.iinc 2 1, 3) := by decide +kernel
theorem dX2_copyFrom_85 : decode cX2_copyFrom 85 = .ok (.goto (-26), 3) := by decide +kernel
theorem dX2_copyFrom_88 : decode cX2_copyFrom 88 = .ok (.iconst 0, 1) := by decide +kernel
theorem dX2_copyFrom_89 : decode cX2_copyFrom 89 = .ok (.istore_n 2, 1) := by decide +kernel
theorem dX2_copyFrom_90 : decode cX2_copyFrom 90 = .ok (.iload_n 2, 1) := by decide +kernel
theorem dX2_copyFrom_91 : decode cX2_copyFrom 91 = .ok (.iconst 2, 1) := by decide +kernel
theorem dX2_copyFrom_92 : decode cX2_copyFrom 92 = .ok (.if_icmp .ge 24, 3) := by decide +kernel
theorem dX2_copyFrom_95 : decode cX2_copyFrom 95 = .ok (.aload_n 0, 1) := by decide +kernel
theorem dX2_copyFrom_96 : decode cX2_copyFrom 96 = .ok (.getfield 32, 3) := by decide +kernel
theorem dX2_copyFrom_99 : decode cX2_copyFrom 99 = .ok (.iload_n 2, 1) := by decide +kernel
theorem dX2_copyFrom_100 : decode cX2_copyFrom 100 = .ok (.aaload, 1) := by decide +kernel
theorem dX2_copyFrom_101 : decode cX2_copyFrom 101 = .ok (.aload_n 1, 1) := by decide +kernel
theorem dX2_copyFrom_102 : decode cX2_copyFrom 102 = .ok (.getfield 32, 3) := by decide +kernel
theorem dX2_copyFrom_105 : decode cX2_copyFrom 105 = .ok (.iload_n 2, 1) := by decide +kernel
theorem dX2_copyFrom_106 : decode cX2_copyFrom 106 = .ok (.aaload, 1) := by decide +kernel
theorem dX2_copyFrom_107 : decode cX2_copyFrom 107 = .ok (.invokevirtual 63, 3) := by decide +kernel
theorem dX2_copyFrom_110 : decode cX2_copyFrom 110 = .ok (.iinc 2 1, 3) := by decide +kernel
theorem dX2_copyFrom_113 : decode cX2_copyFrom 113 = .ok (.goto (-23), 3) := by decide +kernel
theorem dX2_copyFrom_116 : decode cX2_copyFrom 116 = .ok (.aload_n 0, 1) := by decide +kernel
theorem dX2_copyFrom_117 : decode cX2_copyFrom 117 = .ok (.aload_n 1, 1) := by decide +kernel
theorem dX2_copyFrom_118 : decode cX2_copyFrom 118 = .ok (.getfield 56, 3) := by decide +kernel
theorem dX2_copyFrom_121 : decode cX2_copyFrom 121 = .ok (.putfield 56, 3) := by decide +kernel
theorem dX2_copyFrom_124 : decode cX2_copyFrom 124 = .ok (.aload_n 0, 1) := by decide +kernel
theorem dX2_copyFrom_125 : decode cX2_copyFrom 125 = .ok (.aload_n 1, 1) := by decide +kernel
theorem dX2_copyFrom_126 : decode cX2_copyFrom 126 = .ok (.getfield 66, 3) := by decide +kernel
theorem dX2_copyFrom_129 : decode cX2_copyFrom 129 = .ok (.putfield 66, 3) := by decide +kernel
theorem dX2_copyFrom_132 : decode cX2_copyFrom 132 = .ok (.return_, 1) := by decide +kernel
theorem dX2_hasLetter_0 : decode cX2_hasLetter 0 = .ok (.iload_n 1, 1) := by decide +kernel
theorem dX2_hasLetter_1 : decode cX2_hasLetter 1 = .ok (.ifCond .lt 15, 3) := by decide +kernel
theorem dX2_hasLetter_4 : decode cX2_hasLetter 4 = .ok (.iload_n 1, 1) := by decide +kernel
theorem dX2_hasLetter_5 : decode cX2_hasLetter 5 = .ok (.aload_n 0, 1) := by decide +kernel
theorem dX2_hasLetter_6 : decode cX2_hasLetter 6 = .ok (.getfield 56, 3) := by decide +kernel
theorem dX2_hasLetter_9 : decode cX2_hasLetter 9 = .ok (.if_icmp .ge 7, 3) := by decide +kernel
theorem dX2_hasLetter_12 : decode cX2_hasLetter 12 = .ok (.iconst 1, 1) := by decide +kernel
theorem dX2_hasLetter_13 : decode cX2_hasLetter 13 = .ok (.goto 4, 3) := by decide +kernel
theorem dX2_hasLetter_16 : decode cX2_hasLetter 16 = .ok (.iconst 0, 1) := by decide +kernel
theorem dX2_hasLetter_17 : decode cX2_hasLetter 17 = .ok (.ireturn, 1) := by decide +kernel
theorem dX2_beginLetter_0 : decode cX2_beginLetter 0 = .ok (.aload_n 0, 1) := by decide +kernel
theorem dX2_beginLetter_1 : decode cX2_beginLetter 1 = .ok (.getfield 56, 3) := by decide +kernel
theorem dX2_beginLetter_4 : decode cX2_beginLetter 4 = .ok (.bipush 40, 2) := by decide +kernel
theorem dX2_beginLetter_6 : decode cX2_beginLetter 6 = .ok (.if_icmp .lt 5, 3) := by decide +kernel
theorem dX2_beginLetter_9 : decode cX2_beginLetter 9 = .ok (.aconst_null, 1) := by decide +kernel
theorem dX2_beginLetter_10 : decode cX2_beginLetter 10 = .ok (.areturn, 1) := by decide +kernel
theorem dX2_beginLetter_11 : decode cX2_beginLetter 11 = .ok (.aload_n 0, 1) := by decide +kernel
theorem dX2_beginLetter_12 : decode cX2_beginLetter 12 = .ok (.getfield 26, 3) := by decide +kernel
theorem dX2_beginLetter_15 : decode cX2_beginLetter 15 = .ok (.aload_n 0, 1) := by decide +kernel
theorem dX2_beginLetter_16 : decode cX2_beginLetter 16 = .ok (.getfield 56, 3) := by decide +kernel
theorem dX2_beginLetter_19 : decode cX2_beginLetter 19 = .ok (.aaload, 1) := by decide +kernel
theorem dX2_beginLetter_20 : decode cX2_beginLetter 20 = .ok (.astore_n 2, 1) := by decide +kernel
theorem dX2_beginLetter_21 : decode cX2_beginLetter 21 = .ok (.aload_n 2, 1) := by decide +kernel
theorem dX2_beginLetter_22 : decode cX2_beginLetter 22 = .ok (.iload_n 1, 1) := by decide +kernel
theorem dX2_beginLetter_23 : decode cX2_beginLetter 23 = .ok (.aload_n 0, 1) := by decide +kernel
theorem dX2_beginLetter_24 : decode cX2_beginLetter 24 = .ok (.getfield 66, 3) := by decide +kernel
theorem dX2_beginLetter_27 : decode cX2_beginLetter 27 = .ok (.invokevirtual 69, 3) := by decide +kernel
theorem dX2_beginLetter_30 : decode cX2_beginLetter 30 = .ok (.aload_n 0, 1) := by decide +kernel
theorem dX2_beginLetter_31 : decode cX2_beginLetter 31 = .ok (.dup, 1) := by decide +kernel
theorem dX2_beginLetter_32 : decode cX2_beginLetter 32 = .ok (.getfield 56, 3) := by decide +kernel
theorem dX2_beginLetter_35 : decode cX2_beginLetter 35 = .ok (.iconst 1, 1) := by decide +kernel
theorem dX2_beginLetter_36 : decode cX2_beginLetter 36 = .ok (.iadd, 1) := by decide +kernel
theorem dX2_beginLetter_37 : decode cX2_beginLetter 37 = .ok (.putfield 56, 3) := by decide +kernel
theorem dX2_beginLetter_40 : decode cX2_beginLetter 40 = .ok (.aload_n 2, 1) := by decide +kernel
theorem dX2_beginLetter_41 : decode cX2_beginLetter 41 = .ok (.areturn, 1) := by decide +kernel
theorem dX2_sendNewest_0 : decode cX2_sendNewest 0 = .ok (.aload_n 0, 1) := by decide +kernel
theorem dX2_sendNewest_1 : decode cX2_sendNewest 1 = .ok (.getfield 56, 3) := by decide +kernel
theorem dX2_sendNewest_4 : decode cX2_sendNewest 4 = .ok (.ifCond .le 33, 3) := by decide +kernel
theorem dX2_sendNewest_7 : decode cX2_sendNewest 7 = .ok (.aload_n 0, 1) := by decide +kernel
theorem dX2_sendNewest_8 : decode cX2_sendNewest 8 = .ok (.getfield 26, 3) := by decide +kernel
theorem dX2_sendNewest_11 : decode cX2_sendNewest 11 = .ok (.aload_n 0, 1) := by decide +kernel
theorem dX2_sendNewest_12 : decode cX2_sendNewest 12 = .ok (.getfield 56, 3) := by decide +kernel
theorem dX2_sendNewest_15 : decode cX2_sendNewest 15 = .ok (.iconst 1, 1) := by decide +kernel
theorem dX2_sendNewest_16 : decode cX2_sendNewest 16 = .ok (.isub, 1) := by decide +kernel
theorem dX2_sendNewest_17 : decode cX2_sendNewest 17 = .ok (.aaload, 1) := by decide +kernel
theorem dX2_sendNewest_18 : decode cX2_sendNewest 18 = .ok (.iload_n 1, 1) := by decide +kernel
theorem dX2_sendNewest_19 : decode cX2_sendNewest 19 = .ok (.putfield 73, 3) := by decide +kernel
theorem dX2_sendNewest_22 : decode cX2_sendNewest 22 = .ok (.aload_n 0, 1) := by decide +kernel
theorem dX2_sendNewest_23 : decode cX2_sendNewest 23 = .ok (.getfield 32, 3) := by decide +kernel
theorem dX2_sendNewest_26 : decode cX2_sendNewest 26 = .ok (.iload_n 1, 1) := by decide +kernel
theorem dX2_sendNewest_27 : decode cX2_sendNewest 27 = .ok (.aaload, 1) := by decide +kernel
theorem dX2_sendNewest_28 : decode cX2_sendNewest 28 = .ok (.aload_n 0, 1) := by decide +kernel
theorem dX2_sendNewest_29 : decode cX2_sendNewest 29 = .ok (.getfield 56, 3) := by decide +kernel
theorem dX2_sendNewest_32 : decode cX2_sendNewest 32 = .ok (.iconst 1, 1) := by decide +kernel
theorem dX2_sendNewest_33 : decode cX2_sendNewest 33 = .ok (.isub, 1) := by decide +kernel
theorem dX2_sendNewest_34 : decode cX2_sendNewest 34 = .ok (.invokevirtual 76, 3) := by decide +kernel
theorem dX2_sendNewest_37 : decode cX2_sendNewest 37 = .ok (.return_, 1) := by decide +kernel
theorem dX2_burnWaiting_0 : decode cX2_burnWaiting 0 = .ok (.aload_n 0, 1) := by decide +kernel
theorem dX2_burnWaiting_1 : decode cX2_burnWaiting 1 = .ok (.getfield 26, 3) := by decide +kernel
theorem dX2_burnWaiting_4 : decode cX2_burnWaiting 4 = .ok (.iload_n 1, 1) := by decide +kernel
theorem dX2_burnWaiting_5 : decode cX2_burnWaiting 5 = .ok (.aaload, 1) := by decide +kernel
theorem dX2_burnWaiting_6 : decode cX2_burnWaiting 6 = .ok (.iconst 2, 1) := by decide +kernel
theorem dX2_burnWaiting_7 : decode cX2_burnWaiting 7 = .ok (.putfield 80, 3) := by decide +kernel
theorem dX2_burnWaiting_10 : decode cX2_burnWaiting 10 = .ok (.aload_n 0, 1) := by decide +kernel
theorem dX2_burnWaiting_11 : decode cX2_burnWaiting 11 = .ok (.getfield 32, 3) := by decide +kernel
theorem dX2_burnWaiting_14 : decode cX2_burnWaiting 14 = .ok (.aload_n 0, 1) := by decide +kernel
theorem dX2_burnWaiting_15 : decode cX2_burnWaiting 15 = .ok (.getfield 26, 3) := by decide +kernel
theorem dX2_burnWaiting_18 : decode cX2_burnWaiting 18 = .ok (.iload_n 1, 1) := by decide +kernel
theorem dX2_burnWaiting_19 : decode cX2_burnWaiting 19 = .ok (.aaload, 1) := by decide +kernel
theorem dX2_burnWaiting_20 : decode cX2_burnWaiting 20 = .ok (.getfield 73, 3) := by decide +kernel
theorem dX2_burnWaiting_23 : decode cX2_burnWaiting 23 = .ok (.aaload, 1) := by decide +kernel
theorem dX2_burnWaiting_24 : decode cX2_burnWaiting 24 = .ok (.iload_n 1, 1) := by decide +kernel
theorem dX2_burnWaiting_25 : decode cX2_burnWaiting 25 = .ok (.invokevirtual 83, 3) := by decide +kernel
theorem dX2_burnWaiting_28 : decode cX2_burnWaiting 28 = .ok (.return_, 1) := by decide +kernel
theorem dX2_tradeShifts_0 : decode cX2_tradeShifts 0 = .ok (.aload_n 0, 1) := by decide +kernel
theorem dX2_tradeShifts_1 : decode cX2_tradeShifts 1 = .ok (.getfield 21, 3) := by decide +kernel
theorem dX2_tradeShifts_4 : decode cX2_tradeShifts 4 = .ok (.iload_n 1, 1) := by decide +kernel
theorem dX2_tradeShifts_5 : decode cX2_tradeShifts 5 = .ok (.iaload, 1) := by decide +kernel
theorem dX2_tradeShifts_6 : decode cX2_tradeShifts 6 = .ok (.istore_n 3, 1) := by decide +kernel
theorem dX2_tradeShifts_7 : decode cX2_tradeShifts 7 = .ok (.aload_n 0, 1) := by decide +kernel
theorem dX2_tradeShifts_8 : decode cX2_tradeShifts 8 = .ok (.getfield 21, 3) := by decide +kernel
theorem dX2_tradeShifts_11 : decode cX2_tradeShifts 11 = .ok (.iload_n 1, 1) := by decide +kernel
theorem dX2_tradeShifts_12 : decode cX2_tradeShifts 12 = .ok (.aload_n 0, 1) := by decide +kernel
theorem dX2_tradeShifts_13 : decode cX2_tradeShifts 13 = .ok (.getfield 21, 3) := by decide +kernel
theorem dX2_tradeShifts_16 : decode cX2_tradeShifts 16 = .ok (.iload_n 2, 1) := by decide +kernel
theorem dX2_tradeShifts_17 : decode cX2_tradeShifts 17 = .ok (.iaload, 1) := by decide +kernel
theorem dX2_tradeShifts_18 : decode cX2_tradeShifts 18 = .ok (.iastore, 1) := by decide +kernel
theorem dX2_tradeShifts_19 : decode cX2_tradeShifts 19 = .ok (.aload_n 0, 1) := by decide +kernel
theorem dX2_tradeShifts_20 : decode cX2_tradeShifts 20 = .ok (.getfield 21, 3) := by decide +kernel
theorem dX2_tradeShifts_23 : decode cX2_tradeShifts 23 = .ok (.iload_n 2, 1) := by decide +kernel
theorem dX2_tradeShifts_24 : decode cX2_tradeShifts 24 = .ok (.iload_n 3, 1) := by decide +kernel
theorem dX2_tradeShifts_25 : decode cX2_tradeShifts 25 = .ok (.iastore, 1) := by decide +kernel
theorem dX2_tradeShifts_26 : decode cX2_tradeShifts 26 = .ok (.return_, 1) := by decide +kernel
theorem dX2_censorNumber_0 : decode cX2_censorNumber 0 = .ok (.aload_n 0, 1) := by decide +kernel
theorem dX2_censorNumber_1 : decode cX2_censorNumber 1 = .ok (.getfield 21, 3) := by decide +kernel
theorem dX2_censorNumber_4 : decode cX2_censorNumber 4 = .ok (.iconst 2, 1) := by decide +kernel
theorem dX2_censorNumber_5 : decode cX2_censorNumber 5 = .ok (.iload_n 1, 1) := by decide +kernel
theorem dX2_censorNumber_6 : decode cX2_censorNumber 6 = .ok (.iconst 4, 1) := by decide +kernel
theorem dX2_censorNumber_7 : decode cX2_censorNumber 7 = .ok (.irem, 1) := by decide +kernel
theorem dX2_censorNumber_8 : decode cX2_censorNumber 8 = .ok (.imul, 1) := by decide +kernel
theorem dX2_censorNumber_9 : decode cX2_censorNumber 9 = .ok (.iload_n 2, 1) := by decide +kernel
theorem dX2_censorNumber_10 : decode cX2_censorNumber 10 = .ok (.iadd, 1) := by decide +kernel
theorem dX2_censorNumber_11 : decode cX2_censorNumber 11 = .ok (.iaload, 1) := by decide +kernel
theorem dX2_censorNumber_12 : decode cX2_censorNumber 12 = .ok (.ireturn, 1) := by decide +kernel
theorem dX2_shiftsOf_0 : decode cX2_shiftsOf 0 = .ok (.iconst 0, 1) := by decide +kernel
theorem dX2_shiftsOf_1 : decode cX2_shiftsOf 1 = .ok (.istore_n 2, 1) := by decide +kernel
theorem dX2_shiftsOf_2 : decode cX2_shiftsOf 2 = .ok (.iconst 0, 1) := by decide +kernel
theorem dX2_shiftsOf_3 : decode cX2_shiftsOf 3 = .ok (.istore_n 3, 1) := by decide +kernel
theorem dX2_shiftsOf_4 : decode cX2_shiftsOf 4 = .ok (.iload_n 3, 1) := by decide +kernel
theorem dX2_shiftsOf_5 : decode cX2_shiftsOf 5 = .ok (.bipush 8, 2) := by decide +kernel
theorem dX2_shiftsOf_7 : decode cX2_shiftsOf 7 = .ok (.if_icmp .ge 22, 3) := by decide +kernel
theorem dX2_shiftsOf_10 : decode cX2_shiftsOf 10 = .ok (.aload_n 0, 1) := by decide +kernel
theorem dX2_shiftsOf_11 : decode cX2_shiftsOf 11 = .ok (.getfield 21, 3) := by decide +kernel
theorem dX2_shiftsOf_14 : decode cX2_shiftsOf 14 = .ok (.iload_n 3, 1) := by decide +kernel
theorem dX2_shiftsOf_15 : decode cX2_shiftsOf 15 = .ok (.iaload, 1) := by decide +kernel
theorem dX2_shiftsOf_16 : decode cX2_shiftsOf 16 = .ok (.iload_n 1, 1) := by decide +kernel
theorem dX2_shiftsOf_17 : decode cX2_shiftsOf 17 = .ok (.if_icmp .ne 6, 3) := by decide +kernel
theorem dX2_shiftsOf_20 : decode cX2_shiftsOf 20 = .ok (.iinc 2 1, 3) := by decide +kernel
theorem dX2_shiftsOf_23 : decode cX2_shiftsOf 23 = .ok (.iinc 3 1, 3) := by decide +kernel
theorem dX2_shiftsOf_26 : decode cX2_shiftsOf 26 = .ok (.goto (-22), 3) := by decide +kernel
theorem dX2_shiftsOf_29 : decode cX2_shiftsOf 29 = .ok (.iload_n 2, 1) := by decide +kernel
theorem dX2_shiftsOf_30 : decode cX2_shiftsOf 30 = .ok (.ireturn, 1) := by decide +kernel
theorem dX2_aheadOf_0 : decode cX2_aheadOf 0 = .ok (.iload_n 1, 1) := by decide +kernel
theorem dX2_aheadOf_1 : decode cX2_aheadOf 1 = .ok (.iconst 1, 1) := by decide +kernel
theorem dX2_aheadOf_2 : decode cX2_aheadOf 2 = .ok (.isub, 1) := by decide +kernel
theorem dX2_aheadOf_3 : decode cX2_aheadOf 3 = .ok (.istore_n 2, 1) := by decide +kernel
theorem dX2_aheadOf_4 : decode cX2_aheadOf 4 = .ok (.iload_n 2, 1) := by decide +kernel
theorem dX2_aheadOf_5 : decode cX2_aheadOf 5 = .ok (.ifCond .lt 32, 3) := by decide +kernel
theorem dX2_aheadOf_8 : decode cX2_aheadOf 8 = .ok (.aload_n 0, 1) := by decide +kernel
theorem dX2_aheadOf_9 : decode cX2_aheadOf 9 = .ok (.getfield 26, 3) := by decide +kernel
theorem dX2_aheadOf_12 : decode cX2_aheadOf 12 = .ok (.iload_n 2, 1) := by decide +kernel
theorem dX2_aheadOf_13 : decode cX2_aheadOf 13 = .ok (.aaload, 1) := by decide +kernel
theorem dX2_aheadOf_14 : decode cX2_aheadOf 14 = .ok (.getfield 86, 3) := by decide +kernel
theorem dX2_aheadOf_17 : decode cX2_aheadOf 17 = .ok (.aload_n 0, 1) := by decide +kernel
theorem dX2_aheadOf_18 : decode cX2_aheadOf 18 = .ok (.getfield 26, 3) := by decide +kernel
theorem dX2_aheadOf_21 : decode cX2_aheadOf 21 = .ok (.iload_n 1, 1) := by decide +kernel
theorem dX2_aheadOf_22 : decode cX2_aheadOf 22 = .ok (.aaload, 1) := by decide +kernel
theorem dX2_aheadOf_23 : decode cX2_aheadOf 23 = .ok (.getfield 86, 3) := by decide +kernel
theorem dX2_aheadOf_26 : decode cX2_aheadOf 26 = .ok (.if_icmp .ne 5, 3) := by decide +kernel
theorem dX2_aheadOf_29 : decode cX2_aheadOf 29 = .ok (.iload_n 2, 1) := by decide +kernel
theorem dX2_aheadOf_30 : decode cX2_aheadOf 30 = .ok (.ireturn, 1) := by decide +kernel
theorem dX2_aheadOf_31 : decode cX2_aheadOf 31 = .ok (.iinc 2 (-1), 3) := by decide +kernel
theorem dX2_aheadOf_34 : decode cX2_aheadOf 34 = .ok (.goto (-30), 3) := by decide +kernel
theorem dX2_aheadOf_37 : decode cX2_aheadOf 37 = .ok (.bipush (-6), 2) := by decide +kernel
theorem dX2_aheadOf_39 : decode cX2_aheadOf 39 = .ok (.ireturn, 1) := by decide +kernel
theorem dX2_lettersThatAre_0 : decode cX2_lettersThatAre 0 = .ok (.iconst 0, 1) := by decide +kernel
theorem dX2_lettersThatAre_1 : decode cX2_lettersThatAre 1 = .ok (.istore_n 2, 1) := by decide +kernel
theorem dX2_lettersThatAre_2 : decode cX2_lettersThatAre 2 = .ok (.iconst 0, 1) := by decide +kernel
theorem dX2_lettersThatAre_3 : decode cX2_lettersThatAre 3 = .ok (.istore_n 3, 1) := by decide +kernel
theorem dX2_lettersThatAre_4 : decode cX2_lettersThatAre 4 = .ok (.iload_n 3, 1) := by decide +kernel
theorem dX2_lettersThatAre_5 : decode cX2_lettersThatAre 5 = .ok (.aload_n 0, 1) := by decide +kernel
theorem dX2_lettersThatAre_6 : decode cX2_lettersThatAre 6 = .ok (.getfield 56, 3) := by decide +kernel
theorem dX2_lettersThatAre_9 : decode cX2_lettersThatAre 9 = .ok (.if_icmp .ge 25, 3) := by decide +kernel
theorem dX2_lettersThatAre_12 : decode cX2_lettersThatAre 12 = .ok (.aload_n 0, 1) := by decide +kernel
theorem dX2_lettersThatAre_13 : decode cX2_lettersThatAre 13 = .ok (.getfield 26, 3) := by decide +kernel
theorem dX2_lettersThatAre_16 : decode cX2_lettersThatAre 16 = .ok (.iload_n 3, 1) := by decide +kernel
theorem dX2_lettersThatAre_17 : decode cX2_lettersThatAre 17 = .ok (.aaload, 1) := by decide +kernel
theorem dX2_lettersThatAre_18 : decode cX2_lettersThatAre 18 = .ok (.getfield 80, 3) := by decide +kernel
theorem dX2_lettersThatAre_21 : decode cX2_lettersThatAre 21 = .ok (.iload_n 1, 1) := by decide +kernel
theorem dX2_lettersThatAre_22 : decode cX2_lettersThatAre 22 = .ok (.if_icmp .ne 6, 3) := by decide +kernel
theorem dX2_lettersThatAre_25 : decode cX2_lettersThatAre 25 = .ok (.iinc 2 1, 3) := by decide +kernel
theorem dX2_lettersThatAre_28 : decode cX2_lettersThatAre 28 = .ok (.iinc 3 1, 3) := by decide +kernel
theorem dX2_lettersThatAre_31 : decode cX2_lettersThatAre 31 = .ok (.goto (-27), 3) := by decide +kernel
theorem dX2_lettersThatAre_34 : decode cX2_lettersThatAre 34 = .ok (.iload_n 2, 1) := by decide +kernel
theorem dX2_lettersThatAre_35 : decode cX2_lettersThatAre 35 = .ok (.ireturn, 1) := by decide +kernel
theorem dX2_allDelays_0 : decode cX2_allDelays 0 = .ok (.iconst 0, 1) := by decide +kernel
theorem dX2_allDelays_1 : decode cX2_allDelays 1 = .ok (.istore_n 1, 1) := by decide +kernel
theorem dX2_allDelays_2 : decode cX2_allDelays 2 = .ok (.iconst 0, 1) := by decide +kernel
theorem dX2_allDelays_3 : decode cX2_allDelays 3 = .ok (.istore_n 2, 1) := by decide +kernel
theorem dX2_allDelays_4 : decode cX2_allDelays 4 = .ok (.iload_n 2, 1) := by decide +kernel
theorem dX2_allDelays_5 : decode cX2_allDelays 5 = .ok (.aload_n 0, 1) := by decide +kernel
theorem dX2_allDelays_6 : decode cX2_allDelays 6 = .ok (.getfield 56, 3) := by decide +kernel
theorem dX2_allDelays_9 : decode cX2_allDelays 9 = .ok (.if_icmp .ge 34, 3) := by decide +kernel
theorem dX2_allDelays_12 : decode cX2_allDelays 12 = .ok (.aload_n 0, 1) := by decide +kernel
theorem dX2_allDelays_13 : decode cX2_allDelays 13 = .ok (.getfield 26, 3) := by decide +kernel
theorem dX2_allDelays_16 : decode cX2_allDelays 16 = .ok (.iload_n 2, 1) := by decide +kernel
theorem dX2_allDelays_17 : decode cX2_allDelays 17 = .ok (.aaload, 1) := by decide +kernel
theorem dX2_allDelays_18 : decode cX2_allDelays 18 = .ok (.getfield 80, 3) := by decide +kernel
theorem dX2_allDelays_21 : decode cX2_allDelays 21 = .ok (.iconst 1, 1) := by decide +kernel
theorem dX2_allDelays_22 : decode cX2_allDelays 22 = .ok (.if_icmp .ne 15, 3) := by decide +kernel
theorem dX2_allDelays_25 : decode cX2_allDelays 25 = .ok (.iload_n 1, 1) := by decide +kernel
theorem dX2_allDelays_26 : decode cX2_allDelays 26 = .ok (.aload_n 0, 1) := by decide +kernel
theorem dX2_allDelays_27 : decode cX2_allDelays 27 = .ok (.getfield 26, 3) := by decide +kernel
theorem dX2_allDelays_30 : decode cX2_allDelays 30 = .ok (.iload_n 2, 1) := by decide +kernel
theorem dX2_allDelays_31 : decode cX2_allDelays 31 = .ok (.aaload, 1) := by decide +kernel
theorem dX2_allDelays_32 : decode cX2_allDelays 32 = .ok (.getfield 89, 3) := by decide +kernel
theorem dX2_allDelays_35 : decode cX2_allDelays 35 = .ok (.iadd, 1) := by decide +kernel
theorem dX2_allDelays_36 : decode cX2_allDelays 36 = .ok (.istore_n 1, 1) := by decide +kernel
theorem dX2_allDelays_37 : decode cX2_allDelays 37 = .ok (.iinc 2 1, 3) := by decide +kernel
theorem dX2_allDelays_40 : decode cX2_allDelays 40 = .ok (.goto (-36), 3) := by decide +kernel
theorem dX2_allDelays_43 : decode cX2_allDelays 43 = .ok (.iload_n 1, 1) := by decide +kernel
theorem dX2_allDelays_44 : decode cX2_allDelays 44 = .ok (.ireturn, 1) := by decide +kernel
theorem dX2_longestDelay_0 : decode cX2_longestDelay 0 = .ok (.iconst 0, 1) := by decide +kernel
theorem dX2_longestDelay_1 : decode cX2_longestDelay 1 = .ok (.istore_n 1, 1) := by decide +kernel
theorem dX2_longestDelay_2 : decode cX2_longestDelay 2 = .ok (.iconst 0, 1) := by decide +kernel
theorem dX2_longestDelay_3 : decode cX2_longestDelay 3 = .ok (.istore_n 2, 1) := by decide +kernel
theorem dX2_longestDelay_4 : decode cX2_longestDelay 4 = .ok (.iload_n 2, 1) := by decide +kernel
theorem dX2_longestDelay_5 : decode cX2_longestDelay 5 = .ok (.aload_n 0, 1) := by decide +kernel
theorem dX2_longestDelay_6 : decode cX2_longestDelay 6 = .ok (.getfield 56, 3) := by decide +kernel
theorem dX2_longestDelay_9 : decode cX2_longestDelay 9 = .ok (.if_icmp .ge 36, 3) := by decide +kernel
theorem dX2_longestDelay_12 : decode cX2_longestDelay 12 = .ok (.aload_n 0, 1) := by decide +kernel
theorem dX2_longestDelay_13 : decode cX2_longestDelay 13 = .ok (.getfield 26, 3) := by decide +kernel
theorem dX2_longestDelay_16 : decode cX2_longestDelay 16 = .ok (.iload_n 2, 1) := by decide +kernel
theorem dX2_longestDelay_17 : decode cX2_longestDelay 17 = .ok (.aaload, 1) := by decide +kernel
theorem dX2_longestDelay_18 : decode cX2_longestDelay 18 = .ok (.getfield 80, 3) := by decide +kernel
theorem dX2_longestDelay_21 : decode cX2_longestDelay 21 = .ok (.iconst 1, 1) := by decide +kernel
theorem dX2_longestDelay_22 : decode cX2_longestDelay 22 = .ok (.if_icmp .ne 17, 3) := by decide +kernel
theorem dX2_longestDelay_25 : decode cX2_longestDelay 25 = .ok (.iload_n 1, 1) := by decide +kernel
theorem dX2_longestDelay_26 : decode cX2_longestDelay 26 = .ok (.aload_n 0, 1) := by decide +kernel
theorem dX2_longestDelay_27 : decode cX2_longestDelay 27 = .ok (.getfield 26, 3) := by decide +kernel
theorem dX2_longestDelay_30 : decode cX2_longestDelay 30 = .ok (.iload_n 2, 1) := by decide +kernel
theorem dX2_longestDelay_31 : decode cX2_longestDelay 31 = .ok (.aaload, 1) := by decide +kernel
theorem dX2_longestDelay_32 : decode cX2_longestDelay 32 = .ok (.getfield 89, 3) := by decide +kernel
theorem dX2_longestDelay_35 : decode cX2_longestDelay 35 = .ok (.invokestatic 92, 3) := by decide +kernel
theorem dX2_longestDelay_38 : decode cX2_longestDelay 38 = .ok (.istore_n 1, 1) := by decide +kernel
theorem dX2_longestDelay_39 : decode cX2_longestDelay 39 = .ok (.iinc 2 1, 3) := by decide +kernel
theorem dX2_longestDelay_42 : decode cX2_longestDelay 42 = .ok (.goto (-38), 3) := by decide +kernel
theorem dX2_longestDelay_45 : decode cX2_longestDelay 45 = .ok (.iload_n 1, 1) := by decide +kernel
theorem dX2_longestDelay_46 : decode cX2_longestDelay 46 = .ok (.ireturn, 1) := by decide +kernel
theorem dX2_wordsStruckInLetters_0 : decode cX2_wordsStruckInLetters 0 = .ok (.iconst 0, 1) := by decide +kernel
theorem dX2_wordsStruckInLetters_1 : decode cX2_wordsStruckInLetters 1 = .ok (.istore_n 1, 1) := by decide +kernel
theorem dX2_wordsStruckInLetters_2 : decode cX2_wordsStruckInLetters 2 = .ok (.iconst 0, 1) := by decide +kernel
theorem dX2_wordsStruckInLetters_3 : decode cX2_wordsStruckInLetters 3 = .ok (.istore_n 2, 1) := by decide +kernel
theorem dX2_wordsStruckInLetters_4 : decode cX2_wordsStruckInLetters 4 = .ok (.iload_n 2, 1) := by decide +kernel
theorem dX2_wordsStruckInLetters_5 : decode cX2_wordsStruckInLetters 5 = .ok (.aload_n 0, 1) := by decide +kernel
theorem dX2_wordsStruckInLetters_6 : decode cX2_wordsStruckInLetters 6 = .ok (.getfield 56, 3) := by decide +kernel
theorem dX2_wordsStruckInLetters_9 : decode cX2_wordsStruckInLetters 9 = .ok (.if_icmp .ge 34, 3) := by decide +kernel
theorem dX2_wordsStruckInLetters_12 : decode cX2_wordsStruckInLetters 12 = .ok (.aload_n 0, 1) := by decide +kernel
theorem dX2_wordsStruckInLetters_13 : decode cX2_wordsStruckInLetters 13 = .ok (.getfield 26, 3) := by decide +kernel
theorem dX2_wordsStruckInLetters_16 : decode cX2_wordsStruckInLetters 16 = .ok (.iload_n 2, 1) := by decide +kernel
theorem dX2_wordsStruckInLetters_17 : decode cX2_wordsStruckInLetters 17 = .ok (.aaload, 1) := by decide +kernel
theorem dX2_wordsStruckInLetters_18 : decode cX2_wordsStruckInLetters 18 = .ok (.getfield 80, 3) := by decide +kernel
theorem dX2_wordsStruckInLetters_21 : decode cX2_wordsStruckInLetters 21 = .ok (.iconst 1, 1) := by decide +kernel
theorem dX2_wordsStruckInLetters_22 : decode cX2_wordsStruckInLetters 22 = .ok (.if_icmp .ne 15, 3) := by decide +kernel
theorem dX2_wordsStruckInLetters_25 : decode cX2_wordsStruckInLetters 25 = .ok (.iload_n 1, 1) := by decide +kernel
theorem dX2_wordsStruckInLetters_26 : decode cX2_wordsStruckInLetters 26 = .ok (.aload_n 0, 1) := by decide +kernel
theorem dX2_wordsStruckInLetters_27 : decode cX2_wordsStruckInLetters 27 = .ok (.getfield 26, 3) := by decide +kernel
theorem dX2_wordsStruckInLetters_30 : decode cX2_wordsStruckInLetters 30 = .ok (.iload_n 2, 1) := by decide +kernel
theorem dX2_wordsStruckInLetters_31 : decode cX2_wordsStruckInLetters 31 = .ok (.aaload, 1) := by decide +kernel
theorem dX2_wordsStruckInLetters_32 : decode cX2_wordsStruckInLetters 32 = .ok (.invokevirtual 98, 3) := by decide +kernel
theorem dX2_wordsStruckInLetters_35 : decode cX2_wordsStruckInLetters 35 = .ok (.iadd, 1) := by decide +kernel
theorem dX2_wordsStruckInLetters_36 : decode cX2_wordsStruckInLetters 36 = .ok (.istore_n 1, 1) := by decide +kernel
theorem dX2_wordsStruckInLetters_37 : decode cX2_wordsStruckInLetters 37 = .ok (.iinc 2 1, 3) := by decide +kernel
theorem dX2_wordsStruckInLetters_40 : decode cX2_wordsStruckInLetters 40 = .ok (.goto (-36), 3) := by decide +kernel
theorem dX2_wordsStruckInLetters_43 : decode cX2_wordsStruckInLetters 43 = .ok (.iload_n 1, 1) := by decide +kernel
theorem dX2_wordsStruckInLetters_44 : decode cX2_wordsStruckInLetters 44 = .ok (.ireturn, 1) := by decide +kernel
theorem dX2_threadsThatWait_0 : decode cX2_threadsThatWait 0 = .ok (.aload_n 0, 1) := by decide +kernel
theorem dX2_threadsThatWait_1 : decode cX2_threadsThatWait 1 = .ok (.invokevirtual 102, 3) := by decide +kernel
theorem dX2_threadsThatWait_4 : decode cX2_threadsThatWait 4 = .ok (.iconst 0, 1) := by decide +kernel
theorem dX2_threadsThatWait_5 : decode cX2_threadsThatWait 5 = .ok (.istore_n 1, 1) := by decide +kernel
theorem dX2_threadsThatWait_6 : decode cX2_threadsThatWait 6 = .ok (.iconst 0, 1) := by decide +kernel
theorem dX2_threadsThatWait_7 : decode cX2_threadsThatWait 7 = .ok (.istore_n 2, 1) := by decide +kernel
theorem dX2_threadsThatWait_8 : decode cX2_threadsThatWait 8 = .ok (.iload_n 2, 1) := by decide +kernel
theorem dX2_threadsThatWait_9 : decode cX2_threadsThatWait 9 = .ok (.iconst 5, 1) := by decide +kernel
theorem dX2_threadsThatWait_10 : decode cX2_threadsThatWait 10 = .ok (.if_icmp .ge 23, 3) := by decide +kernel
theorem dX2_threadsThatWait_13 : decode cX2_threadsThatWait 13 = .ok (.aload_n 0, 1) := by decide +kernel
theorem dX2_threadsThatWait_14 : decode cX2_threadsThatWait 14 = .ok (.getfield 41, 3) := by decide +kernel
theorem dX2_threadsThatWait_17 : decode cX2_threadsThatWait 17 = .ok (.iload_n 2, 1) := by decide +kernel
theorem dX2_threadsThatWait_18 : decode cX2_threadsThatWait 18 = .ok (.iaload, 1) := by decide +kernel
theorem dX2_threadsThatWait_19 : decode cX2_threadsThatWait 19 = .ok (.bipush (-6), 2) := by decide +kernel
theorem dX2_threadsThatWait_21 : decode cX2_threadsThatWait 21 = .ok (.if_icmp .eq 6, 3) := by decide +kernel
theorem dX2_threadsThatWait_24 : decode cX2_threadsThatWait 24 = .ok (.iinc 1 1, 3) := by decide +kernel
theorem dX2_threadsThatWait_27 : decode cX2_threadsThatWait 27 = .ok (.iinc 2 1, 3) := by decide +kernel
theorem dX2_threadsThatWait_30 : decode cX2_threadsThatWait 30 = .ok (.goto (-22), 3) := by decide +kernel
theorem dX2_threadsThatWait_33 : decode cX2_threadsThatWait 33 = .ok (.iload_n 1, 1) := by decide +kernel
theorem dX2_threadsThatWait_34 : decode cX2_threadsThatWait 34 = .ok (.ireturn, 1) := by decide +kernel
theorem dX2_lettersTurnedByAll_0 : decode cX2_lettersTurnedByAll 0 = .ok (.iconst 0, 1) := by decide +kernel
theorem dX2_lettersTurnedByAll_1 : decode cX2_lettersTurnedByAll 1 = .ok (.istore_n 1, 1) := by decide +kernel
theorem dX2_lettersTurnedByAll_2 : decode cX2_lettersTurnedByAll 2 = .ok (.iconst 0, 1) := by decide +kernel
theorem dX2_lettersTurnedByAll_3 : decode cX2_lettersTurnedByAll 3 = .ok (.istore_n 2, 1) := by decide +kernel
theorem dX2_lettersTurnedByAll_4 : decode cX2_lettersTurnedByAll 4 = .ok (.iload_n 2, 1) := by decide +kernel
theorem dX2_lettersTurnedByAll_5 : decode cX2_lettersTurnedByAll 5 = .ok (.iconst 4, 1) := by decide +kernel
theorem dX2_lettersTurnedByAll_6 : decode cX2_lettersTurnedByAll 6 = .ok (.if_icmp .ge 21, 3) := by decide +kernel
theorem dX2_lettersTurnedByAll_9 : decode cX2_lettersTurnedByAll 9 = .ok (.iload_n 1, 1) := by decide +kernel
theorem dX2_lettersTurnedByAll_10 : decode cX2_lettersTurnedByAll 10 = .ok (.aload_n 0, 1) := by decide +kernel
theorem dX2_lettersTurnedByAll_11 : decode cX2_lettersTurnedByAll 11 = .ok (.getfield 17, 3) := by decide +kernel
theorem dX2_lettersTurnedByAll_14 : decode cX2_lettersTurnedByAll 14 = .ok (.iload_n 2, 1) := by decide +kernel
theorem dX2_lettersTurnedByAll_15 : decode cX2_lettersTurnedByAll 15 = .ok (.aaload, 1) := by decide +kernel
theorem dX2_lettersTurnedByAll_16 : decode cX2_lettersTurnedByAll 16 = .ok (.getfield 105, 3) := by decide +kernel
theorem dX2_lettersTurnedByAll_19 : decode cX2_lettersTurnedByAll 19 = .ok (.iadd, 1) := by decide +kernel
theorem dX2_lettersTurnedByAll_20 : decode cX2_lettersTurnedByAll 20 = .ok (.istore_n 1, 1) := by decide +kernel
theorem dX2_lettersTurnedByAll_21 : decode cX2_lettersTurnedByAll 21 = .ok (.iinc 2 1, 3) := by decide +kernel
theorem dX2_lettersTurnedByAll_24 : decode cX2_lettersTurnedByAll 24 = .ok (.goto (-20), 3) := by decide +kernel
theorem dX2_lettersTurnedByAll_27 : decode cX2_lettersTurnedByAll 27 = .ok (.iload_n 1, 1) := by decide +kernel
theorem dX2_lettersTurnedByAll_28 : decode cX2_lettersTurnedByAll 28 = .ok (.ireturn, 1) := by decide +kernel
theorem dX2_findHeads_0 : decode cX2_findHeads 0 = .ok (.iconst 0, 1) := by decide +kernel
theorem dX2_findHeads_1 : decode cX2_findHeads 1 = .ok (.istore_n 1, 1) := by decide +kernel
theorem dX2_findHeads_2 : decode cX2_findHeads 2 = .ok (.iload_n 1, 1) := by decide +kernel
theorem dX2_findHeads_3 : decode cX2_findHeads 3 = .ok (.iconst 5, 1) := by decide +kernel
theorem dX2_findHeads_4 : decode cX2_findHeads 4 = .ok (.if_icmp .ge 17, 3) := by decide +kernel
theorem dX2_findHeads_7 : decode cX2_findHeads 7 = .ok (.aload_n 0, 1) := by decide +kernel
theorem dX2_findHeads_8 : decode cX2_findHeads 8 = .ok (.getfield 41, 3) := by decide +kernel
theorem dX2_findHeads_11 : decode cX2_findHeads 11 = .ok (.iload_n 1, 1) := by decide +kernel
theorem dX2_findHeads_12 : decode cX2_findHeads 12 = .ok (.bipush (-6), 2) := by decide +kernel
theorem dX2_findHeads_14 : decode cX2_findHeads 14 = .ok (.iastore, 1) := by decide +kernel
theorem dX2_findHeads_15 : decode cX2_findHeads 15 = .ok (.iinc 1 1, 3) := by decide +kernel
theorem dX2_findHeads_18 : decode cX2_findHeads 18 = .ok (.goto (-16), 3) := by decide +kernel
theorem dX2_findHeads_21 : decode cX2_findHeads 21 = .ok (.iconst 0, 1) := by decide +kernel
theorem dX2_findHeads_22 : decode cX2_findHeads 22 = .ok (.istore_n 1, 1) := by decide +kernel
theorem dX2_findHeads_23 : decode cX2_findHeads 23 = .ok (.iload_n 1, 1) := by decide +kernel
theorem dX2_findHeads_24 : decode cX2_findHeads 24 = .ok (.iconst 2, 1) := by decide +kernel
theorem dX2_findHeads_25 : decode cX2_findHeads 25 = .ok (.if_icmp .ge 19, 3) := by decide +kernel
theorem dX2_findHeads_28 : decode cX2_findHeads 28 = .ok (.aload_n 0, 1) := by decide +kernel
theorem dX2_findHeads_29 : decode cX2_findHeads 29 = .ok (.aload_n 0, 1) := by decide +kernel
theorem dX2_findHeads_30 : decode cX2_findHeads 30 = .ok (.getfield 32, 3) := by decide +kernel
theorem dX2_findHeads_33 : decode cX2_findHeads 33 = .ok (.iload_n 1, 1) := by decide +kernel
theorem dX2_findHeads_34 : decode cX2_findHeads 34 = .ok (.aaload, 1) := by decide +kernel
theorem dX2_findHeads_35 : decode cX2_findHeads 35 = .ok (.invokevirtual 108, 3) := by decide +kernel
theorem dX2_findHeads_38 : decode cX2_findHeads 38 = .ok (.iinc 1 1, 3) := by decide +kernel
theorem dX2_findHeads_41 : decode cX2_findHeads 41 = .ok (.goto (-18), 3) := by decide +kernel
theorem dX2_findHeads_44 : decode cX2_findHeads 44 = .ok (.return_, 1) := by decide +kernel
theorem dX2_findHeadsIn_0 : decode cX2_findHeadsIn 0 = .ok (.iconst 0, 1) := by decide +kernel
theorem dX2_findHeadsIn_1 : decode cX2_findHeadsIn 1 = .ok (.istore_n 2, 1) := by decide +kernel
theorem dX2_findHeadsIn_2 : decode cX2_findHeadsIn 2 = .ok (.iload_n 2, 1) := by decide +kernel
theorem dX2_findHeadsIn_3 : decode cX2_findHeadsIn 3 = .ok (.aload_n 1, 1) := by decide +kernel
theorem dX2_findHeadsIn_4 : decode cX2_findHeadsIn 4 = .ok (.getfield 111, 3) := by decide +kernel
theorem dX2_findHeadsIn_7 : decode cX2_findHeadsIn 7 = .ok (.if_icmp .ge 58, 3) := by decide +kernel
theorem dX2_findHeadsIn_10 : decode cX2_findHeadsIn 10 = .ok (.aload_n 1, 1) := by decide +kernel
theorem dX2_findHeadsIn_11 : decode cX2_findHeadsIn 11 = .ok (.getfield 114, 3) := by decide +kernel
theorem dX2_findHeadsIn_14 : decode cX2_findHeadsIn 14 = .ok (.iload_n 2, 1) := by decide +kernel
theorem dX2_findHeadsIn_15 : decode cX2_findHeadsIn 15 = .ok (.iaload, 1) := by decide +kernel
theorem dX2_findHeadsIn_16 : decode cX2_findHeadsIn 16 = .ok (.istore_n 3, 1) := by decide +kernel
theorem dX2_findHeadsIn_17 : decode cX2_findHeadsIn 17 = .ok (.aload_n 0, 1) := by decide +kernel
theorem dX2_findHeadsIn_18 : decode cX2_findHeadsIn 18 = .ok (.getfield 26, 3) := by decide +kernel
theorem dX2_findHeadsIn_21 : decode cX2_findHeadsIn 21 = .ok (.iload_n 3, 1) := by decide +kernel
theorem dX2_findHeadsIn_22 : decode cX2_findHeadsIn 22 = .ok (.aaload, 1) := by decide +kernel
theorem dX2_findHeadsIn_23 : decode cX2_findHeadsIn 23 = .ok (.getfield 86, 3) := by decide +kernel
theorem dX2_findHeadsIn_26 : decode cX2_findHeadsIn 26 = .ok (.istore 4, 2) := by decide +kernel
theorem dX2_findHeadsIn_28 : decode cX2_findHeadsIn 28 = .ok (.aload_n 0, 1) := by decide +kernel
theorem dX2_findHeadsIn_29 : decode cX2_findHeadsIn 29 = .ok (.getfield 41, 3) := by decide +kernel
theorem dX2_findHeadsIn_32 : decode cX2_findHeadsIn 32 = .ok (.iload 4, 2) := by decide +kernel
theorem dX2_findHeadsIn_34 : decode cX2_findHeadsIn 34 = .ok (.iaload, 1) := by decide +kernel
theorem dX2_findHeadsIn_35 : decode cX2_findHeadsIn 35 = .ok (.bipush (-6), 2) := by decide +kernel
theorem dX2_findHeadsIn_37 : decode cX2_findHeadsIn 37 = .ok (.if_icmp .eq 14, 3) := by decide +kernel
theorem dX2_findHeadsIn_40 : decode cX2_findHeadsIn 40 = .ok (.aload_n 0, 1) := by decide +kernel
theorem dX2_findHeadsIn_41 : decode cX2_findHeadsIn 41 = .ok (.getfield 41, 3) := by decide +kernel
theorem dX2_findHeadsIn_44 : decode cX2_findHeadsIn 44 = .ok (.iload 4, 2) := by decide +kernel
theorem dX2_findHeadsIn_46 : decode cX2_findHeadsIn 46 = .ok (.iaload, 1) := by decide +kernel
theorem dX2_findHeadsIn_47 : decode cX2_findHeadsIn 47 = .ok (.iload_n 3, 1) := by decide +kernel
theorem dX2_findHeadsIn_48 : decode cX2_findHeadsIn 48 = .ok (.if_icmp .le 11, 3) := by decide +kernel
theorem dX2_findHeadsIn_51 : decode cX2_findHeadsIn 51 = .ok (.aload_n 0, 1) := by decide +kernel
theorem dX2_findHeadsIn_52 : decode cX2_findHeadsIn 52 = .ok (.getfield 41, 3) := by decide +kernel
theorem dX2_findHeadsIn_55 : decode cX2_findHeadsIn 55 = .ok (.iload 4, 2) := by decide +kernel
theorem dX2_findHeadsIn_57 : decode cX2_findHeadsIn 57 = .ok (.iload_n 3, 1) := by decide +kernel
theorem dX2_findHeadsIn_58 : decode cX2_findHeadsIn 58 = .ok (.iastore, 1) := by decide +kernel
theorem dX2_findHeadsIn_59 : decode cX2_findHeadsIn 59 = .ok (.iinc 2 1, 3) := by decide +kernel
theorem dX2_findHeadsIn_62 : decode cX2_findHeadsIn 62 = .ok (.goto (-60), 3) := by decide +kernel
theorem dX2_findHeadsIn_65 : decode cX2_findHeadsIn 65 = .ok (.return_, 1) := by decide +kernel
theorem dX2_judgeWeek_0 : decode cX2_judgeWeek 0 = .ok (.aload_n 0, 1) := by decide +kernel
theorem dX2_judgeWeek_1 : decode cX2_judgeWeek 1 = .ok (.invokevirtual 102, 3) := by decide +kernel
theorem dX2_judgeWeek_4 : decode cX2_judgeWeek 4 = .ok (.iconst 0, 1) := by decide +kernel
theorem dX2_judgeWeek_5 : decode cX2_judgeWeek 5 = .ok (.istore_n 1, 1) := by decide +kernel
theorem dX2_judgeWeek_6 : decode cX2_judgeWeek 6 = .ok (.iload_n 1, 1) := by decide +kernel
theorem dX2_judgeWeek_7 : decode cX2_judgeWeek 7 = .ok (.iconst 2, 1) := by decide +kernel
theorem dX2_judgeWeek_8 : decode cX2_judgeWeek 8 = .ok (.if_icmp .ge 14, 3) := by decide +kernel
theorem dX2_judgeWeek_11 : decode cX2_judgeWeek 11 = .ok (.aload_n 0, 1) := by decide +kernel
theorem dX2_judgeWeek_12 : decode cX2_judgeWeek 12 = .ok (.iload_n 1, 1) := by decide +kernel
theorem dX2_judgeWeek_13 : decode cX2_judgeWeek 13 = .ok (.invokevirtual 117, 3) := by decide +kernel
theorem dX2_judgeWeek_16 : decode cX2_judgeWeek 16 = .ok (.iinc 1 1, 3) := by decide +kernel
theorem dX2_judgeWeek_19 : decode cX2_judgeWeek 19 = .ok (.goto (-13), 3) := by decide +kernel
theorem dX2_judgeWeek_22 : decode cX2_judgeWeek 22 = .ok (.return_, 1) := by decide +kernel
theorem dX2_judgeRow_0 : decode cX2_judgeRow 0 = .ok (.aload_n 0, 1) := by decide +kernel
theorem dX2_judgeRow_1 : decode cX2_judgeRow 1 = .ok (.getfield 32, 3) := by decide +kernel
theorem dX2_judgeRow_4 : decode cX2_judgeRow 4 = .ok (.iload_n 1, 1) := by decide +kernel
theorem dX2_judgeRow_5 : decode cX2_judgeRow 5 = .ok (.aaload, 1) := by decide +kernel
theorem dX2_judgeRow_6 : decode cX2_judgeRow 6 = .ok (.astore_n 2, 1) := by decide +kernel
theorem dX2_judgeRow_7 : decode cX2_judgeRow 7 = .ok (.aload_n 0, 1) := by decide +kernel
theorem dX2_judgeRow_8 : decode cX2_judgeRow 8 = .ok (.getfield 17, 3) := by decide +kernel
theorem dX2_judgeRow_11 : decode cX2_judgeRow 11 = .ok (.aload_n 0, 1) := by decide +kernel
theorem dX2_judgeRow_12 : decode cX2_judgeRow 12 = .ok (.aload_n 0, 1) := by decide +kernel
theorem dX2_judgeRow_13 : decode cX2_judgeRow 13 = .ok (.getfield 66, 3) := by decide +kernel
theorem dX2_judgeRow_16 : decode cX2_judgeRow 16 = .ok (.iload_n 1, 1) := by decide +kernel
theorem dX2_judgeRow_17 : decode cX2_judgeRow 17 = .ok (.invokevirtual 120, 3) := by decide +kernel
theorem dX2_judgeRow_20 : decode cX2_judgeRow 20 = .ok (.aaload, 1) := by decide +kernel
theorem dX2_judgeRow_21 : decode cX2_judgeRow 21 = .ok (.getfield 123, 3) := by decide +kernel
theorem dX2_judgeRow_24 : decode cX2_judgeRow 24 = .ok (.istore_n 3, 1) := by decide +kernel
theorem dX2_judgeRow_25 : decode cX2_judgeRow 25 = .ok (.iconst 0, 1) := by decide +kernel
theorem dX2_judgeRow_26 : decode cX2_judgeRow 26 = .ok (.istore 4, 2) := by decide +kernel
theorem dX2_judgeRow_28 : decode cX2_judgeRow 28 = .ok (.iconst 0, 1) := by decide +kernel
theorem dX2_judgeRow_29 : decode cX2_judgeRow 29 = .ok (.istore 5, 2) := by decide +kernel
theorem dX2_judgeRow_31 : decode cX2_judgeRow 31 = .ok (.iload 5, 2) := by decide +kernel
theorem dX2_judgeRow_33 : decode cX2_judgeRow 33 = .ok (.aload_n 2, 1) := by decide +kernel
theorem dX2_judgeRow_34 : decode cX2_judgeRow 34 = .ok (.getfield 111, 3) := by decide +kernel
theorem dX2_judgeRow_37 : decode cX2_judgeRow 37 = .ok (.if_icmp .ge 86, 3) := by decide +kernel
theorem dX2_judgeRow_40 : decode cX2_judgeRow 40 = .ok (.aload_n 2, 1) := by decide +kernel
theorem dX2_judgeRow_41 : decode cX2_judgeRow 41 = .ok (.getfield 114, 3) := by decide +kernel
theorem dX2_judgeRow_44 : decode cX2_judgeRow 44 = .ok (.iload 5, 2) := by decide +kernel
theorem dX2_judgeRow_46 : decode cX2_judgeRow 46 = .ok (.iaload, 1) := by decide +kernel
theorem dX2_judgeRow_47 : decode cX2_judgeRow 47 = .ok (.istore 6, 2) := by decide +kernel
theorem dX2_judgeRow_49 : decode cX2_judgeRow 49 = .ok (.aload_n 0, 1) := by decide +kernel
theorem dX2_judgeRow_50 : decode cX2_judgeRow 50 = .ok (.getfield 26, 3) := by decide +kernel
theorem dX2_judgeRow_53 : decode cX2_judgeRow 53 = .ok (.iload 6, 2) := by decide +kernel
theorem dX2_judgeRow_55 : decode cX2_judgeRow 55 = .ok (.aaload, 1) := by decide +kernel
theorem dX2_judgeRow_56 : decode cX2_judgeRow 56 = .ok (.astore 7, 2) := by decide +kernel
theorem dX2_judgeRow_58 : decode cX2_judgeRow 58 = .ok (.aload_n 0, 1) := by decide +kernel
theorem dX2_judgeRow_59 : decode cX2_judgeRow 59 = .ok (.getfield 41, 3) := by decide +kernel
theorem dX2_judgeRow_62 : decode cX2_judgeRow 62 = .ok (.aload 7, 2) := by decide +kernel
theorem dX2_judgeRow_64 : decode cX2_judgeRow 64 = .ok (.getfield 86, 3) := by decide +kernel
theorem dX2_judgeRow_67 : decode cX2_judgeRow 67 = .ok (.iaload, 1) := by decide +kernel
theorem dX2_judgeRow_68 : decode cX2_judgeRow 68 = .ok (.iload 6, 2) := by decide +kernel
theorem dX2_judgeRow_70 : decode cX2_judgeRow 70 = .ok (.if_icmp .eq 12, 3) := by decide +kernel
theorem dX2_judgeRow_73 : decode cX2_judgeRow 73 = .ok (.aload 7, 2) := by decide +kernel
theorem dX2_judgeRow_75 : decode cX2_judgeRow 75 = .ok (.iconst 2, 1) := by decide +kernel
theorem dX2_judgeRow_76 : decode cX2_judgeRow 76 = .ok (.putfield 126, 3) := by decide +kernel
theorem dX2_judgeRow_79 : decode cX2_judgeRow 79 = .ok (.goto 38, 3) := by decide +kernel
theorem dX2_judgeRow_82 : decode cX2_judgeRow 82 = .ok (.iload 4, 2) := by decide +kernel
theorem dX2_judgeRow_84 : decode cX2_judgeRow 84 = .ok (.aload_n 0, 1) := by decide +kernel
theorem dX2_judgeRow_85 : decode cX2_judgeRow 85 = .ok (.getfield 9, 3) := by decide +kernel
theorem dX2_judgeRow_88 : decode cX2_judgeRow 88 = .ok (.iconst 0, 1) := by decide +kernel
theorem dX2_judgeRow_89 : decode cX2_judgeRow 89 = .ok (.iaload, 1) := by decide +kernel
theorem dX2_judgeRow_90 : decode cX2_judgeRow 90 = .ok (.if_icmp .lt 12, 3) := by decide +kernel
theorem dX2_judgeRow_93 : decode cX2_judgeRow 93 = .ok (.aload 7, 2) := by decide +kernel
theorem dX2_judgeRow_95 : decode cX2_judgeRow 95 = .ok (.iconst 3, 1) := by decide +kernel
theorem dX2_judgeRow_96 : decode cX2_judgeRow 96 = .ok (.putfield 126, 3) := by decide +kernel
theorem dX2_judgeRow_99 : decode cX2_judgeRow 99 = .ok (.goto 18, 3) := by decide +kernel
theorem dX2_judgeRow_102 : decode cX2_judgeRow 102 = .ok (.aload 7, 2) := by decide +kernel
theorem dX2_judgeRow_104 : decode cX2_judgeRow 104 = .ok (.aload_n 0, 1) := by decide +kernel
theorem dX2_judgeRow_105 : decode cX2_judgeRow 105 = .ok (.aload 7, 2) := by decide +kernel
theorem dX2_judgeRow_107 : decode cX2_judgeRow 107 = .ok (.iload_n 3, 1) := by decide +kernel
theorem dX2_judgeRow_108 : decode cX2_judgeRow 108 = .ok (.invokevirtual 129, 3) := by decide +kernel
theorem dX2_judgeRow_111 : decode cX2_judgeRow 111 = .ok (.putfield 126, 3) := by decide +kernel
theorem dX2_judgeRow_114 : decode cX2_judgeRow 114 = .ok (.iinc 4 1, 3) := by decide +kernel
theorem dX2_judgeRow_117 : decode cX2_judgeRow 117 = .ok (.iinc 5 1, 3) := by decide +kernel
theorem dX2_judgeRow_120 : decode cX2_judgeRow 120 = .ok (.goto (-89), 3) := by decide +kernel
theorem dX2_judgeRow_123 : decode cX2_judgeRow 123 = .ok (.return_, 1) := by decide +kernel
theorem dX2_fateIfRead_0 : decode cX2_fateIfRead 0 = .ok (.aload_n 1, 1) := by decide +kernel
theorem dX2_fateIfRead_1 : decode cX2_fateIfRead 1 = .ok (.iload_n 2, 1) := by decide +kernel
theorem dX2_fateIfRead_2 : decode cX2_fateIfRead 2 = .ok (.invokevirtual 133, 3) := by decide +kernel
theorem dX2_fateIfRead_5 : decode cX2_fateIfRead 5 = .ok (.invokestatic 137, 3) := by decide +kernel
theorem dX2_fateIfRead_8 : decode cX2_fateIfRead 8 = .ok (.aload_n 0, 1) := by decide +kernel
theorem dX2_fateIfRead_9 : decode cX2_fateIfRead 9 = .ok (.getfield 9, 3) := by decide +kernel
theorem dX2_fateIfRead_12 : decode cX2_fateIfRead 12 = .ok (.iconst 1, 1) := by decide +kernel
theorem dX2_fateIfRead_13 : decode cX2_fateIfRead 13 = .ok (.iaload, 1) := by decide +kernel
theorem dX2_fateIfRead_14 : decode cX2_fateIfRead 14 = .ok (.if_icmp .gt 5, 3) := by decide +kernel
theorem dX2_fateIfRead_17 : decode cX2_fateIfRead 17 = .ok (.iconst 0, 1) := by decide +kernel
theorem dX2_fateIfRead_18 : decode cX2_fateIfRead 18 = .ok (.ireturn, 1) := by decide +kernel
theorem dX2_fateIfRead_19 : decode cX2_fateIfRead 19 = .ok (.aload_n 1, 1) := by decide +kernel
theorem dX2_fateIfRead_20 : decode cX2_fateIfRead 20 = .ok (.getfield 142, 3) := by decide +kernel
theorem dX2_fateIfRead_23 : decode cX2_fateIfRead 23 = .ok (.iconst 1, 1) := by decide +kernel
theorem dX2_fateIfRead_24 : decode cX2_fateIfRead 24 = .ok (.iadd, 1) := by decide +kernel
theorem dX2_fateIfRead_25 : decode cX2_fateIfRead 25 = .ok (.aload_n 0, 1) := by decide +kernel
theorem dX2_fateIfRead_26 : decode cX2_fateIfRead 26 = .ok (.getfield 9, 3) := by decide +kernel
theorem dX2_fateIfRead_29 : decode cX2_fateIfRead 29 = .ok (.iconst 2, 1) := by decide +kernel
theorem dX2_fateIfRead_30 : decode cX2_fateIfRead 30 = .ok (.iaload, 1) := by decide +kernel
theorem dX2_fateIfRead_31 : decode cX2_fateIfRead 31 = .ok (.if_icmp .lt 7, 3) := by decide +kernel
theorem dX2_fateIfRead_34 : decode cX2_fateIfRead 34 = .ok (.iconst 5, 1) := by decide +kernel
theorem dX2_fateIfRead_35 : decode cX2_fateIfRead 35 = .ok (.goto 4, 3) := by decide +kernel
theorem dX2_fateIfRead_38 : decode cX2_fateIfRead 38 = .ok (.iconst 4, 1) := by decide +kernel
theorem dX2_fateIfRead_39 : decode cX2_fateIfRead 39 = .ok (.ireturn, 1) := by decide +kernel
theorem dX2_passWeeks_0 : decode cX2_passWeeks 0 = .ok (.iconst 0, 1) := by decide +kernel
theorem dX2_passWeeks_1 : decode cX2_passWeeks 1 = .ok (.istore_n 2, 1) := by decide +kernel
theorem dX2_passWeeks_2 : decode cX2_passWeeks 2 = .ok (.iconst 0, 1) := by decide +kernel
theorem dX2_passWeeks_3 : decode cX2_passWeeks 3 = .ok (.istore_n 3, 1) := by decide +kernel
theorem dX2_passWeeks_4 : decode cX2_passWeeks 4 = .ok (.iload_n 3, 1) := by decide +kernel
theorem dX2_passWeeks_5 : decode cX2_passWeeks 5 = .ok (.iload_n 1, 1) := by decide +kernel
theorem dX2_passWeeks_6 : decode cX2_passWeeks 6 = .ok (.if_icmp .ge 16, 3) := by decide +kernel
theorem dX2_passWeeks_9 : decode cX2_passWeeks 9 = .ok (.iload_n 2, 1) := by decide +kernel
theorem dX2_passWeeks_10 : decode cX2_passWeeks 10 = .ok (.aload_n 0, 1) := by decide +kernel
theorem dX2_passWeeks_11 : decode cX2_passWeeks 11 = .ok (.invokevirtual 145, 3) := by decide +kernel
theorem dX2_passWeeks_14 : decode cX2_passWeeks 14 = .ok (.iadd, 1) := by decide +kernel
theorem dX2_passWeeks_15 : decode cX2_passWeeks 15 = .ok (.istore_n 2, 1) := by decide +kernel
theorem dX2_passWeeks_16 : decode cX2_passWeeks 16 = .ok (.iinc 3 1, 3) := by decide +kernel
theorem dX2_passWeeks_19 : decode cX2_passWeeks 19 = .ok (.goto (-15), 3) := by decide +kernel
theorem dX2_passWeeks_22 : decode cX2_passWeeks 22 = .ok (.iload_n 2, 1) := by decide +kernel
theorem dX2_passWeeks_23 : decode cX2_passWeeks 23 = .ok (.ireturn, 1) := by decide +kernel
theorem dX2_passWeek_0 : decode cX2_passWeek 0 = .ok (.aload_n 0, 1) := by decide +kernel
theorem dX2_passWeek_1 : decode cX2_passWeek 1 = .ok (.invokevirtual 148, 3) := by decide +kernel
theorem dX2_passWeek_4 : decode cX2_passWeek 4 = .ok (.iconst 0, 1) := by decide +kernel
theorem dX2_passWeek_5 : decode cX2_passWeek 5 = .ok (.istore_n 1, 1) := by decide +kernel
theorem dX2_passWeek_6 : decode cX2_passWeek 6 = .ok (.iconst 0, 1) := by decide +kernel
theorem dX2_passWeek_7 : decode cX2_passWeek 7 = .ok (.istore_n 2, 1) := by decide +kernel
theorem dX2_passWeek_8 : decode cX2_passWeek 8 = .ok (.iload_n 2, 1) := by decide +kernel
theorem dX2_passWeek_9 : decode cX2_passWeek 9 = .ok (.iconst 2, 1) := by decide +kernel
theorem dX2_passWeek_10 : decode cX2_passWeek 10 = .ok (.if_icmp .ge 17, 3) := by decide +kernel
theorem dX2_passWeek_13 : decode cX2_passWeek 13 = .ok (.iload_n 1, 1) := by decide +kernel
theorem dX2_passWeek_14 : decode cX2_passWeek 14 = .ok (.aload_n 0, 1) := by decide +kernel
theorem dX2_passWeek_15 : decode cX2_passWeek 15 = .ok (.iload_n 2, 1) := by decide +kernel
theorem dX2_passWeek_16 : decode cX2_passWeek 16 = .ok (.invokevirtual 151, 3) := by decide +kernel
theorem dX2_passWeek_19 : decode cX2_passWeek 19 = .ok (.iadd, 1) := by decide +kernel
theorem dX2_passWeek_20 : decode cX2_passWeek 20 = .ok (.istore_n 1, 1) := by decide +kernel
theorem dX2_passWeek_21 : decode cX2_passWeek 21 = .ok (.iinc 2 1, 3) := by decide +kernel
theorem dX2_passWeek_24 : decode cX2_passWeek 24 = .ok (.goto (-16), 3) := by decide +kernel
theorem dX2_passWeek_27 : decode cX2_passWeek 27 = .ok (.aload_n 0, 1) := by decide +kernel
theorem dX2_passWeek_28 : decode cX2_passWeek 28 = .ok (.dup, 1) := by decide +kernel
theorem dX2_passWeek_29 : decode cX2_passWeek 29 = .ok (.getfield 66, 3) := by decide +kernel
theorem dX2_passWeek_32 : decode cX2_passWeek 32 = .ok (.iconst 1, 1) := by decide +kernel
theorem dX2_passWeek_33 : decode cX2_passWeek 33 = .ok (.iadd, 1) := by decide +kernel
theorem dX2_passWeek_34 : decode cX2_passWeek 34 = .ok (.putfield 66, 3) := by decide +kernel
theorem dX2_passWeek_37 : decode cX2_passWeek 37 = .ok (.iload_n 1, 1) := by decide +kernel
theorem dX2_passWeek_38 : decode cX2_passWeek 38 = .ok (.ireturn, 1) := by decide +kernel
theorem dX2_readRow_0 : decode cX2_readRow 0 = .ok (.aload_n 0, 1) := by decide +kernel
theorem dX2_readRow_1 : decode cX2_readRow 1 = .ok (.getfield 32, 3) := by decide +kernel
theorem dX2_readRow_4 : decode cX2_readRow 4 = .ok (.iload_n 1, 1) := by decide +kernel
theorem dX2_readRow_5 : decode cX2_readRow 5 = .ok (.aaload, 1) := by decide +kernel
theorem dX2_readRow_6 : decode cX2_readRow 6 = .ok (.astore_n 2, 1) := by decide +kernel
theorem dX2_readRow_7 : decode cX2_readRow 7 = .ok (.aload_n 0, 1) := by decide +kernel
theorem dX2_readRow_8 : decode cX2_readRow 8 = .ok (.aload_n 0, 1) := by decide +kernel
theorem dX2_readRow_9 : decode cX2_readRow 9 = .ok (.getfield 66, 3) := by decide +kernel
theorem dX2_readRow_12 : decode cX2_readRow 12 = .ok (.iload_n 1, 1) := by decide +kernel
theorem dX2_readRow_13 : decode cX2_readRow 13 = .ok (.invokevirtual 120, 3) := by decide +kernel
theorem dX2_readRow_16 : decode cX2_readRow 16 = .ok (.istore_n 3, 1) := by decide +kernel
theorem dX2_readRow_17 : decode cX2_readRow 17 = .ok (.iconst 0, 1) := by decide +kernel
theorem dX2_readRow_18 : decode cX2_readRow 18 = .ok (.istore 4, 2) := by decide +kernel
theorem dX2_readRow_20 : decode cX2_readRow 20 = .ok (.iconst 0, 1) := by decide +kernel
theorem dX2_readRow_21 : decode cX2_readRow 21 = .ok (.istore 5, 2) := by decide +kernel
theorem dX2_readRow_23 : decode cX2_readRow 23 = .ok (.iload 5, 2) := by decide +kernel
theorem dX2_readRow_25 : decode cX2_readRow 25 = .ok (.aload_n 2, 1) := by decide +kernel
theorem dX2_readRow_26 : decode cX2_readRow 26 = .ok (.getfield 111, 3) := by decide +kernel
theorem dX2_readRow_29 : decode cX2_readRow 29 = .ok (.if_icmp .ge 69, 3) := by decide +kernel
theorem dX2_readRow_32 : decode cX2_readRow 32 = .ok (.aload_n 0, 1) := by decide +kernel
theorem dX2_readRow_33 : decode cX2_readRow 33 = .ok (.getfield 26, 3) := by decide +kernel
theorem dX2_readRow_36 : decode cX2_readRow 36 = .ok (.aload_n 2, 1) := by decide +kernel
theorem dX2_readRow_37 : decode cX2_readRow 37 = .ok (.getfield 114, 3) := by decide +kernel
theorem dX2_readRow_40 : decode cX2_readRow 40 = .ok (.iload 5, 2) := by decide +kernel
theorem dX2_readRow_42 : decode cX2_readRow 42 = .ok (.iaload, 1) := by decide +kernel
theorem dX2_readRow_43 : decode cX2_readRow 43 = .ok (.aaload, 1) := by decide +kernel
theorem dX2_readRow_44 : decode cX2_readRow 44 = .ok (.astore 6, 2) := by decide +kernel
theorem dX2_readRow_46 : decode cX2_readRow 46 = .ok (.aload 6, 2) := by decide +kernel
theorem dX2_readRow_48 : decode cX2_readRow 48 = .ok (.getfield 126, 3) := by decide +kernel
theorem dX2_readRow_51 : decode cX2_readRow 51 = .ok (.ifCond .ne 16, 3) := by decide +kernel
theorem dX2_readRow_54 : decode cX2_readRow 54 = .ok (.aload_n 0, 1) := by decide +kernel
theorem dX2_readRow_55 : decode cX2_readRow 55 = .ok (.aload 6, 2) := by decide +kernel
theorem dX2_readRow_57 : decode cX2_readRow 57 = .ok (.iload_n 3, 1) := by decide +kernel
theorem dX2_readRow_58 : decode cX2_readRow 58 = .ok (.invokevirtual 154, 3) := by decide +kernel
theorem dX2_readRow_61 : decode cX2_readRow 61 = .ok (.iinc 4 1, 3) := by decide +kernel
theorem dX2_readRow_64 : decode cX2_readRow 64 = .ok (.goto 28, 3) := by decide +kernel
theorem dX2_readRow_67 : decode cX2_readRow 67 = .ok (.aload 6, 2) := by decide +kernel
theorem dX2_readRow_69 : decode cX2_readRow 69 = .ok (.getfield 126, 3) := by decide +kernel
theorem dX2_readRow_72 : decode cX2_readRow 72 = .ok (.iconst 4, 1) := by decide +kernel
theorem dX2_readRow_73 : decode cX2_readRow 73 = .ok (.if_icmp .eq 12, 3) := by decide +kernel
theorem dX2_readRow_76 : decode cX2_readRow 76 = .ok (.aload 6, 2) := by decide +kernel
theorem dX2_readRow_78 : decode cX2_readRow 78 = .ok (.getfield 126, 3) := by decide +kernel
theorem dX2_readRow_81 : decode cX2_readRow 81 = .ok (.iconst 5, 1) := by decide +kernel
theorem dX2_readRow_82 : decode cX2_readRow 82 = .ok (.if_icmp .ne 10, 3) := by decide +kernel
theorem dX2_readRow_85 : decode cX2_readRow 85 = .ok (.aload_n 0, 1) := by decide +kernel
theorem dX2_readRow_86 : decode cX2_readRow 86 = .ok (.aload 6, 2) := by decide +kernel
theorem dX2_readRow_88 : decode cX2_readRow 88 = .ok (.iload_n 3, 1) := by decide +kernel
theorem dX2_readRow_89 : decode cX2_readRow 89 = .ok (.invokevirtual 158, 3) := by decide +kernel
theorem dX2_readRow_92 : decode cX2_readRow 92 = .ok (.iinc 5 1, 3) := by decide +kernel
theorem dX2_readRow_95 : decode cX2_readRow 95 = .ok (.goto (-72), 3) := by decide +kernel
theorem dX2_readRow_98 : decode cX2_readRow 98 = .ok (.aload_n 0, 1) := by decide +kernel
theorem dX2_readRow_99 : decode cX2_readRow 99 = .ok (.getfield 37, 3) := by decide +kernel
theorem dX2_readRow_102 : decode cX2_readRow 102 = .ok (.iconst 0, 1) := by decide +kernel
theorem dX2_readRow_103 : decode cX2_readRow 103 = .ok (.putfield 111, 3) := by decide +kernel
theorem dX2_readRow_106 : decode cX2_readRow 106 = .ok (.aload_n 0, 1) := by decide +kernel
theorem dX2_readRow_107 : decode cX2_readRow 107 = .ok (.aload_n 2, 1) := by decide +kernel
theorem dX2_readRow_108 : decode cX2_readRow 108 = .ok (.iconst 2, 1) := by decide +kernel
theorem dX2_readRow_109 : decode cX2_readRow 109 = .ok (.iconst 3, 1) := by decide +kernel
theorem dX2_readRow_110 : decode cX2_readRow 110 = .ok (.invokevirtual 161, 3) := by decide +kernel
theorem dX2_readRow_113 : decode cX2_readRow 113 = .ok (.aload_n 0, 1) := by decide +kernel
theorem dX2_readRow_114 : decode cX2_readRow 114 = .ok (.aload_n 2, 1) := by decide +kernel
theorem dX2_readRow_115 : decode cX2_readRow 115 = .ok (.iconst 4, 1) := by decide +kernel
theorem dX2_readRow_116 : decode cX2_readRow 116 = .ok (.iconst 4, 1) := by decide +kernel
theorem dX2_readRow_117 : decode cX2_readRow 117 = .ok (.invokevirtual 161, 3) := by decide +kernel
theorem dX2_readRow_120 : decode cX2_readRow 120 = .ok (.aload_n 2, 1) := by decide +kernel
theorem dX2_readRow_121 : decode cX2_readRow 121 = .ok (.aload_n 0, 1) := by decide +kernel
theorem dX2_readRow_122 : decode cX2_readRow 122 = .ok (.getfield 37, 3) := by decide +kernel
theorem dX2_readRow_125 : decode cX2_readRow 125 = .ok (.invokevirtual 63, 3) := by decide +kernel
theorem dX2_readRow_128 : decode cX2_readRow 128 = .ok (.iload 4, 2) := by decide +kernel
theorem dX2_readRow_130 : decode cX2_readRow 130 = .ok (.ireturn, 1) := by decide +kernel
theorem dX2_appendIfFate_0 : decode cX2_appendIfFate 0 = .ok (.iconst 0, 1) := by decide +kernel
theorem dX2_appendIfFate_1 : decode cX2_appendIfFate 1 = .ok (.istore 4, 2) := by decide +kernel
theorem dX2_appendIfFate_3 : decode cX2_appendIfFate 3 = .ok (.iload 4, 2) := by decide +kernel
theorem dX2_appendIfFate_5 : decode cX2_appendIfFate 5 = .ok (.aload_n 1, 1) := by decide +kernel
theorem dX2_appendIfFate_6 : decode cX2_appendIfFate 6 = .ok (.getfield 111, 3) := by decide +kernel
theorem dX2_appendIfFate_9 : decode cX2_appendIfFate 9 = .ok (.if_icmp .ge 52, 3) := by decide +kernel
theorem dX2_appendIfFate_12 : decode cX2_appendIfFate 12 = .ok (.aload_n 0, 1) := by decide +kernel
theorem dX2_appendIfFate_13 : decode cX2_appendIfFate 13 = .ok (.getfield 26, 3) := by decide +kernel
theorem dX2_appendIfFate_16 : decode cX2_appendIfFate 16 = .ok (.aload_n 1, 1) := by decide +kernel
theorem dX2_appendIfFate_17 : decode cX2_appendIfFate 17 = .ok (.getfield 114, 3) := by decide +kernel
theorem dX2_appendIfFate_20 : decode cX2_appendIfFate 20 = .ok (.iload 4, 2) := by decide +kernel
theorem dX2_appendIfFate_22 : decode cX2_appendIfFate 22 = .ok (.iaload, 1) := by decide +kernel
theorem dX2_appendIfFate_23 : decode cX2_appendIfFate 23 = .ok (.aaload, 1) := by decide +kernel
theorem dX2_appendIfFate_24 : decode cX2_appendIfFate 24 = .ok (.getfield 126, 3) := by decide +kernel
theorem dX2_appendIfFate_27 : decode cX2_appendIfFate 27 = .ok (.istore 5, 2) := by decide +kernel
theorem dX2_appendIfFate_29 : decode cX2_appendIfFate 29 = .ok (.iload 5, 2) := by decide +kernel
theorem dX2_appendIfFate_31 : decode cX2_appendIfFate 31 = .ok (.iload_n 2, 1) := by decide +kernel
theorem dX2_appendIfFate_32 : decode cX2_appendIfFate 32 = .ok (.if_icmp .eq 9, 3) := by decide +kernel
theorem dX2_appendIfFate_35 : decode cX2_appendIfFate 35 = .ok (.iload 5, 2) := by decide +kernel
theorem dX2_appendIfFate_37 : decode cX2_appendIfFate 37 = .ok (.iload_n 3, 1) := by decide +kernel
theorem dX2_appendIfFate_38 : decode cX2_appendIfFate 38 = .ok (.if_icmp .ne 17, 3) := by decide +kernel
theorem dX2_appendIfFate_41 : decode cX2_appendIfFate 41 = .ok (.aload_n 0, 1) := by decide +kernel
theorem dX2_appendIfFate_42 : decode cX2_appendIfFate 42 = .ok (.getfield 37, 3) := by decide +kernel
theorem dX2_appendIfFate_45 : decode cX2_appendIfFate 45 = .ok (.aload_n 1, 1) := by decide +kernel
theorem dX2_appendIfFate_46 : decode cX2_appendIfFate 46 = .ok (.getfield 114, 3) := by decide +kernel
theorem dX2_appendIfFate_49 : decode cX2_appendIfFate 49 = .ok (.iload 4, 2) := by decide +kernel
theorem dX2_appendIfFate_51 : decode cX2_appendIfFate 51 = .ok (.iaload, 1) := by decide +kernel
theorem dX2_appendIfFate_52 : decode cX2_appendIfFate 52 = .ok (.invokevirtual 76, 3) := by decide +kernel
theorem dX2_appendIfFate_55 : decode cX2_appendIfFate 55 = .ok (.iinc 4 1, 3) := by decide +kernel
theorem dX2_appendIfFate_58 : decode cX2_appendIfFate 58 = .ok (.goto (-55), 3) := by decide +kernel
theorem dX2_appendIfFate_61 : decode cX2_appendIfFate 61 = .ok (.return_, 1) := by decide +kernel
theorem dX2_letThrough_0 : decode cX2_letThrough 0 = .ok (.aload_n 1, 1) := by decide +kernel
theorem dX2_letThrough_1 : decode cX2_letThrough 1 = .ok (.aload_n 1, 1) := by decide +kernel
theorem dX2_letThrough_2 : decode cX2_letThrough 2 = .ok (.aload_n 0, 1) := by decide +kernel
theorem dX2_letThrough_3 : decode cX2_letThrough 3 = .ok (.getfield 17, 3) := by decide +kernel
theorem dX2_letThrough_6 : decode cX2_letThrough 6 = .ok (.iload_n 2, 1) := by decide +kernel
theorem dX2_letThrough_7 : decode cX2_letThrough 7 = .ok (.aaload, 1) := by decide +kernel
theorem dX2_letThrough_8 : decode cX2_letThrough 8 = .ok (.getfield 123, 3) := by decide +kernel
theorem dX2_letThrough_11 : decode cX2_letThrough 11 = .ok (.invokevirtual 133, 3) := by decide +kernel
theorem dX2_letThrough_14 : decode cX2_letThrough 14 = .ok (.putfield 165, 3) := by decide +kernel
theorem dX2_letThrough_17 : decode cX2_letThrough 17 = .ok (.aload_n 1, 1) := by decide +kernel
theorem dX2_letThrough_18 : decode cX2_letThrough 18 = .ok (.iconst 1, 1) := by decide +kernel
theorem dX2_letThrough_19 : decode cX2_letThrough 19 = .ok (.putfield 80, 3) := by decide +kernel
theorem dX2_letThrough_22 : decode cX2_letThrough 22 = .ok (.aload_n 1, 1) := by decide +kernel
theorem dX2_letThrough_23 : decode cX2_letThrough 23 = .ok (.aload_n 0, 1) := by decide +kernel
theorem dX2_letThrough_24 : decode cX2_letThrough 24 = .ok (.getfield 66, 3) := by decide +kernel
theorem dX2_letThrough_27 : decode cX2_letThrough 27 = .ok (.iconst 1, 1) := by decide +kernel
theorem dX2_letThrough_28 : decode cX2_letThrough 28 = .ok (.iadd, 1) := by decide +kernel
theorem dX2_letThrough_29 : decode cX2_letThrough 29 = .ok (.aload_n 1, 1) := by decide +kernel
theorem dX2_letThrough_30 : decode cX2_letThrough 30 = .ok (.getfield 168, 3) := by decide +kernel
theorem dX2_letThrough_33 : decode cX2_letThrough 33 = .ok (.isub, 1) := by decide +kernel
theorem dX2_letThrough_34 : decode cX2_letThrough 34 = .ok (.putfield 89, 3) := by decide +kernel
theorem dX2_letThrough_37 : decode cX2_letThrough 37 = .ok (.aload_n 1, 1) := by decide +kernel
theorem dX2_letThrough_38 : decode cX2_letThrough 38 = .ok (.iload_n 2, 1) := by decide +kernel
theorem dX2_letThrough_39 : decode cX2_letThrough 39 = .ok (.putfield 171, 3) := by decide +kernel
theorem dX2_letThrough_42 : decode cX2_letThrough 42 = .ok (.aload_n 0, 1) := by decide +kernel
theorem dX2_letThrough_43 : decode cX2_letThrough 43 = .ok (.getfield 17, 3) := by decide +kernel
theorem dX2_letThrough_46 : decode cX2_letThrough 46 = .ok (.iload_n 2, 1) := by decide +kernel
theorem dX2_letThrough_47 : decode cX2_letThrough 47 = .ok (.aaload, 1) := by decide +kernel
theorem dX2_letThrough_48 : decode cX2_letThrough 48 = .ok (.dup, 1) := by decide +kernel
theorem dX2_letThrough_49 : decode cX2_letThrough 49 = .ok (.getfield 174, 3) := by decide +kernel
theorem dX2_letThrough_52 : decode cX2_letThrough 52 = .ok (.iconst 1, 1) := by decide +kernel
theorem dX2_letThrough_53 : decode cX2_letThrough 53 = .ok (.iadd, 1) := by decide +kernel
theorem dX2_letThrough_54 : decode cX2_letThrough 54 = .ok (.putfield 174, 3) := by decide +kernel
theorem dX2_letThrough_57 : decode cX2_letThrough 57 = .ok (.aload_n 0, 1) := by decide +kernel
theorem dX2_letThrough_58 : decode cX2_letThrough 58 = .ok (.getfield 17, 3) := by decide +kernel
theorem dX2_letThrough_61 : decode cX2_letThrough 61 = .ok (.iload_n 2, 1) := by decide +kernel
theorem dX2_letThrough_62 : decode cX2_letThrough 62 = .ok (.aaload, 1) := by decide +kernel
theorem dX2_letThrough_63 : decode cX2_letThrough 63 = .ok (.dup, 1) := by decide +kernel
theorem dX2_letThrough_64 : decode cX2_letThrough 64 = .ok (.getfield 177, 3) := by decide +kernel
theorem dX2_letThrough_67 : decode cX2_letThrough 67 = .ok (.aload_n 1, 1) := by decide +kernel
theorem dX2_letThrough_68 : decode cX2_letThrough 68 = .ok (.invokevirtual 98, 3) := by decide +kernel
theorem dX2_letThrough_71 : decode cX2_letThrough 71 = .ok (.iadd, 1) := by decide +kernel
theorem dX2_letThrough_72 : decode cX2_letThrough 72 = .ok (.putfield 177, 3) := by decide +kernel
theorem dX2_letThrough_75 : decode cX2_letThrough 75 = .ok (.return_, 1) := by decide +kernel
theorem dX2_turnBack_0 : decode cX2_turnBack 0 = .ok (.aload_n 1, 1) := by decide +kernel
theorem dX2_turnBack_1 : decode cX2_turnBack 1 = .ok (.dup, 1) := by decide +kernel
theorem dX2_turnBack_2 : decode cX2_turnBack 2 = .ok (.getfield 142, 3) := by decide +kernel
theorem dX2_turnBack_5 : decode cX2_turnBack 5 = .ok (.iconst 1, 1) := by decide +kernel
theorem dX2_turnBack_6 : decode cX2_turnBack 6 = .ok (.iadd, 1) := by decide +kernel
theorem dX2_turnBack_7 : decode cX2_turnBack 7 = .ok (.putfield 142, 3) := by decide +kernel
theorem dX2_turnBack_10 : decode cX2_turnBack 10 = .ok (.aload_n 1, 1) := by decide +kernel
theorem dX2_turnBack_11 : decode cX2_turnBack 11 = .ok (.getfield 126, 3) := by decide +kernel
theorem dX2_turnBack_14 : decode cX2_turnBack 14 = .ok (.iconst 5, 1) := by decide +kernel
theorem dX2_turnBack_15 : decode cX2_turnBack 15 = .ok (.if_icmp .ne 8, 3) := by decide +kernel
theorem dX2_turnBack_18 : decode cX2_turnBack 18 = .ok (.aload_n 1, 1) := by decide +kernel
theorem dX2_turnBack_19 : decode cX2_turnBack 19 = .ok (.iconst 2, 1) := by decide +kernel
theorem dX2_turnBack_20 : decode cX2_turnBack 20 = .ok (.putfield 80, 3) := by decide +kernel
theorem dX2_turnBack_23 : decode cX2_turnBack 23 = .ok (.aload_n 0, 1) := by decide +kernel
theorem dX2_turnBack_24 : decode cX2_turnBack 24 = .ok (.getfield 17, 3) := by decide +kernel
theorem dX2_turnBack_27 : decode cX2_turnBack 27 = .ok (.iload_n 2, 1) := by decide +kernel
theorem dX2_turnBack_28 : decode cX2_turnBack 28 = .ok (.aaload, 1) := by decide +kernel
theorem dX2_turnBack_29 : decode cX2_turnBack 29 = .ok (.dup, 1) := by decide +kernel
theorem dX2_turnBack_30 : decode cX2_turnBack 30 = .ok (.getfield 174, 3) := by decide +kernel
theorem dX2_turnBack_33 : decode cX2_turnBack 33 = .ok (.iconst 1, 1) := by decide +kernel
theorem dX2_turnBack_34 : decode cX2_turnBack 34 = .ok (.iadd, 1) := by decide +kernel
theorem dX2_turnBack_35 : decode cX2_turnBack 35 = .ok (.putfield 174, 3) := by decide +kernel
theorem dX2_turnBack_38 : decode cX2_turnBack 38 = .ok (.aload_n 0, 1) := by decide +kernel
theorem dX2_turnBack_39 : decode cX2_turnBack 39 = .ok (.getfield 17, 3) := by decide +kernel
theorem dX2_turnBack_42 : decode cX2_turnBack 42 = .ok (.iload_n 2, 1) := by decide +kernel
theorem dX2_turnBack_43 : decode cX2_turnBack 43 = .ok (.aaload, 1) := by decide +kernel
theorem dX2_turnBack_44 : decode cX2_turnBack 44 = .ok (.dup, 1) := by decide +kernel
theorem dX2_turnBack_45 : decode cX2_turnBack 45 = .ok (.getfield 105, 3) := by decide +kernel
theorem dX2_turnBack_48 : decode cX2_turnBack 48 = .ok (.iconst 1, 1) := by decide +kernel
theorem dX2_turnBack_49 : decode cX2_turnBack 49 = .ok (.iadd, 1) := by decide +kernel
theorem dX2_turnBack_50 : decode cX2_turnBack 50 = .ok (.putfield 105, 3) := by decide +kernel
theorem dX2_turnBack_53 : decode cX2_turnBack 53 = .ok (.return_, 1) := by decide +kernel
theorem dX3_init_0 : decode cX3_init 0 = .ok (.aload_n 0, 1) := by decide +kernel
theorem dX3_init_1 : decode cX3_init 1 = .ok (.invokespecial 3, 3) := by decide +kernel
theorem dX3_init_4 : decode cX3_init 4 = .ok (.aload_n 0, 1) := by decide +kernel
theorem dX3_init_5 : decode cX3_init 5 = .ok (.bipush 40, 2) := by decide +kernel
theorem dX3_init_7 : decode cX3_init 7 = .ok (.newarray .int, 2) := by decide +kernel
theorem dX3_init_9 : decode cX3_init 9 = .ok (.putfield 9, 3) := by decide +kernel
theorem dX3_init_12 : decode cX3_init 12 = .ok (.return_, 1) := by decide +kernel
theorem dX3_copyFrom_0 : decode cX3_copyFrom 0 = .ok (.aload_n 0, 1) := by decide +kernel
theorem dX3_copyFrom_1 : decode cX3_copyFrom 1 = .ok (.aload_n 1, 1) := by decide +kernel
theorem dX3_copyFrom_2 : decode cX3_copyFrom 2 = .ok (.getfield 15, 3) := by decide +kernel
theorem dX3_copyFrom_5 : decode cX3_copyFrom 5 = .ok (.putfield 15, 3) := by decide +kernel
theorem dX3_copyFrom_8 : decode cX3_copyFrom 8 = .ok (.aload_n 1, 1) := by decide +kernel
theorem dX3_copyFrom_9 : decode cX3_copyFrom 9 = .ok (.getfield 9, 3) := by decide +kernel
theorem dX3_copyFrom_12 : decode cX3_copyFrom 12 = .ok (.iconst 0, 1) := by decide +kernel
theorem dX3_copyFrom_13 : decode cX3_copyFrom 13 = .ok (.aload_n 0, 1) := by decide +kernel
theorem dX3_copyFrom_14 : decode cX3_copyFrom 14 = .ok (.getfield 9, 3) := by decide +kernel
theorem dX3_copyFrom_17 : decode cX3_copyFrom 17 = .ok (.iconst 0, 1) := by decide +kernel
theorem dX3_copyFrom_18 : decode cX3_copyFrom 18 = .ok (.aload_n 0, 1) := by decide +kernel
theorem dX3_copyFrom_19 : decode cX3_copyFrom 19 = .ok (.getfield 15, 3) := by decide +kernel
theorem dX3_copyFrom_22 : decode cX3_copyFrom 22 = .ok (.invokestatic 19, 3) := by decide +kernel
theorem dX3_copyFrom_25 : decode cX3_copyFrom 25 = .ok (.return_, 1) := by decide +kernel
theorem dX3_append_0 : decode cX3_append 0 = .ok (.aload_n 0, 1) := by decide +kernel
theorem dX3_append_1 : decode cX3_append 1 = .ok (.getfield 15, 3) := by decide +kernel
theorem dX3_append_4 : decode cX3_append 4 = .ok (.aload_n 0, 1) := by decide +kernel
theorem dX3_append_5 : decode cX3_append 5 = .ok (.getfield 9, 3) := by decide +kernel
theorem dX3_append_8 : decode cX3_append 8 = .ok (.arraylength, 1) := by decide +kernel
theorem dX3_append_9 : decode cX3_append 9 = .ok (.if_icmp .ge 23, 3) := by decide +kernel
theorem dX3_append_12 : decode cX3_append 12 = .ok (.aload_n 0, 1) := by decide +kernel
theorem dX3_append_13 : decode cX3_append 13 = .ok (.getfield 9, 3) := by decide +kernel
theorem dX3_append_16 : decode cX3_append 16 = .ok (.aload_n 0, 1) := by decide +kernel
theorem dX3_append_17 : decode cX3_append 17 = .ok (.getfield 15, 3) := by decide +kernel
theorem dX3_append_20 : decode cX3_append 20 = .ok (.iload_n 1, 1) := by decide +kernel
theorem dX3_append_21 : decode cX3_append 21 = .ok (.iastore, 1) := by decide +kernel
theorem dX3_append_22 : decode cX3_append 22 = .ok (.aload_n 0, 1) := by decide +kernel
theorem dX3_append_23 : decode cX3_append 23 = .ok (.dup, 1) := by decide +kernel
theorem dX3_append_24 : decode cX3_append 24 = .ok (.getfield 15, 3) := by decide +kernel
theorem dX3_append_27 : decode cX3_append 27 = .ok (.iconst 1, 1) := by decide +kernel
theorem dX3_append_28 : decode cX3_append 28 = .ok (.iadd, 1) := by decide +kernel
theorem dX3_append_29 : decode cX3_append 29 = .ok (.putfield 15, 3) := by decide +kernel
theorem dX3_append_32 : decode cX3_append 32 = .ok (.return_, 1) := by decide +kernel
theorem dX3_placeOf_0 : decode cX3_placeOf 0 = .ok (.iconst 0, 1) := by decide +kernel
theorem dX3_placeOf_1 : decode cX3_placeOf 1 = .ok (.istore_n 2, 1) := by decide +kernel
theorem dX3_placeOf_2 : decode cX3_placeOf 2 = .ok (.iload_n 2, 1) := by decide +kernel
theorem dX3_placeOf_3 : decode cX3_placeOf 3 = .ok (.aload_n 0, 1) := by decide +kernel
theorem dX3_placeOf_4 : decode cX3_placeOf 4 = .ok (.getfield 15, 3) := by decide +kernel
theorem dX3_placeOf_7 : decode cX3_placeOf 7 = .ok (.if_icmp .ge 21, 3) := by decide +kernel
theorem dX3_placeOf_10 : decode cX3_placeOf 10 = .ok (.aload_n 0, 1) := by decide +kernel
theorem dX3_placeOf_11 : decode cX3_placeOf 11 = .ok (.getfield 9, 3) := by decide +kernel
theorem dX3_placeOf_14 : decode cX3_placeOf 14 = .ok (.iload_n 2, 1) := by decide +kernel
theorem dX3_placeOf_15 : decode cX3_placeOf 15 = .ok (.iaload, 1) := by decide +kernel
theorem dX3_placeOf_16 : decode cX3_placeOf 16 = .ok (.iload_n 1, 1) := by decide +kernel
theorem dX3_placeOf_17 : decode cX3_placeOf 17 = .ok (.if_icmp .ne 5, 3) := by decide +kernel
theorem dX3_placeOf_20 : decode cX3_placeOf 20 = .ok (.iload_n 2, 1) := by decide +kernel
theorem dX3_placeOf_21 : decode cX3_placeOf 21 = .ok (.ireturn, 1) := by decide +kernel
theorem dX3_placeOf_22 : decode cX3_placeOf 22 = .ok (.iinc 2 1, 3) := by decide +kernel
theorem dX3_placeOf_25 : decode cX3_placeOf 25 = .ok (.goto (-23), 3) := by decide +kernel
theorem dX3_placeOf_28 : decode cX3_placeOf 28 = .ok (.bipush (-6), 2) := by decide +kernel
theorem dX3_placeOf_30 : decode cX3_placeOf 30 = .ok (.ireturn, 1) := by decide +kernel
theorem dX3_takeOut_0 : decode cX3_takeOut 0 = .ok (.iconst 0, 1) := by decide +kernel
theorem dX3_takeOut_1 : decode cX3_takeOut 1 = .ok (.istore_n 2, 1) := by decide +kernel
theorem dX3_takeOut_2 : decode cX3_takeOut 2 = .ok (.iconst 0, 1) := by decide +kernel
theorem dX3_takeOut_3 : decode cX3_takeOut 3 = .ok (.istore_n 3, 1) := by decide +kernel
theorem dX3_takeOut_4 : decode cX3_takeOut 4 = .ok (.iload_n 3, 1) := by decide +kernel
theorem dX3_takeOut_5 : decode cX3_takeOut 5 = .ok (.aload_n 0, 1) := by decide +kernel
theorem dX3_takeOut_6 : decode cX3_takeOut 6 = .ok (.getfield 15, 3) := by decide +kernel
theorem dX3_takeOut_9 : decode cX3_takeOut 9 = .ok (.if_icmp .ge 34, 3) := by decide +kernel
theorem dX3_takeOut_12 : decode cX3_takeOut 12 = .ok (.aload_n 0, 1) := by decide +kernel
theorem dX3_takeOut_13 : decode cX3_takeOut 13 = .ok (.getfield 9, 3) := by decide +kernel
theorem dX3_takeOut_16 : decode cX3_takeOut 16 = .ok (.iload_n 3, 1) := by decide +kernel
theorem dX3_takeOut_17 : decode cX3_takeOut 17 = .ok (.iaload, 1) := by decide +kernel
theorem dX3_takeOut_18 : decode cX3_takeOut 18 = .ok (.iload_n 1, 1) := by decide +kernel
theorem dX3_takeOut_19 : decode cX3_takeOut 19 = .ok (.if_icmp .eq 18, 3) := by decide +kernel
theorem dX3_takeOut_22 : decode cX3_takeOut 22 = .ok (.aload_n 0, 1) := by decide +kernel
theorem dX3_takeOut_23 : decode cX3_takeOut 23 = .ok (.getfield 9, 3) := by decide +kernel
theorem dX3_takeOut_26 : decode cX3_takeOut 26 = .ok (.iload_n 2, 1) := by decide +kernel
theorem dX3_takeOut_27 : decode cX3_takeOut 27 = .ok (.aload_n 0, 1) := by decide +kernel
theorem dX3_takeOut_28 : decode cX3_takeOut 28 = .ok (.getfield 9, 3) := by decide +kernel
theorem dX3_takeOut_31 : decode cX3_takeOut 31 = .ok (.iload_n 3, 1) := by decide +kernel
theorem dX3_takeOut_32 : decode cX3_takeOut 32 = .ok (.iaload, 1) := by decide +kernel
theorem dX3_takeOut_33 : decode cX3_takeOut 33 = .ok (.iastore, 1) := by decide +kernel
theorem dX3_takeOut_34 : decode cX3_takeOut 34 = .ok (.iinc 2 1, 3) := by decide +kernel
theorem dX3_takeOut_37 : decode cX3_takeOut 37 = .ok (.iinc 3 1, 3) := by decide +kernel
theorem dX3_takeOut_40 : decode cX3_takeOut 40 = .ok (.goto (-36), 3) := by decide +kernel
theorem dX3_takeOut_43 : decode cX3_takeOut 43 = .ok (.aload_n 0, 1) := by decide +kernel
theorem dX3_takeOut_44 : decode cX3_takeOut 44 = .ok (.iload_n 2, 1) := by decide +kernel
theorem dX3_takeOut_45 : decode cX3_takeOut 45 = .ok (.putfield 15, 3) := by decide +kernel
theorem dX3_takeOut_48 : decode cX3_takeOut 48 = .ok (.return_, 1) := by decide +kernel
theorem dX4_init_0 : decode cX4_init 0 = .ok (.aload_n 0, 1) := by decide +kernel
theorem dX4_init_1 : decode cX4_init 1 = .ok (.invokespecial 3, 3) := by decide +kernel
theorem dX4_init_4 : decode cX4_init 4 = .ok (.aload_n 0, 1) := by decide +kernel
theorem dX4_init_5 : decode cX4_init 5 = .ok (.new 9, 3) := by decide +kernel
theorem dX4_init_8 : decode cX4_init 8 = .ok (.dup, 1) := by decide +kernel
theorem dX4_init_9 : decode cX4_init 9 = .ok (.invokespecial 11, 3) := by decide +kernel
theorem dX4_init_12 : decode cX4_init 12 = .ok (.putfield 12, 3) := by decide +kernel
theorem dX4_init_15 : decode cX4_init 15 = .ok (.aload_n 0, 1) := by decide +kernel
theorem dX4_init_16 : decode cX4_init 16 = .ok (.new 9, 3) := by decide +kernel
theorem dX4_init_19 : decode cX4_init 19 = .ok (.dup, 1) := by decide +kernel
theorem dX4_init_20 : decode cX4_init 20 = .ok (.invokespecial 11, 3) := by decide +kernel
theorem dX4_init_23 : decode cX4_init 23 = .ok (.putfield 16, 3) := by decide +kernel
theorem dX4_init_26 : decode cX4_init 26 = .ok (.aload_n 0, 1) := by decide +kernel
theorem dX4_init_27 : decode cX4_init 27 = .ok (.iconst 4, 1) := by decide +kernel
theorem dX4_init_28 : decode cX4_init 28 = .ok (.anewarray 9, 3) := by decide +kernel
theorem dX4_init_31 : decode cX4_init 31 = .ok (.putfield 19, 3) := by decide +kernel
theorem dX4_init_34 : decode cX4_init 34 = .ok (.aload_n 0, 1) := by decide +kernel
theorem dX4_init_35 : decode cX4_init 35 = .ok (.iconst 2, 1) := by decide +kernel
theorem dX4_init_36 : decode cX4_init 36 = .ok (.anewarray 9, 3) := by decide +kernel
theorem dX4_init_39 : decode cX4_init 39 = .ok (.putfield 23, 3) := by decide +kernel
theorem dX4_init_42 : decode cX4_init 42 = .ok (.aload_n 0, 1) := by decide +kernel
theorem dX4_init_43 : decode cX4_init 43 = .ok (.iconst 2, 1) := by decide +kernel
theorem dX4_init_44 : decode cX4_init 44 = .ok (.newarray .boolean, 2) := by decide +kernel
theorem dX4_init_46 : decode cX4_init 46 = .ok (.putfield 26, 3) := by decide +kernel
theorem dX4_init_49 : decode cX4_init 49 = .ok (.aload_n 0, 1) := by decide +kernel
theorem dX4_init_50 : decode cX4_init 50 = .ok (.bipush 60, 2) := by decide +kernel
theorem dX4_init_52 : decode cX4_init 52 = .ok (.newarray .char, 2) := by decide +kernel
theorem dX4_init_54 : decode cX4_init 54 = .ok (.putfield 30, 3) := by decide +kernel
theorem dX4_init_57 : decode cX4_init 57 = .ok (.iconst 0, 1) := by decide +kernel
theorem dX4_init_58 : decode cX4_init 58 = .ok (.istore_n 1, 1) := by decide +kernel
theorem dX4_init_59 : decode cX4_init 59 = .ok (.iload_n 1, 1) := by decide +kernel
theorem dX4_init_60 : decode cX4_init 60 = .ok (.iconst 4, 1) := by decide +kernel
theorem dX4_init_61 : decode cX4_init 61 = .ok (.if_icmp .ge 22, 3) := by decide +kernel
theorem dX4_init_64 : decode cX4_init 64 = .ok (.aload_n 0, 1) := by decide +kernel
theorem dX4_init_65 : decode cX4_init 65 = .ok (.getfield 19, 3) := by decide +kernel
theorem dX4_init_68 : decode cX4_init 68 = .ok (.iload_n 1, 1) := by decide +kernel
theorem dX4_init_69 : decode cX4_init 69 = .ok (.new 9, 3) := by decide +kernel
theorem dX4_init_72 : decode cX4_init 72 = .ok (.dup, 1) := by decide +kernel
theorem dX4_init_73 : decode cX4_init 73 = .ok (.invokespecial 11, 3) := by decide +kernel
theorem dX4_init_76 : decode cX4_init 76 = .ok (.aastore, 1) := by decide +kernel
theorem dX4_init_77 : decode cX4_init 77 = .ok (.iinc 1 1, 3) := by decide +kernel
theorem dX4_init_80 : decode cX4_init 80 = .ok (.goto (-21), 3) := by decide +kernel
theorem dX4_init_83 : decode cX4_init 83 = .ok (.iconst 0, 1) := by decide +kernel
theorem dX4_init_84 : decode cX4_init 84 = .ok (.istore_n 1, 1) := by decide +kernel
theorem dX4_init_85 : decode cX4_init 85 = .ok (.iload_n 1, 1) := by decide +kernel
theorem dX4_init_86 : decode cX4_init 86 = .ok (.iconst 2, 1) := by decide +kernel
theorem dX4_init_87 : decode cX4_init 87 = .ok (.if_icmp .ge 22, 3) := by decide +kernel
theorem dX4_init_90 : decode cX4_init 90 = .ok (.aload_n 0, 1) := by decide +kernel
theorem dX4_init_91 : decode cX4_init 91 = .ok (.getfield 23, 3) := by decide +kernel
theorem dX4_init_94 : decode cX4_init 94 = .ok (.iload_n 1, 1) := by decide +kernel
theorem dX4_init_95 : decode cX4_init 95 = .ok (.new 9, 3) := by decide +kernel
theorem dX4_init_98 : decode cX4_init 98 = .ok (.dup, 1) := by decide +kernel
theorem dX4_init_99 : decode cX4_init 99 = .ok (.invokespecial 11, 3) := by decide +kernel
theorem dX4_init_102 : decode cX4_init 102 = .ok (.aastore, 1) := by decide +kernel
theorem dX4_init_103 : decode cX4_init 103 = .ok (.iinc 1 1, 3) := by decide +kernel
theorem dX4_init_106 : decode cX4_init 106 = .ok (.goto (-21), 3) := by decide +kernel
theorem dX4_init_109 : decode cX4_init 109 = .ok (.return_, 1) := by decide +kernel
theorem dX4_set_0 : decode cX4_set 0 = .ok (.iload_n 1, 1) := by decide +kernel
theorem dX4_set_1 : decode cX4_set 1 = .ok (.ifCond .lt 8, 3) := by decide +kernel
theorem dX4_set_4 : decode cX4_set 4 = .ok (.iload_n 1, 1) := by decide +kernel
theorem dX4_set_5 : decode cX4_set 5 = .ok (.iconst 3, 1) := by decide +kernel
theorem dX4_set_6 : decode cX4_set 6 = .ok (.if_icmp .lt 6, 3) := by decide +kernel
theorem dX4_set_9 : decode cX4_set 9 = .ok (.bipush (-2), 2) := by decide +kernel
theorem dX4_set_11 : decode cX4_set 11 = .ok (.ireturn, 1) := by decide +kernel
theorem dX4_set_12 : decode cX4_set 12 = .ok (.iload_n 2, 1) := by decide +kernel
theorem dX4_set_13 : decode cX4_set 13 = .ok (.getstatic 34, 3) := by decide +kernel
theorem dX4_set_16 : decode cX4_set 16 = .ok (.iload_n 1, 1) := by decide +kernel
theorem dX4_set_17 : decode cX4_set 17 = .ok (.iaload, 1) := by decide +kernel
theorem dX4_set_18 : decode cX4_set 18 = .ok (.if_icmp .lt 12, 3) := by decide +kernel
theorem dX4_set_21 : decode cX4_set 21 = .ok (.iload_n 2, 1) := by decide +kernel
theorem dX4_set_22 : decode cX4_set 22 = .ok (.getstatic 38, 3) := by decide +kernel
theorem dX4_set_25 : decode cX4_set 25 = .ok (.iload_n 1, 1) := by decide +kernel
theorem dX4_set_26 : decode cX4_set 26 = .ok (.iaload, 1) := by decide +kernel
theorem dX4_set_27 : decode cX4_set 27 = .ok (.if_icmp .le 6, 3) := by decide +kernel
theorem dX4_set_30 : decode cX4_set 30 = .ok (.bipush (-2), 2) := by decide +kernel
theorem dX4_set_32 : decode cX4_set 32 = .ok (.ireturn, 1) := by decide +kernel
theorem dX4_set_33 : decode cX4_set 33 = .ok (.aload_n 0, 1) := by decide +kernel
theorem dX4_set_34 : decode cX4_set 34 = .ok (.invokevirtual 41, 3) := by decide +kernel
theorem dX4_set_37 : decode cX4_set 37 = .ok (.aload_n 0, 1) := by decide +kernel
theorem dX4_set_38 : decode cX4_set 38 = .ok (.getfield 12, 3) := by decide +kernel
theorem dX4_set_41 : decode cX4_set 41 = .ok (.getfield 44, 3) := by decide +kernel
theorem dX4_set_44 : decode cX4_set 44 = .ok (.iload_n 1, 1) := by decide +kernel
theorem dX4_set_45 : decode cX4_set 45 = .ok (.iaload, 1) := by decide +kernel
theorem dX4_set_46 : decode cX4_set 46 = .ok (.istore_n 3, 1) := by decide +kernel
theorem dX4_set_47 : decode cX4_set 47 = .ok (.aload_n 0, 1) := by decide +kernel
theorem dX4_set_48 : decode cX4_set 48 = .ok (.getfield 12, 3) := by decide +kernel
theorem dX4_set_51 : decode cX4_set 51 = .ok (.getfield 44, 3) := by decide +kernel
theorem dX4_set_54 : decode cX4_set 54 = .ok (.iload_n 1, 1) := by decide +kernel
theorem dX4_set_55 : decode cX4_set 55 = .ok (.iload_n 2, 1) := by decide +kernel
theorem dX4_set_56 : decode cX4_set 56 = .ok (.iastore, 1) := by decide +kernel
theorem dX4_set_57 : decode cX4_set 57 = .ok (.iload_n 3, 1) := by decide +kernel
theorem dX4_set_58 : decode cX4_set 58 = .ok (.ireturn, 1) := by decide +kernel
theorem dX4_strike_0 : decode cX4_strike 0 = .ok (.iload_n 1, 1) := by decide +kernel
theorem dX4_strike_1 : decode cX4_strike 1 = .ok (.ifCond .lt 18, 3) := by decide +kernel
theorem dX4_strike_4 : decode cX4_strike 4 = .ok (.iload_n 1, 1) := by decide +kernel
theorem dX4_strike_5 : decode cX4_strike 5 = .ok (.iconst 4, 1) := by decide +kernel
theorem dX4_strike_6 : decode cX4_strike 6 = .ok (.if_icmp .ge 13, 3) := by decide +kernel
theorem dX4_strike_9 : decode cX4_strike 9 = .ok (.iload_n 2, 1) := by decide +kernel
theorem dX4_strike_10 : decode cX4_strike 10 = .ok (.ifCond .lt 9, 3) := by decide +kernel
theorem dX4_strike_13 : decode cX4_strike 13 = .ok (.iload_n 2, 1) := by decide +kernel
theorem dX4_strike_14 : decode cX4_strike 14 = .ok (.bipush 26, 2) := by decide +kernel
theorem dX4_strike_16 : decode cX4_strike 16 = .ok (.if_icmp .lt 5, 3) := by decide +kernel
theorem dX4_strike_19 : decode cX4_strike 19 = .ok (.iconst (-1), 1) := by decide +kernel
theorem dX4_strike_20 : decode cX4_strike 20 = .ok (.ireturn, 1) := by decide +kernel
theorem dX4_strike_21 : decode cX4_strike 21 = .ok (.aload_n 0, 1) := by decide +kernel
theorem dX4_strike_22 : decode cX4_strike 22 = .ok (.invokevirtual 41, 3) := by decide +kernel
theorem dX4_strike_25 : decode cX4_strike 25 = .ok (.aload_n 0, 1) := by decide +kernel
theorem dX4_strike_26 : decode cX4_strike 26 = .ok (.getfield 12, 3) := by decide +kernel
theorem dX4_strike_29 : decode cX4_strike 29 = .ok (.getfield 47, 3) := by decide +kernel
theorem dX4_strike_32 : decode cX4_strike 32 = .ok (.iload_n 1, 1) := by decide +kernel
theorem dX4_strike_33 : decode cX4_strike 33 = .ok (.aaload, 1) := by decide +kernel
theorem dX4_strike_34 : decode cX4_strike 34 = .ok (.astore_n 3, 1) := by decide +kernel
theorem dX4_strike_35 : decode cX4_strike 35 = .ok (.aload_n 3, 1) := by decide +kernel
theorem dX4_strike_36 : decode cX4_strike 36 = .ok (.aload_n 3, 1) := by decide +kernel
theorem dX4_strike_37 : decode cX4_strike 37 = .ok (.getfield 51, 3) := by decide +kernel
theorem dX4_strike_40 : decode cX4_strike 40 = .ok (.iconst 1, 1) := by decide +kernel
theorem dX4_strike_41 : decode cX4_strike 41 = .ok (.iload_n 2, 1) := by decide +kernel
theorem dX4_strike_42 : decode cX4_strike 42 = .ok (.ishl, 1) := by decide +kernel
theorem dX4_strike_43 : decode cX4_strike 43 = .ok (.ixor, 1) := by decide +kernel
theorem dX4_strike_44 : decode cX4_strike 44 = .ok (.putfield 51, 3) := by decide +kernel
theorem dX4_strike_47 : decode cX4_strike 47 = .ok (.aload_n 3, 1) := by decide +kernel
theorem dX4_strike_48 : decode cX4_strike 48 = .ok (.getfield 51, 3) := by decide +kernel
theorem dX4_strike_51 : decode cX4_strike 51 = .ok (.invokestatic 57, 3) := by decide +kernel
theorem dX4_strike_54 : decode cX4_strike 54 = .ok (.ireturn, 1) := by decide +kernel
theorem dX4_trade_0 : decode cX4_trade 0 = .ok (.iload_n 1, 1) := by decide +kernel
theorem dX4_trade_1 : decode cX4_trade 1 = .ok (.ifCond .lt 19, 3) := by decide +kernel
theorem dX4_trade_4 : decode cX4_trade 4 = .ok (.iload_n 1, 1) := by decide +kernel
theorem dX4_trade_5 : decode cX4_trade 5 = .ok (.bipush 8, 2) := by decide +kernel
theorem dX4_trade_7 : decode cX4_trade 7 = .ok (.if_icmp .ge 13, 3) := by decide +kernel
theorem dX4_trade_10 : decode cX4_trade 10 = .ok (.iload_n 2, 1) := by decide +kernel
theorem dX4_trade_11 : decode cX4_trade 11 = .ok (.ifCond .lt 9, 3) := by decide +kernel
theorem dX4_trade_14 : decode cX4_trade 14 = .ok (.iload_n 2, 1) := by decide +kernel
theorem dX4_trade_15 : decode cX4_trade 15 = .ok (.bipush 8, 2) := by decide +kernel
theorem dX4_trade_17 : decode cX4_trade 17 = .ok (.if_icmp .lt 5, 3) := by decide +kernel
theorem dX4_trade_20 : decode cX4_trade 20 = .ok (.iconst (-1), 1) := by decide +kernel
theorem dX4_trade_21 : decode cX4_trade 21 = .ok (.ireturn, 1) := by decide +kernel
theorem dX4_trade_22 : decode cX4_trade 22 = .ok (.aload_n 0, 1) := by decide +kernel
theorem dX4_trade_23 : decode cX4_trade 23 = .ok (.getfield 12, 3) := by decide +kernel
theorem dX4_trade_26 : decode cX4_trade 26 = .ok (.getfield 63, 3) := by decide +kernel
theorem dX4_trade_29 : decode cX4_trade 29 = .ok (.iload_n 1, 1) := by decide +kernel
theorem dX4_trade_30 : decode cX4_trade 30 = .ok (.iaload, 1) := by decide +kernel
theorem dX4_trade_31 : decode cX4_trade 31 = .ok (.aload_n 0, 1) := by decide +kernel
theorem dX4_trade_32 : decode cX4_trade 32 = .ok (.getfield 12, 3) := by decide +kernel
theorem dX4_trade_35 : decode cX4_trade 35 = .ok (.getfield 63, 3) := by decide +kernel
theorem dX4_trade_38 : decode cX4_trade 38 = .ok (.iload_n 2, 1) := by decide +kernel
theorem dX4_trade_39 : decode cX4_trade 39 = .ok (.iaload, 1) := by decide +kernel
theorem dX4_trade_40 : decode cX4_trade 40 = .ok (.if_icmp .ne 6, 3) := by decide +kernel
theorem dX4_trade_43 : decode cX4_trade 43 = .ok (.bipush (-5), 2) := by decide +kernel
theorem dX4_trade_45 : decode cX4_trade 45 = .ok (.ireturn, 1) := by decide +kernel
theorem dX4_trade_46 : decode cX4_trade 46 = .ok (.aload_n 0, 1) := by decide +kernel
theorem dX4_trade_47 : decode cX4_trade 47 = .ok (.invokevirtual 41, 3) := by decide +kernel
theorem dX4_trade_50 : decode cX4_trade 50 = .ok (.aload_n 0, 1) := by decide +kernel
theorem dX4_trade_51 : decode cX4_trade 51 = .ok (.getfield 12, 3) := by decide +kernel
theorem dX4_trade_54 : decode cX4_trade 54 = .ok (.iload_n 1, 1) := by decide +kernel
theorem dX4_trade_55 : decode cX4_trade 55 = .ok (.iload_n 2, 1) := by decide +kernel
theorem dX4_trade_56 : decode cX4_trade 56 = .ok (.invokevirtual 66, 3) := by decide +kernel
theorem dX4_trade_59 : decode cX4_trade 59 = .ok (.aload_n 0, 1) := by decide +kernel
theorem dX4_trade_60 : decode cX4_trade 60 = .ok (.getfield 12, 3) := by decide +kernel
theorem dX4_trade_63 : decode cX4_trade 63 = .ok (.getfield 63, 3) := by decide +kernel
theorem dX4_trade_66 : decode cX4_trade 66 = .ok (.iload_n 1, 1) := by decide +kernel
theorem dX4_trade_67 : decode cX4_trade 67 = .ok (.iaload, 1) := by decide +kernel
theorem dX4_trade_68 : decode cX4_trade 68 = .ok (.ireturn, 1) := by decide +kernel
theorem dX4_read_0 : decode cX4_read 0 = .ok (.aload_n 0, 1) := by decide +kernel
theorem dX4_read_1 : decode cX4_read 1 = .ok (.invokevirtual 70, 3) := by decide +kernel
theorem dX4_read_4 : decode cX4_read 4 = .ok (.bipush (-6), 2) := by decide +kernel
theorem dX4_read_6 : decode cX4_read 6 = .ok (.if_icmp .eq 6, 3) := by decide +kernel
theorem dX4_read_9 : decode cX4_read 9 = .ok (.bipush (-3), 2) := by decide +kernel
theorem dX4_read_11 : decode cX4_read 11 = .ok (.ireturn, 1) := by decide +kernel
theorem dX4_read_12 : decode cX4_read 12 = .ok (.aload_n 0, 1) := by decide +kernel
theorem dX4_read_13 : decode cX4_read 13 = .ok (.getfield 12, 3) := by decide +kernel
theorem dX4_read_16 : decode cX4_read 16 = .ok (.getfield 74, 3) := by decide +kernel
theorem dX4_read_19 : decode cX4_read 19 = .ok (.aload_n 0, 1) := by decide +kernel
theorem dX4_read_20 : decode cX4_read 20 = .ok (.invokevirtual 77, 3) := by decide +kernel
theorem dX4_read_23 : decode cX4_read 23 = .ok (.iadd, 1) := by decide +kernel
theorem dX4_read_24 : decode cX4_read 24 = .ok (.bipush 40, 2) := by decide +kernel
theorem dX4_read_26 : decode cX4_read 26 = .ok (.if_icmp .le 6, 3) := by decide +kernel
theorem dX4_read_29 : decode cX4_read 29 = .ok (.bipush (-4), 2) := by decide +kernel
theorem dX4_read_31 : decode cX4_read 31 = .ok (.ireturn, 1) := by decide +kernel
theorem dX4_read_32 : decode cX4_read 32 = .ok (.aload_n 0, 1) := by decide +kernel
theorem dX4_read_33 : decode cX4_read 33 = .ok (.invokevirtual 41, 3) := by decide +kernel
theorem dX4_read_36 : decode cX4_read 36 = .ok (.aload_n 0, 1) := by decide +kernel
theorem dX4_read_37 : decode cX4_read 37 = .ok (.invokevirtual 80, 3) := by decide +kernel
theorem dX4_read_40 : decode cX4_read 40 = .ok (.aload_n 0, 1) := by decide +kernel
theorem dX4_read_41 : decode cX4_read 41 = .ok (.iconst 0, 1) := by decide +kernel
theorem dX4_read_42 : decode cX4_read 42 = .ok (.putfield 83, 3) := by decide +kernel
theorem dX4_read_45 : decode cX4_read 45 = .ok (.aload_n 0, 1) := by decide +kernel
theorem dX4_read_46 : decode cX4_read 46 = .ok (.getfield 12, 3) := by decide +kernel
theorem dX4_read_49 : decode cX4_read 49 = .ok (.getfield 74, 3) := by decide +kernel
theorem dX4_read_52 : decode cX4_read 52 = .ok (.ireturn, 1) := by decide +kernel
theorem dX4_burn_0 : decode cX4_burn 0 = .ok (.aload_n 0, 1) := by decide +kernel
theorem dX4_burn_1 : decode cX4_burn 1 = .ok (.getfield 12, 3) := by decide +kernel
theorem dX4_burn_4 : decode cX4_burn 4 = .ok (.iload_n 1, 1) := by decide +kernel
theorem dX4_burn_5 : decode cX4_burn 5 = .ok (.invokevirtual 86, 3) := by decide +kernel
theorem dX4_burn_8 : decode cX4_burn 8 = .ok (.ifCond .ne 5, 3) := by decide +kernel
theorem dX4_burn_11 : decode cX4_burn 11 = .ok (.iconst (-1), 1) := by decide +kernel
theorem dX4_burn_12 : decode cX4_burn 12 = .ok (.ireturn, 1) := by decide +kernel
theorem dX4_burn_13 : decode cX4_burn 13 = .ok (.aload_n 0, 1) := by decide +kernel
theorem dX4_burn_14 : decode cX4_burn 14 = .ok (.getfield 12, 3) := by decide +kernel
theorem dX4_burn_17 : decode cX4_burn 17 = .ok (.getfield 90, 3) := by decide +kernel
theorem dX4_burn_20 : decode cX4_burn 20 = .ok (.iload_n 1, 1) := by decide +kernel
theorem dX4_burn_21 : decode cX4_burn 21 = .ok (.aaload, 1) := by decide +kernel
theorem dX4_burn_22 : decode cX4_burn 22 = .ok (.getfield 94, 3) := by decide +kernel
theorem dX4_burn_25 : decode cX4_burn 25 = .ok (.ifCond .eq 6, 3) := by decide +kernel
theorem dX4_burn_28 : decode cX4_burn 28 = .ok (.bipush (-5), 2) := by decide +kernel
theorem dX4_burn_30 : decode cX4_burn 30 = .ok (.ireturn, 1) := by decide +kernel
theorem dX4_burn_31 : decode cX4_burn 31 = .ok (.aload_n 0, 1) := by decide +kernel
theorem dX4_burn_32 : decode cX4_burn 32 = .ok (.invokevirtual 41, 3) := by decide +kernel
theorem dX4_burn_35 : decode cX4_burn 35 = .ok (.aload_n 0, 1) := by decide +kernel
theorem dX4_burn_36 : decode cX4_burn 36 = .ok (.getfield 12, 3) := by decide +kernel
theorem dX4_burn_39 : decode cX4_burn 39 = .ok (.iload_n 1, 1) := by decide +kernel
theorem dX4_burn_40 : decode cX4_burn 40 = .ok (.invokevirtual 99, 3) := by decide +kernel
theorem dX4_burn_43 : decode cX4_burn 43 = .ok (.aload_n 0, 1) := by decide +kernel
theorem dX4_burn_44 : decode cX4_burn 44 = .ok (.getfield 12, 3) := by decide +kernel
theorem dX4_burn_47 : decode cX4_burn 47 = .ok (.getfield 103, 3) := by decide +kernel
theorem dX4_burn_50 : decode cX4_burn 50 = .ok (.aload_n 0, 1) := by decide +kernel
theorem dX4_burn_51 : decode cX4_burn 51 = .ok (.getfield 12, 3) := by decide +kernel
theorem dX4_burn_54 : decode cX4_burn 54 = .ok (.getfield 90, 3) := by decide +kernel
theorem dX4_burn_57 : decode cX4_burn 57 = .ok (.iload_n 1, 1) := by decide +kernel
theorem dX4_burn_58 : decode cX4_burn 58 = .ok (.aaload, 1) := by decide +kernel
theorem dX4_burn_59 : decode cX4_burn 59 = .ok (.getfield 106, 3) := by decide +kernel
theorem dX4_burn_62 : decode cX4_burn 62 = .ok (.isub, 1) := by decide +kernel
theorem dX4_burn_63 : decode cX4_burn 63 = .ok (.ireturn, 1) := by decide +kernel
theorem dX4_pass_0 : decode cX4_pass 0 = .ok (.iload_n 1, 1) := by decide +kernel
theorem dX4_pass_1 : decode cX4_pass 1 = .ok (.iconst 1, 1) := by decide +kernel
theorem dX4_pass_2 : decode cX4_pass 2 = .ok (.if_icmp .lt 9, 3) := by decide +kernel
theorem dX4_pass_5 : decode cX4_pass 5 = .ok (.iload_n 1, 1) := by decide +kernel
theorem dX4_pass_6 : decode cX4_pass 6 = .ok (.bipush 52, 2) := by decide +kernel
theorem dX4_pass_8 : decode cX4_pass 8 = .ok (.if_icmp .le 6, 3) := by decide +kernel
theorem dX4_pass_11 : decode cX4_pass 11 = .ok (.bipush (-2), 2) := by decide +kernel
theorem dX4_pass_13 : decode cX4_pass 13 = .ok (.ireturn, 1) := by decide +kernel
theorem dX4_pass_14 : decode cX4_pass 14 = .ok (.aload_n 0, 1) := by decide +kernel
theorem dX4_pass_15 : decode cX4_pass 15 = .ok (.getfield 12, 3) := by decide +kernel
theorem dX4_pass_18 : decode cX4_pass 18 = .ok (.getfield 103, 3) := by decide +kernel
theorem dX4_pass_21 : decode cX4_pass 21 = .ok (.iload_n 1, 1) := by decide +kernel
theorem dX4_pass_22 : decode cX4_pass 22 = .ok (.iadd, 1) := by decide +kernel
theorem dX4_pass_23 : decode cX4_pass 23 = .ok (.sipush 9999, 3) := by decide +kernel
theorem dX4_pass_26 : decode cX4_pass 26 = .ok (.if_icmp .le 6, 3) := by decide +kernel
theorem dX4_pass_29 : decode cX4_pass 29 = .ok (.bipush (-4), 2) := by decide +kernel
theorem dX4_pass_31 : decode cX4_pass 31 = .ok (.ireturn, 1) := by decide +kernel
theorem dX4_pass_32 : decode cX4_pass 32 = .ok (.aload_n 0, 1) := by decide +kernel
theorem dX4_pass_33 : decode cX4_pass 33 = .ok (.invokevirtual 41, 3) := by decide +kernel
theorem dX4_pass_36 : decode cX4_pass 36 = .ok (.aload_n 0, 1) := by decide +kernel
theorem dX4_pass_37 : decode cX4_pass 37 = .ok (.getfield 12, 3) := by decide +kernel
theorem dX4_pass_40 : decode cX4_pass 40 = .ok (.iload_n 1, 1) := by decide +kernel
theorem dX4_pass_41 : decode cX4_pass 41 = .ok (.invokevirtual 109, 3) := by decide +kernel
theorem dX4_pass_44 : decode cX4_pass 44 = .ok (.ireturn, 1) := by decide +kernel
theorem dX4_letter_0 : decode cX4_letter 0 = .ok (.aload_n 0, 1) := by decide +kernel
theorem dX4_letter_1 : decode cX4_letter 1 = .ok (.getfield 12, 3) := by decide +kernel
theorem dX4_letter_4 : decode cX4_letter 4 = .ok (.iload_n 1, 1) := by decide +kernel
theorem dX4_letter_5 : decode cX4_letter 5 = .ok (.invokevirtual 86, 3) := by decide +kernel
theorem dX4_letter_8 : decode cX4_letter 8 = .ok (.ifCond .ne 5, 3) := by decide +kernel
theorem dX4_letter_11 : decode cX4_letter 11 = .ok (.iconst (-1), 1) := by decide +kernel
theorem dX4_letter_12 : decode cX4_letter 12 = .ok (.ireturn, 1) := by decide +kernel
theorem dX4_letter_13 : decode cX4_letter 13 = .ok (.aload_n 0, 1) := by decide +kernel
theorem dX4_letter_14 : decode cX4_letter 14 = .ok (.getfield 12, 3) := by decide +kernel
theorem dX4_letter_17 : decode cX4_letter 17 = .ok (.getfield 90, 3) := by decide +kernel
theorem dX4_letter_20 : decode cX4_letter 20 = .ok (.iload_n 1, 1) := by decide +kernel
theorem dX4_letter_21 : decode cX4_letter 21 = .ok (.aaload, 1) := by decide +kernel
theorem dX4_letter_22 : decode cX4_letter 22 = .ok (.astore_n 3, 1) := by decide +kernel
theorem dX4_letter_23 : decode cX4_letter 23 = .ok (.iload_n 2, 1) := by decide +kernel
theorem dX4_letter_24 : decode cX4_letter 24 = .ok (.tableswitch 144 0 10 #[60, 65, 70, 75, 92, 97, 115, 120, 125, 130, 139], 60) := by decide +kernel
theorem dX4_letter_84 : decode cX4_letter 84 = .ok (.aload_n 3, 1) := by decide +kernel
theorem dX4_letter_85 : decode cX4_letter 85 = .ok (.getfield 112, 3) := by decide +kernel
theorem dX4_letter_88 : decode cX4_letter 88 = .ok (.ireturn, 1) := by decide +kernel
theorem dX4_letter_89 : decode cX4_letter 89 = .ok (.aload_n 3, 1) := by decide +kernel
theorem dX4_letter_90 : decode cX4_letter 90 = .ok (.getfield 115, 3) := by decide +kernel
theorem dX4_letter_93 : decode cX4_letter 93 = .ok (.ireturn, 1) := by decide +kernel
theorem dX4_letter_94 : decode cX4_letter 94 = .ok (.aload_n 3, 1) := by decide +kernel
theorem dX4_letter_95 : decode cX4_letter 95 = .ok (.getfield 94, 3) := by decide +kernel
theorem dX4_letter_98 : decode cX4_letter 98 = .ok (.ireturn, 1) := by decide +kernel
theorem dX4_letter_99 : decode cX4_letter 99 = .ok (.aload_n 0, 1) := by decide +kernel
theorem dX4_letter_100 : decode cX4_letter 100 = .ok (.getfield 12, 3) := by decide +kernel
theorem dX4_letter_103 : decode cX4_letter 103 = .ok (.getfield 118, 3) := by decide +kernel
theorem dX4_letter_106 : decode cX4_letter 106 = .ok (.aload_n 3, 1) := by decide +kernel
theorem dX4_letter_107 : decode cX4_letter 107 = .ok (.getfield 115, 3) := by decide +kernel
theorem dX4_letter_110 : decode cX4_letter 110 = .ok (.aaload, 1) := by decide +kernel
theorem dX4_letter_111 : decode cX4_letter 111 = .ok (.iload_n 1, 1) := by decide +kernel
theorem dX4_letter_112 : decode cX4_letter 112 = .ok (.invokevirtual 122, 3) := by decide +kernel
theorem dX4_letter_115 : decode cX4_letter 115 = .ok (.ireturn, 1) := by decide +kernel
theorem dX4_letter_116 : decode cX4_letter 116 = .ok (.aload_n 3, 1) := by decide +kernel
theorem dX4_letter_117 : decode cX4_letter 117 = .ok (.getfield 106, 3) := by decide +kernel
theorem dX4_letter_120 : decode cX4_letter 120 = .ok (.ireturn, 1) := by decide +kernel
theorem dX4_letter_121 : decode cX4_letter 121 = .ok (.aload_n 3, 1) := by decide +kernel
theorem dX4_letter_122 : decode cX4_letter 122 = .ok (.getfield 94, 3) := by decide +kernel
theorem dX4_letter_125 : decode cX4_letter 125 = .ok (.iconst 1, 1) := by decide +kernel
theorem dX4_letter_126 : decode cX4_letter 126 = .ok (.if_icmp .ne 10, 3) := by decide +kernel
theorem dX4_letter_129 : decode cX4_letter 129 = .ok (.aload_n 3, 1) := by decide +kernel
theorem dX4_letter_130 : decode cX4_letter 130 = .ok (.getfield 127, 3) := by decide +kernel
theorem dX4_letter_133 : decode cX4_letter 133 = .ok (.goto 5, 3) := by decide +kernel
theorem dX4_letter_136 : decode cX4_letter 136 = .ok (.bipush (-6), 2) := by decide +kernel
theorem dX4_letter_138 : decode cX4_letter 138 = .ok (.ireturn, 1) := by decide +kernel
theorem dX4_letter_139 : decode cX4_letter 139 = .ok (.aload_n 3, 1) := by decide +kernel
theorem dX4_letter_140 : decode cX4_letter 140 = .ok (.invokevirtual 130, 3) := by decide +kernel
theorem dX4_letter_143 : decode cX4_letter 143 = .ok (.ireturn, 1) := by decide +kernel
theorem dX4_letter_144 : decode cX4_letter 144 = .ok (.aload_n 3, 1) := by decide +kernel
theorem dX4_letter_145 : decode cX4_letter 145 = .ok (.getfield 133, 3) := by decide +kernel
theorem dX4_letter_148 : decode cX4_letter 148 = .ok (.ireturn, 1) := by decide +kernel
theorem dX4_letter_149 : decode cX4_letter 149 = .ok (.aload_n 3, 1) := by decide +kernel
theorem dX4_letter_150 : decode cX4_letter 150 = .ok (.getfield 136, 3) := by decide +kernel
theorem dX4_letter_153 : decode cX4_letter 153 = .ok (.ireturn, 1) := by decide +kernel
theorem dX4_letter_154 : decode cX4_letter 154 = .ok (.aload_n 0, 1) := by decide +kernel
theorem dX4_letter_155 : decode cX4_letter 155 = .ok (.getfield 12, 3) := by decide +kernel
theorem dX4_letter_158 : decode cX4_letter 158 = .ok (.iload_n 1, 1) := by decide +kernel
theorem dX4_letter_159 : decode cX4_letter 159 = .ok (.invokevirtual 139, 3) := by decide +kernel
theorem dX4_letter_162 : decode cX4_letter 162 = .ok (.ireturn, 1) := by decide +kernel
theorem dX4_letter_163 : decode cX4_letter 163 = .ok (.aload_n 3, 1) := by decide +kernel
theorem dX4_letter_164 : decode cX4_letter 164 = .ok (.getfield 142, 3) := by decide +kernel
theorem dX4_letter_167 : decode cX4_letter 167 = .ok (.ireturn, 1) := by decide +kernel
theorem dX4_letter_168 : decode cX4_letter 168 = .ok (.bipush (-2), 2) := by decide +kernel
theorem dX4_letter_170 : decode cX4_letter 170 = .ok (.ireturn, 1) := by decide +kernel
theorem dX4_word_0 : decode cX4_word 0 = .ok (.aload_n 0, 1) := by decide +kernel
theorem dX4_word_1 : decode cX4_word 1 = .ok (.getfield 12, 3) := by decide +kernel
theorem dX4_word_4 : decode cX4_word 4 = .ok (.iload_n 1, 1) := by decide +kernel
theorem dX4_word_5 : decode cX4_word 5 = .ok (.invokevirtual 86, 3) := by decide +kernel
theorem dX4_word_8 : decode cX4_word 8 = .ok (.ifCond .ne 5, 3) := by decide +kernel
theorem dX4_word_11 : decode cX4_word 11 = .ok (.iconst (-1), 1) := by decide +kernel
theorem dX4_word_12 : decode cX4_word 12 = .ok (.ireturn, 1) := by decide +kernel
theorem dX4_word_13 : decode cX4_word 13 = .ok (.aload_n 0, 1) := by decide +kernel
theorem dX4_word_14 : decode cX4_word 14 = .ok (.getfield 12, 3) := by decide +kernel
theorem dX4_word_17 : decode cX4_word 17 = .ok (.getfield 90, 3) := by decide +kernel
theorem dX4_word_20 : decode cX4_word 20 = .ok (.iload_n 1, 1) := by decide +kernel
theorem dX4_word_21 : decode cX4_word 21 = .ok (.aaload, 1) := by decide +kernel
theorem dX4_word_22 : decode cX4_word 22 = .ok (.astore_n 3, 1) := by decide +kernel
theorem dX4_word_23 : decode cX4_word 23 = .ok (.iload_n 2, 1) := by decide +kernel
theorem dX4_word_24 : decode cX4_word 24 = .ok (.ifCond .lt 11, 3) := by decide +kernel
theorem dX4_word_27 : decode cX4_word 27 = .ok (.iload_n 2, 1) := by decide +kernel
theorem dX4_word_28 : decode cX4_word 28 = .ok (.aload_n 3, 1) := by decide +kernel
theorem dX4_word_29 : decode cX4_word 29 = .ok (.getfield 142, 3) := by decide +kernel
theorem dX4_word_32 : decode cX4_word 32 = .ok (.if_icmp .lt 5, 3) := by decide +kernel
theorem dX4_word_35 : decode cX4_word 35 = .ok (.iconst (-1), 1) := by decide +kernel
theorem dX4_word_36 : decode cX4_word 36 = .ok (.ireturn, 1) := by decide +kernel
theorem dX4_word_37 : decode cX4_word 37 = .ok (.aload_n 3, 1) := by decide +kernel
theorem dX4_word_38 : decode cX4_word 38 = .ok (.iload_n 2, 1) := by decide +kernel
theorem dX4_word_39 : decode cX4_word 39 = .ok (.invokevirtual 145, 3) := by decide +kernel
theorem dX4_word_42 : decode cX4_word 42 = .ok (.ifCond .eq 8, 3) := by decide +kernel
theorem dX4_word_45 : decode cX4_word 45 = .ok (.bipush 42, 2) := by decide +kernel
theorem dX4_word_47 : decode cX4_word 47 = .ok (.goto 8, 3) := by decide +kernel
theorem dX4_word_50 : decode cX4_word 50 = .ok (.aload_n 3, 1) := by decide +kernel
theorem dX4_word_51 : decode cX4_word 51 = .ok (.iload_n 2, 1) := by decide +kernel
theorem dX4_word_52 : decode cX4_word 52 = .ok (.invokevirtual 148, 3) := by decide +kernel
theorem dX4_word_55 : decode cX4_word 55 = .ok (.ireturn, 1) := by decide +kernel
theorem dX4_why_0 : decode cX4_why 0 = .ok (.aload_n 0, 1) := by decide +kernel
theorem dX4_why_1 : decode cX4_why 1 = .ok (.getfield 12, 3) := by decide +kernel
theorem dX4_why_4 : decode cX4_why 4 = .ok (.iload_n 1, 1) := by decide +kernel
theorem dX4_why_5 : decode cX4_why 5 = .ok (.invokevirtual 86, 3) := by decide +kernel
theorem dX4_why_8 : decode cX4_why 8 = .ok (.ifCond .ne 5, 3) := by decide +kernel
theorem dX4_why_11 : decode cX4_why 11 = .ok (.iconst (-1), 1) := by decide +kernel
theorem dX4_why_12 : decode cX4_why 12 = .ok (.ireturn, 1) := by decide +kernel
theorem dX4_why_13 : decode cX4_why 13 = .ok (.aload_n 0, 1) := by decide +kernel
theorem dX4_why_14 : decode cX4_why 14 = .ok (.getfield 12, 3) := by decide +kernel
theorem dX4_why_17 : decode cX4_why 17 = .ok (.getfield 90, 3) := by decide +kernel
theorem dX4_why_20 : decode cX4_why 20 = .ok (.iload_n 1, 1) := by decide +kernel
theorem dX4_why_21 : decode cX4_why 21 = .ok (.aaload, 1) := by decide +kernel
theorem dX4_why_22 : decode cX4_why 22 = .ok (.astore_n 2, 1) := by decide +kernel
theorem dX4_why_23 : decode cX4_why 23 = .ok (.aload_n 2, 1) := by decide +kernel
theorem dX4_why_24 : decode cX4_why 24 = .ok (.getfield 94, 3) := by decide +kernel
theorem dX4_why_27 : decode cX4_why 27 = .ok (.ifCond .eq 5, 3) := by decide +kernel
theorem dX4_why_30 : decode cX4_why 30 = .ok (.iconst 1, 1) := by decide +kernel
theorem dX4_why_31 : decode cX4_why 31 = .ok (.ireturn, 1) := by decide +kernel
theorem dX4_why_32 : decode cX4_why 32 = .ok (.aload_n 0, 1) := by decide +kernel
theorem dX4_why_33 : decode cX4_why 33 = .ok (.getfield 12, 3) := by decide +kernel
theorem dX4_why_36 : decode cX4_why 36 = .ok (.invokevirtual 151, 3) := by decide +kernel
theorem dX4_why_39 : decode cX4_why 39 = .ok (.aload_n 2, 1) := by decide +kernel
theorem dX4_why_40 : decode cX4_why 40 = .ok (.getfield 154, 3) := by decide +kernel
theorem dX4_why_43 : decode cX4_why 43 = .ok (.ireturn, 1) := by decide +kernel
theorem dX4_censor_0 : decode cX4_censor 0 = .ok (.iload_n 1, 1) := by decide +kernel
theorem dX4_censor_1 : decode cX4_censor 1 = .ok (.ifCond .lt 8, 3) := by decide +kernel
theorem dX4_censor_4 : decode cX4_censor 4 = .ok (.iload_n 1, 1) := by decide +kernel
theorem dX4_censor_5 : decode cX4_censor 5 = .ok (.iconst 4, 1) := by decide +kernel
theorem dX4_censor_6 : decode cX4_censor 6 = .ok (.if_icmp .lt 5, 3) := by decide +kernel
theorem dX4_censor_9 : decode cX4_censor 9 = .ok (.iconst (-1), 1) := by decide +kernel
theorem dX4_censor_10 : decode cX4_censor 10 = .ok (.ireturn, 1) := by decide +kernel
theorem dX4_censor_11 : decode cX4_censor 11 = .ok (.aload_n 0, 1) := by decide +kernel
theorem dX4_censor_12 : decode cX4_censor 12 = .ok (.getfield 12, 3) := by decide +kernel
theorem dX4_censor_15 : decode cX4_censor 15 = .ok (.getfield 47, 3) := by decide +kernel
theorem dX4_censor_18 : decode cX4_censor 18 = .ok (.iload_n 1, 1) := by decide +kernel
theorem dX4_censor_19 : decode cX4_censor 19 = .ok (.aaload, 1) := by decide +kernel
theorem dX4_censor_20 : decode cX4_censor 20 = .ok (.astore_n 3, 1) := by decide +kernel
theorem dX4_censor_21 : decode cX4_censor 21 = .ok (.iload_n 2, 1) := by decide +kernel
theorem dX4_censor_22 : decode cX4_censor 22 = .ok (.tableswitch 63 0 4 #[34, 39, 48, 53, 58], 34) := by decide +kernel
theorem dX4_censor_56 : decode cX4_censor 56 = .ok (.aload_n 3, 1) := by decide +kernel
theorem dX4_censor_57 : decode cX4_censor 57 = .ok (.getfield 51, 3) := by decide +kernel
theorem dX4_censor_60 : decode cX4_censor 60 = .ok (.ireturn, 1) := by decide +kernel
theorem dX4_censor_61 : decode cX4_censor 61 = .ok (.aload_n 0, 1) := by decide +kernel
theorem dX4_censor_62 : decode cX4_censor 62 = .ok (.getfield 12, 3) := by decide +kernel
theorem dX4_censor_65 : decode cX4_censor 65 = .ok (.iload_n 1, 1) := by decide +kernel
theorem dX4_censor_66 : decode cX4_censor 66 = .ok (.invokevirtual 157, 3) := by decide +kernel
theorem dX4_censor_69 : decode cX4_censor 69 = .ok (.ireturn, 1) := by decide +kernel
theorem dX4_censor_70 : decode cX4_censor 70 = .ok (.aload_n 3, 1) := by decide +kernel
theorem dX4_censor_71 : decode cX4_censor 71 = .ok (.getfield 160, 3) := by decide +kernel
theorem dX4_censor_74 : decode cX4_censor 74 = .ok (.ireturn, 1) := by decide +kernel
theorem dX4_censor_75 : decode cX4_censor 75 = .ok (.aload_n 3, 1) := by decide +kernel
theorem dX4_censor_76 : decode cX4_censor 76 = .ok (.getfield 163, 3) := by decide +kernel
theorem dX4_censor_79 : decode cX4_censor 79 = .ok (.ireturn, 1) := by decide +kernel
theorem dX4_censor_80 : decode cX4_censor 80 = .ok (.aload_n 3, 1) := by decide +kernel
theorem dX4_censor_81 : decode cX4_censor 81 = .ok (.getfield 166, 3) := by decide +kernel
theorem dX4_censor_84 : decode cX4_censor 84 = .ok (.ireturn, 1) := by decide +kernel
theorem dX4_censor_85 : decode cX4_censor 85 = .ok (.bipush (-2), 2) := by decide +kernel
theorem dX4_censor_87 : decode cX4_censor 87 = .ok (.ireturn, 1) := by decide +kernel
theorem dX4_onShift_0 : decode cX4_onShift 0 = .ok (.iload_n 2, 1) := by decide +kernel
theorem dX4_onShift_1 : decode cX4_onShift 1 = .ok (.ifCond .lt 8, 3) := by decide +kernel
theorem dX4_onShift_4 : decode cX4_onShift 4 = .ok (.iload_n 2, 1) := by decide +kernel
theorem dX4_onShift_5 : decode cX4_onShift 5 = .ok (.iconst 2, 1) := by decide +kernel
theorem dX4_onShift_6 : decode cX4_onShift 6 = .ok (.if_icmp .lt 5, 3) := by decide +kernel
theorem dX4_onShift_9 : decode cX4_onShift 9 = .ok (.iconst (-1), 1) := by decide +kernel
theorem dX4_onShift_10 : decode cX4_onShift 10 = .ok (.ireturn, 1) := by decide +kernel
theorem dX4_onShift_11 : decode cX4_onShift 11 = .ok (.iload_n 1, 1) := by decide +kernel
theorem dX4_onShift_12 : decode cX4_onShift 12 = .ok (.ifCond .lt 10, 3) := by decide +kernel
theorem dX4_onShift_15 : decode cX4_onShift 15 = .ok (.iload_n 1, 1) := by decide +kernel
theorem dX4_onShift_16 : decode cX4_onShift 16 = .ok (.sipush 9999, 3) := by decide +kernel
theorem dX4_onShift_19 : decode cX4_onShift 19 = .ok (.if_icmp .le 6, 3) := by decide +kernel
theorem dX4_onShift_22 : decode cX4_onShift 22 = .ok (.bipush (-2), 2) := by decide +kernel
theorem dX4_onShift_24 : decode cX4_onShift 24 = .ok (.ireturn, 1) := by decide +kernel
theorem dX4_onShift_25 : decode cX4_onShift 25 = .ok (.aload_n 0, 1) := by decide +kernel
theorem dX4_onShift_26 : decode cX4_onShift 26 = .ok (.getfield 12, 3) := by decide +kernel
theorem dX4_onShift_29 : decode cX4_onShift 29 = .ok (.iload_n 1, 1) := by decide +kernel
theorem dX4_onShift_30 : decode cX4_onShift 30 = .ok (.iload_n 2, 1) := by decide +kernel
theorem dX4_onShift_31 : decode cX4_onShift 31 = .ok (.invokevirtual 169, 3) := by decide +kernel
theorem dX4_onShift_34 : decode cX4_onShift 34 = .ok (.ireturn, 1) := by decide +kernel
theorem dX4_count_0 : decode cX4_count 0 = .ok (.iload_n 1, 1) := by decide +kernel
theorem dX4_count_1 : decode cX4_count 1 = .ok (.tableswitch 220 0 15 #[79, 89, 99, 109, 117, 125, 134, 143, 152, 165, 178, 186, 194, 202, 210, 215], 79) := by decide +kernel
theorem dX4_count_80 : decode cX4_count 80 = .ok (.aload_n 0, 1) := by decide +kernel
theorem dX4_count_81 : decode cX4_count 81 = .ok (.getfield 12, 3) := by decide +kernel
theorem dX4_count_84 : decode cX4_count 84 = .ok (.getfield 44, 3) := by decide +kernel
theorem dX4_count_87 : decode cX4_count 87 = .ok (.iconst 0, 1) := by decide +kernel
theorem dX4_count_88 : decode cX4_count 88 = .ok (.iaload, 1) := by decide +kernel
theorem dX4_count_89 : decode cX4_count 89 = .ok (.ireturn, 1) := by decide +kernel
theorem dX4_count_90 : decode cX4_count 90 = .ok (.aload_n 0, 1) := by decide +kernel
theorem dX4_count_91 : decode cX4_count 91 = .ok (.getfield 12, 3) := by decide +kernel
theorem dX4_count_94 : decode cX4_count 94 = .ok (.getfield 44, 3) := by decide +kernel
theorem dX4_count_97 : decode cX4_count 97 = .ok (.iconst 1, 1) := by decide +kernel
theorem dX4_count_98 : decode cX4_count 98 = .ok (.iaload, 1) := by decide +kernel
theorem dX4_count_99 : decode cX4_count 99 = .ok (.ireturn, 1) := by decide +kernel
theorem dX4_count_100 : decode cX4_count 100 = .ok (.aload_n 0, 1) := by decide +kernel
theorem dX4_count_101 : decode cX4_count 101 = .ok (.getfield 12, 3) := by decide +kernel
theorem dX4_count_104 : decode cX4_count 104 = .ok (.getfield 44, 3) := by decide +kernel
theorem dX4_count_107 : decode cX4_count 107 = .ok (.iconst 2, 1) := by decide +kernel
theorem dX4_count_108 : decode cX4_count 108 = .ok (.iaload, 1) := by decide +kernel
theorem dX4_count_109 : decode cX4_count 109 = .ok (.ireturn, 1) := by decide +kernel
theorem dX4_count_110 : decode cX4_count 110 = .ok (.aload_n 0, 1) := by decide +kernel
theorem dX4_count_111 : decode cX4_count 111 = .ok (.getfield 12, 3) := by decide +kernel
theorem dX4_count_114 : decode cX4_count 114 = .ok (.getfield 103, 3) := by decide +kernel
theorem dX4_count_117 : decode cX4_count 117 = .ok (.ireturn, 1) := by decide +kernel
theorem dX4_count_118 : decode cX4_count 118 = .ok (.aload_n 0, 1) := by decide +kernel
theorem dX4_count_119 : decode cX4_count 119 = .ok (.getfield 12, 3) := by decide +kernel
theorem dX4_count_122 : decode cX4_count 122 = .ok (.getfield 74, 3) := by decide +kernel
theorem dX4_count_125 : decode cX4_count 125 = .ok (.ireturn, 1) := by decide +kernel
theorem dX4_count_126 : decode cX4_count 126 = .ok (.aload_n 0, 1) := by decide +kernel
theorem dX4_count_127 : decode cX4_count 127 = .ok (.getfield 12, 3) := by decide +kernel
theorem dX4_count_130 : decode cX4_count 130 = .ok (.iconst 0, 1) := by decide +kernel
theorem dX4_count_131 : decode cX4_count 131 = .ok (.invokevirtual 173, 3) := by decide +kernel
theorem dX4_count_134 : decode cX4_count 134 = .ok (.ireturn, 1) := by decide +kernel
theorem dX4_count_135 : decode cX4_count 135 = .ok (.aload_n 0, 1) := by decide +kernel
theorem dX4_count_136 : decode cX4_count 136 = .ok (.getfield 12, 3) := by decide +kernel
theorem dX4_count_139 : decode cX4_count 139 = .ok (.iconst 1, 1) := by decide +kernel
theorem dX4_count_140 : decode cX4_count 140 = .ok (.invokevirtual 173, 3) := by decide +kernel
theorem dX4_count_143 : decode cX4_count 143 = .ok (.ireturn, 1) := by decide +kernel
theorem dX4_count_144 : decode cX4_count 144 = .ok (.aload_n 0, 1) := by decide +kernel
theorem dX4_count_145 : decode cX4_count 145 = .ok (.getfield 12, 3) := by decide +kernel
theorem dX4_count_148 : decode cX4_count 148 = .ok (.iconst 2, 1) := by decide +kernel
theorem dX4_count_149 : decode cX4_count 149 = .ok (.invokevirtual 173, 3) := by decide +kernel
theorem dX4_count_152 : decode cX4_count 152 = .ok (.ireturn, 1) := by decide +kernel
theorem dX4_count_153 : decode cX4_count 153 = .ok (.aload_n 0, 1) := by decide +kernel
theorem dX4_count_154 : decode cX4_count 154 = .ok (.getfield 12, 3) := by decide +kernel
theorem dX4_count_157 : decode cX4_count 157 = .ok (.getfield 118, 3) := by decide +kernel
theorem dX4_count_160 : decode cX4_count 160 = .ok (.iconst 0, 1) := by decide +kernel
theorem dX4_count_161 : decode cX4_count 161 = .ok (.aaload, 1) := by decide +kernel
theorem dX4_count_162 : decode cX4_count 162 = .ok (.getfield 176, 3) := by decide +kernel
theorem dX4_count_165 : decode cX4_count 165 = .ok (.ireturn, 1) := by decide +kernel
theorem dX4_count_166 : decode cX4_count 166 = .ok (.aload_n 0, 1) := by decide +kernel
theorem dX4_count_167 : decode cX4_count 167 = .ok (.getfield 12, 3) := by decide +kernel
theorem dX4_count_170 : decode cX4_count 170 = .ok (.getfield 118, 3) := by decide +kernel
theorem dX4_count_173 : decode cX4_count 173 = .ok (.iconst 1, 1) := by decide +kernel
theorem dX4_count_174 : decode cX4_count 174 = .ok (.aaload, 1) := by decide +kernel
theorem dX4_count_175 : decode cX4_count 175 = .ok (.getfield 176, 3) := by decide +kernel
theorem dX4_count_178 : decode cX4_count 178 = .ok (.ireturn, 1) := by decide +kernel
theorem dX4_count_179 : decode cX4_count 179 = .ok (.aload_n 0, 1) := by decide +kernel
theorem dX4_count_180 : decode cX4_count 180 = .ok (.getfield 12, 3) := by decide +kernel
theorem dX4_count_183 : decode cX4_count 183 = .ok (.invokevirtual 179, 3) := by decide +kernel
theorem dX4_count_186 : decode cX4_count 186 = .ok (.ireturn, 1) := by decide +kernel
theorem dX4_count_187 : decode cX4_count 187 = .ok (.aload_n 0, 1) := by decide +kernel
theorem dX4_count_188 : decode cX4_count 188 = .ok (.getfield 12, 3) := by decide +kernel
theorem dX4_count_191 : decode cX4_count 191 = .ok (.invokevirtual 182, 3) := by decide +kernel
theorem dX4_count_194 : decode cX4_count 194 = .ok (.ireturn, 1) := by decide +kernel
theorem dX4_count_195 : decode cX4_count 195 = .ok (.aload_n 0, 1) := by decide +kernel
theorem dX4_count_196 : decode cX4_count 196 = .ok (.getfield 12, 3) := by decide +kernel
theorem dX4_count_199 : decode cX4_count 199 = .ok (.invokevirtual 185, 3) := by decide +kernel
theorem dX4_count_202 : decode cX4_count 202 = .ok (.ireturn, 1) := by decide +kernel
theorem dX4_count_203 : decode cX4_count 203 = .ok (.aload_n 0, 1) := by decide +kernel
theorem dX4_count_204 : decode cX4_count 204 = .ok (.getfield 12, 3) := by decide +kernel
theorem dX4_count_207 : decode cX4_count 207 = .ok (.invokevirtual 188, 3) := by decide +kernel
theorem dX4_count_210 : decode cX4_count 210 = .ok (.ireturn, 1) := by decide +kernel
theorem dX4_count_211 : decode cX4_count 211 = .ok (.aload_n 0, 1) := by decide +kernel
theorem dX4_count_212 : decode cX4_count 212 = .ok (.getfield 83, 3) := by decide +kernel
theorem dX4_count_215 : decode cX4_count 215 = .ok (.ireturn, 1) := by decide +kernel
theorem dX4_count_216 : decode cX4_count 216 = .ok (.aload_n 0, 1) := by decide +kernel
theorem dX4_count_217 : decode cX4_count 217 = .ok (.getfield 191, 3) := by decide +kernel
theorem dX4_count_220 : decode cX4_count 220 = .ok (.ireturn, 1) := by decide +kernel
theorem dX4_count_221 : decode cX4_count 221 = .ok (.bipush (-2), 2) := by decide +kernel
theorem dX4_count_223 : decode cX4_count 223 = .ok (.ireturn, 1) := by decide +kernel
theorem dX4_untilCome_0 : decode cX4_untilCome 0 = .ok (.aload_n 0, 1) := by decide +kernel
theorem dX4_untilCome_1 : decode cX4_untilCome 1 = .ok (.getfield 12, 3) := by decide +kernel
theorem dX4_untilCome_4 : decode cX4_untilCome 4 = .ok (.iload_n 1, 1) := by decide +kernel
theorem dX4_untilCome_5 : decode cX4_untilCome 5 = .ok (.invokevirtual 86, 3) := by decide +kernel
theorem dX4_untilCome_8 : decode cX4_untilCome 8 = .ok (.ifCond .ne 5, 3) := by decide +kernel
theorem dX4_untilCome_11 : decode cX4_untilCome 11 = .ok (.iconst (-1), 1) := by decide +kernel
theorem dX4_untilCome_12 : decode cX4_untilCome 12 = .ok (.ireturn, 1) := by decide +kernel
theorem dX4_untilCome_13 : decode cX4_untilCome 13 = .ok (.aload_n 0, 1) := by decide +kernel
theorem dX4_untilCome_14 : decode cX4_untilCome 14 = .ok (.getfield 16, 3) := by decide +kernel
theorem dX4_untilCome_17 : decode cX4_untilCome 17 = .ok (.aload_n 0, 1) := by decide +kernel
theorem dX4_untilCome_18 : decode cX4_untilCome 18 = .ok (.getfield 12, 3) := by decide +kernel
theorem dX4_untilCome_21 : decode cX4_untilCome 21 = .ok (.invokevirtual 194, 3) := by decide +kernel
theorem dX4_untilCome_24 : decode cX4_untilCome 24 = .ok (.aload_n 0, 1) := by decide +kernel
theorem dX4_untilCome_25 : decode cX4_untilCome 25 = .ok (.getfield 16, 3) := by decide +kernel
theorem dX4_untilCome_28 : decode cX4_untilCome 28 = .ok (.getfield 90, 3) := by decide +kernel
theorem dX4_untilCome_31 : decode cX4_untilCome 31 = .ok (.iload_n 1, 1) := by decide +kernel
theorem dX4_untilCome_32 : decode cX4_untilCome 32 = .ok (.aaload, 1) := by decide +kernel
theorem dX4_untilCome_33 : decode cX4_untilCome 33 = .ok (.astore_n 2, 1) := by decide +kernel
theorem dX4_untilCome_34 : decode cX4_untilCome 34 = .ok (.iconst 0, 1) := by decide +kernel
theorem dX4_untilCome_35 : decode cX4_untilCome 35 = .ok (.istore_n 3, 1) := by decide +kernel
theorem dX4_untilCome_36 : decode cX4_untilCome 36 = .ok (.iload_n 3, 1) := by decide +kernel
theorem dX4_untilCome_37 : decode cX4_untilCome 37 = .ok (.bipush 100, 2) := by decide +kernel
theorem dX4_untilCome_39 : decode cX4_untilCome 39 = .ok (.if_icmp .ge 24, 3) := by decide +kernel
theorem dX4_untilCome_42 : decode cX4_untilCome 42 = .ok (.aload_n 2, 1) := by decide +kernel
theorem dX4_untilCome_43 : decode cX4_untilCome 43 = .ok (.getfield 94, 3) := by decide +kernel
theorem dX4_untilCome_46 : decode cX4_untilCome 46 = .ok (.ifCond .ne 17, 3) := by decide +kernel
theorem dX4_untilCome_49 : decode cX4_untilCome 49 = .ok (.aload_n 0, 1) := by decide +kernel
theorem dX4_untilCome_50 : decode cX4_untilCome 50 = .ok (.getfield 16, 3) := by decide +kernel
theorem dX4_untilCome_53 : decode cX4_untilCome 53 = .ok (.invokevirtual 198, 3) := by decide +kernel
theorem dX4_untilCome_56 : decode cX4_untilCome 56 = .ok (.pop, 1) := by decide +kernel
theorem dX4_untilCome_57 : decode cX4_untilCome 57 = .ok (.iinc 3 1, 3) := by decide +kernel
theorem dX4_untilCome_60 : decode cX4_untilCome 60 = .ok (.goto (-24), 3) := by decide +kernel
theorem dX4_untilCome_63 : decode cX4_untilCome 63 = .ok (.aload_n 2, 1) := by decide +kernel
theorem dX4_untilCome_64 : decode cX4_untilCome 64 = .ok (.getfield 94, 3) := by decide +kernel
theorem dX4_untilCome_67 : decode cX4_untilCome 67 = .ok (.iconst 1, 1) := by decide +kernel
theorem dX4_untilCome_68 : decode cX4_untilCome 68 = .ok (.if_icmp .ne 7, 3) := by decide +kernel
theorem dX4_untilCome_71 : decode cX4_untilCome 71 = .ok (.iload_n 3, 1) := by decide +kernel
theorem dX4_untilCome_72 : decode cX4_untilCome 72 = .ok (.goto 5, 3) := by decide +kernel
theorem dX4_untilCome_75 : decode cX4_untilCome 75 = .ok (.bipush (-6), 2) := by decide +kernel
theorem dX4_untilCome_77 : decode cX4_untilCome 77 = .ok (.ireturn, 1) := by decide +kernel
theorem dX4_ifPassed_0 : decode cX4_ifPassed 0 = .ok (.iload_n 1, 1) := by decide +kernel
theorem dX4_ifPassed_1 : decode cX4_ifPassed 1 = .ok (.iconst 1, 1) := by decide +kernel
theorem dX4_ifPassed_2 : decode cX4_ifPassed 2 = .ok (.if_icmp .lt 18, 3) := by decide +kernel
theorem dX4_ifPassed_5 : decode cX4_ifPassed 5 = .ok (.iload_n 1, 1) := by decide +kernel
theorem dX4_ifPassed_6 : decode cX4_ifPassed 6 = .ok (.bipush 100, 2) := by decide +kernel
theorem dX4_ifPassed_8 : decode cX4_ifPassed 8 = .ok (.if_icmp .gt 12, 3) := by decide +kernel
theorem dX4_ifPassed_11 : decode cX4_ifPassed 11 = .ok (.iload_n 2, 1) := by decide +kernel
theorem dX4_ifPassed_12 : decode cX4_ifPassed 12 = .ok (.ifCond .lt 8, 3) := by decide +kernel
theorem dX4_ifPassed_15 : decode cX4_ifPassed 15 = .ok (.iload_n 2, 1) := by decide +kernel
theorem dX4_ifPassed_16 : decode cX4_ifPassed 16 = .ok (.iconst 2, 1) := by decide +kernel
theorem dX4_ifPassed_17 : decode cX4_ifPassed 17 = .ok (.if_icmp .le 6, 3) := by decide +kernel
theorem dX4_ifPassed_20 : decode cX4_ifPassed 20 = .ok (.bipush (-2), 2) := by decide +kernel
theorem dX4_ifPassed_22 : decode cX4_ifPassed 22 = .ok (.ireturn, 1) := by decide +kernel
theorem dX4_ifPassed_23 : decode cX4_ifPassed 23 = .ok (.aload_n 0, 1) := by decide +kernel
theorem dX4_ifPassed_24 : decode cX4_ifPassed 24 = .ok (.getfield 16, 3) := by decide +kernel
theorem dX4_ifPassed_27 : decode cX4_ifPassed 27 = .ok (.aload_n 0, 1) := by decide +kernel
theorem dX4_ifPassed_28 : decode cX4_ifPassed 28 = .ok (.getfield 12, 3) := by decide +kernel
theorem dX4_ifPassed_31 : decode cX4_ifPassed 31 = .ok (.invokevirtual 194, 3) := by decide +kernel
theorem dX4_ifPassed_34 : decode cX4_ifPassed 34 = .ok (.aload_n 0, 1) := by decide +kernel
theorem dX4_ifPassed_35 : decode cX4_ifPassed 35 = .ok (.getfield 16, 3) := by decide +kernel
theorem dX4_ifPassed_38 : decode cX4_ifPassed 38 = .ok (.iload_n 1, 1) := by decide +kernel
theorem dX4_ifPassed_39 : decode cX4_ifPassed 39 = .ok (.invokevirtual 109, 3) := by decide +kernel
theorem dX4_ifPassed_42 : decode cX4_ifPassed 42 = .ok (.istore_n 3, 1) := by decide +kernel
theorem dX4_ifPassed_43 : decode cX4_ifPassed 43 = .ok (.iload_n 2, 1) := by decide +kernel
theorem dX4_ifPassed_44 : decode cX4_ifPassed 44 = .ok (.lookupswitch 48 #[(0, 28), (1, 30)], 28) := by decide +kernel
theorem dX4_ifPassed_72 : decode cX4_ifPassed 72 = .ok (.iload_n 3, 1) := by decide +kernel
theorem dX4_ifPassed_73 : decode cX4_ifPassed 73 = .ok (.ireturn, 1) := by decide +kernel
theorem dX4_ifPassed_74 : decode cX4_ifPassed 74 = .ok (.aload_n 0, 1) := by decide +kernel
theorem dX4_ifPassed_75 : decode cX4_ifPassed 75 = .ok (.getfield 16, 3) := by decide +kernel
theorem dX4_ifPassed_78 : decode cX4_ifPassed 78 = .ok (.iconst 2, 1) := by decide +kernel
theorem dX4_ifPassed_79 : decode cX4_ifPassed 79 = .ok (.invokevirtual 173, 3) := by decide +kernel
theorem dX4_ifPassed_82 : decode cX4_ifPassed 82 = .ok (.aload_n 0, 1) := by decide +kernel
theorem dX4_ifPassed_83 : decode cX4_ifPassed 83 = .ok (.getfield 12, 3) := by decide +kernel
theorem dX4_ifPassed_86 : decode cX4_ifPassed 86 = .ok (.iconst 2, 1) := by decide +kernel
theorem dX4_ifPassed_87 : decode cX4_ifPassed 87 = .ok (.invokevirtual 173, 3) := by decide +kernel
theorem dX4_ifPassed_90 : decode cX4_ifPassed 90 = .ok (.isub, 1) := by decide +kernel
theorem dX4_ifPassed_91 : decode cX4_ifPassed 91 = .ok (.ireturn, 1) := by decide +kernel
theorem dX4_ifPassed_92 : decode cX4_ifPassed 92 = .ok (.aload_n 0, 1) := by decide +kernel
theorem dX4_ifPassed_93 : decode cX4_ifPassed 93 = .ok (.getfield 16, 3) := by decide +kernel
theorem dX4_ifPassed_96 : decode cX4_ifPassed 96 = .ok (.invokevirtual 185, 3) := by decide +kernel
theorem dX4_ifPassed_99 : decode cX4_ifPassed 99 = .ok (.aload_n 0, 1) := by decide +kernel
theorem dX4_ifPassed_100 : decode cX4_ifPassed 100 = .ok (.getfield 12, 3) := by decide +kernel
theorem dX4_ifPassed_103 : decode cX4_ifPassed 103 = .ok (.invokevirtual 185, 3) := by decide +kernel
theorem dX4_ifPassed_106 : decode cX4_ifPassed 106 = .ok (.isub, 1) := by decide +kernel
theorem dX4_ifPassed_107 : decode cX4_ifPassed 107 = .ok (.ireturn, 1) := by decide +kernel
theorem dX4_bestTrade_0 : decode cX4_bestTrade 0 = .ok (.aload_n 0, 1) := by decide +kernel
theorem dX4_bestTrade_1 : decode cX4_bestTrade 1 = .ok (.getfield 16, 3) := by decide +kernel
theorem dX4_bestTrade_4 : decode cX4_bestTrade 4 = .ok (.aload_n 0, 1) := by decide +kernel
theorem dX4_bestTrade_5 : decode cX4_bestTrade 5 = .ok (.getfield 12, 3) := by decide +kernel
theorem dX4_bestTrade_8 : decode cX4_bestTrade 8 = .ok (.invokevirtual 194, 3) := by decide +kernel
theorem dX4_bestTrade_11 : decode cX4_bestTrade 11 = .ok (.aload_n 0, 1) := by decide +kernel
theorem dX4_bestTrade_12 : decode cX4_bestTrade 12 = .ok (.getfield 16, 3) := by decide +kernel
theorem dX4_bestTrade_15 : decode cX4_bestTrade 15 = .ok (.iconst 4, 1) := by decide +kernel
theorem dX4_bestTrade_16 : decode cX4_bestTrade 16 = .ok (.invokevirtual 109, 3) := by decide +kernel
theorem dX4_bestTrade_19 : decode cX4_bestTrade 19 = .ok (.istore_n 1, 1) := by decide +kernel
theorem dX4_bestTrade_20 : decode cX4_bestTrade 20 = .ok (.bipush (-6), 2) := by decide +kernel
theorem dX4_bestTrade_22 : decode cX4_bestTrade 22 = .ok (.istore_n 2, 1) := by decide +kernel
theorem dX4_bestTrade_23 : decode cX4_bestTrade 23 = .ok (.iconst 0, 1) := by decide +kernel
theorem dX4_bestTrade_24 : decode cX4_bestTrade 24 = .ok (.istore_n 3, 1) := by decide +kernel
theorem dX4_bestTrade_25 : decode cX4_bestTrade 25 = .ok (.iload_n 3, 1) := by decide +kernel
theorem dX4_bestTrade_26 : decode cX4_bestTrade 26 = .ok (.bipush 8, 2) := by decide +kernel
theorem dX4_bestTrade_28 : decode cX4_bestTrade 28 = .ok (.if_icmp .ge 75, 3) := by decide +kernel
theorem dX4_bestTrade_31 : decode cX4_bestTrade 31 = .ok (.iload_n 3, 1) := by decide +kernel
theorem dX4_bestTrade_32 : decode cX4_bestTrade 32 = .ok (.iconst 1, 1) := by decide +kernel
theorem dX4_bestTrade_33 : decode cX4_bestTrade 33 = .ok (.iadd, 1) := by decide +kernel
theorem dX4_bestTrade_34 : decode cX4_bestTrade 34 = .ok (.istore 4, 2) := by decide +kernel
theorem dX4_bestTrade_36 : decode cX4_bestTrade 36 = .ok (.iload 4, 2) := by decide +kernel
theorem dX4_bestTrade_38 : decode cX4_bestTrade 38 = .ok (.bipush 8, 2) := by decide +kernel
theorem dX4_bestTrade_40 : decode cX4_bestTrade 40 = .ok (.if_icmp .ge 57, 3) := by decide +kernel
theorem dX4_bestTrade_43 : decode cX4_bestTrade 43 = .ok (.aload_n 0, 1) := by decide +kernel
theorem dX4_bestTrade_44 : decode cX4_bestTrade 44 = .ok (.getfield 16, 3) := by decide +kernel
theorem dX4_bestTrade_47 : decode cX4_bestTrade 47 = .ok (.aload_n 0, 1) := by decide +kernel
theorem dX4_bestTrade_48 : decode cX4_bestTrade 48 = .ok (.getfield 12, 3) := by decide +kernel
theorem dX4_bestTrade_51 : decode cX4_bestTrade 51 = .ok (.invokevirtual 194, 3) := by decide +kernel
theorem dX4_bestTrade_54 : decode cX4_bestTrade 54 = .ok (.aload_n 0, 1) := by decide +kernel
theorem dX4_bestTrade_55 : decode cX4_bestTrade 55 = .ok (.getfield 16, 3) := by decide +kernel
theorem dX4_bestTrade_58 : decode cX4_bestTrade 58 = .ok (.iload_n 3, 1) := by decide +kernel
theorem dX4_bestTrade_59 : decode cX4_bestTrade 59 = .ok (.iload 4, 2) := by decide +kernel
theorem dX4_bestTrade_61 : decode cX4_bestTrade 61 = .ok (.invokevirtual 66, 3) := by decide +kernel
theorem dX4_bestTrade_64 : decode cX4_bestTrade 64 = .ok (.aload_n 0, 1) := by decide +kernel
theorem dX4_bestTrade_65 : decode cX4_bestTrade 65 = .ok (.getfield 16, 3) := by decide +kernel
theorem dX4_bestTrade_68 : decode cX4_bestTrade 68 = .ok (.iconst 4, 1) := by decide +kernel
theorem dX4_bestTrade_69 : decode cX4_bestTrade 69 = .ok (.invokevirtual 109, 3) := by decide +kernel
theorem dX4_bestTrade_72 : decode cX4_bestTrade 72 = .ok (.istore 5, 2) := by decide +kernel
theorem dX4_bestTrade_74 : decode cX4_bestTrade 74 = .ok (.iload 5, 2) := by decide +kernel
theorem dX4_bestTrade_76 : decode cX4_bestTrade 76 = .ok (.iload_n 1, 1) := by decide +kernel
theorem dX4_bestTrade_77 : decode cX4_bestTrade 77 = .ok (.if_icmp .le 14, 3) := by decide +kernel
theorem dX4_bestTrade_80 : decode cX4_bestTrade 80 = .ok (.iload 5, 2) := by decide +kernel
theorem dX4_bestTrade_82 : decode cX4_bestTrade 82 = .ok (.istore_n 1, 1) := by decide +kernel
theorem dX4_bestTrade_83 : decode cX4_bestTrade 83 = .ok (.bipush 8, 2) := by decide +kernel
theorem dX4_bestTrade_85 : decode cX4_bestTrade 85 = .ok (.iload_n 3, 1) := by decide +kernel
theorem dX4_bestTrade_86 : decode cX4_bestTrade 86 = .ok (.imul, 1) := by decide +kernel
theorem dX4_bestTrade_87 : decode cX4_bestTrade 87 = .ok (.iload 4, 2) := by decide +kernel
theorem dX4_bestTrade_89 : decode cX4_bestTrade 89 = .ok (.iadd, 1) := by decide +kernel
theorem dX4_bestTrade_90 : decode cX4_bestTrade 90 = .ok (.istore_n 2, 1) := by decide +kernel
theorem dX4_bestTrade_91 : decode cX4_bestTrade 91 = .ok (.iinc 4 1, 3) := by decide +kernel
theorem dX4_bestTrade_94 : decode cX4_bestTrade 94 = .ok (.goto (-58), 3) := by decide +kernel
theorem dX4_bestTrade_97 : decode cX4_bestTrade 97 = .ok (.iinc 3 1, 3) := by decide +kernel
theorem dX4_bestTrade_100 : decode cX4_bestTrade 100 = .ok (.goto (-75), 3) := by decide +kernel
theorem dX4_bestTrade_103 : decode cX4_bestTrade 103 = .ok (.iload_n 2, 1) := by decide +kernel
theorem dX4_bestTrade_104 : decode cX4_bestTrade 104 = .ok (.ireturn, 1) := by decide +kernel
theorem dX4_leastLimit_0 : decode cX4_leastLimit 0 = .ok (.iconst 0, 1) := by decide +kernel
theorem dX4_leastLimit_1 : decode cX4_leastLimit 1 = .ok (.istore_n 1, 1) := by decide +kernel
theorem dX4_leastLimit_2 : decode cX4_leastLimit 2 = .ok (.iload_n 1, 1) := by decide +kernel
theorem dX4_leastLimit_3 : decode cX4_leastLimit 3 = .ok (.bipush 8, 2) := by decide +kernel
theorem dX4_leastLimit_5 : decode cX4_leastLimit 5 = .ok (.if_icmp .ge 17, 3) := by decide +kernel
theorem dX4_leastLimit_8 : decode cX4_leastLimit 8 = .ok (.aload_n 0, 1) := by decide +kernel
theorem dX4_leastLimit_9 : decode cX4_leastLimit 9 = .ok (.iload_n 1, 1) := by decide +kernel
theorem dX4_leastLimit_10 : decode cX4_leastLimit 10 = .ok (.invokevirtual 201, 3) := by decide +kernel
theorem dX4_leastLimit_13 : decode cX4_leastLimit 13 = .ok (.ifCond .eq 9, 3) := by decide +kernel
theorem dX4_leastLimit_16 : decode cX4_leastLimit 16 = .ok (.iinc 1 1, 3) := by decide +kernel
theorem dX4_leastLimit_19 : decode cX4_leastLimit 19 = .ok (.goto (-17), 3) := by decide +kernel
theorem dX4_leastLimit_22 : decode cX4_leastLimit 22 = .ok (.iload_n 1, 1) := by decide +kernel
theorem dX4_leastLimit_23 : decode cX4_leastLimit 23 = .ok (.ireturn, 1) := by decide +kernel
theorem dX4_turnsBackWith_0 : decode cX4_turnsBackWith 0 = .ok (.aload_n 0, 1) := by decide +kernel
theorem dX4_turnsBackWith_1 : decode cX4_turnsBackWith 1 = .ok (.getfield 16, 3) := by decide +kernel
theorem dX4_turnsBackWith_4 : decode cX4_turnsBackWith 4 = .ok (.aload_n 0, 1) := by decide +kernel
theorem dX4_turnsBackWith_5 : decode cX4_turnsBackWith 5 = .ok (.getfield 12, 3) := by decide +kernel
theorem dX4_turnsBackWith_8 : decode cX4_turnsBackWith 8 = .ok (.invokevirtual 194, 3) := by decide +kernel
theorem dX4_turnsBackWith_11 : decode cX4_turnsBackWith 11 = .ok (.aload_n 0, 1) := by decide +kernel
theorem dX4_turnsBackWith_12 : decode cX4_turnsBackWith 12 = .ok (.getfield 16, 3) := by decide +kernel
theorem dX4_turnsBackWith_15 : decode cX4_turnsBackWith 15 = .ok (.getfield 44, 3) := by decide +kernel
theorem dX4_turnsBackWith_18 : decode cX4_turnsBackWith 18 = .ok (.iconst 1, 1) := by decide +kernel
theorem dX4_turnsBackWith_19 : decode cX4_turnsBackWith 19 = .ok (.iload_n 1, 1) := by decide +kernel
theorem dX4_turnsBackWith_20 : decode cX4_turnsBackWith 20 = .ok (.iastore, 1) := by decide +kernel
theorem dX4_turnsBackWith_21 : decode cX4_turnsBackWith 21 = .ok (.aload_n 0, 1) := by decide +kernel
theorem dX4_turnsBackWith_22 : decode cX4_turnsBackWith 22 = .ok (.getfield 16, 3) := by decide +kernel
theorem dX4_turnsBackWith_25 : decode cX4_turnsBackWith 25 = .ok (.invokevirtual 204, 3) := by decide +kernel
theorem dX4_turnsBackWith_28 : decode cX4_turnsBackWith 28 = .ok (.istore_n 2, 1) := by decide +kernel
theorem dX4_turnsBackWith_29 : decode cX4_turnsBackWith 29 = .ok (.iconst 0, 1) := by decide +kernel
theorem dX4_turnsBackWith_30 : decode cX4_turnsBackWith 30 = .ok (.istore_n 3, 1) := by decide +kernel
theorem dX4_turnsBackWith_31 : decode cX4_turnsBackWith 31 = .ok (.iload_n 3, 1) := by decide +kernel
theorem dX4_turnsBackWith_32 : decode cX4_turnsBackWith 32 = .ok (.bipush 100, 2) := by decide +kernel
theorem dX4_turnsBackWith_34 : decode cX4_turnsBackWith 34 = .ok (.if_icmp .ge 30, 3) := by decide +kernel
theorem dX4_turnsBackWith_37 : decode cX4_turnsBackWith 37 = .ok (.aload_n 0, 1) := by decide +kernel
theorem dX4_turnsBackWith_38 : decode cX4_turnsBackWith 38 = .ok (.getfield 16, 3) := by decide +kernel
theorem dX4_turnsBackWith_41 : decode cX4_turnsBackWith 41 = .ok (.invokevirtual 198, 3) := by decide +kernel
theorem dX4_turnsBackWith_44 : decode cX4_turnsBackWith 44 = .ok (.pop, 1) := by decide +kernel
theorem dX4_turnsBackWith_45 : decode cX4_turnsBackWith 45 = .ok (.aload_n 0, 1) := by decide +kernel
theorem dX4_turnsBackWith_46 : decode cX4_turnsBackWith 46 = .ok (.getfield 16, 3) := by decide +kernel
theorem dX4_turnsBackWith_49 : decode cX4_turnsBackWith 49 = .ok (.invokevirtual 204, 3) := by decide +kernel
theorem dX4_turnsBackWith_52 : decode cX4_turnsBackWith 52 = .ok (.iload_n 2, 1) := by decide +kernel
theorem dX4_turnsBackWith_53 : decode cX4_turnsBackWith 53 = .ok (.if_icmp .le 5, 3) := by decide +kernel
theorem dX4_turnsBackWith_56 : decode cX4_turnsBackWith 56 = .ok (.iconst 1, 1) := by decide +kernel
theorem dX4_turnsBackWith_57 : decode cX4_turnsBackWith 57 = .ok (.ireturn, 1) := by decide +kernel
theorem dX4_turnsBackWith_58 : decode cX4_turnsBackWith 58 = .ok (.iinc 3 1, 3) := by decide +kernel
theorem dX4_turnsBackWith_61 : decode cX4_turnsBackWith 61 = .ok (.goto (-30), 3) := by decide +kernel
theorem dX4_turnsBackWith_64 : decode cX4_turnsBackWith 64 = .ok (.iconst 0, 1) := by decide +kernel
theorem dX4_turnsBackWith_65 : decode cX4_turnsBackWith 65 = .ok (.ireturn, 1) := by decide +kernel
theorem dX4_put_0 : decode cX4_put 0 = .ok (.lload_n 1, 1) := by decide +kernel
theorem dX4_put_1 : decode cX4_put 1 = .ok (.invokestatic 207, 3) := by decide +kernel
theorem dX4_put_4 : decode cX4_put 4 = .ok (.istore_n 3, 1) := by decide +kernel
theorem dX4_put_5 : decode cX4_put 5 = .ok (.iload_n 3, 1) := by decide +kernel
theorem dX4_put_6 : decode cX4_put 6 = .ok (.ifCond .ne 6, 3) := by decide +kernel
theorem dX4_put_9 : decode cX4_put 9 = .ok (.bipush (-2), 2) := by decide +kernel
theorem dX4_put_11 : decode cX4_put 11 = .ok (.ireturn, 1) := by decide +kernel
theorem dX4_put_12 : decode cX4_put 12 = .ok (.aload_n 0, 1) := by decide +kernel
theorem dX4_put_13 : decode cX4_put 13 = .ok (.getfield 83, 3) := by decide +kernel
theorem dX4_put_16 : decode cX4_put 16 = .ok (.iload_n 3, 1) := by decide +kernel
theorem dX4_put_17 : decode cX4_put 17 = .ok (.iadd, 1) := by decide +kernel
theorem dX4_put_18 : decode cX4_put 18 = .ok (.bipush 60, 2) := by decide +kernel
theorem dX4_put_20 : decode cX4_put 20 = .ok (.if_icmp .le 6, 3) := by decide +kernel
theorem dX4_put_23 : decode cX4_put 23 = .ok (.bipush (-4), 2) := by decide +kernel
theorem dX4_put_25 : decode cX4_put 25 = .ok (.ireturn, 1) := by decide +kernel
theorem dX4_put_26 : decode cX4_put 26 = .ok (.iload_n 3, 1) := by decide +kernel
theorem dX4_put_27 : decode cX4_put 27 = .ok (.iconst 1, 1) := by decide +kernel
theorem dX4_put_28 : decode cX4_put 28 = .ok (.isub, 1) := by decide +kernel
theorem dX4_put_29 : decode cX4_put 29 = .ok (.istore 4, 2) := by decide +kernel
theorem dX4_put_31 : decode cX4_put 31 = .ok (.iload 4, 2) := by decide +kernel
theorem dX4_put_33 : decode cX4_put 33 = .ok (.ifCond .lt 41, 3) := by decide +kernel
theorem dX4_put_36 : decode cX4_put 36 = .ok (.aload_n 0, 1) := by decide +kernel
theorem dX4_put_37 : decode cX4_put 37 = .ok (.getfield 30, 3) := by decide +kernel
theorem dX4_put_40 : decode cX4_put 40 = .ok (.aload_n 0, 1) := by decide +kernel
theorem dX4_put_41 : decode cX4_put 41 = .ok (.getfield 83, 3) := by decide +kernel
theorem dX4_put_44 : decode cX4_put 44 = .ok (.lload_n 1, 1) := by decide +kernel
theorem dX4_put_45 : decode cX4_put 45 = .ok (.bipush 8, 2) := by decide +kernel
theorem dX4_put_47 : decode cX4_put 47 = .ok (.iload 4, 2) := by decide +kernel
theorem dX4_put_49 : decode cX4_put 49 = .ok (.imul, 1) := by decide +kernel
theorem dX4_put_50 : decode cX4_put 50 = .ok (.lushr, 1) := by decide +kernel
theorem dX4_put_51 : decode cX4_put 51 = .ok (.ldc2_w 211, 3) := by decide +kernel
theorem dX4_put_54 : decode cX4_put 54 = .ok (.land, 1) := by decide +kernel
theorem dX4_put_55 : decode cX4_put 55 = .ok (.l2i, 1) := by decide +kernel
theorem dX4_put_56 : decode cX4_put 56 = .ok (.i2c, 1) := by decide +kernel
theorem dX4_put_57 : decode cX4_put 57 = .ok (.castore, 1) := by decide +kernel
theorem dX4_put_58 : decode cX4_put 58 = .ok (.aload_n 0, 1) := by decide +kernel
theorem dX4_put_59 : decode cX4_put 59 = .ok (.dup, 1) := by decide +kernel
theorem dX4_put_60 : decode cX4_put 60 = .ok (.getfield 83, 3) := by decide +kernel
theorem dX4_put_63 : decode cX4_put 63 = .ok (.iconst 1, 1) := by decide +kernel
theorem dX4_put_64 : decode cX4_put 64 = .ok (.iadd, 1) := by decide +kernel
theorem dX4_put_65 : decode cX4_put 65 = .ok (.putfield 83, 3) := by decide +kernel
theorem dX4_put_68 : decode cX4_put 68 = .ok (.iinc 4 (-1), 3) := by decide +kernel
theorem dX4_put_71 : decode cX4_put 71 = .ok (.goto (-40), 3) := by decide +kernel
theorem dX4_put_74 : decode cX4_put 74 = .ok (.aload_n 0, 1) := by decide +kernel
theorem dX4_put_75 : decode cX4_put 75 = .ok (.getfield 83, 3) := by decide +kernel
theorem dX4_put_78 : decode cX4_put 78 = .ok (.ireturn, 1) := by decide +kernel
theorem dX4_lengthOf_0 : decode cX4_lengthOf 0 = .ok (.iconst 0, 1) := by decide +kernel
theorem dX4_lengthOf_1 : decode cX4_lengthOf 1 = .ok (.istore_n 2, 1) := by decide +kernel
theorem dX4_lengthOf_2 : decode cX4_lengthOf 2 = .ok (.lload_n 0, 1) := by decide +kernel
theorem dX4_lengthOf_3 : decode cX4_lengthOf 3 = .ok (.lstore_n 3, 1) := by decide +kernel
theorem dX4_lengthOf_4 : decode cX4_lengthOf 4 = .ok (.iload_n 2, 1) := by decide +kernel
theorem dX4_lengthOf_5 : decode cX4_lengthOf 5 = .ok (.bipush 8, 2) := by decide +kernel
theorem dX4_lengthOf_7 : decode cX4_lengthOf 7 = .ok (.if_icmp .ge 44, 3) := by decide +kernel
theorem dX4_lengthOf_10 : decode cX4_lengthOf 10 = .ok (.lload_n 3, 1) := by decide +kernel
theorem dX4_lengthOf_11 : decode cX4_lengthOf 11 = .ok (.lconst 0, 1) := by decide +kernel
theorem dX4_lengthOf_12 : decode cX4_lengthOf 12 = .ok (.lcmp, 1) := by decide +kernel
theorem dX4_lengthOf_13 : decode cX4_lengthOf 13 = .ok (.ifCond .eq 38, 3) := by decide +kernel
theorem dX4_lengthOf_16 : decode cX4_lengthOf 16 = .ok (.lload_n 3, 1) := by decide +kernel
theorem dX4_lengthOf_17 : decode cX4_lengthOf 17 = .ok (.ldc2_w 211, 3) := by decide +kernel
theorem dX4_lengthOf_20 : decode cX4_lengthOf 20 = .ok (.land, 1) := by decide +kernel
theorem dX4_lengthOf_21 : decode cX4_lengthOf 21 = .ok (.l2i, 1) := by decide +kernel
theorem dX4_lengthOf_22 : decode cX4_lengthOf 22 = .ok (.istore 5, 2) := by decide +kernel
theorem dX4_lengthOf_24 : decode cX4_lengthOf 24 = .ok (.iload 5, 2) := by decide +kernel
theorem dX4_lengthOf_26 : decode cX4_lengthOf 26 = .ok (.bipush 33, 2) := by decide +kernel
theorem dX4_lengthOf_28 : decode cX4_lengthOf 28 = .ok (.if_icmp .lt 10, 3) := by decide +kernel
theorem dX4_lengthOf_31 : decode cX4_lengthOf 31 = .ok (.iload 5, 2) := by decide +kernel
theorem dX4_lengthOf_33 : decode cX4_lengthOf 33 = .ok (.bipush 126, 2) := by decide +kernel
theorem dX4_lengthOf_35 : decode cX4_lengthOf 35 = .ok (.if_icmp .le 5, 3) := by decide +kernel
theorem dX4_lengthOf_38 : decode cX4_lengthOf 38 = .ok (.iconst 0, 1) := by decide +kernel
theorem dX4_lengthOf_39 : decode cX4_lengthOf 39 = .ok (.ireturn, 1) := by decide +kernel
theorem dX4_lengthOf_40 : decode cX4_lengthOf 40 = .ok (.lload_n 3, 1) := by decide +kernel
theorem dX4_lengthOf_41 : decode cX4_lengthOf 41 = .ok (.bipush 8, 2) := by decide +kernel
theorem dX4_lengthOf_43 : decode cX4_lengthOf 43 = .ok (.lushr, 1) := by decide +kernel
theorem dX4_lengthOf_44 : decode cX4_lengthOf 44 = .ok (.lstore_n 3, 1) := by decide +kernel
theorem dX4_lengthOf_45 : decode cX4_lengthOf 45 = .ok (.iinc 2 1, 3) := by decide +kernel
theorem dX4_lengthOf_48 : decode cX4_lengthOf 48 = .ok (.goto (-44), 3) := by decide +kernel
theorem dX4_lengthOf_51 : decode cX4_lengthOf 51 = .ok (.iload_n 2, 1) := by decide +kernel
theorem dX4_lengthOf_52 : decode cX4_lengthOf 52 = .ok (.ireturn, 1) := by decide +kernel
theorem dX4_wipe_0 : decode cX4_wipe 0 = .ok (.aload_n 0, 1) := by decide +kernel
theorem dX4_wipe_1 : decode cX4_wipe 1 = .ok (.getfield 83, 3) := by decide +kernel
theorem dX4_wipe_4 : decode cX4_wipe 4 = .ok (.istore_n 1, 1) := by decide +kernel
theorem dX4_wipe_5 : decode cX4_wipe 5 = .ok (.aload_n 0, 1) := by decide +kernel
theorem dX4_wipe_6 : decode cX4_wipe 6 = .ok (.iconst 0, 1) := by decide +kernel
theorem dX4_wipe_7 : decode cX4_wipe 7 = .ok (.putfield 83, 3) := by decide +kernel
theorem dX4_wipe_10 : decode cX4_wipe 10 = .ok (.iload_n 1, 1) := by decide +kernel
theorem dX4_wipe_11 : decode cX4_wipe 11 = .ok (.ireturn, 1) := by decide +kernel
theorem dX4_faultOfPad_0 : decode cX4_faultOfPad 0 = .ok (.iconst 0, 1) := by decide +kernel
theorem dX4_faultOfPad_1 : decode cX4_faultOfPad 1 = .ok (.istore_n 1, 1) := by decide +kernel
theorem dX4_faultOfPad_2 : decode cX4_faultOfPad 2 = .ok (.iconst 0, 1) := by decide +kernel
theorem dX4_faultOfPad_3 : decode cX4_faultOfPad 3 = .ok (.istore_n 2, 1) := by decide +kernel
theorem dX4_faultOfPad_4 : decode cX4_faultOfPad 4 = .ok (.iload_n 2, 1) := by decide +kernel
theorem dX4_faultOfPad_5 : decode cX4_faultOfPad 5 = .ok (.aload_n 0, 1) := by decide +kernel
theorem dX4_faultOfPad_6 : decode cX4_faultOfPad 6 = .ok (.getfield 83, 3) := by decide +kernel
theorem dX4_faultOfPad_9 : decode cX4_faultOfPad 9 = .ok (.if_icmp .ge 27, 3) := by decide +kernel
theorem dX4_faultOfPad_12 : decode cX4_faultOfPad 12 = .ok (.iload_n 1, 1) := by decide +kernel
theorem dX4_faultOfPad_13 : decode cX4_faultOfPad 13 = .ok (.aload_n 0, 1) := by decide +kernel
theorem dX4_faultOfPad_14 : decode cX4_faultOfPad 14 = .ok (.getfield 30, 3) := by decide +kernel
theorem dX4_faultOfPad_17 : decode cX4_faultOfPad 17 = .ok (.iload_n 2, 1) := by decide +kernel
theorem dX4_faultOfPad_18 : decode cX4_faultOfPad 18 = .ok (.caload, 1) := by decide +kernel
theorem dX4_faultOfPad_19 : decode cX4_faultOfPad 19 = .ok (.invokestatic 213, 3) := by decide +kernel
theorem dX4_faultOfPad_22 : decode cX4_faultOfPad 22 = .ok (.istore_n 1, 1) := by decide +kernel
theorem dX4_faultOfPad_23 : decode cX4_faultOfPad 23 = .ok (.iload_n 1, 1) := by decide +kernel
theorem dX4_faultOfPad_24 : decode cX4_faultOfPad 24 = .ok (.iconst (-1), 1) := by decide +kernel
theorem dX4_faultOfPad_25 : decode cX4_faultOfPad 25 = .ok (.if_icmp .ne 5, 3) := by decide +kernel
theorem dX4_faultOfPad_28 : decode cX4_faultOfPad 28 = .ok (.iload_n 2, 1) := by decide +kernel
theorem dX4_faultOfPad_29 : decode cX4_faultOfPad 29 = .ok (.ireturn, 1) := by decide +kernel
theorem dX4_faultOfPad_30 : decode cX4_faultOfPad 30 = .ok (.iinc 2 1, 3) := by decide +kernel
theorem dX4_faultOfPad_33 : decode cX4_faultOfPad 33 = .ok (.goto (-29), 3) := by decide +kernel
theorem dX4_faultOfPad_36 : decode cX4_faultOfPad 36 = .ok (.iload_n 1, 1) := by decide +kernel
theorem dX4_faultOfPad_37 : decode cX4_faultOfPad 37 = .ok (.iconst 2, 1) := by decide +kernel
theorem dX4_faultOfPad_38 : decode cX4_faultOfPad 38 = .ok (.if_icmp .le 8, 3) := by decide +kernel
theorem dX4_faultOfPad_41 : decode cX4_faultOfPad 41 = .ok (.bipush (-6), 2) := by decide +kernel
theorem dX4_faultOfPad_43 : decode cX4_faultOfPad 43 = .ok (.goto 7, 3) := by decide +kernel
theorem dX4_faultOfPad_46 : decode cX4_faultOfPad 46 = .ok (.aload_n 0, 1) := by decide +kernel
theorem dX4_faultOfPad_47 : decode cX4_faultOfPad 47 = .ok (.getfield 83, 3) := by decide +kernel
theorem dX4_faultOfPad_50 : decode cX4_faultOfPad 50 = .ok (.ireturn, 1) := by decide +kernel
theorem dX4_stageBehind_0 : decode cX4_stageBehind 0 = .ok (.iload_n 0, 1) := by decide +kernel
theorem dX4_stageBehind_1 : decode cX4_stageBehind 1 = .ok (.ifCond .ne 21, 3) := by decide +kernel
theorem dX4_stageBehind_4 : decode cX4_stageBehind 4 = .ok (.iload_n 1, 1) := by decide +kernel
theorem dX4_stageBehind_5 : decode cX4_stageBehind 5 = .ok (.bipush 48, 2) := by decide +kernel
theorem dX4_stageBehind_7 : decode cX4_stageBehind 7 = .ok (.if_icmp .lt 13, 3) := by decide +kernel
theorem dX4_stageBehind_10 : decode cX4_stageBehind 10 = .ok (.iload_n 1, 1) := by decide +kernel
theorem dX4_stageBehind_11 : decode cX4_stageBehind 11 = .ok (.bipush 53, 2) := by decide +kernel
theorem dX4_stageBehind_13 : decode cX4_stageBehind 13 = .ok (.if_icmp .ge 7, 3) := by decide +kernel
theorem dX4_stageBehind_16 : decode cX4_stageBehind 16 = .ok (.iconst 1, 1) := by decide +kernel
theorem dX4_stageBehind_17 : decode cX4_stageBehind 17 = .ok (.goto 4, 3) := by decide +kernel
theorem dX4_stageBehind_20 : decode cX4_stageBehind 20 = .ok (.iconst (-1), 1) := by decide +kernel
theorem dX4_stageBehind_21 : decode cX4_stageBehind 21 = .ok (.ireturn, 1) := by decide +kernel
theorem dX4_stageBehind_22 : decode cX4_stageBehind 22 = .ok (.iload_n 0, 1) := by decide +kernel
theorem dX4_stageBehind_23 : decode cX4_stageBehind 23 = .ok (.iconst 1, 1) := by decide +kernel
theorem dX4_stageBehind_24 : decode cX4_stageBehind 24 = .ok (.if_icmp .ne 21, 3) := by decide +kernel
theorem dX4_stageBehind_27 : decode cX4_stageBehind 27 = .ok (.iload_n 1, 1) := by decide +kernel
theorem dX4_stageBehind_28 : decode cX4_stageBehind 28 = .ok (.bipush 62, 2) := by decide +kernel
theorem dX4_stageBehind_30 : decode cX4_stageBehind 30 = .ok (.if_icmp .eq 9, 3) := by decide +kernel
theorem dX4_stageBehind_33 : decode cX4_stageBehind 33 = .ok (.iload_n 1, 1) := by decide +kernel
theorem dX4_stageBehind_34 : decode cX4_stageBehind 34 = .ok (.bipush 60, 2) := by decide +kernel
theorem dX4_stageBehind_36 : decode cX4_stageBehind 36 = .ok (.if_icmp .ne 7, 3) := by decide +kernel
theorem dX4_stageBehind_39 : decode cX4_stageBehind 39 = .ok (.iconst 2, 1) := by decide +kernel
theorem dX4_stageBehind_40 : decode cX4_stageBehind 40 = .ok (.goto 4, 3) := by decide +kernel
theorem dX4_stageBehind_43 : decode cX4_stageBehind 43 = .ok (.iconst (-1), 1) := by decide +kernel
theorem dX4_stageBehind_44 : decode cX4_stageBehind 44 = .ok (.ireturn, 1) := by decide +kernel
theorem dX4_stageBehind_45 : decode cX4_stageBehind 45 = .ok (.iload_n 1, 1) := by decide +kernel
theorem dX4_stageBehind_46 : decode cX4_stageBehind 46 = .ok (.invokestatic 217, 3) := by decide +kernel
theorem dX4_stageBehind_49 : decode cX4_stageBehind 49 = .ok (.ifCond .eq 17, 3) := by decide +kernel
theorem dX4_stageBehind_52 : decode cX4_stageBehind 52 = .ok (.iload_n 0, 1) := by decide +kernel
theorem dX4_stageBehind_53 : decode cX4_stageBehind 53 = .ok (.bipush 10, 2) := by decide +kernel
theorem dX4_stageBehind_55 : decode cX4_stageBehind 55 = .ok (.if_icmp .ge 9, 3) := by decide +kernel
theorem dX4_stageBehind_58 : decode cX4_stageBehind 58 = .ok (.iload_n 0, 1) := by decide +kernel
theorem dX4_stageBehind_59 : decode cX4_stageBehind 59 = .ok (.iconst 1, 1) := by decide +kernel
theorem dX4_stageBehind_60 : decode cX4_stageBehind 60 = .ok (.iadd, 1) := by decide +kernel
theorem dX4_stageBehind_61 : decode cX4_stageBehind 61 = .ok (.goto 4, 3) := by decide +kernel
theorem dX4_stageBehind_64 : decode cX4_stageBehind 64 = .ok (.iconst (-1), 1) := by decide +kernel
theorem dX4_stageBehind_65 : decode cX4_stageBehind 65 = .ok (.ireturn, 1) := by decide +kernel
theorem dX4_stageBehind_66 : decode cX4_stageBehind 66 = .ok (.iload_n 1, 1) := by decide +kernel
theorem dX4_stageBehind_67 : decode cX4_stageBehind 67 = .ok (.bipush 44, 2) := by decide +kernel
theorem dX4_stageBehind_69 : decode cX4_stageBehind 69 = .ok (.if_icmp .ne 12, 3) := by decide +kernel
theorem dX4_stageBehind_72 : decode cX4_stageBehind 72 = .ok (.iload_n 0, 1) := by decide +kernel
theorem dX4_stageBehind_73 : decode cX4_stageBehind 73 = .ok (.iconst 2, 1) := by decide +kernel
theorem dX4_stageBehind_74 : decode cX4_stageBehind 74 = .ok (.if_icmp .le 7, 3) := by decide +kernel
theorem dX4_stageBehind_77 : decode cX4_stageBehind 77 = .ok (.iconst 0, 1) := by decide +kernel
theorem dX4_stageBehind_78 : decode cX4_stageBehind 78 = .ok (.goto 4, 3) := by decide +kernel
theorem dX4_stageBehind_81 : decode cX4_stageBehind 81 = .ok (.iconst (-1), 1) := by decide +kernel
theorem dX4_stageBehind_82 : decode cX4_stageBehind 82 = .ok (.ireturn, 1) := by decide +kernel
theorem dX4_isWord_0 : decode cX4_isWord 0 = .ok (.iload_n 0, 1) := by decide +kernel
theorem dX4_isWord_1 : decode cX4_isWord 1 = .ok (.bipush 97, 2) := by decide +kernel
theorem dX4_isWord_3 : decode cX4_isWord 3 = .ok (.if_icmp .lt 13, 3) := by decide +kernel
theorem dX4_isWord_6 : decode cX4_isWord 6 = .ok (.iload_n 0, 1) := by decide +kernel
theorem dX4_isWord_7 : decode cX4_isWord 7 = .ok (.bipush 122, 2) := by decide +kernel
theorem dX4_isWord_9 : decode cX4_isWord 9 = .ok (.if_icmp .gt 7, 3) := by decide +kernel
theorem dX4_isWord_12 : decode cX4_isWord 12 = .ok (.iconst 1, 1) := by decide +kernel
theorem dX4_isWord_13 : decode cX4_isWord 13 = .ok (.goto 4, 3) := by decide +kernel
theorem dX4_isWord_16 : decode cX4_isWord 16 = .ok (.iconst 0, 1) := by decide +kernel
theorem dX4_isWord_17 : decode cX4_isWord 17 = .ok (.ireturn, 1) := by decide +kernel
theorem dX4_lettersOfPad_0 : decode cX4_lettersOfPad 0 = .ok (.iconst 1, 1) := by decide +kernel
theorem dX4_lettersOfPad_1 : decode cX4_lettersOfPad 1 = .ok (.istore_n 1, 1) := by decide +kernel
theorem dX4_lettersOfPad_2 : decode cX4_lettersOfPad 2 = .ok (.iconst 0, 1) := by decide +kernel
theorem dX4_lettersOfPad_3 : decode cX4_lettersOfPad 3 = .ok (.istore_n 2, 1) := by decide +kernel
theorem dX4_lettersOfPad_4 : decode cX4_lettersOfPad 4 = .ok (.iload_n 2, 1) := by decide +kernel
theorem dX4_lettersOfPad_5 : decode cX4_lettersOfPad 5 = .ok (.aload_n 0, 1) := by decide +kernel
theorem dX4_lettersOfPad_6 : decode cX4_lettersOfPad 6 = .ok (.getfield 83, 3) := by decide +kernel
theorem dX4_lettersOfPad_9 : decode cX4_lettersOfPad 9 = .ok (.if_icmp .ge 23, 3) := by decide +kernel
theorem dX4_lettersOfPad_12 : decode cX4_lettersOfPad 12 = .ok (.aload_n 0, 1) := by decide +kernel
theorem dX4_lettersOfPad_13 : decode cX4_lettersOfPad 13 = .ok (.getfield 30, 3) := by decide +kernel
theorem dX4_lettersOfPad_16 : decode cX4_lettersOfPad 16 = .ok (.iload_n 2, 1) := by decide +kernel
theorem dX4_lettersOfPad_17 : decode cX4_lettersOfPad 17 = .ok (.caload, 1) := by decide +kernel
theorem dX4_lettersOfPad_18 : decode cX4_lettersOfPad 18 = .ok (.bipush 44, 2) := by decide +kernel
theorem dX4_lettersOfPad_20 : decode cX4_lettersOfPad 20 = .ok (.if_icmp .ne 6, 3) := by decide +kernel
theorem dX4_lettersOfPad_23 : decode cX4_lettersOfPad 23 = .ok (.iinc 1 1, 3) := by decide +kernel
theorem dX4_lettersOfPad_26 : decode cX4_lettersOfPad 26 = .ok (.iinc 2 1, 3) := by decide +kernel
theorem dX4_lettersOfPad_29 : decode cX4_lettersOfPad 29 = .ok (.goto (-25), 3) := by decide +kernel
theorem dX4_lettersOfPad_32 : decode cX4_lettersOfPad 32 = .ok (.iload_n 1, 1) := by decide +kernel
theorem dX4_lettersOfPad_33 : decode cX4_lettersOfPad 33 = .ok (.ireturn, 1) := by decide +kernel
theorem dX4_writeLettersOfPad_0 : decode cX4_writeLettersOfPad 0 = .ok (.aconst_null, 1) := by decide +kernel
theorem dX4_writeLettersOfPad_1 : decode cX4_writeLettersOfPad 1 = .ok (.astore_n 1, 1) := by decide +kernel
theorem dX4_writeLettersOfPad_2 : decode cX4_writeLettersOfPad 2 = .ok (.iconst 0, 1) := by decide +kernel
theorem dX4_writeLettersOfPad_3 : decode cX4_writeLettersOfPad 3 = .ok (.istore_n 2, 1) := by decide +kernel
theorem dX4_writeLettersOfPad_4 : decode cX4_writeLettersOfPad 4 = .ok (.iload_n 2, 1) := by decide +kernel
theorem dX4_writeLettersOfPad_5 : decode cX4_writeLettersOfPad 5 = .ok (.aload_n 0, 1) := by decide +kernel
theorem dX4_writeLettersOfPad_6 : decode cX4_writeLettersOfPad 6 = .ok (.getfield 83, 3) := by decide +kernel
theorem dX4_writeLettersOfPad_9 : decode cX4_writeLettersOfPad 9 = .ok (.if_icmp .ge 87, 3) := by decide +kernel
theorem dX4_writeLettersOfPad_12 : decode cX4_writeLettersOfPad 12 = .ok (.aload_n 0, 1) := by decide +kernel
theorem dX4_writeLettersOfPad_13 : decode cX4_writeLettersOfPad 13 = .ok (.getfield 30, 3) := by decide +kernel
theorem dX4_writeLettersOfPad_16 : decode cX4_writeLettersOfPad 16 = .ok (.iload_n 2, 1) := by decide +kernel
theorem dX4_writeLettersOfPad_17 : decode cX4_writeLettersOfPad 17 = .ok (.caload, 1) := by decide +kernel
theorem dX4_writeLettersOfPad_18 : decode cX4_writeLettersOfPad 18 = .ok (.istore_n 3, 1) := by decide +kernel
theorem dX4_writeLettersOfPad_19 : decode cX4_writeLettersOfPad 19 = .ok (.iload_n 3, 1) := by decide +kernel
theorem dX4_writeLettersOfPad_20 : decode cX4_writeLettersOfPad 20 = .ok (.invokestatic 217, 3) := by decide +kernel
theorem dX4_writeLettersOfPad_23 : decode cX4_writeLettersOfPad 23 = .ok (.ifCond .eq 15, 3) := by decide +kernel
theorem dX4_writeLettersOfPad_26 : decode cX4_writeLettersOfPad 26 = .ok (.aload_n 1, 1) := by decide +kernel
theorem dX4_writeLettersOfPad_27 : decode cX4_writeLettersOfPad 27 = .ok (.ifnull 63, 3) := by decide +kernel
theorem dX4_writeLettersOfPad_30 : decode cX4_writeLettersOfPad 30 = .ok (.aload_n 1, 1) := by decide +kernel
theorem dX4_writeLettersOfPad_31 : decode cX4_writeLettersOfPad 31 = .ok (.iload_n 3, 1) := by decide +kernel
theorem dX4_writeLettersOfPad_32 : decode cX4_writeLettersOfPad 32 = .ok (.invokevirtual 221, 3) := by decide +kernel
theorem dX4_writeLettersOfPad_35 : decode cX4_writeLettersOfPad 35 = .ok (.goto 55, 3) := by decide +kernel
theorem dX4_writeLettersOfPad_38 : decode cX4_writeLettersOfPad 38 = .ok (.iload_n 3, 1) := by decide +kernel
theorem dX4_writeLettersOfPad_39 : decode cX4_writeLettersOfPad 39 = .ok (.bipush 62, 2) := by decide +kernel
theorem dX4_writeLettersOfPad_41 : decode cX4_writeLettersOfPad 41 = .ok (.if_icmp .ne 14, 3) := by decide +kernel
theorem dX4_writeLettersOfPad_44 : decode cX4_writeLettersOfPad 44 = .ok (.aload_n 0, 1) := by decide +kernel
theorem dX4_writeLettersOfPad_45 : decode cX4_writeLettersOfPad 45 = .ok (.getfield 12, 3) := by decide +kernel
theorem dX4_writeLettersOfPad_48 : decode cX4_writeLettersOfPad 48 = .ok (.iconst 0, 1) := by decide +kernel
theorem dX4_writeLettersOfPad_49 : decode cX4_writeLettersOfPad 49 = .ok (.invokevirtual 224, 3) := by decide +kernel
theorem dX4_writeLettersOfPad_52 : decode cX4_writeLettersOfPad 52 = .ok (.goto 38, 3) := by decide +kernel
theorem dX4_writeLettersOfPad_55 : decode cX4_writeLettersOfPad 55 = .ok (.iload_n 3, 1) := by decide +kernel
theorem dX4_writeLettersOfPad_56 : decode cX4_writeLettersOfPad 56 = .ok (.bipush 60, 2) := by decide +kernel
theorem dX4_writeLettersOfPad_58 : decode cX4_writeLettersOfPad 58 = .ok (.if_icmp .ne 14, 3) := by decide +kernel
theorem dX4_writeLettersOfPad_61 : decode cX4_writeLettersOfPad 61 = .ok (.aload_n 0, 1) := by decide +kernel
theorem dX4_writeLettersOfPad_62 : decode cX4_writeLettersOfPad 62 = .ok (.getfield 12, 3) := by decide +kernel
theorem dX4_writeLettersOfPad_65 : decode cX4_writeLettersOfPad 65 = .ok (.iconst 1, 1) := by decide +kernel
theorem dX4_writeLettersOfPad_66 : decode cX4_writeLettersOfPad 66 = .ok (.invokevirtual 224, 3) := by decide +kernel
theorem dX4_writeLettersOfPad_69 : decode cX4_writeLettersOfPad 69 = .ok (.goto 21, 3) := by decide +kernel
theorem dX4_writeLettersOfPad_72 : decode cX4_writeLettersOfPad 72 = .ok (.iload_n 3, 1) := by decide +kernel
theorem dX4_writeLettersOfPad_73 : decode cX4_writeLettersOfPad 73 = .ok (.bipush 44, 2) := by decide +kernel
theorem dX4_writeLettersOfPad_75 : decode cX4_writeLettersOfPad 75 = .ok (.if_icmp .eq 15, 3) := by decide +kernel
theorem dX4_writeLettersOfPad_78 : decode cX4_writeLettersOfPad 78 = .ok (.aload_n 0, 1) := by decide +kernel
theorem dX4_writeLettersOfPad_79 : decode cX4_writeLettersOfPad 79 = .ok (.getfield 12, 3) := by decide +kernel
theorem dX4_writeLettersOfPad_82 : decode cX4_writeLettersOfPad 82 = .ok (.iload_n 3, 1) := by decide +kernel
theorem dX4_writeLettersOfPad_83 : decode cX4_writeLettersOfPad 83 = .ok (.bipush 48, 2) := by decide +kernel
theorem dX4_writeLettersOfPad_85 : decode cX4_writeLettersOfPad 85 = .ok (.isub, 1) := by decide +kernel
theorem dX4_writeLettersOfPad_86 : decode cX4_writeLettersOfPad 86 = .ok (.invokevirtual 227, 3) := by decide +kernel
theorem dX4_writeLettersOfPad_89 : decode cX4_writeLettersOfPad 89 = .ok (.astore_n 1, 1) := by decide +kernel
theorem dX4_writeLettersOfPad_90 : decode cX4_writeLettersOfPad 90 = .ok (.iinc 2 1, 3) := by decide +kernel
theorem dX4_writeLettersOfPad_93 : decode cX4_writeLettersOfPad 93 = .ok (.goto (-89), 3) := by decide +kernel
theorem dX4_writeLettersOfPad_96 : decode cX4_writeLettersOfPad 96 = .ok (.return_, 1) := by decide +kernel
theorem dX4_undo_0 : decode cX4_undo 0 = .ok (.aload_n 0, 1) := by decide +kernel
theorem dX4_undo_1 : decode cX4_undo 1 = .ok (.getfield 191, 3) := by decide +kernel
theorem dX4_undo_4 : decode cX4_undo 4 = .ok (.ifCond .ne 6, 3) := by decide +kernel
theorem dX4_undo_7 : decode cX4_undo 7 = .ok (.bipush (-5), 2) := by decide +kernel
theorem dX4_undo_9 : decode cX4_undo 9 = .ok (.ireturn, 1) := by decide +kernel
theorem dX4_undo_10 : decode cX4_undo 10 = .ok (.aload_n 0, 1) := by decide +kernel
theorem dX4_undo_11 : decode cX4_undo 11 = .ok (.dup, 1) := by decide +kernel
theorem dX4_undo_12 : decode cX4_undo 12 = .ok (.getfield 191, 3) := by decide +kernel
theorem dX4_undo_15 : decode cX4_undo 15 = .ok (.iconst 1, 1) := by decide +kernel
theorem dX4_undo_16 : decode cX4_undo 16 = .ok (.isub, 1) := by decide +kernel
theorem dX4_undo_17 : decode cX4_undo 17 = .ok (.putfield 191, 3) := by decide +kernel
theorem dX4_undo_20 : decode cX4_undo 20 = .ok (.aload_n 0, 1) := by decide +kernel
theorem dX4_undo_21 : decode cX4_undo 21 = .ok (.getfield 12, 3) := by decide +kernel
theorem dX4_undo_24 : decode cX4_undo 24 = .ok (.aload_n 0, 1) := by decide +kernel
theorem dX4_undo_25 : decode cX4_undo 25 = .ok (.getfield 19, 3) := by decide +kernel
theorem dX4_undo_28 : decode cX4_undo 28 = .ok (.aload_n 0, 1) := by decide +kernel
theorem dX4_undo_29 : decode cX4_undo 29 = .ok (.getfield 191, 3) := by decide +kernel
theorem dX4_undo_32 : decode cX4_undo 32 = .ok (.aaload, 1) := by decide +kernel
theorem dX4_undo_33 : decode cX4_undo 33 = .ok (.invokevirtual 194, 3) := by decide +kernel
theorem dX4_undo_36 : decode cX4_undo 36 = .ok (.aload_n 0, 1) := by decide +kernel
theorem dX4_undo_37 : decode cX4_undo 37 = .ok (.getfield 191, 3) := by decide +kernel
theorem dX4_undo_40 : decode cX4_undo 40 = .ok (.ireturn, 1) := by decide +kernel
theorem dX4_remember_0 : decode cX4_remember 0 = .ok (.aload_n 0, 1) := by decide +kernel
theorem dX4_remember_1 : decode cX4_remember 1 = .ok (.getfield 191, 3) := by decide +kernel
theorem dX4_remember_4 : decode cX4_remember 4 = .ok (.iconst 4, 1) := by decide +kernel
theorem dX4_remember_5 : decode cX4_remember 5 = .ok (.if_icmp .ne 54, 3) := by decide +kernel
theorem dX4_remember_8 : decode cX4_remember 8 = .ok (.aload_n 0, 1) := by decide +kernel
theorem dX4_remember_9 : decode cX4_remember 9 = .ok (.getfield 19, 3) := by decide +kernel
theorem dX4_remember_12 : decode cX4_remember 12 = .ok (.iconst 0, 1) := by decide +kernel
theorem dX4_remember_13 : decode cX4_remember 13 = .ok (.aaload, 1) := by decide +kernel
theorem dX4_remember_14 : decode cX4_remember 14 = .ok (.astore_n 1, 1) := by decide +kernel
theorem dX4_remember_15 : decode cX4_remember 15 = .ok (.iconst 1, 1) := by decide +kernel
theorem dX4_remember_16 : decode cX4_remember 16 = .ok (.istore_n 2, 1) := by decide +kernel
theorem dX4_remember_17 : decode cX4_remember 17 = .ok (.iload_n 2, 1) := by decide +kernel
theorem dX4_remember_18 : decode cX4_remember 18 = .ok (.iconst 4, 1) := by decide +kernel
theorem dX4_remember_19 : decode cX4_remember 19 = .ok (.if_icmp .ge 23, 3) := by decide +kernel
theorem dX4_remember_22 : decode cX4_remember 22 = .ok (.aload_n 0, 1) := by decide +kernel
theorem dX4_remember_23 : decode cX4_remember 23 = .ok (.getfield 19, 3) := by decide +kernel
theorem dX4_remember_26 : decode cX4_remember 26 = .ok (.iload_n 2, 1) := by decide +kernel
theorem dX4_remember_27 : decode cX4_remember 27 = .ok (.iconst 1, 1) := by decide +kernel
theorem dX4_remember_28 : decode cX4_remember 28 = .ok (.isub, 1) := by decide +kernel
theorem dX4_remember_29 : decode cX4_remember 29 = .ok (.aload_n 0, 1) := by decide +kernel
theorem dX4_remember_30 : decode cX4_remember 30 = .ok (.getfield 19, 3) := by decide +kernel
theorem dX4_remember_33 : decode cX4_remember 33 = .ok (.iload_n 2, 1) := by decide +kernel
theorem dX4_remember_34 : decode cX4_remember 34 = .ok (.aaload, 1) := by decide +kernel
theorem dX4_remember_35 : decode cX4_remember 35 = .ok (.aastore, 1) := by decide +kernel
theorem dX4_remember_36 : decode cX4_remember 36 = .ok (.iinc 2 1, 3) := by decide +kernel
theorem dX4_remember_39 : decode cX4_remember 39 = .ok (.goto (-22), 3) := by decide +kernel
theorem dX4_remember_42 : decode cX4_remember 42 = .ok (.aload_n 0, 1) := by decide +kernel
theorem dX4_remember_43 : decode cX4_remember 43 = .ok (.getfield 19, 3) := by decide +kernel
theorem dX4_remember_46 : decode cX4_remember 46 = .ok (.iconst 3, 1) := by decide +kernel
theorem dX4_remember_47 : decode cX4_remember 47 = .ok (.aload_n 1, 1) := by decide +kernel
theorem dX4_remember_48 : decode cX4_remember 48 = .ok (.aastore, 1) := by decide +kernel
theorem dX4_remember_49 : decode cX4_remember 49 = .ok (.aload_n 0, 1) := by decide +kernel
theorem dX4_remember_50 : decode cX4_remember 50 = .ok (.dup, 1) := by decide +kernel
theorem dX4_remember_51 : decode cX4_remember 51 = .ok (.getfield 191, 3) := by decide +kernel
theorem dX4_remember_54 : decode cX4_remember 54 = .ok (.iconst 1, 1) := by decide +kernel
theorem dX4_remember_55 : decode cX4_remember 55 = .ok (.isub, 1) := by decide +kernel
theorem dX4_remember_56 : decode cX4_remember 56 = .ok (.putfield 191, 3) := by decide +kernel
theorem dX4_remember_59 : decode cX4_remember 59 = .ok (.aload_n 0, 1) := by decide +kernel
theorem dX4_remember_60 : decode cX4_remember 60 = .ok (.getfield 19, 3) := by decide +kernel
theorem dX4_remember_63 : decode cX4_remember 63 = .ok (.aload_n 0, 1) := by decide +kernel
theorem dX4_remember_64 : decode cX4_remember 64 = .ok (.getfield 191, 3) := by decide +kernel
theorem dX4_remember_67 : decode cX4_remember 67 = .ok (.aaload, 1) := by decide +kernel
theorem dX4_remember_68 : decode cX4_remember 68 = .ok (.aload_n 0, 1) := by decide +kernel
theorem dX4_remember_69 : decode cX4_remember 69 = .ok (.getfield 12, 3) := by decide +kernel
theorem dX4_remember_72 : decode cX4_remember 72 = .ok (.invokevirtual 194, 3) := by decide +kernel
theorem dX4_remember_75 : decode cX4_remember 75 = .ok (.aload_n 0, 1) := by decide +kernel
theorem dX4_remember_76 : decode cX4_remember 76 = .ok (.dup, 1) := by decide +kernel
theorem dX4_remember_77 : decode cX4_remember 77 = .ok (.getfield 191, 3) := by decide +kernel
theorem dX4_remember_80 : decode cX4_remember 80 = .ok (.iconst 1, 1) := by decide +kernel
theorem dX4_remember_81 : decode cX4_remember 81 = .ok (.iadd, 1) := by decide +kernel
theorem dX4_remember_82 : decode cX4_remember 82 = .ok (.putfield 191, 3) := by decide +kernel
theorem dX4_remember_85 : decode cX4_remember 85 = .ok (.return_, 1) := by decide +kernel
theorem dJ6_bitCount_0f7a4_0 : decode cJ6_bitCount_0f7a4 0 = .ok (.iload_n 0, 1) := by decide +kernel
theorem dJ6_bitCount_0f7a4_1 : decode cJ6_bitCount_0f7a4 1 = .ok (.iload_n 0, 1) := by decide +kernel
theorem dJ6_bitCount_0f7a4_2 : decode cJ6_bitCount_0f7a4 2 = .ok (.iconst 1, 1) := by decide +kernel
theorem dJ6_bitCount_0f7a4_3 : decode cJ6_bitCount_0f7a4 3 = .ok (.iushr, 1) := by decide +kernel
theorem dJ6_bitCount_0f7a4_4 : decode cJ6_bitCount_0f7a4 4 = .ok (.ldc_w 265, 3) := by decide +kernel
theorem dJ6_bitCount_0f7a4_7 : decode cJ6_bitCount_0f7a4 7 = .ok (.iand, 1) := by decide +kernel
theorem dJ6_bitCount_0f7a4_8 : decode cJ6_bitCount_0f7a4 8 = .ok (.isub, 1) := by decide +kernel
theorem dJ6_bitCount_0f7a4_9 : decode cJ6_bitCount_0f7a4 9 = .ok (.istore_n 0, 1) := by decide +kernel
theorem dJ6_bitCount_0f7a4_10 : decode cJ6_bitCount_0f7a4 10 = .ok (.iload_n 0, 1) := by decide +kernel
theorem dJ6_bitCount_0f7a4_11 : decode cJ6_bitCount_0f7a4 11 = .ok (.ldc_w 266, 3) := by decide +kernel
theorem dJ6_bitCount_0f7a4_14 : decode cJ6_bitCount_0f7a4 14 = .ok (.iand, 1) := by decide +kernel
theorem dJ6_bitCount_0f7a4_15 : decode cJ6_bitCount_0f7a4 15 = .ok (.iload_n 0, 1) := by decide +kernel
theorem dJ6_bitCount_0f7a4_16 : decode cJ6_bitCount_0f7a4 16 = .ok (.iconst 2, 1) := by decide +kernel
theorem dJ6_bitCount_0f7a4_17 : decode cJ6_bitCount_0f7a4 17 = .ok (.iushr, 1) := by decide +kernel
theorem dJ6_bitCount_0f7a4_18 : decode cJ6_bitCount_0f7a4 18 = .ok (.ldc_w 266, 3) := by decide +kernel
theorem dJ6_bitCount_0f7a4_21 : decode cJ6_bitCount_0f7a4 21 = .ok (.iand, 1) := by decide +kernel
theorem dJ6_bitCount_0f7a4_22 : decode cJ6_bitCount_0f7a4 22 = .ok (.iadd, 1) := by decide +kernel
theorem dJ6_bitCount_0f7a4_23 : decode cJ6_bitCount_0f7a4 23 = .ok (.istore_n 0, 1) := by decide +kernel
theorem dJ6_bitCount_0f7a4_24 : decode cJ6_bitCount_0f7a4 24 = .ok (.iload_n 0, 1) := by decide +kernel
theorem dJ6_bitCount_0f7a4_25 : decode cJ6_bitCount_0f7a4 25 = .ok (.iload_n 0, 1) := by decide +kernel
theorem dJ6_bitCount_0f7a4_26 : decode cJ6_bitCount_0f7a4 26 = .ok (.iconst 4, 1) := by decide +kernel
theorem dJ6_bitCount_0f7a4_27 : decode cJ6_bitCount_0f7a4 27 = .ok (.iushr, 1) := by decide +kernel
theorem dJ6_bitCount_0f7a4_28 : decode cJ6_bitCount_0f7a4 28 = .ok (.iadd, 1) := by decide +kernel
theorem dJ6_bitCount_0f7a4_29 : decode cJ6_bitCount_0f7a4 29 = .ok (.ldc_w 267, 3) := by decide +kernel
theorem dJ6_bitCount_0f7a4_32 : decode cJ6_bitCount_0f7a4 32 = .ok (.iand, 1) := by decide +kernel
theorem dJ6_bitCount_0f7a4_33 : decode cJ6_bitCount_0f7a4 33 = .ok (.istore_n 0, 1) := by decide +kernel
theorem dJ6_bitCount_0f7a4_34 : decode cJ6_bitCount_0f7a4 34 = .ok (.iload_n 0, 1) := by decide +kernel
theorem dJ6_bitCount_0f7a4_35 : decode cJ6_bitCount_0f7a4 35 = .ok (.iload_n 0, 1) := by decide +kernel
theorem dJ6_bitCount_0f7a4_36 : decode cJ6_bitCount_0f7a4 36 = .ok (.bipush 8, 2) := by decide +kernel
theorem dJ6_bitCount_0f7a4_38 : decode cJ6_bitCount_0f7a4 38 = .ok (.iushr, 1) := by decide +kernel
theorem dJ6_bitCount_0f7a4_39 : decode cJ6_bitCount_0f7a4 39 = .ok (.iadd, 1) := by decide +kernel
theorem dJ6_bitCount_0f7a4_40 : decode cJ6_bitCount_0f7a4 40 = .ok (.istore_n 0, 1) := by decide +kernel
theorem dJ6_bitCount_0f7a4_41 : decode cJ6_bitCount_0f7a4 41 = .ok (.iload_n 0, 1) := by decide +kernel
theorem dJ6_bitCount_0f7a4_42 : decode cJ6_bitCount_0f7a4 42 = .ok (.iload_n 0, 1) := by decide +kernel
theorem dJ6_bitCount_0f7a4_43 : decode cJ6_bitCount_0f7a4 43 = .ok (.bipush 16, 2) := by decide +kernel
theorem dJ6_bitCount_0f7a4_45 : decode cJ6_bitCount_0f7a4 45 = .ok (.iushr, 1) := by decide +kernel
theorem dJ6_bitCount_0f7a4_46 : decode cJ6_bitCount_0f7a4 46 = .ok (.iadd, 1) := by decide +kernel
theorem dJ6_bitCount_0f7a4_47 : decode cJ6_bitCount_0f7a4 47 = .ok (.istore_n 0, 1) := by decide +kernel
theorem dJ6_bitCount_0f7a4_48 : decode cJ6_bitCount_0f7a4 48 = .ok (.iload_n 0, 1) := by decide +kernel
theorem dJ6_bitCount_0f7a4_49 : decode cJ6_bitCount_0f7a4 49 = .ok (.bipush 63, 2) := by decide +kernel
theorem dJ6_bitCount_0f7a4_51 : decode cJ6_bitCount_0f7a4 51 = .ok (.iand, 1) := by decide +kernel
theorem dJ6_bitCount_0f7a4_52 : decode cJ6_bitCount_0f7a4 52 = .ok (.ireturn, 1) := by decide +kernel

theorem dX0_isTold_0 : decode cX0_isTold 0 = .ok (.iload_n 0, 1) := by decide +kernel
theorem dX0_isTold_1 : decode cX0_isTold 1 = .ok (.iconst 1, 1) := by decide +kernel
theorem dX0_isTold_2 : decode cX0_isTold 2 = .ok (.if_icmp .lt 14, 3) := by decide +kernel
theorem dX0_isTold_5 : decode cX0_isTold 5 = .ok (.iload_n 0, 1) := by decide +kernel
theorem dX0_isTold_6 : decode cX0_isTold 6 = .ok (.sipush 4000, 3) := by decide +kernel
theorem dX0_isTold_9 : decode cX0_isTold 9 = .ok (.if_icmp .gt 7, 3) := by decide +kernel
theorem dX0_isTold_12 : decode cX0_isTold 12 = .ok (.iconst 1, 1) := by decide +kernel
theorem dX0_isTold_13 : decode cX0_isTold 13 = .ok (.goto 4, 3) := by decide +kernel
theorem dX0_isTold_16 : decode cX0_isTold 16 = .ok (.iconst 0, 1) := by decide +kernel
theorem dX0_isTold_17 : decode cX0_isTold 17 = .ok (.ireturn, 1) := by decide +kernel
theorem dX0_isLeap_0 : decode cX0_isLeap 0 = .ok (.iload_n 0, 1) := by decide +kernel
theorem dX0_isLeap_1 : decode cX0_isLeap 1 = .ok (.iconst 4, 1) := by decide +kernel
theorem dX0_isLeap_2 : decode cX0_isLeap 2 = .ok (.irem, 1) := by decide +kernel
theorem dX0_isLeap_3 : decode cX0_isLeap 3 = .ok (.ifCond .ne 22, 3) := by decide +kernel
theorem dX0_isLeap_6 : decode cX0_isLeap 6 = .ok (.iload_n 0, 1) := by decide +kernel
theorem dX0_isLeap_7 : decode cX0_isLeap 7 = .ok (.bipush 100, 2) := by decide +kernel
theorem dX0_isLeap_9 : decode cX0_isLeap 9 = .ok (.irem, 1) := by decide +kernel
theorem dX0_isLeap_10 : decode cX0_isLeap 10 = .ok (.ifCond .ne 11, 3) := by decide +kernel
theorem dX0_isLeap_13 : decode cX0_isLeap 13 = .ok (.iload_n 0, 1) := by decide +kernel
theorem dX0_isLeap_14 : decode cX0_isLeap 14 = .ok (.sipush 400, 3) := by decide +kernel
theorem dX0_isLeap_17 : decode cX0_isLeap 17 = .ok (.irem, 1) := by decide +kernel
theorem dX0_isLeap_18 : decode cX0_isLeap 18 = .ok (.ifCond .ne 7, 3) := by decide +kernel
theorem dX0_isLeap_21 : decode cX0_isLeap 21 = .ok (.iconst 1, 1) := by decide +kernel
theorem dX0_isLeap_22 : decode cX0_isLeap 22 = .ok (.goto 4, 3) := by decide +kernel
theorem dX0_isLeap_25 : decode cX0_isLeap 25 = .ok (.iconst 0, 1) := by decide +kernel
theorem dX0_isLeap_26 : decode cX0_isLeap 26 = .ok (.ireturn, 1) := by decide +kernel
theorem dX0_isJulianLeap_0 : decode cX0_isJulianLeap 0 = .ok (.iload_n 0, 1) := by decide +kernel
theorem dX0_isJulianLeap_1 : decode cX0_isJulianLeap 1 = .ok (.iconst 4, 1) := by decide +kernel
theorem dX0_isJulianLeap_2 : decode cX0_isJulianLeap 2 = .ok (.irem, 1) := by decide +kernel
theorem dX0_isJulianLeap_3 : decode cX0_isJulianLeap 3 = .ok (.ifCond .ne 7, 3) := by decide +kernel
theorem dX0_isJulianLeap_6 : decode cX0_isJulianLeap 6 = .ok (.iconst 1, 1) := by decide +kernel
theorem dX0_isJulianLeap_7 : decode cX0_isJulianLeap 7 = .ok (.goto 4, 3) := by decide +kernel
theorem dX0_isJulianLeap_10 : decode cX0_isJulianLeap 10 = .ok (.iconst 0, 1) := by decide +kernel
theorem dX0_isJulianLeap_11 : decode cX0_isJulianLeap 11 = .ok (.ireturn, 1) := by decide +kernel
theorem dX0_leapsUpTo_0 : decode cX0_leapsUpTo 0 = .ok (.iload_n 0, 1) := by decide +kernel
theorem dX0_leapsUpTo_1 : decode cX0_leapsUpTo 1 = .ok (.iconst 4, 1) := by decide +kernel
theorem dX0_leapsUpTo_2 : decode cX0_leapsUpTo 2 = .ok (.idiv, 1) := by decide +kernel
theorem dX0_leapsUpTo_3 : decode cX0_leapsUpTo 3 = .ok (.iload_n 0, 1) := by decide +kernel
theorem dX0_leapsUpTo_4 : decode cX0_leapsUpTo 4 = .ok (.bipush 100, 2) := by decide +kernel
theorem dX0_leapsUpTo_6 : decode cX0_leapsUpTo 6 = .ok (.idiv, 1) := by decide +kernel
theorem dX0_leapsUpTo_7 : decode cX0_leapsUpTo 7 = .ok (.isub, 1) := by decide +kernel
theorem dX0_leapsUpTo_8 : decode cX0_leapsUpTo 8 = .ok (.iload_n 0, 1) := by decide +kernel
theorem dX0_leapsUpTo_9 : decode cX0_leapsUpTo 9 = .ok (.sipush 400, 3) := by decide +kernel
theorem dX0_leapsUpTo_12 : decode cX0_leapsUpTo 12 = .ok (.idiv, 1) := by decide +kernel
theorem dX0_leapsUpTo_13 : decode cX0_leapsUpTo 13 = .ok (.iadd, 1) := by decide +kernel
theorem dX0_leapsUpTo_14 : decode cX0_leapsUpTo 14 = .ok (.ireturn, 1) := by decide +kernel
theorem dX0_leapBehind_0 : decode cX0_leapBehind 0 = .ok (.iconst 1, 1) := by decide +kernel
theorem dX0_leapBehind_1 : decode cX0_leapBehind 1 = .ok (.istore_n 1, 1) := by decide +kernel
theorem dX0_leapBehind_2 : decode cX0_leapBehind 2 = .ok (.iload_n 1, 1) := by decide +kernel
theorem dX0_leapBehind_3 : decode cX0_leapBehind 3 = .ok (.bipush 8, 2) := by decide +kernel
theorem dX0_leapBehind_5 : decode cX0_leapBehind 5 = .ok (.if_icmp .ge 22, 3) := by decide +kernel
theorem dX0_leapBehind_8 : decode cX0_leapBehind 8 = .ok (.iload_n 0, 1) := by decide +kernel
theorem dX0_leapBehind_9 : decode cX0_leapBehind 9 = .ok (.iload_n 1, 1) := by decide +kernel
theorem dX0_leapBehind_10 : decode cX0_leapBehind 10 = .ok (.iadd, 1) := by decide +kernel
theorem dX0_leapBehind_11 : decode cX0_leapBehind 11 = .ok (.invokestatic 11, 3) := by decide +kernel
theorem dX0_leapBehind_14 : decode cX0_leapBehind 14 = .ok (.ifCond .eq 7, 3) := by decide +kernel
theorem dX0_leapBehind_17 : decode cX0_leapBehind 17 = .ok (.iload_n 0, 1) := by decide +kernel
theorem dX0_leapBehind_18 : decode cX0_leapBehind 18 = .ok (.iload_n 1, 1) := by decide +kernel
theorem dX0_leapBehind_19 : decode cX0_leapBehind 19 = .ok (.iadd, 1) := by decide +kernel
theorem dX0_leapBehind_20 : decode cX0_leapBehind 20 = .ok (.ireturn, 1) := by decide +kernel
theorem dX0_leapBehind_21 : decode cX0_leapBehind 21 = .ok (.iinc 1 1, 3) := by decide +kernel
theorem dX0_leapBehind_24 : decode cX0_leapBehind 24 = .ok (.goto (-22), 3) := by decide +kernel
theorem dX0_leapBehind_27 : decode cX0_leapBehind 27 = .ok (.iload_n 0, 1) := by decide +kernel
theorem dX0_leapBehind_28 : decode cX0_leapBehind 28 = .ok (.bipush 8, 2) := by decide +kernel
theorem dX0_leapBehind_30 : decode cX0_leapBehind 30 = .ok (.iadd, 1) := by decide +kernel
theorem dX0_leapBehind_31 : decode cX0_leapBehind 31 = .ok (.ireturn, 1) := by decide +kernel
theorem dX0_weekdayOf_0 : decode cX0_weekdayOf 0 = .ok (.sipush 365, 3) := by decide +kernel
theorem dX0_weekdayOf_3 : decode cX0_weekdayOf 3 = .ok (.iload_n 0, 1) := by decide +kernel
theorem dX0_weekdayOf_4 : decode cX0_weekdayOf 4 = .ok (.iconst 1, 1) := by decide +kernel
theorem dX0_weekdayOf_5 : decode cX0_weekdayOf 5 = .ok (.isub, 1) := by decide +kernel
theorem dX0_weekdayOf_6 : decode cX0_weekdayOf 6 = .ok (.imul, 1) := by decide +kernel
theorem dX0_weekdayOf_7 : decode cX0_weekdayOf 7 = .ok (.iload_n 0, 1) := by decide +kernel
theorem dX0_weekdayOf_8 : decode cX0_weekdayOf 8 = .ok (.iconst 1, 1) := by decide +kernel
theorem dX0_weekdayOf_9 : decode cX0_weekdayOf 9 = .ok (.isub, 1) := by decide +kernel
theorem dX0_weekdayOf_10 : decode cX0_weekdayOf 10 = .ok (.invokestatic 15, 3) := by decide +kernel
theorem dX0_weekdayOf_13 : decode cX0_weekdayOf 13 = .ok (.iadd, 1) := by decide +kernel
theorem dX0_weekdayOf_14 : decode cX0_weekdayOf 14 = .ok (.bipush 59, 2) := by decide +kernel
theorem dX0_weekdayOf_16 : decode cX0_weekdayOf 16 = .ok (.iadd, 1) := by decide +kernel
theorem dX0_weekdayOf_17 : decode cX0_weekdayOf 17 = .ok (.istore_n 1, 1) := by decide +kernel
theorem dX0_weekdayOf_18 : decode cX0_weekdayOf 18 = .ok (.iload_n 1, 1) := by decide +kernel
theorem dX0_weekdayOf_19 : decode cX0_weekdayOf 19 = .ok (.iconst 1, 1) := by decide +kernel
theorem dX0_weekdayOf_20 : decode cX0_weekdayOf 20 = .ok (.iadd, 1) := by decide +kernel
theorem dX0_weekdayOf_21 : decode cX0_weekdayOf 21 = .ok (.bipush 7, 2) := by decide +kernel
theorem dX0_weekdayOf_23 : decode cX0_weekdayOf 23 = .ok (.invokestatic 19, 3) := by decide +kernel
theorem dX0_weekdayOf_26 : decode cX0_weekdayOf 26 = .ok (.ireturn, 1) := by decide +kernel
theorem dX1_init_0 : decode cX1_init 0 = .ok (.aload_n 0, 1) := by decide +kernel
theorem dX1_init_1 : decode cX1_init 1 = .ok (.invokespecial 3, 3) := by decide +kernel
theorem dX1_init_4 : decode cX1_init 4 = .ok (.aload_n 0, 1) := by decide +kernel
theorem dX1_init_5 : decode cX1_init 5 = .ok (.iconst 0, 1) := by decide +kernel
theorem dX1_init_6 : decode cX1_init 6 = .ok (.putfield 9, 3) := by decide +kernel
theorem dX1_init_9 : decode cX1_init 9 = .ok (.aload_n 0, 1) := by decide +kernel
theorem dX1_init_10 : decode cX1_init 10 = .ok (.iconst 0, 1) := by decide +kernel
theorem dX1_init_11 : decode cX1_init 11 = .ok (.putfield 15, 3) := by decide +kernel
theorem dX1_init_14 : decode cX1_init 14 = .ok (.aload_n 0, 1) := by decide +kernel
theorem dX1_init_15 : decode cX1_init 15 = .ok (.iconst 0, 1) := by decide +kernel
theorem dX1_init_16 : decode cX1_init 16 = .ok (.putfield 18, 3) := by decide +kernel
theorem dX1_init_19 : decode cX1_init 19 = .ok (.aload_n 0, 1) := by decide +kernel
theorem dX1_init_20 : decode cX1_init 20 = .ok (.iconst 0, 1) := by decide +kernel
theorem dX1_init_21 : decode cX1_init 21 = .ok (.putfield 21, 3) := by decide +kernel
theorem dX1_init_24 : decode cX1_init 24 = .ok (.aload_n 0, 1) := by decide +kernel
theorem dX1_init_25 : decode cX1_init 25 = .ok (.bipush 6, 2) := by decide +kernel
theorem dX1_init_27 : decode cX1_init 27 = .ok (.newarray .int, 2) := by decide +kernel
theorem dX1_init_29 : decode cX1_init 29 = .ok (.putfield 24, 3) := by decide +kernel
theorem dX1_init_32 : decode cX1_init 32 = .ok (.aload_n 0, 1) := by decide +kernel
theorem dX1_init_33 : decode cX1_init 33 = .ok (.bipush 6, 2) := by decide +kernel
theorem dX1_init_35 : decode cX1_init 35 = .ok (.newarray .int, 2) := by decide +kernel
theorem dX1_init_37 : decode cX1_init 37 = .ok (.putfield 28, 3) := by decide +kernel
theorem dX1_init_40 : decode cX1_init 40 = .ok (.aload_n 0, 1) := by decide +kernel
theorem dX1_init_41 : decode cX1_init 41 = .ok (.bipush 6, 2) := by decide +kernel
theorem dX1_init_43 : decode cX1_init 43 = .ok (.newarray .int, 2) := by decide +kernel
theorem dX1_init_45 : decode cX1_init 45 = .ok (.putfield 31, 3) := by decide +kernel
theorem dX1_init_48 : decode cX1_init 48 = .ok (.return_, 1) := by decide +kernel
theorem dX1_begin_0 : decode cX1_begin 0 = .ok (.aload_n 0, 1) := by decide +kernel
theorem dX1_begin_1 : decode cX1_begin 1 = .ok (.aload_n 1, 1) := by decide +kernel
theorem dX1_begin_2 : decode cX1_begin 2 = .ok (.getfield 34, 3) := by decide +kernel
theorem dX1_begin_5 : decode cX1_begin 5 = .ok (.putfield 9, 3) := by decide +kernel
theorem dX1_begin_8 : decode cX1_begin 8 = .ok (.aload_n 0, 1) := by decide +kernel
theorem dX1_begin_9 : decode cX1_begin 9 = .ok (.iconst 0, 1) := by decide +kernel
theorem dX1_begin_10 : decode cX1_begin 10 = .ok (.putfield 15, 3) := by decide +kernel
theorem dX1_begin_13 : decode cX1_begin 13 = .ok (.aload_n 0, 1) := by decide +kernel
theorem dX1_begin_14 : decode cX1_begin 14 = .ok (.iconst 0, 1) := by decide +kernel
theorem dX1_begin_15 : decode cX1_begin 15 = .ok (.putfield 18, 3) := by decide +kernel
theorem dX1_begin_18 : decode cX1_begin 18 = .ok (.aload_n 0, 1) := by decide +kernel
theorem dX1_begin_19 : decode cX1_begin 19 = .ok (.iconst 0, 1) := by decide +kernel
theorem dX1_begin_20 : decode cX1_begin 20 = .ok (.putfield 21, 3) := by decide +kernel
theorem dX1_begin_23 : decode cX1_begin 23 = .ok (.return_, 1) := by decide +kernel
theorem dX1_copyFrom_0 : decode cX1_copyFrom 0 = .ok (.aload_n 0, 1) := by decide +kernel
theorem dX1_copyFrom_1 : decode cX1_copyFrom 1 = .ok (.aload_n 1, 1) := by decide +kernel
theorem dX1_copyFrom_2 : decode cX1_copyFrom 2 = .ok (.getfield 9, 3) := by decide +kernel
theorem dX1_copyFrom_5 : decode cX1_copyFrom 5 = .ok (.putfield 9, 3) := by decide +kernel
theorem dX1_copyFrom_8 : decode cX1_copyFrom 8 = .ok (.aload_n 0, 1) := by decide +kernel
theorem dX1_copyFrom_9 : decode cX1_copyFrom 9 = .ok (.aload_n 1, 1) := by decide +kernel
theorem dX1_copyFrom_10 : decode cX1_copyFrom 10 = .ok (.getfield 15, 3) := by decide +kernel
theorem dX1_copyFrom_13 : decode cX1_copyFrom 13 = .ok (.putfield 15, 3) := by decide +kernel
theorem dX1_copyFrom_16 : decode cX1_copyFrom 16 = .ok (.aload_n 0, 1) := by decide +kernel
theorem dX1_copyFrom_17 : decode cX1_copyFrom 17 = .ok (.aload_n 1, 1) := by decide +kernel
theorem dX1_copyFrom_18 : decode cX1_copyFrom 18 = .ok (.getfield 18, 3) := by decide +kernel
theorem dX1_copyFrom_21 : decode cX1_copyFrom 21 = .ok (.putfield 18, 3) := by decide +kernel
theorem dX1_copyFrom_24 : decode cX1_copyFrom 24 = .ok (.aload_n 0, 1) := by decide +kernel
theorem dX1_copyFrom_25 : decode cX1_copyFrom 25 = .ok (.aload_n 1, 1) := by decide +kernel
theorem dX1_copyFrom_26 : decode cX1_copyFrom 26 = .ok (.getfield 21, 3) := by decide +kernel
theorem dX1_copyFrom_29 : decode cX1_copyFrom 29 = .ok (.putfield 21, 3) := by decide +kernel
theorem dX1_copyFrom_32 : decode cX1_copyFrom 32 = .ok (.iconst 0, 1) := by decide +kernel
theorem dX1_copyFrom_33 : decode cX1_copyFrom 33 = .ok (.istore_n 2, 1) := by decide +kernel
theorem dX1_copyFrom_34 : decode cX1_copyFrom 34 = .ok (.iload_n 2, 1) := by decide +kernel
theorem dX1_copyFrom_35 : decode cX1_copyFrom 35 = .ok (.bipush 6, 2) := by decide +kernel
theorem dX1_copyFrom_37 : decode cX1_copyFrom 37 = .ok (.if_icmp .ge 45, 3) := by decide +kernel
theorem dX1_copyFrom_40 : decode cX1_copyFrom 40 = .ok (.aload_n 0, 1) := by decide +kernel
theorem dX1_copyFrom_41 : decode cX1_copyFrom 41 = .ok (.getfield 24, 3) := by decide +kernel
theorem dX1_copyFrom_44 : decode cX1_copyFrom 44 = .ok (.iload_n 2, 1) := by decide +kernel
theorem dX1_copyFrom_45 : decode cX1_copyFrom 45 = .ok (.aload_n 1, 1) := by decide +kernel
theorem dX1_copyFrom_46 : decode cX1_copyFrom 46 = .ok (.getfield 24, 3) := by decide +kernel
theorem dX1_copyFrom_49 : decode cX1_copyFrom 49 = .ok (.iload_n 2, 1) := by decide +kernel
theorem dX1_copyFrom_50 : decode cX1_copyFrom 50 = .ok (.iaload, 1) := by decide +kernel
theorem dX1_copyFrom_51 : decode cX1_copyFrom 51 = .ok (.iastore, 1) := by decide +kernel
theorem dX1_copyFrom_52 : decode cX1_copyFrom 52 = .ok (.aload_n 0, 1) := by decide +kernel
theorem dX1_copyFrom_53 : decode cX1_copyFrom 53 = .ok (.getfield 28, 3) := by decide +kernel
theorem dX1_copyFrom_56 : decode cX1_copyFrom 56 = .ok (.iload_n 2, 1) := by decide +kernel
theorem dX1_copyFrom_57 : decode cX1_copyFrom 57 = .ok (.aload_n 1, 1) := by decide +kernel
theorem dX1_copyFrom_58 : decode cX1_copyFrom 58 = .ok (.getfield 28, 3) := by decide +kernel
theorem dX1_copyFrom_61 : decode cX1_copyFrom 61 = .ok (.iload_n 2, 1) := by decide +kernel
theorem dX1_copyFrom_62 : decode cX1_copyFrom 62 = .ok (.iaload, 1) := by decide +kernel
theorem dX1_copyFrom_63 : decode cX1_copyFrom 63 = .ok (.iastore, 1) := by decide +kernel
theorem dX1_copyFrom_64 : decode cX1_copyFrom 64 = .ok (.aload_n 0, 1) := by decide +kernel
theorem dX1_copyFrom_65 : decode cX1_copyFrom 65 = .ok (.getfield 31, 3) := by decide +kernel
theorem dX1_copyFrom_68 : decode cX1_copyFrom 68 = .ok (.iload_n 2, 1) := by decide +kernel
theorem dX1_copyFrom_69 : decode cX1_copyFrom 69 = .ok (.aload_n 1, 1) := by decide +kernel
theorem dX1_copyFrom_70 : decode cX1_copyFrom 70 = .ok (.getfield 31, 3) := by decide +kernel
theorem dX1_copyFrom_73 : decode cX1_copyFrom 73 = .ok (.iload_n 2, 1) := by decide +kernel
theorem dX1_copyFrom_74 : decode cX1_copyFrom 74 = .ok (.iaload, 1) := by decide +kernel
theorem dX1_copyFrom_75 : decode cX1_copyFrom 75 = .ok (.iastore, 1) := by decide +kernel
theorem dX1_copyFrom_76 : decode cX1_copyFrom 76 = .ok (.iinc 2 1, 3) := by decide +kernel
theorem dX1_copyFrom_79 : decode cX1_copyFrom 79 = .ok (.goto (-45), 3) := by decide +kernel
theorem dX1_copyFrom_82 : decode cX1_copyFrom 82 = .ok (.return_, 1) := by decide +kernel
theorem dX1_personAt_0 : decode cX1_personAt 0 = .ok (.iload_n 1, 1) := by decide +kernel
theorem dX1_personAt_1 : decode cX1_personAt 1 = .ok (.ifCond .lt 29, 3) := by decide +kernel
theorem dX1_personAt_4 : decode cX1_personAt 4 = .ok (.iload_n 1, 1) := by decide +kernel
theorem dX1_personAt_5 : decode cX1_personAt 5 = .ok (.aload_n 0, 1) := by decide +kernel
theorem dX1_personAt_6 : decode cX1_personAt 6 = .ok (.getfield 21, 3) := by decide +kernel
theorem dX1_personAt_9 : decode cX1_personAt 9 = .ok (.if_icmp .ge 21, 3) := by decide +kernel
theorem dX1_personAt_12 : decode cX1_personAt 12 = .ok (.iload_n 1, 1) := by decide +kernel
theorem dX1_personAt_13 : decode cX1_personAt 13 = .ok (.aload_n 0, 1) := by decide +kernel
theorem dX1_personAt_14 : decode cX1_personAt 14 = .ok (.getfield 24, 3) := by decide +kernel
theorem dX1_personAt_17 : decode cX1_personAt 17 = .ok (.arraylength, 1) := by decide +kernel
theorem dX1_personAt_18 : decode cX1_personAt 18 = .ok (.if_icmp .ge 12, 3) := by decide +kernel
theorem dX1_personAt_21 : decode cX1_personAt 21 = .ok (.aload_n 0, 1) := by decide +kernel
theorem dX1_personAt_22 : decode cX1_personAt 22 = .ok (.getfield 24, 3) := by decide +kernel
theorem dX1_personAt_25 : decode cX1_personAt 25 = .ok (.iload_n 1, 1) := by decide +kernel
theorem dX1_personAt_26 : decode cX1_personAt 26 = .ok (.iaload, 1) := by decide +kernel
theorem dX1_personAt_27 : decode cX1_personAt 27 = .ok (.goto 4, 3) := by decide +kernel
theorem dX1_personAt_30 : decode cX1_personAt 30 = .ok (.iconst (-1), 1) := by decide +kernel
theorem dX1_personAt_31 : decode cX1_personAt 31 = .ok (.ireturn, 1) := by decide +kernel
theorem dX1_placeOf_0 : decode cX1_placeOf 0 = .ok (.iconst 0, 1) := by decide +kernel
theorem dX1_placeOf_1 : decode cX1_placeOf 1 = .ok (.istore_n 2, 1) := by decide +kernel
theorem dX1_placeOf_2 : decode cX1_placeOf 2 = .ok (.iload_n 2, 1) := by decide +kernel
theorem dX1_placeOf_3 : decode cX1_placeOf 3 = .ok (.aload_n 0, 1) := by decide +kernel
theorem dX1_placeOf_4 : decode cX1_placeOf 4 = .ok (.getfield 21, 3) := by decide +kernel
theorem dX1_placeOf_7 : decode cX1_placeOf 7 = .ok (.if_icmp .ge 30, 3) := by decide +kernel
theorem dX1_placeOf_10 : decode cX1_placeOf 10 = .ok (.iload_n 2, 1) := by decide +kernel
theorem dX1_placeOf_11 : decode cX1_placeOf 11 = .ok (.aload_n 0, 1) := by decide +kernel
theorem dX1_placeOf_12 : decode cX1_placeOf 12 = .ok (.getfield 24, 3) := by decide +kernel
theorem dX1_placeOf_15 : decode cX1_placeOf 15 = .ok (.arraylength, 1) := by decide +kernel
theorem dX1_placeOf_16 : decode cX1_placeOf 16 = .ok (.if_icmp .ge 21, 3) := by decide +kernel
theorem dX1_placeOf_19 : decode cX1_placeOf 19 = .ok (.aload_n 0, 1) := by decide +kernel
theorem dX1_placeOf_20 : decode cX1_placeOf 20 = .ok (.getfield 24, 3) := by decide +kernel
theorem dX1_placeOf_23 : decode cX1_placeOf 23 = .ok (.iload_n 2, 1) := by decide +kernel
theorem dX1_placeOf_24 : decode cX1_placeOf 24 = .ok (.iaload, 1) := by decide +kernel
theorem dX1_placeOf_25 : decode cX1_placeOf 25 = .ok (.iload_n 1, 1) := by decide +kernel
theorem dX1_placeOf_26 : decode cX1_placeOf 26 = .ok (.if_icmp .ne 5, 3) := by decide +kernel
theorem dX1_placeOf_29 : decode cX1_placeOf 29 = .ok (.iload_n 2, 1) := by decide +kernel
theorem dX1_placeOf_30 : decode cX1_placeOf 30 = .ok (.ireturn, 1) := by decide +kernel
theorem dX1_placeOf_31 : decode cX1_placeOf 31 = .ok (.iinc 2 1, 3) := by decide +kernel
theorem dX1_placeOf_34 : decode cX1_placeOf 34 = .ok (.goto (-32), 3) := by decide +kernel
theorem dX1_placeOf_37 : decode cX1_placeOf 37 = .ok (.iconst (-1), 1) := by decide +kernel
theorem dX1_placeOf_38 : decode cX1_placeOf 38 = .ok (.ireturn, 1) := by decide +kernel
theorem dX1_isQueued_0 : decode cX1_isQueued 0 = .ok (.aload_n 0, 1) := by decide +kernel
theorem dX1_isQueued_1 : decode cX1_isQueued 1 = .ok (.iload_n 1, 1) := by decide +kernel
theorem dX1_isQueued_2 : decode cX1_isQueued 2 = .ok (.invokevirtual 37, 3) := by decide +kernel
theorem dX1_isQueued_5 : decode cX1_isQueued 5 = .ok (.iconst (-1), 1) := by decide +kernel
theorem dX1_isQueued_6 : decode cX1_isQueued 6 = .ok (.if_icmp .eq 7, 3) := by decide +kernel
theorem dX1_isQueued_9 : decode cX1_isQueued 9 = .ok (.iconst 1, 1) := by decide +kernel
theorem dX1_isQueued_10 : decode cX1_isQueued 10 = .ok (.goto 4, 3) := by decide +kernel
theorem dX1_isQueued_13 : decode cX1_isQueued 13 = .ok (.iconst 0, 1) := by decide +kernel
theorem dX1_isQueued_14 : decode cX1_isQueued 14 = .ok (.ireturn, 1) := by decide +kernel
theorem dX1_queueBits_0 : decode cX1_queueBits 0 = .ok (.iconst 0, 1) := by decide +kernel
theorem dX1_queueBits_1 : decode cX1_queueBits 1 = .ok (.istore_n 1, 1) := by decide +kernel
theorem dX1_queueBits_2 : decode cX1_queueBits 2 = .ok (.iconst 0, 1) := by decide +kernel
theorem dX1_queueBits_3 : decode cX1_queueBits 3 = .ok (.istore_n 2, 1) := by decide +kernel
theorem dX1_queueBits_4 : decode cX1_queueBits 4 = .ok (.iload_n 2, 1) := by decide +kernel
theorem dX1_queueBits_5 : decode cX1_queueBits 5 = .ok (.aload_n 0, 1) := by decide +kernel
theorem dX1_queueBits_6 : decode cX1_queueBits 6 = .ok (.getfield 21, 3) := by decide +kernel
theorem dX1_queueBits_9 : decode cX1_queueBits 9 = .ok (.if_icmp .ge 29, 3) := by decide +kernel
theorem dX1_queueBits_12 : decode cX1_queueBits 12 = .ok (.iload_n 2, 1) := by decide +kernel
theorem dX1_queueBits_13 : decode cX1_queueBits 13 = .ok (.aload_n 0, 1) := by decide +kernel
theorem dX1_queueBits_14 : decode cX1_queueBits 14 = .ok (.getfield 24, 3) := by decide +kernel
theorem dX1_queueBits_17 : decode cX1_queueBits 17 = .ok (.arraylength, 1) := by decide +kernel
theorem dX1_queueBits_18 : decode cX1_queueBits 18 = .ok (.if_icmp .ge 20, 3) := by decide +kernel
theorem dX1_queueBits_21 : decode cX1_queueBits 21 = .ok (.iload_n 1, 1) := by decide +kernel
theorem dX1_queueBits_22 : decode cX1_queueBits 22 = .ok (.iconst 1, 1) := by decide +kernel
theorem dX1_queueBits_23 : decode cX1_queueBits 23 = .ok (.aload_n 0, 1) := by decide +kernel
theorem dX1_queueBits_24 : decode cX1_queueBits 24 = .ok (.getfield 24, 3) := by decide +kernel
theorem dX1_queueBits_27 : decode cX1_queueBits 27 = .ok (.iload_n 2, 1) := by decide +kernel
theorem dX1_queueBits_28 : decode cX1_queueBits 28 = .ok (.iaload, 1) := by decide +kernel
theorem dX1_queueBits_29 : decode cX1_queueBits 29 = .ok (.ishl, 1) := by decide +kernel
theorem dX1_queueBits_30 : decode cX1_queueBits 30 = .ok (.ior, 1) := by decide +kernel
theorem dX1_queueBits_31 : decode cX1_queueBits 31 = .ok (.istore_n 1, 1) := by decide +kernel
theorem dX1_queueBits_32 : decode cX1_queueBits 32 = .ok (.iinc 2 1, 3) := by decide +kernel
theorem dX1_queueBits_35 : decode cX1_queueBits 35 = .ok (.goto (-31), 3) := by decide +kernel
theorem dX1_queueBits_38 : decode cX1_queueBits 38 = .ok (.iload_n 1, 1) := by decide +kernel
theorem dX1_queueBits_39 : decode cX1_queueBits 39 = .ok (.ireturn, 1) := by decide +kernel
theorem dX1_stoodOf_0 : decode cX1_stoodOf 0 = .ok (.iload_n 1, 1) := by decide +kernel
theorem dX1_stoodOf_1 : decode cX1_stoodOf 1 = .ok (.ifCond .lt 26, 3) := by decide +kernel
theorem dX1_stoodOf_4 : decode cX1_stoodOf 4 = .ok (.iload_n 1, 1) := by decide +kernel
theorem dX1_stoodOf_5 : decode cX1_stoodOf 5 = .ok (.aload_n 0, 1) := by decide +kernel
theorem dX1_stoodOf_6 : decode cX1_stoodOf 6 = .ok (.getfield 28, 3) := by decide +kernel
theorem dX1_stoodOf_9 : decode cX1_stoodOf 9 = .ok (.arraylength, 1) := by decide +kernel
theorem dX1_stoodOf_10 : decode cX1_stoodOf 10 = .ok (.if_icmp .ge 17, 3) := by decide +kernel
theorem dX1_stoodOf_13 : decode cX1_stoodOf 13 = .ok (.aload_n 0, 1) := by decide +kernel
theorem dX1_stoodOf_14 : decode cX1_stoodOf 14 = .ok (.getfield 9, 3) := by decide +kernel
theorem dX1_stoodOf_17 : decode cX1_stoodOf 17 = .ok (.aload_n 0, 1) := by decide +kernel
theorem dX1_stoodOf_18 : decode cX1_stoodOf 18 = .ok (.getfield 28, 3) := by decide +kernel
theorem dX1_stoodOf_21 : decode cX1_stoodOf 21 = .ok (.iload_n 1, 1) := by decide +kernel
theorem dX1_stoodOf_22 : decode cX1_stoodOf 22 = .ok (.iaload, 1) := by decide +kernel
theorem dX1_stoodOf_23 : decode cX1_stoodOf 23 = .ok (.isub, 1) := by decide +kernel
theorem dX1_stoodOf_24 : decode cX1_stoodOf 24 = .ok (.goto 4, 3) := by decide +kernel
theorem dX1_stoodOf_27 : decode cX1_stoodOf 27 = .ok (.iconst 0, 1) := by decide +kernel
theorem dX1_stoodOf_28 : decode cX1_stoodOf 28 = .ok (.ireturn, 1) := by decide +kernel
theorem dX1_daysOf_0 : decode cX1_daysOf 0 = .ok (.iload_n 1, 1) := by decide +kernel
theorem dX1_daysOf_1 : decode cX1_daysOf 1 = .ok (.ifCond .lt 21, 3) := by decide +kernel
theorem dX1_daysOf_4 : decode cX1_daysOf 4 = .ok (.iload_n 1, 1) := by decide +kernel
theorem dX1_daysOf_5 : decode cX1_daysOf 5 = .ok (.aload_n 0, 1) := by decide +kernel
theorem dX1_daysOf_6 : decode cX1_daysOf 6 = .ok (.getfield 31, 3) := by decide +kernel
theorem dX1_daysOf_9 : decode cX1_daysOf 9 = .ok (.arraylength, 1) := by decide +kernel
theorem dX1_daysOf_10 : decode cX1_daysOf 10 = .ok (.if_icmp .ge 12, 3) := by decide +kernel
theorem dX1_daysOf_13 : decode cX1_daysOf 13 = .ok (.aload_n 0, 1) := by decide +kernel
theorem dX1_daysOf_14 : decode cX1_daysOf 14 = .ok (.getfield 31, 3) := by decide +kernel
theorem dX1_daysOf_17 : decode cX1_daysOf 17 = .ok (.iload_n 1, 1) := by decide +kernel
theorem dX1_daysOf_18 : decode cX1_daysOf 18 = .ok (.iaload, 1) := by decide +kernel
theorem dX1_daysOf_19 : decode cX1_daysOf 19 = .ok (.goto 4, 3) := by decide +kernel
theorem dX1_daysOf_22 : decode cX1_daysOf 22 = .ok (.iconst 0, 1) := by decide +kernel
theorem dX1_daysOf_23 : decode cX1_daysOf 23 = .ok (.ireturn, 1) := by decide +kernel
theorem dX1_mayEnter_0 : decode cX1_mayEnter 0 = .ok (.aload_n 1, 1) := by decide +kernel
theorem dX1_mayEnter_1 : decode cX1_mayEnter 1 = .ok (.iload_n 2, 1) := by decide +kernel
theorem dX1_mayEnter_2 : decode cX1_mayEnter 2 = .ok (.invokevirtual 41, 3) := by decide +kernel
theorem dX1_mayEnter_5 : decode cX1_mayEnter 5 = .ok (.ifCond .eq 50, 3) := by decide +kernel
theorem dX1_mayEnter_8 : decode cX1_mayEnter 8 = .ok (.aload_n 0, 1) := by decide +kernel
theorem dX1_mayEnter_9 : decode cX1_mayEnter 9 = .ok (.iload_n 2, 1) := by decide +kernel
theorem dX1_mayEnter_10 : decode cX1_mayEnter 10 = .ok (.invokevirtual 45, 3) := by decide +kernel
theorem dX1_mayEnter_13 : decode cX1_mayEnter 13 = .ok (.ifCond .ne 42, 3) := by decide +kernel
theorem dX1_mayEnter_16 : decode cX1_mayEnter 16 = .ok (.aload_n 0, 1) := by decide +kernel
theorem dX1_mayEnter_17 : decode cX1_mayEnter 17 = .ok (.getfield 18, 3) := by decide +kernel
theorem dX1_mayEnter_20 : decode cX1_mayEnter 20 = .ok (.iload_n 2, 1) := by decide +kernel
theorem dX1_mayEnter_21 : decode cX1_mayEnter 21 = .ok (.ishr, 1) := by decide +kernel
theorem dX1_mayEnter_22 : decode cX1_mayEnter 22 = .ok (.iconst 1, 1) := by decide +kernel
theorem dX1_mayEnter_23 : decode cX1_mayEnter 23 = .ok (.iand, 1) := by decide +kernel
theorem dX1_mayEnter_24 : decode cX1_mayEnter 24 = .ok (.ifCond .ne 31, 3) := by decide +kernel
theorem dX1_mayEnter_27 : decode cX1_mayEnter 27 = .ok (.aload_n 1, 1) := by decide +kernel
theorem dX1_mayEnter_28 : decode cX1_mayEnter 28 = .ok (.iload_n 2, 1) := by decide +kernel
theorem dX1_mayEnter_29 : decode cX1_mayEnter 29 = .ok (.aload_n 0, 1) := by decide +kernel
theorem dX1_mayEnter_30 : decode cX1_mayEnter 30 = .ok (.getfield 9, 3) := by decide +kernel
theorem dX1_mayEnter_33 : decode cX1_mayEnter 33 = .ok (.invokevirtual 48, 3) := by decide +kernel
theorem dX1_mayEnter_36 : decode cX1_mayEnter 36 = .ok (.ifCond .ne 19, 3) := by decide +kernel
theorem dX1_mayEnter_39 : decode cX1_mayEnter 39 = .ok (.aload_n 1, 1) := by decide +kernel
theorem dX1_mayEnter_40 : decode cX1_mayEnter 40 = .ok (.iload_n 2, 1) := by decide +kernel
theorem dX1_mayEnter_41 : decode cX1_mayEnter 41 = .ok (.invokevirtual 52, 3) := by decide +kernel
theorem dX1_mayEnter_44 : decode cX1_mayEnter 44 = .ok (.aload_n 0, 1) := by decide +kernel
theorem dX1_mayEnter_45 : decode cX1_mayEnter 45 = .ok (.getfield 9, 3) := by decide +kernel
theorem dX1_mayEnter_48 : decode cX1_mayEnter 48 = .ok (.if_icmp .gt 7, 3) := by decide +kernel
theorem dX1_mayEnter_51 : decode cX1_mayEnter 51 = .ok (.iconst 1, 1) := by decide +kernel
theorem dX1_mayEnter_52 : decode cX1_mayEnter 52 = .ok (.goto 4, 3) := by decide +kernel
theorem dX1_mayEnter_55 : decode cX1_mayEnter 55 = .ok (.iconst 0, 1) := by decide +kernel
theorem dX1_mayEnter_56 : decode cX1_mayEnter 56 = .ok (.ireturn, 1) := by decide +kernel
theorem dX1_enter_0 : decode cX1_enter 0 = .ok (.iload_n 1, 1) := by decide +kernel
theorem dX1_enter_1 : decode cX1_enter 1 = .ok (.ifCond .lt 62, 3) := by decide +kernel
theorem dX1_enter_4 : decode cX1_enter 4 = .ok (.iload_n 1, 1) := by decide +kernel
theorem dX1_enter_5 : decode cX1_enter 5 = .ok (.bipush 6, 2) := by decide +kernel
theorem dX1_enter_7 : decode cX1_enter 7 = .ok (.if_icmp .ge 56, 3) := by decide +kernel
theorem dX1_enter_10 : decode cX1_enter 10 = .ok (.aload_n 0, 1) := by decide +kernel
theorem dX1_enter_11 : decode cX1_enter 11 = .ok (.getfield 21, 3) := by decide +kernel
theorem dX1_enter_14 : decode cX1_enter 14 = .ok (.ifCond .lt 49, 3) := by decide +kernel
theorem dX1_enter_17 : decode cX1_enter 17 = .ok (.aload_n 0, 1) := by decide +kernel
theorem dX1_enter_18 : decode cX1_enter 18 = .ok (.getfield 21, 3) := by decide +kernel
theorem dX1_enter_21 : decode cX1_enter 21 = .ok (.bipush 6, 2) := by decide +kernel
theorem dX1_enter_23 : decode cX1_enter 23 = .ok (.if_icmp .ge 40, 3) := by decide +kernel
theorem dX1_enter_26 : decode cX1_enter 26 = .ok (.aload_n 0, 1) := by decide +kernel
theorem dX1_enter_27 : decode cX1_enter 27 = .ok (.getfield 28, 3) := by decide +kernel
theorem dX1_enter_30 : decode cX1_enter 30 = .ok (.iload_n 1, 1) := by decide +kernel
theorem dX1_enter_31 : decode cX1_enter 31 = .ok (.aload_n 0, 1) := by decide +kernel
theorem dX1_enter_32 : decode cX1_enter 32 = .ok (.getfield 9, 3) := by decide +kernel
theorem dX1_enter_35 : decode cX1_enter 35 = .ok (.iastore, 1) := by decide +kernel
theorem dX1_enter_36 : decode cX1_enter 36 = .ok (.aload_n 0, 1) := by decide +kernel
theorem dX1_enter_37 : decode cX1_enter 37 = .ok (.getfield 31, 3) := by decide +kernel
theorem dX1_enter_40 : decode cX1_enter 40 = .ok (.iload_n 1, 1) := by decide +kernel
theorem dX1_enter_41 : decode cX1_enter 41 = .ok (.iconst 0, 1) := by decide +kernel
theorem dX1_enter_42 : decode cX1_enter 42 = .ok (.iastore, 1) := by decide +kernel
theorem dX1_enter_43 : decode cX1_enter 43 = .ok (.aload_n 0, 1) := by decide +kernel
theorem dX1_enter_44 : decode cX1_enter 44 = .ok (.getfield 24, 3) := by decide +kernel
theorem dX1_enter_47 : decode cX1_enter 47 = .ok (.aload_n 0, 1) := by decide +kernel
theorem dX1_enter_48 : decode cX1_enter 48 = .ok (.getfield 21, 3) := by decide +kernel
theorem dX1_enter_51 : decode cX1_enter 51 = .ok (.iload_n 1, 1) := by decide +kernel
theorem dX1_enter_52 : decode cX1_enter 52 = .ok (.iastore, 1) := by decide +kernel
theorem dX1_enter_53 : decode cX1_enter 53 = .ok (.aload_n 0, 1) := by decide +kernel
theorem dX1_enter_54 : decode cX1_enter 54 = .ok (.dup, 1) := by decide +kernel
theorem dX1_enter_55 : decode cX1_enter 55 = .ok (.getfield 21, 3) := by decide +kernel
theorem dX1_enter_58 : decode cX1_enter 58 = .ok (.iconst 1, 1) := by decide +kernel
theorem dX1_enter_59 : decode cX1_enter 59 = .ok (.iadd, 1) := by decide +kernel
theorem dX1_enter_60 : decode cX1_enter 60 = .ok (.putfield 21, 3) := by decide +kernel
theorem dX1_enter_63 : decode cX1_enter 63 = .ok (.return_, 1) := by decide +kernel
theorem dX1_goOut_0 : decode cX1_goOut 0 = .ok (.iload_n 1, 1) := by decide +kernel
theorem dX1_goOut_1 : decode cX1_goOut 1 = .ok (.ifCond .lt 16, 3) := by decide +kernel
theorem dX1_goOut_4 : decode cX1_goOut 4 = .ok (.iload_n 1, 1) := by decide +kernel
theorem dX1_goOut_5 : decode cX1_goOut 5 = .ok (.bipush 6, 2) := by decide +kernel
theorem dX1_goOut_7 : decode cX1_goOut 7 = .ok (.if_icmp .ge 10, 3) := by decide +kernel
theorem dX1_goOut_10 : decode cX1_goOut 10 = .ok (.aload_n 0, 1) := by decide +kernel
theorem dX1_goOut_11 : decode cX1_goOut 11 = .ok (.iconst 1, 1) := by decide +kernel
theorem dX1_goOut_12 : decode cX1_goOut 12 = .ok (.iload_n 1, 1) := by decide +kernel
theorem dX1_goOut_13 : decode cX1_goOut 13 = .ok (.ishl, 1) := by decide +kernel
theorem dX1_goOut_14 : decode cX1_goOut 14 = .ok (.invokevirtual 55, 3) := by decide +kernel
theorem dX1_goOut_17 : decode cX1_goOut 17 = .ok (.return_, 1) := by decide +kernel
theorem dX1_takeOut_0 : decode cX1_takeOut 0 = .ok (.iconst 0, 1) := by decide +kernel
theorem dX1_takeOut_1 : decode cX1_takeOut 1 = .ok (.istore_n 2, 1) := by decide +kernel
theorem dX1_takeOut_2 : decode cX1_takeOut 2 = .ok (.iconst 0, 1) := by decide +kernel
theorem dX1_takeOut_3 : decode cX1_takeOut 3 = .ok (.istore_n 3, 1) := by decide +kernel
theorem dX1_takeOut_4 : decode cX1_takeOut 4 = .ok (.iload_n 3, 1) := by decide +kernel
theorem dX1_takeOut_5 : decode cX1_takeOut 5 = .ok (.aload_n 0, 1) := by decide +kernel
theorem dX1_takeOut_6 : decode cX1_takeOut 6 = .ok (.getfield 21, 3) := by decide +kernel
theorem dX1_takeOut_9 : decode cX1_takeOut 9 = .ok (.if_icmp .ge 46, 3) := by decide +kernel
theorem dX1_takeOut_12 : decode cX1_takeOut 12 = .ok (.iload_n 3, 1) := by decide +kernel
theorem dX1_takeOut_13 : decode cX1_takeOut 13 = .ok (.aload_n 0, 1) := by decide +kernel
theorem dX1_takeOut_14 : decode cX1_takeOut 14 = .ok (.getfield 24, 3) := by decide +kernel
theorem dX1_takeOut_17 : decode cX1_takeOut 17 = .ok (.arraylength, 1) := by decide +kernel
theorem dX1_takeOut_18 : decode cX1_takeOut 18 = .ok (.if_icmp .ge 37, 3) := by decide +kernel
theorem dX1_takeOut_21 : decode cX1_takeOut 21 = .ok (.aload_n 0, 1) := by decide +kernel
theorem dX1_takeOut_22 : decode cX1_takeOut 22 = .ok (.getfield 24, 3) := by decide +kernel
theorem dX1_takeOut_25 : decode cX1_takeOut 25 = .ok (.iload_n 3, 1) := by decide +kernel
theorem dX1_takeOut_26 : decode cX1_takeOut 26 = .ok (.iaload, 1) := by decide +kernel
theorem dX1_takeOut_27 : decode cX1_takeOut 27 = .ok (.istore 4, 2) := by decide +kernel
theorem dX1_takeOut_29 : decode cX1_takeOut 29 = .ok (.iload_n 1, 1) := by decide +kernel
theorem dX1_takeOut_30 : decode cX1_takeOut 30 = .ok (.iload 4, 2) := by decide +kernel
theorem dX1_takeOut_32 : decode cX1_takeOut 32 = .ok (.ishr, 1) := by decide +kernel
theorem dX1_takeOut_33 : decode cX1_takeOut 33 = .ok (.iconst 1, 1) := by decide +kernel
theorem dX1_takeOut_34 : decode cX1_takeOut 34 = .ok (.iand, 1) := by decide +kernel
theorem dX1_takeOut_35 : decode cX1_takeOut 35 = .ok (.ifCond .ne 14, 3) := by decide +kernel
theorem dX1_takeOut_38 : decode cX1_takeOut 38 = .ok (.aload_n 0, 1) := by decide +kernel
theorem dX1_takeOut_39 : decode cX1_takeOut 39 = .ok (.getfield 24, 3) := by decide +kernel
theorem dX1_takeOut_42 : decode cX1_takeOut 42 = .ok (.iload_n 2, 1) := by decide +kernel
theorem dX1_takeOut_43 : decode cX1_takeOut 43 = .ok (.iload 4, 2) := by decide +kernel
theorem dX1_takeOut_45 : decode cX1_takeOut 45 = .ok (.iastore, 1) := by decide +kernel
theorem dX1_takeOut_46 : decode cX1_takeOut 46 = .ok (.iinc 2 1, 3) := by decide +kernel
theorem dX1_takeOut_49 : decode cX1_takeOut 49 = .ok (.iinc 3 1, 3) := by decide +kernel
theorem dX1_takeOut_52 : decode cX1_takeOut 52 = .ok (.goto (-48), 3) := by decide +kernel
theorem dX1_takeOut_55 : decode cX1_takeOut 55 = .ok (.aload_n 0, 1) := by decide +kernel
theorem dX1_takeOut_56 : decode cX1_takeOut 56 = .ok (.iload_n 2, 1) := by decide +kernel
theorem dX1_takeOut_57 : decode cX1_takeOut 57 = .ok (.putfield 21, 3) := by decide +kernel
theorem dX1_takeOut_60 : decode cX1_takeOut 60 = .ok (.return_, 1) := by decide +kernel
theorem dX1_light_0 : decode cX1_light 0 = .ok (.aload_n 0, 1) := by decide +kernel
theorem dX1_light_1 : decode cX1_light 1 = .ok (.bipush 60, 2) := by decide +kernel
theorem dX1_light_3 : decode cX1_light 3 = .ok (.aload_n 0, 1) := by decide +kernel
theorem dX1_light_4 : decode cX1_light 4 = .ok (.getfield 15, 3) := by decide +kernel
theorem dX1_light_7 : decode cX1_light 7 = .ok (.iload_n 1, 1) := by decide +kernel
theorem dX1_light_8 : decode cX1_light 8 = .ok (.iadd, 1) := by decide +kernel
theorem dX1_light_9 : decode cX1_light 9 = .ok (.invokestatic 59, 3) := by decide +kernel
theorem dX1_light_12 : decode cX1_light 12 = .ok (.putfield 15, 3) := by decide +kernel
theorem dX1_light_15 : decode cX1_light 15 = .ok (.return_, 1) := by decide +kernel
theorem dX1_changePlaces_0 : decode cX1_changePlaces 0 = .ok (.aload_n 0, 1) := by decide +kernel
theorem dX1_changePlaces_1 : decode cX1_changePlaces 1 = .ok (.iload_n 1, 1) := by decide +kernel
theorem dX1_changePlaces_2 : decode cX1_changePlaces 2 = .ok (.invokevirtual 37, 3) := by decide +kernel
theorem dX1_changePlaces_5 : decode cX1_changePlaces 5 = .ok (.istore_n 3, 1) := by decide +kernel
theorem dX1_changePlaces_6 : decode cX1_changePlaces 6 = .ok (.aload_n 0, 1) := by decide +kernel
theorem dX1_changePlaces_7 : decode cX1_changePlaces 7 = .ok (.iload_n 2, 1) := by decide +kernel
theorem dX1_changePlaces_8 : decode cX1_changePlaces 8 = .ok (.invokevirtual 37, 3) := by decide +kernel
theorem dX1_changePlaces_11 : decode cX1_changePlaces 11 = .ok (.istore 4, 2) := by decide +kernel
theorem dX1_changePlaces_13 : decode cX1_changePlaces 13 = .ok (.iload_n 3, 1) := by decide +kernel
theorem dX1_changePlaces_14 : decode cX1_changePlaces 14 = .ok (.ifCond .lt 42, 3) := by decide +kernel
theorem dX1_changePlaces_17 : decode cX1_changePlaces 17 = .ok (.iload_n 3, 1) := by decide +kernel
theorem dX1_changePlaces_18 : decode cX1_changePlaces 18 = .ok (.aload_n 0, 1) := by decide +kernel
theorem dX1_changePlaces_19 : decode cX1_changePlaces 19 = .ok (.getfield 24, 3) := by decide +kernel
theorem dX1_changePlaces_22 : decode cX1_changePlaces 22 = .ok (.arraylength, 1) := by decide +kernel
theorem dX1_changePlaces_23 : decode cX1_changePlaces 23 = .ok (.if_icmp .ge 33, 3) := by decide +kernel
theorem dX1_changePlaces_26 : decode cX1_changePlaces 26 = .ok (.iload 4, 2) := by decide +kernel
theorem dX1_changePlaces_28 : decode cX1_changePlaces 28 = .ok (.ifCond .lt 28, 3) := by decide +kernel
theorem dX1_changePlaces_31 : decode cX1_changePlaces 31 = .ok (.iload 4, 2) := by decide +kernel
theorem dX1_changePlaces_33 : decode cX1_changePlaces 33 = .ok (.aload_n 0, 1) := by decide +kernel
theorem dX1_changePlaces_34 : decode cX1_changePlaces 34 = .ok (.getfield 24, 3) := by decide +kernel
theorem dX1_changePlaces_37 : decode cX1_changePlaces 37 = .ok (.arraylength, 1) := by decide +kernel
theorem dX1_changePlaces_38 : decode cX1_changePlaces 38 = .ok (.if_icmp .ge 18, 3) := by decide +kernel
theorem dX1_changePlaces_41 : decode cX1_changePlaces 41 = .ok (.aload_n 0, 1) := by decide +kernel
theorem dX1_changePlaces_42 : decode cX1_changePlaces 42 = .ok (.getfield 24, 3) := by decide +kernel
theorem dX1_changePlaces_45 : decode cX1_changePlaces 45 = .ok (.iload_n 3, 1) := by decide +kernel
theorem dX1_changePlaces_46 : decode cX1_changePlaces 46 = .ok (.iload_n 2, 1) := by decide +kernel
theorem dX1_changePlaces_47 : decode cX1_changePlaces 47 = .ok (.iastore, 1) := by decide +kernel
theorem dX1_changePlaces_48 : decode cX1_changePlaces 48 = .ok (.aload_n 0, 1) := by decide +kernel
theorem dX1_changePlaces_49 : decode cX1_changePlaces 49 = .ok (.getfield 24, 3) := by decide +kernel
theorem dX1_changePlaces_52 : decode cX1_changePlaces 52 = .ok (.iload 4, 2) := by decide +kernel
theorem dX1_changePlaces_54 : decode cX1_changePlaces 54 = .ok (.iload_n 1, 1) := by decide +kernel
theorem dX1_changePlaces_55 : decode cX1_changePlaces 55 = .ok (.iastore, 1) := by decide +kernel
theorem dX1_changePlaces_56 : decode cX1_changePlaces 56 = .ok (.return_, 1) := by decide +kernel
theorem dX1_countDay_0 : decode cX1_countDay 0 = .ok (.iconst 0, 1) := by decide +kernel
theorem dX1_countDay_1 : decode cX1_countDay 1 = .ok (.istore_n 1, 1) := by decide +kernel
theorem dX1_countDay_2 : decode cX1_countDay 2 = .ok (.iload_n 1, 1) := by decide +kernel
theorem dX1_countDay_3 : decode cX1_countDay 3 = .ok (.aload_n 0, 1) := by decide +kernel
theorem dX1_countDay_4 : decode cX1_countDay 4 = .ok (.getfield 21, 3) := by decide +kernel
theorem dX1_countDay_7 : decode cX1_countDay 7 = .ok (.if_icmp .ge 48, 3) := by decide +kernel
theorem dX1_countDay_10 : decode cX1_countDay 10 = .ok (.iload_n 1, 1) := by decide +kernel
theorem dX1_countDay_11 : decode cX1_countDay 11 = .ok (.aload_n 0, 1) := by decide +kernel
theorem dX1_countDay_12 : decode cX1_countDay 12 = .ok (.getfield 24, 3) := by decide +kernel
theorem dX1_countDay_15 : decode cX1_countDay 15 = .ok (.arraylength, 1) := by decide +kernel
theorem dX1_countDay_16 : decode cX1_countDay 16 = .ok (.if_icmp .ge 39, 3) := by decide +kernel
theorem dX1_countDay_19 : decode cX1_countDay 19 = .ok (.aload_n 0, 1) := by decide +kernel
theorem dX1_countDay_20 : decode cX1_countDay 20 = .ok (.getfield 24, 3) := by decide +kernel
theorem dX1_countDay_23 : decode cX1_countDay 23 = .ok (.iload_n 1, 1) := by decide +kernel
theorem dX1_countDay_24 : decode cX1_countDay 24 = .ok (.iaload, 1) := by decide +kernel
theorem dX1_countDay_25 : decode cX1_countDay 25 = .ok (.istore_n 2, 1) := by decide +kernel
theorem dX1_countDay_26 : decode cX1_countDay 26 = .ok (.iload_n 2, 1) := by decide +kernel
theorem dX1_countDay_27 : decode cX1_countDay 27 = .ok (.ifCond .lt 22, 3) := by decide +kernel
theorem dX1_countDay_30 : decode cX1_countDay 30 = .ok (.iload_n 2, 1) := by decide +kernel
theorem dX1_countDay_31 : decode cX1_countDay 31 = .ok (.aload_n 0, 1) := by decide +kernel
theorem dX1_countDay_32 : decode cX1_countDay 32 = .ok (.getfield 31, 3) := by decide +kernel
theorem dX1_countDay_35 : decode cX1_countDay 35 = .ok (.arraylength, 1) := by decide +kernel
theorem dX1_countDay_36 : decode cX1_countDay 36 = .ok (.if_icmp .ge 13, 3) := by decide +kernel
theorem dX1_countDay_39 : decode cX1_countDay 39 = .ok (.aload_n 0, 1) := by decide +kernel
theorem dX1_countDay_40 : decode cX1_countDay 40 = .ok (.getfield 31, 3) := by decide +kernel
theorem dX1_countDay_43 : decode cX1_countDay 43 = .ok (.iload_n 2, 1) := by decide +kernel
theorem dX1_countDay_44 : decode cX1_countDay 44 = .ok (.dup2, 1) := by decide +kernel
theorem dX1_countDay_45 : decode cX1_countDay 45 = .ok (.iaload, 1) := by decide +kernel
theorem dX1_countDay_46 : decode cX1_countDay 46 = .ok (.iconst 1, 1) := by decide +kernel
theorem dX1_countDay_47 : decode cX1_countDay 47 = .ok (.iadd, 1) := by decide +kernel
theorem dX1_countDay_48 : decode cX1_countDay 48 = .ok (.iastore, 1) := by decide +kernel
theorem dX1_countDay_49 : decode cX1_countDay 49 = .ok (.iinc 1 1, 3) := by decide +kernel
theorem dX1_countDay_52 : decode cX1_countDay 52 = .ok (.goto (-50), 3) := by decide +kernel
theorem dX1_countDay_55 : decode cX1_countDay 55 = .ok (.return_, 1) := by decide +kernel
theorem dX2_init_0 : decode cX2_init 0 = .ok (.aload_n 0, 1) := by decide +kernel
theorem dX2_init_1 : decode cX2_init 1 = .ok (.invokespecial 3, 3) := by decide +kernel
theorem dX2_init_4 : decode cX2_init 4 = .ok (.aload_n 0, 1) := by decide +kernel
theorem dX2_init_5 : decode cX2_init 5 = .ok (.bipush 6, 2) := by decide +kernel
theorem dX2_init_7 : decode cX2_init 7 = .ok (.newarray .int, 2) := by decide +kernel
theorem dX2_init_9 : decode cX2_init 9 = .ok (.putfield 9, 3) := by decide +kernel
theorem dX2_init_12 : decode cX2_init 12 = .ok (.aload_n 0, 1) := by decide +kernel
theorem dX2_init_13 : decode cX2_init 13 = .ok (.bipush 6, 2) := by decide +kernel
theorem dX2_init_15 : decode cX2_init 15 = .ok (.newarray .long, 2) := by decide +kernel
theorem dX2_init_17 : decode cX2_init 17 = .ok (.putfield 15, 3) := by decide +kernel
theorem dX2_init_20 : decode cX2_init 20 = .ok (.aload_n 0, 1) := by decide +kernel
theorem dX2_init_21 : decode cX2_init 21 = .ok (.iconst 0, 1) := by decide +kernel
theorem dX2_init_22 : decode cX2_init 22 = .ok (.putfield 19, 3) := by decide +kernel
theorem dX2_init_25 : decode cX2_init 25 = .ok (.aload_n 0, 1) := by decide +kernel
theorem dX2_init_26 : decode cX2_init 26 = .ok (.iconst 0, 1) := by decide +kernel
theorem dX2_init_27 : decode cX2_init 27 = .ok (.putfield 23, 3) := by decide +kernel
theorem dX2_init_30 : decode cX2_init 30 = .ok (.aload_n 0, 1) := by decide +kernel
theorem dX2_init_31 : decode cX2_init 31 = .ok (.iconst 0, 1) := by decide +kernel
theorem dX2_init_32 : decode cX2_init 32 = .ok (.putfield 26, 3) := by decide +kernel
theorem dX2_init_35 : decode cX2_init 35 = .ok (.return_, 1) := by decide +kernel
theorem dX2_passYear_0 : decode cX2_passYear 0 = .ok (.aload_n 2, 1) := by decide +kernel
theorem dX2_passYear_1 : decode cX2_passYear 1 = .ok (.getfield 29, 3) := by decide +kernel
theorem dX2_passYear_4 : decode cX2_passYear 4 = .ok (.iconst 1, 1) := by decide +kernel
theorem dX2_passYear_5 : decode cX2_passYear 5 = .ok (.iadd, 1) := by decide +kernel
theorem dX2_passYear_6 : decode cX2_passYear 6 = .ok (.istore 4, 2) := by decide +kernel
theorem dX2_passYear_8 : decode cX2_passYear 8 = .ok (.iload_n 3, 1) := by decide +kernel
theorem dX2_passYear_9 : decode cX2_passYear 9 = .ok (.ifCond .eq 11, 3) := by decide +kernel
theorem dX2_passYear_12 : decode cX2_passYear 12 = .ok (.iload 4, 2) := by decide +kernel
theorem dX2_passYear_14 : decode cX2_passYear 14 = .ok (.invokestatic 34, 3) := by decide +kernel
theorem dX2_passYear_17 : decode cX2_passYear 17 = .ok (.goto 8, 3) := by decide +kernel
theorem dX2_passYear_20 : decode cX2_passYear 20 = .ok (.iload 4, 2) := by decide +kernel
theorem dX2_passYear_22 : decode cX2_passYear 22 = .ok (.invokestatic 40, 3) := by decide +kernel
theorem dX2_passYear_25 : decode cX2_passYear 25 = .ok (.istore 5, 2) := by decide +kernel
theorem dX2_passYear_27 : decode cX2_passYear 27 = .ok (.aload_n 0, 1) := by decide +kernel
theorem dX2_passYear_28 : decode cX2_passYear 28 = .ok (.aload_n 1, 1) := by decide +kernel
theorem dX2_passYear_29 : decode cX2_passYear 29 = .ok (.aload_n 2, 1) := by decide +kernel
theorem dX2_passYear_30 : decode cX2_passYear 30 = .ok (.iload 4, 2) := by decide +kernel
theorem dX2_passYear_32 : decode cX2_passYear 32 = .ok (.aload_n 1, 1) := by decide +kernel
theorem dX2_passYear_33 : decode cX2_passYear 33 = .ok (.getfield 43, 3) := by decide +kernel
theorem dX2_passYear_36 : decode cX2_passYear 36 = .ok (.iload 5, 2) := by decide +kernel
theorem dX2_passYear_38 : decode cX2_passYear 38 = .ok (.invokevirtual 48, 3) := by decide +kernel
theorem dX2_passYear_41 : decode cX2_passYear 41 = .ok (.ireturn, 1) := by decide +kernel
theorem dX2_passToDay_0 : decode cX2_passToDay 0 = .ok (.aload_n 0, 1) := by decide +kernel
theorem dX2_passToDay_1 : decode cX2_passToDay 1 = .ok (.aload_n 1, 1) := by decide +kernel
theorem dX2_passToDay_2 : decode cX2_passToDay 2 = .ok (.aload_n 2, 1) := by decide +kernel
theorem dX2_passToDay_3 : decode cX2_passToDay 3 = .ok (.aload_n 2, 1) := by decide +kernel
theorem dX2_passToDay_4 : decode cX2_passToDay 4 = .ok (.getfield 29, 3) := by decide +kernel
theorem dX2_passToDay_7 : decode cX2_passToDay 7 = .ok (.invokestatic 52, 3) := by decide +kernel
theorem dX2_passToDay_10 : decode cX2_passToDay 10 = .ok (.iload_n 3, 1) := by decide +kernel
theorem dX2_passToDay_11 : decode cX2_passToDay 11 = .ok (.iconst 1, 1) := by decide +kernel
theorem dX2_passToDay_12 : decode cX2_passToDay 12 = .ok (.invokevirtual 48, 3) := by decide +kernel
theorem dX2_passToDay_15 : decode cX2_passToDay 15 = .ok (.ireturn, 1) := by decide +kernel
theorem dX2_beginYear_0 : decode cX2_beginYear 0 = .ok (.aload_n 2, 1) := by decide +kernel
theorem dX2_beginYear_1 : decode cX2_beginYear 1 = .ok (.iload_n 3, 1) := by decide +kernel
theorem dX2_beginYear_2 : decode cX2_beginYear 2 = .ok (.putfield 29, 3) := by decide +kernel
theorem dX2_beginYear_5 : decode cX2_beginYear 5 = .ok (.aload_n 2, 1) := by decide +kernel
theorem dX2_beginYear_6 : decode cX2_beginYear 6 = .ok (.aload_n 1, 1) := by decide +kernel
theorem dX2_beginYear_7 : decode cX2_beginYear 7 = .ok (.iload_n 3, 1) := by decide +kernel
theorem dX2_beginYear_8 : decode cX2_beginYear 8 = .ok (.invokevirtual 56, 3) := by decide +kernel
theorem dX2_beginYear_11 : decode cX2_beginYear 11 = .ok (.invokevirtual 59, 3) := by decide +kernel
theorem dX2_beginYear_14 : decode cX2_beginYear 14 = .ok (.iload 5, 2) := by decide +kernel
theorem dX2_beginYear_16 : decode cX2_beginYear 16 = .ok (.ifCond .ne 5, 3) := by decide +kernel
theorem dX2_beginYear_19 : decode cX2_beginYear 19 = .ok (.iconst 0, 1) := by decide +kernel
theorem dX2_beginYear_20 : decode cX2_beginYear 20 = .ok (.ireturn, 1) := by decide +kernel
theorem dX2_beginYear_21 : decode cX2_beginYear 21 = .ok (.aload_n 0, 1) := by decide +kernel
theorem dX2_beginYear_22 : decode cX2_beginYear 22 = .ok (.aload_n 1, 1) := by decide +kernel
theorem dX2_beginYear_23 : decode cX2_beginYear 23 = .ok (.aload_n 2, 1) := by decide +kernel
theorem dX2_beginYear_24 : decode cX2_beginYear 24 = .ok (.invokevirtual 63, 3) := by decide +kernel
theorem dX2_beginYear_27 : decode cX2_beginYear 27 = .ok (.aload_n 0, 1) := by decide +kernel
theorem dX2_beginYear_28 : decode cX2_beginYear 28 = .ok (.aload_n 1, 1) := by decide +kernel
theorem dX2_beginYear_29 : decode cX2_beginYear 29 = .ok (.iload 4, 2) := by decide +kernel
theorem dX2_beginYear_31 : decode cX2_beginYear 31 = .ok (.aload_n 2, 1) := by decide +kernel
theorem dX2_beginYear_32 : decode cX2_beginYear 32 = .ok (.getfield 67, 3) := by decide +kernel
theorem dX2_beginYear_35 : decode cX2_beginYear 35 = .ok (.iadd, 1) := by decide +kernel
theorem dX2_beginYear_36 : decode cX2_beginYear 36 = .ok (.invokevirtual 70, 3) := by decide +kernel
theorem dX2_beginYear_39 : decode cX2_beginYear 39 = .ok (.aload_n 2, 1) := by decide +kernel
theorem dX2_beginYear_40 : decode cX2_beginYear 40 = .ok (.aload_n 0, 1) := by decide +kernel
theorem dX2_beginYear_41 : decode cX2_beginYear 41 = .ok (.getfield 23, 3) := by decide +kernel
theorem dX2_beginYear_44 : decode cX2_beginYear 44 = .ok (.invokevirtual 59, 3) := by decide +kernel
theorem dX2_beginYear_47 : decode cX2_beginYear 47 = .ok (.aload_n 2, 1) := by decide +kernel
theorem dX2_beginYear_48 : decode cX2_beginYear 48 = .ok (.dup, 1) := by decide +kernel
theorem dX2_beginYear_49 : decode cX2_beginYear 49 = .ok (.getfield 74, 3) := by decide +kernel
theorem dX2_beginYear_52 : decode cX2_beginYear 52 = .ok (.aload_n 0, 1) := by decide +kernel
theorem dX2_beginYear_53 : decode cX2_beginYear 53 = .ok (.getfield 23, 3) := by decide +kernel
theorem dX2_beginYear_56 : decode cX2_beginYear 56 = .ok (.ior, 1) := by decide +kernel
theorem dX2_beginYear_57 : decode cX2_beginYear 57 = .ok (.putfield 74, 3) := by decide +kernel
theorem dX2_beginYear_60 : decode cX2_beginYear 60 = .ok (.aload_n 2, 1) := by decide +kernel
theorem dX2_beginYear_61 : decode cX2_beginYear 61 = .ok (.iconst 0, 1) := by decide +kernel
theorem dX2_beginYear_62 : decode cX2_beginYear 62 = .ok (.putfield 67, 3) := by decide +kernel
theorem dX2_beginYear_65 : decode cX2_beginYear 65 = .ok (.aload_n 2, 1) := by decide +kernel
theorem dX2_beginYear_66 : decode cX2_beginYear 66 = .ok (.invokevirtual 75, 3) := by decide +kernel
theorem dX2_beginYear_69 : decode cX2_beginYear 69 = .ok (.aload_n 0, 1) := by decide +kernel
theorem dX2_beginYear_70 : decode cX2_beginYear 70 = .ok (.getfield 23, 3) := by decide +kernel
theorem dX2_beginYear_73 : decode cX2_beginYear 73 = .ok (.ireturn, 1) := by decide +kernel
theorem dX2_hearAll_0 : decode cX2_hearAll 0 = .ok (.iload_n 2, 1) := by decide +kernel
theorem dX2_hearAll_1 : decode cX2_hearAll 1 = .ok (.istore_n 3, 1) := by decide +kernel
theorem dX2_hearAll_2 : decode cX2_hearAll 2 = .ok (.iconst 0, 1) := by decide +kernel
theorem dX2_hearAll_3 : decode cX2_hearAll 3 = .ok (.istore 4, 2) := by decide +kernel
theorem dX2_hearAll_5 : decode cX2_hearAll 5 = .ok (.aload_n 0, 1) := by decide +kernel
theorem dX2_hearAll_6 : decode cX2_hearAll 6 = .ok (.iconst 0, 1) := by decide +kernel
theorem dX2_hearAll_7 : decode cX2_hearAll 7 = .ok (.putfield 23, 3) := by decide +kernel
theorem dX2_hearAll_10 : decode cX2_hearAll 10 = .ok (.iconst 0, 1) := by decide +kernel
theorem dX2_hearAll_11 : decode cX2_hearAll 11 = .ok (.istore 5, 2) := by decide +kernel
theorem dX2_hearAll_13 : decode cX2_hearAll 13 = .ok (.iload 5, 2) := by decide +kernel
theorem dX2_hearAll_15 : decode cX2_hearAll 15 = .ok (.aload_n 0, 1) := by decide +kernel
theorem dX2_hearAll_16 : decode cX2_hearAll 16 = .ok (.getfield 19, 3) := by decide +kernel
theorem dX2_hearAll_19 : decode cX2_hearAll 19 = .ok (.if_icmp .ge 114, 3) := by decide +kernel
theorem dX2_hearAll_22 : decode cX2_hearAll 22 = .ok (.iload 5, 2) := by decide +kernel
theorem dX2_hearAll_24 : decode cX2_hearAll 24 = .ok (.aload_n 0, 1) := by decide +kernel
theorem dX2_hearAll_25 : decode cX2_hearAll 25 = .ok (.getfield 9, 3) := by decide +kernel
theorem dX2_hearAll_28 : decode cX2_hearAll 28 = .ok (.arraylength, 1) := by decide +kernel
theorem dX2_hearAll_29 : decode cX2_hearAll 29 = .ok (.if_icmp .ge 104, 3) := by decide +kernel
theorem dX2_hearAll_32 : decode cX2_hearAll 32 = .ok (.aload_n 0, 1) := by decide +kernel
theorem dX2_hearAll_33 : decode cX2_hearAll 33 = .ok (.getfield 9, 3) := by decide +kernel
theorem dX2_hearAll_36 : decode cX2_hearAll 36 = .ok (.iload 5, 2) := by decide +kernel
theorem dX2_hearAll_38 : decode cX2_hearAll 38 = .ok (.iaload, 1) := by decide +kernel
theorem dX2_hearAll_39 : decode cX2_hearAll 39 = .ok (.istore 6, 2) := by decide +kernel
theorem dX2_hearAll_41 : decode cX2_hearAll 41 = .ok (.aload_n 1, 1) := by decide +kernel
theorem dX2_hearAll_42 : decode cX2_hearAll 42 = .ok (.iload 6, 2) := by decide +kernel
theorem dX2_hearAll_44 : decode cX2_hearAll 44 = .ok (.invokevirtual 78, 3) := by decide +kernel
theorem dX2_hearAll_47 : decode cX2_hearAll 47 = .ok (.iconst 3, 1) := by decide +kernel
theorem dX2_hearAll_48 : decode cX2_hearAll 48 = .ok (.if_icmp .ne 7, 3) := by decide +kernel
theorem dX2_hearAll_51 : decode cX2_hearAll 51 = .ok (.iconst 1, 1) := by decide +kernel
theorem dX2_hearAll_52 : decode cX2_hearAll 52 = .ok (.goto 4, 3) := by decide +kernel
theorem dX2_hearAll_55 : decode cX2_hearAll 55 = .ok (.iconst 0, 1) := by decide +kernel
theorem dX2_hearAll_56 : decode cX2_hearAll 56 = .ok (.istore 7, 2) := by decide +kernel
theorem dX2_hearAll_58 : decode cX2_hearAll 58 = .ok (.aload_n 1, 1) := by decide +kernel
theorem dX2_hearAll_59 : decode cX2_hearAll 59 = .ok (.iload 6, 2) := by decide +kernel
theorem dX2_hearAll_61 : decode cX2_hearAll 61 = .ok (.invokevirtual 81, 3) := by decide +kernel
theorem dX2_hearAll_64 : decode cX2_hearAll 64 = .ok (.istore 8, 2) := by decide +kernel
theorem dX2_hearAll_66 : decode cX2_hearAll 66 = .ok (.iload 7, 2) := by decide +kernel
theorem dX2_hearAll_68 : decode cX2_hearAll 68 = .ok (.ifCond .eq 18, 3) := by decide +kernel
theorem dX2_hearAll_71 : decode cX2_hearAll 71 = .ok (.iload 4, 2) := by decide +kernel
theorem dX2_hearAll_73 : decode cX2_hearAll 73 = .ok (.ifCond .eq 13, 3) := by decide +kernel
theorem dX2_hearAll_76 : decode cX2_hearAll 76 = .ok (.iconst 1, 1) := by decide +kernel
theorem dX2_hearAll_77 : decode cX2_hearAll 77 = .ok (.iload 8, 2) := by decide +kernel
theorem dX2_hearAll_79 : decode cX2_hearAll 79 = .ok (.iconst 2, 1) := by decide +kernel
theorem dX2_hearAll_80 : decode cX2_hearAll 80 = .ok (.idiv, 1) := by decide +kernel
theorem dX2_hearAll_81 : decode cX2_hearAll 81 = .ok (.invokestatic 84, 3) := by decide +kernel
theorem dX2_hearAll_84 : decode cX2_hearAll 84 = .ok (.istore 8, 2) := by decide +kernel
theorem dX2_hearAll_86 : decode cX2_hearAll 86 = .ok (.iload 8, 2) := by decide +kernel
theorem dX2_hearAll_88 : decode cX2_hearAll 88 = .ok (.iload_n 3, 1) := by decide +kernel
theorem dX2_hearAll_89 : decode cX2_hearAll 89 = .ok (.if_icmp .gt 38, 3) := by decide +kernel
theorem dX2_hearAll_92 : decode cX2_hearAll 92 = .ok (.iload_n 3, 1) := by decide +kernel
theorem dX2_hearAll_93 : decode cX2_hearAll 93 = .ok (.iload 8, 2) := by decide +kernel
theorem dX2_hearAll_95 : decode cX2_hearAll 95 = .ok (.isub, 1) := by decide +kernel
theorem dX2_hearAll_96 : decode cX2_hearAll 96 = .ok (.istore_n 3, 1) := by decide +kernel
theorem dX2_hearAll_97 : decode cX2_hearAll 97 = .ok (.aload_n 0, 1) := by decide +kernel
theorem dX2_hearAll_98 : decode cX2_hearAll 98 = .ok (.dup, 1) := by decide +kernel
theorem dX2_hearAll_99 : decode cX2_hearAll 99 = .ok (.getfield 23, 3) := by decide +kernel
theorem dX2_hearAll_102 : decode cX2_hearAll 102 = .ok (.iconst 1, 1) := by decide +kernel
theorem dX2_hearAll_103 : decode cX2_hearAll 103 = .ok (.iload 6, 2) := by decide +kernel
theorem dX2_hearAll_105 : decode cX2_hearAll 105 = .ok (.ishl, 1) := by decide +kernel
theorem dX2_hearAll_106 : decode cX2_hearAll 106 = .ok (.ior, 1) := by decide +kernel
theorem dX2_hearAll_107 : decode cX2_hearAll 107 = .ok (.putfield 23, 3) := by decide +kernel
theorem dX2_hearAll_110 : decode cX2_hearAll 110 = .ok (.iload 4, 2) := by decide +kernel
theorem dX2_hearAll_112 : decode cX2_hearAll 112 = .ok (.ifCond .ne 8, 3) := by decide +kernel
theorem dX2_hearAll_115 : decode cX2_hearAll 115 = .ok (.iload 7, 2) := by decide +kernel
theorem dX2_hearAll_117 : decode cX2_hearAll 117 = .ok (.ifCond .eq 7, 3) := by decide +kernel
theorem dX2_hearAll_120 : decode cX2_hearAll 120 = .ok (.iconst 1, 1) := by decide +kernel
theorem dX2_hearAll_121 : decode cX2_hearAll 121 = .ok (.goto 4, 3) := by decide +kernel
theorem dX2_hearAll_124 : decode cX2_hearAll 124 = .ok (.iconst 0, 1) := by decide +kernel
theorem dX2_hearAll_125 : decode cX2_hearAll 125 = .ok (.istore 4, 2) := by decide +kernel
theorem dX2_hearAll_127 : decode cX2_hearAll 127 = .ok (.iinc 5 1, 3) := by decide +kernel
theorem dX2_hearAll_130 : decode cX2_hearAll 130 = .ok (.goto (-117), 3) := by decide +kernel
theorem dX2_hearAll_133 : decode cX2_hearAll 133 = .ok (.aload_n 0, 1) := by decide +kernel
theorem dX2_hearAll_134 : decode cX2_hearAll 134 = .ok (.iload_n 2, 1) := by decide +kernel
theorem dX2_hearAll_135 : decode cX2_hearAll 135 = .ok (.iload_n 3, 1) := by decide +kernel
theorem dX2_hearAll_136 : decode cX2_hearAll 136 = .ok (.isub, 1) := by decide +kernel
theorem dX2_hearAll_137 : decode cX2_hearAll 137 = .ok (.putfield 26, 3) := by decide +kernel
theorem dX2_hearAll_140 : decode cX2_hearAll 140 = .ok (.return_, 1) := by decide +kernel
theorem dX2_putInOrder_0 : decode cX2_putInOrder 0 = .ok (.aload_n 0, 1) := by decide +kernel
theorem dX2_putInOrder_1 : decode cX2_putInOrder 1 = .ok (.iconst 0, 1) := by decide +kernel
theorem dX2_putInOrder_2 : decode cX2_putInOrder 2 = .ok (.putfield 19, 3) := by decide +kernel
theorem dX2_putInOrder_5 : decode cX2_putInOrder 5 = .ok (.iconst 0, 1) := by decide +kernel
theorem dX2_putInOrder_6 : decode cX2_putInOrder 6 = .ok (.istore_n 3, 1) := by decide +kernel
theorem dX2_putInOrder_7 : decode cX2_putInOrder 7 = .ok (.iload_n 3, 1) := by decide +kernel
theorem dX2_putInOrder_8 : decode cX2_putInOrder 8 = .ok (.aload_n 2, 1) := by decide +kernel
theorem dX2_putInOrder_9 : decode cX2_putInOrder 9 = .ok (.getfield 90, 3) := by decide +kernel
theorem dX2_putInOrder_12 : decode cX2_putInOrder 12 = .ok (.if_icmp .ge 130, 3) := by decide +kernel
theorem dX2_putInOrder_15 : decode cX2_putInOrder 15 = .ok (.aload_n 0, 1) := by decide +kernel
theorem dX2_putInOrder_16 : decode cX2_putInOrder 16 = .ok (.getfield 19, 3) := by decide +kernel
theorem dX2_putInOrder_19 : decode cX2_putInOrder 19 = .ok (.aload_n 0, 1) := by decide +kernel
theorem dX2_putInOrder_20 : decode cX2_putInOrder 20 = .ok (.getfield 9, 3) := by decide +kernel
theorem dX2_putInOrder_23 : decode cX2_putInOrder 23 = .ok (.arraylength, 1) := by decide +kernel
theorem dX2_putInOrder_24 : decode cX2_putInOrder 24 = .ok (.if_icmp .ge 118, 3) := by decide +kernel
theorem dX2_putInOrder_27 : decode cX2_putInOrder 27 = .ok (.aload_n 2, 1) := by decide +kernel
theorem dX2_putInOrder_28 : decode cX2_putInOrder 28 = .ok (.iload_n 3, 1) := by decide +kernel
theorem dX2_putInOrder_29 : decode cX2_putInOrder 29 = .ok (.invokevirtual 93, 3) := by decide +kernel
theorem dX2_putInOrder_32 : decode cX2_putInOrder 32 = .ok (.istore 4, 2) := by decide +kernel
theorem dX2_putInOrder_34 : decode cX2_putInOrder 34 = .ok (.aload_n 0, 1) := by decide +kernel
theorem dX2_putInOrder_35 : decode cX2_putInOrder 35 = .ok (.aload_n 1, 1) := by decide +kernel
theorem dX2_putInOrder_36 : decode cX2_putInOrder 36 = .ok (.aload_n 2, 1) := by decide +kernel
theorem dX2_putInOrder_37 : decode cX2_putInOrder 37 = .ok (.iload 4, 2) := by decide +kernel
theorem dX2_putInOrder_39 : decode cX2_putInOrder 39 = .ok (.invokevirtual 96, 3) := by decide +kernel
theorem dX2_putInOrder_42 : decode cX2_putInOrder 42 = .ok (.lstore 5, 2) := by decide +kernel
theorem dX2_putInOrder_44 : decode cX2_putInOrder 44 = .ok (.aload_n 0, 1) := by decide +kernel
theorem dX2_putInOrder_45 : decode cX2_putInOrder 45 = .ok (.getfield 19, 3) := by decide +kernel
theorem dX2_putInOrder_48 : decode cX2_putInOrder 48 = .ok (.istore 7, 2) := by decide +kernel
theorem dX2_putInOrder_50 : decode cX2_putInOrder 50 = .ok (.iload 7, 2) := by decide +kernel
theorem dX2_putInOrder_52 : decode cX2_putInOrder 52 = .ok (.ifCond .le 56, 3) := by decide +kernel
theorem dX2_putInOrder_55 : decode cX2_putInOrder 55 = .ok (.aload_n 0, 1) := by decide +kernel
theorem dX2_putInOrder_56 : decode cX2_putInOrder 56 = .ok (.getfield 15, 3) := by decide +kernel
theorem dX2_putInOrder_59 : decode cX2_putInOrder 59 = .ok (.iload 7, 2) := by decide +kernel
theorem dX2_putInOrder_61 : decode cX2_putInOrder 61 = .ok (.iconst 1, 1) := by decide +kernel
theorem dX2_putInOrder_62 : decode cX2_putInOrder 62 = .ok (.isub, 1) := by decide +kernel
theorem dX2_putInOrder_63 : decode cX2_putInOrder 63 = .ok (.laload, 1) := by decide +kernel
theorem dX2_putInOrder_64 : decode cX2_putInOrder 64 = .ok (.lload 5, 2) := by decide +kernel
theorem dX2_putInOrder_66 : decode cX2_putInOrder 66 = .ok (.lcmp, 1) := by decide +kernel
theorem dX2_putInOrder_67 : decode cX2_putInOrder 67 = .ok (.ifCond .ge 41, 3) := by decide +kernel
theorem dX2_putInOrder_70 : decode cX2_putInOrder 70 = .ok (.aload_n 0, 1) := by decide +kernel
theorem dX2_putInOrder_71 : decode cX2_putInOrder 71 = .ok (.getfield 15, 3) := by decide +kernel
theorem dX2_putInOrder_74 : decode cX2_putInOrder 74 = .ok (.iload 7, 2) := by decide +kernel
theorem dX2_putInOrder_76 : decode cX2_putInOrder 76 = .ok (.aload_n 0, 1) := by decide +kernel
theorem dX2_putInOrder_77 : decode cX2_putInOrder 77 = .ok (.getfield 15, 3) := by decide +kernel
theorem dX2_putInOrder_80 : decode cX2_putInOrder 80 = .ok (.iload 7, 2) := by decide +kernel
theorem dX2_putInOrder_82 : decode cX2_putInOrder 82 = .ok (.iconst 1, 1) := by decide +kernel
theorem dX2_putInOrder_83 : decode cX2_putInOrder 83 = .ok (.isub, 1) := by decide +kernel
theorem dX2_putInOrder_84 : decode cX2_putInOrder 84 = .ok (.laload, 1) := by decide +kernel
theorem dX2_putInOrder_85 : decode cX2_putInOrder 85 = .ok (.lastore, 1) := by decide +kernel
theorem dX2_putInOrder_86 : decode cX2_putInOrder 86 = .ok (.aload_n 0, 1) := by decide +kernel
theorem dX2_putInOrder_87 : decode cX2_putInOrder 87 = .ok (.getfield 9, 3) := by decide +kernel
theorem dX2_putInOrder_90 : decode cX2_putInOrder 90 = .ok (.iload 7, 2) := by decide +kernel
theorem dX2_putInOrder_92 : decode cX2_putInOrder 92 = .ok (.aload_n 0, 1) := by decide +kernel
theorem dX2_putInOrder_93 : decode cX2_putInOrder 93 = .ok (.getfield 9, 3) := by decide +kernel
theorem dX2_putInOrder_96 : decode cX2_putInOrder 96 = .ok (.iload 7, 2) := by decide +kernel
theorem dX2_putInOrder_98 : decode cX2_putInOrder 98 = .ok (.iconst 1, 1) := by decide +kernel
theorem dX2_putInOrder_99 : decode cX2_putInOrder 99 = .ok (.isub, 1) := by decide +kernel
theorem dX2_putInOrder_100 : decode cX2_putInOrder 100 = .ok (.iaload, 1) := by decide +kernel
theorem dX2_putInOrder_101 : decode cX2_putInOrder 101 = .ok (.iastore, 1) := by decide +kernel
theorem dX2_putInOrder_102 : decode cX2_putInOrder 102 = .ok (.iinc 7 (-1), 3) := by decide +kernel
theorem dX2_putInOrder_105 : decode cX2_putInOrder 105 = .ok (.goto (-55), 3) := by decide +kernel
theorem dX2_putInOrder_108 : decode cX2_putInOrder 108 = .ok (.aload_n 0, 1) := by decide +kernel
theorem dX2_putInOrder_109 : decode cX2_putInOrder 109 = .ok (.getfield 15, 3) := by decide +kernel
theorem dX2_putInOrder_112 : decode cX2_putInOrder 112 = .ok (.iload 7, 2) := by decide +kernel
theorem dX2_putInOrder_114 : decode cX2_putInOrder 114 = .ok (.lload 5, 2) := by decide +kernel
theorem dX2_putInOrder_116 : decode cX2_putInOrder 116 = .ok (.lastore, 1) := by decide +kernel
theorem dX2_putInOrder_117 : decode cX2_putInOrder 117 = .ok (.aload_n 0, 1) := by decide +kernel
theorem dX2_putInOrder_118 : decode cX2_putInOrder 118 = .ok (.getfield 9, 3) := by decide +kernel
theorem dX2_putInOrder_121 : decode cX2_putInOrder 121 = .ok (.iload 7, 2) := by decide +kernel
theorem dX2_putInOrder_123 : decode cX2_putInOrder 123 = .ok (.iload 4, 2) := by decide +kernel
theorem dX2_putInOrder_125 : decode cX2_putInOrder 125 = .ok (.iastore, 1) := by decide +kernel
theorem dX2_putInOrder_126 : decode cX2_putInOrder 126 = .ok (.aload_n 0, 1) := by decide +kernel
theorem dX2_putInOrder_127 : decode cX2_putInOrder 127 = .ok (.dup, 1) := by decide +kernel
theorem dX2_putInOrder_128 : decode cX2_putInOrder 128 = .ok (.getfield 19, 3) := by decide +kernel
theorem dX2_putInOrder_131 : decode cX2_putInOrder 131 = .ok (.iconst 1, 1) := by decide +kernel
theorem dX2_putInOrder_132 : decode cX2_putInOrder 132 = .ok (.iadd, 1) := by decide +kernel
theorem dX2_putInOrder_133 : decode cX2_putInOrder 133 = .ok (.putfield 19, 3) := by decide +kernel
theorem dX2_putInOrder_136 : decode cX2_putInOrder 136 = .ok (.iinc 3 1, 3) := by decide +kernel
theorem dX2_putInOrder_139 : decode cX2_putInOrder 139 = .ok (.goto (-132), 3) := by decide +kernel
theorem dX2_putInOrder_142 : decode cX2_putInOrder 142 = .ok (.return_, 1) := by decide +kernel
theorem dX2_rankOf_0 : decode cX2_rankOf 0 = .ok (.aload_n 2, 1) := by decide +kernel
theorem dX2_rankOf_1 : decode cX2_rankOf 1 = .ok (.getfield 29, 3) := by decide +kernel
theorem dX2_rankOf_4 : decode cX2_rankOf 4 = .ok (.aload_n 1, 1) := by decide +kernel
theorem dX2_rankOf_5 : decode cX2_rankOf 5 = .ok (.iload_n 3, 1) := by decide +kernel
theorem dX2_rankOf_6 : decode cX2_rankOf 6 = .ok (.invokevirtual 100, 3) := by decide +kernel
theorem dX2_rankOf_9 : decode cX2_rankOf 9 = .ok (.isub, 1) := by decide +kernel
theorem dX2_rankOf_10 : decode cX2_rankOf 10 = .ok (.istore 4, 2) := by decide +kernel
theorem dX2_rankOf_12 : decode cX2_rankOf 12 = .ok (.aload_n 1, 1) := by decide +kernel
theorem dX2_rankOf_13 : decode cX2_rankOf 13 = .ok (.getfield 103, 3) := by decide +kernel
theorem dX2_rankOf_16 : decode cX2_rankOf 16 = .ok (.aload_n 2, 1) := by decide +kernel
theorem dX2_rankOf_17 : decode cX2_rankOf 17 = .ok (.iload_n 3, 1) := by decide +kernel
theorem dX2_rankOf_18 : decode cX2_rankOf 18 = .ok (.invokevirtual 107, 3) := by decide +kernel
theorem dX2_rankOf_21 : decode cX2_rankOf 21 = .ok (.aload_n 1, 1) := by decide +kernel
theorem dX2_rankOf_22 : decode cX2_rankOf 22 = .ok (.iload_n 3, 1) := by decide +kernel
theorem dX2_rankOf_23 : decode cX2_rankOf 23 = .ok (.invokevirtual 81, 3) := by decide +kernel
theorem dX2_rankOf_26 : decode cX2_rankOf 26 = .ok (.iload 4, 2) := by decide +kernel
theorem dX2_rankOf_28 : decode cX2_rankOf 28 = .ok (.aload_n 2, 1) := by decide +kernel
theorem dX2_rankOf_29 : decode cX2_rankOf 29 = .ok (.iload_n 3, 1) := by decide +kernel
theorem dX2_rankOf_30 : decode cX2_rankOf 30 = .ok (.invokevirtual 110, 3) := by decide +kernel
theorem dX2_rankOf_33 : decode cX2_rankOf 33 = .ok (.invokevirtual 113, 3) := by decide +kernel
theorem dX2_rankOf_36 : decode cX2_rankOf 36 = .ok (.i2l, 1) := by decide +kernel
theorem dX2_rankOf_37 : decode cX2_rankOf 37 = .ok (.lstore 5, 2) := by decide +kernel
theorem dX2_rankOf_39 : decode cX2_rankOf 39 = .ok (.aload_n 1, 1) := by decide +kernel
theorem dX2_rankOf_40 : decode cX2_rankOf 40 = .ok (.iload_n 3, 1) := by decide +kernel
theorem dX2_rankOf_41 : decode cX2_rankOf 41 = .ok (.invokevirtual 78, 3) := by decide +kernel
theorem dX2_rankOf_44 : decode cX2_rankOf 44 = .ok (.iconst 1, 1) := by decide +kernel
theorem dX2_rankOf_45 : decode cX2_rankOf 45 = .ok (.if_icmp .ne 9, 3) := by decide +kernel
theorem dX2_rankOf_48 : decode cX2_rankOf 48 = .ok (.ldc2_w 119, 3) := by decide +kernel
theorem dX2_rankOf_51 : decode cX2_rankOf 51 = .ok (.goto 4, 3) := by decide +kernel
theorem dX2_rankOf_54 : decode cX2_rankOf 54 = .ok (.lconst 0, 1) := by decide +kernel
theorem dX2_rankOf_55 : decode cX2_rankOf 55 = .ok (.lstore 7, 2) := by decide +kernel
theorem dX2_rankOf_57 : decode cX2_rankOf 57 = .ok (.lload 7, 2) := by decide +kernel
theorem dX2_rankOf_59 : decode cX2_rankOf 59 = .ok (.lload 5, 2) := by decide +kernel
theorem dX2_rankOf_61 : decode cX2_rankOf 61 = .ok (.ladd, 1) := by decide +kernel
theorem dX2_rankOf_62 : decode cX2_rankOf 62 = .ok (.lreturn, 1) := by decide +kernel
theorem dX2_calledAt_0 : decode cX2_calledAt 0 = .ok (.iload_n 1, 1) := by decide +kernel
theorem dX2_calledAt_1 : decode cX2_calledAt 1 = .ok (.ifCond .lt 29, 3) := by decide +kernel
theorem dX2_calledAt_4 : decode cX2_calledAt 4 = .ok (.iload_n 1, 1) := by decide +kernel
theorem dX2_calledAt_5 : decode cX2_calledAt 5 = .ok (.aload_n 0, 1) := by decide +kernel
theorem dX2_calledAt_6 : decode cX2_calledAt 6 = .ok (.getfield 19, 3) := by decide +kernel
theorem dX2_calledAt_9 : decode cX2_calledAt 9 = .ok (.if_icmp .ge 21, 3) := by decide +kernel
theorem dX2_calledAt_12 : decode cX2_calledAt 12 = .ok (.iload_n 1, 1) := by decide +kernel
theorem dX2_calledAt_13 : decode cX2_calledAt 13 = .ok (.aload_n 0, 1) := by decide +kernel
theorem dX2_calledAt_14 : decode cX2_calledAt 14 = .ok (.getfield 9, 3) := by decide +kernel
theorem dX2_calledAt_17 : decode cX2_calledAt 17 = .ok (.arraylength, 1) := by decide +kernel
theorem dX2_calledAt_18 : decode cX2_calledAt 18 = .ok (.if_icmp .ge 12, 3) := by decide +kernel
theorem dX2_calledAt_21 : decode cX2_calledAt 21 = .ok (.aload_n 0, 1) := by decide +kernel
theorem dX2_calledAt_22 : decode cX2_calledAt 22 = .ok (.getfield 9, 3) := by decide +kernel
theorem dX2_calledAt_25 : decode cX2_calledAt 25 = .ok (.iload_n 1, 1) := by decide +kernel
theorem dX2_calledAt_26 : decode cX2_calledAt 26 = .ok (.iaload, 1) := by decide +kernel
theorem dX2_calledAt_27 : decode cX2_calledAt 27 = .ok (.goto 4, 3) := by decide +kernel
theorem dX2_calledAt_30 : decode cX2_calledAt 30 = .ok (.iconst (-1), 1) := by decide +kernel
theorem dX2_calledAt_31 : decode cX2_calledAt 31 = .ok (.ireturn, 1) := by decide +kernel
theorem dX3_init_0 : decode cX3_init 0 = .ok (.aload_n 0, 1) := by decide +kernel
theorem dX3_init_1 : decode cX3_init 1 = .ok (.invokespecial 3, 3) := by decide +kernel
theorem dX3_init_4 : decode cX3_init 4 = .ok (.aload_n 0, 1) := by decide +kernel
theorem dX3_init_5 : decode cX3_init 5 = .ok (.sipush 1000, 3) := by decide +kernel
theorem dX3_init_8 : decode cX3_init 8 = .ok (.newarray .int, 2) := by decide +kernel
theorem dX3_init_10 : decode cX3_init 10 = .ok (.putfield 9, 3) := by decide +kernel
theorem dX3_init_13 : decode cX3_init 13 = .ok (.aload_n 0, 1) := by decide +kernel
theorem dX3_init_14 : decode cX3_init 14 = .ok (.iconst 0, 1) := by decide +kernel
theorem dX3_init_15 : decode cX3_init 15 = .ok (.putfield 15, 3) := by decide +kernel
theorem dX3_init_18 : decode cX3_init 18 = .ok (.aload_n 0, 1) := by decide +kernel
theorem dX3_init_19 : decode cX3_init 19 = .ok (.bipush 32, 2) := by decide +kernel
theorem dX3_init_21 : decode cX3_init 21 = .ok (.newarray .int, 2) := by decide +kernel
theorem dX3_init_23 : decode cX3_init 23 = .ok (.putfield 19, 3) := by decide +kernel
theorem dX3_init_26 : decode cX3_init 26 = .ok (.return_, 1) := by decide +kernel
theorem dX3_clear_0 : decode cX3_clear 0 = .ok (.aload_n 0, 1) := by decide +kernel
theorem dX3_clear_1 : decode cX3_clear 1 = .ok (.iconst 0, 1) := by decide +kernel
theorem dX3_clear_2 : decode cX3_clear 2 = .ok (.putfield 15, 3) := by decide +kernel
theorem dX3_clear_5 : decode cX3_clear 5 = .ok (.return_, 1) := by decide +kernel
theorem dX3_add_0 : decode cX3_add 0 = .ok (.aload_n 0, 1) := by decide +kernel
theorem dX3_add_1 : decode cX3_add 1 = .ok (.getfield 15, 3) := by decide +kernel
theorem dX3_add_4 : decode cX3_add 4 = .ok (.ifCond .lt 35, 3) := by decide +kernel
theorem dX3_add_7 : decode cX3_add 7 = .ok (.aload_n 0, 1) := by decide +kernel
theorem dX3_add_8 : decode cX3_add 8 = .ok (.getfield 15, 3) := by decide +kernel
theorem dX3_add_11 : decode cX3_add 11 = .ok (.aload_n 0, 1) := by decide +kernel
theorem dX3_add_12 : decode cX3_add 12 = .ok (.getfield 9, 3) := by decide +kernel
theorem dX3_add_15 : decode cX3_add 15 = .ok (.arraylength, 1) := by decide +kernel
theorem dX3_add_16 : decode cX3_add 16 = .ok (.if_icmp .ge 23, 3) := by decide +kernel
theorem dX3_add_19 : decode cX3_add 19 = .ok (.aload_n 0, 1) := by decide +kernel
theorem dX3_add_20 : decode cX3_add 20 = .ok (.getfield 9, 3) := by decide +kernel
theorem dX3_add_23 : decode cX3_add 23 = .ok (.aload_n 0, 1) := by decide +kernel
theorem dX3_add_24 : decode cX3_add 24 = .ok (.getfield 15, 3) := by decide +kernel
theorem dX3_add_27 : decode cX3_add 27 = .ok (.iload_n 1, 1) := by decide +kernel
theorem dX3_add_28 : decode cX3_add 28 = .ok (.iastore, 1) := by decide +kernel
theorem dX3_add_29 : decode cX3_add 29 = .ok (.aload_n 0, 1) := by decide +kernel
theorem dX3_add_30 : decode cX3_add 30 = .ok (.dup, 1) := by decide +kernel
theorem dX3_add_31 : decode cX3_add 31 = .ok (.getfield 15, 3) := by decide +kernel
theorem dX3_add_34 : decode cX3_add 34 = .ok (.iconst 1, 1) := by decide +kernel
theorem dX3_add_35 : decode cX3_add 35 = .ok (.iadd, 1) := by decide +kernel
theorem dX3_add_36 : decode cX3_add 36 = .ok (.putfield 15, 3) := by decide +kernel
theorem dX3_add_39 : decode cX3_add 39 = .ok (.return_, 1) := by decide +kernel
theorem dX3_worth_0 : decode cX3_worth 0 = .ok (.iconst 0, 1) := by decide +kernel
theorem dX3_worth_1 : decode cX3_worth 1 = .ok (.istore 5, 2) := by decide +kernel
theorem dX3_worth_3 : decode cX3_worth 3 = .ok (.iconst 0, 1) := by decide +kernel
theorem dX3_worth_4 : decode cX3_worth 4 = .ok (.istore 6, 2) := by decide +kernel
theorem dX3_worth_6 : decode cX3_worth 6 = .ok (.iload 6, 2) := by decide +kernel
theorem dX3_worth_8 : decode cX3_worth 8 = .ok (.aload_n 0, 1) := by decide +kernel
theorem dX3_worth_9 : decode cX3_worth 9 = .ok (.getfield 15, 3) := by decide +kernel
theorem dX3_worth_12 : decode cX3_worth 12 = .ok (.if_icmp .ge 189, 3) := by decide +kernel
theorem dX3_worth_15 : decode cX3_worth 15 = .ok (.iload 6, 2) := by decide +kernel
theorem dX3_worth_17 : decode cX3_worth 17 = .ok (.aload_n 0, 1) := by decide +kernel
theorem dX3_worth_18 : decode cX3_worth 18 = .ok (.getfield 9, 3) := by decide +kernel
theorem dX3_worth_21 : decode cX3_worth 21 = .ok (.arraylength, 1) := by decide +kernel
theorem dX3_worth_22 : decode cX3_worth 22 = .ok (.if_icmp .ge 179, 3) := by decide +kernel
theorem dX3_worth_25 : decode cX3_worth 25 = .ok (.aload_n 0, 1) := by decide +kernel
theorem dX3_worth_26 : decode cX3_worth 26 = .ok (.getfield 9, 3) := by decide +kernel
theorem dX3_worth_29 : decode cX3_worth 29 = .ok (.iload 6, 2) := by decide +kernel
theorem dX3_worth_31 : decode cX3_worth 31 = .ok (.iaload, 1) := by decide +kernel
theorem dX3_worth_32 : decode cX3_worth 32 = .ok (.istore 7, 2) := by decide +kernel
theorem dX3_worth_34 : decode cX3_worth 34 = .ok (.iload 7, 2) := by decide +kernel
theorem dX3_worth_36 : decode cX3_worth 36 = .ok (.bipush (-5), 2) := by decide +kernel
theorem dX3_worth_38 : decode cX3_worth 38 = .ok (.if_icmp .le 72, 3) := by decide +kernel
theorem dX3_worth_41 : decode cX3_worth 41 = .ok (.iload 5, 2) := by decide +kernel
theorem dX3_worth_43 : decode cX3_worth 43 = .ok (.aload_n 0, 1) := by decide +kernel
theorem dX3_worth_44 : decode cX3_worth 44 = .ok (.getfield 19, 3) := by decide +kernel
theorem dX3_worth_47 : decode cX3_worth 47 = .ok (.arraylength, 1) := by decide +kernel
theorem dX3_worth_48 : decode cX3_worth 48 = .ok (.if_icmp .lt 5, 3) := by decide +kernel
theorem dX3_worth_51 : decode cX3_worth 51 = .ok (.iconst 0, 1) := by decide +kernel
theorem dX3_worth_52 : decode cX3_worth 52 = .ok (.ireturn, 1) := by decide +kernel
theorem dX3_worth_53 : decode cX3_worth 53 = .ok (.aload_n 0, 1) := by decide +kernel
theorem dX3_worth_54 : decode cX3_worth 54 = .ok (.getfield 19, 3) := by decide +kernel
theorem dX3_worth_57 : decode cX3_worth 57 = .ok (.iload 5, 2) := by decide +kernel
theorem dX3_worth_59 : decode cX3_worth 59 = .ok (.iload 7, 2) := by decide +kernel
theorem dX3_worth_61 : decode cX3_worth 61 = .ok (.ifCond .lt 8, 3) := by decide +kernel
theorem dX3_worth_64 : decode cX3_worth 64 = .ok (.iload 7, 2) := by decide +kernel
theorem dX3_worth_66 : decode cX3_worth 66 = .ok (.goto 37, 3) := by decide +kernel
theorem dX3_worth_69 : decode cX3_worth 69 = .ok (.iload 7, 2) := by decide +kernel
theorem dX3_worth_71 : decode cX3_worth 71 = .ok (.iconst (-1), 1) := by decide +kernel
theorem dX3_worth_72 : decode cX3_worth 72 = .ok (.if_icmp .ne 7, 3) := by decide +kernel
theorem dX3_worth_75 : decode cX3_worth 75 = .ok (.iload_n 1, 1) := by decide +kernel
theorem dX3_worth_76 : decode cX3_worth 76 = .ok (.goto 27, 3) := by decide +kernel
theorem dX3_worth_79 : decode cX3_worth 79 = .ok (.iload 7, 2) := by decide +kernel
theorem dX3_worth_81 : decode cX3_worth 81 = .ok (.bipush (-2), 2) := by decide +kernel
theorem dX3_worth_83 : decode cX3_worth 83 = .ok (.if_icmp .ne 7, 3) := by decide +kernel
theorem dX3_worth_86 : decode cX3_worth 86 = .ok (.iload_n 2, 1) := by decide +kernel
theorem dX3_worth_87 : decode cX3_worth 87 = .ok (.goto 16, 3) := by decide +kernel
theorem dX3_worth_90 : decode cX3_worth 90 = .ok (.iload 7, 2) := by decide +kernel
theorem dX3_worth_92 : decode cX3_worth 92 = .ok (.bipush (-3), 2) := by decide +kernel
theorem dX3_worth_94 : decode cX3_worth 94 = .ok (.if_icmp .ne 7, 3) := by decide +kernel
theorem dX3_worth_97 : decode cX3_worth 97 = .ok (.iload_n 3, 1) := by decide +kernel
theorem dX3_worth_98 : decode cX3_worth 98 = .ok (.goto 5, 3) := by decide +kernel
theorem dX3_worth_101 : decode cX3_worth 101 = .ok (.iload 4, 2) := by decide +kernel
theorem dX3_worth_103 : decode cX3_worth 103 = .ok (.iastore, 1) := by decide +kernel
theorem dX3_worth_104 : decode cX3_worth 104 = .ok (.iinc 5 1, 3) := by decide +kernel
theorem dX3_worth_107 : decode cX3_worth 107 = .ok (.goto 88, 3) := by decide +kernel
theorem dX3_worth_110 : decode cX3_worth 110 = .ok (.iload 7, 2) := by decide +kernel
theorem dX3_worth_112 : decode cX3_worth 112 = .ok (.bipush (-5), 2) := by decide +kernel
theorem dX3_worth_114 : decode cX3_worth 114 = .ok (.if_icmp .ne 40, 3) := by decide +kernel
theorem dX3_worth_117 : decode cX3_worth 117 = .ok (.iload 5, 2) := by decide +kernel
theorem dX3_worth_119 : decode cX3_worth 119 = .ok (.iconst 1, 1) := by decide +kernel
theorem dX3_worth_120 : decode cX3_worth 120 = .ok (.if_icmp .ge 5, 3) := by decide +kernel
theorem dX3_worth_123 : decode cX3_worth 123 = .ok (.iconst 0, 1) := by decide +kernel
theorem dX3_worth_124 : decode cX3_worth 124 = .ok (.ireturn, 1) := by decide +kernel
theorem dX3_worth_125 : decode cX3_worth 125 = .ok (.aload_n 0, 1) := by decide +kernel
theorem dX3_worth_126 : decode cX3_worth 126 = .ok (.getfield 19, 3) := by decide +kernel
theorem dX3_worth_129 : decode cX3_worth 129 = .ok (.iload 5, 2) := by decide +kernel
theorem dX3_worth_131 : decode cX3_worth 131 = .ok (.iconst 1, 1) := by decide +kernel
theorem dX3_worth_132 : decode cX3_worth 132 = .ok (.isub, 1) := by decide +kernel
theorem dX3_worth_133 : decode cX3_worth 133 = .ok (.aload_n 0, 1) := by decide +kernel
theorem dX3_worth_134 : decode cX3_worth 134 = .ok (.getfield 19, 3) := by decide +kernel
theorem dX3_worth_137 : decode cX3_worth 137 = .ok (.iload 5, 2) := by decide +kernel
theorem dX3_worth_139 : decode cX3_worth 139 = .ok (.iconst 1, 1) := by decide +kernel
theorem dX3_worth_140 : decode cX3_worth 140 = .ok (.isub, 1) := by decide +kernel
theorem dX3_worth_141 : decode cX3_worth 141 = .ok (.iaload, 1) := by decide +kernel
theorem dX3_worth_142 : decode cX3_worth 142 = .ok (.ifCond .ne 7, 3) := by decide +kernel
theorem dX3_worth_145 : decode cX3_worth 145 = .ok (.iconst 1, 1) := by decide +kernel
theorem dX3_worth_146 : decode cX3_worth 146 = .ok (.goto 4, 3) := by decide +kernel
theorem dX3_worth_149 : decode cX3_worth 149 = .ok (.iconst 0, 1) := by decide +kernel
theorem dX3_worth_150 : decode cX3_worth 150 = .ok (.iastore, 1) := by decide +kernel
theorem dX3_worth_151 : decode cX3_worth 151 = .ok (.goto 44, 3) := by decide +kernel
theorem dX3_worth_154 : decode cX3_worth 154 = .ok (.iload 5, 2) := by decide +kernel
theorem dX3_worth_156 : decode cX3_worth 156 = .ok (.iconst 2, 1) := by decide +kernel
theorem dX3_worth_157 : decode cX3_worth 157 = .ok (.if_icmp .ge 5, 3) := by decide +kernel
theorem dX3_worth_160 : decode cX3_worth 160 = .ok (.iconst 0, 1) := by decide +kernel
theorem dX3_worth_161 : decode cX3_worth 161 = .ok (.ireturn, 1) := by decide +kernel
theorem dX3_worth_162 : decode cX3_worth 162 = .ok (.iinc 5 (-1), 3) := by decide +kernel
theorem dX3_worth_165 : decode cX3_worth 165 = .ok (.aload_n 0, 1) := by decide +kernel
theorem dX3_worth_166 : decode cX3_worth 166 = .ok (.getfield 19, 3) := by decide +kernel
theorem dX3_worth_169 : decode cX3_worth 169 = .ok (.iload 5, 2) := by decide +kernel
theorem dX3_worth_171 : decode cX3_worth 171 = .ok (.iconst 1, 1) := by decide +kernel
theorem dX3_worth_172 : decode cX3_worth 172 = .ok (.isub, 1) := by decide +kernel
theorem dX3_worth_173 : decode cX3_worth 173 = .ok (.iload 7, 2) := by decide +kernel
theorem dX3_worth_175 : decode cX3_worth 175 = .ok (.aload_n 0, 1) := by decide +kernel
theorem dX3_worth_176 : decode cX3_worth 176 = .ok (.getfield 19, 3) := by decide +kernel
theorem dX3_worth_179 : decode cX3_worth 179 = .ok (.iload 5, 2) := by decide +kernel
theorem dX3_worth_181 : decode cX3_worth 181 = .ok (.iconst 1, 1) := by decide +kernel
theorem dX3_worth_182 : decode cX3_worth 182 = .ok (.isub, 1) := by decide +kernel
theorem dX3_worth_183 : decode cX3_worth 183 = .ok (.iaload, 1) := by decide +kernel
theorem dX3_worth_184 : decode cX3_worth 184 = .ok (.aload_n 0, 1) := by decide +kernel
theorem dX3_worth_185 : decode cX3_worth 185 = .ok (.getfield 19, 3) := by decide +kernel
theorem dX3_worth_188 : decode cX3_worth 188 = .ok (.iload 5, 2) := by decide +kernel
theorem dX3_worth_190 : decode cX3_worth 190 = .ok (.iaload, 1) := by decide +kernel
theorem dX3_worth_191 : decode cX3_worth 191 = .ok (.invokestatic 22, 3) := by decide +kernel
theorem dX3_worth_194 : decode cX3_worth 194 = .ok (.iastore, 1) := by decide +kernel
theorem dX3_worth_195 : decode cX3_worth 195 = .ok (.iinc 6 1, 3) := by decide +kernel
theorem dX3_worth_198 : decode cX3_worth 198 = .ok (.goto (-192), 3) := by decide +kernel
theorem dX3_worth_201 : decode cX3_worth 201 = .ok (.iload 5, 2) := by decide +kernel
theorem dX3_worth_203 : decode cX3_worth 203 = .ok (.ifCond .le 12, 3) := by decide +kernel
theorem dX3_worth_206 : decode cX3_worth 206 = .ok (.aload_n 0, 1) := by decide +kernel
theorem dX3_worth_207 : decode cX3_worth 207 = .ok (.getfield 19, 3) := by decide +kernel
theorem dX3_worth_210 : decode cX3_worth 210 = .ok (.iconst 0, 1) := by decide +kernel
theorem dX3_worth_211 : decode cX3_worth 211 = .ok (.iaload, 1) := by decide +kernel
theorem dX3_worth_212 : decode cX3_worth 212 = .ok (.goto 4, 3) := by decide +kernel
theorem dX3_worth_215 : decode cX3_worth 215 = .ok (.iconst 0, 1) := by decide +kernel
theorem dX3_worth_216 : decode cX3_worth 216 = .ok (.ireturn, 1) := by decide +kernel
theorem dX3_joined_0 : decode cX3_joined 0 = .ok (.iload_n 0, 1) := by decide +kernel
theorem dX3_joined_1 : decode cX3_joined 1 = .ok (.tableswitch 87 (-11) (-6) #[73, 62, 51, 47, 43, 39], 39) := by decide +kernel
theorem dX3_joined_40 : decode cX3_joined 40 = .ok (.iload_n 1, 1) := by decide +kernel
theorem dX3_joined_41 : decode cX3_joined 41 = .ok (.iload_n 2, 1) := by decide +kernel
theorem dX3_joined_42 : decode cX3_joined 42 = .ok (.iadd, 1) := by decide +kernel
theorem dX3_joined_43 : decode cX3_joined 43 = .ok (.ireturn, 1) := by decide +kernel
theorem dX3_joined_44 : decode cX3_joined 44 = .ok (.iload_n 1, 1) := by decide +kernel
theorem dX3_joined_45 : decode cX3_joined 45 = .ok (.iload_n 2, 1) := by decide +kernel
theorem dX3_joined_46 : decode cX3_joined 46 = .ok (.isub, 1) := by decide +kernel
theorem dX3_joined_47 : decode cX3_joined 47 = .ok (.ireturn, 1) := by decide +kernel
theorem dX3_joined_48 : decode cX3_joined 48 = .ok (.iload_n 1, 1) := by decide +kernel
theorem dX3_joined_49 : decode cX3_joined 49 = .ok (.iload_n 2, 1) := by decide +kernel
theorem dX3_joined_50 : decode cX3_joined 50 = .ok (.imul, 1) := by decide +kernel
theorem dX3_joined_51 : decode cX3_joined 51 = .ok (.ireturn, 1) := by decide +kernel
theorem dX3_joined_52 : decode cX3_joined 52 = .ok (.iload_n 1, 1) := by decide +kernel
theorem dX3_joined_53 : decode cX3_joined 53 = .ok (.iload_n 2, 1) := by decide +kernel
theorem dX3_joined_54 : decode cX3_joined 54 = .ok (.if_icmp .ge 7, 3) := by decide +kernel
theorem dX3_joined_57 : decode cX3_joined 57 = .ok (.iconst 1, 1) := by decide +kernel
theorem dX3_joined_58 : decode cX3_joined 58 = .ok (.goto 4, 3) := by decide +kernel
theorem dX3_joined_61 : decode cX3_joined 61 = .ok (.iconst 0, 1) := by decide +kernel
theorem dX3_joined_62 : decode cX3_joined 62 = .ok (.ireturn, 1) := by decide +kernel
theorem dX3_joined_63 : decode cX3_joined 63 = .ok (.iload_n 1, 1) := by decide +kernel
theorem dX3_joined_64 : decode cX3_joined 64 = .ok (.iload_n 2, 1) := by decide +kernel
theorem dX3_joined_65 : decode cX3_joined 65 = .ok (.if_icmp .ne 7, 3) := by decide +kernel
theorem dX3_joined_68 : decode cX3_joined 68 = .ok (.iconst 1, 1) := by decide +kernel
theorem dX3_joined_69 : decode cX3_joined 69 = .ok (.goto 4, 3) := by decide +kernel
theorem dX3_joined_72 : decode cX3_joined 72 = .ok (.iconst 0, 1) := by decide +kernel
theorem dX3_joined_73 : decode cX3_joined 73 = .ok (.ireturn, 1) := by decide +kernel
theorem dX3_joined_74 : decode cX3_joined 74 = .ok (.iload_n 1, 1) := by decide +kernel
theorem dX3_joined_75 : decode cX3_joined 75 = .ok (.ifCond .eq 11, 3) := by decide +kernel
theorem dX3_joined_78 : decode cX3_joined 78 = .ok (.iload_n 2, 1) := by decide +kernel
theorem dX3_joined_79 : decode cX3_joined 79 = .ok (.ifCond .eq 7, 3) := by decide +kernel
theorem dX3_joined_82 : decode cX3_joined 82 = .ok (.iconst 1, 1) := by decide +kernel
theorem dX3_joined_83 : decode cX3_joined 83 = .ok (.goto 4, 3) := by decide +kernel
theorem dX3_joined_86 : decode cX3_joined 86 = .ok (.iconst 0, 1) := by decide +kernel
theorem dX3_joined_87 : decode cX3_joined 87 = .ok (.ireturn, 1) := by decide +kernel
theorem dX3_joined_88 : decode cX3_joined 88 = .ok (.iload_n 1, 1) := by decide +kernel
theorem dX3_joined_89 : decode cX3_joined 89 = .ok (.ifCond .ne 7, 3) := by decide +kernel
theorem dX3_joined_92 : decode cX3_joined 92 = .ok (.iload_n 2, 1) := by decide +kernel
theorem dX3_joined_93 : decode cX3_joined 93 = .ok (.ifCond .eq 7, 3) := by decide +kernel
theorem dX3_joined_96 : decode cX3_joined 96 = .ok (.iconst 1, 1) := by decide +kernel
theorem dX3_joined_97 : decode cX3_joined 97 = .ok (.goto 4, 3) := by decide +kernel
theorem dX3_joined_100 : decode cX3_joined 100 = .ok (.iconst 0, 1) := by decide +kernel
theorem dX3_joined_101 : decode cX3_joined 101 = .ok (.ireturn, 1) := by decide +kernel
theorem dX4_init_0 : decode cX4_init 0 = .ok (.aload_n 0, 1) := by decide +kernel
theorem dX4_init_1 : decode cX4_init 1 = .ok (.invokespecial 1, 3) := by decide +kernel
theorem dX4_init_4 : decode cX4_init 4 = .ok (.aload_n 0, 1) := by decide +kernel
theorem dX4_init_5 : decode cX4_init 5 = .ok (.iconst 0, 1) := by decide +kernel
theorem dX4_init_6 : decode cX4_init 6 = .ok (.putfield 7, 3) := by decide +kernel
theorem dX4_init_9 : decode cX4_init 9 = .ok (.aload_n 0, 1) := by decide +kernel
theorem dX4_init_10 : decode cX4_init 10 = .ok (.new 13, 3) := by decide +kernel
theorem dX4_init_13 : decode cX4_init 13 = .ok (.dup, 1) := by decide +kernel
theorem dX4_init_14 : decode cX4_init 14 = .ok (.invokespecial 15, 3) := by decide +kernel
theorem dX4_init_17 : decode cX4_init 17 = .ok (.putfield 16, 3) := by decide +kernel
theorem dX4_init_20 : decode cX4_init 20 = .ok (.aload_n 0, 1) := by decide +kernel
theorem dX4_init_21 : decode cX4_init 21 = .ok (.new 20, 3) := by decide +kernel
theorem dX4_init_24 : decode cX4_init 24 = .ok (.dup, 1) := by decide +kernel
theorem dX4_init_25 : decode cX4_init 25 = .ok (.invokespecial 22, 3) := by decide +kernel
theorem dX4_init_28 : decode cX4_init 28 = .ok (.putfield 23, 3) := by decide +kernel
theorem dX4_init_31 : decode cX4_init 31 = .ok (.aload_n 0, 1) := by decide +kernel
theorem dX4_init_32 : decode cX4_init 32 = .ok (.new 27, 3) := by decide +kernel
theorem dX4_init_35 : decode cX4_init 35 = .ok (.dup, 1) := by decide +kernel
theorem dX4_init_36 : decode cX4_init 36 = .ok (.invokespecial 29, 3) := by decide +kernel
theorem dX4_init_39 : decode cX4_init 39 = .ok (.putfield 30, 3) := by decide +kernel
theorem dX4_init_42 : decode cX4_init 42 = .ok (.return_, 1) := by decide +kernel
theorem dX4_lay_0 : decode cX4_lay 0 = .ok (.aload_n 0, 1) := by decide +kernel
theorem dX4_lay_1 : decode cX4_lay 1 = .ok (.getfield 16, 3) := by decide +kernel
theorem dX4_lay_4 : decode cX4_lay 4 = .ok (.aload_n 1, 1) := by decide +kernel
theorem dX4_lay_5 : decode cX4_lay 5 = .ok (.invokevirtual 34, 3) := by decide +kernel
theorem dX4_lay_8 : decode cX4_lay 8 = .ok (.aload_n 0, 1) := by decide +kernel
theorem dX4_lay_9 : decode cX4_lay 9 = .ok (.getfield 23, 3) := by decide +kernel
theorem dX4_lay_12 : decode cX4_lay 12 = .ok (.aload_n 2, 1) := by decide +kernel
theorem dX4_lay_13 : decode cX4_lay 13 = .ok (.invokevirtual 38, 3) := by decide +kernel
theorem dX4_lay_16 : decode cX4_lay 16 = .ok (.aload_n 0, 1) := by decide +kernel
theorem dX4_lay_17 : decode cX4_lay 17 = .ok (.getfield 30, 3) := by decide +kernel
theorem dX4_lay_20 : decode cX4_lay 20 = .ok (.aload_n 3, 1) := by decide +kernel
theorem dX4_lay_21 : decode cX4_lay 21 = .ok (.invokevirtual 41, 3) := by decide +kernel
theorem dX4_lay_24 : decode cX4_lay 24 = .ok (.aload_n 0, 1) := by decide +kernel
theorem dX4_lay_25 : decode cX4_lay 25 = .ok (.iconst 1, 1) := by decide +kernel
theorem dX4_lay_26 : decode cX4_lay 26 = .ok (.putfield 7, 3) := by decide +kernel
theorem dX4_lay_29 : decode cX4_lay 29 = .ok (.return_, 1) := by decide +kernel
theorem dX5_init_0 : decode cX5_init 0 = .ok (.aload_n 0, 1) := by decide +kernel
theorem dX5_init_1 : decode cX5_init 1 = .ok (.invokespecial 3, 3) := by decide +kernel
theorem dX5_init_4 : decode cX5_init 4 = .ok (.aload_n 0, 1) := by decide +kernel
theorem dX5_init_5 : decode cX5_init 5 = .ok (.iconst 0, 1) := by decide +kernel
theorem dX5_init_6 : decode cX5_init 6 = .ok (.putfield 9, 3) := by decide +kernel
theorem dX5_init_9 : decode cX5_init 9 = .ok (.aload_n 0, 1) := by decide +kernel
theorem dX5_init_10 : decode cX5_init 10 = .ok (.bipush 6, 2) := by decide +kernel
theorem dX5_init_12 : decode cX5_init 12 = .ok (.newarray .long, 2) := by decide +kernel
theorem dX5_init_14 : decode cX5_init 14 = .ok (.putfield 15, 3) := by decide +kernel
theorem dX5_init_17 : decode cX5_init 17 = .ok (.aload_n 0, 1) := by decide +kernel
theorem dX5_init_18 : decode cX5_init 18 = .ok (.bipush 6, 2) := by decide +kernel
theorem dX5_init_20 : decode cX5_init 20 = .ok (.newarray .int, 2) := by decide +kernel
theorem dX5_init_22 : decode cX5_init 22 = .ok (.putfield 19, 3) := by decide +kernel
theorem dX5_init_25 : decode cX5_init 25 = .ok (.aload_n 0, 1) := by decide +kernel
theorem dX5_init_26 : decode cX5_init 26 = .ok (.bipush 6, 2) := by decide +kernel
theorem dX5_init_28 : decode cX5_init 28 = .ok (.newarray .int, 2) := by decide +kernel
theorem dX5_init_30 : decode cX5_init 30 = .ok (.putfield 23, 3) := by decide +kernel
theorem dX5_init_33 : decode cX5_init 33 = .ok (.aload_n 0, 1) := by decide +kernel
theorem dX5_init_34 : decode cX5_init 34 = .ok (.bipush 6, 2) := by decide +kernel
theorem dX5_init_36 : decode cX5_init 36 = .ok (.newarray .int, 2) := by decide +kernel
theorem dX5_init_38 : decode cX5_init 38 = .ok (.putfield 26, 3) := by decide +kernel
theorem dX5_init_41 : decode cX5_init 41 = .ok (.aload_n 0, 1) := by decide +kernel
theorem dX5_init_42 : decode cX5_init 42 = .ok (.sipush 1896, 3) := by decide +kernel
theorem dX5_init_45 : decode cX5_init 45 = .ok (.putfield 29, 3) := by decide +kernel
theorem dX5_init_48 : decode cX5_init 48 = .ok (.aload_n 0, 1) := by decide +kernel
theorem dX5_init_49 : decode cX5_init 49 = .ok (.bipush 10, 2) := by decide +kernel
theorem dX5_init_51 : decode cX5_init 51 = .ok (.putfield 32, 3) := by decide +kernel
theorem dX5_init_54 : decode cX5_init 54 = .ok (.aload_n 0, 1) := by decide +kernel
theorem dX5_init_55 : decode cX5_init 55 = .ok (.bipush 70, 2) := by decide +kernel
theorem dX5_init_57 : decode cX5_init 57 = .ok (.putfield 35, 3) := by decide +kernel
theorem dX5_init_60 : decode cX5_init 60 = .ok (.aload_n 0, 1) := by decide +kernel
theorem dX5_init_61 : decode cX5_init 61 = .ok (.new 38, 3) := by decide +kernel
theorem dX5_init_64 : decode cX5_init 64 = .ok (.dup, 1) := by decide +kernel
theorem dX5_init_65 : decode cX5_init 65 = .ok (.invokespecial 40, 3) := by decide +kernel
theorem dX5_init_68 : decode cX5_init 68 = .ok (.putfield 41, 3) := by decide +kernel
theorem dX5_init_71 : decode cX5_init 71 = .ok (.aload_n 0, 1) := by decide +kernel
theorem dX5_init_72 : decode cX5_init 72 = .ok (.getfield 41, 3) := by decide +kernel
theorem dX5_init_75 : decode cX5_init 75 = .ok (.iconst (-1), 1) := by decide +kernel
theorem dX5_init_76 : decode cX5_init 76 = .ok (.invokevirtual 45, 3) := by decide +kernel
theorem dX5_init_79 : decode cX5_init 79 = .ok (.return_, 1) := by decide +kernel
theorem dX5_clear_0 : decode cX5_clear 0 = .ok (.aload_n 0, 1) := by decide +kernel
theorem dX5_clear_1 : decode cX5_clear 1 = .ok (.iconst 0, 1) := by decide +kernel
theorem dX5_clear_2 : decode cX5_clear 2 = .ok (.putfield 9, 3) := by decide +kernel
theorem dX5_clear_5 : decode cX5_clear 5 = .ok (.aload_n 0, 1) := by decide +kernel
theorem dX5_clear_6 : decode cX5_clear 6 = .ok (.sipush 1896, 3) := by decide +kernel
theorem dX5_clear_9 : decode cX5_clear 9 = .ok (.putfield 29, 3) := by decide +kernel
theorem dX5_clear_12 : decode cX5_clear 12 = .ok (.aload_n 0, 1) := by decide +kernel
theorem dX5_clear_13 : decode cX5_clear 13 = .ok (.bipush 10, 2) := by decide +kernel
theorem dX5_clear_15 : decode cX5_clear 15 = .ok (.putfield 32, 3) := by decide +kernel
theorem dX5_clear_18 : decode cX5_clear 18 = .ok (.aload_n 0, 1) := by decide +kernel
theorem dX5_clear_19 : decode cX5_clear 19 = .ok (.bipush 70, 2) := by decide +kernel
theorem dX5_clear_21 : decode cX5_clear 21 = .ok (.putfield 35, 3) := by decide +kernel
theorem dX5_clear_24 : decode cX5_clear 24 = .ok (.aload_n 0, 1) := by decide +kernel
theorem dX5_clear_25 : decode cX5_clear 25 = .ok (.getfield 41, 3) := by decide +kernel
theorem dX5_clear_28 : decode cX5_clear 28 = .ok (.invokevirtual 49, 3) := by decide +kernel
theorem dX5_clear_31 : decode cX5_clear 31 = .ok (.aload_n 0, 1) := by decide +kernel
theorem dX5_clear_32 : decode cX5_clear 32 = .ok (.getfield 41, 3) := by decide +kernel
theorem dX5_clear_35 : decode cX5_clear 35 = .ok (.iconst (-1), 1) := by decide +kernel
theorem dX5_clear_36 : decode cX5_clear 36 = .ok (.invokevirtual 45, 3) := by decide +kernel
theorem dX5_clear_39 : decode cX5_clear 39 = .ok (.return_, 1) := by decide +kernel
theorem dX5_addPerson_0 : decode cX5_addPerson 0 = .ok (.aload_n 0, 1) := by decide +kernel
theorem dX5_addPerson_1 : decode cX5_addPerson 1 = .ok (.getfield 9, 3) := by decide +kernel
theorem dX5_addPerson_4 : decode cX5_addPerson 4 = .ok (.ifCond .lt 64, 3) := by decide +kernel
theorem dX5_addPerson_7 : decode cX5_addPerson 7 = .ok (.aload_n 0, 1) := by decide +kernel
theorem dX5_addPerson_8 : decode cX5_addPerson 8 = .ok (.getfield 9, 3) := by decide +kernel
theorem dX5_addPerson_11 : decode cX5_addPerson 11 = .ok (.bipush 6, 2) := by decide +kernel
theorem dX5_addPerson_13 : decode cX5_addPerson 13 = .ok (.if_icmp .ge 55, 3) := by decide +kernel
theorem dX5_addPerson_16 : decode cX5_addPerson 16 = .ok (.aload_n 0, 1) := by decide +kernel
theorem dX5_addPerson_17 : decode cX5_addPerson 17 = .ok (.getfield 15, 3) := by decide +kernel
theorem dX5_addPerson_20 : decode cX5_addPerson 20 = .ok (.aload_n 0, 1) := by decide +kernel
theorem dX5_addPerson_21 : decode cX5_addPerson 21 = .ok (.getfield 9, 3) := by decide +kernel
theorem dX5_addPerson_24 : decode cX5_addPerson 24 = .ok (.lload_n 1, 1) := by decide +kernel
theorem dX5_addPerson_25 : decode cX5_addPerson 25 = .ok (.lastore, 1) := by decide +kernel
theorem dX5_addPerson_26 : decode cX5_addPerson 26 = .ok (.aload_n 0, 1) := by decide +kernel
theorem dX5_addPerson_27 : decode cX5_addPerson 27 = .ok (.getfield 19, 3) := by decide +kernel
theorem dX5_addPerson_30 : decode cX5_addPerson 30 = .ok (.aload_n 0, 1) := by decide +kernel
theorem dX5_addPerson_31 : decode cX5_addPerson 31 = .ok (.getfield 9, 3) := by decide +kernel
theorem dX5_addPerson_34 : decode cX5_addPerson 34 = .ok (.iload_n 3, 1) := by decide +kernel
theorem dX5_addPerson_35 : decode cX5_addPerson 35 = .ok (.iastore, 1) := by decide +kernel
theorem dX5_addPerson_36 : decode cX5_addPerson 36 = .ok (.aload_n 0, 1) := by decide +kernel
theorem dX5_addPerson_37 : decode cX5_addPerson 37 = .ok (.getfield 23, 3) := by decide +kernel
theorem dX5_addPerson_40 : decode cX5_addPerson 40 = .ok (.aload_n 0, 1) := by decide +kernel
theorem dX5_addPerson_41 : decode cX5_addPerson 41 = .ok (.getfield 9, 3) := by decide +kernel
theorem dX5_addPerson_44 : decode cX5_addPerson 44 = .ok (.iload 4, 2) := by decide +kernel
theorem dX5_addPerson_46 : decode cX5_addPerson 46 = .ok (.iastore, 1) := by decide +kernel
theorem dX5_addPerson_47 : decode cX5_addPerson 47 = .ok (.aload_n 0, 1) := by decide +kernel
theorem dX5_addPerson_48 : decode cX5_addPerson 48 = .ok (.getfield 26, 3) := by decide +kernel
theorem dX5_addPerson_51 : decode cX5_addPerson 51 = .ok (.aload_n 0, 1) := by decide +kernel
theorem dX5_addPerson_52 : decode cX5_addPerson 52 = .ok (.getfield 9, 3) := by decide +kernel
theorem dX5_addPerson_55 : decode cX5_addPerson 55 = .ok (.iload 5, 2) := by decide +kernel
theorem dX5_addPerson_57 : decode cX5_addPerson 57 = .ok (.iastore, 1) := by decide +kernel
theorem dX5_addPerson_58 : decode cX5_addPerson 58 = .ok (.aload_n 0, 1) := by decide +kernel
theorem dX5_addPerson_59 : decode cX5_addPerson 59 = .ok (.dup, 1) := by decide +kernel
theorem dX5_addPerson_60 : decode cX5_addPerson 60 = .ok (.getfield 9, 3) := by decide +kernel
theorem dX5_addPerson_63 : decode cX5_addPerson 63 = .ok (.iconst 1, 1) := by decide +kernel
theorem dX5_addPerson_64 : decode cX5_addPerson 64 = .ok (.iadd, 1) := by decide +kernel
theorem dX5_addPerson_65 : decode cX5_addPerson 65 = .ok (.putfield 9, 3) := by decide +kernel
theorem dX5_addPerson_68 : decode cX5_addPerson 68 = .ok (.return_, 1) := by decide +kernel
theorem dX5_find_0 : decode cX5_find 0 = .ok (.iconst 0, 1) := by decide +kernel
theorem dX5_find_1 : decode cX5_find 1 = .ok (.istore_n 3, 1) := by decide +kernel
theorem dX5_find_2 : decode cX5_find 2 = .ok (.iload_n 3, 1) := by decide +kernel
theorem dX5_find_3 : decode cX5_find 3 = .ok (.aload_n 0, 1) := by decide +kernel
theorem dX5_find_4 : decode cX5_find 4 = .ok (.getfield 9, 3) := by decide +kernel
theorem dX5_find_7 : decode cX5_find 7 = .ok (.if_icmp .ge 31, 3) := by decide +kernel
theorem dX5_find_10 : decode cX5_find 10 = .ok (.iload_n 3, 1) := by decide +kernel
theorem dX5_find_11 : decode cX5_find 11 = .ok (.aload_n 0, 1) := by decide +kernel
theorem dX5_find_12 : decode cX5_find 12 = .ok (.getfield 15, 3) := by decide +kernel
theorem dX5_find_15 : decode cX5_find 15 = .ok (.arraylength, 1) := by decide +kernel
theorem dX5_find_16 : decode cX5_find 16 = .ok (.if_icmp .ge 22, 3) := by decide +kernel
theorem dX5_find_19 : decode cX5_find 19 = .ok (.aload_n 0, 1) := by decide +kernel
theorem dX5_find_20 : decode cX5_find 20 = .ok (.getfield 15, 3) := by decide +kernel
theorem dX5_find_23 : decode cX5_find 23 = .ok (.iload_n 3, 1) := by decide +kernel
theorem dX5_find_24 : decode cX5_find 24 = .ok (.laload, 1) := by decide +kernel
theorem dX5_find_25 : decode cX5_find 25 = .ok (.lload_n 1, 1) := by decide +kernel
theorem dX5_find_26 : decode cX5_find 26 = .ok (.lcmp, 1) := by decide +kernel
theorem dX5_find_27 : decode cX5_find 27 = .ok (.ifCond .ne 5, 3) := by decide +kernel
theorem dX5_find_30 : decode cX5_find 30 = .ok (.iload_n 3, 1) := by decide +kernel
theorem dX5_find_31 : decode cX5_find 31 = .ok (.ireturn, 1) := by decide +kernel
theorem dX5_find_32 : decode cX5_find 32 = .ok (.iinc 3 1, 3) := by decide +kernel
theorem dX5_find_35 : decode cX5_find 35 = .ok (.goto (-33), 3) := by decide +kernel
theorem dX5_find_38 : decode cX5_find 38 = .ok (.iconst (-1), 1) := by decide +kernel
theorem dX5_find_39 : decode cX5_find 39 = .ok (.ireturn, 1) := by decide +kernel
theorem dX5_isPerson_0 : decode cX5_isPerson 0 = .ok (.iload_n 1, 1) := by decide +kernel
theorem dX5_isPerson_1 : decode cX5_isPerson 1 = .ok (.ifCond .lt 21, 3) := by decide +kernel
theorem dX5_isPerson_4 : decode cX5_isPerson 4 = .ok (.iload_n 1, 1) := by decide +kernel
theorem dX5_isPerson_5 : decode cX5_isPerson 5 = .ok (.aload_n 0, 1) := by decide +kernel
theorem dX5_isPerson_6 : decode cX5_isPerson 6 = .ok (.getfield 9, 3) := by decide +kernel
theorem dX5_isPerson_9 : decode cX5_isPerson 9 = .ok (.if_icmp .ge 13, 3) := by decide +kernel
theorem dX5_isPerson_12 : decode cX5_isPerson 12 = .ok (.iload_n 1, 1) := by decide +kernel
theorem dX5_isPerson_13 : decode cX5_isPerson 13 = .ok (.bipush 6, 2) := by decide +kernel
theorem dX5_isPerson_15 : decode cX5_isPerson 15 = .ok (.if_icmp .ge 7, 3) := by decide +kernel
theorem dX5_isPerson_18 : decode cX5_isPerson 18 = .ok (.iconst 1, 1) := by decide +kernel
theorem dX5_isPerson_19 : decode cX5_isPerson 19 = .ok (.goto 4, 3) := by decide +kernel
theorem dX5_isPerson_22 : decode cX5_isPerson 22 = .ok (.iconst 0, 1) := by decide +kernel
theorem dX5_isPerson_23 : decode cX5_isPerson 23 = .ok (.ireturn, 1) := by decide +kernel
theorem dX5_kindOf_0 : decode cX5_kindOf 0 = .ok (.iload_n 1, 1) := by decide +kernel
theorem dX5_kindOf_1 : decode cX5_kindOf 1 = .ok (.ifCond .lt 21, 3) := by decide +kernel
theorem dX5_kindOf_4 : decode cX5_kindOf 4 = .ok (.iload_n 1, 1) := by decide +kernel
theorem dX5_kindOf_5 : decode cX5_kindOf 5 = .ok (.aload_n 0, 1) := by decide +kernel
theorem dX5_kindOf_6 : decode cX5_kindOf 6 = .ok (.getfield 19, 3) := by decide +kernel
theorem dX5_kindOf_9 : decode cX5_kindOf 9 = .ok (.arraylength, 1) := by decide +kernel
theorem dX5_kindOf_10 : decode cX5_kindOf 10 = .ok (.if_icmp .ge 12, 3) := by decide +kernel
theorem dX5_kindOf_13 : decode cX5_kindOf 13 = .ok (.aload_n 0, 1) := by decide +kernel
theorem dX5_kindOf_14 : decode cX5_kindOf 14 = .ok (.getfield 19, 3) := by decide +kernel
theorem dX5_kindOf_17 : decode cX5_kindOf 17 = .ok (.iload_n 1, 1) := by decide +kernel
theorem dX5_kindOf_18 : decode cX5_kindOf 18 = .ok (.iaload, 1) := by decide +kernel
theorem dX5_kindOf_19 : decode cX5_kindOf 19 = .ok (.goto 4, 3) := by decide +kernel
theorem dX5_kindOf_22 : decode cX5_kindOf 22 = .ok (.iconst 0, 1) := by decide +kernel
theorem dX5_kindOf_23 : decode cX5_kindOf 23 = .ok (.ireturn, 1) := by decide +kernel
theorem dX5_bornOf_0 : decode cX5_bornOf 0 = .ok (.iload_n 1, 1) := by decide +kernel
theorem dX5_bornOf_1 : decode cX5_bornOf 1 = .ok (.ifCond .lt 21, 3) := by decide +kernel
theorem dX5_bornOf_4 : decode cX5_bornOf 4 = .ok (.iload_n 1, 1) := by decide +kernel
theorem dX5_bornOf_5 : decode cX5_bornOf 5 = .ok (.aload_n 0, 1) := by decide +kernel
theorem dX5_bornOf_6 : decode cX5_bornOf 6 = .ok (.getfield 23, 3) := by decide +kernel
theorem dX5_bornOf_9 : decode cX5_bornOf 9 = .ok (.arraylength, 1) := by decide +kernel
theorem dX5_bornOf_10 : decode cX5_bornOf 10 = .ok (.if_icmp .ge 12, 3) := by decide +kernel
theorem dX5_bornOf_13 : decode cX5_bornOf 13 = .ok (.aload_n 0, 1) := by decide +kernel
theorem dX5_bornOf_14 : decode cX5_bornOf 14 = .ok (.getfield 23, 3) := by decide +kernel
theorem dX5_bornOf_17 : decode cX5_bornOf 17 = .ok (.iload_n 1, 1) := by decide +kernel
theorem dX5_bornOf_18 : decode cX5_bornOf 18 = .ok (.iaload, 1) := by decide +kernel
theorem dX5_bornOf_19 : decode cX5_bornOf 19 = .ok (.goto 4, 3) := by decide +kernel
theorem dX5_bornOf_22 : decode cX5_bornOf 22 = .ok (.iconst 0, 1) := by decide +kernel
theorem dX5_bornOf_23 : decode cX5_bornOf 23 = .ok (.ireturn, 1) := by decide +kernel
theorem dX5_pleaOf_0 : decode cX5_pleaOf 0 = .ok (.iload_n 1, 1) := by decide +kernel
theorem dX5_pleaOf_1 : decode cX5_pleaOf 1 = .ok (.ifCond .lt 21, 3) := by decide +kernel
theorem dX5_pleaOf_4 : decode cX5_pleaOf 4 = .ok (.iload_n 1, 1) := by decide +kernel
theorem dX5_pleaOf_5 : decode cX5_pleaOf 5 = .ok (.aload_n 0, 1) := by decide +kernel
theorem dX5_pleaOf_6 : decode cX5_pleaOf 6 = .ok (.getfield 26, 3) := by decide +kernel
theorem dX5_pleaOf_9 : decode cX5_pleaOf 9 = .ok (.arraylength, 1) := by decide +kernel
theorem dX5_pleaOf_10 : decode cX5_pleaOf 10 = .ok (.if_icmp .ge 12, 3) := by decide +kernel
theorem dX5_pleaOf_13 : decode cX5_pleaOf 13 = .ok (.aload_n 0, 1) := by decide +kernel
theorem dX5_pleaOf_14 : decode cX5_pleaOf 14 = .ok (.getfield 26, 3) := by decide +kernel
theorem dX5_pleaOf_17 : decode cX5_pleaOf 17 = .ok (.iload_n 1, 1) := by decide +kernel
theorem dX5_pleaOf_18 : decode cX5_pleaOf 18 = .ok (.iaload, 1) := by decide +kernel
theorem dX5_pleaOf_19 : decode cX5_pleaOf 19 = .ok (.goto 4, 3) := by decide +kernel
theorem dX5_pleaOf_22 : decode cX5_pleaOf 22 = .ok (.iconst 0, 1) := by decide +kernel
theorem dX5_pleaOf_23 : decode cX5_pleaOf 23 = .ok (.ireturn, 1) := by decide +kernel
theorem dX5_isDead_0 : decode cX5_isDead 0 = .ok (.aload_n 0, 1) := by decide +kernel
theorem dX5_isDead_1 : decode cX5_isDead 1 = .ok (.iload_n 1, 1) := by decide +kernel
theorem dX5_isDead_2 : decode cX5_isDead 2 = .ok (.invokevirtual 52, 3) := by decide +kernel
theorem dX5_isDead_5 : decode cX5_isDead 5 = .ok (.iconst 2, 1) := by decide +kernel
theorem dX5_isDead_6 : decode cX5_isDead 6 = .ok (.if_icmp .eq 21, 3) := by decide +kernel
theorem dX5_isDead_9 : decode cX5_isDead 9 = .ok (.iload_n 2, 1) := by decide +kernel
theorem dX5_isDead_10 : decode cX5_isDead 10 = .ok (.aload_n 0, 1) := by decide +kernel
theorem dX5_isDead_11 : decode cX5_isDead 11 = .ok (.iload_n 1, 1) := by decide +kernel
theorem dX5_isDead_12 : decode cX5_isDead 12 = .ok (.invokevirtual 56, 3) := by decide +kernel
theorem dX5_isDead_15 : decode cX5_isDead 15 = .ok (.isub, 1) := by decide +kernel
theorem dX5_isDead_16 : decode cX5_isDead 16 = .ok (.aload_n 0, 1) := by decide +kernel
theorem dX5_isDead_17 : decode cX5_isDead 17 = .ok (.getfield 35, 3) := by decide +kernel
theorem dX5_isDead_20 : decode cX5_isDead 20 = .ok (.if_icmp .lt 7, 3) := by decide +kernel
theorem dX5_isDead_23 : decode cX5_isDead 23 = .ok (.iconst 1, 1) := by decide +kernel
theorem dX5_isDead_24 : decode cX5_isDead 24 = .ok (.goto 4, 3) := by decide +kernel
theorem dX5_isDead_27 : decode cX5_isDead 27 = .ok (.iconst 0, 1) := by decide +kernel
theorem dX5_isDead_28 : decode cX5_isDead 28 = .ok (.ireturn, 1) := by decide +kernel
theorem dX5_deadBits_0 : decode cX5_deadBits 0 = .ok (.iconst 0, 1) := by decide +kernel
theorem dX5_deadBits_1 : decode cX5_deadBits 1 = .ok (.istore_n 2, 1) := by decide +kernel
theorem dX5_deadBits_2 : decode cX5_deadBits 2 = .ok (.iconst 0, 1) := by decide +kernel
theorem dX5_deadBits_3 : decode cX5_deadBits 3 = .ok (.istore_n 3, 1) := by decide +kernel
theorem dX5_deadBits_4 : decode cX5_deadBits 4 = .ok (.iload_n 3, 1) := by decide +kernel
theorem dX5_deadBits_5 : decode cX5_deadBits 5 = .ok (.aload_n 0, 1) := by decide +kernel
theorem dX5_deadBits_6 : decode cX5_deadBits 6 = .ok (.getfield 9, 3) := by decide +kernel
theorem dX5_deadBits_9 : decode cX5_deadBits 9 = .ok (.if_icmp .ge 30, 3) := by decide +kernel
theorem dX5_deadBits_12 : decode cX5_deadBits 12 = .ok (.iload_n 3, 1) := by decide +kernel
theorem dX5_deadBits_13 : decode cX5_deadBits 13 = .ok (.bipush 6, 2) := by decide +kernel
theorem dX5_deadBits_15 : decode cX5_deadBits 15 = .ok (.if_icmp .ge 24, 3) := by decide +kernel
theorem dX5_deadBits_18 : decode cX5_deadBits 18 = .ok (.aload_n 0, 1) := by decide +kernel
theorem dX5_deadBits_19 : decode cX5_deadBits 19 = .ok (.iload_n 3, 1) := by decide +kernel
theorem dX5_deadBits_20 : decode cX5_deadBits 20 = .ok (.iload_n 1, 1) := by decide +kernel
theorem dX5_deadBits_21 : decode cX5_deadBits 21 = .ok (.invokevirtual 59, 3) := by decide +kernel
theorem dX5_deadBits_24 : decode cX5_deadBits 24 = .ok (.ifCond .eq 9, 3) := by decide +kernel
theorem dX5_deadBits_27 : decode cX5_deadBits 27 = .ok (.iload_n 2, 1) := by decide +kernel
theorem dX5_deadBits_28 : decode cX5_deadBits 28 = .ok (.iconst 1, 1) := by decide +kernel
theorem dX5_deadBits_29 : decode cX5_deadBits 29 = .ok (.iload_n 3, 1) := by decide +kernel
theorem dX5_deadBits_30 : decode cX5_deadBits 30 = .ok (.ishl, 1) := by decide +kernel
theorem dX5_deadBits_31 : decode cX5_deadBits 31 = .ok (.ior, 1) := by decide +kernel
theorem dX5_deadBits_32 : decode cX5_deadBits 32 = .ok (.istore_n 2, 1) := by decide +kernel
theorem dX5_deadBits_33 : decode cX5_deadBits 33 = .ok (.iinc 3 1, 3) := by decide +kernel
theorem dX5_deadBits_36 : decode cX5_deadBits 36 = .ok (.goto (-32), 3) := by decide +kernel
theorem dX5_deadBits_39 : decode cX5_deadBits 39 = .ok (.iload_n 2, 1) := by decide +kernel
theorem dX5_deadBits_40 : decode cX5_deadBits 40 = .ok (.ireturn, 1) := by decide +kernel
theorem dX6_init_0 : decode cX6_init 0 = .ok (.aload_n 0, 1) := by decide +kernel
theorem dX6_init_1 : decode cX6_init 1 = .ok (.invokespecial 3, 3) := by decide +kernel
theorem dX6_init_4 : decode cX6_init 4 = .ok (.aload_n 0, 1) := by decide +kernel
theorem dX6_init_5 : decode cX6_init 5 = .ok (.bipush 40, 2) := by decide +kernel
theorem dX6_init_7 : decode cX6_init 7 = .ok (.newarray .int, 2) := by decide +kernel
theorem dX6_init_9 : decode cX6_init 9 = .ok (.putfield 9, 3) := by decide +kernel
theorem dX6_init_12 : decode cX6_init 12 = .ok (.aload_n 0, 1) := by decide +kernel
theorem dX6_init_13 : decode cX6_init 13 = .ok (.bipush 40, 2) := by decide +kernel
theorem dX6_init_15 : decode cX6_init 15 = .ok (.newarray .int, 2) := by decide +kernel
theorem dX6_init_17 : decode cX6_init 17 = .ok (.putfield 15, 3) := by decide +kernel
theorem dX6_init_20 : decode cX6_init 20 = .ok (.aload_n 0, 1) := by decide +kernel
theorem dX6_init_21 : decode cX6_init 21 = .ok (.iconst 0, 1) := by decide +kernel
theorem dX6_init_22 : decode cX6_init 22 = .ok (.putfield 18, 3) := by decide +kernel
theorem dX6_init_25 : decode cX6_init 25 = .ok (.return_, 1) := by decide +kernel
theorem dX6_clear_0 : decode cX6_clear 0 = .ok (.aload_n 0, 1) := by decide +kernel
theorem dX6_clear_1 : decode cX6_clear 1 = .ok (.iconst 0, 1) := by decide +kernel
theorem dX6_clear_2 : decode cX6_clear 2 = .ok (.putfield 18, 3) := by decide +kernel
theorem dX6_clear_5 : decode cX6_clear 5 = .ok (.return_, 1) := by decide +kernel
theorem dX6_add_0 : decode cX6_add 0 = .ok (.aload_n 0, 1) := by decide +kernel
theorem dX6_add_1 : decode cX6_add 1 = .ok (.getfield 18, 3) := by decide +kernel
theorem dX6_add_4 : decode cX6_add 4 = .ok (.ifCond .lt 42, 3) := by decide +kernel
theorem dX6_add_7 : decode cX6_add 7 = .ok (.aload_n 0, 1) := by decide +kernel
theorem dX6_add_8 : decode cX6_add 8 = .ok (.getfield 18, 3) := by decide +kernel
theorem dX6_add_11 : decode cX6_add 11 = .ok (.bipush 40, 2) := by decide +kernel
theorem dX6_add_13 : decode cX6_add 13 = .ok (.if_icmp .ge 33, 3) := by decide +kernel
theorem dX6_add_16 : decode cX6_add 16 = .ok (.aload_n 0, 1) := by decide +kernel
theorem dX6_add_17 : decode cX6_add 17 = .ok (.getfield 9, 3) := by decide +kernel
theorem dX6_add_20 : decode cX6_add 20 = .ok (.aload_n 0, 1) := by decide +kernel
theorem dX6_add_21 : decode cX6_add 21 = .ok (.getfield 18, 3) := by decide +kernel
theorem dX6_add_24 : decode cX6_add 24 = .ok (.iload_n 1, 1) := by decide +kernel
theorem dX6_add_25 : decode cX6_add 25 = .ok (.iastore, 1) := by decide +kernel
theorem dX6_add_26 : decode cX6_add 26 = .ok (.aload_n 0, 1) := by decide +kernel
theorem dX6_add_27 : decode cX6_add 27 = .ok (.getfield 15, 3) := by decide +kernel
theorem dX6_add_30 : decode cX6_add 30 = .ok (.aload_n 0, 1) := by decide +kernel
theorem dX6_add_31 : decode cX6_add 31 = .ok (.getfield 18, 3) := by decide +kernel
theorem dX6_add_34 : decode cX6_add 34 = .ok (.iload_n 2, 1) := by decide +kernel
theorem dX6_add_35 : decode cX6_add 35 = .ok (.iastore, 1) := by decide +kernel
theorem dX6_add_36 : decode cX6_add 36 = .ok (.aload_n 0, 1) := by decide +kernel
theorem dX6_add_37 : decode cX6_add 37 = .ok (.dup, 1) := by decide +kernel
theorem dX6_add_38 : decode cX6_add 38 = .ok (.getfield 18, 3) := by decide +kernel
theorem dX6_add_41 : decode cX6_add 41 = .ok (.iconst 1, 1) := by decide +kernel
theorem dX6_add_42 : decode cX6_add 42 = .ok (.iadd, 1) := by decide +kernel
theorem dX6_add_43 : decode cX6_add 43 = .ok (.putfield 18, 3) := by decide +kernel
theorem dX6_add_46 : decode cX6_add 46 = .ok (.return_, 1) := by decide +kernel
theorem dX6_actOf_0 : decode cX6_actOf 0 = .ok (.iload_n 1, 1) := by decide +kernel
theorem dX6_actOf_1 : decode cX6_actOf 1 = .ok (.ifCond .lt 21, 3) := by decide +kernel
theorem dX6_actOf_4 : decode cX6_actOf 4 = .ok (.iload_n 1, 1) := by decide +kernel
theorem dX6_actOf_5 : decode cX6_actOf 5 = .ok (.aload_n 0, 1) := by decide +kernel
theorem dX6_actOf_6 : decode cX6_actOf 6 = .ok (.getfield 9, 3) := by decide +kernel
theorem dX6_actOf_9 : decode cX6_actOf 9 = .ok (.arraylength, 1) := by decide +kernel
theorem dX6_actOf_10 : decode cX6_actOf 10 = .ok (.if_icmp .ge 12, 3) := by decide +kernel
theorem dX6_actOf_13 : decode cX6_actOf 13 = .ok (.aload_n 0, 1) := by decide +kernel
theorem dX6_actOf_14 : decode cX6_actOf 14 = .ok (.getfield 9, 3) := by decide +kernel
theorem dX6_actOf_17 : decode cX6_actOf 17 = .ok (.iload_n 1, 1) := by decide +kernel
theorem dX6_actOf_18 : decode cX6_actOf 18 = .ok (.iaload, 1) := by decide +kernel
theorem dX6_actOf_19 : decode cX6_actOf 19 = .ok (.goto 4, 3) := by decide +kernel
theorem dX6_actOf_22 : decode cX6_actOf 22 = .ok (.iconst (-1), 1) := by decide +kernel
theorem dX6_actOf_23 : decode cX6_actOf 23 = .ok (.ireturn, 1) := by decide +kernel
theorem dX6_partOf_0 : decode cX6_partOf 0 = .ok (.iload_n 1, 1) := by decide +kernel
theorem dX6_partOf_1 : decode cX6_partOf 1 = .ok (.ifCond .lt 21, 3) := by decide +kernel
theorem dX6_partOf_4 : decode cX6_partOf 4 = .ok (.iload_n 1, 1) := by decide +kernel
theorem dX6_partOf_5 : decode cX6_partOf 5 = .ok (.aload_n 0, 1) := by decide +kernel
theorem dX6_partOf_6 : decode cX6_partOf 6 = .ok (.getfield 15, 3) := by decide +kernel
theorem dX6_partOf_9 : decode cX6_partOf 9 = .ok (.arraylength, 1) := by decide +kernel
theorem dX6_partOf_10 : decode cX6_partOf 10 = .ok (.if_icmp .ge 12, 3) := by decide +kernel
theorem dX6_partOf_13 : decode cX6_partOf 13 = .ok (.aload_n 0, 1) := by decide +kernel
theorem dX6_partOf_14 : decode cX6_partOf 14 = .ok (.getfield 15, 3) := by decide +kernel
theorem dX6_partOf_17 : decode cX6_partOf 17 = .ok (.iload_n 1, 1) := by decide +kernel
theorem dX6_partOf_18 : decode cX6_partOf 18 = .ok (.iaload, 1) := by decide +kernel
theorem dX6_partOf_19 : decode cX6_partOf 19 = .ok (.goto 4, 3) := by decide +kernel
theorem dX6_partOf_22 : decode cX6_partOf 22 = .ok (.iconst (-1), 1) := by decide +kernel
theorem dX6_partOf_23 : decode cX6_partOf 23 = .ok (.ireturn, 1) := by decide +kernel
theorem dX6_copyFrom_0 : decode cX6_copyFrom 0 = .ok (.aload_n 0, 1) := by decide +kernel
theorem dX6_copyFrom_1 : decode cX6_copyFrom 1 = .ok (.iconst 0, 1) := by decide +kernel
theorem dX6_copyFrom_2 : decode cX6_copyFrom 2 = .ok (.putfield 18, 3) := by decide +kernel
theorem dX6_copyFrom_5 : decode cX6_copyFrom 5 = .ok (.iconst 0, 1) := by decide +kernel
theorem dX6_copyFrom_6 : decode cX6_copyFrom 6 = .ok (.istore_n 2, 1) := by decide +kernel
theorem dX6_copyFrom_7 : decode cX6_copyFrom 7 = .ok (.iload_n 2, 1) := by decide +kernel
theorem dX6_copyFrom_8 : decode cX6_copyFrom 8 = .ok (.aload_n 1, 1) := by decide +kernel
theorem dX6_copyFrom_9 : decode cX6_copyFrom 9 = .ok (.getfield 18, 3) := by decide +kernel
theorem dX6_copyFrom_12 : decode cX6_copyFrom 12 = .ok (.if_icmp .ge 23, 3) := by decide +kernel
theorem dX6_copyFrom_15 : decode cX6_copyFrom 15 = .ok (.aload_n 0, 1) := by decide +kernel
theorem dX6_copyFrom_16 : decode cX6_copyFrom 16 = .ok (.aload_n 1, 1) := by decide +kernel
theorem dX6_copyFrom_17 : decode cX6_copyFrom 17 = .ok (.iload_n 2, 1) := by decide +kernel
theorem dX6_copyFrom_18 : decode cX6_copyFrom 18 = .ok (.invokevirtual 22, 3) := by decide +kernel
theorem dX6_copyFrom_21 : decode cX6_copyFrom 21 = .ok (.aload_n 1, 1) := by decide +kernel
theorem dX6_copyFrom_22 : decode cX6_copyFrom 22 = .ok (.iload_n 2, 1) := by decide +kernel
theorem dX6_copyFrom_23 : decode cX6_copyFrom 23 = .ok (.invokevirtual 26, 3) := by decide +kernel
theorem dX6_copyFrom_26 : decode cX6_copyFrom 26 = .ok (.invokevirtual 29, 3) := by decide +kernel
theorem dX6_copyFrom_29 : decode cX6_copyFrom 29 = .ok (.iinc 2 1, 3) := by decide +kernel
theorem dX6_copyFrom_32 : decode cX6_copyFrom 32 = .ok (.goto (-25), 3) := by decide +kernel
theorem dX6_copyFrom_35 : decode cX6_copyFrom 35 = .ok (.return_, 1) := by decide +kernel
theorem dX7_init_0 : decode cX7_init 0 = .ok (.aload_n 0, 1) := by decide +kernel
theorem dX7_init_1 : decode cX7_init 1 = .ok (.invokespecial 3, 3) := by decide +kernel
theorem dX7_init_4 : decode cX7_init 4 = .ok (.aload_n 0, 1) := by decide +kernel
theorem dX7_init_5 : decode cX7_init 5 = .ok (.bipush 8, 2) := by decide +kernel
theorem dX7_init_7 : decode cX7_init 7 = .ok (.newarray .int, 2) := by decide +kernel
theorem dX7_init_9 : decode cX7_init 9 = .ok (.putfield 9, 3) := by decide +kernel
theorem dX7_init_12 : decode cX7_init 12 = .ok (.aload_n 0, 1) := by decide +kernel
theorem dX7_init_13 : decode cX7_init 13 = .ok (.bipush 8, 2) := by decide +kernel
theorem dX7_init_15 : decode cX7_init 15 = .ok (.newarray .boolean, 2) := by decide +kernel
theorem dX7_init_17 : decode cX7_init 17 = .ok (.putfield 15, 3) := by decide +kernel
theorem dX7_init_20 : decode cX7_init 20 = .ok (.aload_n 0, 1) := by decide +kernel
theorem dX7_init_21 : decode cX7_init 21 = .ok (.iconst 0, 1) := by decide +kernel
theorem dX7_init_22 : decode cX7_init 22 = .ok (.putfield 19, 3) := by decide +kernel
theorem dX7_init_25 : decode cX7_init 25 = .ok (.aload_n 0, 1) := by decide +kernel
theorem dX7_init_26 : decode cX7_init 26 = .ok (.bipush 41, 2) := by decide +kernel
theorem dX7_init_28 : decode cX7_init 28 = .ok (.newarray .int, 2) := by decide +kernel
theorem dX7_init_30 : decode cX7_init 30 = .ok (.putfield 23, 3) := by decide +kernel
theorem dX7_init_33 : decode cX7_init 33 = .ok (.return_, 1) := by decide +kernel
theorem dX7_clear_0 : decode cX7_clear 0 = .ok (.aload_n 0, 1) := by decide +kernel
theorem dX7_clear_1 : decode cX7_clear 1 = .ok (.iconst 0, 1) := by decide +kernel
theorem dX7_clear_2 : decode cX7_clear 2 = .ok (.putfield 19, 3) := by decide +kernel
theorem dX7_clear_5 : decode cX7_clear 5 = .ok (.return_, 1) := by decide +kernel
theorem dX7_add_0 : decode cX7_add 0 = .ok (.iload_n 1, 1) := by decide +kernel
theorem dX7_add_1 : decode cX7_add 1 = .ok (.ifCond .lt 25, 3) := by decide +kernel
theorem dX7_add_4 : decode cX7_add 4 = .ok (.iload_n 1, 1) := by decide +kernel
theorem dX7_add_5 : decode cX7_add 5 = .ok (.bipush 40, 2) := by decide +kernel
theorem dX7_add_7 : decode cX7_add 7 = .ok (.if_icmp .gt 19, 3) := by decide +kernel
theorem dX7_add_10 : decode cX7_add 10 = .ok (.aload_n 0, 1) := by decide +kernel
theorem dX7_add_11 : decode cX7_add 11 = .ok (.getfield 19, 3) := by decide +kernel
theorem dX7_add_14 : decode cX7_add 14 = .ok (.ifCond .lt 12, 3) := by decide +kernel
theorem dX7_add_17 : decode cX7_add 17 = .ok (.aload_n 0, 1) := by decide +kernel
theorem dX7_add_18 : decode cX7_add 18 = .ok (.getfield 19, 3) := by decide +kernel
theorem dX7_add_21 : decode cX7_add 21 = .ok (.bipush 8, 2) := by decide +kernel
theorem dX7_add_23 : decode cX7_add 23 = .ok (.if_icmp .lt 5, 3) := by decide +kernel
theorem dX7_add_26 : decode cX7_add 26 = .ok (.iconst 0, 1) := by decide +kernel
theorem dX7_add_27 : decode cX7_add 27 = .ok (.ireturn, 1) := by decide +kernel
theorem dX7_add_28 : decode cX7_add 28 = .ok (.aload_n 0, 1) := by decide +kernel
theorem dX7_add_29 : decode cX7_add 29 = .ok (.getfield 9, 3) := by decide +kernel
theorem dX7_add_32 : decode cX7_add 32 = .ok (.aload_n 0, 1) := by decide +kernel
theorem dX7_add_33 : decode cX7_add 33 = .ok (.getfield 19, 3) := by decide +kernel
theorem dX7_add_36 : decode cX7_add 36 = .ok (.iload_n 1, 1) := by decide +kernel
theorem dX7_add_37 : decode cX7_add 37 = .ok (.iastore, 1) := by decide +kernel
theorem dX7_add_38 : decode cX7_add 38 = .ok (.aload_n 0, 1) := by decide +kernel
theorem dX7_add_39 : decode cX7_add 39 = .ok (.getfield 15, 3) := by decide +kernel
theorem dX7_add_42 : decode cX7_add 42 = .ok (.aload_n 0, 1) := by decide +kernel
theorem dX7_add_43 : decode cX7_add 43 = .ok (.getfield 19, 3) := by decide +kernel
theorem dX7_add_46 : decode cX7_add 46 = .ok (.iload_n 2, 1) := by decide +kernel
theorem dX7_add_47 : decode cX7_add 47 = .ok (.bastore, 1) := by decide +kernel
theorem dX7_add_48 : decode cX7_add 48 = .ok (.aload_n 0, 1) := by decide +kernel
theorem dX7_add_49 : decode cX7_add 49 = .ok (.dup, 1) := by decide +kernel
theorem dX7_add_50 : decode cX7_add 50 = .ok (.getfield 19, 3) := by decide +kernel
theorem dX7_add_53 : decode cX7_add 53 = .ok (.iconst 1, 1) := by decide +kernel
theorem dX7_add_54 : decode cX7_add 54 = .ok (.iadd, 1) := by decide +kernel
theorem dX7_add_55 : decode cX7_add 55 = .ok (.putfield 19, 3) := by decide +kernel
theorem dX7_add_58 : decode cX7_add 58 = .ok (.iconst 1, 1) := by decide +kernel
theorem dX7_add_59 : decode cX7_add 59 = .ok (.ireturn, 1) := by decide +kernel
theorem dX7_allowYear_0 : decode cX7_allowYear 0 = .ok (.iconst 0, 1) := by decide +kernel
theorem dX7_allowYear_1 : decode cX7_allowYear 1 = .ok (.istore_n 2, 1) := by decide +kernel
theorem dX7_allowYear_2 : decode cX7_allowYear 2 = .ok (.iload_n 2, 1) := by decide +kernel
theorem dX7_allowYear_3 : decode cX7_allowYear 3 = .ok (.aload_n 0, 1) := by decide +kernel
theorem dX7_allowYear_4 : decode cX7_allowYear 4 = .ok (.getfield 19, 3) := by decide +kernel
theorem dX7_allowYear_7 : decode cX7_allowYear 7 = .ok (.if_icmp .ge 37, 3) := by decide +kernel
theorem dX7_allowYear_10 : decode cX7_allowYear 10 = .ok (.iload_n 2, 1) := by decide +kernel
theorem dX7_allowYear_11 : decode cX7_allowYear 11 = .ok (.bipush 8, 2) := by decide +kernel
theorem dX7_allowYear_13 : decode cX7_allowYear 13 = .ok (.if_icmp .ge 31, 3) := by decide +kernel
theorem dX7_allowYear_16 : decode cX7_allowYear 16 = .ok (.iload_n 1, 1) := by decide +kernel
theorem dX7_allowYear_17 : decode cX7_allowYear 17 = .ok (.aload_n 0, 1) := by decide +kernel
theorem dX7_allowYear_18 : decode cX7_allowYear 18 = .ok (.getfield 9, 3) := by decide +kernel
theorem dX7_allowYear_21 : decode cX7_allowYear 21 = .ok (.iload_n 2, 1) := by decide +kernel
theorem dX7_allowYear_22 : decode cX7_allowYear 22 = .ok (.iaload, 1) := by decide +kernel
theorem dX7_allowYear_23 : decode cX7_allowYear 23 = .ok (.iadd, 1) := by decide +kernel
theorem dX7_allowYear_24 : decode cX7_allowYear 24 = .ok (.invokestatic 26, 3) := by decide +kernel
theorem dX7_allowYear_27 : decode cX7_allowYear 27 = .ok (.aload_n 0, 1) := by decide +kernel
theorem dX7_allowYear_28 : decode cX7_allowYear 28 = .ok (.getfield 15, 3) := by decide +kernel
theorem dX7_allowYear_31 : decode cX7_allowYear 31 = .ok (.iload_n 2, 1) := by decide +kernel
theorem dX7_allowYear_32 : decode cX7_allowYear 32 = .ok (.baload, 1) := by decide +kernel
theorem dX7_allowYear_33 : decode cX7_allowYear 33 = .ok (.if_icmp .eq 5, 3) := by decide +kernel
theorem dX7_allowYear_36 : decode cX7_allowYear 36 = .ok (.iconst 0, 1) := by decide +kernel
theorem dX7_allowYear_37 : decode cX7_allowYear 37 = .ok (.ireturn, 1) := by decide +kernel
theorem dX7_allowYear_38 : decode cX7_allowYear 38 = .ok (.iinc 2 1, 3) := by decide +kernel
theorem dX7_allowYear_41 : decode cX7_allowYear 41 = .ok (.goto (-39), 3) := by decide +kernel
theorem dX7_allowYear_44 : decode cX7_allowYear 44 = .ok (.iconst 1, 1) := by decide +kernel
theorem dX7_allowYear_45 : decode cX7_allowYear 45 = .ok (.ireturn, 1) := by decide +kernel
theorem dX7_bestQuestion_0 : decode cX7_bestQuestion 0 = .ok (.aload_n 0, 1) := by decide +kernel
theorem dX7_bestQuestion_1 : decode cX7_bestQuestion 1 = .ok (.invokevirtual 32, 3) := by decide +kernel
theorem dX7_bestQuestion_4 : decode cX7_bestQuestion 4 = .ok (.istore_n 1, 1) := by decide +kernel
theorem dX7_bestQuestion_5 : decode cX7_bestQuestion 5 = .ok (.iconst (-1), 1) := by decide +kernel
theorem dX7_bestQuestion_6 : decode cX7_bestQuestion 6 = .ok (.istore_n 2, 1) := by decide +kernel
theorem dX7_bestQuestion_7 : decode cX7_bestQuestion 7 = .ok (.iload_n 1, 1) := by decide +kernel
theorem dX7_bestQuestion_8 : decode cX7_bestQuestion 8 = .ok (.istore_n 3, 1) := by decide +kernel
theorem dX7_bestQuestion_9 : decode cX7_bestQuestion 9 = .ok (.iconst 0, 1) := by decide +kernel
theorem dX7_bestQuestion_10 : decode cX7_bestQuestion 10 = .ok (.istore 4, 2) := by decide +kernel
theorem dX7_bestQuestion_12 : decode cX7_bestQuestion 12 = .ok (.iload 4, 2) := by decide +kernel
theorem dX7_bestQuestion_14 : decode cX7_bestQuestion 14 = .ok (.aload_n 0, 1) := by decide +kernel
theorem dX7_bestQuestion_15 : decode cX7_bestQuestion 15 = .ok (.getfield 23, 3) := by decide +kernel
theorem dX7_bestQuestion_18 : decode cX7_bestQuestion 18 = .ok (.arraylength, 1) := by decide +kernel
theorem dX7_bestQuestion_19 : decode cX7_bestQuestion 19 = .ok (.if_icmp .ge 42, 3) := by decide +kernel
theorem dX7_bestQuestion_22 : decode cX7_bestQuestion 22 = .ok (.aload_n 0, 1) := by decide +kernel
theorem dX7_bestQuestion_23 : decode cX7_bestQuestion 23 = .ok (.getfield 23, 3) := by decide +kernel
theorem dX7_bestQuestion_26 : decode cX7_bestQuestion 26 = .ok (.iload 4, 2) := by decide +kernel
theorem dX7_bestQuestion_28 : decode cX7_bestQuestion 28 = .ok (.iaload, 1) := by decide +kernel
theorem dX7_bestQuestion_29 : decode cX7_bestQuestion 29 = .ok (.iload_n 1, 1) := by decide +kernel
theorem dX7_bestQuestion_30 : decode cX7_bestQuestion 30 = .ok (.aload_n 0, 1) := by decide +kernel
theorem dX7_bestQuestion_31 : decode cX7_bestQuestion 31 = .ok (.getfield 23, 3) := by decide +kernel
theorem dX7_bestQuestion_34 : decode cX7_bestQuestion 34 = .ok (.iload 4, 2) := by decide +kernel
theorem dX7_bestQuestion_36 : decode cX7_bestQuestion 36 = .ok (.iaload, 1) := by decide +kernel
theorem dX7_bestQuestion_37 : decode cX7_bestQuestion 37 = .ok (.isub, 1) := by decide +kernel
theorem dX7_bestQuestion_38 : decode cX7_bestQuestion 38 = .ok (.invokestatic 36, 3) := by decide +kernel
theorem dX7_bestQuestion_41 : decode cX7_bestQuestion 41 = .ok (.istore 5, 2) := by decide +kernel
theorem dX7_bestQuestion_43 : decode cX7_bestQuestion 43 = .ok (.iload 5, 2) := by decide +kernel
theorem dX7_bestQuestion_45 : decode cX7_bestQuestion 45 = .ok (.iload_n 3, 1) := by decide +kernel
theorem dX7_bestQuestion_46 : decode cX7_bestQuestion 46 = .ok (.if_icmp .ge 9, 3) := by decide +kernel
theorem dX7_bestQuestion_49 : decode cX7_bestQuestion 49 = .ok (.iload 5, 2) := by decide +kernel
theorem dX7_bestQuestion_51 : decode cX7_bestQuestion 51 = .ok (.istore_n 3, 1) := by decide +kernel
theorem dX7_bestQuestion_52 : decode cX7_bestQuestion 52 = .ok (.iload 4, 2) := by decide +kernel
theorem dX7_bestQuestion_54 : decode cX7_bestQuestion 54 = .ok (.istore_n 2, 1) := by decide +kernel
theorem dX7_bestQuestion_55 : decode cX7_bestQuestion 55 = .ok (.iinc 4 1, 3) := by decide +kernel
theorem dX7_bestQuestion_58 : decode cX7_bestQuestion 58 = .ok (.goto (-46), 3) := by decide +kernel
theorem dX7_bestQuestion_61 : decode cX7_bestQuestion 61 = .ok (.iload_n 2, 1) := by decide +kernel
theorem dX7_bestQuestion_62 : decode cX7_bestQuestion 62 = .ok (.ireturn, 1) := by decide +kernel
theorem dX7_countLeapsThen_0 : decode cX7_countLeapsThen 0 = .ok (.iconst 0, 1) := by decide +kernel
theorem dX7_countLeapsThen_1 : decode cX7_countLeapsThen 1 = .ok (.istore_n 1, 1) := by decide +kernel
theorem dX7_countLeapsThen_2 : decode cX7_countLeapsThen 2 = .ok (.iconst 0, 1) := by decide +kernel
theorem dX7_countLeapsThen_3 : decode cX7_countLeapsThen 3 = .ok (.istore_n 2, 1) := by decide +kernel
theorem dX7_countLeapsThen_4 : decode cX7_countLeapsThen 4 = .ok (.iload_n 2, 1) := by decide +kernel
theorem dX7_countLeapsThen_5 : decode cX7_countLeapsThen 5 = .ok (.aload_n 0, 1) := by decide +kernel
theorem dX7_countLeapsThen_6 : decode cX7_countLeapsThen 6 = .ok (.getfield 23, 3) := by decide +kernel
theorem dX7_countLeapsThen_9 : decode cX7_countLeapsThen 9 = .ok (.arraylength, 1) := by decide +kernel
theorem dX7_countLeapsThen_10 : decode cX7_countLeapsThen 10 = .ok (.if_icmp .ge 16, 3) := by decide +kernel
theorem dX7_countLeapsThen_13 : decode cX7_countLeapsThen 13 = .ok (.aload_n 0, 1) := by decide +kernel
theorem dX7_countLeapsThen_14 : decode cX7_countLeapsThen 14 = .ok (.getfield 23, 3) := by decide +kernel
theorem dX7_countLeapsThen_17 : decode cX7_countLeapsThen 17 = .ok (.iload_n 2, 1) := by decide +kernel
theorem dX7_countLeapsThen_18 : decode cX7_countLeapsThen 18 = .ok (.iconst 0, 1) := by decide +kernel
theorem dX7_countLeapsThen_19 : decode cX7_countLeapsThen 19 = .ok (.iastore, 1) := by decide +kernel
theorem dX7_countLeapsThen_20 : decode cX7_countLeapsThen 20 = .ok (.iinc 2 1, 3) := by decide +kernel
theorem dX7_countLeapsThen_23 : decode cX7_countLeapsThen 23 = .ok (.goto (-19), 3) := by decide +kernel
theorem dX7_countLeapsThen_26 : decode cX7_countLeapsThen 26 = .ok (.iconst 1, 1) := by decide +kernel
theorem dX7_countLeapsThen_27 : decode cX7_countLeapsThen 27 = .ok (.istore_n 2, 1) := by decide +kernel
theorem dX7_countLeapsThen_28 : decode cX7_countLeapsThen 28 = .ok (.iload_n 2, 1) := by decide +kernel
theorem dX7_countLeapsThen_29 : decode cX7_countLeapsThen 29 = .ok (.sipush 2000, 3) := by decide +kernel
theorem dX7_countLeapsThen_32 : decode cX7_countLeapsThen 32 = .ok (.if_icmp .gt 60, 3) := by decide +kernel
theorem dX7_countLeapsThen_35 : decode cX7_countLeapsThen 35 = .ok (.aload_n 0, 1) := by decide +kernel
theorem dX7_countLeapsThen_36 : decode cX7_countLeapsThen 36 = .ok (.iload_n 2, 1) := by decide +kernel
theorem dX7_countLeapsThen_37 : decode cX7_countLeapsThen 37 = .ok (.invokevirtual 42, 3) := by decide +kernel
theorem dX7_countLeapsThen_40 : decode cX7_countLeapsThen 40 = .ok (.ifCond .eq 46, 3) := by decide +kernel
theorem dX7_countLeapsThen_43 : decode cX7_countLeapsThen 43 = .ok (.iinc 1 1, 3) := by decide +kernel
theorem dX7_countLeapsThen_46 : decode cX7_countLeapsThen 46 = .ok (.iconst 0, 1) := by decide +kernel
theorem dX7_countLeapsThen_47 : decode cX7_countLeapsThen 47 = .ok (.istore_n 3, 1) := by decide +kernel
theorem dX7_countLeapsThen_48 : decode cX7_countLeapsThen 48 = .ok (.iload_n 3, 1) := by decide +kernel
theorem dX7_countLeapsThen_49 : decode cX7_countLeapsThen 49 = .ok (.aload_n 0, 1) := by decide +kernel
theorem dX7_countLeapsThen_50 : decode cX7_countLeapsThen 50 = .ok (.getfield 23, 3) := by decide +kernel
theorem dX7_countLeapsThen_53 : decode cX7_countLeapsThen 53 = .ok (.arraylength, 1) := by decide +kernel
theorem dX7_countLeapsThen_54 : decode cX7_countLeapsThen 54 = .ok (.if_icmp .ge 32, 3) := by decide +kernel
theorem dX7_countLeapsThen_57 : decode cX7_countLeapsThen 57 = .ok (.aload_n 0, 1) := by decide +kernel
theorem dX7_countLeapsThen_58 : decode cX7_countLeapsThen 58 = .ok (.getfield 23, 3) := by decide +kernel
theorem dX7_countLeapsThen_61 : decode cX7_countLeapsThen 61 = .ok (.iload_n 3, 1) := by decide +kernel
theorem dX7_countLeapsThen_62 : decode cX7_countLeapsThen 62 = .ok (.dup2, 1) := by decide +kernel
theorem dX7_countLeapsThen_63 : decode cX7_countLeapsThen 63 = .ok (.iaload, 1) := by decide +kernel
theorem dX7_countLeapsThen_64 : decode cX7_countLeapsThen 64 = .ok (.iload_n 2, 1) := by decide +kernel
theorem dX7_countLeapsThen_65 : decode cX7_countLeapsThen 65 = .ok (.iload_n 3, 1) := by decide +kernel
theorem dX7_countLeapsThen_66 : decode cX7_countLeapsThen 66 = .ok (.iadd, 1) := by decide +kernel
theorem dX7_countLeapsThen_67 : decode cX7_countLeapsThen 67 = .ok (.invokestatic 26, 3) := by decide +kernel
theorem dX7_countLeapsThen_70 : decode cX7_countLeapsThen 70 = .ok (.ifCond .eq 7, 3) := by decide +kernel
theorem dX7_countLeapsThen_73 : decode cX7_countLeapsThen 73 = .ok (.iconst 1, 1) := by decide +kernel
theorem dX7_countLeapsThen_74 : decode cX7_countLeapsThen 74 = .ok (.goto 4, 3) := by decide +kernel
theorem dX7_countLeapsThen_77 : decode cX7_countLeapsThen 77 = .ok (.iconst 0, 1) := by decide +kernel
theorem dX7_countLeapsThen_78 : decode cX7_countLeapsThen 78 = .ok (.iadd, 1) := by decide +kernel
theorem dX7_countLeapsThen_79 : decode cX7_countLeapsThen 79 = .ok (.iastore, 1) := by decide +kernel
theorem dX7_countLeapsThen_80 : decode cX7_countLeapsThen 80 = .ok (.iinc 3 1, 3) := by decide +kernel
theorem dX7_countLeapsThen_83 : decode cX7_countLeapsThen 83 = .ok (.goto (-35), 3) := by decide +kernel
theorem dX7_countLeapsThen_86 : decode cX7_countLeapsThen 86 = .ok (.iinc 2 1, 3) := by decide +kernel
theorem dX7_countLeapsThen_89 : decode cX7_countLeapsThen 89 = .ok (.goto (-61), 3) := by decide +kernel
theorem dX7_countLeapsThen_92 : decode cX7_countLeapsThen 92 = .ok (.iload_n 1, 1) := by decide +kernel
theorem dX7_countLeapsThen_93 : decode cX7_countLeapsThen 93 = .ok (.ireturn, 1) := by decide +kernel
theorem dX7_copyFrom_0 : decode cX7_copyFrom 0 = .ok (.aload_n 0, 1) := by decide +kernel
theorem dX7_copyFrom_1 : decode cX7_copyFrom 1 = .ok (.aload_n 1, 1) := by decide +kernel
theorem dX7_copyFrom_2 : decode cX7_copyFrom 2 = .ok (.getfield 19, 3) := by decide +kernel
theorem dX7_copyFrom_5 : decode cX7_copyFrom 5 = .ok (.putfield 19, 3) := by decide +kernel
theorem dX7_copyFrom_8 : decode cX7_copyFrom 8 = .ok (.iconst 0, 1) := by decide +kernel
theorem dX7_copyFrom_9 : decode cX7_copyFrom 9 = .ok (.istore_n 2, 1) := by decide +kernel
theorem dX7_copyFrom_10 : decode cX7_copyFrom 10 = .ok (.iload_n 2, 1) := by decide +kernel
theorem dX7_copyFrom_11 : decode cX7_copyFrom 11 = .ok (.bipush 8, 2) := by decide +kernel
theorem dX7_copyFrom_13 : decode cX7_copyFrom 13 = .ok (.if_icmp .ge 33, 3) := by decide +kernel
theorem dX7_copyFrom_16 : decode cX7_copyFrom 16 = .ok (.aload_n 0, 1) := by decide +kernel
theorem dX7_copyFrom_17 : decode cX7_copyFrom 17 = .ok (.getfield 9, 3) := by decide +kernel
theorem dX7_copyFrom_20 : decode cX7_copyFrom 20 = .ok (.iload_n 2, 1) := by decide +kernel
theorem dX7_copyFrom_21 : decode cX7_copyFrom 21 = .ok (.aload_n 1, 1) := by decide +kernel
theorem dX7_copyFrom_22 : decode cX7_copyFrom 22 = .ok (.getfield 9, 3) := by decide +kernel
theorem dX7_copyFrom_25 : decode cX7_copyFrom 25 = .ok (.iload_n 2, 1) := by decide +kernel
theorem dX7_copyFrom_26 : decode cX7_copyFrom 26 = .ok (.iaload, 1) := by decide +kernel
theorem dX7_copyFrom_27 : decode cX7_copyFrom 27 = .ok (.iastore, 1) := by decide +kernel
theorem dX7_copyFrom_28 : decode cX7_copyFrom 28 = .ok (.aload_n 0, 1) := by decide +kernel
theorem dX7_copyFrom_29 : decode cX7_copyFrom 29 = .ok (.getfield 15, 3) := by decide +kernel
theorem dX7_copyFrom_32 : decode cX7_copyFrom 32 = .ok (.iload_n 2, 1) := by decide +kernel
theorem dX7_copyFrom_33 : decode cX7_copyFrom 33 = .ok (.aload_n 1, 1) := by decide +kernel
theorem dX7_copyFrom_34 : decode cX7_copyFrom 34 = .ok (.getfield 15, 3) := by decide +kernel
theorem dX7_copyFrom_37 : decode cX7_copyFrom 37 = .ok (.iload_n 2, 1) := by decide +kernel
theorem dX7_copyFrom_38 : decode cX7_copyFrom 38 = .ok (.baload, 1) := by decide +kernel
theorem dX7_copyFrom_39 : decode cX7_copyFrom 39 = .ok (.bastore, 1) := by decide +kernel
theorem dX7_copyFrom_40 : decode cX7_copyFrom 40 = .ok (.iinc 2 1, 3) := by decide +kernel
theorem dX7_copyFrom_43 : decode cX7_copyFrom 43 = .ok (.goto (-33), 3) := by decide +kernel
theorem dX7_copyFrom_46 : decode cX7_copyFrom 46 = .ok (.return_, 1) := by decide +kernel
theorem dX8_init_0 : decode cX8_init 0 = .ok (.aload_n 0, 1) := by decide +kernel
theorem dX8_init_1 : decode cX8_init 1 = .ok (.invokespecial 3, 3) := by decide +kernel
theorem dX8_init_4 : decode cX8_init 4 = .ok (.aload_n 0, 1) := by decide +kernel
theorem dX8_init_5 : decode cX8_init 5 = .ok (.new 9, 3) := by decide +kernel
theorem dX8_init_8 : decode cX8_init 8 = .ok (.dup, 1) := by decide +kernel
theorem dX8_init_9 : decode cX8_init 9 = .ok (.invokespecial 11, 3) := by decide +kernel
theorem dX8_init_12 : decode cX8_init 12 = .ok (.putfield 12, 3) := by decide +kernel
theorem dX8_init_15 : decode cX8_init 15 = .ok (.aload_n 0, 1) := by decide +kernel
theorem dX8_init_16 : decode cX8_init 16 = .ok (.iconst 0, 1) := by decide +kernel
theorem dX8_init_17 : decode cX8_init 17 = .ok (.putfield 18, 3) := by decide +kernel
theorem dX8_init_20 : decode cX8_init 20 = .ok (.aload_n 0, 1) := by decide +kernel
theorem dX8_init_21 : decode cX8_init 21 = .ok (.iconst 0, 1) := by decide +kernel
theorem dX8_init_22 : decode cX8_init 22 = .ok (.putfield 22, 3) := by decide +kernel
theorem dX8_init_25 : decode cX8_init 25 = .ok (.return_, 1) := by decide +kernel
theorem dX8_readRealm_0 : decode cX8_readRealm 0 = .ok (.aload_n 0, 1) := by decide +kernel
theorem dX8_readRealm_1 : decode cX8_readRealm 1 = .ok (.iconst 0, 1) := by decide +kernel
theorem dX8_readRealm_2 : decode cX8_readRealm 2 = .ok (.putfield 18, 3) := by decide +kernel
theorem dX8_readRealm_5 : decode cX8_readRealm 5 = .ok (.aload_n 0, 1) := by decide +kernel
theorem dX8_readRealm_6 : decode cX8_readRealm 6 = .ok (.iconst 0, 1) := by decide +kernel
theorem dX8_readRealm_7 : decode cX8_readRealm 7 = .ok (.putfield 22, 3) := by decide +kernel
theorem dX8_readRealm_10 : decode cX8_readRealm 10 = .ok (.aload_n 1, 1) := by decide +kernel
theorem dX8_readRealm_11 : decode cX8_readRealm 11 = .ok (.invokevirtual 25, 3) := by decide +kernel
theorem dX8_readRealm_14 : decode cX8_readRealm 14 = .ok (.aload_n 0, 1) := by decide +kernel
theorem dX8_readRealm_15 : decode cX8_readRealm 15 = .ok (.getfield 12, 3) := by decide +kernel
theorem dX8_readRealm_18 : decode cX8_readRealm 18 = .ok (.invokevirtual 30, 3) := by decide +kernel
theorem dX8_readRealm_21 : decode cX8_readRealm 21 = .ok (.iconst 0, 1) := by decide +kernel
theorem dX8_readRealm_22 : decode cX8_readRealm 22 = .ok (.istore_n 2, 1) := by decide +kernel
theorem dX8_readRealm_23 : decode cX8_readRealm 23 = .ok (.iload_n 2, 1) := by decide +kernel
theorem dX8_readRealm_24 : decode cX8_readRealm 24 = .ok (.sipush 1000, 3) := by decide +kernel
theorem dX8_readRealm_27 : decode cX8_readRealm 27 = .ok (.if_icmp .ge 172, 3) := by decide +kernel
theorem dX8_readRealm_30 : decode cX8_readRealm 30 = .ok (.aload_n 0, 1) := by decide +kernel
theorem dX8_readRealm_31 : decode cX8_readRealm 31 = .ok (.getfield 18, 3) := by decide +kernel
theorem dX8_readRealm_34 : decode cX8_readRealm 34 = .ok (.ifCond .ne 165, 3) := by decide +kernel
theorem dX8_readRealm_37 : decode cX8_readRealm 37 = .ok (.aload_n 0, 1) := by decide +kernel
theorem dX8_readRealm_38 : decode cX8_readRealm 38 = .ok (.getfield 12, 3) := by decide +kernel
theorem dX8_readRealm_41 : decode cX8_readRealm 41 = .ok (.getfield 33, 3) := by decide +kernel
theorem dX8_readRealm_44 : decode cX8_readRealm 44 = .ok (.ifCond .eq 155, 3) := by decide +kernel
theorem dX8_readRealm_47 : decode cX8_readRealm 47 = .ok (.aload_n 0, 1) := by decide +kernel
theorem dX8_readRealm_48 : decode cX8_readRealm 48 = .ok (.getfield 12, 3) := by decide +kernel
theorem dX8_readRealm_51 : decode cX8_readRealm 51 = .ok (.invokevirtual 36, 3) := by decide +kernel
theorem dX8_readRealm_54 : decode cX8_readRealm 54 = .ok (.tableswitch 128 0 6 #[42, 128, 128, 50, 69, 87, 105], 42) := by decide +kernel
theorem dX8_readRealm_96 : decode cX8_readRealm 96 = .ok (.aload_n 0, 1) := by decide +kernel
theorem dX8_readRealm_97 : decode cX8_readRealm 97 = .ok (.aload_n 1, 1) := by decide +kernel
theorem dX8_readRealm_98 : decode cX8_readRealm 98 = .ok (.invokevirtual 40, 3) := by decide +kernel
theorem dX8_readRealm_101 : decode cX8_readRealm 101 = .ok (.goto 86, 3) := by decide +kernel
theorem dX8_readRealm_104 : decode cX8_readRealm 104 = .ok (.aload_n 0, 1) := by decide +kernel
theorem dX8_readRealm_105 : decode cX8_readRealm 105 = .ok (.invokevirtual 44, 3) := by decide +kernel
theorem dX8_readRealm_108 : decode cX8_readRealm 108 = .ok (.aload_n 1, 1) := by decide +kernel
theorem dX8_readRealm_109 : decode cX8_readRealm 109 = .ok (.aload_n 0, 1) := by decide +kernel
theorem dX8_readRealm_110 : decode cX8_readRealm 110 = .ok (.iconst 1, 1) := by decide +kernel
theorem dX8_readRealm_111 : decode cX8_readRealm 111 = .ok (.sipush 3000, 3) := by decide +kernel
theorem dX8_readRealm_114 : decode cX8_readRealm 114 = .ok (.invokevirtual 47, 3) := by decide +kernel
theorem dX8_readRealm_117 : decode cX8_readRealm 117 = .ok (.putfield 51, 3) := by decide +kernel
theorem dX8_readRealm_120 : decode cX8_readRealm 120 = .ok (.goto 67, 3) := by decide +kernel
theorem dX8_readRealm_123 : decode cX8_readRealm 123 = .ok (.aload_n 0, 1) := by decide +kernel
theorem dX8_readRealm_124 : decode cX8_readRealm 124 = .ok (.invokevirtual 44, 3) := by decide +kernel
theorem dX8_readRealm_127 : decode cX8_readRealm 127 = .ok (.aload_n 1, 1) := by decide +kernel
theorem dX8_readRealm_128 : decode cX8_readRealm 128 = .ok (.aload_n 0, 1) := by decide +kernel
theorem dX8_readRealm_129 : decode cX8_readRealm 129 = .ok (.iconst 1, 1) := by decide +kernel
theorem dX8_readRealm_130 : decode cX8_readRealm 130 = .ok (.bipush 40, 2) := by decide +kernel
theorem dX8_readRealm_132 : decode cX8_readRealm 132 = .ok (.invokevirtual 47, 3) := by decide +kernel
theorem dX8_readRealm_135 : decode cX8_readRealm 135 = .ok (.putfield 54, 3) := by decide +kernel
theorem dX8_readRealm_138 : decode cX8_readRealm 138 = .ok (.goto 49, 3) := by decide +kernel
theorem dX8_readRealm_141 : decode cX8_readRealm 141 = .ok (.aload_n 0, 1) := by decide +kernel
theorem dX8_readRealm_142 : decode cX8_readRealm 142 = .ok (.invokevirtual 44, 3) := by decide +kernel
theorem dX8_readRealm_145 : decode cX8_readRealm 145 = .ok (.aload_n 1, 1) := by decide +kernel
theorem dX8_readRealm_146 : decode cX8_readRealm 146 = .ok (.aload_n 0, 1) := by decide +kernel
theorem dX8_readRealm_147 : decode cX8_readRealm 147 = .ok (.iconst 1, 1) := by decide +kernel
theorem dX8_readRealm_148 : decode cX8_readRealm 148 = .ok (.bipush 120, 2) := by decide +kernel
theorem dX8_readRealm_150 : decode cX8_readRealm 150 = .ok (.invokevirtual 47, 3) := by decide +kernel
theorem dX8_readRealm_153 : decode cX8_readRealm 153 = .ok (.putfield 57, 3) := by decide +kernel
theorem dX8_readRealm_156 : decode cX8_readRealm 156 = .ok (.goto 31, 3) := by decide +kernel
theorem dX8_readRealm_159 : decode cX8_readRealm 159 = .ok (.aload_n 0, 1) := by decide +kernel
theorem dX8_readRealm_160 : decode cX8_readRealm 160 = .ok (.invokevirtual 44, 3) := by decide +kernel
theorem dX8_readRealm_163 : decode cX8_readRealm 163 = .ok (.aload_n 1, 1) := by decide +kernel
theorem dX8_readRealm_164 : decode cX8_readRealm 164 = .ok (.getfield 60, 3) := by decide +kernel
theorem dX8_readRealm_167 : decode cX8_readRealm 167 = .ok (.invokevirtual 64, 3) := by decide +kernel
theorem dX8_readRealm_170 : decode cX8_readRealm 170 = .ok (.aload_n 0, 1) := by decide +kernel
theorem dX8_readRealm_171 : decode cX8_readRealm 171 = .ok (.aload_n 1, 1) := by decide +kernel
theorem dX8_readRealm_172 : decode cX8_readRealm 172 = .ok (.getfield 60, 3) := by decide +kernel
theorem dX8_readRealm_175 : decode cX8_readRealm 175 = .ok (.iconst 0, 1) := by decide +kernel
theorem dX8_readRealm_176 : decode cX8_readRealm 176 = .ok (.invokevirtual 67, 3) := by decide +kernel
theorem dX8_readRealm_179 : decode cX8_readRealm 179 = .ok (.goto 8, 3) := by decide +kernel
theorem dX8_readRealm_182 : decode cX8_readRealm 182 = .ok (.aload_n 0, 1) := by decide +kernel
theorem dX8_readRealm_183 : decode cX8_readRealm 183 = .ok (.iconst 1, 1) := by decide +kernel
theorem dX8_readRealm_184 : decode cX8_readRealm 184 = .ok (.invokevirtual 71, 3) := by decide +kernel
theorem dX8_readRealm_187 : decode cX8_readRealm 187 = .ok (.aload_n 0, 1) := by decide +kernel
theorem dX8_readRealm_188 : decode cX8_readRealm 188 = .ok (.bipush 59, 2) := by decide +kernel
theorem dX8_readRealm_190 : decode cX8_readRealm 190 = .ok (.invokevirtual 75, 3) := by decide +kernel
theorem dX8_readRealm_193 : decode cX8_readRealm 193 = .ok (.iinc 2 1, 3) := by decide +kernel
theorem dX8_readRealm_196 : decode cX8_readRealm 196 = .ok (.goto (-173), 3) := by decide +kernel
theorem dX8_readRealm_199 : decode cX8_readRealm 199 = .ok (.aload_n 0, 1) := by decide +kernel
theorem dX8_readRealm_200 : decode cX8_readRealm 200 = .ok (.getfield 18, 3) := by decide +kernel
theorem dX8_readRealm_203 : decode cX8_readRealm 203 = .ok (.ireturn, 1) := by decide +kernel
theorem dX8_readPerson_0 : decode cX8_readPerson 0 = .ok (.aload_n 1, 1) := by decide +kernel
theorem dX8_readPerson_1 : decode cX8_readPerson 1 = .ok (.getfield 79, 3) := by decide +kernel
theorem dX8_readPerson_4 : decode cX8_readPerson 4 = .ok (.bipush 6, 2) := by decide +kernel
theorem dX8_readPerson_6 : decode cX8_readPerson 6 = .ok (.if_icmp .lt 8, 3) := by decide +kernel
theorem dX8_readPerson_9 : decode cX8_readPerson 9 = .ok (.aload_n 0, 1) := by decide +kernel
theorem dX8_readPerson_10 : decode cX8_readPerson 10 = .ok (.iconst 5, 1) := by decide +kernel
theorem dX8_readPerson_11 : decode cX8_readPerson 11 = .ok (.invokevirtual 71, 3) := by decide +kernel
theorem dX8_readPerson_14 : decode cX8_readPerson 14 = .ok (.aload_n 0, 1) := by decide +kernel
theorem dX8_readPerson_15 : decode cX8_readPerson 15 = .ok (.iconst 0, 1) := by decide +kernel
theorem dX8_readPerson_16 : decode cX8_readPerson 16 = .ok (.invokevirtual 82, 3) := by decide +kernel
theorem dX8_readPerson_19 : decode cX8_readPerson 19 = .ok (.aload_n 0, 1) := by decide +kernel
theorem dX8_readPerson_20 : decode cX8_readPerson 20 = .ok (.getfield 12, 3) := by decide +kernel
theorem dX8_readPerson_23 : decode cX8_readPerson 23 = .ok (.invokevirtual 85, 3) := by decide +kernel
theorem dX8_readPerson_26 : decode cX8_readPerson 26 = .ok (.ifCond .eq 23, 3) := by decide +kernel
theorem dX8_readPerson_29 : decode cX8_readPerson 29 = .ok (.aload_n 1, 1) := by decide +kernel
theorem dX8_readPerson_30 : decode cX8_readPerson 30 = .ok (.aload_n 0, 1) := by decide +kernel
theorem dX8_readPerson_31 : decode cX8_readPerson 31 = .ok (.getfield 12, 3) := by decide +kernel
theorem dX8_readPerson_34 : decode cX8_readPerson 34 = .ok (.getfield 89, 3) := by decide +kernel
theorem dX8_readPerson_37 : decode cX8_readPerson 37 = .ok (.invokevirtual 93, 3) := by decide +kernel
theorem dX8_readPerson_40 : decode cX8_readPerson 40 = .ok (.iconst (-1), 1) := by decide +kernel
theorem dX8_readPerson_41 : decode cX8_readPerson 41 = .ok (.if_icmp .eq 8, 3) := by decide +kernel
theorem dX8_readPerson_44 : decode cX8_readPerson 44 = .ok (.aload_n 0, 1) := by decide +kernel
theorem dX8_readPerson_45 : decode cX8_readPerson 45 = .ok (.iconst 3, 1) := by decide +kernel
theorem dX8_readPerson_46 : decode cX8_readPerson 46 = .ok (.invokevirtual 71, 3) := by decide +kernel
theorem dX8_readPerson_49 : decode cX8_readPerson 49 = .ok (.aload_n 0, 1) := by decide +kernel
theorem dX8_readPerson_50 : decode cX8_readPerson 50 = .ok (.invokevirtual 97, 3) := by decide +kernel
theorem dX8_readPerson_53 : decode cX8_readPerson 53 = .ok (.lstore_n 2, 1) := by decide +kernel
theorem dX8_readPerson_54 : decode cX8_readPerson 54 = .ok (.aload_n 0, 1) := by decide +kernel
theorem dX8_readPerson_55 : decode cX8_readPerson 55 = .ok (.invokevirtual 101, 3) := by decide +kernel
theorem dX8_readPerson_58 : decode cX8_readPerson 58 = .ok (.istore 4, 2) := by decide +kernel
theorem dX8_readPerson_60 : decode cX8_readPerson 60 = .ok (.aload_n 0, 1) := by decide +kernel
theorem dX8_readPerson_61 : decode cX8_readPerson 61 = .ok (.iconst 1, 1) := by decide +kernel
theorem dX8_readPerson_62 : decode cX8_readPerson 62 = .ok (.invokevirtual 82, 3) := by decide +kernel
theorem dX8_readPerson_65 : decode cX8_readPerson 65 = .ok (.aload_n 0, 1) := by decide +kernel
theorem dX8_readPerson_66 : decode cX8_readPerson 66 = .ok (.iconst 1, 1) := by decide +kernel
theorem dX8_readPerson_67 : decode cX8_readPerson 67 = .ok (.sipush 3000, 3) := by decide +kernel
theorem dX8_readPerson_70 : decode cX8_readPerson 70 = .ok (.invokevirtual 47, 3) := by decide +kernel
theorem dX8_readPerson_73 : decode cX8_readPerson 73 = .ok (.istore 5, 2) := by decide +kernel
theorem dX8_readPerson_75 : decode cX8_readPerson 75 = .ok (.aload_n 0, 1) := by decide +kernel
theorem dX8_readPerson_76 : decode cX8_readPerson 76 = .ok (.iconst 2, 1) := by decide +kernel
theorem dX8_readPerson_77 : decode cX8_readPerson 77 = .ok (.invokevirtual 82, 3) := by decide +kernel
theorem dX8_readPerson_80 : decode cX8_readPerson 80 = .ok (.aload_n 0, 1) := by decide +kernel
theorem dX8_readPerson_81 : decode cX8_readPerson 81 = .ok (.iconst 1, 1) := by decide +kernel
theorem dX8_readPerson_82 : decode cX8_readPerson 82 = .ok (.bipush 20, 2) := by decide +kernel
theorem dX8_readPerson_84 : decode cX8_readPerson 84 = .ok (.invokevirtual 47, 3) := by decide +kernel
theorem dX8_readPerson_87 : decode cX8_readPerson 87 = .ok (.istore 6, 2) := by decide +kernel
theorem dX8_readPerson_89 : decode cX8_readPerson 89 = .ok (.aload_n 1, 1) := by decide +kernel
theorem dX8_readPerson_90 : decode cX8_readPerson 90 = .ok (.lload_n 2, 1) := by decide +kernel
theorem dX8_readPerson_91 : decode cX8_readPerson 91 = .ok (.iload 4, 2) := by decide +kernel
theorem dX8_readPerson_93 : decode cX8_readPerson 93 = .ok (.iload 5, 2) := by decide +kernel
theorem dX8_readPerson_95 : decode cX8_readPerson 95 = .ok (.iload 6, 2) := by decide +kernel
theorem dX8_readPerson_97 : decode cX8_readPerson 97 = .ok (.invokevirtual 104, 3) := by decide +kernel
theorem dX8_readPerson_100 : decode cX8_readPerson 100 = .ok (.return_, 1) := by decide +kernel
theorem dX8_readReign_0 : decode cX8_readReign 0 = .ok (.aload_n 0, 1) := by decide +kernel
theorem dX8_readReign_1 : decode cX8_readReign 1 = .ok (.iconst 0, 1) := by decide +kernel
theorem dX8_readReign_2 : decode cX8_readReign 2 = .ok (.putfield 18, 3) := by decide +kernel
theorem dX8_readReign_5 : decode cX8_readReign 5 = .ok (.aload_n 2, 1) := by decide +kernel
theorem dX8_readReign_6 : decode cX8_readReign 6 = .ok (.invokevirtual 108, 3) := by decide +kernel
theorem dX8_readReign_9 : decode cX8_readReign 9 = .ok (.aload_n 0, 1) := by decide +kernel
theorem dX8_readReign_10 : decode cX8_readReign 10 = .ok (.getfield 12, 3) := by decide +kernel
theorem dX8_readReign_13 : decode cX8_readReign 13 = .ok (.invokevirtual 30, 3) := by decide +kernel
theorem dX8_readReign_16 : decode cX8_readReign 16 = .ok (.iconst 0, 1) := by decide +kernel
theorem dX8_readReign_17 : decode cX8_readReign 17 = .ok (.istore_n 3, 1) := by decide +kernel
theorem dX8_readReign_18 : decode cX8_readReign 18 = .ok (.iload_n 3, 1) := by decide +kernel
theorem dX8_readReign_19 : decode cX8_readReign 19 = .ok (.sipush 1000, 3) := by decide +kernel
theorem dX8_readReign_22 : decode cX8_readReign 22 = .ok (.if_icmp .ge 32, 3) := by decide +kernel
theorem dX8_readReign_25 : decode cX8_readReign 25 = .ok (.aload_n 0, 1) := by decide +kernel
theorem dX8_readReign_26 : decode cX8_readReign 26 = .ok (.getfield 18, 3) := by decide +kernel
theorem dX8_readReign_29 : decode cX8_readReign 29 = .ok (.ifCond .ne 25, 3) := by decide +kernel
theorem dX8_readReign_32 : decode cX8_readReign 32 = .ok (.aload_n 0, 1) := by decide +kernel
theorem dX8_readReign_33 : decode cX8_readReign 33 = .ok (.getfield 12, 3) := by decide +kernel
theorem dX8_readReign_36 : decode cX8_readReign 36 = .ok (.getfield 33, 3) := by decide +kernel
theorem dX8_readReign_39 : decode cX8_readReign 39 = .ok (.ifCond .eq 15, 3) := by decide +kernel
theorem dX8_readReign_42 : decode cX8_readReign 42 = .ok (.aload_n 0, 1) := by decide +kernel
theorem dX8_readReign_43 : decode cX8_readReign 43 = .ok (.aload_n 1, 1) := by decide +kernel
theorem dX8_readReign_44 : decode cX8_readReign 44 = .ok (.aload_n 2, 1) := by decide +kernel
theorem dX8_readReign_45 : decode cX8_readReign 45 = .ok (.invokevirtual 111, 3) := by decide +kernel
theorem dX8_readReign_48 : decode cX8_readReign 48 = .ok (.iinc 3 1, 3) := by decide +kernel
theorem dX8_readReign_51 : decode cX8_readReign 51 = .ok (.goto (-33), 3) := by decide +kernel
theorem dX8_readReign_54 : decode cX8_readReign 54 = .ok (.aload_n 0, 1) := by decide +kernel
theorem dX8_readReign_55 : decode cX8_readReign 55 = .ok (.getfield 18, 3) := by decide +kernel
theorem dX8_readReign_58 : decode cX8_readReign 58 = .ok (.ireturn, 1) := by decide +kernel
theorem dX8_readReignLine_0 : decode cX8_readReignLine 0 = .ok (.aload_n 0, 1) := by decide +kernel
theorem dX8_readReignLine_1 : decode cX8_readReignLine 1 = .ok (.getfield 12, 3) := by decide +kernel
theorem dX8_readReignLine_4 : decode cX8_readReignLine 4 = .ok (.invokevirtual 36, 3) := by decide +kernel
theorem dX8_readReignLine_7 : decode cX8_readReignLine 7 = .ok (.istore_n 3, 1) := by decide +kernel
theorem dX8_readReignLine_8 : decode cX8_readReignLine 8 = .ok (.iload_n 3, 1) := by decide +kernel
theorem dX8_readReignLine_9 : decode cX8_readReignLine 9 = .ok (.bipush 7, 2) := by decide +kernel
theorem dX8_readReignLine_11 : decode cX8_readReignLine 11 = .ok (.if_icmp .lt 9, 3) := by decide +kernel
theorem dX8_readReignLine_14 : decode cX8_readReignLine 14 = .ok (.iload_n 3, 1) := by decide +kernel
theorem dX8_readReignLine_15 : decode cX8_readReignLine 15 = .ok (.bipush 11, 2) := by decide +kernel
theorem dX8_readReignLine_17 : decode cX8_readReignLine 17 = .ok (.if_icmp .le 8, 3) := by decide +kernel
theorem dX8_readReignLine_20 : decode cX8_readReignLine 20 = .ok (.aload_n 0, 1) := by decide +kernel
theorem dX8_readReignLine_21 : decode cX8_readReignLine 21 = .ok (.iconst 1, 1) := by decide +kernel
theorem dX8_readReignLine_22 : decode cX8_readReignLine 22 = .ok (.invokevirtual 71, 3) := by decide +kernel
theorem dX8_readReignLine_25 : decode cX8_readReignLine 25 = .ok (.aload_n 2, 1) := by decide +kernel
theorem dX8_readReignLine_26 : decode cX8_readReignLine 26 = .ok (.getfield 115, 3) := by decide +kernel
theorem dX8_readReignLine_29 : decode cX8_readReignLine 29 = .ok (.bipush 40, 2) := by decide +kernel
theorem dX8_readReignLine_31 : decode cX8_readReignLine 31 = .ok (.if_icmp .lt 8, 3) := by decide +kernel
theorem dX8_readReignLine_34 : decode cX8_readReignLine 34 = .ok (.aload_n 0, 1) := by decide +kernel
theorem dX8_readReignLine_35 : decode cX8_readReignLine 35 = .ok (.iconst 5, 1) := by decide +kernel
theorem dX8_readReignLine_36 : decode cX8_readReignLine 36 = .ok (.invokevirtual 71, 3) := by decide +kernel
theorem dX8_readReignLine_39 : decode cX8_readReignLine 39 = .ok (.aload_n 0, 1) := by decide +kernel
theorem dX8_readReignLine_40 : decode cX8_readReignLine 40 = .ok (.iload_n 3, 1) := by decide +kernel
theorem dX8_readReignLine_41 : decode cX8_readReignLine 41 = .ok (.invokevirtual 82, 3) := by decide +kernel
theorem dX8_readReignLine_44 : decode cX8_readReignLine 44 = .ok (.iconst 0, 1) := by decide +kernel
theorem dX8_readReignLine_45 : decode cX8_readReignLine 45 = .ok (.istore 4, 2) := by decide +kernel
theorem dX8_readReignLine_47 : decode cX8_readReignLine 47 = .ok (.iload_n 3, 1) := by decide +kernel
theorem dX8_readReignLine_48 : decode cX8_readReignLine 48 = .ok (.bipush 7, 2) := by decide +kernel
theorem dX8_readReignLine_50 : decode cX8_readReignLine 50 = .ok (.if_icmp .eq 9, 3) := by decide +kernel
theorem dX8_readReignLine_53 : decode cX8_readReignLine 53 = .ok (.iload_n 3, 1) := by decide +kernel
theorem dX8_readReignLine_54 : decode cX8_readReignLine 54 = .ok (.bipush 8, 2) := by decide +kernel
theorem dX8_readReignLine_56 : decode cX8_readReignLine 56 = .ok (.if_icmp .ne 45, 3) := by decide +kernel
theorem dX8_readReignLine_59 : decode cX8_readReignLine 59 = .ok (.aload_n 1, 1) := by decide +kernel
theorem dX8_readReignLine_60 : decode cX8_readReignLine 60 = .ok (.aload_n 0, 1) := by decide +kernel
theorem dX8_readReignLine_61 : decode cX8_readReignLine 61 = .ok (.getfield 12, 3) := by decide +kernel
theorem dX8_readReignLine_64 : decode cX8_readReignLine 64 = .ok (.getfield 89, 3) := by decide +kernel
theorem dX8_readReignLine_67 : decode cX8_readReignLine 67 = .ok (.invokevirtual 93, 3) := by decide +kernel
theorem dX8_readReignLine_70 : decode cX8_readReignLine 70 = .ok (.istore 4, 2) := by decide +kernel
theorem dX8_readReignLine_72 : decode cX8_readReignLine 72 = .ok (.aload_n 0, 1) := by decide +kernel
theorem dX8_readReignLine_73 : decode cX8_readReignLine 73 = .ok (.getfield 12, 3) := by decide +kernel
theorem dX8_readReignLine_76 : decode cX8_readReignLine 76 = .ok (.invokevirtual 85, 3) := by decide +kernel
theorem dX8_readReignLine_79 : decode cX8_readReignLine 79 = .ok (.ifCond .eq 14, 3) := by decide +kernel
theorem dX8_readReignLine_82 : decode cX8_readReignLine 82 = .ok (.iload 4, 2) := by decide +kernel
theorem dX8_readReignLine_84 : decode cX8_readReignLine 84 = .ok (.iconst (-1), 1) := by decide +kernel
theorem dX8_readReignLine_85 : decode cX8_readReignLine 85 = .ok (.if_icmp .ne 8, 3) := by decide +kernel
theorem dX8_readReignLine_88 : decode cX8_readReignLine 88 = .ok (.aload_n 0, 1) := by decide +kernel
theorem dX8_readReignLine_89 : decode cX8_readReignLine 89 = .ok (.iconst 2, 1) := by decide +kernel
theorem dX8_readReignLine_90 : decode cX8_readReignLine 90 = .ok (.invokevirtual 71, 3) := by decide +kernel
theorem dX8_readReignLine_93 : decode cX8_readReignLine 93 = .ok (.aload_n 0, 1) := by decide +kernel
theorem dX8_readReignLine_94 : decode cX8_readReignLine 94 = .ok (.invokevirtual 97, 3) := by decide +kernel
theorem dX8_readReignLine_97 : decode cX8_readReignLine 97 = .ok (.pop2, 1) := by decide +kernel
theorem dX8_readReignLine_98 : decode cX8_readReignLine 98 = .ok (.goto 18, 3) := by decide +kernel
theorem dX8_readReignLine_101 : decode cX8_readReignLine 101 = .ok (.iload_n 3, 1) := by decide +kernel
theorem dX8_readReignLine_102 : decode cX8_readReignLine 102 = .ok (.bipush 9, 2) := by decide +kernel
theorem dX8_readReignLine_104 : decode cX8_readReignLine 104 = .ok (.if_icmp .ne 12, 3) := by decide +kernel
theorem dX8_readReignLine_107 : decode cX8_readReignLine 107 = .ok (.aload_n 0, 1) := by decide +kernel
theorem dX8_readReignLine_108 : decode cX8_readReignLine 108 = .ok (.iconst 1, 1) := by decide +kernel
theorem dX8_readReignLine_109 : decode cX8_readReignLine 109 = .ok (.bipush 20, 2) := by decide +kernel
theorem dX8_readReignLine_111 : decode cX8_readReignLine 111 = .ok (.invokevirtual 47, 3) := by decide +kernel
theorem dX8_readReignLine_114 : decode cX8_readReignLine 114 = .ok (.istore 4, 2) := by decide +kernel
theorem dX8_readReignLine_116 : decode cX8_readReignLine 116 = .ok (.aload_n 0, 1) := by decide +kernel
theorem dX8_readReignLine_117 : decode cX8_readReignLine 117 = .ok (.bipush 59, 2) := by decide +kernel
theorem dX8_readReignLine_119 : decode cX8_readReignLine 119 = .ok (.invokevirtual 75, 3) := by decide +kernel
theorem dX8_readReignLine_122 : decode cX8_readReignLine 122 = .ok (.aload_n 2, 1) := by decide +kernel
theorem dX8_readReignLine_123 : decode cX8_readReignLine 123 = .ok (.iload_n 3, 1) := by decide +kernel
theorem dX8_readReignLine_124 : decode cX8_readReignLine 124 = .ok (.iload 4, 2) := by decide +kernel
theorem dX8_readReignLine_126 : decode cX8_readReignLine 126 = .ok (.invokevirtual 118, 3) := by decide +kernel
theorem dX8_readReignLine_129 : decode cX8_readReignLine 129 = .ok (.return_, 1) := by decide +kernel
theorem dX8_readWhole_0 : decode cX8_readWhole 0 = .ok (.aload_n 0, 1) := by decide +kernel
theorem dX8_readWhole_1 : decode cX8_readWhole 1 = .ok (.aload_n 1, 1) := by decide +kernel
theorem dX8_readWhole_2 : decode cX8_readWhole 2 = .ok (.iload_n 2, 1) := by decide +kernel
theorem dX8_readWhole_3 : decode cX8_readWhole 3 = .ok (.invokevirtual 122, 3) := by decide +kernel
theorem dX8_readWhole_6 : decode cX8_readWhole 6 = .ok (.iconst 0, 1) := by decide +kernel
theorem dX8_readWhole_7 : decode cX8_readWhole 7 = .ok (.istore_n 3, 1) := by decide +kernel
theorem dX8_readWhole_8 : decode cX8_readWhole 8 = .ok (.iload_n 3, 1) := by decide +kernel
theorem dX8_readWhole_9 : decode cX8_readWhole 9 = .ok (.sipush 1000, 3) := by decide +kernel
theorem dX8_readWhole_12 : decode cX8_readWhole 12 = .ok (.if_icmp .ge 76, 3) := by decide +kernel
theorem dX8_readWhole_15 : decode cX8_readWhole 15 = .ok (.aload_n 0, 1) := by decide +kernel
theorem dX8_readWhole_16 : decode cX8_readWhole 16 = .ok (.getfield 18, 3) := by decide +kernel
theorem dX8_readWhole_19 : decode cX8_readWhole 19 = .ok (.ifCond .ne 69, 3) := by decide +kernel
theorem dX8_readWhole_22 : decode cX8_readWhole 22 = .ok (.aload_n 0, 1) := by decide +kernel
theorem dX8_readWhole_23 : decode cX8_readWhole 23 = .ok (.getfield 12, 3) := by decide +kernel
theorem dX8_readWhole_26 : decode cX8_readWhole 26 = .ok (.bipush 17, 2) := by decide +kernel
theorem dX8_readWhole_28 : decode cX8_readWhole 28 = .ok (.invokevirtual 125, 3) := by decide +kernel
theorem dX8_readWhole_31 : decode cX8_readWhole 31 = .ok (.ifCond .eq 8, 3) := by decide +kernel
theorem dX8_readWhole_34 : decode cX8_readWhole 34 = .ok (.bipush (-11), 2) := by decide +kernel
theorem dX8_readWhole_36 : decode cX8_readWhole 36 = .ok (.goto 5, 3) := by decide +kernel
theorem dX8_readWhole_39 : decode cX8_readWhole 39 = .ok (.bipush (-12), 2) := by decide +kernel
theorem dX8_readWhole_41 : decode cX8_readWhole 41 = .ok (.istore 4, 2) := by decide +kernel
theorem dX8_readWhole_43 : decode cX8_readWhole 43 = .ok (.iload 4, 2) := by decide +kernel
theorem dX8_readWhole_45 : decode cX8_readWhole 45 = .ok (.bipush (-12), 2) := by decide +kernel
theorem dX8_readWhole_47 : decode cX8_readWhole 47 = .ok (.if_icmp .ne 16, 3) := by decide +kernel
theorem dX8_readWhole_50 : decode cX8_readWhole 50 = .ok (.aload_n 0, 1) := by decide +kernel
theorem dX8_readWhole_51 : decode cX8_readWhole 51 = .ok (.getfield 12, 3) := by decide +kernel
theorem dX8_readWhole_54 : decode cX8_readWhole 54 = .ok (.bipush 18, 2) := by decide +kernel
theorem dX8_readWhole_56 : decode cX8_readWhole 56 = .ok (.invokevirtual 125, 3) := by decide +kernel
theorem dX8_readWhole_59 : decode cX8_readWhole 59 = .ok (.ifCond .ne 4, 3) := by decide +kernel
theorem dX8_readWhole_62 : decode cX8_readWhole 62 = .ok (.return_, 1) := by decide +kernel
theorem dX8_readWhole_63 : decode cX8_readWhole 63 = .ok (.aload_n 0, 1) := by decide +kernel
theorem dX8_readWhole_64 : decode cX8_readWhole 64 = .ok (.getfield 12, 3) := by decide +kernel
theorem dX8_readWhole_67 : decode cX8_readWhole 67 = .ok (.invokevirtual 129, 3) := by decide +kernel
theorem dX8_readWhole_70 : decode cX8_readWhole 70 = .ok (.aload_n 0, 1) := by decide +kernel
theorem dX8_readWhole_71 : decode cX8_readWhole 71 = .ok (.aload_n 1, 1) := by decide +kernel
theorem dX8_readWhole_72 : decode cX8_readWhole 72 = .ok (.iload_n 2, 1) := by decide +kernel
theorem dX8_readWhole_73 : decode cX8_readWhole 73 = .ok (.invokevirtual 122, 3) := by decide +kernel
theorem dX8_readWhole_76 : decode cX8_readWhole 76 = .ok (.aload_n 1, 1) := by decide +kernel
theorem dX8_readWhole_77 : decode cX8_readWhole 77 = .ok (.iload 4, 2) := by decide +kernel
theorem dX8_readWhole_79 : decode cX8_readWhole 79 = .ok (.invokevirtual 132, 3) := by decide +kernel
theorem dX8_readWhole_82 : decode cX8_readWhole 82 = .ok (.iinc 3 1, 3) := by decide +kernel
theorem dX8_readWhole_85 : decode cX8_readWhole 85 = .ok (.goto (-77), 3) := by decide +kernel
theorem dX8_readWhole_88 : decode cX8_readWhole 88 = .ok (.return_, 1) := by decide +kernel
theorem dX8_readTest_0 : decode cX8_readTest 0 = .ok (.aload_n 0, 1) := by decide +kernel
theorem dX8_readTest_1 : decode cX8_readTest 1 = .ok (.aload_n 1, 1) := by decide +kernel
theorem dX8_readTest_2 : decode cX8_readTest 2 = .ok (.iload_n 2, 1) := by decide +kernel
theorem dX8_readTest_3 : decode cX8_readTest 3 = .ok (.invokevirtual 134, 3) := by decide +kernel
theorem dX8_readTest_6 : decode cX8_readTest 6 = .ok (.aload_n 0, 1) := by decide +kernel
theorem dX8_readTest_7 : decode cX8_readTest 7 = .ok (.getfield 12, 3) := by decide +kernel
theorem dX8_readTest_10 : decode cX8_readTest 10 = .ok (.bipush 60, 2) := by decide +kernel
theorem dX8_readTest_12 : decode cX8_readTest 12 = .ok (.invokevirtual 137, 3) := by decide +kernel
theorem dX8_readTest_15 : decode cX8_readTest 15 = .ok (.istore_n 3, 1) := by decide +kernel
theorem dX8_readTest_16 : decode cX8_readTest 16 = .ok (.aload_n 0, 1) := by decide +kernel
theorem dX8_readTest_17 : decode cX8_readTest 17 = .ok (.getfield 18, 3) := by decide +kernel
theorem dX8_readTest_20 : decode cX8_readTest 20 = .ok (.ifCond .ne 47, 3) := by decide +kernel
theorem dX8_readTest_23 : decode cX8_readTest 23 = .ok (.iload_n 3, 1) := by decide +kernel
theorem dX8_readTest_24 : decode cX8_readTest 24 = .ok (.ifCond .ne 15, 3) := by decide +kernel
theorem dX8_readTest_27 : decode cX8_readTest 27 = .ok (.aload_n 0, 1) := by decide +kernel
theorem dX8_readTest_28 : decode cX8_readTest 28 = .ok (.getfield 12, 3) := by decide +kernel
theorem dX8_readTest_31 : decode cX8_readTest 31 = .ok (.bipush 61, 2) := by decide +kernel
theorem dX8_readTest_33 : decode cX8_readTest 33 = .ok (.invokevirtual 137, 3) := by decide +kernel
theorem dX8_readTest_36 : decode cX8_readTest 36 = .ok (.ifCond .eq 31, 3) := by decide +kernel
theorem dX8_readTest_39 : decode cX8_readTest 39 = .ok (.aload_n 0, 1) := by decide +kernel
theorem dX8_readTest_40 : decode cX8_readTest 40 = .ok (.getfield 12, 3) := by decide +kernel
theorem dX8_readTest_43 : decode cX8_readTest 43 = .ok (.invokevirtual 129, 3) := by decide +kernel
theorem dX8_readTest_46 : decode cX8_readTest 46 = .ok (.aload_n 0, 1) := by decide +kernel
theorem dX8_readTest_47 : decode cX8_readTest 47 = .ok (.aload_n 1, 1) := by decide +kernel
theorem dX8_readTest_48 : decode cX8_readTest 48 = .ok (.iload_n 2, 1) := by decide +kernel
theorem dX8_readTest_49 : decode cX8_readTest 49 = .ok (.invokevirtual 134, 3) := by decide +kernel
theorem dX8_readTest_52 : decode cX8_readTest 52 = .ok (.aload_n 1, 1) := by decide +kernel
theorem dX8_readTest_53 : decode cX8_readTest 53 = .ok (.iload_n 3, 1) := by decide +kernel
theorem dX8_readTest_54 : decode cX8_readTest 54 = .ok (.ifCond .eq 8, 3) := by decide +kernel
theorem dX8_readTest_57 : decode cX8_readTest 57 = .ok (.bipush (-9), 2) := by decide +kernel
theorem dX8_readTest_59 : decode cX8_readTest 59 = .ok (.goto 5, 3) := by decide +kernel
theorem dX8_readTest_62 : decode cX8_readTest 62 = .ok (.bipush (-10), 2) := by decide +kernel
theorem dX8_readTest_64 : decode cX8_readTest 64 = .ok (.invokevirtual 132, 3) := by decide +kernel
theorem dX8_readTest_67 : decode cX8_readTest 67 = .ok (.return_, 1) := by decide +kernel
theorem dX8_readSum_0 : decode cX8_readSum 0 = .ok (.aload_n 0, 1) := by decide +kernel
theorem dX8_readSum_1 : decode cX8_readSum 1 = .ok (.aload_n 1, 1) := by decide +kernel
theorem dX8_readSum_2 : decode cX8_readSum 2 = .ok (.iload_n 2, 1) := by decide +kernel
theorem dX8_readSum_3 : decode cX8_readSum 3 = .ok (.invokevirtual 141, 3) := by decide +kernel
theorem dX8_readSum_6 : decode cX8_readSum 6 = .ok (.iconst 0, 1) := by decide +kernel
theorem dX8_readSum_7 : decode cX8_readSum 7 = .ok (.istore_n 3, 1) := by decide +kernel
theorem dX8_readSum_8 : decode cX8_readSum 8 = .ok (.iload_n 3, 1) := by decide +kernel
theorem dX8_readSum_9 : decode cX8_readSum 9 = .ok (.sipush 1000, 3) := by decide +kernel
theorem dX8_readSum_12 : decode cX8_readSum 12 = .ok (.if_icmp .ge 74, 3) := by decide +kernel
theorem dX8_readSum_15 : decode cX8_readSum 15 = .ok (.aload_n 0, 1) := by decide +kernel
theorem dX8_readSum_16 : decode cX8_readSum 16 = .ok (.getfield 18, 3) := by decide +kernel
theorem dX8_readSum_19 : decode cX8_readSum 19 = .ok (.ifCond .ne 67, 3) := by decide +kernel
theorem dX8_readSum_22 : decode cX8_readSum 22 = .ok (.aload_n 0, 1) := by decide +kernel
theorem dX8_readSum_23 : decode cX8_readSum 23 = .ok (.getfield 12, 3) := by decide +kernel
theorem dX8_readSum_26 : decode cX8_readSum 26 = .ok (.bipush 43, 2) := by decide +kernel
theorem dX8_readSum_28 : decode cX8_readSum 28 = .ok (.invokevirtual 137, 3) := by decide +kernel
theorem dX8_readSum_31 : decode cX8_readSum 31 = .ok (.istore 4, 2) := by decide +kernel
theorem dX8_readSum_33 : decode cX8_readSum 33 = .ok (.iload 4, 2) := by decide +kernel
theorem dX8_readSum_35 : decode cX8_readSum 35 = .ok (.ifCond .ne 16, 3) := by decide +kernel
theorem dX8_readSum_38 : decode cX8_readSum 38 = .ok (.aload_n 0, 1) := by decide +kernel
theorem dX8_readSum_39 : decode cX8_readSum 39 = .ok (.getfield 12, 3) := by decide +kernel
theorem dX8_readSum_42 : decode cX8_readSum 42 = .ok (.bipush 45, 2) := by decide +kernel
theorem dX8_readSum_44 : decode cX8_readSum 44 = .ok (.invokevirtual 137, 3) := by decide +kernel
theorem dX8_readSum_47 : decode cX8_readSum 47 = .ok (.ifCond .ne 4, 3) := by decide +kernel
theorem dX8_readSum_50 : decode cX8_readSum 50 = .ok (.return_, 1) := by decide +kernel
theorem dX8_readSum_51 : decode cX8_readSum 51 = .ok (.aload_n 0, 1) := by decide +kernel
theorem dX8_readSum_52 : decode cX8_readSum 52 = .ok (.getfield 12, 3) := by decide +kernel
theorem dX8_readSum_55 : decode cX8_readSum 55 = .ok (.invokevirtual 129, 3) := by decide +kernel
theorem dX8_readSum_58 : decode cX8_readSum 58 = .ok (.aload_n 0, 1) := by decide +kernel
theorem dX8_readSum_59 : decode cX8_readSum 59 = .ok (.aload_n 1, 1) := by decide +kernel
theorem dX8_readSum_60 : decode cX8_readSum 60 = .ok (.iload_n 2, 1) := by decide +kernel
theorem dX8_readSum_61 : decode cX8_readSum 61 = .ok (.invokevirtual 141, 3) := by decide +kernel
theorem dX8_readSum_64 : decode cX8_readSum 64 = .ok (.aload_n 1, 1) := by decide +kernel
theorem dX8_readSum_65 : decode cX8_readSum 65 = .ok (.iload 4, 2) := by decide +kernel
theorem dX8_readSum_67 : decode cX8_readSum 67 = .ok (.ifCond .eq 8, 3) := by decide +kernel
theorem dX8_readSum_70 : decode cX8_readSum 70 = .ok (.bipush (-6), 2) := by decide +kernel
theorem dX8_readSum_72 : decode cX8_readSum 72 = .ok (.goto 5, 3) := by decide +kernel
theorem dX8_readSum_75 : decode cX8_readSum 75 = .ok (.bipush (-7), 2) := by decide +kernel
theorem dX8_readSum_77 : decode cX8_readSum 77 = .ok (.invokevirtual 132, 3) := by decide +kernel
theorem dX8_readSum_80 : decode cX8_readSum 80 = .ok (.iinc 3 1, 3) := by decide +kernel
theorem dX8_readSum_83 : decode cX8_readSum 83 = .ok (.goto (-75), 3) := by decide +kernel
theorem dX8_readSum_86 : decode cX8_readSum 86 = .ok (.return_, 1) := by decide +kernel
theorem dX8_readProduct_0 : decode cX8_readProduct 0 = .ok (.aload_n 0, 1) := by decide +kernel
theorem dX8_readProduct_1 : decode cX8_readProduct 1 = .ok (.aload_n 1, 1) := by decide +kernel
theorem dX8_readProduct_2 : decode cX8_readProduct 2 = .ok (.iload_n 2, 1) := by decide +kernel
theorem dX8_readProduct_3 : decode cX8_readProduct 3 = .ok (.invokevirtual 144, 3) := by decide +kernel
theorem dX8_readProduct_6 : decode cX8_readProduct 6 = .ok (.iconst 0, 1) := by decide +kernel
theorem dX8_readProduct_7 : decode cX8_readProduct 7 = .ok (.istore_n 3, 1) := by decide +kernel
theorem dX8_readProduct_8 : decode cX8_readProduct 8 = .ok (.iload_n 3, 1) := by decide +kernel
theorem dX8_readProduct_9 : decode cX8_readProduct 9 = .ok (.sipush 1000, 3) := by decide +kernel
theorem dX8_readProduct_12 : decode cX8_readProduct 12 = .ok (.if_icmp .ge 47, 3) := by decide +kernel
theorem dX8_readProduct_15 : decode cX8_readProduct 15 = .ok (.aload_n 0, 1) := by decide +kernel
theorem dX8_readProduct_16 : decode cX8_readProduct 16 = .ok (.getfield 18, 3) := by decide +kernel
theorem dX8_readProduct_19 : decode cX8_readProduct 19 = .ok (.ifCond .ne 40, 3) := by decide +kernel
theorem dX8_readProduct_22 : decode cX8_readProduct 22 = .ok (.aload_n 0, 1) := by decide +kernel
theorem dX8_readProduct_23 : decode cX8_readProduct 23 = .ok (.getfield 12, 3) := by decide +kernel
theorem dX8_readProduct_26 : decode cX8_readProduct 26 = .ok (.bipush 42, 2) := by decide +kernel
theorem dX8_readProduct_28 : decode cX8_readProduct 28 = .ok (.invokevirtual 137, 3) := by decide +kernel
theorem dX8_readProduct_31 : decode cX8_readProduct 31 = .ok (.ifCond .eq 28, 3) := by decide +kernel
theorem dX8_readProduct_34 : decode cX8_readProduct 34 = .ok (.aload_n 0, 1) := by decide +kernel
theorem dX8_readProduct_35 : decode cX8_readProduct 35 = .ok (.getfield 12, 3) := by decide +kernel
theorem dX8_readProduct_38 : decode cX8_readProduct 38 = .ok (.invokevirtual 129, 3) := by decide +kernel
theorem dX8_readProduct_41 : decode cX8_readProduct 41 = .ok (.aload_n 0, 1) := by decide +kernel
theorem dX8_readProduct_42 : decode cX8_readProduct 42 = .ok (.aload_n 1, 1) := by decide +kernel
theorem dX8_readProduct_43 : decode cX8_readProduct 43 = .ok (.iload_n 2, 1) := by decide +kernel
theorem dX8_readProduct_44 : decode cX8_readProduct 44 = .ok (.invokevirtual 144, 3) := by decide +kernel
theorem dX8_readProduct_47 : decode cX8_readProduct 47 = .ok (.aload_n 1, 1) := by decide +kernel
theorem dX8_readProduct_48 : decode cX8_readProduct 48 = .ok (.bipush (-8), 2) := by decide +kernel
theorem dX8_readProduct_50 : decode cX8_readProduct 50 = .ok (.invokevirtual 132, 3) := by decide +kernel
theorem dX8_readProduct_53 : decode cX8_readProduct 53 = .ok (.iinc 3 1, 3) := by decide +kernel
theorem dX8_readProduct_56 : decode cX8_readProduct 56 = .ok (.goto (-48), 3) := by decide +kernel
theorem dX8_readProduct_59 : decode cX8_readProduct 59 = .ok (.return_, 1) := by decide +kernel
theorem dX8_readPart_0 : decode cX8_readPart 0 = .ok (.aload_n 0, 1) := by decide +kernel
theorem dX8_readPart_1 : decode cX8_readPart 1 = .ok (.getfield 12, 3) := by decide +kernel
theorem dX8_readPart_4 : decode cX8_readPart 4 = .ok (.getfield 33, 3) := by decide +kernel
theorem dX8_readPart_7 : decode cX8_readPart 7 = .ok (.iconst 2, 1) := by decide +kernel
theorem dX8_readPart_8 : decode cX8_readPart 8 = .ok (.if_icmp .ne 7, 3) := by decide +kernel
theorem dX8_readPart_11 : decode cX8_readPart 11 = .ok (.iconst 1, 1) := by decide +kernel
theorem dX8_readPart_12 : decode cX8_readPart 12 = .ok (.goto 4, 3) := by decide +kernel
theorem dX8_readPart_15 : decode cX8_readPart 15 = .ok (.iconst 0, 1) := by decide +kernel
theorem dX8_readPart_16 : decode cX8_readPart 16 = .ok (.istore_n 3, 1) := by decide +kernel
theorem dX8_readPart_17 : decode cX8_readPart 17 = .ok (.aload_n 0, 1) := by decide +kernel
theorem dX8_readPart_18 : decode cX8_readPart 18 = .ok (.getfield 12, 3) := by decide +kernel
theorem dX8_readPart_21 : decode cX8_readPart 21 = .ok (.bipush 40, 2) := by decide +kernel
theorem dX8_readPart_23 : decode cX8_readPart 23 = .ok (.invokevirtual 137, 3) := by decide +kernel
theorem dX8_readPart_26 : decode cX8_readPart 26 = .ok (.istore 4, 2) := by decide +kernel
theorem dX8_readPart_28 : decode cX8_readPart 28 = .ok (.aload_n 0, 1) := by decide +kernel
theorem dX8_readPart_29 : decode cX8_readPart 29 = .ok (.getfield 12, 3) := by decide +kernel
theorem dX8_readPart_32 : decode cX8_readPart 32 = .ok (.bipush 16, 2) := by decide +kernel
theorem dX8_readPart_34 : decode cX8_readPart 34 = .ok (.invokevirtual 125, 3) := by decide +kernel
theorem dX8_readPart_37 : decode cX8_readPart 37 = .ok (.istore 5, 2) := by decide +kernel
theorem dX8_readPart_39 : decode cX8_readPart 39 = .ok (.iload_n 3, 1) := by decide +kernel
theorem dX8_readPart_40 : decode cX8_readPart 40 = .ok (.ifCond .ne 31, 3) := by decide +kernel
theorem dX8_readPart_43 : decode cX8_readPart 43 = .ok (.iload 4, 2) := by decide +kernel
theorem dX8_readPart_45 : decode cX8_readPart 45 = .ok (.ifCond .ne 26, 3) := by decide +kernel
theorem dX8_readPart_48 : decode cX8_readPart 48 = .ok (.iload 5, 2) := by decide +kernel
theorem dX8_readPart_50 : decode cX8_readPart 50 = .ok (.ifCond .ne 21, 3) := by decide +kernel
theorem dX8_readPart_53 : decode cX8_readPart 53 = .ok (.aload_n 0, 1) := by decide +kernel
theorem dX8_readPart_54 : decode cX8_readPart 54 = .ok (.getfield 12, 3) := by decide +kernel
theorem dX8_readPart_57 : decode cX8_readPart 57 = .ok (.invokevirtual 147, 3) := by decide +kernel
theorem dX8_readPart_60 : decode cX8_readPart 60 = .ok (.ifCond .ne 11, 3) := by decide +kernel
theorem dX8_readPart_63 : decode cX8_readPart 63 = .ok (.aload_n 0, 1) := by decide +kernel
theorem dX8_readPart_64 : decode cX8_readPart 64 = .ok (.iconst 1, 1) := by decide +kernel
theorem dX8_readPart_65 : decode cX8_readPart 65 = .ok (.invokevirtual 71, 3) := by decide +kernel
theorem dX8_readPart_68 : decode cX8_readPart 68 = .ok (.goto 13, 3) := by decide +kernel
theorem dX8_readPart_71 : decode cX8_readPart 71 = .ok (.iload_n 2, 1) := by decide +kernel
theorem dX8_readPart_72 : decode cX8_readPart 72 = .ok (.iconst 5, 1) := by decide +kernel
theorem dX8_readPart_73 : decode cX8_readPart 73 = .ok (.if_icmp .lt 8, 3) := by decide +kernel
theorem dX8_readPart_76 : decode cX8_readPart 76 = .ok (.aload_n 0, 1) := by decide +kernel
theorem dX8_readPart_77 : decode cX8_readPart 77 = .ok (.iconst 5, 1) := by decide +kernel
theorem dX8_readPart_78 : decode cX8_readPart 78 = .ok (.invokevirtual 71, 3) := by decide +kernel
theorem dX8_readPart_81 : decode cX8_readPart 81 = .ok (.aload_n 0, 1) := by decide +kernel
theorem dX8_readPart_82 : decode cX8_readPart 82 = .ok (.getfield 18, 3) := by decide +kernel
theorem dX8_readPart_85 : decode cX8_readPart 85 = .ok (.ifCond .eq 4, 3) := by decide +kernel
theorem dX8_readPart_88 : decode cX8_readPart 88 = .ok (.return_, 1) := by decide +kernel
theorem dX8_readPart_89 : decode cX8_readPart 89 = .ok (.aload_n 0, 1) := by decide +kernel
theorem dX8_readPart_90 : decode cX8_readPart 90 = .ok (.getfield 12, 3) := by decide +kernel
theorem dX8_readPart_93 : decode cX8_readPart 93 = .ok (.getfield 150, 3) := by decide +kernel
theorem dX8_readPart_96 : decode cX8_readPart 96 = .ok (.istore 6, 2) := by decide +kernel
theorem dX8_readPart_98 : decode cX8_readPart 98 = .ok (.aload_n 0, 1) := by decide +kernel
theorem dX8_readPart_99 : decode cX8_readPart 99 = .ok (.getfield 12, 3) := by decide +kernel
theorem dX8_readPart_102 : decode cX8_readPart 102 = .ok (.invokevirtual 129, 3) := by decide +kernel
theorem dX8_readPart_105 : decode cX8_readPart 105 = .ok (.iload_n 3, 1) := by decide +kernel
theorem dX8_readPart_106 : decode cX8_readPart 106 = .ok (.ifCond .eq 12, 3) := by decide +kernel
theorem dX8_readPart_109 : decode cX8_readPart 109 = .ok (.aload_n 1, 1) := by decide +kernel
theorem dX8_readPart_110 : decode cX8_readPart 110 = .ok (.iload 6, 2) := by decide +kernel
theorem dX8_readPart_112 : decode cX8_readPart 112 = .ok (.invokevirtual 132, 3) := by decide +kernel
theorem dX8_readPart_115 : decode cX8_readPart 115 = .ok (.goto 58, 3) := by decide +kernel
theorem dX8_readPart_118 : decode cX8_readPart 118 = .ok (.iload 4, 2) := by decide +kernel
theorem dX8_readPart_120 : decode cX8_readPart 120 = .ok (.ifCond .eq 20, 3) := by decide +kernel
theorem dX8_readPart_123 : decode cX8_readPart 123 = .ok (.aload_n 0, 1) := by decide +kernel
theorem dX8_readPart_124 : decode cX8_readPart 124 = .ok (.aload_n 1, 1) := by decide +kernel
theorem dX8_readPart_125 : decode cX8_readPart 125 = .ok (.iload_n 2, 1) := by decide +kernel
theorem dX8_readPart_126 : decode cX8_readPart 126 = .ok (.iconst 1, 1) := by decide +kernel
theorem dX8_readPart_127 : decode cX8_readPart 127 = .ok (.iadd, 1) := by decide +kernel
theorem dX8_readPart_128 : decode cX8_readPart 128 = .ok (.invokevirtual 67, 3) := by decide +kernel
theorem dX8_readPart_131 : decode cX8_readPart 131 = .ok (.aload_n 0, 1) := by decide +kernel
theorem dX8_readPart_132 : decode cX8_readPart 132 = .ok (.bipush 41, 2) := by decide +kernel
theorem dX8_readPart_134 : decode cX8_readPart 134 = .ok (.invokevirtual 75, 3) := by decide +kernel
theorem dX8_readPart_137 : decode cX8_readPart 137 = .ok (.goto 36, 3) := by decide +kernel
theorem dX8_readPart_140 : decode cX8_readPart 140 = .ok (.iload 5, 2) := by decide +kernel
theorem dX8_readPart_142 : decode cX8_readPart 142 = .ok (.ifCond .eq 20, 3) := by decide +kernel
theorem dX8_readPart_145 : decode cX8_readPart 145 = .ok (.aload_n 0, 1) := by decide +kernel
theorem dX8_readPart_146 : decode cX8_readPart 146 = .ok (.aload_n 1, 1) := by decide +kernel
theorem dX8_readPart_147 : decode cX8_readPart 147 = .ok (.iload_n 2, 1) := by decide +kernel
theorem dX8_readPart_148 : decode cX8_readPart 148 = .ok (.iconst 1, 1) := by decide +kernel
theorem dX8_readPart_149 : decode cX8_readPart 149 = .ok (.iadd, 1) := by decide +kernel
theorem dX8_readPart_150 : decode cX8_readPart 150 = .ok (.invokevirtual 144, 3) := by decide +kernel
theorem dX8_readPart_153 : decode cX8_readPart 153 = .ok (.aload_n 1, 1) := by decide +kernel
theorem dX8_readPart_154 : decode cX8_readPart 154 = .ok (.bipush (-5), 2) := by decide +kernel
theorem dX8_readPart_156 : decode cX8_readPart 156 = .ok (.invokevirtual 132, 3) := by decide +kernel
theorem dX8_readPart_159 : decode cX8_readPart 159 = .ok (.goto 14, 3) := by decide +kernel
theorem dX8_readPart_162 : decode cX8_readPart 162 = .ok (.aload_n 1, 1) := by decide +kernel
theorem dX8_readPart_163 : decode cX8_readPart 163 = .ok (.iconst (-1), 1) := by decide +kernel
theorem dX8_readPart_164 : decode cX8_readPart 164 = .ok (.iload 6, 2) := by decide +kernel
theorem dX8_readPart_166 : decode cX8_readPart 166 = .ok (.bipush 19, 2) := by decide +kernel
theorem dX8_readPart_168 : decode cX8_readPart 168 = .ok (.isub, 1) := by decide +kernel
theorem dX8_readPart_169 : decode cX8_readPart 169 = .ok (.isub, 1) := by decide +kernel
theorem dX8_readPart_170 : decode cX8_readPart 170 = .ok (.invokevirtual 132, 3) := by decide +kernel
theorem dX8_readPart_173 : decode cX8_readPart 173 = .ok (.return_, 1) := by decide +kernel
theorem dX8_refuse_0 : decode cX8_refuse 0 = .ok (.aload_n 0, 1) := by decide +kernel
theorem dX8_refuse_1 : decode cX8_refuse 1 = .ok (.getfield 18, 3) := by decide +kernel
theorem dX8_refuse_4 : decode cX8_refuse 4 = .ok (.ifCond .ne 19, 3) := by decide +kernel
theorem dX8_refuse_7 : decode cX8_refuse 7 = .ok (.aload_n 0, 1) := by decide +kernel
theorem dX8_refuse_8 : decode cX8_refuse 8 = .ok (.iload_n 1, 1) := by decide +kernel
theorem dX8_refuse_9 : decode cX8_refuse 9 = .ok (.bipush 16, 2) := by decide +kernel
theorem dX8_refuse_11 : decode cX8_refuse 11 = .ok (.aload_n 0, 1) := by decide +kernel
theorem dX8_refuse_12 : decode cX8_refuse 12 = .ok (.getfield 12, 3) := by decide +kernel
theorem dX8_refuse_15 : decode cX8_refuse 15 = .ok (.getfield 153, 3) := by decide +kernel
theorem dX8_refuse_18 : decode cX8_refuse 18 = .ok (.imul, 1) := by decide +kernel
theorem dX8_refuse_19 : decode cX8_refuse 19 = .ok (.iadd, 1) := by decide +kernel
theorem dX8_refuse_20 : decode cX8_refuse 20 = .ok (.putfield 18, 3) := by decide +kernel
theorem dX8_refuse_23 : decode cX8_refuse 23 = .ok (.return_, 1) := by decide +kernel
theorem dX8_take_0 : decode cX8_take 0 = .ok (.iload_n 1, 1) := by decide +kernel
theorem dX8_take_1 : decode cX8_take 1 = .ok (.ifCond .ne 8, 3) := by decide +kernel
theorem dX8_take_4 : decode cX8_take 4 = .ok (.aload_n 0, 1) := by decide +kernel
theorem dX8_take_5 : decode cX8_take 5 = .ok (.iconst 1, 1) := by decide +kernel
theorem dX8_take_6 : decode cX8_take 6 = .ok (.invokevirtual 71, 3) := by decide +kernel
theorem dX8_take_9 : decode cX8_take 9 = .ok (.aload_n 0, 1) := by decide +kernel
theorem dX8_take_10 : decode cX8_take 10 = .ok (.getfield 18, 3) := by decide +kernel
theorem dX8_take_13 : decode cX8_take 13 = .ok (.ifCond .ne 10, 3) := by decide +kernel
theorem dX8_take_16 : decode cX8_take 16 = .ok (.aload_n 0, 1) := by decide +kernel
theorem dX8_take_17 : decode cX8_take 17 = .ok (.getfield 12, 3) := by decide +kernel
theorem dX8_take_20 : decode cX8_take 20 = .ok (.invokevirtual 129, 3) := by decide +kernel
theorem dX8_take_23 : decode cX8_take 23 = .ok (.return_, 1) := by decide +kernel
theorem dX8_takeWord_0 : decode cX8_takeWord 0 = .ok (.aload_n 0, 1) := by decide +kernel
theorem dX8_takeWord_1 : decode cX8_takeWord 1 = .ok (.aload_n 0, 1) := by decide +kernel
theorem dX8_takeWord_2 : decode cX8_takeWord 2 = .ok (.getfield 12, 3) := by decide +kernel
theorem dX8_takeWord_5 : decode cX8_takeWord 5 = .ok (.iload_n 1, 1) := by decide +kernel
theorem dX8_takeWord_6 : decode cX8_takeWord 6 = .ok (.invokevirtual 125, 3) := by decide +kernel
theorem dX8_takeWord_9 : decode cX8_takeWord 9 = .ok (.invokevirtual 156, 3) := by decide +kernel
theorem dX8_takeWord_12 : decode cX8_takeWord 12 = .ok (.return_, 1) := by decide +kernel
theorem dX8_takeSign_0 : decode cX8_takeSign 0 = .ok (.aload_n 0, 1) := by decide +kernel
theorem dX8_takeSign_1 : decode cX8_takeSign 1 = .ok (.aload_n 0, 1) := by decide +kernel
theorem dX8_takeSign_2 : decode cX8_takeSign 2 = .ok (.getfield 12, 3) := by decide +kernel
theorem dX8_takeSign_5 : decode cX8_takeSign 5 = .ok (.iload_n 1, 1) := by decide +kernel
theorem dX8_takeSign_6 : decode cX8_takeSign 6 = .ok (.invokevirtual 137, 3) := by decide +kernel
theorem dX8_takeSign_9 : decode cX8_takeSign 9 = .ok (.invokevirtual 156, 3) := by decide +kernel
theorem dX8_takeSign_12 : decode cX8_takeSign 12 = .ok (.return_, 1) := by decide +kernel
theorem dX8_takeOnce_0 : decode cX8_takeOnce 0 = .ok (.iconst 1, 1) := by decide +kernel
theorem dX8_takeOnce_1 : decode cX8_takeOnce 1 = .ok (.aload_n 0, 1) := by decide +kernel
theorem dX8_takeOnce_2 : decode cX8_takeOnce 2 = .ok (.getfield 12, 3) := by decide +kernel
theorem dX8_takeOnce_5 : decode cX8_takeOnce 5 = .ok (.getfield 150, 3) := by decide +kernel
theorem dX8_takeOnce_8 : decode cX8_takeOnce 8 = .ok (.ishl, 1) := by decide +kernel
theorem dX8_takeOnce_9 : decode cX8_takeOnce 9 = .ok (.istore_n 1, 1) := by decide +kernel
theorem dX8_takeOnce_10 : decode cX8_takeOnce 10 = .ok (.aload_n 0, 1) := by decide +kernel
theorem dX8_takeOnce_11 : decode cX8_takeOnce 11 = .ok (.getfield 22, 3) := by decide +kernel
theorem dX8_takeOnce_14 : decode cX8_takeOnce 14 = .ok (.iload_n 1, 1) := by decide +kernel
theorem dX8_takeOnce_15 : decode cX8_takeOnce 15 = .ok (.iand, 1) := by decide +kernel
theorem dX8_takeOnce_16 : decode cX8_takeOnce 16 = .ok (.ifCond .eq 8, 3) := by decide +kernel
theorem dX8_takeOnce_19 : decode cX8_takeOnce 19 = .ok (.aload_n 0, 1) := by decide +kernel
theorem dX8_takeOnce_20 : decode cX8_takeOnce 20 = .ok (.iconst 3, 1) := by decide +kernel
theorem dX8_takeOnce_21 : decode cX8_takeOnce 21 = .ok (.invokevirtual 71, 3) := by decide +kernel
theorem dX8_takeOnce_24 : decode cX8_takeOnce 24 = .ok (.aload_n 0, 1) := by decide +kernel
theorem dX8_takeOnce_25 : decode cX8_takeOnce 25 = .ok (.dup, 1) := by decide +kernel
theorem dX8_takeOnce_26 : decode cX8_takeOnce 26 = .ok (.getfield 22, 3) := by decide +kernel
theorem dX8_takeOnce_29 : decode cX8_takeOnce 29 = .ok (.iload_n 1, 1) := by decide +kernel
theorem dX8_takeOnce_30 : decode cX8_takeOnce 30 = .ok (.ior, 1) := by decide +kernel
theorem dX8_takeOnce_31 : decode cX8_takeOnce 31 = .ok (.putfield 22, 3) := by decide +kernel
theorem dX8_takeOnce_34 : decode cX8_takeOnce 34 = .ok (.aload_n 0, 1) := by decide +kernel
theorem dX8_takeOnce_35 : decode cX8_takeOnce 35 = .ok (.iconst 1, 1) := by decide +kernel
theorem dX8_takeOnce_36 : decode cX8_takeOnce 36 = .ok (.invokevirtual 156, 3) := by decide +kernel
theorem dX8_takeOnce_39 : decode cX8_takeOnce 39 = .ok (.return_, 1) := by decide +kernel
theorem dX8_takeName_0 : decode cX8_takeName 0 = .ok (.aload_n 0, 1) := by decide +kernel
theorem dX8_takeName_1 : decode cX8_takeName 1 = .ok (.getfield 12, 3) := by decide +kernel
theorem dX8_takeName_4 : decode cX8_takeName 4 = .ok (.getfield 89, 3) := by decide +kernel
theorem dX8_takeName_7 : decode cX8_takeName 7 = .ok (.lstore_n 1, 1) := by decide +kernel
theorem dX8_takeName_8 : decode cX8_takeName 8 = .ok (.aload_n 0, 1) := by decide +kernel
theorem dX8_takeName_9 : decode cX8_takeName 9 = .ok (.aload_n 0, 1) := by decide +kernel
theorem dX8_takeName_10 : decode cX8_takeName 10 = .ok (.getfield 12, 3) := by decide +kernel
theorem dX8_takeName_13 : decode cX8_takeName 13 = .ok (.invokevirtual 85, 3) := by decide +kernel
theorem dX8_takeName_16 : decode cX8_takeName 16 = .ok (.invokevirtual 156, 3) := by decide +kernel
theorem dX8_takeName_19 : decode cX8_takeName 19 = .ok (.lload_n 1, 1) := by decide +kernel
theorem dX8_takeName_20 : decode cX8_takeName 20 = .ok (.lreturn, 1) := by decide +kernel
theorem dX8_takeKind_0 : decode cX8_takeKind 0 = .ok (.aload_n 0, 1) := by decide +kernel
theorem dX8_takeKind_1 : decode cX8_takeKind 1 = .ok (.getfield 12, 3) := by decide +kernel
theorem dX8_takeKind_4 : decode cX8_takeKind 4 = .ok (.getfield 150, 3) := by decide +kernel
theorem dX8_takeKind_7 : decode cX8_takeKind 7 = .ok (.bipush 12, 2) := by decide +kernel
theorem dX8_takeKind_9 : decode cX8_takeKind 9 = .ok (.isub, 1) := by decide +kernel
theorem dX8_takeKind_10 : decode cX8_takeKind 10 = .ok (.istore_n 1, 1) := by decide +kernel
theorem dX8_takeKind_11 : decode cX8_takeKind 11 = .ok (.aload_n 0, 1) := by decide +kernel
theorem dX8_takeKind_12 : decode cX8_takeKind 12 = .ok (.aload_n 0, 1) := by decide +kernel
theorem dX8_takeKind_13 : decode cX8_takeKind 13 = .ok (.getfield 12, 3) := by decide +kernel
theorem dX8_takeKind_16 : decode cX8_takeKind 16 = .ok (.getfield 33, 3) := by decide +kernel
theorem dX8_takeKind_19 : decode cX8_takeKind 19 = .ok (.iconst 1, 1) := by decide +kernel
theorem dX8_takeKind_20 : decode cX8_takeKind 20 = .ok (.if_icmp .ne 16, 3) := by decide +kernel
theorem dX8_takeKind_23 : decode cX8_takeKind 23 = .ok (.iload_n 1, 1) := by decide +kernel
theorem dX8_takeKind_24 : decode cX8_takeKind 24 = .ok (.ifCond .lt 12, 3) := by decide +kernel
theorem dX8_takeKind_27 : decode cX8_takeKind 27 = .ok (.iload_n 1, 1) := by decide +kernel
theorem dX8_takeKind_28 : decode cX8_takeKind 28 = .ok (.iconst 3, 1) := by decide +kernel
theorem dX8_takeKind_29 : decode cX8_takeKind 29 = .ok (.if_icmp .gt 7, 3) := by decide +kernel
theorem dX8_takeKind_32 : decode cX8_takeKind 32 = .ok (.iconst 1, 1) := by decide +kernel
theorem dX8_takeKind_33 : decode cX8_takeKind 33 = .ok (.goto 4, 3) := by decide +kernel
theorem dX8_takeKind_36 : decode cX8_takeKind 36 = .ok (.iconst 0, 1) := by decide +kernel
theorem dX8_takeKind_37 : decode cX8_takeKind 37 = .ok (.invokevirtual 156, 3) := by decide +kernel
theorem dX8_takeKind_40 : decode cX8_takeKind 40 = .ok (.iload_n 1, 1) := by decide +kernel
theorem dX8_takeKind_41 : decode cX8_takeKind 41 = .ok (.ireturn, 1) := by decide +kernel
theorem dX8_takeNumber_0 : decode cX8_takeNumber 0 = .ok (.aload_n 0, 1) := by decide +kernel
theorem dX8_takeNumber_1 : decode cX8_takeNumber 1 = .ok (.getfield 12, 3) := by decide +kernel
theorem dX8_takeNumber_4 : decode cX8_takeNumber 4 = .ok (.getfield 150, 3) := by decide +kernel
theorem dX8_takeNumber_7 : decode cX8_takeNumber 7 = .ok (.istore_n 3, 1) := by decide +kernel
theorem dX8_takeNumber_8 : decode cX8_takeNumber 8 = .ok (.aload_n 0, 1) := by decide +kernel
theorem dX8_takeNumber_9 : decode cX8_takeNumber 9 = .ok (.getfield 12, 3) := by decide +kernel
theorem dX8_takeNumber_12 : decode cX8_takeNumber 12 = .ok (.getfield 33, 3) := by decide +kernel
theorem dX8_takeNumber_15 : decode cX8_takeNumber 15 = .ok (.iconst 2, 1) := by decide +kernel
theorem dX8_takeNumber_16 : decode cX8_takeNumber 16 = .ok (.if_icmp .ne 7, 3) := by decide +kernel
theorem dX8_takeNumber_19 : decode cX8_takeNumber 19 = .ok (.iconst 1, 1) := by decide +kernel
theorem dX8_takeNumber_20 : decode cX8_takeNumber 20 = .ok (.goto 4, 3) := by decide +kernel
theorem dX8_takeNumber_23 : decode cX8_takeNumber 23 = .ok (.iconst 0, 1) := by decide +kernel
theorem dX8_takeNumber_24 : decode cX8_takeNumber 24 = .ok (.istore 4, 2) := by decide +kernel
theorem dX8_takeNumber_26 : decode cX8_takeNumber 26 = .ok (.iload 4, 2) := by decide +kernel
theorem dX8_takeNumber_28 : decode cX8_takeNumber 28 = .ok (.ifCond .eq 18, 3) := by decide +kernel
theorem dX8_takeNumber_31 : decode cX8_takeNumber 31 = .ok (.iload_n 3, 1) := by decide +kernel
theorem dX8_takeNumber_32 : decode cX8_takeNumber 32 = .ok (.iload_n 1, 1) := by decide +kernel
theorem dX8_takeNumber_33 : decode cX8_takeNumber 33 = .ok (.if_icmp .lt 8, 3) := by decide +kernel
theorem dX8_takeNumber_36 : decode cX8_takeNumber 36 = .ok (.iload_n 3, 1) := by decide +kernel
theorem dX8_takeNumber_37 : decode cX8_takeNumber 37 = .ok (.iload_n 2, 1) := by decide +kernel
theorem dX8_takeNumber_38 : decode cX8_takeNumber 38 = .ok (.if_icmp .le 8, 3) := by decide +kernel
theorem dX8_takeNumber_41 : decode cX8_takeNumber 41 = .ok (.aload_n 0, 1) := by decide +kernel
theorem dX8_takeNumber_42 : decode cX8_takeNumber 42 = .ok (.iconst 4, 1) := by decide +kernel
theorem dX8_takeNumber_43 : decode cX8_takeNumber 43 = .ok (.invokevirtual 71, 3) := by decide +kernel
theorem dX8_takeNumber_46 : decode cX8_takeNumber 46 = .ok (.aload_n 0, 1) := by decide +kernel
theorem dX8_takeNumber_47 : decode cX8_takeNumber 47 = .ok (.iload 4, 2) := by decide +kernel
theorem dX8_takeNumber_49 : decode cX8_takeNumber 49 = .ok (.invokevirtual 156, 3) := by decide +kernel
theorem dX8_takeNumber_52 : decode cX8_takeNumber 52 = .ok (.iload_n 3, 1) := by decide +kernel
theorem dX8_takeNumber_53 : decode cX8_takeNumber 53 = .ok (.ireturn, 1) := by decide +kernel
theorem dX9_init_0 : decode cX9_init 0 = .ok (.aload_n 0, 1) := by decide +kernel
theorem dX9_init_1 : decode cX9_init 1 = .ok (.invokespecial 3, 3) := by decide +kernel
theorem dX9_init_4 : decode cX9_init 4 = .ok (.aload_n 0, 1) := by decide +kernel
theorem dX9_init_5 : decode cX9_init 5 = .ok (.sipush 1000, 3) := by decide +kernel
theorem dX9_init_8 : decode cX9_init 8 = .ok (.newarray .char, 2) := by decide +kernel
theorem dX9_init_10 : decode cX9_init 10 = .ok (.putfield 9, 3) := by decide +kernel
theorem dX9_init_13 : decode cX9_init 13 = .ok (.aload_n 0, 1) := by decide +kernel
theorem dX9_init_14 : decode cX9_init 14 = .ok (.iconst 0, 1) := by decide +kernel
theorem dX9_init_15 : decode cX9_init 15 = .ok (.putfield 15, 3) := by decide +kernel
theorem dX9_init_18 : decode cX9_init 18 = .ok (.aload_n 0, 1) := by decide +kernel
theorem dX9_init_19 : decode cX9_init 19 = .ok (.iconst 0, 1) := by decide +kernel
theorem dX9_init_20 : decode cX9_init 20 = .ok (.putfield 19, 3) := by decide +kernel
theorem dX9_init_23 : decode cX9_init 23 = .ok (.aload_n 0, 1) := by decide +kernel
theorem dX9_init_24 : decode cX9_init 24 = .ok (.iconst 0, 1) := by decide +kernel
theorem dX9_init_25 : decode cX9_init 25 = .ok (.putfield 22, 3) := by decide +kernel
theorem dX9_init_28 : decode cX9_init 28 = .ok (.aload_n 0, 1) := by decide +kernel
theorem dX9_init_29 : decode cX9_init 29 = .ok (.iconst 0, 1) := by decide +kernel
theorem dX9_init_30 : decode cX9_init 30 = .ok (.putfield 25, 3) := by decide +kernel
theorem dX9_init_33 : decode cX9_init 33 = .ok (.aload_n 0, 1) := by decide +kernel
theorem dX9_init_34 : decode cX9_init 34 = .ok (.iconst 0, 1) := by decide +kernel
theorem dX9_init_35 : decode cX9_init 35 = .ok (.putfield 28, 3) := by decide +kernel
theorem dX9_init_38 : decode cX9_init 38 = .ok (.aload_n 0, 1) := by decide +kernel
theorem dX9_init_39 : decode cX9_init 39 = .ok (.lconst 0, 1) := by decide +kernel
theorem dX9_init_40 : decode cX9_init 40 = .ok (.putfield 31, 3) := by decide +kernel
theorem dX9_init_43 : decode cX9_init 43 = .ok (.return_, 1) := by decide +kernel
theorem dX9_addSigns_0 : decode cX9_addSigns 0 = .ok (.bipush 56, 2) := by decide +kernel
theorem dX9_addSigns_2 : decode cX9_addSigns 2 = .ok (.istore_n 3, 1) := by decide +kernel
theorem dX9_addSigns_3 : decode cX9_addSigns 3 = .ok (.iload_n 3, 1) := by decide +kernel
theorem dX9_addSigns_4 : decode cX9_addSigns 4 = .ok (.ifCond .lt 93, 3) := by decide +kernel
theorem dX9_addSigns_7 : decode cX9_addSigns 7 = .ok (.lload_n 1, 1) := by decide +kernel
theorem dX9_addSigns_8 : decode cX9_addSigns 8 = .ok (.iload_n 3, 1) := by decide +kernel
theorem dX9_addSigns_9 : decode cX9_addSigns 9 = .ok (.lshr, 1) := by decide +kernel
theorem dX9_addSigns_10 : decode cX9_addSigns 10 = .ok (.ldc2_w 35, 3) := by decide +kernel
theorem dX9_addSigns_13 : decode cX9_addSigns 13 = .ok (.land, 1) := by decide +kernel
theorem dX9_addSigns_14 : decode cX9_addSigns 14 = .ok (.l2i, 1) := by decide +kernel
theorem dX9_addSigns_15 : decode cX9_addSigns 15 = .ok (.istore 4, 2) := by decide +kernel
theorem dX9_addSigns_17 : decode cX9_addSigns 17 = .ok (.iload 4, 2) := by decide +kernel
theorem dX9_addSigns_19 : decode cX9_addSigns 19 = .ok (.bipush 10, 2) := by decide +kernel
theorem dX9_addSigns_21 : decode cX9_addSigns 21 = .ok (.if_icmp .eq 17, 3) := by decide +kernel
theorem dX9_addSigns_24 : decode cX9_addSigns 24 = .ok (.iload 4, 2) := by decide +kernel
theorem dX9_addSigns_26 : decode cX9_addSigns 26 = .ok (.bipush 32, 2) := by decide +kernel
theorem dX9_addSigns_28 : decode cX9_addSigns 28 = .ok (.if_icmp .lt 14, 3) := by decide +kernel
theorem dX9_addSigns_31 : decode cX9_addSigns 31 = .ok (.iload 4, 2) := by decide +kernel
theorem dX9_addSigns_33 : decode cX9_addSigns 33 = .ok (.bipush 126, 2) := by decide +kernel
theorem dX9_addSigns_35 : decode cX9_addSigns 35 = .ok (.if_icmp .gt 7, 3) := by decide +kernel
theorem dX9_addSigns_38 : decode cX9_addSigns 38 = .ok (.iconst 1, 1) := by decide +kernel
theorem dX9_addSigns_39 : decode cX9_addSigns 39 = .ok (.goto 4, 3) := by decide +kernel
theorem dX9_addSigns_42 : decode cX9_addSigns 42 = .ok (.iconst 0, 1) := by decide +kernel
theorem dX9_addSigns_43 : decode cX9_addSigns 43 = .ok (.istore 5, 2) := by decide +kernel
theorem dX9_addSigns_45 : decode cX9_addSigns 45 = .ok (.iload 5, 2) := by decide +kernel
theorem dX9_addSigns_47 : decode cX9_addSigns 47 = .ok (.ifCond .eq 44, 3) := by decide +kernel
theorem dX9_addSigns_50 : decode cX9_addSigns 50 = .ok (.aload_n 0, 1) := by decide +kernel
theorem dX9_addSigns_51 : decode cX9_addSigns 51 = .ok (.getfield 15, 3) := by decide +kernel
theorem dX9_addSigns_54 : decode cX9_addSigns 54 = .ok (.ifCond .lt 37, 3) := by decide +kernel
theorem dX9_addSigns_57 : decode cX9_addSigns 57 = .ok (.aload_n 0, 1) := by decide +kernel
theorem dX9_addSigns_58 : decode cX9_addSigns 58 = .ok (.getfield 15, 3) := by decide +kernel
theorem dX9_addSigns_61 : decode cX9_addSigns 61 = .ok (.aload_n 0, 1) := by decide +kernel
theorem dX9_addSigns_62 : decode cX9_addSigns 62 = .ok (.getfield 9, 3) := by decide +kernel
theorem dX9_addSigns_65 : decode cX9_addSigns 65 = .ok (.arraylength, 1) := by decide +kernel
theorem dX9_addSigns_66 : decode cX9_addSigns 66 = .ok (.if_icmp .ge 25, 3) := by decide +kernel
theorem dX9_addSigns_69 : decode cX9_addSigns 69 = .ok (.aload_n 0, 1) := by decide +kernel
theorem dX9_addSigns_70 : decode cX9_addSigns 70 = .ok (.getfield 9, 3) := by decide +kernel
theorem dX9_addSigns_73 : decode cX9_addSigns 73 = .ok (.aload_n 0, 1) := by decide +kernel
theorem dX9_addSigns_74 : decode cX9_addSigns 74 = .ok (.getfield 15, 3) := by decide +kernel
theorem dX9_addSigns_77 : decode cX9_addSigns 77 = .ok (.iload 4, 2) := by decide +kernel
theorem dX9_addSigns_79 : decode cX9_addSigns 79 = .ok (.i2c, 1) := by decide +kernel
theorem dX9_addSigns_80 : decode cX9_addSigns 80 = .ok (.castore, 1) := by decide +kernel
theorem dX9_addSigns_81 : decode cX9_addSigns 81 = .ok (.aload_n 0, 1) := by decide +kernel
theorem dX9_addSigns_82 : decode cX9_addSigns 82 = .ok (.dup, 1) := by decide +kernel
theorem dX9_addSigns_83 : decode cX9_addSigns 83 = .ok (.getfield 15, 3) := by decide +kernel
theorem dX9_addSigns_86 : decode cX9_addSigns 86 = .ok (.iconst 1, 1) := by decide +kernel
theorem dX9_addSigns_87 : decode cX9_addSigns 87 = .ok (.iadd, 1) := by decide +kernel
theorem dX9_addSigns_88 : decode cX9_addSigns 88 = .ok (.putfield 15, 3) := by decide +kernel
theorem dX9_addSigns_91 : decode cX9_addSigns 91 = .ok (.iinc 3 (-8), 3) := by decide +kernel
theorem dX9_addSigns_94 : decode cX9_addSigns 94 = .ok (.goto (-91), 3) := by decide +kernel
theorem dX9_addSigns_97 : decode cX9_addSigns 97 = .ok (.return_, 1) := by decide +kernel
theorem dX9_empty_0 : decode cX9_empty 0 = .ok (.aload_n 0, 1) := by decide +kernel
theorem dX9_empty_1 : decode cX9_empty 1 = .ok (.iconst 0, 1) := by decide +kernel
theorem dX9_empty_2 : decode cX9_empty 2 = .ok (.putfield 15, 3) := by decide +kernel
theorem dX9_empty_5 : decode cX9_empty 5 = .ok (.return_, 1) := by decide +kernel
theorem dX9_start_0 : decode cX9_start 0 = .ok (.aload_n 0, 1) := by decide +kernel
theorem dX9_start_1 : decode cX9_start 1 = .ok (.iconst 0, 1) := by decide +kernel
theorem dX9_start_2 : decode cX9_start 2 = .ok (.putfield 22, 3) := by decide +kernel
theorem dX9_start_5 : decode cX9_start 5 = .ok (.aload_n 0, 1) := by decide +kernel
theorem dX9_start_6 : decode cX9_start 6 = .ok (.invokevirtual 37, 3) := by decide +kernel
theorem dX9_start_9 : decode cX9_start 9 = .ok (.return_, 1) := by decide +kernel
theorem dX9_advance_0 : decode cX9_advance 0 = .ok (.aload_n 0, 1) := by decide +kernel
theorem dX9_advance_1 : decode cX9_advance 1 = .ok (.getfield 22, 3) := by decide +kernel
theorem dX9_advance_4 : decode cX9_advance 4 = .ok (.istore_n 1, 1) := by decide +kernel
theorem dX9_advance_5 : decode cX9_advance 5 = .ok (.iload_n 1, 1) := by decide +kernel
theorem dX9_advance_6 : decode cX9_advance 6 = .ok (.aload_n 0, 1) := by decide +kernel
theorem dX9_advance_7 : decode cX9_advance 7 = .ok (.getfield 15, 3) := by decide +kernel
theorem dX9_advance_10 : decode cX9_advance 10 = .ok (.if_icmp .ge 20, 3) := by decide +kernel
theorem dX9_advance_13 : decode cX9_advance 13 = .ok (.aload_n 0, 1) := by decide +kernel
theorem dX9_advance_14 : decode cX9_advance 14 = .ok (.iload_n 1, 1) := by decide +kernel
theorem dX9_advance_15 : decode cX9_advance 15 = .ok (.invokevirtual 40, 3) := by decide +kernel
theorem dX9_advance_18 : decode cX9_advance 18 = .ok (.invokestatic 44, 3) := by decide +kernel
theorem dX9_advance_21 : decode cX9_advance 21 = .ok (.ifCond .eq 9, 3) := by decide +kernel
theorem dX9_advance_24 : decode cX9_advance 24 = .ok (.iinc 1 1, 3) := by decide +kernel
theorem dX9_advance_27 : decode cX9_advance 27 = .ok (.goto (-22), 3) := by decide +kernel
theorem dX9_advance_30 : decode cX9_advance 30 = .ok (.aload_n 0, 1) := by decide +kernel
theorem dX9_advance_31 : decode cX9_advance 31 = .ok (.iload_n 1, 1) := by decide +kernel
theorem dX9_advance_32 : decode cX9_advance 32 = .ok (.putfield 19, 3) := by decide +kernel
theorem dX9_advance_35 : decode cX9_advance 35 = .ok (.aload_n 0, 1) := by decide +kernel
theorem dX9_advance_36 : decode cX9_advance 36 = .ok (.iload_n 1, 1) := by decide +kernel
theorem dX9_advance_37 : decode cX9_advance 37 = .ok (.invokevirtual 40, 3) := by decide +kernel
theorem dX9_advance_40 : decode cX9_advance 40 = .ok (.istore_n 2, 1) := by decide +kernel
theorem dX9_advance_41 : decode cX9_advance 41 = .ok (.iload_n 1, 1) := by decide +kernel
theorem dX9_advance_42 : decode cX9_advance 42 = .ok (.aload_n 0, 1) := by decide +kernel
theorem dX9_advance_43 : decode cX9_advance 43 = .ok (.getfield 15, 3) := by decide +kernel
theorem dX9_advance_46 : decode cX9_advance 46 = .ok (.if_icmp .lt 11, 3) := by decide +kernel
theorem dX9_advance_49 : decode cX9_advance 49 = .ok (.aload_n 0, 1) := by decide +kernel
theorem dX9_advance_50 : decode cX9_advance 50 = .ok (.iconst 0, 1) := by decide +kernel
theorem dX9_advance_51 : decode cX9_advance 51 = .ok (.putfield 25, 3) := by decide +kernel
theorem dX9_advance_54 : decode cX9_advance 54 = .ok (.goto 59, 3) := by decide +kernel
theorem dX9_advance_57 : decode cX9_advance 57 = .ok (.iload_n 2, 1) := by decide +kernel
theorem dX9_advance_58 : decode cX9_advance 58 = .ok (.invokestatic 48, 3) := by decide +kernel
theorem dX9_advance_61 : decode cX9_advance 61 = .ok (.ifCond .eq 10, 3) := by decide +kernel
theorem dX9_advance_64 : decode cX9_advance 64 = .ok (.aload_n 0, 1) := by decide +kernel
theorem dX9_advance_65 : decode cX9_advance 65 = .ok (.invokevirtual 51, 3) := by decide +kernel
theorem dX9_advance_68 : decode cX9_advance 68 = .ok (.goto 45, 3) := by decide +kernel
theorem dX9_advance_71 : decode cX9_advance 71 = .ok (.iload_n 2, 1) := by decide +kernel
theorem dX9_advance_72 : decode cX9_advance 72 = .ok (.invokestatic 54, 3) := by decide +kernel
theorem dX9_advance_75 : decode cX9_advance 75 = .ok (.ifCond .eq 10, 3) := by decide +kernel
theorem dX9_advance_78 : decode cX9_advance 78 = .ok (.aload_n 0, 1) := by decide +kernel
theorem dX9_advance_79 : decode cX9_advance 79 = .ok (.invokevirtual 57, 3) := by decide +kernel
theorem dX9_advance_82 : decode cX9_advance 82 = .ok (.goto 31, 3) := by decide +kernel
theorem dX9_advance_85 : decode cX9_advance 85 = .ok (.aload_n 0, 1) := by decide +kernel
theorem dX9_advance_86 : decode cX9_advance 86 = .ok (.iload_n 2, 1) := by decide +kernel
theorem dX9_advance_87 : decode cX9_advance 87 = .ok (.invokestatic 60, 3) := by decide +kernel
theorem dX9_advance_90 : decode cX9_advance 90 = .ok (.ifCond .eq 7, 3) := by decide +kernel
theorem dX9_advance_93 : decode cX9_advance 93 = .ok (.iconst 3, 1) := by decide +kernel
theorem dX9_advance_94 : decode cX9_advance 94 = .ok (.goto 4, 3) := by decide +kernel
theorem dX9_advance_97 : decode cX9_advance 97 = .ok (.iconst 4, 1) := by decide +kernel
theorem dX9_advance_98 : decode cX9_advance 98 = .ok (.putfield 25, 3) := by decide +kernel
theorem dX9_advance_101 : decode cX9_advance 101 = .ok (.aload_n 0, 1) := by decide +kernel
theorem dX9_advance_102 : decode cX9_advance 102 = .ok (.iload_n 2, 1) := by decide +kernel
theorem dX9_advance_103 : decode cX9_advance 103 = .ok (.putfield 28, 3) := by decide +kernel
theorem dX9_advance_106 : decode cX9_advance 106 = .ok (.aload_n 0, 1) := by decide +kernel
theorem dX9_advance_107 : decode cX9_advance 107 = .ok (.iload_n 1, 1) := by decide +kernel
theorem dX9_advance_108 : decode cX9_advance 108 = .ok (.iconst 1, 1) := by decide +kernel
theorem dX9_advance_109 : decode cX9_advance 109 = .ok (.iadd, 1) := by decide +kernel
theorem dX9_advance_110 : decode cX9_advance 110 = .ok (.putfield 22, 3) := by decide +kernel
theorem dX9_advance_113 : decode cX9_advance 113 = .ok (.return_, 1) := by decide +kernel
theorem dX9_readWord_0 : decode cX9_readWord 0 = .ok (.aload_n 0, 1) := by decide +kernel
theorem dX9_readWord_1 : decode cX9_readWord 1 = .ok (.lconst 0, 1) := by decide +kernel
theorem dX9_readWord_2 : decode cX9_readWord 2 = .ok (.putfield 31, 3) := by decide +kernel
theorem dX9_readWord_5 : decode cX9_readWord 5 = .ok (.aload_n 0, 1) := by decide +kernel
theorem dX9_readWord_6 : decode cX9_readWord 6 = .ok (.getfield 19, 3) := by decide +kernel
theorem dX9_readWord_9 : decode cX9_readWord 9 = .ok (.istore_n 1, 1) := by decide +kernel
theorem dX9_readWord_10 : decode cX9_readWord 10 = .ok (.iload_n 1, 1) := by decide +kernel
theorem dX9_readWord_11 : decode cX9_readWord 11 = .ok (.aload_n 0, 1) := by decide +kernel
theorem dX9_readWord_12 : decode cX9_readWord 12 = .ok (.getfield 15, 3) := by decide +kernel
theorem dX9_readWord_15 : decode cX9_readWord 15 = .ok (.if_icmp .ge 45, 3) := by decide +kernel
theorem dX9_readWord_18 : decode cX9_readWord 18 = .ok (.aload_n 0, 1) := by decide +kernel
theorem dX9_readWord_19 : decode cX9_readWord 19 = .ok (.iload_n 1, 1) := by decide +kernel
theorem dX9_readWord_20 : decode cX9_readWord 20 = .ok (.invokevirtual 40, 3) := by decide +kernel
theorem dX9_readWord_23 : decode cX9_readWord 23 = .ok (.invokestatic 48, 3) := by decide +kernel
theorem dX9_readWord_26 : decode cX9_readWord 26 = .ok (.ifCond .eq 34, 3) := by decide +kernel
theorem dX9_readWord_29 : decode cX9_readWord 29 = .ok (.aload_n 0, 1) := by decide +kernel
theorem dX9_readWord_30 : decode cX9_readWord 30 = .ok (.aload_n 0, 1) := by decide +kernel
theorem dX9_readWord_31 : decode cX9_readWord 31 = .ok (.getfield 31, 3) := by decide +kernel
theorem dX9_readWord_34 : decode cX9_readWord 34 = .ok (.ldc2_w 63, 3) := by decide +kernel
theorem dX9_readWord_37 : decode cX9_readWord 37 = .ok (.lmul, 1) := by decide +kernel
theorem dX9_readWord_38 : decode cX9_readWord 38 = .ok (.aload_n 0, 1) := by decide +kernel
theorem dX9_readWord_39 : decode cX9_readWord 39 = .ok (.iload_n 1, 1) := by decide +kernel
theorem dX9_readWord_40 : decode cX9_readWord 40 = .ok (.invokevirtual 40, 3) := by decide +kernel
theorem dX9_readWord_43 : decode cX9_readWord 43 = .ok (.i2l, 1) := by decide +kernel
theorem dX9_readWord_44 : decode cX9_readWord 44 = .ok (.ladd, 1) := by decide +kernel
theorem dX9_readWord_45 : decode cX9_readWord 45 = .ok (.ldc2_w 65, 3) := by decide +kernel
theorem dX9_readWord_48 : decode cX9_readWord 48 = .ok (.lsub, 1) := by decide +kernel
theorem dX9_readWord_49 : decode cX9_readWord 49 = .ok (.lconst 1, 1) := by decide +kernel
theorem dX9_readWord_50 : decode cX9_readWord 50 = .ok (.ladd, 1) := by decide +kernel
theorem dX9_readWord_51 : decode cX9_readWord 51 = .ok (.putfield 31, 3) := by decide +kernel
theorem dX9_readWord_54 : decode cX9_readWord 54 = .ok (.iinc 1 1, 3) := by decide +kernel
theorem dX9_readWord_57 : decode cX9_readWord 57 = .ok (.goto (-47), 3) := by decide +kernel
theorem dX9_readWord_60 : decode cX9_readWord 60 = .ok (.aload_n 0, 1) := by decide +kernel
theorem dX9_readWord_61 : decode cX9_readWord 61 = .ok (.iload_n 1, 1) := by decide +kernel
theorem dX9_readWord_62 : decode cX9_readWord 62 = .ok (.putfield 22, 3) := by decide +kernel
theorem dX9_readWord_65 : decode cX9_readWord 65 = .ok (.aload_n 0, 1) := by decide +kernel
theorem dX9_readWord_66 : decode cX9_readWord 66 = .ok (.iload_n 1, 1) := by decide +kernel
theorem dX9_readWord_67 : decode cX9_readWord 67 = .ok (.aload_n 0, 1) := by decide +kernel
theorem dX9_readWord_68 : decode cX9_readWord 68 = .ok (.getfield 19, 3) := by decide +kernel
theorem dX9_readWord_71 : decode cX9_readWord 71 = .ok (.isub, 1) := by decide +kernel
theorem dX9_readWord_72 : decode cX9_readWord 72 = .ok (.bipush 8, 2) := by decide +kernel
theorem dX9_readWord_74 : decode cX9_readWord 74 = .ok (.if_icmp .le 7, 3) := by decide +kernel
theorem dX9_readWord_77 : decode cX9_readWord 77 = .ok (.iconst 4, 1) := by decide +kernel
theorem dX9_readWord_78 : decode cX9_readWord 78 = .ok (.goto 4, 3) := by decide +kernel
theorem dX9_readWord_81 : decode cX9_readWord 81 = .ok (.iconst 1, 1) := by decide +kernel
theorem dX9_readWord_82 : decode cX9_readWord 82 = .ok (.putfield 25, 3) := by decide +kernel
theorem dX9_readWord_85 : decode cX9_readWord 85 = .ok (.aload_n 0, 1) := by decide +kernel
theorem dX9_readWord_86 : decode cX9_readWord 86 = .ok (.aload_n 0, 1) := by decide +kernel
theorem dX9_readWord_87 : decode cX9_readWord 87 = .ok (.getfield 31, 3) := by decide +kernel
theorem dX9_readWord_90 : decode cX9_readWord 90 = .ok (.invokestatic 67, 3) := by decide +kernel
theorem dX9_readWord_93 : decode cX9_readWord 93 = .ok (.putfield 28, 3) := by decide +kernel
theorem dX9_readWord_96 : decode cX9_readWord 96 = .ok (.return_, 1) := by decide +kernel
theorem dX9_placeInWords_0 : decode cX9_placeInWords 0 = .ok (.iconst 0, 1) := by decide +kernel
theorem dX9_placeInWords_1 : decode cX9_placeInWords 1 = .ok (.istore_n 2, 1) := by decide +kernel
theorem dX9_placeInWords_2 : decode cX9_placeInWords 2 = .ok (.lconst 0, 1) := by decide +kernel
theorem dX9_placeInWords_3 : decode cX9_placeInWords 3 = .ok (.lstore_n 3, 1) := by decide +kernel
theorem dX9_placeInWords_4 : decode cX9_placeInWords 4 = .ok (.iconst 0, 1) := by decide +kernel
theorem dX9_placeInWords_5 : decode cX9_placeInWords 5 = .ok (.istore 5, 2) := by decide +kernel
theorem dX9_placeInWords_7 : decode cX9_placeInWords 7 = .ok (.iload 5, 2) := by decide +kernel
theorem dX9_placeInWords_9 : decode cX9_placeInWords 9 = .ok (.ldc 71, 2) := by decide +kernel
theorem dX9_placeInWords_11 : decode cX9_placeInWords 11 = .ok (.invokevirtual 73, 3) := by decide +kernel
theorem dX9_placeInWords_14 : decode cX9_placeInWords 14 = .ok (.if_icmp .ge 57, 3) := by decide +kernel
theorem dX9_placeInWords_17 : decode cX9_placeInWords 17 = .ok (.ldc 71, 2) := by decide +kernel
theorem dX9_placeInWords_19 : decode cX9_placeInWords 19 = .ok (.iload 5, 2) := by decide +kernel
theorem dX9_placeInWords_21 : decode cX9_placeInWords 21 = .ok (.invokevirtual 78, 3) := by decide +kernel
theorem dX9_placeInWords_24 : decode cX9_placeInWords 24 = .ok (.istore 6, 2) := by decide +kernel
theorem dX9_placeInWords_26 : decode cX9_placeInWords 26 = .ok (.iload 6, 2) := by decide +kernel
theorem dX9_placeInWords_28 : decode cX9_placeInWords 28 = .ok (.bipush 32, 2) := by decide +kernel
theorem dX9_placeInWords_30 : decode cX9_placeInWords 30 = .ok (.if_icmp .eq 22, 3) := by decide +kernel
theorem dX9_placeInWords_33 : decode cX9_placeInWords 33 = .ok (.lload_n 3, 1) := by decide +kernel
theorem dX9_placeInWords_34 : decode cX9_placeInWords 34 = .ok (.ldc2_w 63, 3) := by decide +kernel
theorem dX9_placeInWords_37 : decode cX9_placeInWords 37 = .ok (.lmul, 1) := by decide +kernel
theorem dX9_placeInWords_38 : decode cX9_placeInWords 38 = .ok (.iload 6, 2) := by decide +kernel
theorem dX9_placeInWords_40 : decode cX9_placeInWords 40 = .ok (.i2l, 1) := by decide +kernel
theorem dX9_placeInWords_41 : decode cX9_placeInWords 41 = .ok (.ladd, 1) := by decide +kernel
theorem dX9_placeInWords_42 : decode cX9_placeInWords 42 = .ok (.ldc2_w 65, 3) := by decide +kernel
theorem dX9_placeInWords_45 : decode cX9_placeInWords 45 = .ok (.lsub, 1) := by decide +kernel
theorem dX9_placeInWords_46 : decode cX9_placeInWords 46 = .ok (.lconst 1, 1) := by decide +kernel
theorem dX9_placeInWords_47 : decode cX9_placeInWords 47 = .ok (.ladd, 1) := by decide +kernel
theorem dX9_placeInWords_48 : decode cX9_placeInWords 48 = .ok (.lstore_n 3, 1) := by decide +kernel
theorem dX9_placeInWords_49 : decode cX9_placeInWords 49 = .ok (.goto 16, 3) := by decide +kernel
theorem dX9_placeInWords_52 : decode cX9_placeInWords 52 = .ok (.lload_n 3, 1) := by decide +kernel
theorem dX9_placeInWords_53 : decode cX9_placeInWords 53 = .ok (.lload_n 0, 1) := by decide +kernel
theorem dX9_placeInWords_54 : decode cX9_placeInWords 54 = .ok (.lcmp, 1) := by decide +kernel
theorem dX9_placeInWords_55 : decode cX9_placeInWords 55 = .ok (.ifCond .ne 5, 3) := by decide +kernel
theorem dX9_placeInWords_58 : decode cX9_placeInWords 58 = .ok (.iload_n 2, 1) := by decide +kernel
theorem dX9_placeInWords_59 : decode cX9_placeInWords 59 = .ok (.ireturn, 1) := by decide +kernel
theorem dX9_placeInWords_60 : decode cX9_placeInWords 60 = .ok (.iinc 2 1, 3) := by decide +kernel
theorem dX9_placeInWords_63 : decode cX9_placeInWords 63 = .ok (.lconst 0, 1) := by decide +kernel
theorem dX9_placeInWords_64 : decode cX9_placeInWords 64 = .ok (.lstore_n 3, 1) := by decide +kernel
theorem dX9_placeInWords_65 : decode cX9_placeInWords 65 = .ok (.iinc 5 1, 3) := by decide +kernel
theorem dX9_placeInWords_68 : decode cX9_placeInWords 68 = .ok (.goto (-61), 3) := by decide +kernel
theorem dX9_placeInWords_71 : decode cX9_placeInWords 71 = .ok (.iconst (-1), 1) := by decide +kernel
theorem dX9_placeInWords_72 : decode cX9_placeInWords 72 = .ok (.ireturn, 1) := by decide +kernel
theorem dX9_readNumber_0 : decode cX9_readNumber 0 = .ok (.aload_n 0, 1) := by decide +kernel
theorem dX9_readNumber_1 : decode cX9_readNumber 1 = .ok (.iconst 0, 1) := by decide +kernel
theorem dX9_readNumber_2 : decode cX9_readNumber 2 = .ok (.putfield 28, 3) := by decide +kernel
theorem dX9_readNumber_5 : decode cX9_readNumber 5 = .ok (.aload_n 0, 1) := by decide +kernel
theorem dX9_readNumber_6 : decode cX9_readNumber 6 = .ok (.getfield 19, 3) := by decide +kernel
theorem dX9_readNumber_9 : decode cX9_readNumber 9 = .ok (.istore_n 1, 1) := by decide +kernel
theorem dX9_readNumber_10 : decode cX9_readNumber 10 = .ok (.iload_n 1, 1) := by decide +kernel
theorem dX9_readNumber_11 : decode cX9_readNumber 11 = .ok (.aload_n 0, 1) := by decide +kernel
theorem dX9_readNumber_12 : decode cX9_readNumber 12 = .ok (.getfield 15, 3) := by decide +kernel
theorem dX9_readNumber_15 : decode cX9_readNumber 15 = .ok (.if_icmp .ge 40, 3) := by decide +kernel
theorem dX9_readNumber_18 : decode cX9_readNumber 18 = .ok (.aload_n 0, 1) := by decide +kernel
theorem dX9_readNumber_19 : decode cX9_readNumber 19 = .ok (.iload_n 1, 1) := by decide +kernel
theorem dX9_readNumber_20 : decode cX9_readNumber 20 = .ok (.invokevirtual 40, 3) := by decide +kernel
theorem dX9_readNumber_23 : decode cX9_readNumber 23 = .ok (.invokestatic 54, 3) := by decide +kernel
theorem dX9_readNumber_26 : decode cX9_readNumber 26 = .ok (.ifCond .eq 29, 3) := by decide +kernel
theorem dX9_readNumber_29 : decode cX9_readNumber 29 = .ok (.aload_n 0, 1) := by decide +kernel
theorem dX9_readNumber_30 : decode cX9_readNumber 30 = .ok (.aload_n 0, 1) := by decide +kernel
theorem dX9_readNumber_31 : decode cX9_readNumber 31 = .ok (.getfield 28, 3) := by decide +kernel
theorem dX9_readNumber_34 : decode cX9_readNumber 34 = .ok (.bipush 10, 2) := by decide +kernel
theorem dX9_readNumber_36 : decode cX9_readNumber 36 = .ok (.imul, 1) := by decide +kernel
theorem dX9_readNumber_37 : decode cX9_readNumber 37 = .ok (.aload_n 0, 1) := by decide +kernel
theorem dX9_readNumber_38 : decode cX9_readNumber 38 = .ok (.iload_n 1, 1) := by decide +kernel
theorem dX9_readNumber_39 : decode cX9_readNumber 39 = .ok (.invokevirtual 40, 3) := by decide +kernel
theorem dX9_readNumber_42 : decode cX9_readNumber 42 = .ok (.iadd, 1) := by decide +kernel
theorem dX9_readNumber_43 : decode cX9_readNumber 43 = .ok (.bipush 48, 2) := by decide +kernel
theorem dX9_readNumber_45 : decode cX9_readNumber 45 = .ok (.isub, 1) := by decide +kernel
theorem dX9_readNumber_46 : decode cX9_readNumber 46 = .ok (.putfield 28, 3) := by decide +kernel
theorem dX9_readNumber_49 : decode cX9_readNumber 49 = .ok (.iinc 1 1, 3) := by decide +kernel
theorem dX9_readNumber_52 : decode cX9_readNumber 52 = .ok (.goto (-42), 3) := by decide +kernel
theorem dX9_readNumber_55 : decode cX9_readNumber 55 = .ok (.aload_n 0, 1) := by decide +kernel
theorem dX9_readNumber_56 : decode cX9_readNumber 56 = .ok (.iload_n 1, 1) := by decide +kernel
theorem dX9_readNumber_57 : decode cX9_readNumber 57 = .ok (.putfield 22, 3) := by decide +kernel
theorem dX9_readNumber_60 : decode cX9_readNumber 60 = .ok (.aload_n 0, 1) := by decide +kernel
theorem dX9_readNumber_61 : decode cX9_readNumber 61 = .ok (.iload_n 1, 1) := by decide +kernel
theorem dX9_readNumber_62 : decode cX9_readNumber 62 = .ok (.aload_n 0, 1) := by decide +kernel
theorem dX9_readNumber_63 : decode cX9_readNumber 63 = .ok (.getfield 19, 3) := by decide +kernel
theorem dX9_readNumber_66 : decode cX9_readNumber 66 = .ok (.isub, 1) := by decide +kernel
theorem dX9_readNumber_67 : decode cX9_readNumber 67 = .ok (.iconst 4, 1) := by decide +kernel
theorem dX9_readNumber_68 : decode cX9_readNumber 68 = .ok (.if_icmp .le 7, 3) := by decide +kernel
theorem dX9_readNumber_71 : decode cX9_readNumber 71 = .ok (.iconst 4, 1) := by decide +kernel
theorem dX9_readNumber_72 : decode cX9_readNumber 72 = .ok (.goto 4, 3) := by decide +kernel
theorem dX9_readNumber_75 : decode cX9_readNumber 75 = .ok (.iconst 2, 1) := by decide +kernel
theorem dX9_readNumber_76 : decode cX9_readNumber 76 = .ok (.putfield 25, 3) := by decide +kernel
theorem dX9_readNumber_79 : decode cX9_readNumber 79 = .ok (.return_, 1) := by decide +kernel
theorem dX9_signAt_0 : decode cX9_signAt 0 = .ok (.iload_n 1, 1) := by decide +kernel
theorem dX9_signAt_1 : decode cX9_signAt 1 = .ok (.ifCond .lt 29, 3) := by decide +kernel
theorem dX9_signAt_4 : decode cX9_signAt 4 = .ok (.iload_n 1, 1) := by decide +kernel
theorem dX9_signAt_5 : decode cX9_signAt 5 = .ok (.aload_n 0, 1) := by decide +kernel
theorem dX9_signAt_6 : decode cX9_signAt 6 = .ok (.getfield 15, 3) := by decide +kernel
theorem dX9_signAt_9 : decode cX9_signAt 9 = .ok (.if_icmp .ge 21, 3) := by decide +kernel
theorem dX9_signAt_12 : decode cX9_signAt 12 = .ok (.iload_n 1, 1) := by decide +kernel
theorem dX9_signAt_13 : decode cX9_signAt 13 = .ok (.aload_n 0, 1) := by decide +kernel
theorem dX9_signAt_14 : decode cX9_signAt 14 = .ok (.getfield 9, 3) := by decide +kernel
theorem dX9_signAt_17 : decode cX9_signAt 17 = .ok (.arraylength, 1) := by decide +kernel
theorem dX9_signAt_18 : decode cX9_signAt 18 = .ok (.if_icmp .ge 12, 3) := by decide +kernel
theorem dX9_signAt_21 : decode cX9_signAt 21 = .ok (.aload_n 0, 1) := by decide +kernel
theorem dX9_signAt_22 : decode cX9_signAt 22 = .ok (.getfield 9, 3) := by decide +kernel
theorem dX9_signAt_25 : decode cX9_signAt 25 = .ok (.iload_n 1, 1) := by decide +kernel
theorem dX9_signAt_26 : decode cX9_signAt 26 = .ok (.caload, 1) := by decide +kernel
theorem dX9_signAt_27 : decode cX9_signAt 27 = .ok (.goto 4, 3) := by decide +kernel
theorem dX9_signAt_30 : decode cX9_signAt 30 = .ok (.iconst 0, 1) := by decide +kernel
theorem dX9_signAt_31 : decode cX9_signAt 31 = .ok (.ireturn, 1) := by decide +kernel
theorem dX9_isBlank_0 : decode cX9_isBlank 0 = .ok (.iload_n 0, 1) := by decide +kernel
theorem dX9_isBlank_1 : decode cX9_isBlank 1 = .ok (.bipush 10, 2) := by decide +kernel
theorem dX9_isBlank_3 : decode cX9_isBlank 3 = .ok (.if_icmp .eq 9, 3) := by decide +kernel
theorem dX9_isBlank_6 : decode cX9_isBlank 6 = .ok (.iload_n 0, 1) := by decide +kernel
theorem dX9_isBlank_7 : decode cX9_isBlank 7 = .ok (.bipush 32, 2) := by decide +kernel
theorem dX9_isBlank_9 : decode cX9_isBlank 9 = .ok (.if_icmp .ne 7, 3) := by decide +kernel
theorem dX9_isBlank_12 : decode cX9_isBlank 12 = .ok (.iconst 1, 1) := by decide +kernel
theorem dX9_isBlank_13 : decode cX9_isBlank 13 = .ok (.goto 4, 3) := by decide +kernel
theorem dX9_isBlank_16 : decode cX9_isBlank 16 = .ok (.iconst 0, 1) := by decide +kernel
theorem dX9_isBlank_17 : decode cX9_isBlank 17 = .ok (.ireturn, 1) := by decide +kernel
theorem dX9_isLetter_0 : decode cX9_isLetter 0 = .ok (.iload_n 0, 1) := by decide +kernel
theorem dX9_isLetter_1 : decode cX9_isLetter 1 = .ok (.bipush 97, 2) := by decide +kernel
theorem dX9_isLetter_3 : decode cX9_isLetter 3 = .ok (.if_icmp .lt 13, 3) := by decide +kernel
theorem dX9_isLetter_6 : decode cX9_isLetter 6 = .ok (.iload_n 0, 1) := by decide +kernel
theorem dX9_isLetter_7 : decode cX9_isLetter 7 = .ok (.bipush 122, 2) := by decide +kernel
theorem dX9_isLetter_9 : decode cX9_isLetter 9 = .ok (.if_icmp .gt 7, 3) := by decide +kernel
theorem dX9_isLetter_12 : decode cX9_isLetter 12 = .ok (.iconst 1, 1) := by decide +kernel
theorem dX9_isLetter_13 : decode cX9_isLetter 13 = .ok (.goto 4, 3) := by decide +kernel
theorem dX9_isLetter_16 : decode cX9_isLetter 16 = .ok (.iconst 0, 1) := by decide +kernel
theorem dX9_isLetter_17 : decode cX9_isLetter 17 = .ok (.ireturn, 1) := by decide +kernel
theorem dX9_isDigit_0 : decode cX9_isDigit 0 = .ok (.iload_n 0, 1) := by decide +kernel
theorem dX9_isDigit_1 : decode cX9_isDigit 1 = .ok (.bipush 48, 2) := by decide +kernel
theorem dX9_isDigit_3 : decode cX9_isDigit 3 = .ok (.if_icmp .lt 13, 3) := by decide +kernel
theorem dX9_isDigit_6 : decode cX9_isDigit 6 = .ok (.iload_n 0, 1) := by decide +kernel
theorem dX9_isDigit_7 : decode cX9_isDigit 7 = .ok (.bipush 57, 2) := by decide +kernel
theorem dX9_isDigit_9 : decode cX9_isDigit 9 = .ok (.if_icmp .gt 7, 3) := by decide +kernel
theorem dX9_isDigit_12 : decode cX9_isDigit 12 = .ok (.iconst 1, 1) := by decide +kernel
theorem dX9_isDigit_13 : decode cX9_isDigit 13 = .ok (.goto 4, 3) := by decide +kernel
theorem dX9_isDigit_16 : decode cX9_isDigit 16 = .ok (.iconst 0, 1) := by decide +kernel
theorem dX9_isDigit_17 : decode cX9_isDigit 17 = .ok (.ireturn, 1) := by decide +kernel
theorem dX9_isSign_0 : decode cX9_isSign 0 = .ok (.iload_n 0, 1) := by decide +kernel
theorem dX9_isSign_1 : decode cX9_isSign 1 = .ok (.bipush 40, 2) := by decide +kernel
theorem dX9_isSign_3 : decode cX9_isSign 3 = .ok (.if_icmp .eq 45, 3) := by decide +kernel
theorem dX9_isSign_6 : decode cX9_isSign 6 = .ok (.iload_n 0, 1) := by decide +kernel
theorem dX9_isSign_7 : decode cX9_isSign 7 = .ok (.bipush 41, 2) := by decide +kernel
theorem dX9_isSign_9 : decode cX9_isSign 9 = .ok (.if_icmp .eq 39, 3) := by decide +kernel
theorem dX9_isSign_12 : decode cX9_isSign 12 = .ok (.iload_n 0, 1) := by decide +kernel
theorem dX9_isSign_13 : decode cX9_isSign 13 = .ok (.bipush 60, 2) := by decide +kernel
theorem dX9_isSign_15 : decode cX9_isSign 15 = .ok (.if_icmp .eq 33, 3) := by decide +kernel
theorem dX9_isSign_18 : decode cX9_isSign 18 = .ok (.iload_n 0, 1) := by decide +kernel
theorem dX9_isSign_19 : decode cX9_isSign 19 = .ok (.bipush 61, 2) := by decide +kernel
theorem dX9_isSign_21 : decode cX9_isSign 21 = .ok (.if_icmp .eq 27, 3) := by decide +kernel
theorem dX9_isSign_24 : decode cX9_isSign 24 = .ok (.iload_n 0, 1) := by decide +kernel
theorem dX9_isSign_25 : decode cX9_isSign 25 = .ok (.bipush 43, 2) := by decide +kernel
theorem dX9_isSign_27 : decode cX9_isSign 27 = .ok (.if_icmp .eq 21, 3) := by decide +kernel
theorem dX9_isSign_30 : decode cX9_isSign 30 = .ok (.iload_n 0, 1) := by decide +kernel
theorem dX9_isSign_31 : decode cX9_isSign 31 = .ok (.bipush 45, 2) := by decide +kernel
theorem dX9_isSign_33 : decode cX9_isSign 33 = .ok (.if_icmp .eq 15, 3) := by decide +kernel
theorem dX9_isSign_36 : decode cX9_isSign 36 = .ok (.iload_n 0, 1) := by decide +kernel
theorem dX9_isSign_37 : decode cX9_isSign 37 = .ok (.bipush 42, 2) := by decide +kernel
theorem dX9_isSign_39 : decode cX9_isSign 39 = .ok (.if_icmp .eq 9, 3) := by decide +kernel
theorem dX9_isSign_42 : decode cX9_isSign 42 = .ok (.iload_n 0, 1) := by decide +kernel
theorem dX9_isSign_43 : decode cX9_isSign 43 = .ok (.bipush 59, 2) := by decide +kernel
theorem dX9_isSign_45 : decode cX9_isSign 45 = .ok (.if_icmp .ne 7, 3) := by decide +kernel
theorem dX9_isSign_48 : decode cX9_isSign 48 = .ok (.iconst 1, 1) := by decide +kernel
theorem dX9_isSign_49 : decode cX9_isSign 49 = .ok (.goto 4, 3) := by decide +kernel
theorem dX9_isSign_52 : decode cX9_isSign 52 = .ok (.iconst 0, 1) := by decide +kernel
theorem dX9_isSign_53 : decode cX9_isSign 53 = .ok (.ireturn, 1) := by decide +kernel
theorem dX9_isWord_0 : decode cX9_isWord 0 = .ok (.aload_n 0, 1) := by decide +kernel
theorem dX9_isWord_1 : decode cX9_isWord 1 = .ok (.getfield 25, 3) := by decide +kernel
theorem dX9_isWord_4 : decode cX9_isWord 4 = .ok (.iconst 1, 1) := by decide +kernel
theorem dX9_isWord_5 : decode cX9_isWord 5 = .ok (.if_icmp .ne 15, 3) := by decide +kernel
theorem dX9_isWord_8 : decode cX9_isWord 8 = .ok (.aload_n 0, 1) := by decide +kernel
theorem dX9_isWord_9 : decode cX9_isWord 9 = .ok (.getfield 28, 3) := by decide +kernel
theorem dX9_isWord_12 : decode cX9_isWord 12 = .ok (.iload_n 1, 1) := by decide +kernel
theorem dX9_isWord_13 : decode cX9_isWord 13 = .ok (.if_icmp .ne 7, 3) := by decide +kernel
theorem dX9_isWord_16 : decode cX9_isWord 16 = .ok (.iconst 1, 1) := by decide +kernel
theorem dX9_isWord_17 : decode cX9_isWord 17 = .ok (.goto 4, 3) := by decide +kernel
theorem dX9_isWord_20 : decode cX9_isWord 20 = .ok (.iconst 0, 1) := by decide +kernel
theorem dX9_isWord_21 : decode cX9_isWord 21 = .ok (.ireturn, 1) := by decide +kernel
theorem dX9_word_0 : decode cX9_word 0 = .ok (.aload_n 0, 1) := by decide +kernel
theorem dX9_word_1 : decode cX9_word 1 = .ok (.getfield 25, 3) := by decide +kernel
theorem dX9_word_4 : decode cX9_word 4 = .ok (.iconst 1, 1) := by decide +kernel
theorem dX9_word_5 : decode cX9_word 5 = .ok (.if_icmp .ne 10, 3) := by decide +kernel
theorem dX9_word_8 : decode cX9_word 8 = .ok (.aload_n 0, 1) := by decide +kernel
theorem dX9_word_9 : decode cX9_word 9 = .ok (.getfield 28, 3) := by decide +kernel
theorem dX9_word_12 : decode cX9_word 12 = .ok (.goto 4, 3) := by decide +kernel
theorem dX9_word_15 : decode cX9_word 15 = .ok (.iconst (-1), 1) := by decide +kernel
theorem dX9_word_16 : decode cX9_word 16 = .ok (.ireturn, 1) := by decide +kernel
theorem dX9_isSignOf_0 : decode cX9_isSignOf 0 = .ok (.aload_n 0, 1) := by decide +kernel
theorem dX9_isSignOf_1 : decode cX9_isSignOf 1 = .ok (.getfield 25, 3) := by decide +kernel
theorem dX9_isSignOf_4 : decode cX9_isSignOf 4 = .ok (.iconst 3, 1) := by decide +kernel
theorem dX9_isSignOf_5 : decode cX9_isSignOf 5 = .ok (.if_icmp .ne 15, 3) := by decide +kernel
theorem dX9_isSignOf_8 : decode cX9_isSignOf 8 = .ok (.aload_n 0, 1) := by decide +kernel
theorem dX9_isSignOf_9 : decode cX9_isSignOf 9 = .ok (.getfield 28, 3) := by decide +kernel
theorem dX9_isSignOf_12 : decode cX9_isSignOf 12 = .ok (.iload_n 1, 1) := by decide +kernel
theorem dX9_isSignOf_13 : decode cX9_isSignOf 13 = .ok (.if_icmp .ne 7, 3) := by decide +kernel
theorem dX9_isSignOf_16 : decode cX9_isSignOf 16 = .ok (.iconst 1, 1) := by decide +kernel
theorem dX9_isSignOf_17 : decode cX9_isSignOf 17 = .ok (.goto 4, 3) := by decide +kernel
theorem dX9_isSignOf_20 : decode cX9_isSignOf 20 = .ok (.iconst 0, 1) := by decide +kernel
theorem dX9_isSignOf_21 : decode cX9_isSignOf 21 = .ok (.ireturn, 1) := by decide +kernel
theorem dX9_isName_0 : decode cX9_isName 0 = .ok (.aload_n 0, 1) := by decide +kernel
theorem dX9_isName_1 : decode cX9_isName 1 = .ok (.getfield 25, 3) := by decide +kernel
theorem dX9_isName_4 : decode cX9_isName 4 = .ok (.iconst 1, 1) := by decide +kernel
theorem dX9_isName_5 : decode cX9_isName 5 = .ok (.if_icmp .ne 24, 3) := by decide +kernel
theorem dX9_isName_8 : decode cX9_isName 8 = .ok (.aload_n 0, 1) := by decide +kernel
theorem dX9_isName_9 : decode cX9_isName 9 = .ok (.getfield 28, 3) := by decide +kernel
theorem dX9_isName_12 : decode cX9_isName 12 = .ok (.iconst (-1), 1) := by decide +kernel
theorem dX9_isName_13 : decode cX9_isName 13 = .ok (.if_icmp .eq 12, 3) := by decide +kernel
theorem dX9_isName_16 : decode cX9_isName 16 = .ok (.aload_n 0, 1) := by decide +kernel
theorem dX9_isName_17 : decode cX9_isName 17 = .ok (.getfield 28, 3) := by decide +kernel
theorem dX9_isName_20 : decode cX9_isName 20 = .ok (.bipush 18, 2) := by decide +kernel
theorem dX9_isName_22 : decode cX9_isName 22 = .ok (.if_icmp .le 7, 3) := by decide +kernel
theorem dX9_isName_25 : decode cX9_isName 25 = .ok (.iconst 1, 1) := by decide +kernel
theorem dX9_isName_26 : decode cX9_isName 26 = .ok (.goto 4, 3) := by decide +kernel
theorem dX9_isName_29 : decode cX9_isName 29 = .ok (.iconst 0, 1) := by decide +kernel
theorem dX9_isName_30 : decode cX9_isName 30 = .ok (.ireturn, 1) := by decide +kernel
theorem dX9_isFact_0 : decode cX9_isFact 0 = .ok (.aload_n 0, 1) := by decide +kernel
theorem dX9_isFact_1 : decode cX9_isFact 1 = .ok (.getfield 25, 3) := by decide +kernel
theorem dX9_isFact_4 : decode cX9_isFact 4 = .ok (.iconst 1, 1) := by decide +kernel
theorem dX9_isFact_5 : decode cX9_isFact 5 = .ok (.if_icmp .ne 25, 3) := by decide +kernel
theorem dX9_isFact_8 : decode cX9_isFact 8 = .ok (.aload_n 0, 1) := by decide +kernel
theorem dX9_isFact_9 : decode cX9_isFact 9 = .ok (.getfield 28, 3) := by decide +kernel
theorem dX9_isFact_12 : decode cX9_isFact 12 = .ok (.bipush 19, 2) := by decide +kernel
theorem dX9_isFact_14 : decode cX9_isFact 14 = .ok (.if_icmp .lt 16, 3) := by decide +kernel
theorem dX9_isFact_17 : decode cX9_isFact 17 = .ok (.aload_n 0, 1) := by decide +kernel
theorem dX9_isFact_18 : decode cX9_isFact 18 = .ok (.getfield 28, 3) := by decide +kernel
theorem dX9_isFact_21 : decode cX9_isFact 21 = .ok (.bipush 22, 2) := by decide +kernel
theorem dX9_isFact_23 : decode cX9_isFact 23 = .ok (.if_icmp .gt 7, 3) := by decide +kernel
theorem dX9_isFact_26 : decode cX9_isFact 26 = .ok (.iconst 1, 1) := by decide +kernel
theorem dX9_isFact_27 : decode cX9_isFact 27 = .ok (.goto 4, 3) := by decide +kernel
theorem dX9_isFact_30 : decode cX9_isFact 30 = .ok (.iconst 0, 1) := by decide +kernel
theorem dX9_isFact_31 : decode cX9_isFact 31 = .ok (.ireturn, 1) := by decide +kernel
theorem dX10_init_0 : decode cX10_init 0 = .ok (.aload_n 0, 1) := by decide +kernel
theorem dX10_init_1 : decode cX10_init 1 = .ok (.invokespecial 1, 3) := by decide +kernel
theorem dX10_init_4 : decode cX10_init 4 = .ok (.aload_n 0, 1) := by decide +kernel
theorem dX10_init_5 : decode cX10_init 5 = .ok (.new 7, 3) := by decide +kernel
theorem dX10_init_8 : decode cX10_init 8 = .ok (.dup, 1) := by decide +kernel
theorem dX10_init_9 : decode cX10_init 9 = .ok (.invokespecial 9, 3) := by decide +kernel
theorem dX10_init_12 : decode cX10_init 12 = .ok (.putfield 10, 3) := by decide +kernel
theorem dX10_init_15 : decode cX10_init 15 = .ok (.aload_n 0, 1) := by decide +kernel
theorem dX10_init_16 : decode cX10_init 16 = .ok (.new 16, 3) := by decide +kernel
theorem dX10_init_19 : decode cX10_init 19 = .ok (.dup, 1) := by decide +kernel
theorem dX10_init_20 : decode cX10_init 20 = .ok (.invokespecial 18, 3) := by decide +kernel
theorem dX10_init_23 : decode cX10_init 23 = .ok (.putfield 19, 3) := by decide +kernel
theorem dX10_init_26 : decode cX10_init 26 = .ok (.aload_n 0, 1) := by decide +kernel
theorem dX10_init_27 : decode cX10_init 27 = .ok (.new 16, 3) := by decide +kernel
theorem dX10_init_30 : decode cX10_init 30 = .ok (.dup, 1) := by decide +kernel
theorem dX10_init_31 : decode cX10_init 31 = .ok (.invokespecial 18, 3) := by decide +kernel
theorem dX10_init_34 : decode cX10_init 34 = .ok (.putfield 23, 3) := by decide +kernel
theorem dX10_init_37 : decode cX10_init 37 = .ok (.aload_n 0, 1) := by decide +kernel
theorem dX10_init_38 : decode cX10_init 38 = .ok (.new 26, 3) := by decide +kernel
theorem dX10_init_41 : decode cX10_init 41 = .ok (.dup, 1) := by decide +kernel
theorem dX10_init_42 : decode cX10_init 42 = .ok (.invokespecial 28, 3) := by decide +kernel
theorem dX10_init_45 : decode cX10_init 45 = .ok (.putfield 29, 3) := by decide +kernel
theorem dX10_init_48 : decode cX10_init 48 = .ok (.aload_n 0, 1) := by decide +kernel
theorem dX10_init_49 : decode cX10_init 49 = .ok (.new 26, 3) := by decide +kernel
theorem dX10_init_52 : decode cX10_init 52 = .ok (.dup, 1) := by decide +kernel
theorem dX10_init_53 : decode cX10_init 53 = .ok (.invokespecial 28, 3) := by decide +kernel
theorem dX10_init_56 : decode cX10_init 56 = .ok (.putfield 33, 3) := by decide +kernel
theorem dX10_init_59 : decode cX10_init 59 = .ok (.aload_n 0, 1) := by decide +kernel
theorem dX10_init_60 : decode cX10_init 60 = .ok (.new 36, 3) := by decide +kernel
theorem dX10_init_63 : decode cX10_init 63 = .ok (.dup, 1) := by decide +kernel
theorem dX10_init_64 : decode cX10_init 64 = .ok (.invokespecial 38, 3) := by decide +kernel
theorem dX10_init_67 : decode cX10_init 67 = .ok (.putfield 39, 3) := by decide +kernel
theorem dX10_init_70 : decode cX10_init 70 = .ok (.aload_n 0, 1) := by decide +kernel
theorem dX10_init_71 : decode cX10_init 71 = .ok (.new 43, 3) := by decide +kernel
theorem dX10_init_74 : decode cX10_init 74 = .ok (.dup, 1) := by decide +kernel
theorem dX10_init_75 : decode cX10_init 75 = .ok (.invokespecial 45, 3) := by decide +kernel
theorem dX10_init_78 : decode cX10_init 78 = .ok (.putfield 46, 3) := by decide +kernel
theorem dX10_init_81 : decode cX10_init 81 = .ok (.aload_n 0, 1) := by decide +kernel
theorem dX10_init_82 : decode cX10_init 82 = .ok (.new 50, 3) := by decide +kernel
theorem dX10_init_85 : decode cX10_init 85 = .ok (.dup, 1) := by decide +kernel
theorem dX10_init_86 : decode cX10_init 86 = .ok (.invokespecial 52, 3) := by decide +kernel
theorem dX10_init_89 : decode cX10_init 89 = .ok (.putfield 53, 3) := by decide +kernel
theorem dX10_init_92 : decode cX10_init 92 = .ok (.aload_n 0, 1) := by decide +kernel
theorem dX10_init_93 : decode cX10_init 93 = .ok (.bipush 16, 2) := by decide +kernel
theorem dX10_init_95 : decode cX10_init 95 = .ok (.anewarray 36, 3) := by decide +kernel
theorem dX10_init_98 : decode cX10_init 98 = .ok (.putfield 57, 3) := by decide +kernel
theorem dX10_init_101 : decode cX10_init 101 = .ok (.aload_n 0, 1) := by decide +kernel

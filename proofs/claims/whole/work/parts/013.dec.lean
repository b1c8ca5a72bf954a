theorem dX11_audience_87 : decode cX11_audience 87 = .ok (.invokestatic 376, 3) := by decide +kernel
theorem dX11_audience_90 : decode cX11_audience 90 = .ok (.iload_n 3, 1) := by decide +kernel
theorem dX11_audience_91 : decode cX11_audience 91 = .ok (.ireturn, 1) := by decide +kernel
theorem dX11_holds_0 : decode cX11_holds 0 = .ok (.aload_n 0, 1) := by decide +kernel
theorem dX11_holds_1 : decode cX11_holds 1 = .ok (.aload_n 0, 1) := by decide +kernel
theorem dX11_holds_2 : decode cX11_holds 2 = .ok (.getfield 13, 3) := by decide +kernel
theorem dX11_holds_5 : decode cX11_holds 5 = .ok (.iconst 2, 1) := by decide +kernel
theorem dX11_holds_6 : decode cX11_holds 6 = .ok (.iaload, 1) := by decide +kernel
theorem dX11_holds_7 : decode cX11_holds 7 = .ok (.putfield 117, 3) := by decide +kernel
theorem dX11_holds_10 : decode cX11_holds 10 = .ok (.aload_n 0, 1) := by decide +kernel
theorem dX11_holds_11 : decode cX11_holds 11 = .ok (.getfield 93, 3) := by decide +kernel
theorem dX11_holds_14 : decode cX11_holds 14 = .ok (.iconst 0, 1) := by decide +kernel
theorem dX11_holds_15 : decode cX11_holds 15 = .ok (.aload_n 0, 1) := by decide +kernel
theorem dX11_holds_16 : decode cX11_holds 16 = .ok (.getfield 99, 3) := by decide +kernel
theorem dX11_holds_19 : decode cX11_holds 19 = .ok (.iconst 0, 1) := by decide +kernel
theorem dX11_holds_20 : decode cX11_holds 20 = .ok (.invokestatic 376, 3) := by decide +kernel
theorem dX11_holds_23 : decode cX11_holds 23 = .ok (.iconst 0, 1) := by decide +kernel
theorem dX11_holds_24 : decode cX11_holds 24 = .ok (.istore_n 2, 1) := by decide +kernel
theorem dX11_holds_25 : decode cX11_holds 25 = .ok (.iload_n 2, 1) := by decide +kernel
theorem dX11_holds_26 : decode cX11_holds 26 = .ok (.iload_n 1, 1) := by decide +kernel
theorem dX11_holds_27 : decode cX11_holds 27 = .ok (.if_icmp .ge 13, 3) := by decide +kernel
theorem dX11_holds_30 : decode cX11_holds 30 = .ok (.aload_n 0, 1) := by decide +kernel
theorem dX11_holds_31 : decode cX11_holds 31 = .ok (.invokevirtual 392, 3) := by decide +kernel
theorem dX11_holds_34 : decode cX11_holds 34 = .ok (.iinc 2 1, 3) := by decide +kernel
theorem dX11_holds_37 : decode cX11_holds 37 = .ok (.goto (-12), 3) := by decide +kernel
theorem dX11_holds_40 : decode cX11_holds 40 = .ok (.aload_n 0, 1) := by decide +kernel
theorem dX11_holds_41 : decode cX11_holds 41 = .ok (.getfield 99, 3) := by decide +kernel
theorem dX11_holds_44 : decode cX11_holds 44 = .ok (.iconst 0, 1) := by decide +kernel
theorem dX11_holds_45 : decode cX11_holds 45 = .ok (.aload_n 0, 1) := by decide +kernel
theorem dX11_holds_46 : decode cX11_holds 46 = .ok (.getfield 93, 3) := by decide +kernel
theorem dX11_holds_49 : decode cX11_holds 49 = .ok (.iconst 0, 1) := by decide +kernel
theorem dX11_holds_50 : decode cX11_holds 50 = .ok (.invokestatic 376, 3) := by decide +kernel
theorem dX11_holds_53 : decode cX11_holds 53 = .ok (.return_, 1) := by decide +kernel
theorem dX11_burnt_0 : decode cX11_burnt 0 = .ok (.aload_n 0, 1) := by decide +kernel
theorem dX11_burnt_1 : decode cX11_burnt 1 = .ok (.iconst 0, 1) := by decide +kernel
theorem dX11_burnt_2 : decode cX11_burnt 2 = .ok (.putfield 137, 3) := by decide +kernel
theorem dX11_burnt_5 : decode cX11_burnt 5 = .ok (.iload_n 1, 1) := by decide +kernel
theorem dX11_burnt_6 : decode cX11_burnt 6 = .ok (.iconst 1, 1) := by decide +kernel
theorem dX11_burnt_7 : decode cX11_burnt 7 = .ok (.bipush 12, 2) := by decide +kernel
theorem dX11_burnt_9 : decode cX11_burnt 9 = .ok (.invokestatic 254, 3) := by decide +kernel
theorem dX11_burnt_12 : decode cX11_burnt 12 = .ok (.ifCond .ne 5, 3) := by decide +kernel
theorem dX11_burnt_15 : decode cX11_burnt 15 = .ok (.iconst (-1), 1) := by decide +kernel
theorem dX11_burnt_16 : decode cX11_burnt 16 = .ok (.ireturn, 1) := by decide +kernel
theorem dX11_burnt_17 : decode cX11_burnt 17 = .ok (.aload_n 0, 1) := by decide +kernel
theorem dX11_burnt_18 : decode cX11_burnt 18 = .ok (.iload_n 1, 1) := by decide +kernel
theorem dX11_burnt_19 : decode cX11_burnt 19 = .ok (.invokevirtual 410, 3) := by decide +kernel
theorem dX11_burnt_22 : decode cX11_burnt 22 = .ok (.aload_n 0, 1) := by decide +kernel
theorem dX11_burnt_23 : decode cX11_burnt 23 = .ok (.getfield 354, 3) := by decide +kernel
theorem dX11_burnt_26 : decode cX11_burnt 26 = .ok (.ireturn, 1) := by decide +kernel
theorem dX11_crowd_0 : decode cX11_crowd 0 = .ok (.aload_n 0, 1) := by decide +kernel
theorem dX11_crowd_1 : decode cX11_crowd 1 = .ok (.iconst 0, 1) := by decide +kernel
theorem dX11_crowd_2 : decode cX11_crowd 2 = .ok (.putfield 137, 3) := by decide +kernel
theorem dX11_crowd_5 : decode cX11_crowd 5 = .ok (.iload_n 1, 1) := by decide +kernel
theorem dX11_crowd_6 : decode cX11_crowd 6 = .ok (.iconst 1, 1) := by decide +kernel
theorem dX11_crowd_7 : decode cX11_crowd 7 = .ok (.bipush 12, 2) := by decide +kernel
theorem dX11_crowd_9 : decode cX11_crowd 9 = .ok (.invokestatic 254, 3) := by decide +kernel
theorem dX11_crowd_12 : decode cX11_crowd 12 = .ok (.ifCond .ne 5, 3) := by decide +kernel
theorem dX11_crowd_15 : decode cX11_crowd 15 = .ok (.iconst (-1), 1) := by decide +kernel
theorem dX11_crowd_16 : decode cX11_crowd 16 = .ok (.ireturn, 1) := by decide +kernel
theorem dX11_crowd_17 : decode cX11_crowd 17 = .ok (.aload_n 0, 1) := by decide +kernel
theorem dX11_crowd_18 : decode cX11_crowd 18 = .ok (.iload_n 1, 1) := by decide +kernel
theorem dX11_crowd_19 : decode cX11_crowd 19 = .ok (.invokevirtual 410, 3) := by decide +kernel
theorem dX11_crowd_22 : decode cX11_crowd 22 = .ok (.aload_n 0, 1) := by decide +kernel
theorem dX11_crowd_23 : decode cX11_crowd 23 = .ok (.getfield 351, 3) := by decide +kernel
theorem dX11_crowd_26 : decode cX11_crowd 26 = .ok (.ireturn, 1) := by decide +kernel
theorem dX11_exchange_0 : decode cX11_exchange 0 = .ok (.aload_n 0, 1) := by decide +kernel
theorem dX11_exchange_1 : decode cX11_exchange 1 = .ok (.iconst 0, 1) := by decide +kernel
theorem dX11_exchange_2 : decode cX11_exchange 2 = .ok (.putfield 137, 3) := by decide +kernel
theorem dX11_exchange_5 : decode cX11_exchange 5 = .ok (.aload_n 0, 1) := by decide +kernel
theorem dX11_exchange_6 : decode cX11_exchange 6 = .ok (.iload_n 1, 1) := by decide +kernel
theorem dX11_exchange_7 : decode cX11_exchange 7 = .ok (.invokevirtual 373, 3) := by decide +kernel
theorem dX11_exchange_10 : decode cX11_exchange 10 = .ok (.ifCond .eq 32, 3) := by decide +kernel
theorem dX11_exchange_13 : decode cX11_exchange 13 = .ok (.aload_n 0, 1) := by decide +kernel
theorem dX11_exchange_14 : decode cX11_exchange 14 = .ok (.iload_n 2, 1) := by decide +kernel
theorem dX11_exchange_15 : decode cX11_exchange 15 = .ok (.invokevirtual 373, 3) := by decide +kernel
theorem dX11_exchange_18 : decode cX11_exchange 18 = .ok (.ifCond .eq 24, 3) := by decide +kernel
theorem dX11_exchange_21 : decode cX11_exchange 21 = .ok (.iload_n 1, 1) := by decide +kernel
theorem dX11_exchange_22 : decode cX11_exchange 22 = .ok (.iload_n 2, 1) := by decide +kernel
theorem dX11_exchange_23 : decode cX11_exchange 23 = .ok (.if_icmp .eq 19, 3) := by decide +kernel
theorem dX11_exchange_26 : decode cX11_exchange 26 = .ok (.aload_n 0, 1) := by decide +kernel
theorem dX11_exchange_27 : decode cX11_exchange 27 = .ok (.iload_n 1, 1) := by decide +kernel
theorem dX11_exchange_28 : decode cX11_exchange 28 = .ok (.invokevirtual 324, 3) := by decide +kernel
theorem dX11_exchange_31 : decode cX11_exchange 31 = .ok (.ifCond .lt 11, 3) := by decide +kernel
theorem dX11_exchange_34 : decode cX11_exchange 34 = .ok (.aload_n 0, 1) := by decide +kernel
theorem dX11_exchange_35 : decode cX11_exchange 35 = .ok (.iload_n 2, 1) := by decide +kernel
theorem dX11_exchange_36 : decode cX11_exchange 36 = .ok (.invokevirtual 324, 3) := by decide +kernel
theorem dX11_exchange_39 : decode cX11_exchange 39 = .ok (.ifCond .ge 5, 3) := by decide +kernel
theorem dX11_exchange_42 : decode cX11_exchange 42 = .ok (.iconst (-1), 1) := by decide +kernel
theorem dX11_exchange_43 : decode cX11_exchange 43 = .ok (.ireturn, 1) := by decide +kernel
theorem dX11_exchange_44 : decode cX11_exchange 44 = .ok (.aload_n 0, 1) := by decide +kernel
theorem dX11_exchange_45 : decode cX11_exchange 45 = .ok (.aload_n 0, 1) := by decide +kernel
theorem dX11_exchange_46 : decode cX11_exchange 46 = .ok (.getfield 13, 3) := by decide +kernel
theorem dX11_exchange_49 : decode cX11_exchange 49 = .ok (.iconst 2, 1) := by decide +kernel
theorem dX11_exchange_50 : decode cX11_exchange 50 = .ok (.iaload, 1) := by decide +kernel
theorem dX11_exchange_51 : decode cX11_exchange 51 = .ok (.putfield 117, 3) := by decide +kernel
theorem dX11_exchange_54 : decode cX11_exchange 54 = .ok (.aload_n 0, 1) := by decide +kernel
theorem dX11_exchange_55 : decode cX11_exchange 55 = .ok (.getfield 93, 3) := by decide +kernel
theorem dX11_exchange_58 : decode cX11_exchange 58 = .ok (.iconst 0, 1) := by decide +kernel
theorem dX11_exchange_59 : decode cX11_exchange 59 = .ok (.aload_n 0, 1) := by decide +kernel
theorem dX11_exchange_60 : decode cX11_exchange 60 = .ok (.getfield 99, 3) := by decide +kernel
theorem dX11_exchange_63 : decode cX11_exchange 63 = .ok (.iconst 0, 1) := by decide +kernel
theorem dX11_exchange_64 : decode cX11_exchange 64 = .ok (.invokestatic 376, 3) := by decide +kernel
theorem dX11_exchange_67 : decode cX11_exchange 67 = .ok (.aload_n 0, 1) := by decide +kernel
theorem dX11_exchange_68 : decode cX11_exchange 68 = .ok (.getfield 93, 3) := by decide +kernel
theorem dX11_exchange_71 : decode cX11_exchange 71 = .ok (.iconst 3, 1) := by decide +kernel
theorem dX11_exchange_72 : decode cX11_exchange 72 = .ok (.iaload, 1) := by decide +kernel
theorem dX11_exchange_73 : decode cX11_exchange 73 = .ok (.istore_n 3, 1) := by decide +kernel
theorem dX11_exchange_74 : decode cX11_exchange 74 = .ok (.aload_n 0, 1) := by decide +kernel
theorem dX11_exchange_75 : decode cX11_exchange 75 = .ok (.iload_n 1, 1) := by decide +kernel
theorem dX11_exchange_76 : decode cX11_exchange 76 = .ok (.invokevirtual 324, 3) := by decide +kernel
theorem dX11_exchange_79 : decode cX11_exchange 79 = .ok (.istore 4, 2) := by decide +kernel
theorem dX11_exchange_81 : decode cX11_exchange 81 = .ok (.aload_n 0, 1) := by decide +kernel
theorem dX11_exchange_82 : decode cX11_exchange 82 = .ok (.iload_n 2, 1) := by decide +kernel
theorem dX11_exchange_83 : decode cX11_exchange 83 = .ok (.invokevirtual 324, 3) := by decide +kernel
theorem dX11_exchange_86 : decode cX11_exchange 86 = .ok (.istore 5, 2) := by decide +kernel
theorem dX11_exchange_88 : decode cX11_exchange 88 = .ok (.aload_n 0, 1) := by decide +kernel
theorem dX11_exchange_89 : decode cX11_exchange 89 = .ok (.getfield 93, 3) := by decide +kernel
theorem dX11_exchange_92 : decode cX11_exchange 92 = .ok (.iconst 4, 1) := by decide +kernel
theorem dX11_exchange_93 : decode cX11_exchange 93 = .ok (.iload 4, 2) := by decide +kernel
theorem dX11_exchange_95 : decode cX11_exchange 95 = .ok (.iadd, 1) := by decide +kernel
theorem dX11_exchange_96 : decode cX11_exchange 96 = .ok (.iload_n 2, 1) := by decide +kernel
theorem dX11_exchange_97 : decode cX11_exchange 97 = .ok (.iastore, 1) := by decide +kernel
theorem dX11_exchange_98 : decode cX11_exchange 98 = .ok (.aload_n 0, 1) := by decide +kernel
theorem dX11_exchange_99 : decode cX11_exchange 99 = .ok (.getfield 93, 3) := by decide +kernel
theorem dX11_exchange_102 : decode cX11_exchange 102 = .ok (.iconst 4, 1) := by decide +kernel
theorem dX11_exchange_103 : decode cX11_exchange 103 = .ok (.iload 5, 2) := by decide +kernel
theorem dX11_exchange_105 : decode cX11_exchange 105 = .ok (.iadd, 1) := by decide +kernel
theorem dX11_exchange_106 : decode cX11_exchange 106 = .ok (.iload_n 1, 1) := by decide +kernel
theorem dX11_exchange_107 : decode cX11_exchange 107 = .ok (.iastore, 1) := by decide +kernel
theorem dX11_exchange_108 : decode cX11_exchange 108 = .ok (.aload_n 0, 1) := by decide +kernel
theorem dX11_exchange_109 : decode cX11_exchange 109 = .ok (.invokevirtual 392, 3) := by decide +kernel
theorem dX11_exchange_112 : decode cX11_exchange 112 = .ok (.aload_n 0, 1) := by decide +kernel
theorem dX11_exchange_113 : decode cX11_exchange 113 = .ok (.getfield 93, 3) := by decide +kernel
theorem dX11_exchange_116 : decode cX11_exchange 116 = .ok (.iconst 3, 1) := by decide +kernel
theorem dX11_exchange_117 : decode cX11_exchange 117 = .ok (.iaload, 1) := by decide +kernel
theorem dX11_exchange_118 : decode cX11_exchange 118 = .ok (.iload_n 3, 1) := by decide +kernel
theorem dX11_exchange_119 : decode cX11_exchange 119 = .ok (.iconst (-1), 1) := by decide +kernel
theorem dX11_exchange_120 : decode cX11_exchange 120 = .ok (.ixor, 1) := by decide +kernel
theorem dX11_exchange_121 : decode cX11_exchange 121 = .ok (.iand, 1) := by decide +kernel
theorem dX11_exchange_122 : decode cX11_exchange 122 = .ok (.istore 6, 2) := by decide +kernel
theorem dX11_exchange_124 : decode cX11_exchange 124 = .ok (.aload_n 0, 1) := by decide +kernel
theorem dX11_exchange_125 : decode cX11_exchange 125 = .ok (.getfield 99, 3) := by decide +kernel
theorem dX11_exchange_128 : decode cX11_exchange 128 = .ok (.iconst 0, 1) := by decide +kernel
theorem dX11_exchange_129 : decode cX11_exchange 129 = .ok (.aload_n 0, 1) := by decide +kernel
theorem dX11_exchange_130 : decode cX11_exchange 130 = .ok (.getfield 93, 3) := by decide +kernel
theorem dX11_exchange_133 : decode cX11_exchange 133 = .ok (.iconst 0, 1) := by decide +kernel
theorem dX11_exchange_134 : decode cX11_exchange 134 = .ok (.invokestatic 376, 3) := by decide +kernel
theorem dX11_exchange_137 : decode cX11_exchange 137 = .ok (.iload 6, 2) := by decide +kernel
theorem dX11_exchange_139 : decode cX11_exchange 139 = .ok (.ireturn, 1) := by decide +kernel
theorem dX11_need_0 : decode cX11_need 0 = .ok (.aload_n 0, 1) := by decide +kernel
theorem dX11_need_1 : decode cX11_need 1 = .ok (.iconst 0, 1) := by decide +kernel
theorem dX11_need_2 : decode cX11_need 2 = .ok (.putfield 137, 3) := by decide +kernel
theorem dX11_need_5 : decode cX11_need 5 = .ok (.aload_n 0, 1) := by decide +kernel
theorem dX11_need_6 : decode cX11_need 6 = .ok (.iload_n 1, 1) := by decide +kernel
theorem dX11_need_7 : decode cX11_need 7 = .ok (.invokevirtual 373, 3) := by decide +kernel
theorem dX11_need_10 : decode cX11_need 10 = .ok (.ifCond .eq 11, 3) := by decide +kernel
theorem dX11_need_13 : decode cX11_need 13 = .ok (.aload_n 0, 1) := by decide +kernel
theorem dX11_need_14 : decode cX11_need 14 = .ok (.iload_n 1, 1) := by decide +kernel
theorem dX11_need_15 : decode cX11_need 15 = .ok (.invokevirtual 324, 3) := by decide +kernel
theorem dX11_need_18 : decode cX11_need 18 = .ok (.ifCond .ge 5, 3) := by decide +kernel
theorem dX11_need_21 : decode cX11_need 21 = .ok (.iconst (-1), 1) := by decide +kernel
theorem dX11_need_22 : decode cX11_need 22 = .ok (.ireturn, 1) := by decide +kernel
theorem dX11_need_23 : decode cX11_need 23 = .ok (.aload_n 0, 1) := by decide +kernel
theorem dX11_need_24 : decode cX11_need 24 = .ok (.getfield 93, 3) := by decide +kernel
theorem dX11_need_27 : decode cX11_need 27 = .ok (.iconst 0, 1) := by decide +kernel
theorem dX11_need_28 : decode cX11_need 28 = .ok (.aload_n 0, 1) := by decide +kernel
theorem dX11_need_29 : decode cX11_need 29 = .ok (.getfield 99, 3) := by decide +kernel
theorem dX11_need_32 : decode cX11_need 32 = .ok (.iconst 0, 1) := by decide +kernel
theorem dX11_need_33 : decode cX11_need 33 = .ok (.invokestatic 376, 3) := by decide +kernel
theorem dX11_need_36 : decode cX11_need 36 = .ok (.iconst (-1), 1) := by decide +kernel
theorem dX11_need_37 : decode cX11_need 37 = .ok (.istore_n 2, 1) := by decide +kernel
theorem dX11_need_38 : decode cX11_need 38 = .ok (.iconst 1, 1) := by decide +kernel
theorem dX11_need_39 : decode cX11_need 39 = .ok (.istore_n 3, 1) := by decide +kernel
theorem dX11_need_40 : decode cX11_need 40 = .ok (.iload_n 3, 1) := by decide +kernel
theorem dX11_need_41 : decode cX11_need 41 = .ok (.bipush 100, 2) := by decide +kernel
theorem dX11_need_43 : decode cX11_need 43 = .ok (.if_icmp .ge 45, 3) := by decide +kernel
theorem dX11_need_46 : decode cX11_need 46 = .ok (.iload_n 2, 1) := by decide +kernel
theorem dX11_need_47 : decode cX11_need 47 = .ok (.ifCond .ge 41, 3) := by decide +kernel
theorem dX11_need_50 : decode cX11_need 50 = .ok (.aload_n 0, 1) := by decide +kernel
theorem dX11_need_51 : decode cX11_need 51 = .ok (.iload_n 3, 1) := by decide +kernel
theorem dX11_need_52 : decode cX11_need 52 = .ok (.putfield 117, 3) := by decide +kernel
theorem dX11_need_55 : decode cX11_need 55 = .ok (.aload_n 0, 1) := by decide +kernel
theorem dX11_need_56 : decode cX11_need 56 = .ok (.invokevirtual 392, 3) := by decide +kernel
theorem dX11_need_59 : decode cX11_need 59 = .ok (.aload_n 0, 1) := by decide +kernel
theorem dX11_need_60 : decode cX11_need 60 = .ok (.iload_n 1, 1) := by decide +kernel
theorem dX11_need_61 : decode cX11_need 61 = .ok (.invokevirtual 327, 3) := by decide +kernel
theorem dX11_need_64 : decode cX11_need 64 = .ok (.ifCond .eq 5, 3) := by decide +kernel
theorem dX11_need_67 : decode cX11_need 67 = .ok (.iload_n 3, 1) := by decide +kernel
theorem dX11_need_68 : decode cX11_need 68 = .ok (.istore_n 2, 1) := by decide +kernel
theorem dX11_need_69 : decode cX11_need 69 = .ok (.aload_n 0, 1) := by decide +kernel
theorem dX11_need_70 : decode cX11_need 70 = .ok (.getfield 99, 3) := by decide +kernel
theorem dX11_need_73 : decode cX11_need 73 = .ok (.iconst 0, 1) := by decide +kernel
theorem dX11_need_74 : decode cX11_need 74 = .ok (.aload_n 0, 1) := by decide +kernel
theorem dX11_need_75 : decode cX11_need 75 = .ok (.getfield 93, 3) := by decide +kernel
theorem dX11_need_78 : decode cX11_need 78 = .ok (.iconst 0, 1) := by decide +kernel
theorem dX11_need_79 : decode cX11_need 79 = .ok (.invokestatic 376, 3) := by decide +kernel
theorem dX11_need_82 : decode cX11_need 82 = .ok (.iinc 3 1, 3) := by decide +kernel
theorem dX11_need_85 : decode cX11_need 85 = .ok (.goto (-45), 3) := by decide +kernel
theorem dX11_need_88 : decode cX11_need 88 = .ok (.iload_n 2, 1) := by decide +kernel
theorem dX11_need_89 : decode cX11_need 89 = .ok (.ireturn, 1) := by decide +kernel
theorem dX11_orders_0 : decode cX11_orders 0 = .ok (.iload_n 2, 1) := by decide +kernel
theorem dX11_orders_1 : decode cX11_orders 1 = .ok (.ifCond .ne 132, 3) := by decide +kernel
theorem dX11_orders_4 : decode cX11_orders 4 = .ok (.aload_n 0, 1) := by decide +kernel
theorem dX11_orders_5 : decode cX11_orders 5 = .ok (.getfield 93, 3) := by decide +kernel
theorem dX11_orders_8 : decode cX11_orders 8 = .ok (.iconst 0, 1) := by decide +kernel
theorem dX11_orders_9 : decode cX11_orders 9 = .ok (.aload_n 0, 1) := by decide +kernel
theorem dX11_orders_10 : decode cX11_orders 10 = .ok (.getfield 99, 3) := by decide +kernel
theorem dX11_orders_13 : decode cX11_orders 13 = .ok (.iconst 0, 1) := by decide +kernel
theorem dX11_orders_14 : decode cX11_orders 14 = .ok (.invokestatic 376, 3) := by decide +kernel
theorem dX11_orders_17 : decode cX11_orders 17 = .ok (.iconst 0, 1) := by decide +kernel
theorem dX11_orders_18 : decode cX11_orders 18 = .ok (.istore 4, 2) := by decide +kernel
theorem dX11_orders_20 : decode cX11_orders 20 = .ok (.iload 4, 2) := by decide +kernel
theorem dX11_orders_22 : decode cX11_orders 22 = .ok (.iload_n 1, 1) := by decide +kernel
theorem dX11_orders_23 : decode cX11_orders 23 = .ok (.if_icmp .ge 20, 3) := by decide +kernel
theorem dX11_orders_26 : decode cX11_orders 26 = .ok (.aload_n 0, 1) := by decide +kernel
theorem dX11_orders_27 : decode cX11_orders 27 = .ok (.aload_n 0, 1) := by decide +kernel
theorem dX11_orders_28 : decode cX11_orders 28 = .ok (.getfield 121, 3) := by decide +kernel
theorem dX11_orders_31 : decode cX11_orders 31 = .ok (.iload 4, 2) := by decide +kernel
theorem dX11_orders_33 : decode cX11_orders 33 = .ok (.iaload, 1) := by decide +kernel
theorem dX11_orders_34 : decode cX11_orders 34 = .ok (.invokevirtual 386, 3) := by decide +kernel
theorem dX11_orders_37 : decode cX11_orders 37 = .ok (.iinc 4 1, 3) := by decide +kernel
theorem dX11_orders_40 : decode cX11_orders 40 = .ok (.goto (-20), 3) := by decide +kernel
theorem dX11_orders_43 : decode cX11_orders 43 = .ok (.iconst 0, 1) := by decide +kernel
theorem dX11_orders_44 : decode cX11_orders 44 = .ok (.istore 4, 2) := by decide +kernel
theorem dX11_orders_46 : decode cX11_orders 46 = .ok (.iload 4, 2) := by decide +kernel
theorem dX11_orders_48 : decode cX11_orders 48 = .ok (.iload_n 3, 1) := by decide +kernel
theorem dX11_orders_49 : decode cX11_orders 49 = .ok (.if_icmp .ge 13, 3) := by decide +kernel
theorem dX11_orders_52 : decode cX11_orders 52 = .ok (.aload_n 0, 1) := by decide +kernel
theorem dX11_orders_53 : decode cX11_orders 53 = .ok (.invokevirtual 392, 3) := by decide +kernel
theorem dX11_orders_56 : decode cX11_orders 56 = .ok (.iinc 4 1, 3) := by decide +kernel
theorem dX11_orders_59 : decode cX11_orders 59 = .ok (.goto (-13), 3) := by decide +kernel
theorem dX11_orders_62 : decode cX11_orders 62 = .ok (.aload_n 0, 1) := by decide +kernel
theorem dX11_orders_63 : decode cX11_orders 63 = .ok (.getfield 93, 3) := by decide +kernel
theorem dX11_orders_66 : decode cX11_orders 66 = .ok (.iconst 3, 1) := by decide +kernel
theorem dX11_orders_67 : decode cX11_orders 67 = .ok (.iaload, 1) := by decide +kernel
theorem dX11_orders_68 : decode cX11_orders 68 = .ok (.invokestatic 398, 3) := by decide +kernel
theorem dX11_orders_71 : decode cX11_orders 71 = .ok (.istore 4, 2) := by decide +kernel
theorem dX11_orders_73 : decode cX11_orders 73 = .ok (.aload_n 0, 1) := by decide +kernel
theorem dX11_orders_74 : decode cX11_orders 74 = .ok (.getfield 99, 3) := by decide +kernel
theorem dX11_orders_77 : decode cX11_orders 77 = .ok (.iconst 0, 1) := by decide +kernel
theorem dX11_orders_78 : decode cX11_orders 78 = .ok (.aload_n 0, 1) := by decide +kernel
theorem dX11_orders_79 : decode cX11_orders 79 = .ok (.getfield 93, 3) := by decide +kernel
theorem dX11_orders_82 : decode cX11_orders 82 = .ok (.iconst 0, 1) := by decide +kernel
theorem dX11_orders_83 : decode cX11_orders 83 = .ok (.invokestatic 376, 3) := by decide +kernel
theorem dX11_orders_86 : decode cX11_orders 86 = .ok (.iload 4, 2) := by decide +kernel
theorem dX11_orders_88 : decode cX11_orders 88 = .ok (.aload_n 0, 1) := by decide +kernel
theorem dX11_orders_89 : decode cX11_orders 89 = .ok (.getfield 413, 3) := by decide +kernel
theorem dX11_orders_92 : decode cX11_orders 92 = .ok (.if_icmp .gt 4, 3) := by decide +kernel
theorem dX11_orders_95 : decode cX11_orders 95 = .ok (.return_, 1) := by decide +kernel
theorem dX11_orders_96 : decode cX11_orders 96 = .ok (.aload_n 0, 1) := by decide +kernel
theorem dX11_orders_97 : decode cX11_orders 97 = .ok (.iload 4, 2) := by decide +kernel
theorem dX11_orders_99 : decode cX11_orders 99 = .ok (.putfield 413, 3) := by decide +kernel
theorem dX11_orders_102 : decode cX11_orders 102 = .ok (.iconst 0, 1) := by decide +kernel
theorem dX11_orders_103 : decode cX11_orders 103 = .ok (.istore 5, 2) := by decide +kernel
theorem dX11_orders_105 : decode cX11_orders 105 = .ok (.iload 5, 2) := by decide +kernel
theorem dX11_orders_107 : decode cX11_orders 107 = .ok (.bipush 6, 2) := by decide +kernel
theorem dX11_orders_109 : decode cX11_orders 109 = .ok (.if_icmp .ge 23, 3) := by decide +kernel
theorem dX11_orders_112 : decode cX11_orders 112 = .ok (.aload_n 0, 1) := by decide +kernel
theorem dX11_orders_113 : decode cX11_orders 113 = .ok (.getfield 124, 3) := by decide +kernel
theorem dX11_orders_116 : decode cX11_orders 116 = .ok (.iload 5, 2) := by decide +kernel
theorem dX11_orders_118 : decode cX11_orders 118 = .ok (.aload_n 0, 1) := by decide +kernel
theorem dX11_orders_119 : decode cX11_orders 119 = .ok (.getfield 121, 3) := by decide +kernel
theorem dX11_orders_122 : decode cX11_orders 122 = .ok (.iload 5, 2) := by decide +kernel
theorem dX11_orders_124 : decode cX11_orders 124 = .ok (.iaload, 1) := by decide +kernel
theorem dX11_orders_125 : decode cX11_orders 125 = .ok (.iastore, 1) := by decide +kernel
theorem dX11_orders_126 : decode cX11_orders 126 = .ok (.iinc 5 1, 3) := by decide +kernel
theorem dX11_orders_129 : decode cX11_orders 129 = .ok (.goto (-24), 3) := by decide +kernel
theorem dX11_orders_132 : decode cX11_orders 132 = .ok (.return_, 1) := by decide +kernel
theorem dX11_orders_133 : decode cX11_orders 133 = .ok (.iconst 0, 1) := by decide +kernel
theorem dX11_orders_134 : decode cX11_orders 134 = .ok (.istore 4, 2) := by decide +kernel
theorem dX11_orders_136 : decode cX11_orders 136 = .ok (.iload 4, 2) := by decide +kernel
theorem dX11_orders_138 : decode cX11_orders 138 = .ok (.aload_n 0, 1) := by decide +kernel
theorem dX11_orders_139 : decode cX11_orders 139 = .ok (.getfield 13, 3) := by decide +kernel
theorem dX11_orders_142 : decode cX11_orders 142 = .ok (.iconst 0, 1) := by decide +kernel
theorem dX11_orders_143 : decode cX11_orders 143 = .ok (.iaload, 1) := by decide +kernel
theorem dX11_orders_144 : decode cX11_orders 144 = .ok (.if_icmp .ge 45, 3) := by decide +kernel
theorem dX11_orders_147 : decode cX11_orders 147 = .ok (.iload_n 2, 1) := by decide +kernel
theorem dX11_orders_148 : decode cX11_orders 148 = .ok (.iload 4, 2) := by decide +kernel
theorem dX11_orders_150 : decode cX11_orders 150 = .ok (.ishr, 1) := by decide +kernel
theorem dX11_orders_151 : decode cX11_orders 151 = .ok (.iconst 1, 1) := by decide +kernel
theorem dX11_orders_152 : decode cX11_orders 152 = .ok (.iand, 1) := by decide +kernel
theorem dX11_orders_153 : decode cX11_orders 153 = .ok (.ifCond .ne 6, 3) := by decide +kernel
theorem dX11_orders_156 : decode cX11_orders 156 = .ok (.goto 27, 3) := by decide +kernel
theorem dX11_orders_159 : decode cX11_orders 159 = .ok (.aload_n 0, 1) := by decide +kernel
theorem dX11_orders_160 : decode cX11_orders 160 = .ok (.getfield 121, 3) := by decide +kernel
theorem dX11_orders_163 : decode cX11_orders 163 = .ok (.iload_n 1, 1) := by decide +kernel
theorem dX11_orders_164 : decode cX11_orders 164 = .ok (.iload 4, 2) := by decide +kernel
theorem dX11_orders_166 : decode cX11_orders 166 = .ok (.iastore, 1) := by decide +kernel
theorem dX11_orders_167 : decode cX11_orders 167 = .ok (.aload_n 0, 1) := by decide +kernel
theorem dX11_orders_168 : decode cX11_orders 168 = .ok (.iload_n 1, 1) := by decide +kernel
theorem dX11_orders_169 : decode cX11_orders 169 = .ok (.iconst 1, 1) := by decide +kernel
theorem dX11_orders_170 : decode cX11_orders 170 = .ok (.iadd, 1) := by decide +kernel
theorem dX11_orders_171 : decode cX11_orders 171 = .ok (.iload_n 2, 1) := by decide +kernel
theorem dX11_orders_172 : decode cX11_orders 172 = .ok (.iconst 1, 1) := by decide +kernel
theorem dX11_orders_173 : decode cX11_orders 173 = .ok (.iload 4, 2) := by decide +kernel
theorem dX11_orders_175 : decode cX11_orders 175 = .ok (.ishl, 1) := by decide +kernel
theorem dX11_orders_176 : decode cX11_orders 176 = .ok (.iconst (-1), 1) := by decide +kernel
theorem dX11_orders_177 : decode cX11_orders 177 = .ok (.ixor, 1) := by decide +kernel
theorem dX11_orders_178 : decode cX11_orders 178 = .ok (.iand, 1) := by decide +kernel
theorem dX11_orders_179 : decode cX11_orders 179 = .ok (.iload_n 3, 1) := by decide +kernel
theorem dX11_orders_180 : decode cX11_orders 180 = .ok (.invokevirtual 416, 3) := by decide +kernel
theorem dX11_orders_183 : decode cX11_orders 183 = .ok (.iinc 4 1, 3) := by decide +kernel
theorem dX11_orders_186 : decode cX11_orders 186 = .ok (.goto (-50), 3) := by decide +kernel
theorem dX11_orders_189 : decode cX11_orders 189 = .ok (.return_, 1) := by decide +kernel
theorem dX11_coming_0 : decode cX11_coming 0 = .ok (.aload_n 0, 1) := by decide +kernel
theorem dX11_coming_1 : decode cX11_coming 1 = .ok (.iconst 0, 1) := by decide +kernel
theorem dX11_coming_2 : decode cX11_coming 2 = .ok (.putfield 137, 3) := by decide +kernel
theorem dX11_coming_5 : decode cX11_coming 5 = .ok (.iconst 0, 1) := by decide +kernel
theorem dX11_coming_6 : decode cX11_coming 6 = .ok (.istore_n 3, 1) := by decide +kernel
theorem dX11_coming_7 : decode cX11_coming 7 = .ok (.iconst 0, 1) := by decide +kernel
theorem dX11_coming_8 : decode cX11_coming 8 = .ok (.istore 4, 2) := by decide +kernel
theorem dX11_coming_10 : decode cX11_coming 10 = .ok (.iload 4, 2) := by decide +kernel
theorem dX11_coming_12 : decode cX11_coming 12 = .ok (.aload_n 0, 1) := by decide +kernel
theorem dX11_coming_13 : decode cX11_coming 13 = .ok (.getfield 13, 3) := by decide +kernel
theorem dX11_coming_16 : decode cX11_coming 16 = .ok (.iconst 0, 1) := by decide +kernel
theorem dX11_coming_17 : decode cX11_coming 17 = .ok (.iaload, 1) := by decide +kernel
theorem dX11_coming_18 : decode cX11_coming 18 = .ok (.if_icmp .ge 29, 3) := by decide +kernel
theorem dX11_coming_21 : decode cX11_coming 21 = .ok (.iload_n 3, 1) := by decide +kernel
theorem dX11_coming_22 : decode cX11_coming 22 = .ok (.aload_n 0, 1) := by decide +kernel
theorem dX11_coming_23 : decode cX11_coming 23 = .ok (.iload 4, 2) := by decide +kernel
theorem dX11_coming_25 : decode cX11_coming 25 = .ok (.invokevirtual 380, 3) := by decide +kernel
theorem dX11_coming_28 : decode cX11_coming 28 = .ok (.ifCond .eq 10, 3) := by decide +kernel
theorem dX11_coming_31 : decode cX11_coming 31 = .ok (.iconst 1, 1) := by decide +kernel
theorem dX11_coming_32 : decode cX11_coming 32 = .ok (.iload 4, 2) := by decide +kernel
theorem dX11_coming_34 : decode cX11_coming 34 = .ok (.ishl, 1) := by decide +kernel
theorem dX11_coming_35 : decode cX11_coming 35 = .ok (.goto 4, 3) := by decide +kernel
theorem dX11_coming_38 : decode cX11_coming 38 = .ok (.iconst 0, 1) := by decide +kernel
theorem dX11_coming_39 : decode cX11_coming 39 = .ok (.ior, 1) := by decide +kernel
theorem dX11_coming_40 : decode cX11_coming 40 = .ok (.istore_n 3, 1) := by decide +kernel
theorem dX11_coming_41 : decode cX11_coming 41 = .ok (.iinc 4 1, 3) := by decide +kernel
theorem dX11_coming_44 : decode cX11_coming 44 = .ok (.goto (-34), 3) := by decide +kernel
theorem dX11_coming_47 : decode cX11_coming 47 = .ok (.iload_n 1, 1) := by decide +kernel
theorem dX11_coming_48 : decode cX11_coming 48 = .ok (.iconst 1, 1) := by decide +kernel
theorem dX11_coming_49 : decode cX11_coming 49 = .ok (.iconst 4, 1) := by decide +kernel
theorem dX11_coming_50 : decode cX11_coming 50 = .ok (.invokestatic 254, 3) := by decide +kernel
theorem dX11_coming_53 : decode cX11_coming 53 = .ok (.ifCond .eq 17, 3) := by decide +kernel
theorem dX11_coming_56 : decode cX11_coming 56 = .ok (.iload_n 2, 1) := by decide +kernel
theorem dX11_coming_57 : decode cX11_coming 57 = .ok (.iconst (-1), 1) := by decide +kernel
theorem dX11_coming_58 : decode cX11_coming 58 = .ok (.iload_n 3, 1) := by decide +kernel
theorem dX11_coming_59 : decode cX11_coming 59 = .ok (.invokestatic 398, 3) := by decide +kernel
theorem dX11_coming_62 : decode cX11_coming 62 = .ok (.iconst 1, 1) := by decide +kernel
theorem dX11_coming_63 : decode cX11_coming 63 = .ok (.isub, 1) := by decide +kernel
theorem dX11_coming_64 : decode cX11_coming 64 = .ok (.invokestatic 254, 3) := by decide +kernel
theorem dX11_coming_67 : decode cX11_coming 67 = .ok (.ifCond .ne 6, 3) := by decide +kernel
theorem dX11_coming_70 : decode cX11_coming 70 = .ok (.bipush (-2), 2) := by decide +kernel
theorem dX11_coming_72 : decode cX11_coming 72 = .ok (.ireturn, 1) := by decide +kernel
theorem dX11_coming_73 : decode cX11_coming 73 = .ok (.aload_n 0, 1) := by decide +kernel
theorem dX11_coming_74 : decode cX11_coming 74 = .ok (.aload_n 0, 1) := by decide +kernel
theorem dX11_coming_75 : decode cX11_coming 75 = .ok (.getfield 13, 3) := by decide +kernel
theorem dX11_coming_78 : decode cX11_coming 78 = .ok (.iconst 2, 1) := by decide +kernel
theorem dX11_coming_79 : decode cX11_coming 79 = .ok (.iaload, 1) := by decide +kernel
theorem dX11_coming_80 : decode cX11_coming 80 = .ok (.putfield 117, 3) := by decide +kernel
theorem dX11_coming_83 : decode cX11_coming 83 = .ok (.aload_n 0, 1) := by decide +kernel
theorem dX11_coming_84 : decode cX11_coming 84 = .ok (.iconst (-1), 1) := by decide +kernel
theorem dX11_coming_85 : decode cX11_coming 85 = .ok (.putfield 413, 3) := by decide +kernel
theorem dX11_coming_88 : decode cX11_coming 88 = .ok (.aload_n 0, 1) := by decide +kernel
theorem dX11_coming_89 : decode cX11_coming 89 = .ok (.iconst 0, 1) := by decide +kernel
theorem dX11_coming_90 : decode cX11_coming 90 = .ok (.iload_n 3, 1) := by decide +kernel
theorem dX11_coming_91 : decode cX11_coming 91 = .ok (.iload_n 1, 1) := by decide +kernel
theorem dX11_coming_92 : decode cX11_coming 92 = .ok (.invokevirtual 416, 3) := by decide +kernel
theorem dX11_coming_95 : decode cX11_coming 95 = .ok (.iload_n 2, 1) := by decide +kernel
theorem dX11_coming_96 : decode cX11_coming 96 = .ok (.iconst (-1), 1) := by decide +kernel
theorem dX11_coming_97 : decode cX11_coming 97 = .ok (.if_icmp .ne 20, 3) := by decide +kernel
theorem dX11_coming_100 : decode cX11_coming 100 = .ok (.aload_n 0, 1) := by decide +kernel
theorem dX11_coming_101 : decode cX11_coming 101 = .ok (.getfield 413, 3) := by decide +kernel
theorem dX11_coming_104 : decode cX11_coming 104 = .ok (.aload_n 0, 1) := by decide +kernel
theorem dX11_coming_105 : decode cX11_coming 105 = .ok (.getfield 93, 3) := by decide +kernel
theorem dX11_coming_108 : decode cX11_coming 108 = .ok (.iconst 3, 1) := by decide +kernel
theorem dX11_coming_109 : decode cX11_coming 109 = .ok (.iaload, 1) := by decide +kernel
theorem dX11_coming_110 : decode cX11_coming 110 = .ok (.invokestatic 398, 3) := by decide +kernel
theorem dX11_coming_113 : decode cX11_coming 113 = .ok (.isub, 1) := by decide +kernel
theorem dX11_coming_114 : decode cX11_coming 114 = .ok (.goto 9, 3) := by decide +kernel
theorem dX11_coming_117 : decode cX11_coming 117 = .ok (.aload_n 0, 1) := by decide +kernel
theorem dX11_coming_118 : decode cX11_coming 118 = .ok (.getfield 124, 3) := by decide +kernel
theorem dX11_coming_121 : decode cX11_coming 121 = .ok (.iload_n 2, 1) := by decide +kernel
theorem dX11_coming_122 : decode cX11_coming 122 = .ok (.iaload, 1) := by decide +kernel
theorem dX11_coming_123 : decode cX11_coming 123 = .ok (.ireturn, 1) := by decide +kernel
theorem dX11_old_0 : decode cX11_old 0 = .ok (.aload_n 0, 1) := by decide +kernel
theorem dX11_old_1 : decode cX11_old 1 = .ok (.iconst 0, 1) := by decide +kernel
theorem dX11_old_2 : decode cX11_old 2 = .ok (.putfield 137, 3) := by decide +kernel
theorem dX11_old_5 : decode cX11_old 5 = .ok (.aload_n 0, 1) := by decide +kernel
theorem dX11_old_6 : decode cX11_old 6 = .ok (.iload_n 1, 1) := by decide +kernel
theorem dX11_old_7 : decode cX11_old 7 = .ok (.invokevirtual 373, 3) := by decide +kernel
theorem dX11_old_10 : decode cX11_old 10 = .ok (.ifCond .eq 29, 3) := by decide +kernel
theorem dX11_old_13 : decode cX11_old 13 = .ok (.iconst 0, 1) := by decide +kernel
theorem dX11_old_14 : decode cX11_old 14 = .ok (.aload_n 0, 1) := by decide +kernel
theorem dX11_old_15 : decode cX11_old 15 = .ok (.getfield 93, 3) := by decide +kernel
theorem dX11_old_18 : decode cX11_old 18 = .ok (.iconst 0, 1) := by decide +kernel
theorem dX11_old_19 : decode cX11_old 19 = .ok (.iaload, 1) := by decide +kernel
theorem dX11_old_20 : decode cX11_old 20 = .ok (.invokestatic 401, 3) := by decide +kernel
theorem dX11_old_23 : decode cX11_old 23 = .ok (.aload_n 0, 1) := by decide +kernel
theorem dX11_old_24 : decode cX11_old 24 = .ok (.getfield 23, 3) := by decide +kernel
theorem dX11_old_27 : decode cX11_old 27 = .ok (.iload_n 1, 1) := by decide +kernel
theorem dX11_old_28 : decode cX11_old 28 = .ok (.iaload, 1) := by decide +kernel
theorem dX11_old_29 : decode cX11_old 29 = .ok (.invokestatic 401, 3) := by decide +kernel
theorem dX11_old_32 : decode cX11_old 32 = .ok (.isub, 1) := by decide +kernel
theorem dX11_old_33 : decode cX11_old 33 = .ok (.invokestatic 342, 3) := by decide +kernel
theorem dX11_old_36 : decode cX11_old 36 = .ok (.goto 4, 3) := by decide +kernel
theorem dX11_old_39 : decode cX11_old 39 = .ok (.iconst (-1), 1) := by decide +kernel
theorem dX11_old_40 : decode cX11_old 40 = .ok (.ireturn, 1) := by decide +kernel
theorem dX11_heardBehind_0 : decode cX11_heardBehind 0 = .ok (.aload_n 0, 1) := by decide +kernel
theorem dX11_heardBehind_1 : decode cX11_heardBehind 1 = .ok (.getfield 93, 3) := by decide +kernel
theorem dX11_heardBehind_4 : decode cX11_heardBehind 4 = .ok (.iconst 0, 1) := by decide +kernel
theorem dX11_heardBehind_5 : decode cX11_heardBehind 5 = .ok (.aload_n 0, 1) := by decide +kernel
theorem dX11_heardBehind_6 : decode cX11_heardBehind 6 = .ok (.getfield 99, 3) := by decide +kernel
theorem dX11_heardBehind_9 : decode cX11_heardBehind 9 = .ok (.iconst 0, 1) := by decide +kernel
theorem dX11_heardBehind_10 : decode cX11_heardBehind 10 = .ok (.invokestatic 376, 3) := by decide +kernel
theorem dX11_heardBehind_13 : decode cX11_heardBehind 13 = .ok (.iconst 0, 1) := by decide +kernel
theorem dX11_heardBehind_14 : decode cX11_heardBehind 14 = .ok (.istore_n 2, 1) := by decide +kernel
theorem dX11_heardBehind_15 : decode cX11_heardBehind 15 = .ok (.iload_n 2, 1) := by decide +kernel
theorem dX11_heardBehind_16 : decode cX11_heardBehind 16 = .ok (.iload_n 1, 1) := by decide +kernel
theorem dX11_heardBehind_17 : decode cX11_heardBehind 17 = .ok (.if_icmp .ge 14, 3) := by decide +kernel
theorem dX11_heardBehind_20 : decode cX11_heardBehind 20 = .ok (.aload_n 0, 1) := by decide +kernel
theorem dX11_heardBehind_21 : decode cX11_heardBehind 21 = .ok (.invokevirtual 370, 3) := by decide +kernel
theorem dX11_heardBehind_24 : decode cX11_heardBehind 24 = .ok (.pop, 1) := by decide +kernel
theorem dX11_heardBehind_25 : decode cX11_heardBehind 25 = .ok (.iinc 2 1, 3) := by decide +kernel
theorem dX11_heardBehind_28 : decode cX11_heardBehind 28 = .ok (.goto (-13), 3) := by decide +kernel
theorem dX11_heardBehind_31 : decode cX11_heardBehind 31 = .ok (.aload_n 0, 1) := by decide +kernel
theorem dX11_heardBehind_32 : decode cX11_heardBehind 32 = .ok (.getfield 93, 3) := by decide +kernel
theorem dX11_heardBehind_35 : decode cX11_heardBehind 35 = .ok (.iconst 3, 1) := by decide +kernel
theorem dX11_heardBehind_36 : decode cX11_heardBehind 36 = .ok (.iaload, 1) := by decide +kernel
theorem dX11_heardBehind_37 : decode cX11_heardBehind 37 = .ok (.istore_n 2, 1) := by decide +kernel
theorem dX11_heardBehind_38 : decode cX11_heardBehind 38 = .ok (.aload_n 0, 1) := by decide +kernel
theorem dX11_heardBehind_39 : decode cX11_heardBehind 39 = .ok (.getfield 99, 3) := by decide +kernel
theorem dX11_heardBehind_42 : decode cX11_heardBehind 42 = .ok (.iconst 0, 1) := by decide +kernel
theorem dX11_heardBehind_43 : decode cX11_heardBehind 43 = .ok (.aload_n 0, 1) := by decide +kernel
theorem dX11_heardBehind_44 : decode cX11_heardBehind 44 = .ok (.getfield 93, 3) := by decide +kernel
theorem dX11_heardBehind_47 : decode cX11_heardBehind 47 = .ok (.iconst 0, 1) := by decide +kernel
theorem dX11_heardBehind_48 : decode cX11_heardBehind 48 = .ok (.invokestatic 376, 3) := by decide +kernel
theorem dX11_heardBehind_51 : decode cX11_heardBehind 51 = .ok (.iload_n 2, 1) := by decide +kernel
theorem dX11_heardBehind_52 : decode cX11_heardBehind 52 = .ok (.ireturn, 1) := by decide +kernel
theorem dX11_julian_0 : decode cX11_julian 0 = .ok (.aload_n 0, 1) := by decide +kernel
theorem dX11_julian_1 : decode cX11_julian 1 = .ok (.iconst 0, 1) := by decide +kernel
theorem dX11_julian_2 : decode cX11_julian 2 = .ok (.putfield 137, 3) := by decide +kernel
theorem dX11_julian_5 : decode cX11_julian 5 = .ok (.iload_n 1, 1) := by decide +kernel
theorem dX11_julian_6 : decode cX11_julian 6 = .ok (.iconst 1, 1) := by decide +kernel
theorem dX11_julian_7 : decode cX11_julian 7 = .ok (.bipush 99, 2) := by decide +kernel
theorem dX11_julian_9 : decode cX11_julian 9 = .ok (.invokestatic 254, 3) := by decide +kernel
theorem dX11_julian_12 : decode cX11_julian 12 = .ok (.ifCond .ne 5, 3) := by decide +kernel
theorem dX11_julian_15 : decode cX11_julian 15 = .ok (.iconst (-1), 1) := by decide +kernel
theorem dX11_julian_16 : decode cX11_julian 16 = .ok (.ireturn, 1) := by decide +kernel
theorem dX11_julian_17 : decode cX11_julian 17 = .ok (.aload_n 0, 1) := by decide +kernel
theorem dX11_julian_18 : decode cX11_julian 18 = .ok (.aload_n 0, 1) := by decide +kernel
theorem dX11_julian_19 : decode cX11_julian 19 = .ok (.getfield 13, 3) := by decide +kernel
theorem dX11_julian_22 : decode cX11_julian 22 = .ok (.iconst 2, 1) := by decide +kernel
theorem dX11_julian_23 : decode cX11_julian 23 = .ok (.iaload, 1) := by decide +kernel
theorem dX11_julian_24 : decode cX11_julian 24 = .ok (.putfield 117, 3) := by decide +kernel
theorem dX11_julian_27 : decode cX11_julian 27 = .ok (.aload_n 0, 1) := by decide +kernel
theorem dX11_julian_28 : decode cX11_julian 28 = .ok (.iload_n 1, 1) := by decide +kernel
theorem dX11_julian_29 : decode cX11_julian 29 = .ok (.invokevirtual 420, 3) := by decide +kernel
theorem dX11_julian_32 : decode cX11_julian 32 = .ok (.istore_n 2, 1) := by decide +kernel
theorem dX11_julian_33 : decode cX11_julian 33 = .ok (.aload_n 0, 1) := by decide +kernel
theorem dX11_julian_34 : decode cX11_julian 34 = .ok (.iconst 1, 1) := by decide +kernel
theorem dX11_julian_35 : decode cX11_julian 35 = .ok (.putfield 317, 3) := by decide +kernel
theorem dX11_julian_38 : decode cX11_julian 38 = .ok (.aload_n 0, 1) := by decide +kernel
theorem dX11_julian_39 : decode cX11_julian 39 = .ok (.iload_n 1, 1) := by decide +kernel
theorem dX11_julian_40 : decode cX11_julian 40 = .ok (.invokevirtual 420, 3) := by decide +kernel
theorem dX11_julian_43 : decode cX11_julian 43 = .ok (.istore_n 3, 1) := by decide +kernel
theorem dX11_julian_44 : decode cX11_julian 44 = .ok (.aload_n 0, 1) := by decide +kernel
theorem dX11_julian_45 : decode cX11_julian 45 = .ok (.iconst 0, 1) := by decide +kernel
theorem dX11_julian_46 : decode cX11_julian 46 = .ok (.putfield 317, 3) := by decide +kernel
theorem dX11_julian_49 : decode cX11_julian 49 = .ok (.iload_n 3, 1) := by decide +kernel
theorem dX11_julian_50 : decode cX11_julian 50 = .ok (.iload_n 2, 1) := by decide +kernel
theorem dX11_julian_51 : decode cX11_julian 51 = .ok (.iconst (-1), 1) := by decide +kernel
theorem dX11_julian_52 : decode cX11_julian 52 = .ok (.ixor, 1) := by decide +kernel
theorem dX11_julian_53 : decode cX11_julian 53 = .ok (.iand, 1) := by decide +kernel
theorem dX11_julian_54 : decode cX11_julian 54 = .ok (.ireturn, 1) := by decide +kernel
theorem dX11_stale_0 : decode cX11_stale 0 = .ok (.aload_n 0, 1) := by decide +kernel
theorem dX11_stale_1 : decode cX11_stale 1 = .ok (.iconst 0, 1) := by decide +kernel
theorem dX11_stale_2 : decode cX11_stale 2 = .ok (.putfield 137, 3) := by decide +kernel
theorem dX11_stale_5 : decode cX11_stale 5 = .ok (.aload_n 0, 1) := by decide +kernel
theorem dX11_stale_6 : decode cX11_stale 6 = .ok (.aload_n 0, 1) := by decide +kernel
theorem dX11_stale_7 : decode cX11_stale 7 = .ok (.getfield 13, 3) := by decide +kernel
theorem dX11_stale_10 : decode cX11_stale 10 = .ok (.iconst 2, 1) := by decide +kernel
theorem dX11_stale_11 : decode cX11_stale 11 = .ok (.iaload, 1) := by decide +kernel
theorem dX11_stale_12 : decode cX11_stale 12 = .ok (.putfield 117, 3) := by decide +kernel
theorem dX11_stale_15 : decode cX11_stale 15 = .ok (.aload_n 0, 1) := by decide +kernel
theorem dX11_stale_16 : decode cX11_stale 16 = .ok (.getfield 93, 3) := by decide +kernel
theorem dX11_stale_19 : decode cX11_stale 19 = .ok (.iconst 0, 1) := by decide +kernel
theorem dX11_stale_20 : decode cX11_stale 20 = .ok (.aload_n 0, 1) := by decide +kernel
theorem dX11_stale_21 : decode cX11_stale 21 = .ok (.getfield 99, 3) := by decide +kernel
theorem dX11_stale_24 : decode cX11_stale 24 = .ok (.iconst 0, 1) := by decide +kernel
theorem dX11_stale_25 : decode cX11_stale 25 = .ok (.invokestatic 376, 3) := by decide +kernel
theorem dX11_stale_28 : decode cX11_stale 28 = .ok (.aload_n 0, 1) := by decide +kernel
theorem dX11_stale_29 : decode cX11_stale 29 = .ok (.invokevirtual 423, 3) := by decide +kernel
theorem dX11_stale_32 : decode cX11_stale 32 = .ok (.istore_n 1, 1) := by decide +kernel
theorem dX11_stale_33 : decode cX11_stale 33 = .ok (.iconst 0, 1) := by decide +kernel
theorem dX11_stale_34 : decode cX11_stale 34 = .ok (.istore_n 2, 1) := by decide +kernel
theorem dX11_stale_35 : decode cX11_stale 35 = .ok (.iload_n 2, 1) := by decide +kernel
theorem dX11_stale_36 : decode cX11_stale 36 = .ok (.bipush 99, 2) := by decide +kernel
theorem dX11_stale_38 : decode cX11_stale 38 = .ok (.if_icmp .ge 14, 3) := by decide +kernel
theorem dX11_stale_41 : decode cX11_stale 41 = .ok (.aload_n 0, 1) := by decide +kernel
theorem dX11_stale_42 : decode cX11_stale 42 = .ok (.invokevirtual 370, 3) := by decide +kernel
theorem dX11_stale_45 : decode cX11_stale 45 = .ok (.pop, 1) := by decide +kernel
theorem dX11_stale_46 : decode cX11_stale 46 = .ok (.iinc 2 1, 3) := by decide +kernel
theorem dX11_stale_49 : decode cX11_stale 49 = .ok (.goto (-14), 3) := by decide +kernel
theorem dX11_stale_52 : decode cX11_stale 52 = .ok (.iload_n 1, 1) := by decide +kernel
theorem dX11_stale_53 : decode cX11_stale 53 = .ok (.aload_n 0, 1) := by decide +kernel
theorem dX11_stale_54 : decode cX11_stale 54 = .ok (.getfield 93, 3) := by decide +kernel
theorem dX11_stale_57 : decode cX11_stale 57 = .ok (.iconst 3, 1) := by decide +kernel
theorem dX11_stale_58 : decode cX11_stale 58 = .ok (.iaload, 1) := by decide +kernel
theorem dX11_stale_59 : decode cX11_stale 59 = .ok (.iconst (-1), 1) := by decide +kernel
theorem dX11_stale_60 : decode cX11_stale 60 = .ok (.ixor, 1) := by decide +kernel
theorem dX11_stale_61 : decode cX11_stale 61 = .ok (.aload_n 0, 1) := by decide +kernel
theorem dX11_stale_62 : decode cX11_stale 62 = .ok (.invokevirtual 423, 3) := by decide +kernel
theorem dX11_stale_65 : decode cX11_stale 65 = .ok (.iconst (-1), 1) := by decide +kernel
theorem dX11_stale_66 : decode cX11_stale 66 = .ok (.ixor, 1) := by decide +kernel
theorem dX11_stale_67 : decode cX11_stale 67 = .ok (.iand, 1) := by decide +kernel
theorem dX11_stale_68 : decode cX11_stale 68 = .ok (.iand, 1) := by decide +kernel
theorem dX11_stale_69 : decode cX11_stale 69 = .ok (.istore_n 1, 1) := by decide +kernel
theorem dX11_stale_70 : decode cX11_stale 70 = .ok (.aload_n 0, 1) := by decide +kernel
theorem dX11_stale_71 : decode cX11_stale 71 = .ok (.getfield 99, 3) := by decide +kernel
theorem dX11_stale_74 : decode cX11_stale 74 = .ok (.iconst 0, 1) := by decide +kernel
theorem dX11_stale_75 : decode cX11_stale 75 = .ok (.aload_n 0, 1) := by decide +kernel
theorem dX11_stale_76 : decode cX11_stale 76 = .ok (.getfield 93, 3) := by decide +kernel
theorem dX11_stale_79 : decode cX11_stale 79 = .ok (.iconst 0, 1) := by decide +kernel
theorem dX11_stale_80 : decode cX11_stale 80 = .ok (.invokestatic 376, 3) := by decide +kernel
theorem dX11_stale_83 : decode cX11_stale 83 = .ok (.iload_n 1, 1) := by decide +kernel
theorem dX11_stale_84 : decode cX11_stale 84 = .ok (.ireturn, 1) := by decide +kernel
theorem dX11_say_0 : decode cX11_say 0 = .ok (.aload_n 0, 1) := by decide +kernel
theorem dX11_say_1 : decode cX11_say 1 = .ok (.iconst 0, 1) := by decide +kernel
theorem dX11_say_2 : decode cX11_say 2 = .ok (.putfield 137, 3) := by decide +kernel
theorem dX11_say_5 : decode cX11_say 5 = .ok (.iload_n 1, 1) := by decide +kernel
theorem dX11_say_6 : decode cX11_say 6 = .ok (.iconst 0, 1) := by decide +kernel
theorem dX11_say_7 : decode cX11_say 7 = .ok (.bipush 40, 2) := by decide +kernel
theorem dX11_say_9 : decode cX11_say 9 = .ok (.invokestatic 254, 3) := by decide +kernel
theorem dX11_say_12 : decode cX11_say 12 = .ok (.ifCond .eq 14, 3) := by decide +kernel
theorem dX11_say_15 : decode cX11_say 15 = .ok (.aload_n 0, 1) := by decide +kernel
theorem dX11_say_16 : decode cX11_say 16 = .ok (.getfield 84, 3) := by decide +kernel
theorem dX11_say_19 : decode cX11_say 19 = .ok (.iconst 0, 1) := by decide +kernel
theorem dX11_say_20 : decode cX11_say 20 = .ok (.iaload, 1) := by decide +kernel
theorem dX11_say_21 : decode cX11_say 21 = .ok (.bipush 8, 2) := by decide +kernel
theorem dX11_say_23 : decode cX11_say 23 = .ok (.if_icmp .ne 5, 3) := by decide +kernel
theorem dX11_say_26 : decode cX11_say 26 = .ok (.iconst 0, 1) := by decide +kernel
theorem dX11_say_27 : decode cX11_say 27 = .ok (.ireturn, 1) := by decide +kernel
theorem dX11_say_28 : decode cX11_say 28 = .ok (.aload_n 0, 1) := by decide +kernel
theorem dX11_say_29 : decode cX11_say 29 = .ok (.getfield 87, 3) := by decide +kernel
theorem dX11_say_32 : decode cX11_say 32 = .ok (.aload_n 0, 1) := by decide +kernel
theorem dX11_say_33 : decode cX11_say 33 = .ok (.getfield 84, 3) := by decide +kernel
theorem dX11_say_36 : decode cX11_say 36 = .ok (.iconst 0, 1) := by decide +kernel
theorem dX11_say_37 : decode cX11_say 37 = .ok (.iaload, 1) := by decide +kernel
theorem dX11_say_38 : decode cX11_say 38 = .ok (.iload_n 1, 1) := by decide +kernel
theorem dX11_say_39 : decode cX11_say 39 = .ok (.iastore, 1) := by decide +kernel
theorem dX11_say_40 : decode cX11_say 40 = .ok (.aload_n 0, 1) := by decide +kernel
theorem dX11_say_41 : decode cX11_say 41 = .ok (.getfield 90, 3) := by decide +kernel
theorem dX11_say_44 : decode cX11_say 44 = .ok (.aload_n 0, 1) := by decide +kernel
theorem dX11_say_45 : decode cX11_say 45 = .ok (.getfield 84, 3) := by decide +kernel
theorem dX11_say_48 : decode cX11_say 48 = .ok (.iconst 0, 1) := by decide +kernel
theorem dX11_say_49 : decode cX11_say 49 = .ok (.iaload, 1) := by decide +kernel
theorem dX11_say_50 : decode cX11_say 50 = .ok (.iload_n 2, 1) := by decide +kernel
theorem dX11_say_51 : decode cX11_say 51 = .ok (.bastore, 1) := by decide +kernel
theorem dX11_say_52 : decode cX11_say 52 = .ok (.aload_n 0, 1) := by decide +kernel
theorem dX11_say_53 : decode cX11_say 53 = .ok (.getfield 84, 3) := by decide +kernel
theorem dX11_say_56 : decode cX11_say 56 = .ok (.iconst 0, 1) := by decide +kernel
theorem dX11_say_57 : decode cX11_say 57 = .ok (.dup2, 1) := by decide +kernel
theorem dX11_say_58 : decode cX11_say 58 = .ok (.iaload, 1) := by decide +kernel
theorem dX11_say_59 : decode cX11_say 59 = .ok (.iconst 1, 1) := by decide +kernel
theorem dX11_say_60 : decode cX11_say 60 = .ok (.iadd, 1) := by decide +kernel
theorem dX11_say_61 : decode cX11_say 61 = .ok (.iastore, 1) := by decide +kernel
theorem dX11_say_62 : decode cX11_say 62 = .ok (.iconst 1, 1) := by decide +kernel
theorem dX11_say_63 : decode cX11_say 63 = .ok (.ireturn, 1) := by decide +kernel
theorem dX11_isAsSaid_0 : decode cX11_isAsSaid 0 = .ok (.iconst 0, 1) := by decide +kernel
theorem dX11_isAsSaid_1 : decode cX11_isAsSaid 1 = .ok (.istore_n 2, 1) := by decide +kernel
theorem dX11_isAsSaid_2 : decode cX11_isAsSaid 2 = .ok (.iload_n 2, 1) := by decide +kernel
theorem dX11_isAsSaid_3 : decode cX11_isAsSaid 3 = .ok (.aload_n 0, 1) := by decide +kernel
theorem dX11_isAsSaid_4 : decode cX11_isAsSaid 4 = .ok (.getfield 84, 3) := by decide +kernel
theorem dX11_isAsSaid_7 : decode cX11_isAsSaid 7 = .ok (.iconst 0, 1) := by decide +kernel
theorem dX11_isAsSaid_8 : decode cX11_isAsSaid 8 = .ok (.iaload, 1) := by decide +kernel
theorem dX11_isAsSaid_9 : decode cX11_isAsSaid 9 = .ok (.if_icmp .ge 31, 3) := by decide +kernel
theorem dX11_isAsSaid_12 : decode cX11_isAsSaid 12 = .ok (.iload_n 1, 1) := by decide +kernel
theorem dX11_isAsSaid_13 : decode cX11_isAsSaid 13 = .ok (.aload_n 0, 1) := by decide +kernel
theorem dX11_isAsSaid_14 : decode cX11_isAsSaid 14 = .ok (.getfield 87, 3) := by decide +kernel
theorem dX11_isAsSaid_17 : decode cX11_isAsSaid 17 = .ok (.iload_n 2, 1) := by decide +kernel
theorem dX11_isAsSaid_18 : decode cX11_isAsSaid 18 = .ok (.iaload, 1) := by decide +kernel
theorem dX11_isAsSaid_19 : decode cX11_isAsSaid 19 = .ok (.iadd, 1) := by decide +kernel
theorem dX11_isAsSaid_20 : decode cX11_isAsSaid 20 = .ok (.invokestatic 321, 3) := by decide +kernel
theorem dX11_isAsSaid_23 : decode cX11_isAsSaid 23 = .ok (.aload_n 0, 1) := by decide +kernel
theorem dX11_isAsSaid_24 : decode cX11_isAsSaid 24 = .ok (.getfield 90, 3) := by decide +kernel
theorem dX11_isAsSaid_27 : decode cX11_isAsSaid 27 = .ok (.iload_n 2, 1) := by decide +kernel
theorem dX11_isAsSaid_28 : decode cX11_isAsSaid 28 = .ok (.baload, 1) := by decide +kernel
theorem dX11_isAsSaid_29 : decode cX11_isAsSaid 29 = .ok (.if_icmp .eq 5, 3) := by decide +kernel
theorem dX11_isAsSaid_32 : decode cX11_isAsSaid 32 = .ok (.iconst 0, 1) := by decide +kernel
theorem dX11_isAsSaid_33 : decode cX11_isAsSaid 33 = .ok (.ireturn, 1) := by decide +kernel
theorem dX11_isAsSaid_34 : decode cX11_isAsSaid 34 = .ok (.iinc 2 1, 3) := by decide +kernel
theorem dX11_isAsSaid_37 : decode cX11_isAsSaid 37 = .ok (.goto (-35), 3) := by decide +kernel
theorem dX11_isAsSaid_40 : decode cX11_isAsSaid 40 = .ok (.iconst 1, 1) := by decide +kernel
theorem dX11_isAsSaid_41 : decode cX11_isAsSaid 41 = .ok (.ireturn, 1) := by decide +kernel
theorem dX11_fits_0 : decode cX11_fits 0 = .ok (.aload_n 0, 1) := by decide +kernel
theorem dX11_fits_1 : decode cX11_fits 1 = .ok (.iconst 0, 1) := by decide +kernel
theorem dX11_fits_2 : decode cX11_fits 2 = .ok (.putfield 137, 3) := by decide +kernel
theorem dX11_fits_5 : decode cX11_fits 5 = .ok (.iload_n 1, 1) := by decide +kernel
theorem dX11_fits_6 : decode cX11_fits 6 = .ok (.iconst 0, 1) := by decide +kernel
theorem dX11_fits_7 : decode cX11_fits 7 = .ok (.iconst 2, 1) := by decide +kernel
theorem dX11_fits_8 : decode cX11_fits 8 = .ok (.invokestatic 254, 3) := by decide +kernel
theorem dX11_fits_11 : decode cX11_fits 11 = .ok (.ifCond .ne 5, 3) := by decide +kernel
theorem dX11_fits_14 : decode cX11_fits 14 = .ok (.iconst (-1), 1) := by decide +kernel
theorem dX11_fits_15 : decode cX11_fits 15 = .ok (.ireturn, 1) := by decide +kernel
theorem dX11_fits_16 : decode cX11_fits 16 = .ok (.iconst 0, 1) := by decide +kernel
theorem dX11_fits_17 : decode cX11_fits 17 = .ok (.istore_n 2, 1) := by decide +kernel
theorem dX11_fits_18 : decode cX11_fits 18 = .ok (.iconst (-1), 1) := by decide +kernel
theorem dX11_fits_19 : decode cX11_fits 19 = .ok (.istore_n 3, 1) := by decide +kernel
theorem dX11_fits_20 : decode cX11_fits 20 = .ok (.iconst (-1), 1) := by decide +kernel
theorem dX11_fits_21 : decode cX11_fits 21 = .ok (.istore 4, 2) := by decide +kernel
theorem dX11_fits_23 : decode cX11_fits 23 = .ok (.iconst 1, 1) := by decide +kernel
theorem dX11_fits_24 : decode cX11_fits 24 = .ok (.istore 5, 2) := by decide +kernel
theorem dX11_fits_26 : decode cX11_fits 26 = .ok (.iload 5, 2) := by decide +kernel
theorem dX11_fits_28 : decode cX11_fits 28 = .ok (.sipush 2001, 3) := by decide +kernel
theorem dX11_fits_31 : decode cX11_fits 31 = .ok (.if_icmp .ge 35, 3) := by decide +kernel
theorem dX11_fits_34 : decode cX11_fits 34 = .ok (.aload_n 0, 1) := by decide +kernel
theorem dX11_fits_35 : decode cX11_fits 35 = .ok (.iload 5, 2) := by decide +kernel
theorem dX11_fits_37 : decode cX11_fits 37 = .ok (.invokevirtual 426, 3) := by decide +kernel
theorem dX11_fits_40 : decode cX11_fits 40 = .ok (.ifCond .ne 6, 3) := by decide +kernel
theorem dX11_fits_43 : decode cX11_fits 43 = .ok (.goto 17, 3) := by decide +kernel
theorem dX11_fits_46 : decode cX11_fits 46 = .ok (.iinc 2 1, 3) := by decide +kernel
theorem dX11_fits_49 : decode cX11_fits 49 = .ok (.iload_n 3, 1) := by decide +kernel
theorem dX11_fits_50 : decode cX11_fits 50 = .ok (.ifCond .ge 6, 3) := by decide +kernel
theorem dX11_fits_53 : decode cX11_fits 53 = .ok (.iload 5, 2) := by decide +kernel
theorem dX11_fits_55 : decode cX11_fits 55 = .ok (.istore_n 3, 1) := by decide +kernel
theorem dX11_fits_56 : decode cX11_fits 56 = .ok (.iload 5, 2) := by decide +kernel
theorem dX11_fits_58 : decode cX11_fits 58 = .ok (.istore 4, 2) := by decide +kernel
theorem dX11_fits_60 : decode cX11_fits 60 = .ok (.iinc 5 1, 3) := by decide +kernel
theorem dX11_fits_63 : decode cX11_fits 63 = .ok (.goto (-37), 3) := by decide +kernel
theorem dX11_fits_66 : decode cX11_fits 66 = .ok (.iload_n 1, 1) := by decide +kernel
theorem dX11_fits_67 : decode cX11_fits 67 = .ok (.ifCond .ne 7, 3) := by decide +kernel
theorem dX11_fits_70 : decode cX11_fits 70 = .ok (.iload_n 2, 1) := by decide +kernel
theorem dX11_fits_71 : decode cX11_fits 71 = .ok (.goto 14, 3) := by decide +kernel
theorem dX11_fits_74 : decode cX11_fits 74 = .ok (.iload_n 1, 1) := by decide +kernel
theorem dX11_fits_75 : decode cX11_fits 75 = .ok (.iconst 1, 1) := by decide +kernel
theorem dX11_fits_76 : decode cX11_fits 76 = .ok (.if_icmp .ne 7, 3) := by decide +kernel
theorem dX11_fits_79 : decode cX11_fits 79 = .ok (.iload_n 3, 1) := by decide +kernel
theorem dX11_fits_80 : decode cX11_fits 80 = .ok (.goto 5, 3) := by decide +kernel
theorem dX11_fits_83 : decode cX11_fits 83 = .ok (.iload 4, 2) := by decide +kernel
theorem dX11_fits_85 : decode cX11_fits 85 = .ok (.ireturn, 1) := by decide +kernel
theorem dX11_ask_0 : decode cX11_ask 0 = .ok (.aload_n 0, 1) := by decide +kernel
theorem dX11_ask_1 : decode cX11_ask 1 = .ok (.iconst 0, 1) := by decide +kernel
theorem dX11_ask_2 : decode cX11_ask 2 = .ok (.putfield 137, 3) := by decide +kernel
theorem dX11_ask_5 : decode cX11_ask 5 = .ok (.iconst 0, 1) := by decide +kernel
theorem dX11_ask_6 : decode cX11_ask 6 = .ok (.istore_n 1, 1) := by decide +kernel
theorem dX11_ask_7 : decode cX11_ask 7 = .ok (.iload_n 1, 1) := by decide +kernel
theorem dX11_ask_8 : decode cX11_ask 8 = .ok (.bipush 41, 2) := by decide +kernel
theorem dX11_ask_10 : decode cX11_ask 10 = .ok (.if_icmp .ge 16, 3) := by decide +kernel
theorem dX11_ask_13 : decode cX11_ask 13 = .ok (.aload_n 0, 1) := by decide +kernel
theorem dX11_ask_14 : decode cX11_ask 14 = .ok (.getfield 127, 3) := by decide +kernel
theorem dX11_ask_17 : decode cX11_ask 17 = .ok (.iload_n 1, 1) := by decide +kernel
theorem dX11_ask_18 : decode cX11_ask 18 = .ok (.iconst 0, 1) := by decide +kernel
theorem dX11_ask_19 : decode cX11_ask 19 = .ok (.iastore, 1) := by decide +kernel
theorem dX11_ask_20 : decode cX11_ask 20 = .ok (.iinc 1 1, 3) := by decide +kernel
theorem dX11_ask_23 : decode cX11_ask 23 = .ok (.goto (-16), 3) := by decide +kernel
theorem dX11_ask_26 : decode cX11_ask 26 = .ok (.iconst 0, 1) := by decide +kernel
theorem dX11_ask_27 : decode cX11_ask 27 = .ok (.istore_n 1, 1) := by decide +kernel
theorem dX11_ask_28 : decode cX11_ask 28 = .ok (.iconst 1, 1) := by decide +kernel
theorem dX11_ask_29 : decode cX11_ask 29 = .ok (.istore_n 2, 1) := by decide +kernel
theorem dX11_ask_30 : decode cX11_ask 30 = .ok (.iload_n 2, 1) := by decide +kernel
theorem dX11_ask_31 : decode cX11_ask 31 = .ok (.sipush 2001, 3) := by decide +kernel
theorem dX11_ask_34 : decode cX11_ask 34 = .ok (.if_icmp .ge 60, 3) := by decide +kernel
theorem dX11_ask_37 : decode cX11_ask 37 = .ok (.aload_n 0, 1) := by decide +kernel
theorem dX11_ask_38 : decode cX11_ask 38 = .ok (.iload_n 2, 1) := by decide +kernel
theorem dX11_ask_39 : decode cX11_ask 39 = .ok (.invokevirtual 426, 3) := by decide +kernel
theorem dX11_ask_42 : decode cX11_ask 42 = .ok (.ifCond .ne 6, 3) := by decide +kernel
theorem dX11_ask_45 : decode cX11_ask 45 = .ok (.goto 43, 3) := by decide +kernel
theorem dX11_ask_48 : decode cX11_ask 48 = .ok (.iinc 1 1, 3) := by decide +kernel
theorem dX11_ask_51 : decode cX11_ask 51 = .ok (.iconst 0, 1) := by decide +kernel
theorem dX11_ask_52 : decode cX11_ask 52 = .ok (.istore_n 3, 1) := by decide +kernel
theorem dX11_ask_53 : decode cX11_ask 53 = .ok (.iload_n 3, 1) := by decide +kernel
theorem dX11_ask_54 : decode cX11_ask 54 = .ok (.bipush 41, 2) := by decide +kernel
theorem dX11_ask_56 : decode cX11_ask 56 = .ok (.if_icmp .ge 32, 3) := by decide +kernel
theorem dX11_ask_59 : decode cX11_ask 59 = .ok (.aload_n 0, 1) := by decide +kernel
theorem dX11_ask_60 : decode cX11_ask 60 = .ok (.getfield 127, 3) := by decide +kernel
theorem dX11_ask_63 : decode cX11_ask 63 = .ok (.iload_n 3, 1) := by decide +kernel
theorem dX11_ask_64 : decode cX11_ask 64 = .ok (.dup2, 1) := by decide +kernel
theorem dX11_ask_65 : decode cX11_ask 65 = .ok (.iaload, 1) := by decide +kernel
theorem dX11_ask_66 : decode cX11_ask 66 = .ok (.iload_n 2, 1) := by decide +kernel
theorem dX11_ask_67 : decode cX11_ask 67 = .ok (.iload_n 3, 1) := by decide +kernel
theorem dX11_ask_68 : decode cX11_ask 68 = .ok (.iadd, 1) := by decide +kernel
theorem dX11_ask_69 : decode cX11_ask 69 = .ok (.invokestatic 321, 3) := by decide +kernel
theorem dX11_ask_72 : decode cX11_ask 72 = .ok (.ifCond .eq 7, 3) := by decide +kernel
theorem dX11_ask_75 : decode cX11_ask 75 = .ok (.iconst 1, 1) := by decide +kernel
theorem dX11_ask_76 : decode cX11_ask 76 = .ok (.goto 4, 3) := by decide +kernel
theorem dX11_ask_79 : decode cX11_ask 79 = .ok (.iconst 0, 1) := by decide +kernel
theorem dX11_ask_80 : decode cX11_ask 80 = .ok (.iadd, 1) := by decide +kernel
theorem dX11_ask_81 : decode cX11_ask 81 = .ok (.iastore, 1) := by decide +kernel
theorem dX11_ask_82 : decode cX11_ask 82 = .ok (.iinc 3 1, 3) := by decide +kernel
theorem dX11_ask_85 : decode cX11_ask 85 = .ok (.goto (-32), 3) := by decide +kernel
theorem dX11_ask_88 : decode cX11_ask 88 = .ok (.iinc 2 1, 3) := by decide +kernel
theorem dX11_ask_91 : decode cX11_ask 91 = .ok (.goto (-61), 3) := by decide +kernel
theorem dX11_ask_94 : decode cX11_ask 94 = .ok (.iload_n 1, 1) := by decide +kernel
theorem dX11_ask_95 : decode cX11_ask 95 = .ok (.istore_n 2, 1) := by decide +kernel
theorem dX11_ask_96 : decode cX11_ask 96 = .ok (.iconst (-1), 1) := by decide +kernel
theorem dX11_ask_97 : decode cX11_ask 97 = .ok (.istore_n 3, 1) := by decide +kernel
theorem dX11_ask_98 : decode cX11_ask 98 = .ok (.iconst 0, 1) := by decide +kernel
theorem dX11_ask_99 : decode cX11_ask 99 = .ok (.istore 4, 2) := by decide +kernel
theorem dX11_ask_101 : decode cX11_ask 101 = .ok (.iload 4, 2) := by decide +kernel
theorem dX11_ask_103 : decode cX11_ask 103 = .ok (.bipush 41, 2) := by decide +kernel
theorem dX11_ask_105 : decode cX11_ask 105 = .ok (.if_icmp .ge 45, 3) := by decide +kernel
theorem dX11_ask_108 : decode cX11_ask 108 = .ok (.aload_n 0, 1) := by decide +kernel
theorem dX11_ask_109 : decode cX11_ask 109 = .ok (.getfield 127, 3) := by decide +kernel
theorem dX11_ask_112 : decode cX11_ask 112 = .ok (.iload 4, 2) := by decide +kernel
theorem dX11_ask_114 : decode cX11_ask 114 = .ok (.iaload, 1) := by decide +kernel
theorem dX11_ask_115 : decode cX11_ask 115 = .ok (.iload_n 1, 1) := by decide +kernel
theorem dX11_ask_116 : decode cX11_ask 116 = .ok (.aload_n 0, 1) := by decide +kernel
theorem dX11_ask_117 : decode cX11_ask 117 = .ok (.getfield 127, 3) := by decide +kernel
theorem dX11_ask_120 : decode cX11_ask 120 = .ok (.iload 4, 2) := by decide +kernel
theorem dX11_ask_122 : decode cX11_ask 122 = .ok (.iaload, 1) := by decide +kernel
theorem dX11_ask_123 : decode cX11_ask 123 = .ok (.isub, 1) := by decide +kernel
theorem dX11_ask_124 : decode cX11_ask 124 = .ok (.invokestatic 342, 3) := by decide +kernel
theorem dX11_ask_127 : decode cX11_ask 127 = .ok (.istore 5, 2) := by decide +kernel
theorem dX11_ask_129 : decode cX11_ask 129 = .ok (.iload 5, 2) := by decide +kernel
theorem dX11_ask_131 : decode cX11_ask 131 = .ok (.iload_n 2, 1) := by decide +kernel
theorem dX11_ask_132 : decode cX11_ask 132 = .ok (.if_icmp .lt 6, 3) := by decide +kernel
theorem dX11_ask_135 : decode cX11_ask 135 = .ok (.goto 9, 3) := by decide +kernel
theorem dX11_ask_138 : decode cX11_ask 138 = .ok (.iload 5, 2) := by decide +kernel
theorem dX11_ask_140 : decode cX11_ask 140 = .ok (.istore_n 2, 1) := by decide +kernel
theorem dX11_ask_141 : decode cX11_ask 141 = .ok (.iload 4, 2) := by decide +kernel
theorem dX11_ask_143 : decode cX11_ask 143 = .ok (.istore_n 3, 1) := by decide +kernel
theorem dX11_ask_144 : decode cX11_ask 144 = .ok (.iinc 4 1, 3) := by decide +kernel
theorem dX11_ask_147 : decode cX11_ask 147 = .ok (.goto (-46), 3) := by decide +kernel
theorem dX11_ask_150 : decode cX11_ask 150 = .ok (.iload_n 3, 1) := by decide +kernel
theorem dX11_ask_151 : decode cX11_ask 151 = .ok (.ireturn, 1) := by decide +kernel
theorem dX11_chance_0 : decode cX11_chance 0 = .ok (.aload_n 0, 1) := by decide +kernel
theorem dX11_chance_1 : decode cX11_chance 1 = .ok (.iconst 0, 1) := by decide +kernel
theorem dX11_chance_2 : decode cX11_chance 2 = .ok (.putfield 137, 3) := by decide +kernel
theorem dX11_chance_5 : decode cX11_chance 5 = .ok (.aload_n 0, 1) := by decide +kernel
theorem dX11_chance_6 : decode cX11_chance 6 = .ok (.iload_n 1, 1) := by decide +kernel
theorem dX11_chance_7 : decode cX11_chance 7 = .ok (.invokevirtual 373, 3) := by decide +kernel
theorem dX11_chance_10 : decode cX11_chance 10 = .ok (.ifCond .eq 21, 3) := by decide +kernel
theorem dX11_chance_13 : decode cX11_chance 13 = .ok (.aload_n 0, 1) := by decide +kernel
theorem dX11_chance_14 : decode cX11_chance 14 = .ok (.iload_n 1, 1) := by decide +kernel
theorem dX11_chance_15 : decode cX11_chance 15 = .ok (.invokevirtual 324, 3) := by decide +kernel
theorem dX11_chance_18 : decode cX11_chance 18 = .ok (.ifCond .lt 13, 3) := by decide +kernel
theorem dX11_chance_21 : decode cX11_chance 21 = .ok (.iload_n 2, 1) := by decide +kernel
theorem dX11_chance_22 : decode cX11_chance 22 = .ok (.iconst 0, 1) := by decide +kernel
theorem dX11_chance_23 : decode cX11_chance 23 = .ok (.bipush 10, 2) := by decide +kernel
theorem dX11_chance_25 : decode cX11_chance 25 = .ok (.invokestatic 254, 3) := by decide +kernel
theorem dX11_chance_28 : decode cX11_chance 28 = .ok (.ifCond .ne 5, 3) := by decide +kernel
theorem dX11_chance_31 : decode cX11_chance 31 = .ok (.iconst (-1), 1) := by decide +kernel
theorem dX11_chance_32 : decode cX11_chance 32 = .ok (.ireturn, 1) := by decide +kernel
theorem dX11_chance_33 : decode cX11_chance 33 = .ok (.aload_n 0, 1) := by decide +kernel
theorem dX11_chance_34 : decode cX11_chance 34 = .ok (.aload_n 0, 1) := by decide +kernel
theorem dX11_chance_35 : decode cX11_chance 35 = .ok (.getfield 13, 3) := by decide +kernel
theorem dX11_chance_38 : decode cX11_chance 38 = .ok (.iconst 2, 1) := by decide +kernel
theorem dX11_chance_39 : decode cX11_chance 39 = .ok (.iaload, 1) := by decide +kernel
theorem dX11_chance_40 : decode cX11_chance 40 = .ok (.putfield 117, 3) := by decide +kernel
theorem dX11_chance_43 : decode cX11_chance 43 = .ok (.aload_n 0, 1) := by decide +kernel
theorem dX11_chance_44 : decode cX11_chance 44 = .ok (.invokevirtual 423, 3) := by decide +kernel
theorem dX11_chance_47 : decode cX11_chance 47 = .ok (.iconst 1, 1) := by decide +kernel
theorem dX11_chance_48 : decode cX11_chance 48 = .ok (.iload_n 1, 1) := by decide +kernel
theorem dX11_chance_49 : decode cX11_chance 49 = .ok (.ishl, 1) := by decide +kernel
theorem dX11_chance_50 : decode cX11_chance 50 = .ok (.iconst (-1), 1) := by decide +kernel
theorem dX11_chance_51 : decode cX11_chance 51 = .ok (.ixor, 1) := by decide +kernel
theorem dX11_chance_52 : decode cX11_chance 52 = .ok (.iand, 1) := by decide +kernel
theorem dX11_chance_53 : decode cX11_chance 53 = .ok (.istore_n 3, 1) := by decide +kernel
theorem dX11_chance_54 : decode cX11_chance 54 = .ok (.lconst 0, 1) := by decide +kernel
theorem dX11_chance_55 : decode cX11_chance 55 = .ok (.lstore 4, 2) := by decide +kernel
theorem dX11_chance_57 : decode cX11_chance 57 = .ok (.lconst 1, 1) := by decide +kernel
theorem dX11_chance_58 : decode cX11_chance 58 = .ok (.lstore 6, 2) := by decide +kernel
theorem dX11_chance_60 : decode cX11_chance 60 = .ok (.iconst 0, 1) := by decide +kernel
theorem dX11_chance_61 : decode cX11_chance 61 = .ok (.istore 8, 2) := by decide +kernel
theorem dX11_chance_63 : decode cX11_chance 63 = .ok (.iload 8, 2) := by decide +kernel
theorem dX11_chance_65 : decode cX11_chance 65 = .ok (.iload_n 3, 1) := by decide +kernel
theorem dX11_chance_66 : decode cX11_chance 66 = .ok (.invokestatic 398, 3) := by decide +kernel
theorem dX11_chance_69 : decode cX11_chance 69 = .ok (.if_icmp .ge 17, 3) := by decide +kernel
theorem dX11_chance_72 : decode cX11_chance 72 = .ok (.lload 6, 2) := by decide +kernel
theorem dX11_chance_74 : decode cX11_chance 74 = .ok (.ldc2_w 429, 3) := by decide +kernel
theorem dX11_chance_77 : decode cX11_chance 77 = .ok (.lmul, 1) := by decide +kernel
theorem dX11_chance_78 : decode cX11_chance 78 = .ok (.lstore 6, 2) := by decide +kernel
theorem dX11_chance_80 : decode cX11_chance 80 = .ok (.iinc 8 1, 3) := by decide +kernel
theorem dX11_chance_83 : decode cX11_chance 83 = .ok (.goto (-20), 3) := by decide +kernel
theorem dX11_chance_86 : decode cX11_chance 86 = .ok (.aload_n 0, 1) := by decide +kernel
theorem dX11_chance_87 : decode cX11_chance 87 = .ok (.getfield 93, 3) := by decide +kernel
theorem dX11_chance_90 : decode cX11_chance 90 = .ok (.iconst 0, 1) := by decide +kernel
theorem dX11_chance_91 : decode cX11_chance 91 = .ok (.aload_n 0, 1) := by decide +kernel
theorem dX11_chance_92 : decode cX11_chance 92 = .ok (.getfield 99, 3) := by decide +kernel
theorem dX11_chance_95 : decode cX11_chance 95 = .ok (.iconst 0, 1) := by decide +kernel
theorem dX11_chance_96 : decode cX11_chance 96 = .ok (.invokestatic 376, 3) := by decide +kernel
theorem dX11_chance_99 : decode cX11_chance 99 = .ok (.iconst 0, 1) := by decide +kernel
theorem dX11_chance_100 : decode cX11_chance 100 = .ok (.istore 8, 2) := by decide +kernel
theorem dX11_chance_102 : decode cX11_chance 102 = .ok (.iload 8, 2) := by decide +kernel
theorem dX11_chance_104 : decode cX11_chance 104 = .ok (.iload_n 3, 1) := by decide +kernel
theorem dX11_chance_105 : decode cX11_chance 105 = .ok (.if_icmp .gt 137, 3) := by decide +kernel
theorem dX11_chance_108 : decode cX11_chance 108 = .ok (.iload 8, 2) := by decide +kernel
theorem dX11_chance_110 : decode cX11_chance 110 = .ok (.iload_n 3, 1) := by decide +kernel
theorem dX11_chance_111 : decode cX11_chance 111 = .ok (.iconst (-1), 1) := by decide +kernel
theorem dX11_chance_112 : decode cX11_chance 112 = .ok (.ixor, 1) := by decide +kernel
theorem dX11_chance_113 : decode cX11_chance 113 = .ok (.iand, 1) := by decide +kernel
theorem dX11_chance_114 : decode cX11_chance 114 = .ok (.ifCond .eq 6, 3) := by decide +kernel
theorem dX11_chance_117 : decode cX11_chance 117 = .ok (.goto 119, 3) := by decide +kernel
theorem dX11_chance_120 : decode cX11_chance 120 = .ok (.lconst 1, 1) := by decide +kernel
theorem dX11_chance_121 : decode cX11_chance 121 = .ok (.lstore 9, 2) := by decide +kernel
theorem dX11_chance_123 : decode cX11_chance 123 = .ok (.iconst 0, 1) := by decide +kernel
theorem dX11_chance_124 : decode cX11_chance 124 = .ok (.istore 11, 2) := by decide +kernel
theorem dX11_chance_126 : decode cX11_chance 126 = .ok (.iload 11, 2) := by decide +kernel
theorem dX11_chance_128 : decode cX11_chance 128 = .ok (.aload_n 0, 1) := by decide +kernel
theorem dX11_chance_129 : decode cX11_chance 129 = .ok (.getfield 13, 3) := by decide +kernel
theorem dX11_chance_132 : decode cX11_chance 132 = .ok (.iconst 0, 1) := by decide +kernel
theorem dX11_chance_133 : decode cX11_chance 133 = .ok (.iaload, 1) := by decide +kernel
theorem dX11_chance_134 : decode cX11_chance 134 = .ok (.if_icmp .ge 70, 3) := by decide +kernel
theorem dX11_chance_137 : decode cX11_chance 137 = .ok (.iload_n 3, 1) := by decide +kernel
theorem dX11_chance_138 : decode cX11_chance 138 = .ok (.iload 11, 2) := by decide +kernel
theorem dX11_chance_140 : decode cX11_chance 140 = .ok (.ishr, 1) := by decide +kernel
theorem dX11_chance_141 : decode cX11_chance 141 = .ok (.iconst 1, 1) := by decide +kernel
theorem dX11_chance_142 : decode cX11_chance 142 = .ok (.iand, 1) := by decide +kernel
theorem dX11_chance_143 : decode cX11_chance 143 = .ok (.ifCond .ne 6, 3) := by decide +kernel
theorem dX11_chance_146 : decode cX11_chance 146 = .ok (.goto 52, 3) := by decide +kernel
theorem dX11_chance_149 : decode cX11_chance 149 = .ok (.iload 8, 2) := by decide +kernel
theorem dX11_chance_151 : decode cX11_chance 151 = .ok (.iload 11, 2) := by decide +kernel
theorem dX11_chance_153 : decode cX11_chance 153 = .ok (.ishr, 1) := by decide +kernel
theorem dX11_chance_154 : decode cX11_chance 154 = .ok (.iconst 1, 1) := by decide +kernel
theorem dX11_chance_155 : decode cX11_chance 155 = .ok (.iand, 1) := by decide +kernel
theorem dX11_chance_156 : decode cX11_chance 156 = .ok (.iconst 1, 1) := by decide +kernel
theorem dX11_chance_157 : decode cX11_chance 157 = .ok (.if_icmp .ne 7, 3) := by decide +kernel
theorem dX11_chance_160 : decode cX11_chance 160 = .ok (.iconst 1, 1) := by decide +kernel
theorem dX11_chance_161 : decode cX11_chance 161 = .ok (.goto 4, 3) := by decide +kernel
theorem dX11_chance_164 : decode cX11_chance 164 = .ok (.iconst 0, 1) := by decide +kernel
theorem dX11_chance_165 : decode cX11_chance 165 = .ok (.istore 12, 2) := by decide +kernel
theorem dX11_chance_167 : decode cX11_chance 167 = .ok (.lload 9, 2) := by decide +kernel
theorem dX11_chance_169 : decode cX11_chance 169 = .ok (.iload 12, 2) := by decide +kernel
theorem dX11_chance_171 : decode cX11_chance 171 = .ok (.ifCond .eq 8, 3) := by decide +kernel
theorem dX11_chance_174 : decode cX11_chance 174 = .ok (.iload_n 2, 1) := by decide +kernel
theorem dX11_chance_175 : decode cX11_chance 175 = .ok (.i2l, 1) := by decide +kernel
theorem dX11_chance_176 : decode cX11_chance 176 = .ok (.goto 8, 3) := by decide +kernel
theorem dX11_chance_179 : decode cX11_chance 179 = .ok (.bipush 10, 2) := by decide +kernel
theorem dX11_chance_181 : decode cX11_chance 181 = .ok (.iload_n 2, 1) := by decide +kernel
theorem dX11_chance_182 : decode cX11_chance 182 = .ok (.isub, 1) := by decide +kernel
theorem dX11_chance_183 : decode cX11_chance 183 = .ok (.i2l, 1) := by decide +kernel
theorem dX11_chance_184 : decode cX11_chance 184 = .ok (.lmul, 1) := by decide +kernel
theorem dX11_chance_185 : decode cX11_chance 185 = .ok (.lstore 9, 2) := by decide +kernel
theorem dX11_chance_187 : decode cX11_chance 187 = .ok (.iload 12, 2) := by decide +kernel
theorem dX11_chance_189 : decode cX11_chance 189 = .ok (.ifCond .ne 9, 3) := by decide +kernel
theorem dX11_chance_192 : decode cX11_chance 192 = .ok (.aload_n 0, 1) := by decide +kernel
theorem dX11_chance_193 : decode cX11_chance 193 = .ok (.iload 11, 2) := by decide +kernel
theorem dX11_chance_195 : decode cX11_chance 195 = .ok (.invokevirtual 361, 3) := by decide +kernel
theorem dX11_chance_198 : decode cX11_chance 198 = .ok (.iinc 11 1, 3) := by decide +kernel
theorem dX11_chance_201 : decode cX11_chance 201 = .ok (.goto (-75), 3) := by decide +kernel
theorem dX11_chance_204 : decode cX11_chance 204 = .ok (.aload_n 0, 1) := by decide +kernel
theorem dX11_chance_205 : decode cX11_chance 205 = .ok (.invokevirtual 392, 3) := by decide +kernel
theorem dX11_chance_208 : decode cX11_chance 208 = .ok (.aload_n 0, 1) := by decide +kernel
theorem dX11_chance_209 : decode cX11_chance 209 = .ok (.iload_n 1, 1) := by decide +kernel
theorem dX11_chance_210 : decode cX11_chance 210 = .ok (.invokevirtual 327, 3) := by decide +kernel
theorem dX11_chance_213 : decode cX11_chance 213 = .ok (.ifCond .eq 10, 3) := by decide +kernel
theorem dX11_chance_216 : decode cX11_chance 216 = .ok (.lload 4, 2) := by decide +kernel
theorem dX11_chance_218 : decode cX11_chance 218 = .ok (.lload 9, 2) := by decide +kernel
theorem dX11_chance_220 : decode cX11_chance 220 = .ok (.ladd, 1) := by decide +kernel
theorem dX11_chance_221 : decode cX11_chance 221 = .ok (.lstore 4, 2) := by decide +kernel
theorem dX11_chance_223 : decode cX11_chance 223 = .ok (.aload_n 0, 1) := by decide +kernel
theorem dX11_chance_224 : decode cX11_chance 224 = .ok (.getfield 99, 3) := by decide +kernel
theorem dX11_chance_227 : decode cX11_chance 227 = .ok (.iconst 0, 1) := by decide +kernel
theorem dX11_chance_228 : decode cX11_chance 228 = .ok (.aload_n 0, 1) := by decide +kernel
theorem dX11_chance_229 : decode cX11_chance 229 = .ok (.getfield 93, 3) := by decide +kernel
theorem dX11_chance_232 : decode cX11_chance 232 = .ok (.iconst 0, 1) := by decide +kernel
theorem dX11_chance_233 : decode cX11_chance 233 = .ok (.invokestatic 376, 3) := by decide +kernel
theorem dX11_chance_236 : decode cX11_chance 236 = .ok (.iinc 8 1, 3) := by decide +kernel
theorem dX11_chance_239 : decode cX11_chance 239 = .ok (.goto (-137), 3) := by decide +kernel
theorem dX11_chance_242 : decode cX11_chance 242 = .ok (.lload 4, 2) := by decide +kernel
theorem dX11_chance_244 : decode cX11_chance 244 = .ok (.ldc2_w 431, 3) := by decide +kernel
theorem dX11_chance_247 : decode cX11_chance 247 = .ok (.lmul, 1) := by decide +kernel
theorem dX11_chance_248 : decode cX11_chance 248 = .ok (.lload 6, 2) := by decide +kernel
theorem dX11_chance_250 : decode cX11_chance 250 = .ok (.ldiv, 1) := by decide +kernel
theorem dX11_chance_251 : decode cX11_chance 251 = .ok (.l2i, 1) := by decide +kernel
theorem dX11_chance_252 : decode cX11_chance 252 = .ok (.ireturn, 1) := by decide +kernel
theorem dX11_getsBy_0 : decode cX11_getsBy 0 = .ok (.iload_n 3, 1) := by decide +kernel
theorem dX11_getsBy_1 : decode cX11_getsBy 1 = .ok (.iconst 1, 1) := by decide +kernel
theorem dX11_getsBy_2 : decode cX11_getsBy 2 = .ok (.if_icmp .ne 18, 3) := by decide +kernel
theorem dX11_getsBy_5 : decode cX11_getsBy 5 = .ok (.iload 4, 2) := by decide +kernel
theorem dX11_getsBy_7 : decode cX11_getsBy 7 = .ok (.iconst 1, 1) := by decide +kernel
theorem dX11_getsBy_8 : decode cX11_getsBy 8 = .ok (.if_icmp .ne 8, 3) := by decide +kernel
theorem dX11_getsBy_11 : decode cX11_getsBy 11 = .ok (.iload_n 0, 1) := by decide +kernel
theorem dX11_getsBy_12 : decode cX11_getsBy 12 = .ok (.ineg, 1) := by decide +kernel
theorem dX11_getsBy_13 : decode cX11_getsBy 13 = .ok (.goto 18, 3) := by decide +kernel
theorem dX11_getsBy_16 : decode cX11_getsBy 16 = .ok (.iload_n 1, 1) := by decide +kernel
theorem dX11_getsBy_17 : decode cX11_getsBy 17 = .ok (.goto 14, 3) := by decide +kernel
theorem dX11_getsBy_20 : decode cX11_getsBy 20 = .ok (.iload 4, 2) := by decide +kernel
theorem dX11_getsBy_22 : decode cX11_getsBy 22 = .ok (.iconst 1, 1) := by decide +kernel
theorem dX11_getsBy_23 : decode cX11_getsBy 23 = .ok (.if_icmp .ne 7, 3) := by decide +kernel
theorem dX11_getsBy_26 : decode cX11_getsBy 26 = .ok (.iload_n 2, 1) := by decide +kernel
theorem dX11_getsBy_27 : decode cX11_getsBy 27 = .ok (.goto 4, 3) := by decide +kernel
theorem dX11_getsBy_30 : decode cX11_getsBy 30 = .ok (.iconst 0, 1) := by decide +kernel
theorem dX11_getsBy_31 : decode cX11_getsBy 31 = .ok (.ireturn, 1) := by decide +kernel
theorem dX11_rests_0 : decode cX11_rests 0 = .ok (.aload_n 0, 1) := by decide +kernel
theorem dX11_rests_1 : decode cX11_rests 1 = .ok (.iload_n 1, 1) := by decide +kernel
theorem dX11_rests_2 : decode cX11_rests 2 = .ok (.iconst 0, 1) := by decide +kernel
theorem dX11_rests_3 : decode cX11_rests 3 = .ok (.bipush 9, 2) := by decide +kernel
theorem dX11_rests_5 : decode cX11_rests 5 = .ok (.invokestatic 254, 3) := by decide +kernel
theorem dX11_rests_8 : decode cX11_rests 8 = .ok (.ifCond .eq 33, 3) := by decide +kernel
theorem dX11_rests_11 : decode cX11_rests 11 = .ok (.iload_n 2, 1) := by decide +kernel
theorem dX11_rests_12 : decode cX11_rests 12 = .ok (.iconst 0, 1) := by decide +kernel
theorem dX11_rests_13 : decode cX11_rests 13 = .ok (.bipush 9, 2) := by decide +kernel
theorem dX11_rests_15 : decode cX11_rests 15 = .ok (.invokestatic 254, 3) := by decide +kernel
theorem dX11_rests_18 : decode cX11_rests 18 = .ok (.ifCond .eq 23, 3) := by decide +kernel
theorem dX11_rests_21 : decode cX11_rests 21 = .ok (.iload_n 3, 1) := by decide +kernel
theorem dX11_rests_22 : decode cX11_rests 22 = .ok (.iconst 0, 1) := by decide +kernel
theorem dX11_rests_23 : decode cX11_rests 23 = .ok (.bipush 9, 2) := by decide +kernel
theorem dX11_rests_25 : decode cX11_rests 25 = .ok (.invokestatic 254, 3) := by decide +kernel
theorem dX11_rests_28 : decode cX11_rests 28 = .ok (.ifCond .eq 13, 3) := by decide +kernel
theorem dX11_rests_31 : decode cX11_rests 31 = .ok (.iload 4, 2) := by decide +kernel
theorem dX11_rests_33 : decode cX11_rests 33 = .ok (.iconst (-1), 1) := by decide +kernel
theorem dX11_rests_34 : decode cX11_rests 34 = .ok (.if_icmp .lt 7, 3) := by decide +kernel
theorem dX11_rests_37 : decode cX11_rests 37 = .ok (.iconst 0, 1) := by decide +kernel
theorem dX11_rests_38 : decode cX11_rests 38 = .ok (.goto 4, 3) := by decide +kernel
theorem dX11_rests_41 : decode cX11_rests 41 = .ok (.iconst 1, 1) := by decide +kernel
theorem dX11_rests_42 : decode cX11_rests 42 = .ok (.putfield 137, 3) := by decide +kernel
theorem dX11_rests_45 : decode cX11_rests 45 = .ok (.aload_n 0, 1) := by decide +kernel
theorem dX11_rests_46 : decode cX11_rests 46 = .ok (.getfield 137, 3) := by decide +kernel
theorem dX11_rests_49 : decode cX11_rests 49 = .ok (.iconst 1, 1) := by decide +kernel
theorem dX11_rests_50 : decode cX11_rests 50 = .ok (.if_icmp .ne 5, 3) := by decide +kernel
theorem dX11_rests_53 : decode cX11_rests 53 = .ok (.iconst 0, 1) := by decide +kernel
theorem dX11_rests_54 : decode cX11_rests 54 = .ok (.ireturn, 1) := by decide +kernel
theorem dX11_rests_55 : decode cX11_rests 55 = .ok (.iconst 0, 1) := by decide +kernel
theorem dX11_rests_56 : decode cX11_rests 56 = .ok (.istore 5, 2) := by decide +kernel
theorem dX11_rests_58 : decode cX11_rests 58 = .ok (.iconst 0, 1) := by decide +kernel
theorem dX11_rests_59 : decode cX11_rests 59 = .ok (.istore 6, 2) := by decide +kernel
theorem dX11_rests_61 : decode cX11_rests 61 = .ok (.iload 6, 2) := by decide +kernel
theorem dX11_rests_63 : decode cX11_rests 63 = .ok (.iconst 4, 1) := by decide +kernel
theorem dX11_rests_64 : decode cX11_rests 64 = .ok (.if_icmp .ge 87, 3) := by decide +kernel
theorem dX11_rests_67 : decode cX11_rests 67 = .ok (.iload 6, 2) := by decide +kernel
theorem dX11_rests_69 : decode cX11_rests 69 = .ok (.iconst 2, 1) := by decide +kernel
theorem dX11_rests_70 : decode cX11_rests 70 = .ok (.idiv, 1) := by decide +kernel
theorem dX11_rests_71 : decode cX11_rests 71 = .ok (.istore 7, 2) := by decide +kernel
theorem dX11_rests_73 : decode cX11_rests 73 = .ok (.iload 6, 2) := by decide +kernel
theorem dX11_rests_75 : decode cX11_rests 75 = .ok (.iconst 2, 1) := by decide +kernel
theorem dX11_rests_76 : decode cX11_rests 76 = .ok (.irem, 1) := by decide +kernel
theorem dX11_rests_77 : decode cX11_rests 77 = .ok (.istore 8, 2) := by decide +kernel
theorem dX11_rests_79 : decode cX11_rests 79 = .ok (.iload_n 1, 1) := by decide +kernel
theorem dX11_rests_80 : decode cX11_rests 80 = .ok (.iload_n 2, 1) := by decide +kernel
theorem dX11_rests_81 : decode cX11_rests 81 = .ok (.iload_n 3, 1) := by decide +kernel
theorem dX11_rests_82 : decode cX11_rests 82 = .ok (.iconst 1, 1) := by decide +kernel
theorem dX11_rests_83 : decode cX11_rests 83 = .ok (.iload 7, 2) := by decide +kernel
theorem dX11_rests_85 : decode cX11_rests 85 = .ok (.isub, 1) := by decide +kernel
theorem dX11_rests_86 : decode cX11_rests 86 = .ok (.iload 8, 2) := by decide +kernel
theorem dX11_rests_88 : decode cX11_rests 88 = .ok (.invokestatic 433, 3) := by decide +kernel
theorem dX11_rests_91 : decode cX11_rests 91 = .ok (.iload_n 1, 1) := by decide +kernel
theorem dX11_rests_92 : decode cX11_rests 92 = .ok (.iload_n 2, 1) := by decide +kernel
theorem dX11_rests_93 : decode cX11_rests 93 = .ok (.iload_n 3, 1) := by decide +kernel
theorem dX11_rests_94 : decode cX11_rests 94 = .ok (.iload 7, 2) := by decide +kernel
theorem dX11_rests_96 : decode cX11_rests 96 = .ok (.iload 8, 2) := by decide +kernel
theorem dX11_rests_98 : decode cX11_rests 98 = .ok (.invokestatic 433, 3) := by decide +kernel
theorem dX11_rests_101 : decode cX11_rests 101 = .ok (.if_icmp .gt 44, 3) := by decide +kernel
theorem dX11_rests_104 : decode cX11_rests 104 = .ok (.iload_n 1, 1) := by decide +kernel
theorem dX11_rests_105 : decode cX11_rests 105 = .ok (.iload_n 2, 1) := by decide +kernel
theorem dX11_rests_106 : decode cX11_rests 106 = .ok (.iload_n 3, 1) := by decide +kernel
theorem dX11_rests_107 : decode cX11_rests 107 = .ok (.iconst 1, 1) := by decide +kernel
theorem dX11_rests_108 : decode cX11_rests 108 = .ok (.iload 8, 2) := by decide +kernel
theorem dX11_rests_110 : decode cX11_rests 110 = .ok (.isub, 1) := by decide +kernel
theorem dX11_rests_111 : decode cX11_rests 111 = .ok (.iload 7, 2) := by decide +kernel
theorem dX11_rests_113 : decode cX11_rests 113 = .ok (.invokestatic 433, 3) := by decide +kernel
theorem dX11_rests_116 : decode cX11_rests 116 = .ok (.iload_n 1, 1) := by decide +kernel
theorem dX11_rests_117 : decode cX11_rests 117 = .ok (.iload_n 2, 1) := by decide +kernel
theorem dX11_rests_118 : decode cX11_rests 118 = .ok (.iload_n 3, 1) := by decide +kernel
theorem dX11_rests_119 : decode cX11_rests 119 = .ok (.iload 8, 2) := by decide +kernel
theorem dX11_rests_121 : decode cX11_rests 121 = .ok (.iload 7, 2) := by decide +kernel
theorem dX11_rests_123 : decode cX11_rests 123 = .ok (.invokestatic 433, 3) := by decide +kernel
theorem dX11_rests_126 : decode cX11_rests 126 = .ok (.if_icmp .le 6, 3) := by decide +kernel
theorem dX11_rests_129 : decode cX11_rests 129 = .ok (.goto 16, 3) := by decide +kernel
theorem dX11_rests_132 : decode cX11_rests 132 = .ok (.iload 5, 2) := by decide +kernel
theorem dX11_rests_134 : decode cX11_rests 134 = .ok (.iload 4, 2) := by decide +kernel
theorem dX11_rests_136 : decode cX11_rests 136 = .ok (.if_icmp .ne 6, 3) := by decide +kernel
theorem dX11_rests_139 : decode cX11_rests 139 = .ok (.iload 6, 2) := by decide +kernel
theorem dX11_rests_141 : decode cX11_rests 141 = .ok (.ireturn, 1) := by decide +kernel
theorem dX11_rests_142 : decode cX11_rests 142 = .ok (.iinc 5 1, 3) := by decide +kernel
theorem dX11_rests_145 : decode cX11_rests 145 = .ok (.iinc 6 1, 3) := by decide +kernel
theorem dX11_rests_148 : decode cX11_rests 148 = .ok (.goto (-87), 3) := by decide +kernel
theorem dX11_rests_151 : decode cX11_rests 151 = .ok (.aload_n 0, 1) := by decide +kernel
theorem dX11_rests_152 : decode cX11_rests 152 = .ok (.iload 4, 2) := by decide +kernel
theorem dX11_rests_154 : decode cX11_rests 154 = .ok (.iconst (-1), 1) := by decide +kernel
theorem dX11_rests_155 : decode cX11_rests 155 = .ok (.if_icmp .ne 7, 3) := by decide +kernel
theorem dX11_rests_158 : decode cX11_rests 158 = .ok (.iconst 0, 1) := by decide +kernel
theorem dX11_rests_159 : decode cX11_rests 159 = .ok (.goto 4, 3) := by decide +kernel
theorem dX11_rests_162 : decode cX11_rests 162 = .ok (.iconst 1, 1) := by decide +kernel
theorem dX11_rests_163 : decode cX11_rests 163 = .ok (.putfield 137, 3) := by decide +kernel
theorem dX11_rests_166 : decode cX11_rests 166 = .ok (.iload 4, 2) := by decide +kernel
theorem dX11_rests_168 : decode cX11_rests 168 = .ok (.iconst (-1), 1) := by decide +kernel
theorem dX11_rests_169 : decode cX11_rests 169 = .ok (.if_icmp .ne 8, 3) := by decide +kernel
theorem dX11_rests_172 : decode cX11_rests 172 = .ok (.iload 5, 2) := by decide +kernel
theorem dX11_rests_174 : decode cX11_rests 174 = .ok (.goto 4, 3) := by decide +kernel
theorem dX11_rests_177 : decode cX11_rests 177 = .ok (.iconst 0, 1) := by decide +kernel
theorem dX11_rests_178 : decode cX11_rests 178 = .ok (.ireturn, 1) := by decide +kernel
theorem dX11_draws_0 : decode cX11_draws 0 = .ok (.aload_n 0, 1) := by decide +kernel
theorem dX11_draws_1 : decode cX11_draws 1 = .ok (.aload_n 0, 1) := by decide +kernel
theorem dX11_draws_2 : decode cX11_draws 2 = .ok (.getfield 437, 3) := by decide +kernel
theorem dX11_draws_5 : decode cX11_draws 5 = .ok (.ldc2_w 440, 3) := by decide +kernel
theorem dX11_draws_8 : decode cX11_draws 8 = .ok (.lmul, 1) := by decide +kernel
theorem dX11_draws_9 : decode cX11_draws 9 = .ok (.ldc2_w 442, 3) := by decide +kernel
theorem dX11_draws_12 : decode cX11_draws 12 = .ok (.ladd, 1) := by decide +kernel
theorem dX11_draws_13 : decode cX11_draws 13 = .ok (.ldc2_w 444, 3) := by decide +kernel
theorem dX11_draws_16 : decode cX11_draws 16 = .ok (.lrem, 1) := by decide +kernel
theorem dX11_draws_17 : decode cX11_draws 17 = .ok (.putfield 437, 3) := by decide +kernel
theorem dX11_draws_20 : decode cX11_draws 20 = .ok (.aload_n 0, 1) := by decide +kernel
theorem dX11_draws_21 : decode cX11_draws 21 = .ok (.getfield 437, 3) := by decide +kernel
theorem dX11_draws_24 : decode cX11_draws 24 = .ok (.ldc2_w 446, 3) := by decide +kernel
theorem dX11_draws_27 : decode cX11_draws 27 = .ok (.ldiv, 1) := by decide +kernel
theorem dX11_draws_28 : decode cX11_draws 28 = .ok (.iload_n 1, 1) := by decide +kernel
theorem dX11_draws_29 : decode cX11_draws 29 = .ok (.i2l, 1) := by decide +kernel
theorem dX11_draws_30 : decode cX11_draws 30 = .ok (.lrem, 1) := by decide +kernel
theorem dX11_draws_31 : decode cX11_draws 31 = .ok (.l2i, 1) := by decide +kernel
theorem dX11_draws_32 : decode cX11_draws 32 = .ok (.ireturn, 1) := by decide +kernel
theorem dX11_livesYear_0 : decode cX11_livesYear 0 = .ok (.aload_n 0, 1) := by decide +kernel
theorem dX11_livesYear_1 : decode cX11_livesYear 1 = .ok (.getfield 13, 3) := by decide +kernel
theorem dX11_livesYear_4 : decode cX11_livesYear 4 = .ok (.iconst 0, 1) := by decide +kernel
theorem dX11_livesYear_5 : decode cX11_livesYear 5 = .ok (.iaload, 1) := by decide +kernel
theorem dX11_livesYear_6 : decode cX11_livesYear 6 = .ok (.ifCond .le 52, 3) := by decide +kernel
theorem dX11_livesYear_9 : decode cX11_livesYear 9 = .ok (.aload_n 0, 1) := by decide +kernel
theorem dX11_livesYear_10 : decode cX11_livesYear 10 = .ok (.aload_n 0, 1) := by decide +kernel
theorem dX11_livesYear_11 : decode cX11_livesYear 11 = .ok (.getfield 13, 3) := by decide +kernel
theorem dX11_livesYear_14 : decode cX11_livesYear 14 = .ok (.iconst 0, 1) := by decide +kernel
theorem dX11_livesYear_15 : decode cX11_livesYear 15 = .ok (.iaload, 1) := by decide +kernel
theorem dX11_livesYear_16 : decode cX11_livesYear 16 = .ok (.invokevirtual 448, 3) := by decide +kernel
theorem dX11_livesYear_19 : decode cX11_livesYear 19 = .ok (.istore_n 1, 1) := by decide +kernel
theorem dX11_livesYear_20 : decode cX11_livesYear 20 = .ok (.aload_n 0, 1) := by decide +kernel
theorem dX11_livesYear_21 : decode cX11_livesYear 21 = .ok (.iload_n 1, 1) := by decide +kernel
theorem dX11_livesYear_22 : decode cX11_livesYear 22 = .ok (.invokevirtual 380, 3) := by decide +kernel
theorem dX11_livesYear_25 : decode cX11_livesYear 25 = .ok (.ifCond .eq 11, 3) := by decide +kernel
theorem dX11_livesYear_28 : decode cX11_livesYear 28 = .ok (.aload_n 0, 1) := by decide +kernel
theorem dX11_livesYear_29 : decode cX11_livesYear 29 = .ok (.iload_n 1, 1) := by decide +kernel
theorem dX11_livesYear_30 : decode cX11_livesYear 30 = .ok (.invokevirtual 386, 3) := by decide +kernel
theorem dX11_livesYear_33 : decode cX11_livesYear 33 = .ok (.goto 25, 3) := by decide +kernel
theorem dX11_livesYear_36 : decode cX11_livesYear 36 = .ok (.aload_n 0, 1) := by decide +kernel
theorem dX11_livesYear_37 : decode cX11_livesYear 37 = .ok (.iload_n 1, 1) := by decide +kernel
theorem dX11_livesYear_38 : decode cX11_livesYear 38 = .ok (.invokevirtual 324, 3) := by decide +kernel
theorem dX11_livesYear_41 : decode cX11_livesYear 41 = .ok (.ifCond .lt 17, 3) := by decide +kernel
theorem dX11_livesYear_44 : decode cX11_livesYear 44 = .ok (.aload_n 0, 1) := by decide +kernel
theorem dX11_livesYear_45 : decode cX11_livesYear 45 = .ok (.bipush 8, 2) := by decide +kernel
theorem dX11_livesYear_47 : decode cX11_livesYear 47 = .ok (.invokevirtual 448, 3) := by decide +kernel
theorem dX11_livesYear_50 : decode cX11_livesYear 50 = .ok (.ifCond .ne 8, 3) := by decide +kernel
theorem dX11_livesYear_53 : decode cX11_livesYear 53 = .ok (.aload_n 0, 1) := by decide +kernel
theorem dX11_livesYear_54 : decode cX11_livesYear 54 = .ok (.iload_n 1, 1) := by decide +kernel
theorem dX11_livesYear_55 : decode cX11_livesYear 55 = .ok (.invokevirtual 361, 3) := by decide +kernel
theorem dX11_livesYear_58 : decode cX11_livesYear 58 = .ok (.aload_n 0, 1) := by decide +kernel
theorem dX11_livesYear_59 : decode cX11_livesYear 59 = .ok (.bipush 6, 2) := by decide +kernel
theorem dX11_livesYear_61 : decode cX11_livesYear 61 = .ok (.invokevirtual 448, 3) := by decide +kernel
theorem dX11_livesYear_64 : decode cX11_livesYear 64 = .ok (.ifCond .ne 29, 3) := by decide +kernel
theorem dX11_livesYear_67 : decode cX11_livesYear 67 = .ok (.aload_n 0, 1) := by decide +kernel
theorem dX11_livesYear_68 : decode cX11_livesYear 68 = .ok (.getfield 93, 3) := by decide +kernel
theorem dX11_livesYear_71 : decode cX11_livesYear 71 = .ok (.iconst 1, 1) := by decide +kernel
theorem dX11_livesYear_72 : decode cX11_livesYear 72 = .ok (.bipush 60, 2) := by decide +kernel
theorem dX11_livesYear_74 : decode cX11_livesYear 74 = .ok (.aload_n 0, 1) := by decide +kernel
theorem dX11_livesYear_75 : decode cX11_livesYear 75 = .ok (.getfield 93, 3) := by decide +kernel
theorem dX11_livesYear_78 : decode cX11_livesYear 78 = .ok (.iconst 1, 1) := by decide +kernel
theorem dX11_livesYear_79 : decode cX11_livesYear 79 = .ok (.iaload, 1) := by decide +kernel
theorem dX11_livesYear_80 : decode cX11_livesYear 80 = .ok (.aload_n 0, 1) := by decide +kernel
theorem dX11_livesYear_81 : decode cX11_livesYear 81 = .ok (.bipush 20, 2) := by decide +kernel
theorem dX11_livesYear_83 : decode cX11_livesYear 83 = .ok (.invokevirtual 448, 3) := by decide +kernel
theorem dX11_livesYear_86 : decode cX11_livesYear 86 = .ok (.iadd, 1) := by decide +kernel
theorem dX11_livesYear_87 : decode cX11_livesYear 87 = .ok (.iconst 1, 1) := by decide +kernel
theorem dX11_livesYear_88 : decode cX11_livesYear 88 = .ok (.iadd, 1) := by decide +kernel
theorem dX11_livesYear_89 : decode cX11_livesYear 89 = .ok (.invokestatic 389, 3) := by decide +kernel
theorem dX11_livesYear_92 : decode cX11_livesYear 92 = .ok (.iastore, 1) := by decide +kernel
theorem dX11_livesYear_93 : decode cX11_livesYear 93 = .ok (.aload_n 0, 1) := by decide +kernel
theorem dX11_livesYear_94 : decode cX11_livesYear 94 = .ok (.invokevirtual 370, 3) := by decide +kernel
theorem dX11_livesYear_97 : decode cX11_livesYear 97 = .ok (.pop, 1) := by decide +kernel
theorem dX11_livesYear_98 : decode cX11_livesYear 98 = .ok (.return_, 1) := by decide +kernel
theorem dX11_ages_0 : decode cX11_ages 0 = .ok (.aload_n 0, 1) := by decide +kernel
theorem dX11_ages_1 : decode cX11_ages 1 = .ok (.iconst 0, 1) := by decide +kernel
theorem dX11_ages_2 : decode cX11_ages 2 = .ok (.putfield 137, 3) := by decide +kernel
theorem dX11_ages_5 : decode cX11_ages 5 = .ok (.iload_n 1, 1) := by decide +kernel
theorem dX11_ages_6 : decode cX11_ages 6 = .ok (.iconst 0, 1) := by decide +kernel
theorem dX11_ages_7 : decode cX11_ages 7 = .ok (.sipush 9999, 3) := by decide +kernel
theorem dX11_ages_10 : decode cX11_ages 10 = .ok (.invokestatic 254, 3) := by decide +kernel
theorem dX11_ages_13 : decode cX11_ages 13 = .ok (.ifCond .eq 22, 3) := by decide +kernel
theorem dX11_ages_16 : decode cX11_ages 16 = .ok (.iload_n 2, 1) := by decide +kernel
theorem dX11_ages_17 : decode cX11_ages 17 = .ok (.iconst 1, 1) := by decide +kernel
theorem dX11_ages_18 : decode cX11_ages 18 = .ok (.bipush 99, 2) := by decide +kernel
theorem dX11_ages_20 : decode cX11_ages 20 = .ok (.invokestatic 254, 3) := by decide +kernel
theorem dX11_ages_23 : decode cX11_ages 23 = .ok (.ifCond .eq 12, 3) := by decide +kernel
theorem dX11_ages_26 : decode cX11_ages 26 = .ok (.iload_n 3, 1) := by decide +kernel
theorem dX11_ages_27 : decode cX11_ages 27 = .ok (.iconst 0, 1) := by decide +kernel
theorem dX11_ages_28 : decode cX11_ages 28 = .ok (.iconst 2, 1) := by decide +kernel
theorem dX11_ages_29 : decode cX11_ages 29 = .ok (.invokestatic 254, 3) := by decide +kernel
theorem dX11_ages_32 : decode cX11_ages 32 = .ok (.ifCond .ne 5, 3) := by decide +kernel
theorem dX11_ages_35 : decode cX11_ages 35 = .ok (.iconst (-1), 1) := by decide +kernel
theorem dX11_ages_36 : decode cX11_ages 36 = .ok (.ireturn, 1) := by decide +kernel
theorem dX11_ages_37 : decode cX11_ages 37 = .ok (.aload_n 0, 1) := by decide +kernel
theorem dX11_ages_38 : decode cX11_ages 38 = .ok (.iload_n 1, 1) := by decide +kernel
theorem dX11_ages_39 : decode cX11_ages 39 = .ok (.i2l, 1) := by decide +kernel
theorem dX11_ages_40 : decode cX11_ages 40 = .ok (.putfield 437, 3) := by decide +kernel
theorem dX11_ages_43 : decode cX11_ages 43 = .ok (.aload_n 0, 1) := by decide +kernel
theorem dX11_ages_44 : decode cX11_ages 44 = .ok (.aload_n 0, 1) := by decide +kernel
theorem dX11_ages_45 : decode cX11_ages 45 = .ok (.getfield 13, 3) := by decide +kernel
theorem dX11_ages_48 : decode cX11_ages 48 = .ok (.iconst 2, 1) := by decide +kernel
theorem dX11_ages_49 : decode cX11_ages 49 = .ok (.iaload, 1) := by decide +kernel
theorem dX11_ages_50 : decode cX11_ages 50 = .ok (.putfield 117, 3) := by decide +kernel
theorem dX11_ages_53 : decode cX11_ages 53 = .ok (.aload_n 0, 1) := by decide +kernel
theorem dX11_ages_54 : decode cX11_ages 54 = .ok (.getfield 93, 3) := by decide +kernel
theorem dX11_ages_57 : decode cX11_ages 57 = .ok (.iconst 0, 1) := by decide +kernel
theorem dX11_ages_58 : decode cX11_ages 58 = .ok (.aload_n 0, 1) := by decide +kernel
theorem dX11_ages_59 : decode cX11_ages 59 = .ok (.getfield 96, 3) := by decide +kernel
theorem dX11_ages_62 : decode cX11_ages 62 = .ok (.iconst 0, 1) := by decide +kernel
theorem dX11_ages_63 : decode cX11_ages 63 = .ok (.invokestatic 376, 3) := by decide +kernel
theorem dX11_ages_66 : decode cX11_ages 66 = .ok (.iconst 0, 1) := by decide +kernel
theorem dX11_ages_67 : decode cX11_ages 67 = .ok (.istore 4, 2) := by decide +kernel
theorem dX11_ages_69 : decode cX11_ages 69 = .ok (.iload 4, 2) := by decide +kernel
theorem dX11_ages_71 : decode cX11_ages 71 = .ok (.iload_n 2, 1) := by decide +kernel
theorem dX11_ages_72 : decode cX11_ages 72 = .ok (.if_icmp .ge 13, 3) := by decide +kernel
theorem dX11_ages_75 : decode cX11_ages 75 = .ok (.aload_n 0, 1) := by decide +kernel
theorem dX11_ages_76 : decode cX11_ages 76 = .ok (.invokevirtual 451, 3) := by decide +kernel
theorem dX11_ages_79 : decode cX11_ages 79 = .ok (.iinc 4 1, 3) := by decide +kernel
theorem dX11_ages_82 : decode cX11_ages 82 = .ok (.goto (-13), 3) := by decide +kernel
theorem dX11_ages_85 : decode cX11_ages 85 = .ok (.aload_n 0, 1) := by decide +kernel
theorem dX11_ages_86 : decode cX11_ages 86 = .ok (.getfield 93, 3) := by decide +kernel
theorem dX11_ages_89 : decode cX11_ages 89 = .ok (.iconst 3, 1) := by decide +kernel
theorem dX11_ages_90 : decode cX11_ages 90 = .ok (.iaload, 1) := by decide +kernel
theorem dX11_ages_91 : decode cX11_ages 91 = .ok (.invokestatic 398, 3) := by decide +kernel
theorem dX11_ages_94 : decode cX11_ages 94 = .ok (.istore 4, 2) := by decide +kernel
theorem dX11_ages_96 : decode cX11_ages 96 = .ok (.aload_n 0, 1) := by decide +kernel
theorem dX11_ages_97 : decode cX11_ages 97 = .ok (.invokevirtual 423, 3) := by decide +kernel
theorem dX11_ages_100 : decode cX11_ages 100 = .ok (.istore 5, 2) := by decide +kernel
theorem dX11_ages_102 : decode cX11_ages 102 = .ok (.aload_n 0, 1) := by decide +kernel
theorem dX11_ages_103 : decode cX11_ages 103 = .ok (.getfield 93, 3) := by decide +kernel
theorem dX11_ages_106 : decode cX11_ages 106 = .ok (.iconst 0, 1) := by decide +kernel
theorem dX11_ages_107 : decode cX11_ages 107 = .ok (.iaload, 1) := by decide +kernel
theorem dX11_ages_108 : decode cX11_ages 108 = .ok (.istore 6, 2) := by decide +kernel
theorem dX11_ages_110 : decode cX11_ages 110 = .ok (.aload_n 0, 1) := by decide +kernel
theorem dX11_ages_111 : decode cX11_ages 111 = .ok (.getfield 96, 3) := by decide +kernel
theorem dX11_ages_114 : decode cX11_ages 114 = .ok (.iconst 0, 1) := by decide +kernel
theorem dX11_ages_115 : decode cX11_ages 115 = .ok (.aload_n 0, 1) := by decide +kernel
theorem dX11_ages_116 : decode cX11_ages 116 = .ok (.getfield 93, 3) := by decide +kernel
theorem dX11_ages_119 : decode cX11_ages 119 = .ok (.iconst 0, 1) := by decide +kernel
theorem dX11_ages_120 : decode cX11_ages 120 = .ok (.invokestatic 376, 3) := by decide +kernel
theorem dX11_ages_123 : decode cX11_ages 123 = .ok (.iload_n 3, 1) := by decide +kernel
theorem dX11_ages_124 : decode cX11_ages 124 = .ok (.ifCond .ne 18, 3) := by decide +kernel
theorem dX11_ages_127 : decode cX11_ages 127 = .ok (.iload 4, 2) := by decide +kernel
theorem dX11_ages_129 : decode cX11_ages 129 = .ok (.aload_n 0, 1) := by decide +kernel
theorem dX11_ages_130 : decode cX11_ages 130 = .ok (.getfield 93, 3) := by decide +kernel
theorem dX11_ages_133 : decode cX11_ages 133 = .ok (.iconst 3, 1) := by decide +kernel
theorem dX11_ages_134 : decode cX11_ages 134 = .ok (.iaload, 1) := by decide +kernel
theorem dX11_ages_135 : decode cX11_ages 135 = .ok (.invokestatic 398, 3) := by decide +kernel
theorem dX11_ages_138 : decode cX11_ages 138 = .ok (.isub, 1) := by decide +kernel
theorem dX11_ages_139 : decode cX11_ages 139 = .ok (.goto 15, 3) := by decide +kernel
theorem dX11_ages_142 : decode cX11_ages 142 = .ok (.iload_n 3, 1) := by decide +kernel
theorem dX11_ages_143 : decode cX11_ages 143 = .ok (.iconst 1, 1) := by decide +kernel
theorem dX11_ages_144 : decode cX11_ages 144 = .ok (.if_icmp .ne 8, 3) := by decide +kernel
theorem dX11_ages_147 : decode cX11_ages 147 = .ok (.iload 5, 2) := by decide +kernel
theorem dX11_ages_149 : decode cX11_ages 149 = .ok (.goto 5, 3) := by decide +kernel
theorem dX11_ages_152 : decode cX11_ages 152 = .ok (.iload 6, 2) := by decide +kernel
theorem dX11_ages_154 : decode cX11_ages 154 = .ok (.ireturn, 1) := by decide +kernel
theorem dX11_mark_0 : decode cX11_mark 0 = .ok (.aload_n 0, 1) := by decide +kernel
theorem dX11_mark_1 : decode cX11_mark 1 = .ok (.iconst 0, 1) := by decide +kernel
theorem dX11_mark_2 : decode cX11_mark 2 = .ok (.putfield 137, 3) := by decide +kernel
theorem dX11_mark_5 : decode cX11_mark 5 = .ok (.iload_n 1, 1) := by decide +kernel
theorem dX11_mark_6 : decode cX11_mark 6 = .ok (.iconst 0, 1) := by decide +kernel
theorem dX11_mark_7 : decode cX11_mark 7 = .ok (.iconst 3, 1) := by decide +kernel
theorem dX11_mark_8 : decode cX11_mark 8 = .ok (.invokestatic 254, 3) := by decide +kernel
theorem dX11_mark_11 : decode cX11_mark 11 = .ok (.ifCond .eq 16, 3) := by decide +kernel
theorem dX11_mark_14 : decode cX11_mark 14 = .ok (.iload_n 2, 1) := by decide +kernel
theorem dX11_mark_15 : decode cX11_mark 15 = .ok (.ifCond .eq 14, 3) := by decide +kernel
theorem dX11_mark_18 : decode cX11_mark 18 = .ok (.aload_n 0, 1) := by decide +kernel
theorem dX11_mark_19 : decode cX11_mark 19 = .ok (.getfield 108, 3) := by decide +kernel
theorem dX11_mark_22 : decode cX11_mark 22 = .ok (.iload_n 1, 1) := by decide +kernel
theorem dX11_mark_23 : decode cX11_mark 23 = .ok (.baload, 1) := by decide +kernel
theorem dX11_mark_24 : decode cX11_mark 24 = .ok (.ifCond .ne 5, 3) := by decide +kernel
theorem dX11_mark_27 : decode cX11_mark 27 = .ok (.iconst 0, 1) := by decide +kernel
theorem dX11_mark_28 : decode cX11_mark 28 = .ok (.ireturn, 1) := by decide +kernel
theorem dX11_mark_29 : decode cX11_mark 29 = .ok (.aload_n 0, 1) := by decide +kernel
theorem dX11_mark_30 : decode cX11_mark 30 = .ok (.getfield 108, 3) := by decide +kernel
theorem dX11_mark_33 : decode cX11_mark 33 = .ok (.iload_n 1, 1) := by decide +kernel
theorem dX11_mark_34 : decode cX11_mark 34 = .ok (.iconst 1, 1) := by decide +kernel
theorem dX11_mark_35 : decode cX11_mark 35 = .ok (.bastore, 1) := by decide +kernel
theorem dX11_mark_36 : decode cX11_mark 36 = .ok (.iload_n 2, 1) := by decide +kernel
theorem dX11_mark_37 : decode cX11_mark 37 = .ok (.ifCond .eq 9, 3) := by decide +kernel
theorem dX11_mark_40 : decode cX11_mark 40 = .ok (.iconst 1, 1) := by decide +kernel
theorem dX11_mark_41 : decode cX11_mark 41 = .ok (.iload_n 1, 1) := by decide +kernel
theorem dX11_mark_42 : decode cX11_mark 42 = .ok (.iadd, 1) := by decide +kernel
theorem dX11_mark_43 : decode cX11_mark 43 = .ok (.goto 4, 3) := by decide +kernel
theorem dX11_mark_46 : decode cX11_mark 46 = .ok (.iconst 0, 1) := by decide +kernel
theorem dX11_mark_47 : decode cX11_mark 47 = .ok (.istore_n 3, 1) := by decide +kernel
theorem dX11_mark_48 : decode cX11_mark 48 = .ok (.iload_n 2, 1) := by decide +kernel
theorem dX11_mark_49 : decode cX11_mark 49 = .ok (.ifCond .eq 7, 3) := by decide +kernel
theorem dX11_mark_52 : decode cX11_mark 52 = .ok (.iconst 0, 1) := by decide +kernel
theorem dX11_mark_53 : decode cX11_mark 53 = .ok (.goto 6, 3) := by decide +kernel
theorem dX11_mark_56 : decode cX11_mark 56 = .ok (.iconst 1, 1) := by decide +kernel
theorem dX11_mark_57 : decode cX11_mark 57 = .ok (.iload_n 1, 1) := by decide +kernel
theorem dX11_mark_58 : decode cX11_mark 58 = .ok (.iadd, 1) := by decide +kernel
theorem dX11_mark_59 : decode cX11_mark 59 = .ok (.istore 4, 2) := by decide +kernel
theorem dX11_mark_61 : decode cX11_mark 61 = .ok (.aload_n 0, 1) := by decide +kernel
theorem dX11_mark_62 : decode cX11_mark 62 = .ok (.iload_n 3, 1) := by decide +kernel
theorem dX11_mark_63 : decode cX11_mark 63 = .ok (.iload 4, 2) := by decide +kernel
theorem dX11_mark_65 : decode cX11_mark 65 = .ok (.invokevirtual 313, 3) := by decide +kernel
theorem dX11_mark_68 : decode cX11_mark 68 = .ok (.aload_n 0, 1) := by decide +kernel
theorem dX11_mark_69 : decode cX11_mark 69 = .ok (.iload_n 3, 1) := by decide +kernel
theorem dX11_mark_70 : decode cX11_mark 70 = .ok (.iload 4, 2) := by decide +kernel
theorem dX11_mark_72 : decode cX11_mark 72 = .ok (.invokevirtual 454, 3) := by decide +kernel
theorem dX11_mark_75 : decode cX11_mark 75 = .ok (.iload_n 2, 1) := by decide +kernel
theorem dX11_mark_76 : decode cX11_mark 76 = .ok (.ifCond .eq 27, 3) := by decide +kernel
theorem dX11_mark_79 : decode cX11_mark 79 = .ok (.aload_n 0, 1) := by decide +kernel
theorem dX11_mark_80 : decode cX11_mark 80 = .ok (.getfield 102, 3) := by decide +kernel
theorem dX11_mark_83 : decode cX11_mark 83 = .ok (.bipush 22, 2) := by decide +kernel
theorem dX11_mark_85 : decode cX11_mark 85 = .ok (.iload_n 1, 1) := by decide +kernel
theorem dX11_mark_86 : decode cX11_mark 86 = .ok (.imul, 1) := by decide +kernel
theorem dX11_mark_87 : decode cX11_mark 87 = .ok (.aload_n 0, 1) := by decide +kernel
theorem dX11_mark_88 : decode cX11_mark 88 = .ok (.getfield 93, 3) := by decide +kernel
theorem dX11_mark_91 : decode cX11_mark 91 = .ok (.iconst 0, 1) := by decide +kernel
theorem dX11_mark_92 : decode cX11_mark 92 = .ok (.invokestatic 376, 3) := by decide +kernel
theorem dX11_mark_95 : decode cX11_mark 95 = .ok (.aload_n 0, 1) := by decide +kernel
theorem dX11_mark_96 : decode cX11_mark 96 = .ok (.iconst 0, 1) := by decide +kernel
theorem dX11_mark_97 : decode cX11_mark 97 = .ok (.putfield 307, 3) := by decide +kernel
theorem dX11_mark_100 : decode cX11_mark 100 = .ok (.goto 19, 3) := by decide +kernel
theorem dX11_mark_103 : decode cX11_mark 103 = .ok (.aload_n 0, 1) := by decide +kernel
theorem dX11_mark_104 : decode cX11_mark 104 = .ok (.getfield 93, 3) := by decide +kernel
theorem dX11_mark_107 : decode cX11_mark 107 = .ok (.iconst 0, 1) := by decide +kernel
theorem dX11_mark_108 : decode cX11_mark 108 = .ok (.aload_n 0, 1) := by decide +kernel
theorem dX11_mark_109 : decode cX11_mark 109 = .ok (.getfield 102, 3) := by decide +kernel
theorem dX11_mark_112 : decode cX11_mark 112 = .ok (.bipush 22, 2) := by decide +kernel
theorem dX11_mark_114 : decode cX11_mark 114 = .ok (.iload_n 1, 1) := by decide +kernel
theorem dX11_mark_115 : decode cX11_mark 115 = .ok (.imul, 1) := by decide +kernel
theorem dX11_mark_116 : decode cX11_mark 116 = .ok (.invokestatic 376, 3) := by decide +kernel
theorem dX11_mark_119 : decode cX11_mark 119 = .ok (.iconst 1, 1) := by decide +kernel
theorem dX11_mark_120 : decode cX11_mark 120 = .ok (.ireturn, 1) := by decide +kernel
theorem dX11_count_0 : decode cX11_count 0 = .ok (.aload_n 0, 1) := by decide +kernel
theorem dX11_count_1 : decode cX11_count 1 = .ok (.iconst 0, 1) := by decide +kernel
theorem dX11_count_2 : decode cX11_count 2 = .ok (.putfield 137, 3) := by decide +kernel
theorem dX11_count_5 : decode cX11_count 5 = .ok (.iload_n 1, 1) := by decide +kernel
theorem dX11_count_6 : decode cX11_count 6 = .ok (.iconst 0, 1) := by decide +kernel
theorem dX11_count_7 : decode cX11_count 7 = .ok (.bipush 12, 2) := by decide +kernel
theorem dX11_count_9 : decode cX11_count 9 = .ok (.invokestatic 254, 3) := by decide +kernel
theorem dX11_count_12 : decode cX11_count 12 = .ok (.ifCond .ne 5, 3) := by decide +kernel
theorem dX11_count_15 : decode cX11_count 15 = .ok (.iconst (-1), 1) := by decide +kernel
theorem dX11_count_16 : decode cX11_count 16 = .ok (.ireturn, 1) := by decide +kernel
theorem dX11_count_17 : decode cX11_count 17 = .ok (.iload_n 1, 1) := by decide +kernel
theorem dX11_count_18 : decode cX11_count 18 = .ok (.iconst 4, 1) := by decide +kernel
theorem dX11_count_19 : decode cX11_count 19 = .ok (.if_icmp .ge 24, 3) := by decide +kernel
theorem dX11_count_22 : decode cX11_count 22 = .ok (.iload_n 1, 1) := by decide +kernel
theorem dX11_count_23 : decode cX11_count 23 = .ok (.iconst 1, 1) := by decide +kernel
theorem dX11_count_24 : decode cX11_count 24 = .ok (.if_icmp .ne 12, 3) := by decide +kernel
theorem dX11_count_27 : decode cX11_count 27 = .ok (.aload_n 0, 1) := by decide +kernel
theorem dX11_count_28 : decode cX11_count 28 = .ok (.getfield 93, 3) := by decide +kernel
theorem dX11_count_31 : decode cX11_count 31 = .ok (.iconst 0, 1) := by decide +kernel
theorem dX11_count_32 : decode cX11_count 32 = .ok (.iaload, 1) := by decide +kernel
theorem dX11_count_33 : decode cX11_count 33 = .ok (.goto 9, 3) := by decide +kernel
theorem dX11_count_36 : decode cX11_count 36 = .ok (.aload_n 0, 1) := by decide +kernel
theorem dX11_count_37 : decode cX11_count 37 = .ok (.getfield 13, 3) := by decide +kernel
theorem dX11_count_40 : decode cX11_count 40 = .ok (.iload_n 1, 1) := by decide +kernel
theorem dX11_count_41 : decode cX11_count 41 = .ok (.iaload, 1) := by decide +kernel
theorem dX11_count_42 : decode cX11_count 42 = .ok (.ireturn, 1) := by decide +kernel
theorem dX11_count_43 : decode cX11_count 43 = .ok (.iload_n 1, 1) := by decide +kernel
theorem dX11_count_44 : decode cX11_count 44 = .ok (.bipush 7, 2) := by decide +kernel
theorem dX11_count_46 : decode cX11_count 46 = .ok (.if_icmp .ge 36, 3) := by decide +kernel
theorem dX11_count_49 : decode cX11_count 49 = .ok (.iload_n 1, 1) := by decide +kernel
theorem dX11_count_50 : decode cX11_count 50 = .ok (.iconst 4, 1) := by decide +kernel
theorem dX11_count_51 : decode cX11_count 51 = .ok (.if_icmp .ne 12, 3) := by decide +kernel
theorem dX11_count_54 : decode cX11_count 54 = .ok (.aload_n 0, 1) := by decide +kernel
theorem dX11_count_55 : decode cX11_count 55 = .ok (.getfield 93, 3) := by decide +kernel
theorem dX11_count_58 : decode cX11_count 58 = .ok (.iconst 1, 1) := by decide +kernel
theorem dX11_count_59 : decode cX11_count 59 = .ok (.iaload, 1) := by decide +kernel
theorem dX11_count_60 : decode cX11_count 60 = .ok (.goto 21, 3) := by decide +kernel
theorem dX11_count_63 : decode cX11_count 63 = .ok (.iload_n 1, 1) := by decide +kernel
theorem dX11_count_64 : decode cX11_count 64 = .ok (.iconst 5, 1) := by decide +kernel
theorem dX11_count_65 : decode cX11_count 65 = .ok (.if_icmp .ne 12, 3) := by decide +kernel
theorem dX11_count_68 : decode cX11_count 68 = .ok (.aload_n 0, 1) := by decide +kernel
theorem dX11_count_69 : decode cX11_count 69 = .ok (.getfield 93, 3) := by decide +kernel
theorem dX11_count_72 : decode cX11_count 72 = .ok (.iconst 2, 1) := by decide +kernel
theorem dX11_count_73 : decode cX11_count 73 = .ok (.iaload, 1) := by decide +kernel
theorem dX11_count_74 : decode cX11_count 74 = .ok (.goto 7, 3) := by decide +kernel
theorem dX11_count_77 : decode cX11_count 77 = .ok (.aload_n 0, 1) := by decide +kernel
theorem dX11_count_78 : decode cX11_count 78 = .ok (.invokevirtual 423, 3) := by decide +kernel
theorem dX11_count_81 : decode cX11_count 81 = .ok (.ireturn, 1) := by decide +kernel
theorem dX11_count_82 : decode cX11_count 82 = .ok (.iload_n 1, 1) := by decide +kernel
theorem dX11_count_83 : decode cX11_count 83 = .ok (.bipush 9, 2) := by decide +kernel
theorem dX11_count_85 : decode cX11_count 85 = .ok (.if_icmp .ge 23, 3) := by decide +kernel
theorem dX11_count_88 : decode cX11_count 88 = .ok (.iload_n 1, 1) := by decide +kernel
theorem dX11_count_89 : decode cX11_count 89 = .ok (.bipush 7, 2) := by decide +kernel
theorem dX11_count_91 : decode cX11_count 91 = .ok (.if_icmp .ne 12, 3) := by decide +kernel
theorem dX11_count_94 : decode cX11_count 94 = .ok (.aload_n 0, 1) := by decide +kernel
theorem dX11_count_95 : decode cX11_count 95 = .ok (.getfield 93, 3) := by decide +kernel
theorem dX11_count_98 : decode cX11_count 98 = .ok (.iconst 3, 1) := by decide +kernel
theorem dX11_count_99 : decode cX11_count 99 = .ok (.iaload, 1) := by decide +kernel
theorem dX11_count_100 : decode cX11_count 100 = .ok (.goto 7, 3) := by decide +kernel
theorem dX11_count_103 : decode cX11_count 103 = .ok (.aload_n 0, 1) := by decide +kernel
theorem dX11_count_104 : decode cX11_count 104 = .ok (.invokevirtual 457, 3) := by decide +kernel
theorem dX11_count_107 : decode cX11_count 107 = .ok (.ireturn, 1) := by decide +kernel
theorem dX11_count_108 : decode cX11_count 108 = .ok (.iload_n 1, 1) := by decide +kernel
theorem dX11_count_109 : decode cX11_count 109 = .ok (.bipush 11, 2) := by decide +kernel
theorem dX11_count_111 : decode cX11_count 111 = .ok (.if_icmp .ge 25, 3) := by decide +kernel
theorem dX11_count_114 : decode cX11_count 114 = .ok (.iload_n 1, 1) := by decide +kernel
theorem dX11_count_115 : decode cX11_count 115 = .ok (.bipush 9, 2) := by decide +kernel
theorem dX11_count_117 : decode cX11_count 117 = .ok (.if_icmp .ne 12, 3) := by decide +kernel
theorem dX11_count_120 : decode cX11_count 120 = .ok (.aload_n 0, 1) := by decide +kernel
theorem dX11_count_121 : decode cX11_count 121 = .ok (.getfield 75, 3) := by decide +kernel
theorem dX11_count_124 : decode cX11_count 124 = .ok (.iconst 0, 1) := by decide +kernel
theorem dX11_count_125 : decode cX11_count 125 = .ok (.iaload, 1) := by decide +kernel
theorem dX11_count_126 : decode cX11_count 126 = .ok (.goto 9, 3) := by decide +kernel
theorem dX11_count_129 : decode cX11_count 129 = .ok (.aload_n 0, 1) := by decide +kernel
theorem dX11_count_130 : decode cX11_count 130 = .ok (.getfield 84, 3) := by decide +kernel
theorem dX11_count_133 : decode cX11_count 133 = .ok (.iconst 0, 1) := by decide +kernel
theorem dX11_count_134 : decode cX11_count 134 = .ok (.iaload, 1) := by decide +kernel
theorem dX11_count_135 : decode cX11_count 135 = .ok (.ireturn, 1) := by decide +kernel
theorem dX11_count_136 : decode cX11_count 136 = .ok (.iload_n 1, 1) := by decide +kernel
theorem dX11_count_137 : decode cX11_count 137 = .ok (.bipush 11, 2) := by decide +kernel
theorem dX11_count_139 : decode cX11_count 139 = .ok (.if_icmp .ne 10, 3) := by decide +kernel
theorem dX11_count_142 : decode cX11_count 142 = .ok (.aload_n 0, 1) := by decide +kernel
theorem dX11_count_143 : decode cX11_count 143 = .ok (.getfield 307, 3) := by decide +kernel
theorem dX11_count_146 : decode cX11_count 146 = .ok (.goto 7, 3) := by decide +kernel
theorem dX11_count_149 : decode cX11_count 149 = .ok (.aload_n 0, 1) := by decide +kernel
theorem dX11_count_150 : decode cX11_count 150 = .ok (.getfield 142, 3) := by decide +kernel
theorem dX11_count_153 : decode cX11_count 153 = .ok (.ireturn, 1) := by decide +kernel
theorem dJ6_bitCount_0f7a4_0 : decode cJ6_bitCount_0f7a4 0 = .ok (.iload_n 0, 1) := by decide +kernel
theorem dJ6_bitCount_0f7a4_1 : decode cJ6_bitCount_0f7a4 1 = .ok (.iload_n 0, 1) := by decide +kernel
theorem dJ6_bitCount_0f7a4_2 : decode cJ6_bitCount_0f7a4 2 = .ok (.iconst 1, 1) := by decide +kernel
theorem dJ6_bitCount_0f7a4_3 : decode cJ6_bitCount_0f7a4 3 = .ok (.iushr, 1) := by decide +kernel
theorem dJ6_bitCount_0f7a4_4 : decode cJ6_bitCount_0f7a4 4 = .ok (.ldc_w 265, 3) := by decide +kernel
theorem dJ6_bitCount_0f7a4_7 : decode cJ6_bitCount_0f7a4 7 = .ok (.iand, 1) := by decide +kernel
theorem dJ6_bitCount_0f7a4_8 : decode cJ6_bitCount_0f7a4 8 = .ok (.isub, 1) := by decide +kernel
theorem dJ6_bitCount_0f7a4_9 : decode cJ6_bitCount_0f7a4 9 = .ok (.istore_n 0, 1) := by decide +kernel
theorem dJ6_bitCount_0f7a4_10 : decode cJ6_bitCount_0f7a4 10 = .ok (.iload_n 0, 1) := by decide +kernel
theorem dJ6_bitCount_0f7a4_11 : decode cJ6_bitCount_0f7a4 11 = .ok (.ldc_w 266, 3) := by decide +kernel
theorem dJ6_bitCount_0f7a4_14 : decode cJ6_bitCount_0f7a4 14 = .ok (.iand, 1) := by decide +kernel
theorem dJ6_bitCount_0f7a4_15 : decode cJ6_bitCount_0f7a4 15 = .ok (.iload_n 0, 1) := by decide +kernel
theorem dJ6_bitCount_0f7a4_16 : decode cJ6_bitCount_0f7a4 16 = .ok (.iconst 2, 1) := by decide +kernel
theorem dJ6_bitCount_0f7a4_17 : decode cJ6_bitCount_0f7a4 17 = .ok (.iushr, 1) := by decide +kernel
theorem dJ6_bitCount_0f7a4_18 : decode cJ6_bitCount_0f7a4 18 = .ok (.ldc_w 266, 3) := by decide +kernel
theorem dJ6_bitCount_0f7a4_21 : decode cJ6_bitCount_0f7a4 21 = .ok (.iand, 1) := by decide +kernel
theorem dJ6_bitCount_0f7a4_22 : decode cJ6_bitCount_0f7a4 22 = .ok (.iadd, 1) := by decide +kernel
theorem dJ6_bitCount_0f7a4_23 : decode cJ6_bitCount_0f7a4 23 = .ok (.istore_n 0, 1) := by decide +kernel
theorem dJ6_bitCount_0f7a4_24 : decode cJ6_bitCount_0f7a4 24 = .ok (.iload_n 0, 1) := by decide +kernel
theorem dJ6_bitCount_0f7a4_25 : decode cJ6_bitCount_0f7a4 25 = .ok (.iload_n 0, 1) := by decide +kernel
theorem dJ6_bitCount_0f7a4_26 : decode cJ6_bitCount_0f7a4 26 = .ok (.iconst 4, 1) := by decide +kernel
theorem dJ6_bitCount_0f7a4_27 : decode cJ6_bitCount_0f7a4 27 = .ok (.iushr, 1) := by decide +kernel
theorem dJ6_bitCount_0f7a4_28 : decode cJ6_bitCount_0f7a4 28 = .ok (.iadd, 1) := by decide +kernel
theorem dJ6_bitCount_0f7a4_29 : decode cJ6_bitCount_0f7a4 29 = .ok (.ldc_w 267, 3) := by decide +kernel
theorem dJ6_bitCount_0f7a4_32 : decode cJ6_bitCount_0f7a4 32 = .ok (.iand, 1) := by decide +kernel
theorem dJ6_bitCount_0f7a4_33 : decode cJ6_bitCount_0f7a4 33 = .ok (.istore_n 0, 1) := by decide +kernel
theorem dJ6_bitCount_0f7a4_34 : decode cJ6_bitCount_0f7a4 34 = .ok (.iload_n 0, 1) := by decide +kernel
theorem dJ6_bitCount_0f7a4_35 : decode cJ6_bitCount_0f7a4 35 = .ok (.iload_n 0, 1) := by decide +kernel
theorem dJ6_bitCount_0f7a4_36 : decode cJ6_bitCount_0f7a4 36 = .ok (.bipush 8, 2) := by decide +kernel
theorem dJ6_bitCount_0f7a4_38 : decode cJ6_bitCount_0f7a4 38 = .ok (.iushr, 1) := by decide +kernel
theorem dJ6_bitCount_0f7a4_39 : decode cJ6_bitCount_0f7a4 39 = .ok (.iadd, 1) := by decide +kernel
theorem dJ6_bitCount_0f7a4_40 : decode cJ6_bitCount_0f7a4 40 = .ok (.istore_n 0, 1) := by decide +kernel
theorem dJ6_bitCount_0f7a4_41 : decode cJ6_bitCount_0f7a4 41 = .ok (.iload_n 0, 1) := by decide +kernel
theorem dJ6_bitCount_0f7a4_42 : decode cJ6_bitCount_0f7a4 42 = .ok (.iload_n 0, 1) := by decide +kernel
theorem dJ6_bitCount_0f7a4_43 : decode cJ6_bitCount_0f7a4 43 = .ok (.bipush 16, 2) := by decide +kernel
theorem dJ6_bitCount_0f7a4_45 : decode cJ6_bitCount_0f7a4 45 = .ok (.iushr, 1) := by decide +kernel
theorem dJ6_bitCount_0f7a4_46 : decode cJ6_bitCount_0f7a4 46 = .ok (.iadd, 1) := by decide +kernel
theorem dJ6_bitCount_0f7a4_47 : decode cJ6_bitCount_0f7a4 47 = .ok (.istore_n 0, 1) := by decide +kernel
theorem dJ6_bitCount_0f7a4_48 : decode cJ6_bitCount_0f7a4 48 = .ok (.iload_n 0, 1) := by decide +kernel
theorem dJ6_bitCount_0f7a4_49 : decode cJ6_bitCount_0f7a4 49 = .ok (.bipush 63, 2) := by decide +kernel
theorem dJ6_bitCount_0f7a4_51 : decode cJ6_bitCount_0f7a4 51 = .ok (.iand, 1) := by decide +kernel
theorem dJ6_bitCount_0f7a4_52 : decode cJ6_bitCount_0f7a4 52 = .ok (.ireturn, 1) := by decide +kernel
theorem dJ9_floorMod_7cf53_0 : decode cJ9_floorMod_7cf53 0 = .ok (.iload_n 0, 1) := by decide +kernel
theorem dJ9_floorMod_7cf53_1 : decode cJ9_floorMod_7cf53 1 = .ok (.iload_n 1, 1) := by decide +kernel
theorem dJ9_floorMod_7cf53_2 : decode cJ9_floorMod_7cf53 2 = .ok (.irem, 1) := by decide +kernel
theorem dJ9_floorMod_7cf53_3 : decode cJ9_floorMod_7cf53 3 = .ok (.istore_n 2, 1) := by decide +kernel
theorem dJ9_floorMod_7cf53_4 : decode cJ9_floorMod_7cf53 4 = .ok (.iload_n 0, 1) := by decide +kernel
theorem dJ9_floorMod_7cf53_5 : decode cJ9_floorMod_7cf53 5 = .ok (.iload_n 1, 1) := by decide +kernel
theorem dJ9_floorMod_7cf53_6 : decode cJ9_floorMod_7cf53 6 = .ok (.ixor, 1) := by decide +kernel
theorem dJ9_floorMod_7cf53_7 : decode cJ9_floorMod_7cf53 7 = .ok (.ifCond .ge 11, 3) := by decide +kernel
theorem dJ9_floorMod_7cf53_10 : decode cJ9_floorMod_7cf53 10 = .ok (.iload_n 2, 1) := by decide +kernel
theorem dJ9_floorMod_7cf53_11 : decode cJ9_floorMod_7cf53 11 = .ok (.ifCond .eq 7, 3) := by decide +kernel
theorem dJ9_floorMod_7cf53_14 : decode cJ9_floorMod_7cf53 14 = .ok (.iload_n 2, 1) := by decide +kernel
theorem dJ9_floorMod_7cf53_15 : decode cJ9_floorMod_7cf53 15 = .ok (.iload_n 1, 1) := by decide +kernel
theorem dJ9_floorMod_7cf53_16 : decode cJ9_floorMod_7cf53 16 = .ok (.iadd, 1) := by decide +kernel
theorem dJ9_floorMod_7cf53_17 : decode cJ9_floorMod_7cf53 17 = .ok (.ireturn, 1) := by decide +kernel
theorem dJ9_floorMod_7cf53_18 : decode cJ9_floorMod_7cf53 18 = .ok (.iload_n 2, 1) := by decide +kernel
theorem dJ9_floorMod_7cf53_19 : decode cJ9_floorMod_7cf53 19 = .ok (.ireturn, 1) := by decide +kernel
theorem dJ9_max_7cf53_0 : decode cJ9_max_7cf53 0 = .ok (.iload_n 0, 1) := by decide +kernel
theorem dJ9_max_7cf53_1 : decode cJ9_max_7cf53 1 = .ok (.iload_n 1, 1) := by decide +kernel
theorem dJ9_max_7cf53_2 : decode cJ9_max_7cf53 2 = .ok (.if_icmp .lt 7, 3) := by decide +kernel
theorem dJ9_max_7cf53_5 : decode cJ9_max_7cf53 5 = .ok (.iload_n 0, 1) := by decide +kernel
theorem dJ9_max_7cf53_6 : decode cJ9_max_7cf53 6 = .ok (.goto 4, 3) := by decide +kernel
theorem dJ9_max_7cf53_9 : decode cJ9_max_7cf53 9 = .ok (.iload_n 1, 1) := by decide +kernel
theorem dJ9_max_7cf53_10 : decode cJ9_max_7cf53 10 = .ok (.ireturn, 1) := by decide +kernel
theorem dJ9_min_7cf53_0 : decode cJ9_min_7cf53 0 = .ok (.iload_n 0, 1) := by decide +kernel
theorem dJ9_min_7cf53_1 : decode cJ9_min_7cf53 1 = .ok (.iload_n 1, 1) := by decide +kernel
theorem dJ9_min_7cf53_2 : decode cJ9_min_7cf53 2 = .ok (.if_icmp .gt 7, 3) := by decide +kernel
theorem dJ9_min_7cf53_5 : decode cJ9_min_7cf53 5 = .ok (.iload_n 0, 1) := by decide +kernel
theorem dJ9_min_7cf53_6 : decode cJ9_min_7cf53 6 = .ok (.goto 4, 3) := by decide +kernel
theorem dJ9_min_7cf53_9 : decode cJ9_min_7cf53 9 = .ok (.iload_n 1, 1) := by decide +kernel
theorem dJ9_min_7cf53_10 : decode cJ9_min_7cf53 10 = .ok (.ireturn, 1) := by decide +kernel
theorem dJ0_length_8abf5_0 : decode cJ0_length_8abf5 0 = .ok (.aload_n 0, 1) := by decide +kernel
theorem dJ0_length_8abf5_1 : decode cJ0_length_8abf5 1 = .ok (.getfield 9, 3) := by decide +kernel
theorem dJ0_length_8abf5_4 : decode cJ0_length_8abf5 4 = .ok (.arraylength, 1) := by decide +kernel
theorem dJ0_length_8abf5_5 : decode cJ0_length_8abf5 5 = .ok (.aload_n 0, 1) := by decide +kernel
theorem dJ0_length_8abf5_6 : decode cJ0_length_8abf5 6 = .ok (.invokevirtual 335, 3) := by decide +kernel
theorem dJ0_length_8abf5_9 : decode cJ0_length_8abf5 9 = .ok (.ishr, 1) := by decide +kernel
theorem dJ0_length_8abf5_10 : decode cJ0_length_8abf5 10 = .ok (.ireturn, 1) := by decide +kernel
theorem dJ0_charAt_5068e_0 : decode cJ0_charAt_5068e 0 = .ok (.aload_n 0, 1) := by decide +kernel
theorem dJ0_charAt_5068e_1 : decode cJ0_charAt_5068e 1 = .ok (.invokevirtual 492, 3) := by decide +kernel
theorem dJ0_charAt_5068e_4 : decode cJ0_charAt_5068e 4 = .ok (.ifCond .eq 12, 3) := by decide +kernel
theorem dJ0_charAt_5068e_7 : decode cJ0_charAt_5068e 7 = .ok (.aload_n 0, 1) := by decide +kernel
theorem dJ0_charAt_5068e_8 : decode cJ0_charAt_5068e 8 = .ok (.getfield 9, 3) := by decide +kernel
theorem dJ0_charAt_5068e_11 : decode cJ0_charAt_5068e 11 = .ok (.iload_n 1, 1) := by decide +kernel
theorem dJ0_charAt_5068e_12 : decode cJ0_charAt_5068e 12 = .ok (.invokestatic 495, 3) := by decide +kernel
theorem dJ0_charAt_5068e_15 : decode cJ0_charAt_5068e 15 = .ok (.ireturn, 1) := by decide +kernel
theorem dJ0_charAt_5068e_16 : decode cJ0_charAt_5068e 16 = .ok (.aload_n 0, 1) := by decide +kernel
theorem dJ0_charAt_5068e_17 : decode cJ0_charAt_5068e 17 = .ok (.getfield 9, 3) := by decide +kernel
theorem dJ0_charAt_5068e_20 : decode cJ0_charAt_5068e 20 = .ok (.iload_n 1, 1) := by decide +kernel
theorem dJ0_charAt_5068e_21 : decode cJ0_charAt_5068e 21 = .ok (.invokestatic 498, 3) := by decide +kernel
theorem dJ0_charAt_5068e_24 : decode cJ0_charAt_5068e 24 = .ok (.ireturn, 1) := by decide +kernel
theorem dJ0_coder_7d493_0 : decode cJ0_coder_7d493 0 = .ok (.getstatic 38, 3) := by decide +kernel
theorem dJ0_coder_7d493_3 : decode cJ0_coder_7d493 3 = .ok (.ifCond .eq 10, 3) := by decide +kernel
theorem dJ0_coder_7d493_6 : decode cJ0_coder_7d493 6 = .ok (.aload_n 0, 1) := by decide +kernel
theorem dJ0_coder_7d493_7 : decode cJ0_coder_7d493 7 = .ok (.getfield 15, 3) := by decide +kernel
theorem dJ0_coder_7d493_10 : decode cJ0_coder_7d493 10 = .ok (.goto 4, 3) := by decide +kernel
theorem dJ0_coder_7d493_13 : decode cJ0_coder_7d493 13 = .ok (.iconst 1, 1) := by decide +kernel
theorem dJ0_coder_7d493_14 : decode cJ0_coder_7d493 14 = .ok (.ireturn, 1) := by decide +kernel
theorem dJ0_isLatin1_aae02_0 : decode cJ0_isLatin1_aae02 0 = .ok (.getstatic 38, 3) := by decide +kernel
theorem dJ0_isLatin1_aae02_3 : decode cJ0_isLatin1_aae02 3 = .ok (.ifCond .eq 14, 3) := by decide +kernel
theorem dJ0_isLatin1_aae02_6 : decode cJ0_isLatin1_aae02 6 = .ok (.aload_n 0, 1) := by decide +kernel
theorem dJ0_isLatin1_aae02_7 : decode cJ0_isLatin1_aae02 7 = .ok (.getfield 15, 3) := by decide +kernel
theorem dJ0_isLatin1_aae02_10 : decode cJ0_isLatin1_aae02 10 = .ok (.ifCond .ne 7, 3) := by decide +kernel
theorem dJ0_isLatin1_aae02_13 : decode cJ0_isLatin1_aae02 13 = .ok (.iconst 1, 1) := by decide +kernel
theorem dJ0_isLatin1_aae02_14 : decode cJ0_isLatin1_aae02 14 = .ok (.goto 4, 3) := by decide +kernel
theorem dJ0_isLatin1_aae02_17 : decode cJ0_isLatin1_aae02 17 = .ok (.iconst 0, 1) := by decide +kernel
theorem dJ0_isLatin1_aae02_18 : decode cJ0_isLatin1_aae02 18 = .ok (.ireturn, 1) := by decide +kernel
theorem dJ0_checkIndex_df160_0 : decode cJ0_checkIndex_df160 0 = .ok (.iload_n 0, 1) := by decide +kernel
theorem dJ0_checkIndex_df160_1 : decode cJ0_checkIndex_df160 1 = .ok (.iload_n 1, 1) := by decide +kernel
theorem dJ0_checkIndex_df160_2 : decode cJ0_checkIndex_df160 2 = .ok (.getstatic 1053, 3) := by decide +kernel
theorem dJ0_checkIndex_df160_5 : decode cJ0_checkIndex_df160 5 = .ok (.invokestatic 1059, 3) := by decide +kernel
theorem dJ0_checkIndex_df160_8 : decode cJ0_checkIndex_df160 8 = .ok (.pop, 1) := by decide +kernel
theorem dJ0_checkIndex_df160_9 : decode cJ0_checkIndex_df160 9 = .ok (.return_, 1) := by decide +kernel
theorem dJ1_charAt_3b067_0 : decode cJ1_charAt_3b067 0 = .ok (.iload_n 1, 1) := by decide +kernel
theorem dJ1_charAt_3b067_1 : decode cJ1_charAt_3b067 1 = .ok (.aload_n 0, 1) := by decide +kernel
theorem dJ1_charAt_3b067_2 : decode cJ1_charAt_3b067 2 = .ok (.arraylength, 1) := by decide +kernel
theorem dJ1_charAt_3b067_3 : decode cJ1_charAt_3b067 3 = .ok (.invokestatic 9, 3) := by decide +kernel
theorem dJ1_charAt_3b067_6 : decode cJ1_charAt_3b067 6 = .ok (.aload_n 0, 1) := by decide +kernel
theorem dJ1_charAt_3b067_7 : decode cJ1_charAt_3b067 7 = .ok (.iload_n 1, 1) := by decide +kernel
theorem dJ1_charAt_3b067_8 : decode cJ1_charAt_3b067 8 = .ok (.baload, 1) := by decide +kernel
theorem dJ1_charAt_3b067_9 : decode cJ1_charAt_3b067 9 = .ok (.sipush 255, 3) := by decide +kernel
theorem dJ1_charAt_3b067_12 : decode cJ1_charAt_3b067 12 = .ok (.iand, 1) := by decide +kernel
theorem dJ1_charAt_3b067_13 : decode cJ1_charAt_3b067 13 = .ok (.i2c, 1) := by decide +kernel
theorem dJ1_charAt_3b067_14 : decode cJ1_charAt_3b067 14 = .ok (.ireturn, 1) := by decide +kernel
theorem dJ2_getChar_3b067_0 : decode cJ2_getChar_3b067 0 = .ok (.getstatic 44, 3) := by decide +kernel
theorem dJ2_getChar_3b067_3 : decode cJ2_getChar_3b067 3 = .ok (.ifCond .ne 25, 3) := by decide +kernel
theorem dJ2_getChar_3b067_6 : decode cJ2_getChar_3b067 6 = .ok (.iload_n 1, 1) := by decide +kernel
theorem dJ2_getChar_3b067_7 : decode cJ2_getChar_3b067 7 = .ok (.ifCond .lt 11, 3) := by decide +kernel
theorem dJ2_getChar_3b067_10 : decode cJ2_getChar_3b067 10 = .ok (.iload_n 1, 1) := by decide +kernel
theorem dJ2_getChar_3b067_11 : decode cJ2_getChar_3b067 11 = .ok (.aload_n 0, 1) := by decide +kernel
theorem dJ2_getChar_3b067_12 : decode cJ2_getChar_3b067 12 = .ok (.invokestatic 48, 3) := by decide +kernel
theorem dJ2_getChar_3b067_15 : decode cJ2_getChar_3b067 15 = .ok (.if_icmp .lt 13, 3) := by decide +kernel
theorem dJ2_getChar_3b067_18 : decode cJ2_getChar_3b067 18 = .ok (.new 52, 3) := by decide +kernel
theorem dJ2_getChar_3b067_21 : decode cJ2_getChar_3b067 21 = .ok (.dup, 1) := by decide +kernel
theorem dJ2_getChar_3b067_22 : decode cJ2_getChar_3b067 22 = .ok (.ldc 54, 2) := by decide +kernel
theorem dJ2_getChar_3b067_24 : decode cJ2_getChar_3b067 24 = .ok (.invokespecial 56, 3) := by decide +kernel
theorem dJ2_getChar_3b067_27 : decode cJ2_getChar_3b067 27 = .ok (.athrow, 1) := by decide +kernel
theorem dJ2_getChar_3b067_28 : decode cJ2_getChar_3b067 28 = .ok (.iload_n 1, 1) := by decide +kernel
theorem dJ2_getChar_3b067_29 : decode cJ2_getChar_3b067 29 = .ok (.iconst 1, 1) := by decide +kernel
theorem dJ2_getChar_3b067_30 : decode cJ2_getChar_3b067 30 = .ok (.ishl, 1) := by decide +kernel
theorem dJ2_getChar_3b067_31 : decode cJ2_getChar_3b067 31 = .ok (.istore_n 1, 1) := by decide +kernel
theorem dJ2_getChar_3b067_32 : decode cJ2_getChar_3b067 32 = .ok (.aload_n 0, 1) := by decide +kernel
theorem dJ2_getChar_3b067_33 : decode cJ2_getChar_3b067 33 = .ok (.iload_n 1, 1) := by decide +kernel
theorem dJ2_getChar_3b067_34 : decode cJ2_getChar_3b067 34 = .ok (.iinc 1 1, 3) := by decide +kernel
theorem dJ2_getChar_3b067_37 : decode cJ2_getChar_3b067 37 = .ok (.baload, 1) := by decide +kernel
theorem dJ2_getChar_3b067_38 : decode cJ2_getChar_3b067 38 = .ok (.sipush 255, 3) := by decide +kernel
theorem dJ2_getChar_3b067_41 : decode cJ2_getChar_3b067 41 = .ok (.iand, 1) := by decide +kernel
theorem dJ2_getChar_3b067_42 : decode cJ2_getChar_3b067 42 = .ok (.getstatic 59, 3) := by decide +kernel
theorem dJ2_getChar_3b067_45 : decode cJ2_getChar_3b067 45 = .ok (.ishl, 1) := by decide +kernel
theorem dJ2_getChar_3b067_46 : decode cJ2_getChar_3b067 46 = .ok (.aload_n 0, 1) := by decide +kernel
theorem dJ2_getChar_3b067_47 : decode cJ2_getChar_3b067 47 = .ok (.iload_n 1, 1) := by decide +kernel
theorem dJ2_getChar_3b067_48 : decode cJ2_getChar_3b067 48 = .ok (.baload, 1) := by decide +kernel
theorem dJ2_getChar_3b067_49 : decode cJ2_getChar_3b067 49 = .ok (.sipush 255, 3) := by decide +kernel
theorem dJ2_getChar_3b067_52 : decode cJ2_getChar_3b067 52 = .ok (.iand, 1) := by decide +kernel
theorem dJ2_getChar_3b067_53 : decode cJ2_getChar_3b067 53 = .ok (.getstatic 63, 3) := by decide +kernel
theorem dJ2_getChar_3b067_56 : decode cJ2_getChar_3b067 56 = .ok (.ishl, 1) := by decide +kernel
theorem dJ2_getChar_3b067_57 : decode cJ2_getChar_3b067 57 = .ok (.ior, 1) := by decide +kernel
theorem dJ2_getChar_3b067_58 : decode cJ2_getChar_3b067 58 = .ok (.i2c, 1) := by decide +kernel
theorem dJ2_getChar_3b067_59 : decode cJ2_getChar_3b067 59 = .ok (.ireturn, 1) := by decide +kernel
theorem dJ2_length_9d52b_0 : decode cJ2_length_9d52b 0 = .ok (.aload_n 0, 1) := by decide +kernel
theorem dJ2_length_9d52b_1 : decode cJ2_length_9d52b 1 = .ok (.arraylength, 1) := by decide +kernel
theorem dJ2_length_9d52b_2 : decode cJ2_length_9d52b 2 = .ok (.iconst 1, 1) := by decide +kernel
theorem dJ2_length_9d52b_3 : decode cJ2_length_9d52b 3 = .ok (.ishr, 1) := by decide +kernel
theorem dJ2_length_9d52b_4 : decode cJ2_length_9d52b 4 = .ok (.ireturn, 1) := by decide +kernel
theorem dJ2_charAt_3b067_0 : decode cJ2_charAt_3b067 0 = .ok (.iload_n 1, 1) := by decide +kernel
theorem dJ2_charAt_3b067_1 : decode cJ2_charAt_3b067 1 = .ok (.aload_n 0, 1) := by decide +kernel
theorem dJ2_charAt_3b067_2 : decode cJ2_charAt_3b067 2 = .ok (.invokestatic 67, 3) := by decide +kernel
theorem dJ2_charAt_3b067_5 : decode cJ2_charAt_3b067 5 = .ok (.aload_n 0, 1) := by decide +kernel
theorem dJ2_charAt_3b067_6 : decode cJ2_charAt_3b067 6 = .ok (.iload_n 1, 1) := by decide +kernel
theorem dJ2_charAt_3b067_7 : decode cJ2_charAt_3b067 7 = .ok (.invokestatic 71, 3) := by decide +kernel
theorem dJ2_charAt_3b067_10 : decode cJ2_charAt_3b067 10 = .ok (.ireturn, 1) := by decide +kernel
theorem dJ2_checkIndex_2214a_0 : decode cJ2_checkIndex_2214a 0 = .ok (.iload_n 0, 1) := by decide +kernel
theorem dJ2_checkIndex_2214a_1 : decode cJ2_checkIndex_2214a 1 = .ok (.aload_n 1, 1) := by decide +kernel
theorem dJ2_checkIndex_2214a_2 : decode cJ2_checkIndex_2214a 2 = .ok (.invokestatic 48, 3) := by decide +kernel
theorem dJ2_checkIndex_2214a_5 : decode cJ2_checkIndex_2214a 5 = .ok (.invokestatic 414, 3) := by decide +kernel
theorem dJ2_checkIndex_2214a_8 : decode cJ2_checkIndex_2214a 8 = .ok (.return_, 1) := by decide +kernel
theorem dJ3_checkIndex_8e157_0 : decode cJ3_checkIndex_8e157 0 = .ok (.iload_n 0, 1) := by decide +kernel
theorem dJ3_checkIndex_8e157_1 : decode cJ3_checkIndex_8e157 1 = .ok (.ifCond .lt 8, 3) := by decide +kernel
theorem dJ3_checkIndex_8e157_4 : decode cJ3_checkIndex_8e157 4 = .ok (.iload_n 0, 1) := by decide +kernel
theorem dJ3_checkIndex_8e157_5 : decode cJ3_checkIndex_8e157 5 = .ok (.iload_n 1, 1) := by decide +kernel
theorem dJ3_checkIndex_8e157_6 : decode cJ3_checkIndex_8e157 6 = .ok (.if_icmp .lt 10, 3) := by decide +kernel
theorem dJ3_checkIndex_8e157_9 : decode cJ3_checkIndex_8e157 9 = .ok (.aload_n 2, 1) := by decide +kernel
theorem dJ3_checkIndex_8e157_10 : decode cJ3_checkIndex_8e157 10 = .ok (.iload_n 0, 1) := by decide +kernel
theorem dJ3_checkIndex_8e157_11 : decode cJ3_checkIndex_8e157 11 = .ok (.iload_n 1, 1) := by decide +kernel
theorem dJ3_checkIndex_8e157_12 : decode cJ3_checkIndex_8e157 12 = .ok (.invokestatic 95, 3) := by decide +kernel
theorem dJ3_checkIndex_8e157_15 : decode cJ3_checkIndex_8e157 15 = .ok (.athrow, 1) := by decide +kernel
theorem dJ3_checkIndex_8e157_16 : decode cJ3_checkIndex_8e157 16 = .ok (.iload_n 0, 1) := by decide +kernel
theorem dJ3_checkIndex_8e157_17 : decode cJ3_checkIndex_8e157 17 = .ok (.ireturn, 1) := by decide +kernel
theorem dL_rests_0 : decode cL_rests 0 = .ok (.aload 5, 2) := by decide +kernel
theorem dL_rests_2 : decode cL_rests 2 = .ok (.iconst 0, 1) := by decide +kernel
theorem dL_rests_3 : decode cL_rests 3 = .ok (.aload_n 0, 1) := by decide +kernel
theorem dL_rests_4 : decode cL_rests 4 = .ok (.iload_n 1, 1) := by decide +kernel
theorem dL_rests_5 : decode cL_rests 5 = .ok (.iload_n 2, 1) := by decide +kernel
theorem dL_rests_6 : decode cL_rests 6 = .ok (.iload_n 3, 1) := by decide +kernel
theorem dL_rests_7 : decode cL_rests 7 = .ok (.iload 4, 2) := by decide +kernel
theorem dL_rests_9 : decode cL_rests 9 = .ok (.invokevirtual 7, 3) := by decide +kernel
theorem dL_rests_12 : decode cL_rests 12 = .ok (.i2l, 1) := by decide +kernel
theorem dL_rests_13 : decode cL_rests 13 = .ok (.lastore, 1) := by decide +kernel
theorem dL_rests_14 : decode cL_rests 14 = .ok (.goto 7, 3) := by decide +kernel
theorem dL_rests_17 : decode cL_rests 17 = .ok (.astore 6, 2) := by decide +kernel
theorem dL_rests_19 : decode cL_rests 19 = .ok (.iconst 1, 1) := by decide +kernel
theorem dL_rests_20 : decode cL_rests 20 = .ok (.ireturn, 1) := by decide +kernel
theorem dL_rests_21 : decode cL_rests 21 = .ok (.iconst 0, 1) := by decide +kernel
theorem dL_rests_22 : decode cL_rests 22 = .ok (.ireturn, 1) := by decide +kernel
theorem dL_law_0 : decode cL_law 0 = .ok (.new 8, 3) := by decide +kernel
theorem dL_law_3 : decode cL_law 3 = .ok (.dup, 1) := by decide +kernel
theorem dL_law_4 : decode cL_law 4 = .ok (.invokespecial 15, 3) := by decide +kernel
theorem dL_law_7 : decode cL_law 7 = .ok (.astore_n 1, 1) := by decide +kernel
theorem dL_law_8 : decode cL_law 8 = .ok (.new 16, 3) := by decide +kernel
theorem dL_law_11 : decode cL_law 11 = .ok (.dup, 1) := by decide +kernel
theorem dL_law_12 : decode cL_law 12 = .ok (.invokespecial 18, 3) := by decide +kernel
theorem dL_law_15 : decode cL_law 15 = .ok (.astore_n 2, 1) := by decide +kernel
theorem dL_law_16 : decode cL_law 16 = .ok (.iconst 1, 1) := by decide +kernel
theorem dL_law_17 : decode cL_law 17 = .ok (.newarray .long, 2) := by decide +kernel
theorem dL_law_19 : decode cL_law 19 = .ok (.astore_n 3, 1) := by decide +kernel
theorem dL_law_20 : decode cL_law 20 = .ok (.iconst 0, 1) := by decide +kernel
theorem dL_law_21 : decode cL_law 21 = .ok (.istore 4, 2) := by decide +kernel
theorem dL_law_23 : decode cL_law 23 = .ok (.iload 4, 2) := by decide +kernel
theorem dL_law_25 : decode cL_law 25 = .ok (.aload_n 0, 1) := by decide +kernel
theorem dL_law_26 : decode cL_law 26 = .ok (.arraylength, 1) := by decide +kernel
theorem dL_law_27 : decode cL_law 27 = .ok (.bipush 7, 2) := by decide +kernel
theorem dL_law_29 : decode cL_law 29 = .ok (.isub, 1) := by decide +kernel
theorem dL_law_30 : decode cL_law 30 = .ok (.if_icmp .gt 1362, 3) := by decide +kernel
theorem dL_law_33 : decode cL_law 33 = .ok (.aload_n 0, 1) := by decide +kernel
theorem dL_law_34 : decode cL_law 34 = .ok (.iload 4, 2) := by decide +kernel
theorem dL_law_36 : decode cL_law 36 = .ok (.iaload, 1) := by decide +kernel
theorem dL_law_37 : decode cL_law 37 = .ok (.bipush 63, 2) := by decide +kernel
theorem dL_law_39 : decode cL_law 39 = .ok (.iand, 1) := by decide +kernel
theorem dL_law_40 : decode cL_law 40 = .ok (.tableswitch 1346 0 36 #[164, 311, 324, 337, 374, 399, 424, 449, 462, 475, 488, 513, 538, 575, 600, 625, 662, 687, 712, 737, 762, 787, 824, 849, 874, 899, 936, 961, 986, 999, 1052, 1077, 1090, 1127, 1219, 1268, 1321], 164) := by decide +kernel
theorem dL_law_204 : decode cL_law 204 = .ok (.aload_n 1, 1) := by decide +kernel
theorem dL_law_205 : decode cL_law 205 = .ok (.aload_n 0, 1) := by decide +kernel
theorem dL_law_206 : decode cL_law 206 = .ok (.iload 4, 2) := by decide +kernel
theorem dL_law_208 : decode cL_law 208 = .ok (.iconst 1, 1) := by decide +kernel
theorem dL_law_209 : decode cL_law 209 = .ok (.iadd, 1) := by decide +kernel
theorem dL_law_210 : decode cL_law 210 = .ok (.iaload, 1) := by decide +kernel
theorem dL_law_211 : decode cL_law 211 = .ok (.i2l, 1) := by decide +kernel
theorem dL_law_212 : decode cL_law 212 = .ok (.bipush 32, 2) := by decide +kernel
theorem dL_law_214 : decode cL_law 214 = .ok (.lshl, 1) := by decide +kernel
theorem dL_law_215 : decode cL_law 215 = .ok (.aload_n 0, 1) := by decide +kernel
theorem dL_law_216 : decode cL_law 216 = .ok (.iload 4, 2) := by decide +kernel
theorem dL_law_218 : decode cL_law 218 = .ok (.iconst 2, 1) := by decide +kernel
theorem dL_law_219 : decode cL_law 219 = .ok (.iadd, 1) := by decide +kernel
theorem dL_law_220 : decode cL_law 220 = .ok (.iaload, 1) := by decide +kernel
theorem dL_law_221 : decode cL_law 221 = .ok (.i2l, 1) := by decide +kernel
theorem dL_law_222 : decode cL_law 222 = .ok (.ldc2_w 19, 3) := by decide +kernel
theorem dL_law_225 : decode cL_law 225 = .ok (.land, 1) := by decide +kernel
theorem dL_law_226 : decode cL_law 226 = .ok (.lor, 1) := by decide +kernel
theorem dL_law_227 : decode cL_law 227 = .ok (.aload_n 0, 1) := by decide +kernel
theorem dL_law_228 : decode cL_law 228 = .ok (.iload 4, 2) := by decide +kernel
theorem dL_law_230 : decode cL_law 230 = .ok (.iconst 3, 1) := by decide +kernel
theorem dL_law_231 : decode cL_law 231 = .ok (.iadd, 1) := by decide +kernel
theorem dL_law_232 : decode cL_law 232 = .ok (.iaload, 1) := by decide +kernel
theorem dL_law_233 : decode cL_law 233 = .ok (.i2l, 1) := by decide +kernel
theorem dL_law_234 : decode cL_law 234 = .ok (.bipush 32, 2) := by decide +kernel
theorem dL_law_236 : decode cL_law 236 = .ok (.lshl, 1) := by decide +kernel
theorem dL_law_237 : decode cL_law 237 = .ok (.aload_n 0, 1) := by decide +kernel
theorem dL_law_238 : decode cL_law 238 = .ok (.iload 4, 2) := by decide +kernel
theorem dL_law_240 : decode cL_law 240 = .ok (.iconst 4, 1) := by decide +kernel
theorem dL_law_241 : decode cL_law 241 = .ok (.iadd, 1) := by decide +kernel
theorem dL_law_242 : decode cL_law 242 = .ok (.iaload, 1) := by decide +kernel
theorem dL_law_243 : decode cL_law 243 = .ok (.i2l, 1) := by decide +kernel
theorem dL_law_244 : decode cL_law 244 = .ok (.ldc2_w 19, 3) := by decide +kernel
theorem dL_law_247 : decode cL_law 247 = .ok (.land, 1) := by decide +kernel
theorem dL_law_248 : decode cL_law 248 = .ok (.lor, 1) := by decide +kernel
theorem dL_law_249 : decode cL_law 249 = .ok (.aload_n 0, 1) := by decide +kernel
theorem dL_law_250 : decode cL_law 250 = .ok (.iload 4, 2) := by decide +kernel
theorem dL_law_252 : decode cL_law 252 = .ok (.iconst 5, 1) := by decide +kernel
theorem dL_law_253 : decode cL_law 253 = .ok (.iadd, 1) := by decide +kernel
theorem dL_law_254 : decode cL_law 254 = .ok (.iaload, 1) := by decide +kernel
theorem dL_law_255 : decode cL_law 255 = .ok (.i2l, 1) := by decide +kernel
theorem dL_law_256 : decode cL_law 256 = .ok (.bipush 32, 2) := by decide +kernel
theorem dL_law_258 : decode cL_law 258 = .ok (.lshl, 1) := by decide +kernel
theorem dL_law_259 : decode cL_law 259 = .ok (.aload_n 0, 1) := by decide +kernel
theorem dL_law_260 : decode cL_law 260 = .ok (.iload 4, 2) := by decide +kernel
theorem dL_law_262 : decode cL_law 262 = .ok (.bipush 6, 2) := by decide +kernel
theorem dL_law_264 : decode cL_law 264 = .ok (.iadd, 1) := by decide +kernel
theorem dL_law_265 : decode cL_law 265 = .ok (.iaload, 1) := by decide +kernel
theorem dL_law_266 : decode cL_law 266 = .ok (.i2l, 1) := by decide +kernel
theorem dL_law_267 : decode cL_law 267 = .ok (.ldc2_w 19, 3) := by decide +kernel
theorem dL_law_270 : decode cL_law 270 = .ok (.land, 1) := by decide +kernel
theorem dL_law_271 : decode cL_law 271 = .ok (.lor, 1) := by decide +kernel
theorem dL_law_272 : decode cL_law 272 = .ok (.invokevirtual 21, 3) := by decide +kernel
theorem dL_law_275 : decode cL_law 275 = .ok (.aload_n 2, 1) := by decide +kernel
theorem dL_law_276 : decode cL_law 276 = .ok (.aload_n 0, 1) := by decide +kernel
theorem dL_law_277 : decode cL_law 277 = .ok (.iload 4, 2) := by decide +kernel
theorem dL_law_279 : decode cL_law 279 = .ok (.iconst 1, 1) := by decide +kernel
theorem dL_law_280 : decode cL_law 280 = .ok (.iadd, 1) := by decide +kernel
theorem dL_law_281 : decode cL_law 281 = .ok (.iaload, 1) := by decide +kernel
theorem dL_law_282 : decode cL_law 282 = .ok (.i2l, 1) := by decide +kernel
theorem dL_law_283 : decode cL_law 283 = .ok (.bipush 32, 2) := by decide +kernel
theorem dL_law_285 : decode cL_law 285 = .ok (.lshl, 1) := by decide +kernel
theorem dL_law_286 : decode cL_law 286 = .ok (.aload_n 0, 1) := by decide +kernel
theorem dL_law_287 : decode cL_law 287 = .ok (.iload 4, 2) := by decide +kernel
theorem dL_law_289 : decode cL_law 289 = .ok (.iconst 2, 1) := by decide +kernel
theorem dL_law_290 : decode cL_law 290 = .ok (.iadd, 1) := by decide +kernel
theorem dL_law_291 : decode cL_law 291 = .ok (.iaload, 1) := by decide +kernel
theorem dL_law_292 : decode cL_law 292 = .ok (.i2l, 1) := by decide +kernel
theorem dL_law_293 : decode cL_law 293 = .ok (.ldc2_w 19, 3) := by decide +kernel
theorem dL_law_296 : decode cL_law 296 = .ok (.land, 1) := by decide +kernel
theorem dL_law_297 : decode cL_law 297 = .ok (.lor, 1) := by decide +kernel
theorem dL_law_298 : decode cL_law 298 = .ok (.aload_n 0, 1) := by decide +kernel
theorem dL_law_299 : decode cL_law 299 = .ok (.iload 4, 2) := by decide +kernel
theorem dL_law_301 : decode cL_law 301 = .ok (.iconst 3, 1) := by decide +kernel
theorem dL_law_302 : decode cL_law 302 = .ok (.iadd, 1) := by decide +kernel
theorem dL_law_303 : decode cL_law 303 = .ok (.iaload, 1) := by decide +kernel
theorem dL_law_304 : decode cL_law 304 = .ok (.i2l, 1) := by decide +kernel
theorem dL_law_305 : decode cL_law 305 = .ok (.bipush 32, 2) := by decide +kernel
theorem dL_law_307 : decode cL_law 307 = .ok (.lshl, 1) := by decide +kernel
theorem dL_law_308 : decode cL_law 308 = .ok (.aload_n 0, 1) := by decide +kernel
theorem dL_law_309 : decode cL_law 309 = .ok (.iload 4, 2) := by decide +kernel
theorem dL_law_311 : decode cL_law 311 = .ok (.iconst 4, 1) := by decide +kernel
theorem dL_law_312 : decode cL_law 312 = .ok (.iadd, 1) := by decide +kernel
theorem dL_law_313 : decode cL_law 313 = .ok (.iaload, 1) := by decide +kernel
theorem dL_law_314 : decode cL_law 314 = .ok (.i2l, 1) := by decide +kernel
theorem dL_law_315 : decode cL_law 315 = .ok (.ldc2_w 19, 3) := by decide +kernel
theorem dL_law_318 : decode cL_law 318 = .ok (.land, 1) := by decide +kernel
theorem dL_law_319 : decode cL_law 319 = .ok (.lor, 1) := by decide +kernel
theorem dL_law_320 : decode cL_law 320 = .ok (.aload_n 0, 1) := by decide +kernel
theorem dL_law_321 : decode cL_law 321 = .ok (.iload 4, 2) := by decide +kernel
theorem dL_law_323 : decode cL_law 323 = .ok (.iconst 5, 1) := by decide +kernel
theorem dL_law_324 : decode cL_law 324 = .ok (.iadd, 1) := by decide +kernel
theorem dL_law_325 : decode cL_law 325 = .ok (.iaload, 1) := by decide +kernel
theorem dL_law_326 : decode cL_law 326 = .ok (.i2l, 1) := by decide +kernel
theorem dL_law_327 : decode cL_law 327 = .ok (.bipush 32, 2) := by decide +kernel
theorem dL_law_329 : decode cL_law 329 = .ok (.lshl, 1) := by decide +kernel
theorem dL_law_330 : decode cL_law 330 = .ok (.aload_n 0, 1) := by decide +kernel
theorem dL_law_331 : decode cL_law 331 = .ok (.iload 4, 2) := by decide +kernel
theorem dL_law_333 : decode cL_law 333 = .ok (.bipush 6, 2) := by decide +kernel
theorem dL_law_335 : decode cL_law 335 = .ok (.iadd, 1) := by decide +kernel
theorem dL_law_336 : decode cL_law 336 = .ok (.iaload, 1) := by decide +kernel
theorem dL_law_337 : decode cL_law 337 = .ok (.i2l, 1) := by decide +kernel
theorem dL_law_338 : decode cL_law 338 = .ok (.ldc2_w 19, 3) := by decide +kernel
theorem dL_law_341 : decode cL_law 341 = .ok (.land, 1) := by decide +kernel
theorem dL_law_342 : decode cL_law 342 = .ok (.lor, 1) := by decide +kernel
theorem dL_law_343 : decode cL_law 343 = .ok (.invokevirtual 25, 3) := by decide +kernel
theorem dL_law_346 : decode cL_law 346 = .ok (.if_icmp .eq 1040, 3) := by decide +kernel
theorem dL_law_349 : decode cL_law 349 = .ok (.iconst 0, 1) := by decide +kernel
theorem dL_law_350 : decode cL_law 350 = .ok (.ireturn, 1) := by decide +kernel
theorem dL_law_351 : decode cL_law 351 = .ok (.aload_n 1, 1) := by decide +kernel
theorem dL_law_352 : decode cL_law 352 = .ok (.invokevirtual 26, 3) := by decide +kernel
theorem dL_law_355 : decode cL_law 355 = .ok (.aload_n 2, 1) := by decide +kernel
theorem dL_law_356 : decode cL_law 356 = .ok (.invokevirtual 30, 3) := by decide +kernel
theorem dL_law_359 : decode cL_law 359 = .ok (.if_icmp .eq 1027, 3) := by decide +kernel
theorem dL_law_362 : decode cL_law 362 = .ok (.iconst 0, 1) := by decide +kernel
theorem dL_law_363 : decode cL_law 363 = .ok (.ireturn, 1) := by decide +kernel
theorem dL_law_364 : decode cL_law 364 = .ok (.aload_n 1, 1) := by decide +kernel
theorem dL_law_365 : decode cL_law 365 = .ok (.invokevirtual 31, 3) := by decide +kernel
theorem dL_law_368 : decode cL_law 368 = .ok (.aload_n 2, 1) := by decide +kernel
theorem dL_law_369 : decode cL_law 369 = .ok (.invokevirtual 34, 3) := by decide +kernel
theorem dL_law_372 : decode cL_law 372 = .ok (.if_icmp .eq 1014, 3) := by decide +kernel
theorem dL_law_375 : decode cL_law 375 = .ok (.iconst 0, 1) := by decide +kernel
theorem dL_law_376 : decode cL_law 376 = .ok (.ireturn, 1) := by decide +kernel
theorem dL_law_377 : decode cL_law 377 = .ok (.aload_n 1, 1) := by decide +kernel
theorem dL_law_378 : decode cL_law 378 = .ok (.aload_n 0, 1) := by decide +kernel
theorem dL_law_379 : decode cL_law 379 = .ok (.iload 4, 2) := by decide +kernel
theorem dL_law_381 : decode cL_law 381 = .ok (.iconst 1, 1) := by decide +kernel
theorem dL_law_382 : decode cL_law 382 = .ok (.iadd, 1) := by decide +kernel
theorem dL_law_383 : decode cL_law 383 = .ok (.iaload, 1) := by decide +kernel
theorem dL_law_384 : decode cL_law 384 = .ok (.aload_n 0, 1) := by decide +kernel
theorem dL_law_385 : decode cL_law 385 = .ok (.iload 4, 2) := by decide +kernel
theorem dL_law_387 : decode cL_law 387 = .ok (.iconst 2, 1) := by decide +kernel
theorem dL_law_388 : decode cL_law 388 = .ok (.iadd, 1) := by decide +kernel
theorem dL_law_389 : decode cL_law 389 = .ok (.iaload, 1) := by decide +kernel
theorem dL_law_390 : decode cL_law 390 = .ok (.invokevirtual 35, 3) := by decide +kernel
theorem dL_law_393 : decode cL_law 393 = .ok (.aload_n 2, 1) := by decide +kernel
theorem dL_law_394 : decode cL_law 394 = .ok (.aload_n 0, 1) := by decide +kernel
theorem dL_law_395 : decode cL_law 395 = .ok (.iload 4, 2) := by decide +kernel
theorem dL_law_397 : decode cL_law 397 = .ok (.iconst 1, 1) := by decide +kernel
theorem dL_law_398 : decode cL_law 398 = .ok (.iadd, 1) := by decide +kernel
theorem dL_law_399 : decode cL_law 399 = .ok (.iaload, 1) := by decide +kernel
theorem dL_law_400 : decode cL_law 400 = .ok (.aload_n 0, 1) := by decide +kernel
theorem dL_law_401 : decode cL_law 401 = .ok (.iload 4, 2) := by decide +kernel
theorem dL_law_403 : decode cL_law 403 = .ok (.iconst 2, 1) := by decide +kernel
theorem dL_law_404 : decode cL_law 404 = .ok (.iadd, 1) := by decide +kernel
theorem dL_law_405 : decode cL_law 405 = .ok (.iaload, 1) := by decide +kernel
theorem dL_law_406 : decode cL_law 406 = .ok (.invokevirtual 39, 3) := by decide +kernel
theorem dL_law_409 : decode cL_law 409 = .ok (.if_icmp .eq 977, 3) := by decide +kernel
theorem dL_law_412 : decode cL_law 412 = .ok (.iconst 0, 1) := by decide +kernel
theorem dL_law_413 : decode cL_law 413 = .ok (.ireturn, 1) := by decide +kernel
theorem dL_law_414 : decode cL_law 414 = .ok (.aload_n 1, 1) := by decide +kernel
theorem dL_law_415 : decode cL_law 415 = .ok (.aload_n 0, 1) := by decide +kernel
theorem dL_law_416 : decode cL_law 416 = .ok (.iload 4, 2) := by decide +kernel
theorem dL_law_418 : decode cL_law 418 = .ok (.iconst 1, 1) := by decide +kernel
theorem dL_law_419 : decode cL_law 419 = .ok (.iadd, 1) := by decide +kernel
theorem dL_law_420 : decode cL_law 420 = .ok (.iaload, 1) := by decide +kernel
theorem dL_law_421 : decode cL_law 421 = .ok (.invokevirtual 40, 3) := by decide +kernel
theorem dL_law_424 : decode cL_law 424 = .ok (.aload_n 2, 1) := by decide +kernel
theorem dL_law_425 : decode cL_law 425 = .ok (.aload_n 0, 1) := by decide +kernel
theorem dL_law_426 : decode cL_law 426 = .ok (.iload 4, 2) := by decide +kernel
theorem dL_law_428 : decode cL_law 428 = .ok (.iconst 1, 1) := by decide +kernel
theorem dL_law_429 : decode cL_law 429 = .ok (.iadd, 1) := by decide +kernel
theorem dL_law_430 : decode cL_law 430 = .ok (.iaload, 1) := by decide +kernel
theorem dL_law_431 : decode cL_law 431 = .ok (.invokevirtual 44, 3) := by decide +kernel
theorem dL_law_434 : decode cL_law 434 = .ok (.if_icmp .eq 952, 3) := by decide +kernel
theorem dL_law_437 : decode cL_law 437 = .ok (.iconst 0, 1) := by decide +kernel
theorem dL_law_438 : decode cL_law 438 = .ok (.ireturn, 1) := by decide +kernel
theorem dL_law_439 : decode cL_law 439 = .ok (.aload_n 1, 1) := by decide +kernel
theorem dL_law_440 : decode cL_law 440 = .ok (.aload_n 0, 1) := by decide +kernel
theorem dL_law_441 : decode cL_law 441 = .ok (.iload 4, 2) := by decide +kernel
theorem dL_law_443 : decode cL_law 443 = .ok (.iconst 1, 1) := by decide +kernel
theorem dL_law_444 : decode cL_law 444 = .ok (.iadd, 1) := by decide +kernel
theorem dL_law_445 : decode cL_law 445 = .ok (.iaload, 1) := by decide +kernel
theorem dL_law_446 : decode cL_law 446 = .ok (.invokevirtual 45, 3) := by decide +kernel
theorem dL_law_449 : decode cL_law 449 = .ok (.aload_n 2, 1) := by decide +kernel
theorem dL_law_450 : decode cL_law 450 = .ok (.aload_n 0, 1) := by decide +kernel
theorem dL_law_451 : decode cL_law 451 = .ok (.iload 4, 2) := by decide +kernel
theorem dL_law_453 : decode cL_law 453 = .ok (.iconst 1, 1) := by decide +kernel
theorem dL_law_454 : decode cL_law 454 = .ok (.iadd, 1) := by decide +kernel
theorem dL_law_455 : decode cL_law 455 = .ok (.iaload, 1) := by decide +kernel
theorem dL_law_456 : decode cL_law 456 = .ok (.invokevirtual 49, 3) := by decide +kernel
theorem dL_law_459 : decode cL_law 459 = .ok (.if_icmp .eq 927, 3) := by decide +kernel
theorem dL_law_462 : decode cL_law 462 = .ok (.iconst 0, 1) := by decide +kernel
theorem dL_law_463 : decode cL_law 463 = .ok (.ireturn, 1) := by decide +kernel
theorem dL_law_464 : decode cL_law 464 = .ok (.aload_n 1, 1) := by decide +kernel
theorem dL_law_465 : decode cL_law 465 = .ok (.aload_n 0, 1) := by decide +kernel
theorem dL_law_466 : decode cL_law 466 = .ok (.iload 4, 2) := by decide +kernel
theorem dL_law_468 : decode cL_law 468 = .ok (.iconst 1, 1) := by decide +kernel
theorem dL_law_469 : decode cL_law 469 = .ok (.iadd, 1) := by decide +kernel
theorem dL_law_470 : decode cL_law 470 = .ok (.iaload, 1) := by decide +kernel
theorem dL_law_471 : decode cL_law 471 = .ok (.invokevirtual 50, 3) := by decide +kernel
theorem dL_law_474 : decode cL_law 474 = .ok (.aload_n 2, 1) := by decide +kernel
theorem dL_law_475 : decode cL_law 475 = .ok (.aload_n 0, 1) := by decide +kernel
theorem dL_law_476 : decode cL_law 476 = .ok (.iload 4, 2) := by decide +kernel
theorem dL_law_478 : decode cL_law 478 = .ok (.iconst 1, 1) := by decide +kernel
theorem dL_law_479 : decode cL_law 479 = .ok (.iadd, 1) := by decide +kernel
theorem dL_law_480 : decode cL_law 480 = .ok (.iaload, 1) := by decide +kernel
theorem dL_law_481 : decode cL_law 481 = .ok (.invokevirtual 53, 3) := by decide +kernel
theorem dL_law_484 : decode cL_law 484 = .ok (.if_icmp .eq 902, 3) := by decide +kernel
theorem dL_law_487 : decode cL_law 487 = .ok (.iconst 0, 1) := by decide +kernel
theorem dL_law_488 : decode cL_law 488 = .ok (.ireturn, 1) := by decide +kernel
theorem dL_law_489 : decode cL_law 489 = .ok (.aload_n 1, 1) := by decide +kernel
theorem dL_law_490 : decode cL_law 490 = .ok (.invokevirtual 54, 3) := by decide +kernel
theorem dL_law_493 : decode cL_law 493 = .ok (.aload_n 2, 1) := by decide +kernel
theorem dL_law_494 : decode cL_law 494 = .ok (.invokevirtual 57, 3) := by decide +kernel
theorem dL_law_497 : decode cL_law 497 = .ok (.if_icmp .eq 889, 3) := by decide +kernel
theorem dL_law_500 : decode cL_law 500 = .ok (.iconst 0, 1) := by decide +kernel
theorem dL_law_501 : decode cL_law 501 = .ok (.ireturn, 1) := by decide +kernel
theorem dL_law_502 : decode cL_law 502 = .ok (.aload_n 1, 1) := by decide +kernel
theorem dL_law_503 : decode cL_law 503 = .ok (.invokevirtual 58, 3) := by decide +kernel
theorem dL_law_506 : decode cL_law 506 = .ok (.aload_n 2, 1) := by decide +kernel
theorem dL_law_507 : decode cL_law 507 = .ok (.invokevirtual 61, 3) := by decide +kernel
theorem dL_law_510 : decode cL_law 510 = .ok (.if_icmp .eq 876, 3) := by decide +kernel
theorem dL_law_513 : decode cL_law 513 = .ok (.iconst 0, 1) := by decide +kernel
theorem dL_law_514 : decode cL_law 514 = .ok (.ireturn, 1) := by decide +kernel
theorem dL_law_515 : decode cL_law 515 = .ok (.aload_n 1, 1) := by decide +kernel
theorem dL_law_516 : decode cL_law 516 = .ok (.invokevirtual 62, 3) := by decide +kernel
theorem dL_law_519 : decode cL_law 519 = .ok (.aload_n 2, 1) := by decide +kernel
theorem dL_law_520 : decode cL_law 520 = .ok (.invokevirtual 66, 3) := by decide +kernel
theorem dL_law_523 : decode cL_law 523 = .ok (.if_icmp .eq 863, 3) := by decide +kernel
theorem dL_law_526 : decode cL_law 526 = .ok (.iconst 0, 1) := by decide +kernel
theorem dL_law_527 : decode cL_law 527 = .ok (.ireturn, 1) := by decide +kernel
theorem dL_law_528 : decode cL_law 528 = .ok (.aload_n 1, 1) := by decide +kernel
theorem dL_law_529 : decode cL_law 529 = .ok (.aload_n 0, 1) := by decide +kernel
theorem dL_law_530 : decode cL_law 530 = .ok (.iload 4, 2) := by decide +kernel
theorem dL_law_532 : decode cL_law 532 = .ok (.iconst 1, 1) := by decide +kernel
theorem dL_law_533 : decode cL_law 533 = .ok (.iadd, 1) := by decide +kernel
theorem dL_law_534 : decode cL_law 534 = .ok (.iaload, 1) := by decide +kernel
theorem dL_law_535 : decode cL_law 535 = .ok (.invokevirtual 67, 3) := by decide +kernel
theorem dL_law_538 : decode cL_law 538 = .ok (.aload_n 2, 1) := by decide +kernel
theorem dL_law_539 : decode cL_law 539 = .ok (.aload_n 0, 1) := by decide +kernel
theorem dL_law_540 : decode cL_law 540 = .ok (.iload 4, 2) := by decide +kernel
theorem dL_law_542 : decode cL_law 542 = .ok (.iconst 1, 1) := by decide +kernel
theorem dL_law_543 : decode cL_law 543 = .ok (.iadd, 1) := by decide +kernel
theorem dL_law_544 : decode cL_law 544 = .ok (.iaload, 1) := by decide +kernel
theorem dL_law_545 : decode cL_law 545 = .ok (.invokevirtual 70, 3) := by decide +kernel
theorem dL_law_548 : decode cL_law 548 = .ok (.if_icmp .eq 838, 3) := by decide +kernel
theorem dL_law_551 : decode cL_law 551 = .ok (.iconst 0, 1) := by decide +kernel
theorem dL_law_552 : decode cL_law 552 = .ok (.ireturn, 1) := by decide +kernel
theorem dL_law_553 : decode cL_law 553 = .ok (.aload_n 1, 1) := by decide +kernel
theorem dL_law_554 : decode cL_law 554 = .ok (.aload_n 0, 1) := by decide +kernel
theorem dL_law_555 : decode cL_law 555 = .ok (.iload 4, 2) := by decide +kernel
theorem dL_law_557 : decode cL_law 557 = .ok (.iconst 1, 1) := by decide +kernel
theorem dL_law_558 : decode cL_law 558 = .ok (.iadd, 1) := by decide +kernel
theorem dL_law_559 : decode cL_law 559 = .ok (.iaload, 1) := by decide +kernel
theorem dL_law_560 : decode cL_law 560 = .ok (.invokevirtual 71, 3) := by decide +kernel
theorem dL_law_563 : decode cL_law 563 = .ok (.aload_n 2, 1) := by decide +kernel
theorem dL_law_564 : decode cL_law 564 = .ok (.aload_n 0, 1) := by decide +kernel
theorem dL_law_565 : decode cL_law 565 = .ok (.iload 4, 2) := by decide +kernel
theorem dL_law_567 : decode cL_law 567 = .ok (.iconst 1, 1) := by decide +kernel
theorem dL_law_568 : decode cL_law 568 = .ok (.iadd, 1) := by decide +kernel
theorem dL_law_569 : decode cL_law 569 = .ok (.iaload, 1) := by decide +kernel
theorem dL_law_570 : decode cL_law 570 = .ok (.invokevirtual 74, 3) := by decide +kernel
theorem dL_law_573 : decode cL_law 573 = .ok (.if_icmp .eq 813, 3) := by decide +kernel
theorem dL_law_576 : decode cL_law 576 = .ok (.iconst 0, 1) := by decide +kernel
theorem dL_law_577 : decode cL_law 577 = .ok (.ireturn, 1) := by decide +kernel
theorem dL_law_578 : decode cL_law 578 = .ok (.aload_n 1, 1) := by decide +kernel
theorem dL_law_579 : decode cL_law 579 = .ok (.aload_n 0, 1) := by decide +kernel
theorem dL_law_580 : decode cL_law 580 = .ok (.iload 4, 2) := by decide +kernel
theorem dL_law_582 : decode cL_law 582 = .ok (.iconst 1, 1) := by decide +kernel
theorem dL_law_583 : decode cL_law 583 = .ok (.iadd, 1) := by decide +kernel
theorem dL_law_584 : decode cL_law 584 = .ok (.iaload, 1) := by decide +kernel
theorem dL_law_585 : decode cL_law 585 = .ok (.aload_n 0, 1) := by decide +kernel
theorem dL_law_586 : decode cL_law 586 = .ok (.iload 4, 2) := by decide +kernel
theorem dL_law_588 : decode cL_law 588 = .ok (.iconst 2, 1) := by decide +kernel
theorem dL_law_589 : decode cL_law 589 = .ok (.iadd, 1) := by decide +kernel
theorem dL_law_590 : decode cL_law 590 = .ok (.iaload, 1) := by decide +kernel
theorem dL_law_591 : decode cL_law 591 = .ok (.invokevirtual 75, 3) := by decide +kernel
theorem dL_law_594 : decode cL_law 594 = .ok (.aload_n 2, 1) := by decide +kernel
theorem dL_law_595 : decode cL_law 595 = .ok (.aload_n 0, 1) := by decide +kernel
theorem dL_law_596 : decode cL_law 596 = .ok (.iload 4, 2) := by decide +kernel
theorem dL_law_598 : decode cL_law 598 = .ok (.iconst 1, 1) := by decide +kernel
theorem dL_law_599 : decode cL_law 599 = .ok (.iadd, 1) := by decide +kernel
theorem dL_law_600 : decode cL_law 600 = .ok (.iaload, 1) := by decide +kernel
theorem dL_law_601 : decode cL_law 601 = .ok (.aload_n 0, 1) := by decide +kernel
theorem dL_law_602 : decode cL_law 602 = .ok (.iload 4, 2) := by decide +kernel
theorem dL_law_604 : decode cL_law 604 = .ok (.iconst 2, 1) := by decide +kernel
theorem dL_law_605 : decode cL_law 605 = .ok (.iadd, 1) := by decide +kernel
theorem dL_law_606 : decode cL_law 606 = .ok (.iaload, 1) := by decide +kernel
theorem dL_law_607 : decode cL_law 607 = .ok (.invokevirtual 78, 3) := by decide +kernel
theorem dL_law_610 : decode cL_law 610 = .ok (.if_icmp .eq 776, 3) := by decide +kernel
theorem dL_law_613 : decode cL_law 613 = .ok (.iconst 0, 1) := by decide +kernel
theorem dL_law_614 : decode cL_law 614 = .ok (.ireturn, 1) := by decide +kernel
theorem dL_law_615 : decode cL_law 615 = .ok (.aload_n 1, 1) := by decide +kernel
theorem dL_law_616 : decode cL_law 616 = .ok (.aload_n 0, 1) := by decide +kernel
theorem dL_law_617 : decode cL_law 617 = .ok (.iload 4, 2) := by decide +kernel
theorem dL_law_619 : decode cL_law 619 = .ok (.iconst 1, 1) := by decide +kernel
theorem dL_law_620 : decode cL_law 620 = .ok (.iadd, 1) := by decide +kernel
theorem dL_law_621 : decode cL_law 621 = .ok (.iaload, 1) := by decide +kernel
theorem dL_law_622 : decode cL_law 622 = .ok (.invokevirtual 79, 3) := by decide +kernel
theorem dL_law_625 : decode cL_law 625 = .ok (.aload_n 2, 1) := by decide +kernel
theorem dL_law_626 : decode cL_law 626 = .ok (.aload_n 0, 1) := by decide +kernel
theorem dL_law_627 : decode cL_law 627 = .ok (.iload 4, 2) := by decide +kernel
theorem dL_law_629 : decode cL_law 629 = .ok (.iconst 1, 1) := by decide +kernel
theorem dL_law_630 : decode cL_law 630 = .ok (.iadd, 1) := by decide +kernel
theorem dL_law_631 : decode cL_law 631 = .ok (.iaload, 1) := by decide +kernel
theorem dL_law_632 : decode cL_law 632 = .ok (.invokevirtual 82, 3) := by decide +kernel
theorem dL_law_635 : decode cL_law 635 = .ok (.if_icmp .eq 751, 3) := by decide +kernel
theorem dL_law_638 : decode cL_law 638 = .ok (.iconst 0, 1) := by decide +kernel
theorem dL_law_639 : decode cL_law 639 = .ok (.ireturn, 1) := by decide +kernel
theorem dL_law_640 : decode cL_law 640 = .ok (.aload_n 1, 1) := by decide +kernel
theorem dL_law_641 : decode cL_law 641 = .ok (.aload_n 0, 1) := by decide +kernel
theorem dL_law_642 : decode cL_law 642 = .ok (.iload 4, 2) := by decide +kernel
theorem dL_law_644 : decode cL_law 644 = .ok (.iconst 1, 1) := by decide +kernel
theorem dL_law_645 : decode cL_law 645 = .ok (.iadd, 1) := by decide +kernel
theorem dL_law_646 : decode cL_law 646 = .ok (.iaload, 1) := by decide +kernel
theorem dL_law_647 : decode cL_law 647 = .ok (.invokevirtual 83, 3) := by decide +kernel
theorem dL_law_650 : decode cL_law 650 = .ok (.aload_n 2, 1) := by decide +kernel
theorem dL_law_651 : decode cL_law 651 = .ok (.aload_n 0, 1) := by decide +kernel
theorem dL_law_652 : decode cL_law 652 = .ok (.iload 4, 2) := by decide +kernel
theorem dL_law_654 : decode cL_law 654 = .ok (.iconst 1, 1) := by decide +kernel
theorem dL_law_655 : decode cL_law 655 = .ok (.iadd, 1) := by decide +kernel
theorem dL_law_656 : decode cL_law 656 = .ok (.iaload, 1) := by decide +kernel
theorem dL_law_657 : decode cL_law 657 = .ok (.invokevirtual 86, 3) := by decide +kernel
theorem dL_law_660 : decode cL_law 660 = .ok (.if_icmp .eq 726, 3) := by decide +kernel
theorem dL_law_663 : decode cL_law 663 = .ok (.iconst 0, 1) := by decide +kernel
theorem dL_law_664 : decode cL_law 664 = .ok (.ireturn, 1) := by decide +kernel
theorem dL_law_665 : decode cL_law 665 = .ok (.aload_n 1, 1) := by decide +kernel
theorem dL_law_666 : decode cL_law 666 = .ok (.aload_n 0, 1) := by decide +kernel
theorem dL_law_667 : decode cL_law 667 = .ok (.iload 4, 2) := by decide +kernel
theorem dL_law_669 : decode cL_law 669 = .ok (.iconst 1, 1) := by decide +kernel
theorem dL_law_670 : decode cL_law 670 = .ok (.iadd, 1) := by decide +kernel
theorem dL_law_671 : decode cL_law 671 = .ok (.iaload, 1) := by decide +kernel
theorem dL_law_672 : decode cL_law 672 = .ok (.aload_n 0, 1) := by decide +kernel
theorem dL_law_673 : decode cL_law 673 = .ok (.iload 4, 2) := by decide +kernel
theorem dL_law_675 : decode cL_law 675 = .ok (.iconst 2, 1) := by decide +kernel
theorem dL_law_676 : decode cL_law 676 = .ok (.iadd, 1) := by decide +kernel
theorem dL_law_677 : decode cL_law 677 = .ok (.iaload, 1) := by decide +kernel
theorem dL_law_678 : decode cL_law 678 = .ok (.invokevirtual 87, 3) := by decide +kernel
theorem dL_law_681 : decode cL_law 681 = .ok (.aload_n 2, 1) := by decide +kernel
theorem dL_law_682 : decode cL_law 682 = .ok (.aload_n 0, 1) := by decide +kernel
theorem dL_law_683 : decode cL_law 683 = .ok (.iload 4, 2) := by decide +kernel
theorem dL_law_685 : decode cL_law 685 = .ok (.iconst 1, 1) := by decide +kernel
theorem dL_law_686 : decode cL_law 686 = .ok (.iadd, 1) := by decide +kernel
theorem dL_law_687 : decode cL_law 687 = .ok (.iaload, 1) := by decide +kernel
theorem dL_law_688 : decode cL_law 688 = .ok (.aload_n 0, 1) := by decide +kernel
theorem dL_law_689 : decode cL_law 689 = .ok (.iload 4, 2) := by decide +kernel
theorem dL_law_691 : decode cL_law 691 = .ok (.iconst 2, 1) := by decide +kernel
theorem dL_law_692 : decode cL_law 692 = .ok (.iadd, 1) := by decide +kernel
theorem dL_law_693 : decode cL_law 693 = .ok (.iaload, 1) := by decide +kernel
theorem dL_law_694 : decode cL_law 694 = .ok (.invokevirtual 90, 3) := by decide +kernel
theorem dL_law_697 : decode cL_law 697 = .ok (.if_icmp .eq 689, 3) := by decide +kernel
theorem dL_law_700 : decode cL_law 700 = .ok (.iconst 0, 1) := by decide +kernel
theorem dL_law_701 : decode cL_law 701 = .ok (.ireturn, 1) := by decide +kernel
theorem dL_law_702 : decode cL_law 702 = .ok (.aload_n 1, 1) := by decide +kernel
theorem dL_law_703 : decode cL_law 703 = .ok (.aload_n 0, 1) := by decide +kernel
theorem dL_law_704 : decode cL_law 704 = .ok (.iload 4, 2) := by decide +kernel
theorem dL_law_706 : decode cL_law 706 = .ok (.iconst 1, 1) := by decide +kernel
theorem dL_law_707 : decode cL_law 707 = .ok (.iadd, 1) := by decide +kernel
theorem dL_law_708 : decode cL_law 708 = .ok (.iaload, 1) := by decide +kernel
theorem dL_law_709 : decode cL_law 709 = .ok (.invokevirtual 91, 3) := by decide +kernel
theorem dL_law_712 : decode cL_law 712 = .ok (.aload_n 2, 1) := by decide +kernel
theorem dL_law_713 : decode cL_law 713 = .ok (.aload_n 0, 1) := by decide +kernel
theorem dL_law_714 : decode cL_law 714 = .ok (.iload 4, 2) := by decide +kernel
theorem dL_law_716 : decode cL_law 716 = .ok (.iconst 1, 1) := by decide +kernel
theorem dL_law_717 : decode cL_law 717 = .ok (.iadd, 1) := by decide +kernel
theorem dL_law_718 : decode cL_law 718 = .ok (.iaload, 1) := by decide +kernel
theorem dL_law_719 : decode cL_law 719 = .ok (.invokevirtual 94, 3) := by decide +kernel
theorem dL_law_722 : decode cL_law 722 = .ok (.if_icmp .eq 664, 3) := by decide +kernel
theorem dL_law_725 : decode cL_law 725 = .ok (.iconst 0, 1) := by decide +kernel
theorem dL_law_726 : decode cL_law 726 = .ok (.ireturn, 1) := by decide +kernel
theorem dL_law_727 : decode cL_law 727 = .ok (.aload_n 1, 1) := by decide +kernel
theorem dL_law_728 : decode cL_law 728 = .ok (.aload_n 0, 1) := by decide +kernel
theorem dL_law_729 : decode cL_law 729 = .ok (.iload 4, 2) := by decide +kernel
theorem dL_law_731 : decode cL_law 731 = .ok (.iconst 1, 1) := by decide +kernel
theorem dL_law_732 : decode cL_law 732 = .ok (.iadd, 1) := by decide +kernel
theorem dL_law_733 : decode cL_law 733 = .ok (.iaload, 1) := by decide +kernel
theorem dL_law_734 : decode cL_law 734 = .ok (.invokevirtual 95, 3) := by decide +kernel
theorem dL_law_737 : decode cL_law 737 = .ok (.aload_n 2, 1) := by decide +kernel
theorem dL_law_738 : decode cL_law 738 = .ok (.aload_n 0, 1) := by decide +kernel
theorem dL_law_739 : decode cL_law 739 = .ok (.iload 4, 2) := by decide +kernel
theorem dL_law_741 : decode cL_law 741 = .ok (.iconst 1, 1) := by decide +kernel
theorem dL_law_742 : decode cL_law 742 = .ok (.iadd, 1) := by decide +kernel
theorem dL_law_743 : decode cL_law 743 = .ok (.iaload, 1) := by decide +kernel
theorem dL_law_744 : decode cL_law 744 = .ok (.invokevirtual 98, 3) := by decide +kernel
theorem dL_law_747 : decode cL_law 747 = .ok (.if_icmp .eq 639, 3) := by decide +kernel
theorem dL_law_750 : decode cL_law 750 = .ok (.iconst 0, 1) := by decide +kernel
theorem dL_law_751 : decode cL_law 751 = .ok (.ireturn, 1) := by decide +kernel
theorem dL_law_752 : decode cL_law 752 = .ok (.aload_n 1, 1) := by decide +kernel
theorem dL_law_753 : decode cL_law 753 = .ok (.aload_n 0, 1) := by decide +kernel
theorem dL_law_754 : decode cL_law 754 = .ok (.iload 4, 2) := by decide +kernel
theorem dL_law_756 : decode cL_law 756 = .ok (.iconst 1, 1) := by decide +kernel
theorem dL_law_757 : decode cL_law 757 = .ok (.iadd, 1) := by decide +kernel
theorem dL_law_758 : decode cL_law 758 = .ok (.iaload, 1) := by decide +kernel
theorem dL_law_759 : decode cL_law 759 = .ok (.invokevirtual 99, 3) := by decide +kernel
theorem dL_law_762 : decode cL_law 762 = .ok (.aload_n 2, 1) := by decide +kernel
theorem dL_law_763 : decode cL_law 763 = .ok (.aload_n 0, 1) := by decide +kernel
theorem dL_law_764 : decode cL_law 764 = .ok (.iload 4, 2) := by decide +kernel
theorem dL_law_766 : decode cL_law 766 = .ok (.iconst 1, 1) := by decide +kernel
theorem dL_law_767 : decode cL_law 767 = .ok (.iadd, 1) := by decide +kernel
theorem dL_law_768 : decode cL_law 768 = .ok (.iaload, 1) := by decide +kernel
theorem dL_law_769 : decode cL_law 769 = .ok (.invokevirtual 102, 3) := by decide +kernel
theorem dL_law_772 : decode cL_law 772 = .ok (.if_icmp .eq 614, 3) := by decide +kernel
theorem dL_law_775 : decode cL_law 775 = .ok (.iconst 0, 1) := by decide +kernel
theorem dL_law_776 : decode cL_law 776 = .ok (.ireturn, 1) := by decide +kernel
theorem dL_law_777 : decode cL_law 777 = .ok (.aload_n 1, 1) := by decide +kernel
theorem dL_law_778 : decode cL_law 778 = .ok (.aload_n 0, 1) := by decide +kernel
theorem dL_law_779 : decode cL_law 779 = .ok (.iload 4, 2) := by decide +kernel
theorem dL_law_781 : decode cL_law 781 = .ok (.iconst 1, 1) := by decide +kernel
theorem dL_law_782 : decode cL_law 782 = .ok (.iadd, 1) := by decide +kernel
theorem dL_law_783 : decode cL_law 783 = .ok (.iaload, 1) := by decide +kernel
theorem dL_law_784 : decode cL_law 784 = .ok (.invokevirtual 103, 3) := by decide +kernel
theorem dL_law_787 : decode cL_law 787 = .ok (.aload_n 2, 1) := by decide +kernel
theorem dL_law_788 : decode cL_law 788 = .ok (.aload_n 0, 1) := by decide +kernel
theorem dL_law_789 : decode cL_law 789 = .ok (.iload 4, 2) := by decide +kernel
theorem dL_law_791 : decode cL_law 791 = .ok (.iconst 1, 1) := by decide +kernel
theorem dL_law_792 : decode cL_law 792 = .ok (.iadd, 1) := by decide +kernel
theorem dL_law_793 : decode cL_law 793 = .ok (.iaload, 1) := by decide +kernel
theorem dL_law_794 : decode cL_law 794 = .ok (.invokevirtual 106, 3) := by decide +kernel
theorem dL_law_797 : decode cL_law 797 = .ok (.if_icmp .eq 589, 3) := by decide +kernel
theorem dL_law_800 : decode cL_law 800 = .ok (.iconst 0, 1) := by decide +kernel
theorem dL_law_801 : decode cL_law 801 = .ok (.ireturn, 1) := by decide +kernel
theorem dL_law_802 : decode cL_law 802 = .ok (.aload_n 1, 1) := by decide +kernel
theorem dL_law_803 : decode cL_law 803 = .ok (.aload_n 0, 1) := by decide +kernel
theorem dL_law_804 : decode cL_law 804 = .ok (.iload 4, 2) := by decide +kernel
theorem dL_law_806 : decode cL_law 806 = .ok (.iconst 1, 1) := by decide +kernel
theorem dL_law_807 : decode cL_law 807 = .ok (.iadd, 1) := by decide +kernel
theorem dL_law_808 : decode cL_law 808 = .ok (.iaload, 1) := by decide +kernel
theorem dL_law_809 : decode cL_law 809 = .ok (.invokevirtual 107, 3) := by decide +kernel
theorem dL_law_812 : decode cL_law 812 = .ok (.aload_n 2, 1) := by decide +kernel
theorem dL_law_813 : decode cL_law 813 = .ok (.aload_n 0, 1) := by decide +kernel
theorem dL_law_814 : decode cL_law 814 = .ok (.iload 4, 2) := by decide +kernel
theorem dL_law_816 : decode cL_law 816 = .ok (.iconst 1, 1) := by decide +kernel
theorem dL_law_817 : decode cL_law 817 = .ok (.iadd, 1) := by decide +kernel
theorem dL_law_818 : decode cL_law 818 = .ok (.iaload, 1) := by decide +kernel
theorem dL_law_819 : decode cL_law 819 = .ok (.invokevirtual 110, 3) := by decide +kernel
theorem dL_law_822 : decode cL_law 822 = .ok (.if_icmp .eq 564, 3) := by decide +kernel
theorem dL_law_825 : decode cL_law 825 = .ok (.iconst 0, 1) := by decide +kernel
theorem dL_law_826 : decode cL_law 826 = .ok (.ireturn, 1) := by decide +kernel
theorem dL_law_827 : decode cL_law 827 = .ok (.aload_n 1, 1) := by decide +kernel
theorem dL_law_828 : decode cL_law 828 = .ok (.aload_n 0, 1) := by decide +kernel
theorem dL_law_829 : decode cL_law 829 = .ok (.iload 4, 2) := by decide +kernel
theorem dL_law_831 : decode cL_law 831 = .ok (.iconst 1, 1) := by decide +kernel
theorem dL_law_832 : decode cL_law 832 = .ok (.iadd, 1) := by decide +kernel
theorem dL_law_833 : decode cL_law 833 = .ok (.iaload, 1) := by decide +kernel
theorem dL_law_834 : decode cL_law 834 = .ok (.aload_n 0, 1) := by decide +kernel
theorem dL_law_835 : decode cL_law 835 = .ok (.iload 4, 2) := by decide +kernel
theorem dL_law_837 : decode cL_law 837 = .ok (.iconst 2, 1) := by decide +kernel
theorem dL_law_838 : decode cL_law 838 = .ok (.iadd, 1) := by decide +kernel
theorem dL_law_839 : decode cL_law 839 = .ok (.iaload, 1) := by decide +kernel
theorem dL_law_840 : decode cL_law 840 = .ok (.invokevirtual 111, 3) := by decide +kernel
theorem dL_law_843 : decode cL_law 843 = .ok (.aload_n 2, 1) := by decide +kernel
theorem dL_law_844 : decode cL_law 844 = .ok (.aload_n 0, 1) := by decide +kernel
theorem dL_law_845 : decode cL_law 845 = .ok (.iload 4, 2) := by decide +kernel
theorem dL_law_847 : decode cL_law 847 = .ok (.iconst 1, 1) := by decide +kernel
theorem dL_law_848 : decode cL_law 848 = .ok (.iadd, 1) := by decide +kernel
theorem dL_law_849 : decode cL_law 849 = .ok (.iaload, 1) := by decide +kernel
theorem dL_law_850 : decode cL_law 850 = .ok (.aload_n 0, 1) := by decide +kernel
theorem dL_law_851 : decode cL_law 851 = .ok (.iload 4, 2) := by decide +kernel
theorem dL_law_853 : decode cL_law 853 = .ok (.iconst 2, 1) := by decide +kernel
theorem dL_law_854 : decode cL_law 854 = .ok (.iadd, 1) := by decide +kernel
theorem dL_law_855 : decode cL_law 855 = .ok (.iaload, 1) := by decide +kernel
theorem dL_law_856 : decode cL_law 856 = .ok (.invokevirtual 114, 3) := by decide +kernel
theorem dL_law_859 : decode cL_law 859 = .ok (.if_icmp .eq 527, 3) := by decide +kernel
theorem dL_law_862 : decode cL_law 862 = .ok (.iconst 0, 1) := by decide +kernel
theorem dL_law_863 : decode cL_law 863 = .ok (.ireturn, 1) := by decide +kernel
theorem dL_law_864 : decode cL_law 864 = .ok (.aload_n 1, 1) := by decide +kernel
theorem dL_law_865 : decode cL_law 865 = .ok (.aload_n 0, 1) := by decide +kernel
theorem dL_law_866 : decode cL_law 866 = .ok (.iload 4, 2) := by decide +kernel
theorem dL_law_868 : decode cL_law 868 = .ok (.iconst 1, 1) := by decide +kernel
theorem dL_law_869 : decode cL_law 869 = .ok (.iadd, 1) := by decide +kernel
theorem dL_law_870 : decode cL_law 870 = .ok (.iaload, 1) := by decide +kernel
theorem dL_law_871 : decode cL_law 871 = .ok (.invokevirtual 115, 3) := by decide +kernel
theorem dL_law_874 : decode cL_law 874 = .ok (.aload_n 2, 1) := by decide +kernel
theorem dL_law_875 : decode cL_law 875 = .ok (.aload_n 0, 1) := by decide +kernel
theorem dL_law_876 : decode cL_law 876 = .ok (.iload 4, 2) := by decide +kernel
theorem dL_law_878 : decode cL_law 878 = .ok (.iconst 1, 1) := by decide +kernel
theorem dL_law_879 : decode cL_law 879 = .ok (.iadd, 1) := by decide +kernel
theorem dL_law_880 : decode cL_law 880 = .ok (.iaload, 1) := by decide +kernel
theorem dL_law_881 : decode cL_law 881 = .ok (.invokevirtual 118, 3) := by decide +kernel
theorem dL_law_884 : decode cL_law 884 = .ok (.if_icmp .eq 502, 3) := by decide +kernel
theorem dL_law_887 : decode cL_law 887 = .ok (.iconst 0, 1) := by decide +kernel
theorem dL_law_888 : decode cL_law 888 = .ok (.ireturn, 1) := by decide +kernel
theorem dL_law_889 : decode cL_law 889 = .ok (.aload_n 1, 1) := by decide +kernel
theorem dL_law_890 : decode cL_law 890 = .ok (.aload_n 0, 1) := by decide +kernel
theorem dL_law_891 : decode cL_law 891 = .ok (.iload 4, 2) := by decide +kernel
theorem dL_law_893 : decode cL_law 893 = .ok (.iconst 1, 1) := by decide +kernel
theorem dL_law_894 : decode cL_law 894 = .ok (.iadd, 1) := by decide +kernel
theorem dL_law_895 : decode cL_law 895 = .ok (.iaload, 1) := by decide +kernel
theorem dL_law_896 : decode cL_law 896 = .ok (.invokevirtual 119, 3) := by decide +kernel
theorem dL_law_899 : decode cL_law 899 = .ok (.aload_n 2, 1) := by decide +kernel
theorem dL_law_900 : decode cL_law 900 = .ok (.aload_n 0, 1) := by decide +kernel
theorem dL_law_901 : decode cL_law 901 = .ok (.iload 4, 2) := by decide +kernel
theorem dL_law_903 : decode cL_law 903 = .ok (.iconst 1, 1) := by decide +kernel
theorem dL_law_904 : decode cL_law 904 = .ok (.iadd, 1) := by decide +kernel
theorem dL_law_905 : decode cL_law 905 = .ok (.iaload, 1) := by decide +kernel
theorem dL_law_906 : decode cL_law 906 = .ok (.invokevirtual 122, 3) := by decide +kernel
theorem dL_law_909 : decode cL_law 909 = .ok (.if_icmp .eq 477, 3) := by decide +kernel
theorem dL_law_912 : decode cL_law 912 = .ok (.iconst 0, 1) := by decide +kernel
theorem dL_law_913 : decode cL_law 913 = .ok (.ireturn, 1) := by decide +kernel
theorem dL_law_914 : decode cL_law 914 = .ok (.aload_n 1, 1) := by decide +kernel
theorem dL_law_915 : decode cL_law 915 = .ok (.aload_n 0, 1) := by decide +kernel
theorem dL_law_916 : decode cL_law 916 = .ok (.iload 4, 2) := by decide +kernel
theorem dL_law_918 : decode cL_law 918 = .ok (.iconst 1, 1) := by decide +kernel
theorem dL_law_919 : decode cL_law 919 = .ok (.iadd, 1) := by decide +kernel
theorem dL_law_920 : decode cL_law 920 = .ok (.iaload, 1) := by decide +kernel
theorem dL_law_921 : decode cL_law 921 = .ok (.invokevirtual 123, 3) := by decide +kernel
theorem dL_law_924 : decode cL_law 924 = .ok (.aload_n 2, 1) := by decide +kernel
theorem dL_law_925 : decode cL_law 925 = .ok (.aload_n 0, 1) := by decide +kernel
theorem dL_law_926 : decode cL_law 926 = .ok (.iload 4, 2) := by decide +kernel
theorem dL_law_928 : decode cL_law 928 = .ok (.iconst 1, 1) := by decide +kernel
theorem dL_law_929 : decode cL_law 929 = .ok (.iadd, 1) := by decide +kernel
theorem dL_law_930 : decode cL_law 930 = .ok (.iaload, 1) := by decide +kernel
theorem dL_law_931 : decode cL_law 931 = .ok (.invokevirtual 126, 3) := by decide +kernel
theorem dL_law_934 : decode cL_law 934 = .ok (.if_icmp .eq 452, 3) := by decide +kernel
theorem dL_law_937 : decode cL_law 937 = .ok (.iconst 0, 1) := by decide +kernel
theorem dL_law_938 : decode cL_law 938 = .ok (.ireturn, 1) := by decide +kernel
theorem dL_law_939 : decode cL_law 939 = .ok (.aload_n 1, 1) := by decide +kernel
theorem dL_law_940 : decode cL_law 940 = .ok (.aload_n 0, 1) := by decide +kernel
theorem dL_law_941 : decode cL_law 941 = .ok (.iload 4, 2) := by decide +kernel
theorem dL_law_943 : decode cL_law 943 = .ok (.iconst 1, 1) := by decide +kernel
theorem dL_law_944 : decode cL_law 944 = .ok (.iadd, 1) := by decide +kernel
theorem dL_law_945 : decode cL_law 945 = .ok (.iaload, 1) := by decide +kernel
theorem dL_law_946 : decode cL_law 946 = .ok (.aload_n 0, 1) := by decide +kernel
theorem dL_law_947 : decode cL_law 947 = .ok (.iload 4, 2) := by decide +kernel
theorem dL_law_949 : decode cL_law 949 = .ok (.iconst 2, 1) := by decide +kernel
theorem dL_law_950 : decode cL_law 950 = .ok (.iadd, 1) := by decide +kernel
theorem dL_law_951 : decode cL_law 951 = .ok (.iaload, 1) := by decide +kernel
theorem dL_law_952 : decode cL_law 952 = .ok (.invokevirtual 127, 3) := by decide +kernel
theorem dL_law_955 : decode cL_law 955 = .ok (.aload_n 2, 1) := by decide +kernel
theorem dL_law_956 : decode cL_law 956 = .ok (.aload_n 0, 1) := by decide +kernel
theorem dL_law_957 : decode cL_law 957 = .ok (.iload 4, 2) := by decide +kernel
theorem dL_law_959 : decode cL_law 959 = .ok (.iconst 1, 1) := by decide +kernel
theorem dL_law_960 : decode cL_law 960 = .ok (.iadd, 1) := by decide +kernel
theorem dL_law_961 : decode cL_law 961 = .ok (.iaload, 1) := by decide +kernel
theorem dL_law_962 : decode cL_law 962 = .ok (.aload_n 0, 1) := by decide +kernel
theorem dL_law_963 : decode cL_law 963 = .ok (.iload 4, 2) := by decide +kernel
theorem dL_law_965 : decode cL_law 965 = .ok (.iconst 2, 1) := by decide +kernel
theorem dL_law_966 : decode cL_law 966 = .ok (.iadd, 1) := by decide +kernel
theorem dL_law_967 : decode cL_law 967 = .ok (.iaload, 1) := by decide +kernel
theorem dL_law_968 : decode cL_law 968 = .ok (.invokevirtual 130, 3) := by decide +kernel
theorem dL_law_971 : decode cL_law 971 = .ok (.if_icmp .eq 415, 3) := by decide +kernel
theorem dL_law_974 : decode cL_law 974 = .ok (.iconst 0, 1) := by decide +kernel
theorem dL_law_975 : decode cL_law 975 = .ok (.ireturn, 1) := by decide +kernel
theorem dL_law_976 : decode cL_law 976 = .ok (.aload_n 1, 1) := by decide +kernel
theorem dL_law_977 : decode cL_law 977 = .ok (.aload_n 0, 1) := by decide +kernel
theorem dL_law_978 : decode cL_law 978 = .ok (.iload 4, 2) := by decide +kernel
theorem dL_law_980 : decode cL_law 980 = .ok (.iconst 1, 1) := by decide +kernel
theorem dL_law_981 : decode cL_law 981 = .ok (.iadd, 1) := by decide +kernel
theorem dL_law_982 : decode cL_law 982 = .ok (.iaload, 1) := by decide +kernel
theorem dL_law_983 : decode cL_law 983 = .ok (.invokevirtual 131, 3) := by decide +kernel
theorem dL_law_986 : decode cL_law 986 = .ok (.aload_n 2, 1) := by decide +kernel
theorem dL_law_987 : decode cL_law 987 = .ok (.aload_n 0, 1) := by decide +kernel
theorem dL_law_988 : decode cL_law 988 = .ok (.iload 4, 2) := by decide +kernel
theorem dL_law_990 : decode cL_law 990 = .ok (.iconst 1, 1) := by decide +kernel
theorem dL_law_991 : decode cL_law 991 = .ok (.iadd, 1) := by decide +kernel
theorem dL_law_992 : decode cL_law 992 = .ok (.iaload, 1) := by decide +kernel
theorem dL_law_993 : decode cL_law 993 = .ok (.invokevirtual 134, 3) := by decide +kernel
theorem dL_law_996 : decode cL_law 996 = .ok (.if_icmp .eq 390, 3) := by decide +kernel
theorem dL_law_999 : decode cL_law 999 = .ok (.iconst 0, 1) := by decide +kernel
theorem dL_law_1000 : decode cL_law 1000 = .ok (.ireturn, 1) := by decide +kernel
theorem dL_law_1001 : decode cL_law 1001 = .ok (.aload_n 1, 1) := by decide +kernel
theorem dL_law_1002 : decode cL_law 1002 = .ok (.aload_n 0, 1) := by decide +kernel
theorem dL_law_1003 : decode cL_law 1003 = .ok (.iload 4, 2) := by decide +kernel
theorem dL_law_1005 : decode cL_law 1005 = .ok (.iconst 1, 1) := by decide +kernel
theorem dL_law_1006 : decode cL_law 1006 = .ok (.iadd, 1) := by decide +kernel
theorem dL_law_1007 : decode cL_law 1007 = .ok (.iaload, 1) := by decide +kernel
theorem dL_law_1008 : decode cL_law 1008 = .ok (.invokevirtual 135, 3) := by decide +kernel
theorem dL_law_1011 : decode cL_law 1011 = .ok (.aload_n 2, 1) := by decide +kernel
theorem dL_law_1012 : decode cL_law 1012 = .ok (.aload_n 0, 1) := by decide +kernel
theorem dL_law_1013 : decode cL_law 1013 = .ok (.iload 4, 2) := by decide +kernel
theorem dL_law_1015 : decode cL_law 1015 = .ok (.iconst 1, 1) := by decide +kernel
theorem dL_law_1016 : decode cL_law 1016 = .ok (.iadd, 1) := by decide +kernel
theorem dL_law_1017 : decode cL_law 1017 = .ok (.iaload, 1) := by decide +kernel
theorem dL_law_1018 : decode cL_law 1018 = .ok (.invokevirtual 138, 3) := by decide +kernel
theorem dL_law_1021 : decode cL_law 1021 = .ok (.if_icmp .eq 365, 3) := by decide +kernel
theorem dL_law_1024 : decode cL_law 1024 = .ok (.iconst 0, 1) := by decide +kernel
theorem dL_law_1025 : decode cL_law 1025 = .ok (.ireturn, 1) := by decide +kernel
theorem dL_law_1026 : decode cL_law 1026 = .ok (.aload_n 1, 1) := by decide +kernel
theorem dL_law_1027 : decode cL_law 1027 = .ok (.invokevirtual 139, 3) := by decide +kernel
theorem dL_law_1030 : decode cL_law 1030 = .ok (.aload_n 2, 1) := by decide +kernel
theorem dL_law_1031 : decode cL_law 1031 = .ok (.invokevirtual 142, 3) := by decide +kernel
theorem dL_law_1034 : decode cL_law 1034 = .ok (.if_icmp .eq 352, 3) := by decide +kernel
theorem dL_law_1037 : decode cL_law 1037 = .ok (.iconst 0, 1) := by decide +kernel
theorem dL_law_1038 : decode cL_law 1038 = .ok (.ireturn, 1) := by decide +kernel
theorem dL_law_1039 : decode cL_law 1039 = .ok (.aload_n 1, 1) := by decide +kernel
theorem dL_law_1040 : decode cL_law 1040 = .ok (.aload_n 0, 1) := by decide +kernel
theorem dL_law_1041 : decode cL_law 1041 = .ok (.iload 4, 2) := by decide +kernel
theorem dL_law_1043 : decode cL_law 1043 = .ok (.iconst 1, 1) := by decide +kernel
theorem dL_law_1044 : decode cL_law 1044 = .ok (.iadd, 1) := by decide +kernel
theorem dL_law_1045 : decode cL_law 1045 = .ok (.iaload, 1) := by decide +kernel
theorem dL_law_1046 : decode cL_law 1046 = .ok (.aload_n 0, 1) := by decide +kernel
theorem dL_law_1047 : decode cL_law 1047 = .ok (.iload 4, 2) := by decide +kernel
theorem dL_law_1049 : decode cL_law 1049 = .ok (.iconst 2, 1) := by decide +kernel
theorem dL_law_1050 : decode cL_law 1050 = .ok (.iadd, 1) := by decide +kernel
theorem dL_law_1051 : decode cL_law 1051 = .ok (.iaload, 1) := by decide +kernel
theorem dL_law_1052 : decode cL_law 1052 = .ok (.ifCond .eq 7, 3) := by decide +kernel
theorem dL_law_1055 : decode cL_law 1055 = .ok (.iconst 1, 1) := by decide +kernel
theorem dL_law_1056 : decode cL_law 1056 = .ok (.goto 4, 3) := by decide +kernel
theorem dL_law_1059 : decode cL_law 1059 = .ok (.iconst 0, 1) := by decide +kernel
theorem dL_law_1060 : decode cL_law 1060 = .ok (.invokevirtual 143, 3) := by decide +kernel
theorem dL_law_1063 : decode cL_law 1063 = .ok (.aload_n 2, 1) := by decide +kernel
theorem dL_law_1064 : decode cL_law 1064 = .ok (.aload_n 0, 1) := by decide +kernel
theorem dL_law_1065 : decode cL_law 1065 = .ok (.iload 4, 2) := by decide +kernel
theorem dL_law_1067 : decode cL_law 1067 = .ok (.iconst 1, 1) := by decide +kernel
theorem dL_law_1068 : decode cL_law 1068 = .ok (.iadd, 1) := by decide +kernel
theorem dL_law_1069 : decode cL_law 1069 = .ok (.iaload, 1) := by decide +kernel
theorem dL_law_1070 : decode cL_law 1070 = .ok (.aload_n 0, 1) := by decide +kernel
theorem dL_law_1071 : decode cL_law 1071 = .ok (.iload 4, 2) := by decide +kernel
theorem dL_law_1073 : decode cL_law 1073 = .ok (.iconst 2, 1) := by decide +kernel
theorem dL_law_1074 : decode cL_law 1074 = .ok (.iadd, 1) := by decide +kernel
theorem dL_law_1075 : decode cL_law 1075 = .ok (.iaload, 1) := by decide +kernel
theorem dL_law_1076 : decode cL_law 1076 = .ok (.ifCond .eq 7, 3) := by decide +kernel
theorem dL_law_1079 : decode cL_law 1079 = .ok (.iconst 1, 1) := by decide +kernel
theorem dL_law_1080 : decode cL_law 1080 = .ok (.goto 4, 3) := by decide +kernel
theorem dL_law_1083 : decode cL_law 1083 = .ok (.iconst 0, 1) := by decide +kernel
theorem dL_law_1084 : decode cL_law 1084 = .ok (.invokevirtual 147, 3) := by decide +kernel
theorem dL_law_1087 : decode cL_law 1087 = .ok (.if_icmp .eq 299, 3) := by decide +kernel
theorem dL_law_1090 : decode cL_law 1090 = .ok (.iconst 0, 1) := by decide +kernel
theorem dL_law_1091 : decode cL_law 1091 = .ok (.ireturn, 1) := by decide +kernel
theorem dL_law_1092 : decode cL_law 1092 = .ok (.aload_n 1, 1) := by decide +kernel
theorem dL_law_1093 : decode cL_law 1093 = .ok (.aload_n 0, 1) := by decide +kernel
theorem dL_law_1094 : decode cL_law 1094 = .ok (.iload 4, 2) := by decide +kernel
theorem dL_law_1096 : decode cL_law 1096 = .ok (.iconst 1, 1) := by decide +kernel
theorem dL_law_1097 : decode cL_law 1097 = .ok (.iadd, 1) := by decide +kernel
theorem dL_law_1098 : decode cL_law 1098 = .ok (.iaload, 1) := by decide +kernel
theorem dL_law_1099 : decode cL_law 1099 = .ok (.invokevirtual 148, 3) := by decide +kernel
theorem dL_law_1102 : decode cL_law 1102 = .ok (.aload_n 2, 1) := by decide +kernel
theorem dL_law_1103 : decode cL_law 1103 = .ok (.aload_n 0, 1) := by decide +kernel
theorem dL_law_1104 : decode cL_law 1104 = .ok (.iload 4, 2) := by decide +kernel
theorem dL_law_1106 : decode cL_law 1106 = .ok (.iconst 1, 1) := by decide +kernel
theorem dL_law_1107 : decode cL_law 1107 = .ok (.iadd, 1) := by decide +kernel
theorem dL_law_1108 : decode cL_law 1108 = .ok (.iaload, 1) := by decide +kernel
theorem dL_law_1109 : decode cL_law 1109 = .ok (.invokevirtual 151, 3) := by decide +kernel
theorem dL_law_1112 : decode cL_law 1112 = .ok (.if_icmp .eq 274, 3) := by decide +kernel
theorem dL_law_1115 : decode cL_law 1115 = .ok (.iconst 0, 1) := by decide +kernel
theorem dL_law_1116 : decode cL_law 1116 = .ok (.ireturn, 1) := by decide +kernel
theorem dL_law_1117 : decode cL_law 1117 = .ok (.aload_n 1, 1) := by decide +kernel
theorem dL_law_1118 : decode cL_law 1118 = .ok (.invokevirtual 152, 3) := by decide +kernel
theorem dL_law_1121 : decode cL_law 1121 = .ok (.aload_n 2, 1) := by decide +kernel
theorem dL_law_1122 : decode cL_law 1122 = .ok (.invokevirtual 155, 3) := by decide +kernel
theorem dL_law_1125 : decode cL_law 1125 = .ok (.if_icmp .eq 261, 3) := by decide +kernel
theorem dL_law_1128 : decode cL_law 1128 = .ok (.iconst 0, 1) := by decide +kernel
theorem dL_law_1129 : decode cL_law 1129 = .ok (.ireturn, 1) := by decide +kernel
theorem dL_law_1130 : decode cL_law 1130 = .ok (.aload_n 1, 1) := by decide +kernel
theorem dL_law_1131 : decode cL_law 1131 = .ok (.aload_n 0, 1) := by decide +kernel
theorem dL_law_1132 : decode cL_law 1132 = .ok (.iload 4, 2) := by decide +kernel
theorem dL_law_1134 : decode cL_law 1134 = .ok (.iconst 1, 1) := by decide +kernel
theorem dL_law_1135 : decode cL_law 1135 = .ok (.iadd, 1) := by decide +kernel
theorem dL_law_1136 : decode cL_law 1136 = .ok (.iaload, 1) := by decide +kernel
theorem dL_law_1137 : decode cL_law 1137 = .ok (.aload_n 0, 1) := by decide +kernel
theorem dL_law_1138 : decode cL_law 1138 = .ok (.iload 4, 2) := by decide +kernel
theorem dL_law_1140 : decode cL_law 1140 = .ok (.iconst 2, 1) := by decide +kernel
theorem dL_law_1141 : decode cL_law 1141 = .ok (.iadd, 1) := by decide +kernel
theorem dL_law_1142 : decode cL_law 1142 = .ok (.iaload, 1) := by decide +kernel
theorem dL_law_1143 : decode cL_law 1143 = .ok (.invokevirtual 156, 3) := by decide +kernel
theorem dL_law_1146 : decode cL_law 1146 = .ok (.aload_n 2, 1) := by decide +kernel
theorem dL_law_1147 : decode cL_law 1147 = .ok (.aload_n 0, 1) := by decide +kernel
theorem dL_law_1148 : decode cL_law 1148 = .ok (.iload 4, 2) := by decide +kernel
theorem dL_law_1150 : decode cL_law 1150 = .ok (.iconst 1, 1) := by decide +kernel
theorem dL_law_1151 : decode cL_law 1151 = .ok (.iadd, 1) := by decide +kernel
theorem dL_law_1152 : decode cL_law 1152 = .ok (.iaload, 1) := by decide +kernel
theorem dL_law_1153 : decode cL_law 1153 = .ok (.aload_n 0, 1) := by decide +kernel
theorem dL_law_1154 : decode cL_law 1154 = .ok (.iload 4, 2) := by decide +kernel
theorem dL_law_1156 : decode cL_law 1156 = .ok (.iconst 2, 1) := by decide +kernel
theorem dL_law_1157 : decode cL_law 1157 = .ok (.iadd, 1) := by decide +kernel
theorem dL_law_1158 : decode cL_law 1158 = .ok (.iaload, 1) := by decide +kernel
theorem dL_law_1159 : decode cL_law 1159 = .ok (.invokevirtual 159, 3) := by decide +kernel
theorem dL_law_1162 : decode cL_law 1162 = .ok (.if_icmp .eq 224, 3) := by decide +kernel
theorem dL_law_1165 : decode cL_law 1165 = .ok (.iconst 0, 1) := by decide +kernel
theorem dL_law_1166 : decode cL_law 1166 = .ok (.ireturn, 1) := by decide +kernel
theorem dL_law_1167 : decode cL_law 1167 = .ok (.aload_n 1, 1) := by decide +kernel
theorem dL_law_1168 : decode cL_law 1168 = .ok (.aload_n 0, 1) := by decide +kernel
theorem dL_law_1169 : decode cL_law 1169 = .ok (.iload 4, 2) := by decide +kernel
theorem dL_law_1171 : decode cL_law 1171 = .ok (.iconst 1, 1) := by decide +kernel
theorem dL_law_1172 : decode cL_law 1172 = .ok (.iadd, 1) := by decide +kernel
theorem dL_law_1173 : decode cL_law 1173 = .ok (.iaload, 1) := by decide +kernel
theorem dL_law_1174 : decode cL_law 1174 = .ok (.aload_n 0, 1) := by decide +kernel
theorem dL_law_1175 : decode cL_law 1175 = .ok (.iload 4, 2) := by decide +kernel
theorem dL_law_1177 : decode cL_law 1177 = .ok (.iconst 2, 1) := by decide +kernel
theorem dL_law_1178 : decode cL_law 1178 = .ok (.iadd, 1) := by decide +kernel
theorem dL_law_1179 : decode cL_law 1179 = .ok (.iaload, 1) := by decide +kernel
theorem dL_law_1180 : decode cL_law 1180 = .ok (.aload_n 0, 1) := by decide +kernel
theorem dL_law_1181 : decode cL_law 1181 = .ok (.iload 4, 2) := by decide +kernel
theorem dL_law_1183 : decode cL_law 1183 = .ok (.iconst 3, 1) := by decide +kernel
theorem dL_law_1184 : decode cL_law 1184 = .ok (.iadd, 1) := by decide +kernel
theorem dL_law_1185 : decode cL_law 1185 = .ok (.iaload, 1) := by decide +kernel
theorem dL_law_1186 : decode cL_law 1186 = .ok (.aload_n 0, 1) := by decide +kernel
theorem dL_law_1187 : decode cL_law 1187 = .ok (.iload 4, 2) := by decide +kernel
theorem dL_law_1189 : decode cL_law 1189 = .ok (.iconst 4, 1) := by decide +kernel
theorem dL_law_1190 : decode cL_law 1190 = .ok (.iadd, 1) := by decide +kernel
theorem dL_law_1191 : decode cL_law 1191 = .ok (.iaload, 1) := by decide +kernel
theorem dL_law_1192 : decode cL_law 1192 = .ok (.aload_n 3, 1) := by decide +kernel
theorem dL_law_1193 : decode cL_law 1193 = .ok (.invokestatic 160, 3) := by decide +kernel
theorem dL_law_1196 : decode cL_law 1196 = .ok (.istore 5, 2) := by decide +kernel
theorem dL_law_1198 : decode cL_law 1198 = .ok (.aload_n 2, 1) := by decide +kernel
theorem dL_law_1199 : decode cL_law 1199 = .ok (.aload_n 0, 1) := by decide +kernel
theorem dL_law_1200 : decode cL_law 1200 = .ok (.iload 4, 2) := by decide +kernel
theorem dL_law_1202 : decode cL_law 1202 = .ok (.iconst 1, 1) := by decide +kernel
theorem dL_law_1203 : decode cL_law 1203 = .ok (.iadd, 1) := by decide +kernel
theorem dL_law_1204 : decode cL_law 1204 = .ok (.iaload, 1) := by decide +kernel
theorem dL_law_1205 : decode cL_law 1205 = .ok (.aload_n 0, 1) := by decide +kernel
theorem dL_law_1206 : decode cL_law 1206 = .ok (.iload 4, 2) := by decide +kernel
theorem dL_law_1208 : decode cL_law 1208 = .ok (.iconst 2, 1) := by decide +kernel
theorem dL_law_1209 : decode cL_law 1209 = .ok (.iadd, 1) := by decide +kernel
theorem dL_law_1210 : decode cL_law 1210 = .ok (.iaload, 1) := by decide +kernel
theorem dL_law_1211 : decode cL_law 1211 = .ok (.aload_n 0, 1) := by decide +kernel
theorem dL_law_1212 : decode cL_law 1212 = .ok (.iload 4, 2) := by decide +kernel
theorem dL_law_1214 : decode cL_law 1214 = .ok (.iconst 3, 1) := by decide +kernel
theorem dL_law_1215 : decode cL_law 1215 = .ok (.iadd, 1) := by decide +kernel
theorem dL_law_1216 : decode cL_law 1216 = .ok (.iaload, 1) := by decide +kernel
theorem dL_law_1217 : decode cL_law 1217 = .ok (.aload_n 0, 1) := by decide +kernel
theorem dL_law_1218 : decode cL_law 1218 = .ok (.iload 4, 2) := by decide +kernel
theorem dL_law_1220 : decode cL_law 1220 = .ok (.iconst 4, 1) := by decide +kernel
theorem dL_law_1221 : decode cL_law 1221 = .ok (.iadd, 1) := by decide +kernel
theorem dL_law_1222 : decode cL_law 1222 = .ok (.iaload, 1) := by decide +kernel
theorem dL_law_1223 : decode cL_law 1223 = .ok (.invokevirtual 165, 3) := by decide +kernel
theorem dL_law_1226 : decode cL_law 1226 = .ok (.istore 6, 2) := by decide +kernel
theorem dL_law_1228 : decode cL_law 1228 = .ok (.aload_n 2, 1) := by decide +kernel
theorem dL_law_1229 : decode cL_law 1229 = .ok (.invokevirtual 166, 3) := by decide +kernel
theorem dL_law_1232 : decode cL_law 1232 = .ok (.iload 5, 2) := by decide +kernel
theorem dL_law_1234 : decode cL_law 1234 = .ok (.if_icmp .eq 5, 3) := by decide +kernel
theorem dL_law_1237 : decode cL_law 1237 = .ok (.iconst 0, 1) := by decide +kernel
theorem dL_law_1238 : decode cL_law 1238 = .ok (.ireturn, 1) := by decide +kernel
theorem dL_law_1239 : decode cL_law 1239 = .ok (.iload 5, 2) := by decide +kernel
theorem dL_law_1241 : decode cL_law 1241 = .ok (.ifCond .ne 15, 3) := by decide +kernel
theorem dL_law_1244 : decode cL_law 1244 = .ok (.aload_n 3, 1) := by decide +kernel
theorem dL_law_1245 : decode cL_law 1245 = .ok (.iconst 0, 1) := by decide +kernel
theorem dL_law_1246 : decode cL_law 1246 = .ok (.laload, 1) := by decide +kernel
theorem dL_law_1247 : decode cL_law 1247 = .ok (.iload 6, 2) := by decide +kernel
theorem dL_law_1249 : decode cL_law 1249 = .ok (.i2l, 1) := by decide +kernel
theorem dL_law_1250 : decode cL_law 1250 = .ok (.lcmp, 1) := by decide +kernel
theorem dL_law_1251 : decode cL_law 1251 = .ok (.ifCond .eq 5, 3) := by decide +kernel
theorem dL_law_1254 : decode cL_law 1254 = .ok (.iconst 0, 1) := by decide +kernel
theorem dL_law_1255 : decode cL_law 1255 = .ok (.ireturn, 1) := by decide +kernel
theorem dL_law_1256 : decode cL_law 1256 = .ok (.goto 130, 3) := by decide +kernel
theorem dL_law_1259 : decode cL_law 1259 = .ok (.aload_n 1, 1) := by decide +kernel
theorem dL_law_1260 : decode cL_law 1260 = .ok (.aload_n 0, 1) := by decide +kernel
theorem dL_law_1261 : decode cL_law 1261 = .ok (.iload 4, 2) := by decide +kernel
theorem dL_law_1263 : decode cL_law 1263 = .ok (.iconst 1, 1) := by decide +kernel
theorem dL_law_1264 : decode cL_law 1264 = .ok (.iadd, 1) := by decide +kernel
theorem dL_law_1265 : decode cL_law 1265 = .ok (.iaload, 1) := by decide +kernel
theorem dL_law_1266 : decode cL_law 1266 = .ok (.aload_n 0, 1) := by decide +kernel
theorem dL_law_1267 : decode cL_law 1267 = .ok (.iload 4, 2) := by decide +kernel
theorem dL_law_1269 : decode cL_law 1269 = .ok (.iconst 2, 1) := by decide +kernel
theorem dL_law_1270 : decode cL_law 1270 = .ok (.iadd, 1) := by decide +kernel
theorem dL_law_1271 : decode cL_law 1271 = .ok (.iaload, 1) := by decide +kernel
theorem dL_law_1272 : decode cL_law 1272 = .ok (.aload_n 0, 1) := by decide +kernel
theorem dL_law_1273 : decode cL_law 1273 = .ok (.iload 4, 2) := by decide +kernel
theorem dL_law_1275 : decode cL_law 1275 = .ok (.iconst 3, 1) := by decide +kernel
theorem dL_law_1276 : decode cL_law 1276 = .ok (.iadd, 1) := by decide +kernel
theorem dL_law_1277 : decode cL_law 1277 = .ok (.iaload, 1) := by decide +kernel
theorem dL_law_1278 : decode cL_law 1278 = .ok (.invokevirtual 169, 3) := by decide +kernel
theorem dL_law_1281 : decode cL_law 1281 = .ok (.aload_n 2, 1) := by decide +kernel
theorem dL_law_1282 : decode cL_law 1282 = .ok (.aload_n 0, 1) := by decide +kernel
theorem dL_law_1283 : decode cL_law 1283 = .ok (.iload 4, 2) := by decide +kernel
theorem dL_law_1285 : decode cL_law 1285 = .ok (.iconst 1, 1) := by decide +kernel
theorem dL_law_1286 : decode cL_law 1286 = .ok (.iadd, 1) := by decide +kernel
theorem dL_law_1287 : decode cL_law 1287 = .ok (.iaload, 1) := by decide +kernel
theorem dL_law_1288 : decode cL_law 1288 = .ok (.aload_n 0, 1) := by decide +kernel
theorem dL_law_1289 : decode cL_law 1289 = .ok (.iload 4, 2) := by decide +kernel
theorem dL_law_1291 : decode cL_law 1291 = .ok (.iconst 2, 1) := by decide +kernel
theorem dL_law_1292 : decode cL_law 1292 = .ok (.iadd, 1) := by decide +kernel
theorem dL_law_1293 : decode cL_law 1293 = .ok (.iaload, 1) := by decide +kernel
theorem dL_law_1294 : decode cL_law 1294 = .ok (.aload_n 0, 1) := by decide +kernel
theorem dL_law_1295 : decode cL_law 1295 = .ok (.iload 4, 2) := by decide +kernel
theorem dL_law_1297 : decode cL_law 1297 = .ok (.iconst 3, 1) := by decide +kernel
theorem dL_law_1298 : decode cL_law 1298 = .ok (.iadd, 1) := by decide +kernel
theorem dL_law_1299 : decode cL_law 1299 = .ok (.iaload, 1) := by decide +kernel
theorem dL_law_1300 : decode cL_law 1300 = .ok (.invokevirtual 173, 3) := by decide +kernel
theorem dL_law_1303 : decode cL_law 1303 = .ok (.if_icmp .eq 83, 3) := by decide +kernel
theorem dL_law_1306 : decode cL_law 1306 = .ok (.iconst 0, 1) := by decide +kernel
theorem dL_law_1307 : decode cL_law 1307 = .ok (.ireturn, 1) := by decide +kernel
theorem dL_law_1308 : decode cL_law 1308 = .ok (.aload_n 1, 1) := by decide +kernel
theorem dL_law_1309 : decode cL_law 1309 = .ok (.aload_n 0, 1) := by decide +kernel
theorem dL_law_1310 : decode cL_law 1310 = .ok (.iload 4, 2) := by decide +kernel
theorem dL_law_1312 : decode cL_law 1312 = .ok (.iconst 1, 1) := by decide +kernel
theorem dL_law_1313 : decode cL_law 1313 = .ok (.iadd, 1) := by decide +kernel
theorem dL_law_1314 : decode cL_law 1314 = .ok (.iaload, 1) := by decide +kernel
theorem dL_law_1315 : decode cL_law 1315 = .ok (.aload_n 0, 1) := by decide +kernel
theorem dL_law_1316 : decode cL_law 1316 = .ok (.iload 4, 2) := by decide +kernel
theorem dL_law_1318 : decode cL_law 1318 = .ok (.iconst 2, 1) := by decide +kernel
theorem dL_law_1319 : decode cL_law 1319 = .ok (.iadd, 1) := by decide +kernel
theorem dL_law_1320 : decode cL_law 1320 = .ok (.iaload, 1) := by decide +kernel
theorem dL_law_1321 : decode cL_law 1321 = .ok (.ifCond .eq 7, 3) := by decide +kernel
theorem dL_law_1324 : decode cL_law 1324 = .ok (.iconst 1, 1) := by decide +kernel
theorem dL_law_1325 : decode cL_law 1325 = .ok (.goto 4, 3) := by decide +kernel
theorem dL_law_1328 : decode cL_law 1328 = .ok (.iconst 0, 1) := by decide +kernel
theorem dL_law_1329 : decode cL_law 1329 = .ok (.invokevirtual 174, 3) := by decide +kernel
theorem dL_law_1332 : decode cL_law 1332 = .ok (.aload_n 2, 1) := by decide +kernel
theorem dL_law_1333 : decode cL_law 1333 = .ok (.aload_n 0, 1) := by decide +kernel
theorem dL_law_1334 : decode cL_law 1334 = .ok (.iload 4, 2) := by decide +kernel
theorem dL_law_1336 : decode cL_law 1336 = .ok (.iconst 1, 1) := by decide +kernel
theorem dL_law_1337 : decode cL_law 1337 = .ok (.iadd, 1) := by decide +kernel
theorem dL_law_1338 : decode cL_law 1338 = .ok (.iaload, 1) := by decide +kernel
theorem dL_law_1339 : decode cL_law 1339 = .ok (.aload_n 0, 1) := by decide +kernel
theorem dL_law_1340 : decode cL_law 1340 = .ok (.iload 4, 2) := by decide +kernel
theorem dL_law_1342 : decode cL_law 1342 = .ok (.iconst 2, 1) := by decide +kernel
theorem dL_law_1343 : decode cL_law 1343 = .ok (.iadd, 1) := by decide +kernel
theorem dL_law_1344 : decode cL_law 1344 = .ok (.iaload, 1) := by decide +kernel
theorem dL_law_1345 : decode cL_law 1345 = .ok (.ifCond .eq 7, 3) := by decide +kernel
theorem dL_law_1348 : decode cL_law 1348 = .ok (.iconst 1, 1) := by decide +kernel
theorem dL_law_1349 : decode cL_law 1349 = .ok (.goto 4, 3) := by decide +kernel
theorem dL_law_1352 : decode cL_law 1352 = .ok (.iconst 0, 1) := by decide +kernel
theorem dL_law_1353 : decode cL_law 1353 = .ok (.invokevirtual 177, 3) := by decide +kernel
theorem dL_law_1356 : decode cL_law 1356 = .ok (.if_icmp .eq 30, 3) := by decide +kernel
theorem dL_law_1359 : decode cL_law 1359 = .ok (.iconst 0, 1) := by decide +kernel
theorem dL_law_1360 : decode cL_law 1360 = .ok (.ireturn, 1) := by decide +kernel
theorem dL_law_1361 : decode cL_law 1361 = .ok (.aload_n 1, 1) := by decide +kernel
theorem dL_law_1362 : decode cL_law 1362 = .ok (.aload_n 0, 1) := by decide +kernel
theorem dL_law_1363 : decode cL_law 1363 = .ok (.iload 4, 2) := by decide +kernel
theorem dL_law_1365 : decode cL_law 1365 = .ok (.iconst 1, 1) := by decide +kernel
theorem dL_law_1366 : decode cL_law 1366 = .ok (.iadd, 1) := by decide +kernel
theorem dL_law_1367 : decode cL_law 1367 = .ok (.iaload, 1) := by decide +kernel
theorem dL_law_1368 : decode cL_law 1368 = .ok (.invokevirtual 178, 3) := by decide +kernel
theorem dL_law_1371 : decode cL_law 1371 = .ok (.aload_n 2, 1) := by decide +kernel
theorem dL_law_1372 : decode cL_law 1372 = .ok (.aload_n 0, 1) := by decide +kernel
theorem dL_law_1373 : decode cL_law 1373 = .ok (.iload 4, 2) := by decide +kernel
theorem dL_law_1375 : decode cL_law 1375 = .ok (.iconst 1, 1) := by decide +kernel
theorem dL_law_1376 : decode cL_law 1376 = .ok (.iadd, 1) := by decide +kernel
theorem dL_law_1377 : decode cL_law 1377 = .ok (.iaload, 1) := by decide +kernel
theorem dL_law_1378 : decode cL_law 1378 = .ok (.invokevirtual 181, 3) := by decide +kernel
theorem dL_law_1381 : decode cL_law 1381 = .ok (.if_icmp .eq 5, 3) := by decide +kernel
theorem dL_law_1384 : decode cL_law 1384 = .ok (.iconst 0, 1) := by decide +kernel
theorem dL_law_1385 : decode cL_law 1385 = .ok (.ireturn, 1) := by decide +kernel
theorem dL_law_1386 : decode cL_law 1386 = .ok (.iinc 4 7, 3) := by decide +kernel
theorem dL_law_1389 : decode cL_law 1389 = .ok (.goto (-1366), 3) := by decide +kernel
theorem dL_law_1392 : decode cL_law 1392 = .ok (.iconst 1, 1) := by decide +kernel
theorem dL_law_1393 : decode cL_law 1393 = .ok (.ireturn, 1) := by decide +kernel

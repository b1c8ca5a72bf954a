theorem dX11_reads_409 : decode cX11_reads 409 = .ok (.ifCond .eq 9, 3) := by decide +kernel
theorem dX11_reads_412 : decode cX11_reads 412 = .ok (.aload_n 0, 1) := by decide +kernel
theorem dX11_reads_413 : decode cX11_reads 413 = .ok (.invokevirtual 206, 3) := by decide +kernel
theorem dX11_reads_416 : decode cX11_reads 416 = .ok (.iconst 1, 1) := by decide +kernel
theorem dX11_reads_417 : decode cX11_reads 417 = .ok (.ireturn, 1) := by decide +kernel
theorem dX11_reads_418 : decode cX11_reads 418 = .ok (.aload_n 0, 1) := by decide +kernel
theorem dX11_reads_419 : decode cX11_reads 419 = .ok (.iconst 1, 1) := by decide +kernel
theorem dX11_reads_420 : decode cX11_reads 420 = .ok (.invokevirtual 200, 3) := by decide +kernel
theorem dX11_reads_423 : decode cX11_reads 423 = .ok (.ireturn, 1) := by decide +kernel
theorem dX11_reads_424 : decode cX11_reads 424 = .ok (.aload_n 0, 1) := by decide +kernel
theorem dX11_reads_425 : decode cX11_reads 425 = .ok (.invokevirtual 206, 3) := by decide +kernel
theorem dX11_reads_428 : decode cX11_reads 428 = .ok (.goto (-417), 3) := by decide +kernel
theorem dX11_opens_0 : decode cX11_opens 0 = .ok (.aload_n 0, 1) := by decide +kernel
theorem dX11_opens_1 : decode cX11_opens 1 = .ok (.getfield 48, 3) := by decide +kernel
theorem dX11_opens_4 : decode cX11_opens 4 = .ok (.iload_n 1, 1) := by decide +kernel
theorem dX11_opens_5 : decode cX11_opens 5 = .ok (.iconst 0, 1) := by decide +kernel
theorem dX11_opens_6 : decode cX11_opens 6 = .ok (.iastore, 1) := by decide +kernel
theorem dX11_opens_7 : decode cX11_opens 7 = .ok (.aload_n 0, 1) := by decide +kernel
theorem dX11_opens_8 : decode cX11_opens 8 = .ok (.getfield 54, 3) := by decide +kernel
theorem dX11_opens_11 : decode cX11_opens 11 = .ok (.iload_n 1, 1) := by decide +kernel
theorem dX11_opens_12 : decode cX11_opens 12 = .ok (.iconst 0, 1) := by decide +kernel
theorem dX11_opens_13 : decode cX11_opens 13 = .ok (.iastore, 1) := by decide +kernel
theorem dX11_opens_14 : decode cX11_opens 14 = .ok (.aload_n 0, 1) := by decide +kernel
theorem dX11_opens_15 : decode cX11_opens 15 = .ok (.getfield 57, 3) := by decide +kernel
theorem dX11_opens_18 : decode cX11_opens 18 = .ok (.iload_n 1, 1) := by decide +kernel
theorem dX11_opens_19 : decode cX11_opens 19 = .ok (.iconst 0, 1) := by decide +kernel
theorem dX11_opens_20 : decode cX11_opens 20 = .ok (.iastore, 1) := by decide +kernel
theorem dX11_opens_21 : decode cX11_opens 21 = .ok (.aload_n 0, 1) := by decide +kernel
theorem dX11_opens_22 : decode cX11_opens 22 = .ok (.getfield 60, 3) := by decide +kernel
theorem dX11_opens_25 : decode cX11_opens 25 = .ok (.iload_n 1, 1) := by decide +kernel
theorem dX11_opens_26 : decode cX11_opens 26 = .ok (.bipush 20, 2) := by decide +kernel
theorem dX11_opens_28 : decode cX11_opens 28 = .ok (.iastore, 1) := by decide +kernel
theorem dX11_opens_29 : decode cX11_opens 29 = .ok (.aload_n 0, 1) := by decide +kernel
theorem dX11_opens_30 : decode cX11_opens 30 = .ok (.getfield 66, 3) := by decide +kernel
theorem dX11_opens_33 : decode cX11_opens 33 = .ok (.iload_n 1, 1) := by decide +kernel
theorem dX11_opens_34 : decode cX11_opens 34 = .ok (.iconst 0, 1) := by decide +kernel
theorem dX11_opens_35 : decode cX11_opens 35 = .ok (.iastore, 1) := by decide +kernel
theorem dX11_opens_36 : decode cX11_opens 36 = .ok (.return_, 1) := by decide +kernel
theorem dX11_sums_0 : decode cX11_sums 0 = .ok (.aload_n 0, 1) := by decide +kernel
theorem dX11_sums_1 : decode cX11_sums 1 = .ok (.getfield 57, 3) := by decide +kernel
theorem dX11_sums_4 : decode cX11_sums 4 = .ok (.iload_n 1, 1) := by decide +kernel
theorem dX11_sums_5 : decode cX11_sums 5 = .ok (.aload_n 0, 1) := by decide +kernel
theorem dX11_sums_6 : decode cX11_sums 6 = .ok (.getfield 60, 3) := by decide +kernel
theorem dX11_sums_9 : decode cX11_sums 9 = .ok (.iload_n 1, 1) := by decide +kernel
theorem dX11_sums_10 : decode cX11_sums 10 = .ok (.iaload, 1) := by decide +kernel
theorem dX11_sums_11 : decode cX11_sums 11 = .ok (.bipush 21, 2) := by decide +kernel
theorem dX11_sums_13 : decode cX11_sums 13 = .ok (.if_icmp .ne 19, 3) := by decide +kernel
theorem dX11_sums_16 : decode cX11_sums 16 = .ok (.aload_n 0, 1) := by decide +kernel
theorem dX11_sums_17 : decode cX11_sums 17 = .ok (.getfield 57, 3) := by decide +kernel
theorem dX11_sums_20 : decode cX11_sums 20 = .ok (.iload_n 1, 1) := by decide +kernel
theorem dX11_sums_21 : decode cX11_sums 21 = .ok (.iaload, 1) := by decide +kernel
theorem dX11_sums_22 : decode cX11_sums 22 = .ok (.aload_n 0, 1) := by decide +kernel
theorem dX11_sums_23 : decode cX11_sums 23 = .ok (.getfield 63, 3) := by decide +kernel
theorem dX11_sums_26 : decode cX11_sums 26 = .ok (.iload_n 1, 1) := by decide +kernel
theorem dX11_sums_27 : decode cX11_sums 27 = .ok (.iaload, 1) := by decide +kernel
theorem dX11_sums_28 : decode cX11_sums 28 = .ok (.isub, 1) := by decide +kernel
theorem dX11_sums_29 : decode cX11_sums 29 = .ok (.goto 16, 3) := by decide +kernel
theorem dX11_sums_32 : decode cX11_sums 32 = .ok (.aload_n 0, 1) := by decide +kernel
theorem dX11_sums_33 : decode cX11_sums 33 = .ok (.getfield 57, 3) := by decide +kernel
theorem dX11_sums_36 : decode cX11_sums 36 = .ok (.iload_n 1, 1) := by decide +kernel
theorem dX11_sums_37 : decode cX11_sums 37 = .ok (.iaload, 1) := by decide +kernel
theorem dX11_sums_38 : decode cX11_sums 38 = .ok (.aload_n 0, 1) := by decide +kernel
theorem dX11_sums_39 : decode cX11_sums 39 = .ok (.getfield 63, 3) := by decide +kernel
theorem dX11_sums_42 : decode cX11_sums 42 = .ok (.iload_n 1, 1) := by decide +kernel
theorem dX11_sums_43 : decode cX11_sums 43 = .ok (.iaload, 1) := by decide +kernel
theorem dX11_sums_44 : decode cX11_sums 44 = .ok (.iadd, 1) := by decide +kernel
theorem dX11_sums_45 : decode cX11_sums 45 = .ok (.iastore, 1) := by decide +kernel
theorem dX11_sums_46 : decode cX11_sums 46 = .ok (.aload_n 0, 1) := by decide +kernel
theorem dX11_sums_47 : decode cX11_sums 47 = .ok (.getfield 66, 3) := by decide +kernel
theorem dX11_sums_50 : decode cX11_sums 50 = .ok (.iload_n 1, 1) := by decide +kernel
theorem dX11_sums_51 : decode cX11_sums 51 = .ok (.iconst 0, 1) := by decide +kernel
theorem dX11_sums_52 : decode cX11_sums 52 = .ok (.iastore, 1) := by decide +kernel
theorem dX11_sums_53 : decode cX11_sums 53 = .ok (.return_, 1) := by decide +kernel
theorem dX11_tests_0 : decode cX11_tests 0 = .ok (.aload_n 0, 1) := by decide +kernel
theorem dX11_tests_1 : decode cX11_tests 1 = .ok (.iload_n 1, 1) := by decide +kernel
theorem dX11_tests_2 : decode cX11_tests 2 = .ok (.invokevirtual 213, 3) := by decide +kernel
theorem dX11_tests_5 : decode cX11_tests 5 = .ok (.aload_n 0, 1) := by decide +kernel
theorem dX11_tests_6 : decode cX11_tests 6 = .ok (.getfield 57, 3) := by decide +kernel
theorem dX11_tests_9 : decode cX11_tests 9 = .ok (.iload_n 1, 1) := by decide +kernel
theorem dX11_tests_10 : decode cX11_tests 10 = .ok (.iaload, 1) := by decide +kernel
theorem dX11_tests_11 : decode cX11_tests 11 = .ok (.istore_n 2, 1) := by decide +kernel
theorem dX11_tests_12 : decode cX11_tests 12 = .ok (.aload_n 0, 1) := by decide +kernel
theorem dX11_tests_13 : decode cX11_tests 13 = .ok (.getfield 54, 3) := by decide +kernel
theorem dX11_tests_16 : decode cX11_tests 16 = .ok (.iload_n 1, 1) := by decide +kernel
theorem dX11_tests_17 : decode cX11_tests 17 = .ok (.iaload, 1) := by decide +kernel
theorem dX11_tests_18 : decode cX11_tests 18 = .ok (.bipush 24, 2) := by decide +kernel
theorem dX11_tests_20 : decode cX11_tests 20 = .ok (.if_icmp .ne 24, 3) := by decide +kernel
theorem dX11_tests_23 : decode cX11_tests 23 = .ok (.aload_n 0, 1) := by decide +kernel
theorem dX11_tests_24 : decode cX11_tests 24 = .ok (.getfield 51, 3) := by decide +kernel
theorem dX11_tests_27 : decode cX11_tests 27 = .ok (.iload_n 1, 1) := by decide +kernel
theorem dX11_tests_28 : decode cX11_tests 28 = .ok (.iaload, 1) := by decide +kernel
theorem dX11_tests_29 : decode cX11_tests 29 = .ok (.aload_n 0, 1) := by decide +kernel
theorem dX11_tests_30 : decode cX11_tests 30 = .ok (.getfield 57, 3) := by decide +kernel
theorem dX11_tests_33 : decode cX11_tests 33 = .ok (.iload_n 1, 1) := by decide +kernel
theorem dX11_tests_34 : decode cX11_tests 34 = .ok (.iaload, 1) := by decide +kernel
theorem dX11_tests_35 : decode cX11_tests 35 = .ok (.if_icmp .ge 7, 3) := by decide +kernel
theorem dX11_tests_38 : decode cX11_tests 38 = .ok (.iconst 1, 1) := by decide +kernel
theorem dX11_tests_39 : decode cX11_tests 39 = .ok (.goto 4, 3) := by decide +kernel
theorem dX11_tests_42 : decode cX11_tests 42 = .ok (.iconst 0, 1) := by decide +kernel
theorem dX11_tests_43 : decode cX11_tests 43 = .ok (.istore_n 2, 1) := by decide +kernel
theorem dX11_tests_44 : decode cX11_tests 44 = .ok (.aload_n 0, 1) := by decide +kernel
theorem dX11_tests_45 : decode cX11_tests 45 = .ok (.getfield 54, 3) := by decide +kernel
theorem dX11_tests_48 : decode cX11_tests 48 = .ok (.iload_n 1, 1) := by decide +kernel
theorem dX11_tests_49 : decode cX11_tests 49 = .ok (.iaload, 1) := by decide +kernel
theorem dX11_tests_50 : decode cX11_tests 50 = .ok (.bipush 25, 2) := by decide +kernel
theorem dX11_tests_52 : decode cX11_tests 52 = .ok (.if_icmp .ne 24, 3) := by decide +kernel
theorem dX11_tests_55 : decode cX11_tests 55 = .ok (.aload_n 0, 1) := by decide +kernel
theorem dX11_tests_56 : decode cX11_tests 56 = .ok (.getfield 51, 3) := by decide +kernel
theorem dX11_tests_59 : decode cX11_tests 59 = .ok (.iload_n 1, 1) := by decide +kernel
theorem dX11_tests_60 : decode cX11_tests 60 = .ok (.iaload, 1) := by decide +kernel
theorem dX11_tests_61 : decode cX11_tests 61 = .ok (.aload_n 0, 1) := by decide +kernel
theorem dX11_tests_62 : decode cX11_tests 62 = .ok (.getfield 57, 3) := by decide +kernel
theorem dX11_tests_65 : decode cX11_tests 65 = .ok (.iload_n 1, 1) := by decide +kernel
theorem dX11_tests_66 : decode cX11_tests 66 = .ok (.iaload, 1) := by decide +kernel
theorem dX11_tests_67 : decode cX11_tests 67 = .ok (.if_icmp .ne 7, 3) := by decide +kernel
theorem dX11_tests_70 : decode cX11_tests 70 = .ok (.iconst 1, 1) := by decide +kernel
theorem dX11_tests_71 : decode cX11_tests 71 = .ok (.goto 4, 3) := by decide +kernel
theorem dX11_tests_74 : decode cX11_tests 74 = .ok (.iconst 0, 1) := by decide +kernel
theorem dX11_tests_75 : decode cX11_tests 75 = .ok (.istore_n 2, 1) := by decide +kernel
theorem dX11_tests_76 : decode cX11_tests 76 = .ok (.aload_n 0, 1) := by decide +kernel
theorem dX11_tests_77 : decode cX11_tests 77 = .ok (.getfield 48, 3) := by decide +kernel
theorem dX11_tests_80 : decode cX11_tests 80 = .ok (.iload_n 1, 1) := by decide +kernel
theorem dX11_tests_81 : decode cX11_tests 81 = .ok (.iaload, 1) := by decide +kernel
theorem dX11_tests_82 : decode cX11_tests 82 = .ok (.bipush 26, 2) := by decide +kernel
theorem dX11_tests_84 : decode cX11_tests 84 = .ok (.if_icmp .ne 22, 3) := by decide +kernel
theorem dX11_tests_87 : decode cX11_tests 87 = .ok (.aload_n 0, 1) := by decide +kernel
theorem dX11_tests_88 : decode cX11_tests 88 = .ok (.getfield 45, 3) := by decide +kernel
theorem dX11_tests_91 : decode cX11_tests 91 = .ok (.iload_n 1, 1) := by decide +kernel
theorem dX11_tests_92 : decode cX11_tests 92 = .ok (.iaload, 1) := by decide +kernel
theorem dX11_tests_93 : decode cX11_tests 93 = .ok (.ifCond .eq 11, 3) := by decide +kernel
theorem dX11_tests_96 : decode cX11_tests 96 = .ok (.iload_n 2, 1) := by decide +kernel
theorem dX11_tests_97 : decode cX11_tests 97 = .ok (.ifCond .eq 7, 3) := by decide +kernel
theorem dX11_tests_100 : decode cX11_tests 100 = .ok (.iconst 1, 1) := by decide +kernel
theorem dX11_tests_101 : decode cX11_tests 101 = .ok (.goto 4, 3) := by decide +kernel
theorem dX11_tests_104 : decode cX11_tests 104 = .ok (.iconst 0, 1) := by decide +kernel
theorem dX11_tests_105 : decode cX11_tests 105 = .ok (.istore_n 2, 1) := by decide +kernel
theorem dX11_tests_106 : decode cX11_tests 106 = .ok (.aload_n 0, 1) := by decide +kernel
theorem dX11_tests_107 : decode cX11_tests 107 = .ok (.getfield 48, 3) := by decide +kernel
theorem dX11_tests_110 : decode cX11_tests 110 = .ok (.iload_n 1, 1) := by decide +kernel
theorem dX11_tests_111 : decode cX11_tests 111 = .ok (.iaload, 1) := by decide +kernel
theorem dX11_tests_112 : decode cX11_tests 112 = .ok (.bipush 27, 2) := by decide +kernel
theorem dX11_tests_114 : decode cX11_tests 114 = .ok (.if_icmp .ne 22, 3) := by decide +kernel
theorem dX11_tests_117 : decode cX11_tests 117 = .ok (.aload_n 0, 1) := by decide +kernel
theorem dX11_tests_118 : decode cX11_tests 118 = .ok (.getfield 45, 3) := by decide +kernel
theorem dX11_tests_121 : decode cX11_tests 121 = .ok (.iload_n 1, 1) := by decide +kernel
theorem dX11_tests_122 : decode cX11_tests 122 = .ok (.iaload, 1) := by decide +kernel
theorem dX11_tests_123 : decode cX11_tests 123 = .ok (.ifCond .ne 7, 3) := by decide +kernel
theorem dX11_tests_126 : decode cX11_tests 126 = .ok (.iload_n 2, 1) := by decide +kernel
theorem dX11_tests_127 : decode cX11_tests 127 = .ok (.ifCond .eq 7, 3) := by decide +kernel
theorem dX11_tests_130 : decode cX11_tests 130 = .ok (.iconst 1, 1) := by decide +kernel
theorem dX11_tests_131 : decode cX11_tests 131 = .ok (.goto 4, 3) := by decide +kernel
theorem dX11_tests_134 : decode cX11_tests 134 = .ok (.iconst 0, 1) := by decide +kernel
theorem dX11_tests_135 : decode cX11_tests 135 = .ok (.istore_n 2, 1) := by decide +kernel
theorem dX11_tests_136 : decode cX11_tests 136 = .ok (.aload_n 0, 1) := by decide +kernel
theorem dX11_tests_137 : decode cX11_tests 137 = .ok (.getfield 45, 3) := by decide +kernel
theorem dX11_tests_140 : decode cX11_tests 140 = .ok (.iload_n 1, 1) := by decide +kernel
theorem dX11_tests_141 : decode cX11_tests 141 = .ok (.iload_n 2, 1) := by decide +kernel
theorem dX11_tests_142 : decode cX11_tests 142 = .ok (.iastore, 1) := by decide +kernel
theorem dX11_tests_143 : decode cX11_tests 143 = .ok (.aload_n 0, 1) := by decide +kernel
theorem dX11_tests_144 : decode cX11_tests 144 = .ok (.getfield 54, 3) := by decide +kernel
theorem dX11_tests_147 : decode cX11_tests 147 = .ok (.iload_n 1, 1) := by decide +kernel
theorem dX11_tests_148 : decode cX11_tests 148 = .ok (.iconst 0, 1) := by decide +kernel
theorem dX11_tests_149 : decode cX11_tests 149 = .ok (.iastore, 1) := by decide +kernel
theorem dX11_tests_150 : decode cX11_tests 150 = .ok (.aload_n 0, 1) := by decide +kernel
theorem dX11_tests_151 : decode cX11_tests 151 = .ok (.getfield 57, 3) := by decide +kernel
theorem dX11_tests_154 : decode cX11_tests 154 = .ok (.iload_n 1, 1) := by decide +kernel
theorem dX11_tests_155 : decode cX11_tests 155 = .ok (.iconst 0, 1) := by decide +kernel
theorem dX11_tests_156 : decode cX11_tests 156 = .ok (.iastore, 1) := by decide +kernel
theorem dX11_tests_157 : decode cX11_tests 157 = .ok (.aload_n 0, 1) := by decide +kernel
theorem dX11_tests_158 : decode cX11_tests 158 = .ok (.getfield 60, 3) := by decide +kernel
theorem dX11_tests_161 : decode cX11_tests 161 = .ok (.iload_n 1, 1) := by decide +kernel
theorem dX11_tests_162 : decode cX11_tests 162 = .ok (.bipush 20, 2) := by decide +kernel
theorem dX11_tests_164 : decode cX11_tests 164 = .ok (.iastore, 1) := by decide +kernel
theorem dX11_tests_165 : decode cX11_tests 165 = .ok (.return_, 1) := by decide +kernel
theorem dX11_worked_0 : decode cX11_worked 0 = .ok (.iconst 0, 1) := by decide +kernel
theorem dX11_worked_1 : decode cX11_worked 1 = .ok (.istore_n 2, 1) := by decide +kernel
theorem dX11_worked_2 : decode cX11_worked 2 = .ok (.aload_n 0, 1) := by decide +kernel
theorem dX11_worked_3 : decode cX11_worked 3 = .ok (.iconst 0, 1) := by decide +kernel
theorem dX11_worked_4 : decode cX11_worked 4 = .ok (.invokevirtual 216, 3) := by decide +kernel
theorem dX11_worked_7 : decode cX11_worked 7 = .ok (.aload_n 0, 1) := by decide +kernel
theorem dX11_worked_8 : decode cX11_worked 8 = .ok (.getfield 29, 3) := by decide +kernel
theorem dX11_worked_11 : decode cX11_worked 11 = .ok (.iload_n 1, 1) := by decide +kernel
theorem dX11_worked_12 : decode cX11_worked 12 = .ok (.iaload, 1) := by decide +kernel
theorem dX11_worked_13 : decode cX11_worked 13 = .ok (.istore_n 3, 1) := by decide +kernel
theorem dX11_worked_14 : decode cX11_worked 14 = .ok (.iload_n 3, 1) := by decide +kernel
theorem dX11_worked_15 : decode cX11_worked 15 = .ok (.aload_n 0, 1) := by decide +kernel
theorem dX11_worked_16 : decode cX11_worked 16 = .ok (.getfield 32, 3) := by decide +kernel
theorem dX11_worked_19 : decode cX11_worked 19 = .ok (.iload_n 1, 1) := by decide +kernel
theorem dX11_worked_20 : decode cX11_worked 20 = .ok (.iaload, 1) := by decide +kernel
theorem dX11_worked_21 : decode cX11_worked 21 = .ok (.if_icmp .ge 314, 3) := by decide +kernel
theorem dX11_worked_24 : decode cX11_worked 24 = .ok (.aload_n 0, 1) := by decide +kernel
theorem dX11_worked_25 : decode cX11_worked 25 = .ok (.getfield 35, 3) := by decide +kernel
theorem dX11_worked_28 : decode cX11_worked 28 = .ok (.iload_n 3, 1) := by decide +kernel
theorem dX11_worked_29 : decode cX11_worked 29 = .ok (.iaload, 1) := by decide +kernel
theorem dX11_worked_30 : decode cX11_worked 30 = .ok (.istore 4, 2) := by decide +kernel
theorem dX11_worked_32 : decode cX11_worked 32 = .ok (.iload 4, 2) := by decide +kernel
theorem dX11_worked_34 : decode cX11_worked 34 = .ok (.bipush 28, 2) := by decide +kernel
theorem dX11_worked_36 : decode cX11_worked 36 = .ok (.if_icmp .eq 10, 3) := by decide +kernel
theorem dX11_worked_39 : decode cX11_worked 39 = .ok (.iload 4, 2) := by decide +kernel
theorem dX11_worked_41 : decode cX11_worked 41 = .ok (.bipush 30, 2) := by decide +kernel
theorem dX11_worked_43 : decode cX11_worked 43 = .ok (.if_icmp .ne 32, 3) := by decide +kernel
theorem dX11_worked_46 : decode cX11_worked 46 = .ok (.iinc 2 1, 3) := by decide +kernel
theorem dX11_worked_49 : decode cX11_worked 49 = .ok (.aload_n 0, 1) := by decide +kernel
theorem dX11_worked_50 : decode cX11_worked 50 = .ok (.getfield 69, 3) := by decide +kernel
theorem dX11_worked_53 : decode cX11_worked 53 = .ok (.iload_n 2, 1) := by decide +kernel
theorem dX11_worked_54 : decode cX11_worked 54 = .ok (.iload 4, 2) := by decide +kernel
theorem dX11_worked_56 : decode cX11_worked 56 = .ok (.bipush 30, 2) := by decide +kernel
theorem dX11_worked_58 : decode cX11_worked 58 = .ok (.if_icmp .ne 7, 3) := by decide +kernel
theorem dX11_worked_61 : decode cX11_worked 61 = .ok (.iconst 1, 1) := by decide +kernel
theorem dX11_worked_62 : decode cX11_worked 62 = .ok (.goto 4, 3) := by decide +kernel
theorem dX11_worked_65 : decode cX11_worked 65 = .ok (.iconst 0, 1) := by decide +kernel
theorem dX11_worked_66 : decode cX11_worked 66 = .ok (.iastore, 1) := by decide +kernel
theorem dX11_worked_67 : decode cX11_worked 67 = .ok (.aload_n 0, 1) := by decide +kernel
theorem dX11_worked_68 : decode cX11_worked 68 = .ok (.iload_n 2, 1) := by decide +kernel
theorem dX11_worked_69 : decode cX11_worked 69 = .ok (.invokevirtual 216, 3) := by decide +kernel
theorem dX11_worked_72 : decode cX11_worked 72 = .ok (.goto 257, 3) := by decide +kernel
theorem dX11_worked_75 : decode cX11_worked 75 = .ok (.iload 4, 2) := by decide +kernel
theorem dX11_worked_77 : decode cX11_worked 77 = .ok (.bipush 20, 2) := by decide +kernel
theorem dX11_worked_79 : decode cX11_worked 79 = .ok (.if_icmp .eq 10, 3) := by decide +kernel
theorem dX11_worked_82 : decode cX11_worked 82 = .ok (.iload 4, 2) := by decide +kernel
theorem dX11_worked_84 : decode cX11_worked 84 = .ok (.bipush 21, 2) := by decide +kernel
theorem dX11_worked_86 : decode cX11_worked 86 = .ok (.if_icmp .ne 19, 3) := by decide +kernel
theorem dX11_worked_89 : decode cX11_worked 89 = .ok (.aload_n 0, 1) := by decide +kernel
theorem dX11_worked_90 : decode cX11_worked 90 = .ok (.iload_n 2, 1) := by decide +kernel
theorem dX11_worked_91 : decode cX11_worked 91 = .ok (.invokevirtual 213, 3) := by decide +kernel
theorem dX11_worked_94 : decode cX11_worked 94 = .ok (.aload_n 0, 1) := by decide +kernel
theorem dX11_worked_95 : decode cX11_worked 95 = .ok (.getfield 60, 3) := by decide +kernel
theorem dX11_worked_98 : decode cX11_worked 98 = .ok (.iload_n 2, 1) := by decide +kernel
theorem dX11_worked_99 : decode cX11_worked 99 = .ok (.iload 4, 2) := by decide +kernel
theorem dX11_worked_101 : decode cX11_worked 101 = .ok (.iastore, 1) := by decide +kernel
theorem dX11_worked_102 : decode cX11_worked 102 = .ok (.goto 227, 3) := by decide +kernel
theorem dX11_worked_105 : decode cX11_worked 105 = .ok (.iload 4, 2) := by decide +kernel
theorem dX11_worked_107 : decode cX11_worked 107 = .ok (.bipush 22, 2) := by decide +kernel
theorem dX11_worked_109 : decode cX11_worked 109 = .ok (.if_icmp .ne 14, 3) := by decide +kernel
theorem dX11_worked_112 : decode cX11_worked 112 = .ok (.aload_n 0, 1) := by decide +kernel
theorem dX11_worked_113 : decode cX11_worked 113 = .ok (.getfield 66, 3) := by decide +kernel
theorem dX11_worked_116 : decode cX11_worked 116 = .ok (.iload_n 2, 1) := by decide +kernel
theorem dX11_worked_117 : decode cX11_worked 117 = .ok (.iload 4, 2) := by decide +kernel
theorem dX11_worked_119 : decode cX11_worked 119 = .ok (.iastore, 1) := by decide +kernel
theorem dX11_worked_120 : decode cX11_worked 120 = .ok (.goto 209, 3) := by decide +kernel
theorem dX11_worked_123 : decode cX11_worked 123 = .ok (.iload 4, 2) := by decide +kernel
theorem dX11_worked_125 : decode cX11_worked 125 = .ok (.bipush 24, 2) := by decide +kernel
theorem dX11_worked_127 : decode cX11_worked 127 = .ok (.if_icmp .eq 10, 3) := by decide +kernel
theorem dX11_worked_130 : decode cX11_worked 130 = .ok (.iload 4, 2) := by decide +kernel
theorem dX11_worked_132 : decode cX11_worked 132 = .ok (.bipush 25, 2) := by decide +kernel
theorem dX11_worked_134 : decode cX11_worked 134 = .ok (.if_icmp .ne 46, 3) := by decide +kernel
theorem dX11_worked_137 : decode cX11_worked 137 = .ok (.aload_n 0, 1) := by decide +kernel
theorem dX11_worked_138 : decode cX11_worked 138 = .ok (.iload_n 2, 1) := by decide +kernel
theorem dX11_worked_139 : decode cX11_worked 139 = .ok (.invokevirtual 213, 3) := by decide +kernel
theorem dX11_worked_142 : decode cX11_worked 142 = .ok (.aload_n 0, 1) := by decide +kernel
theorem dX11_worked_143 : decode cX11_worked 143 = .ok (.getfield 51, 3) := by decide +kernel
theorem dX11_worked_146 : decode cX11_worked 146 = .ok (.iload_n 2, 1) := by decide +kernel
theorem dX11_worked_147 : decode cX11_worked 147 = .ok (.aload_n 0, 1) := by decide +kernel
theorem dX11_worked_148 : decode cX11_worked 148 = .ok (.getfield 57, 3) := by decide +kernel
theorem dX11_worked_151 : decode cX11_worked 151 = .ok (.iload_n 2, 1) := by decide +kernel
theorem dX11_worked_152 : decode cX11_worked 152 = .ok (.iaload, 1) := by decide +kernel
theorem dX11_worked_153 : decode cX11_worked 153 = .ok (.iastore, 1) := by decide +kernel
theorem dX11_worked_154 : decode cX11_worked 154 = .ok (.aload_n 0, 1) := by decide +kernel
theorem dX11_worked_155 : decode cX11_worked 155 = .ok (.getfield 54, 3) := by decide +kernel
theorem dX11_worked_158 : decode cX11_worked 158 = .ok (.iload_n 2, 1) := by decide +kernel
theorem dX11_worked_159 : decode cX11_worked 159 = .ok (.iload 4, 2) := by decide +kernel
theorem dX11_worked_161 : decode cX11_worked 161 = .ok (.iastore, 1) := by decide +kernel
theorem dX11_worked_162 : decode cX11_worked 162 = .ok (.aload_n 0, 1) := by decide +kernel
theorem dX11_worked_163 : decode cX11_worked 163 = .ok (.getfield 57, 3) := by decide +kernel
theorem dX11_worked_166 : decode cX11_worked 166 = .ok (.iload_n 2, 1) := by decide +kernel
theorem dX11_worked_167 : decode cX11_worked 167 = .ok (.iconst 0, 1) := by decide +kernel
theorem dX11_worked_168 : decode cX11_worked 168 = .ok (.iastore, 1) := by decide +kernel
theorem dX11_worked_169 : decode cX11_worked 169 = .ok (.aload_n 0, 1) := by decide +kernel
theorem dX11_worked_170 : decode cX11_worked 170 = .ok (.getfield 60, 3) := by decide +kernel
theorem dX11_worked_173 : decode cX11_worked 173 = .ok (.iload_n 2, 1) := by decide +kernel
theorem dX11_worked_174 : decode cX11_worked 174 = .ok (.bipush 20, 2) := by decide +kernel
theorem dX11_worked_176 : decode cX11_worked 176 = .ok (.iastore, 1) := by decide +kernel
theorem dX11_worked_177 : decode cX11_worked 177 = .ok (.goto 152, 3) := by decide +kernel
theorem dX11_worked_180 : decode cX11_worked 180 = .ok (.iload 4, 2) := by decide +kernel
theorem dX11_worked_182 : decode cX11_worked 182 = .ok (.bipush 26, 2) := by decide +kernel
theorem dX11_worked_184 : decode cX11_worked 184 = .ok (.if_icmp .eq 10, 3) := by decide +kernel
theorem dX11_worked_187 : decode cX11_worked 187 = .ok (.iload 4, 2) := by decide +kernel
theorem dX11_worked_189 : decode cX11_worked 189 = .ok (.bipush 27, 2) := by decide +kernel
theorem dX11_worked_191 : decode cX11_worked 191 = .ok (.if_icmp .ne 19, 3) := by decide +kernel
theorem dX11_worked_194 : decode cX11_worked 194 = .ok (.aload_n 0, 1) := by decide +kernel
theorem dX11_worked_195 : decode cX11_worked 195 = .ok (.iload_n 2, 1) := by decide +kernel
theorem dX11_worked_196 : decode cX11_worked 196 = .ok (.invokevirtual 219, 3) := by decide +kernel
theorem dX11_worked_199 : decode cX11_worked 199 = .ok (.aload_n 0, 1) := by decide +kernel
theorem dX11_worked_200 : decode cX11_worked 200 = .ok (.getfield 48, 3) := by decide +kernel
theorem dX11_worked_203 : decode cX11_worked 203 = .ok (.iload_n 2, 1) := by decide +kernel
theorem dX11_worked_204 : decode cX11_worked 204 = .ok (.iload 4, 2) := by decide +kernel
theorem dX11_worked_206 : decode cX11_worked 206 = .ok (.iastore, 1) := by decide +kernel
theorem dX11_worked_207 : decode cX11_worked 207 = .ok (.goto 122, 3) := by decide +kernel
theorem dX11_worked_210 : decode cX11_worked 210 = .ok (.iload 4, 2) := by decide +kernel
theorem dX11_worked_212 : decode cX11_worked 212 = .ok (.bipush 100, 2) := by decide +kernel
theorem dX11_worked_214 : decode cX11_worked 214 = .ok (.if_icmp .lt 11, 3) := by decide +kernel
theorem dX11_worked_217 : decode cX11_worked 217 = .ok (.iload 4, 2) := by decide +kernel
theorem dX11_worked_219 : decode cX11_worked 219 = .ok (.bipush 100, 2) := by decide +kernel
theorem dX11_worked_221 : decode cX11_worked 221 = .ok (.isub, 1) := by decide +kernel
theorem dX11_worked_222 : decode cX11_worked 222 = .ok (.goto 21, 3) := by decide +kernel
theorem dX11_worked_225 : decode cX11_worked 225 = .ok (.iload 4, 2) := by decide +kernel
theorem dX11_worked_227 : decode cX11_worked 227 = .ok (.bipush 20, 2) := by decide +kernel
theorem dX11_worked_229 : decode cX11_worked 229 = .ok (.if_icmp .ge 13, 3) := by decide +kernel
theorem dX11_worked_232 : decode cX11_worked 232 = .ok (.aload_n 0, 1) := by decide +kernel
theorem dX11_worked_233 : decode cX11_worked 233 = .ok (.getfield 72, 3) := by decide +kernel
theorem dX11_worked_236 : decode cX11_worked 236 = .ok (.iload 4, 2) := by decide +kernel
theorem dX11_worked_238 : decode cX11_worked 238 = .ok (.iaload, 1) := by decide +kernel
theorem dX11_worked_239 : decode cX11_worked 239 = .ok (.goto 4, 3) := by decide +kernel
theorem dX11_worked_242 : decode cX11_worked 242 = .ok (.iconst 0, 1) := by decide +kernel
theorem dX11_worked_243 : decode cX11_worked 243 = .ok (.istore 5, 2) := by decide +kernel
theorem dX11_worked_245 : decode cX11_worked 245 = .ok (.iload 4, 2) := by decide +kernel
theorem dX11_worked_247 : decode cX11_worked 247 = .ok (.bipush 29, 2) := by decide +kernel
theorem dX11_worked_249 : decode cX11_worked 249 = .ok (.if_icmp .ne 19, 3) := by decide +kernel
theorem dX11_worked_252 : decode cX11_worked 252 = .ok (.aload_n 0, 1) := by decide +kernel
theorem dX11_worked_253 : decode cX11_worked 253 = .ok (.iload_n 2, 1) := by decide +kernel
theorem dX11_worked_254 : decode cX11_worked 254 = .ok (.invokevirtual 219, 3) := by decide +kernel
theorem dX11_worked_257 : decode cX11_worked 257 = .ok (.aload_n 0, 1) := by decide +kernel
theorem dX11_worked_258 : decode cX11_worked 258 = .ok (.getfield 45, 3) := by decide +kernel
theorem dX11_worked_261 : decode cX11_worked 261 = .ok (.iload_n 2, 1) := by decide +kernel
theorem dX11_worked_262 : decode cX11_worked 262 = .ok (.iaload, 1) := by decide +kernel
theorem dX11_worked_263 : decode cX11_worked 263 = .ok (.istore 5, 2) := by decide +kernel
theorem dX11_worked_265 : decode cX11_worked 265 = .ok (.iinc 2 (-1), 3) := by decide +kernel
theorem dX11_worked_268 : decode cX11_worked 268 = .ok (.iload_n 2, 1) := by decide +kernel
theorem dX11_worked_269 : decode cX11_worked 269 = .ok (.ifCond .le 31, 3) := by decide +kernel
theorem dX11_worked_272 : decode cX11_worked 272 = .ok (.aload_n 0, 1) := by decide +kernel
theorem dX11_worked_273 : decode cX11_worked 273 = .ok (.getfield 69, 3) := by decide +kernel
theorem dX11_worked_276 : decode cX11_worked 276 = .ok (.iload_n 2, 1) := by decide +kernel
theorem dX11_worked_277 : decode cX11_worked 277 = .ok (.iaload, 1) := by decide +kernel
theorem dX11_worked_278 : decode cX11_worked 278 = .ok (.iconst 1, 1) := by decide +kernel
theorem dX11_worked_279 : decode cX11_worked 279 = .ok (.if_icmp .ne 21, 3) := by decide +kernel
theorem dX11_worked_282 : decode cX11_worked 282 = .ok (.iload 5, 2) := by decide +kernel
theorem dX11_worked_284 : decode cX11_worked 284 = .ok (.ifCond .ne 7, 3) := by decide +kernel
theorem dX11_worked_287 : decode cX11_worked 287 = .ok (.iconst 1, 1) := by decide +kernel
theorem dX11_worked_288 : decode cX11_worked 288 = .ok (.goto 4, 3) := by decide +kernel
theorem dX11_worked_291 : decode cX11_worked 291 = .ok (.iconst 0, 1) := by decide +kernel
theorem dX11_worked_292 : decode cX11_worked 292 = .ok (.istore 5, 2) := by decide +kernel
theorem dX11_worked_294 : decode cX11_worked 294 = .ok (.iinc 2 (-1), 3) := by decide +kernel
theorem dX11_worked_297 : decode cX11_worked 297 = .ok (.goto (-29), 3) := by decide +kernel
theorem dX11_worked_300 : decode cX11_worked 300 = .ok (.aload_n 0, 1) := by decide +kernel
theorem dX11_worked_301 : decode cX11_worked 301 = .ok (.getfield 63, 3) := by decide +kernel
theorem dX11_worked_304 : decode cX11_worked 304 = .ok (.iload_n 2, 1) := by decide +kernel
theorem dX11_worked_305 : decode cX11_worked 305 = .ok (.aload_n 0, 1) := by decide +kernel
theorem dX11_worked_306 : decode cX11_worked 306 = .ok (.getfield 66, 3) := by decide +kernel
theorem dX11_worked_309 : decode cX11_worked 309 = .ok (.iload_n 2, 1) := by decide +kernel
theorem dX11_worked_310 : decode cX11_worked 310 = .ok (.iaload, 1) := by decide +kernel
theorem dX11_worked_311 : decode cX11_worked 311 = .ok (.ifCond .ne 8, 3) := by decide +kernel
theorem dX11_worked_314 : decode cX11_worked 314 = .ok (.iload 5, 2) := by decide +kernel
theorem dX11_worked_316 : decode cX11_worked 316 = .ok (.goto 12, 3) := by decide +kernel
theorem dX11_worked_319 : decode cX11_worked 319 = .ok (.aload_n 0, 1) := by decide +kernel
theorem dX11_worked_320 : decode cX11_worked 320 = .ok (.getfield 63, 3) := by decide +kernel
theorem dX11_worked_323 : decode cX11_worked 323 = .ok (.iload_n 2, 1) := by decide +kernel
theorem dX11_worked_324 : decode cX11_worked 324 = .ok (.iaload, 1) := by decide +kernel
theorem dX11_worked_325 : decode cX11_worked 325 = .ok (.iload 5, 2) := by decide +kernel
theorem dX11_worked_327 : decode cX11_worked 327 = .ok (.imul, 1) := by decide +kernel
theorem dX11_worked_328 : decode cX11_worked 328 = .ok (.iastore, 1) := by decide +kernel
theorem dX11_worked_329 : decode cX11_worked 329 = .ok (.iinc 3 1, 3) := by decide +kernel
theorem dX11_worked_332 : decode cX11_worked 332 = .ok (.goto (-318), 3) := by decide +kernel
theorem dX11_worked_335 : decode cX11_worked 335 = .ok (.aload_n 0, 1) := by decide +kernel
theorem dX11_worked_336 : decode cX11_worked 336 = .ok (.iconst 0, 1) := by decide +kernel
theorem dX11_worked_337 : decode cX11_worked 337 = .ok (.invokevirtual 219, 3) := by decide +kernel
theorem dX11_worked_340 : decode cX11_worked 340 = .ok (.aload_n 0, 1) := by decide +kernel
theorem dX11_worked_341 : decode cX11_worked 341 = .ok (.getfield 45, 3) := by decide +kernel
theorem dX11_worked_344 : decode cX11_worked 344 = .ok (.iconst 0, 1) := by decide +kernel
theorem dX11_worked_345 : decode cX11_worked 345 = .ok (.iaload, 1) := by decide +kernel
theorem dX11_worked_346 : decode cX11_worked 346 = .ok (.ireturn, 1) := by decide +kernel
theorem dX11_isKept_0 : decode cX11_isKept 0 = .ok (.aload_n 0, 1) := by decide +kernel
theorem dX11_isKept_1 : decode cX11_isKept 1 = .ok (.getfield 161, 3) := by decide +kernel
theorem dX11_isKept_4 : decode cX11_isKept 4 = .ok (.iconst 1, 1) := by decide +kernel
theorem dX11_isKept_5 : decode cX11_isKept 5 = .ok (.if_icmp .eq 5, 3) := by decide +kernel
theorem dX11_isKept_8 : decode cX11_isKept 8 = .ok (.iconst 1, 1) := by decide +kernel
theorem dX11_isKept_9 : decode cX11_isKept 9 = .ok (.ireturn, 1) := by decide +kernel
theorem dX11_isKept_10 : decode cX11_isKept 10 = .ok (.aload_n 0, 1) := by decide +kernel
theorem dX11_isKept_11 : decode cX11_isKept 11 = .ok (.getfield 154, 3) := by decide +kernel
theorem dX11_isKept_14 : decode cX11_isKept 14 = .ok (.ldc2_w 222, 3) := by decide +kernel
theorem dX11_isKept_17 : decode cX11_isKept 17 = .ok (.lcmp, 1) := by decide +kernel
theorem dX11_isKept_18 : decode cX11_isKept 18 = .ok (.ifCond .eq 201, 3) := by decide +kernel
theorem dX11_isKept_21 : decode cX11_isKept 21 = .ok (.aload_n 0, 1) := by decide +kernel
theorem dX11_isKept_22 : decode cX11_isKept 22 = .ok (.getfield 154, 3) := by decide +kernel
theorem dX11_isKept_25 : decode cX11_isKept 25 = .ok (.ldc2_w 224, 3) := by decide +kernel
theorem dX11_isKept_28 : decode cX11_isKept 28 = .ok (.lcmp, 1) := by decide +kernel
theorem dX11_isKept_29 : decode cX11_isKept 29 = .ok (.ifCond .eq 190, 3) := by decide +kernel
theorem dX11_isKept_32 : decode cX11_isKept 32 = .ok (.aload_n 0, 1) := by decide +kernel
theorem dX11_isKept_33 : decode cX11_isKept 33 = .ok (.getfield 154, 3) := by decide +kernel
theorem dX11_isKept_36 : decode cX11_isKept 36 = .ok (.ldc2_w 226, 3) := by decide +kernel
theorem dX11_isKept_39 : decode cX11_isKept 39 = .ok (.lcmp, 1) := by decide +kernel
theorem dX11_isKept_40 : decode cX11_isKept 40 = .ok (.ifCond .eq 179, 3) := by decide +kernel
theorem dX11_isKept_43 : decode cX11_isKept 43 = .ok (.aload_n 0, 1) := by decide +kernel
theorem dX11_isKept_44 : decode cX11_isKept 44 = .ok (.getfield 154, 3) := by decide +kernel
theorem dX11_isKept_47 : decode cX11_isKept 47 = .ok (.ldc2_w 228, 3) := by decide +kernel
theorem dX11_isKept_50 : decode cX11_isKept 50 = .ok (.lcmp, 1) := by decide +kernel
theorem dX11_isKept_51 : decode cX11_isKept 51 = .ok (.ifCond .eq 168, 3) := by decide +kernel
theorem dX11_isKept_54 : decode cX11_isKept 54 = .ok (.aload_n 0, 1) := by decide +kernel
theorem dX11_isKept_55 : decode cX11_isKept 55 = .ok (.getfield 154, 3) := by decide +kernel
theorem dX11_isKept_58 : decode cX11_isKept 58 = .ok (.ldc2_w 230, 3) := by decide +kernel
theorem dX11_isKept_61 : decode cX11_isKept 61 = .ok (.lcmp, 1) := by decide +kernel
theorem dX11_isKept_62 : decode cX11_isKept 62 = .ok (.ifCond .eq 157, 3) := by decide +kernel
theorem dX11_isKept_65 : decode cX11_isKept 65 = .ok (.aload_n 0, 1) := by decide +kernel
theorem dX11_isKept_66 : decode cX11_isKept 66 = .ok (.getfield 154, 3) := by decide +kernel
theorem dX11_isKept_69 : decode cX11_isKept 69 = .ok (.ldc2_w 232, 3) := by decide +kernel
theorem dX11_isKept_72 : decode cX11_isKept 72 = .ok (.lcmp, 1) := by decide +kernel
theorem dX11_isKept_73 : decode cX11_isKept 73 = .ok (.ifCond .eq 146, 3) := by decide +kernel
theorem dX11_isKept_76 : decode cX11_isKept 76 = .ok (.aload_n 0, 1) := by decide +kernel
theorem dX11_isKept_77 : decode cX11_isKept 77 = .ok (.getfield 154, 3) := by decide +kernel
theorem dX11_isKept_80 : decode cX11_isKept 80 = .ok (.ldc2_w 234, 3) := by decide +kernel
theorem dX11_isKept_83 : decode cX11_isKept 83 = .ok (.lcmp, 1) := by decide +kernel
theorem dX11_isKept_84 : decode cX11_isKept 84 = .ok (.ifCond .eq 135, 3) := by decide +kernel
theorem dX11_isKept_87 : decode cX11_isKept 87 = .ok (.aload_n 0, 1) := by decide +kernel
theorem dX11_isKept_88 : decode cX11_isKept 88 = .ok (.getfield 154, 3) := by decide +kernel
theorem dX11_isKept_91 : decode cX11_isKept 91 = .ok (.ldc2_w 236, 3) := by decide +kernel
theorem dX11_isKept_94 : decode cX11_isKept 94 = .ok (.lcmp, 1) := by decide +kernel
theorem dX11_isKept_95 : decode cX11_isKept 95 = .ok (.ifCond .eq 124, 3) := by decide +kernel
theorem dX11_isKept_98 : decode cX11_isKept 98 = .ok (.aload_n 0, 1) := by decide +kernel
theorem dX11_isKept_99 : decode cX11_isKept 99 = .ok (.getfield 154, 3) := by decide +kernel
theorem dX11_isKept_102 : decode cX11_isKept 102 = .ok (.ldc2_w 238, 3) := by decide +kernel
theorem dX11_isKept_105 : decode cX11_isKept 105 = .ok (.lcmp, 1) := by decide +kernel
theorem dX11_isKept_106 : decode cX11_isKept 106 = .ok (.ifCond .eq 113, 3) := by decide +kernel
theorem dX11_isKept_109 : decode cX11_isKept 109 = .ok (.aload_n 0, 1) := by decide +kernel
theorem dX11_isKept_110 : decode cX11_isKept 110 = .ok (.getfield 154, 3) := by decide +kernel
theorem dX11_isKept_113 : decode cX11_isKept 113 = .ok (.ldc2_w 240, 3) := by decide +kernel
theorem dX11_isKept_116 : decode cX11_isKept 116 = .ok (.lcmp, 1) := by decide +kernel
theorem dX11_isKept_117 : decode cX11_isKept 117 = .ok (.ifCond .eq 102, 3) := by decide +kernel
theorem dX11_isKept_120 : decode cX11_isKept 120 = .ok (.aload_n 0, 1) := by decide +kernel
theorem dX11_isKept_121 : decode cX11_isKept 121 = .ok (.getfield 154, 3) := by decide +kernel
theorem dX11_isKept_124 : decode cX11_isKept 124 = .ok (.ldc2_w 242, 3) := by decide +kernel
theorem dX11_isKept_127 : decode cX11_isKept 127 = .ok (.lcmp, 1) := by decide +kernel
theorem dX11_isKept_128 : decode cX11_isKept 128 = .ok (.ifCond .eq 91, 3) := by decide +kernel
theorem dX11_isKept_131 : decode cX11_isKept 131 = .ok (.aload_n 0, 1) := by decide +kernel
theorem dX11_isKept_132 : decode cX11_isKept 132 = .ok (.getfield 154, 3) := by decide +kernel
theorem dX11_isKept_135 : decode cX11_isKept 135 = .ok (.ldc2_w 244, 3) := by decide +kernel
theorem dX11_isKept_138 : decode cX11_isKept 138 = .ok (.lcmp, 1) := by decide +kernel
theorem dX11_isKept_139 : decode cX11_isKept 139 = .ok (.ifCond .eq 80, 3) := by decide +kernel
theorem dX11_isKept_142 : decode cX11_isKept 142 = .ok (.aload_n 0, 1) := by decide +kernel
theorem dX11_isKept_143 : decode cX11_isKept 143 = .ok (.getfield 154, 3) := by decide +kernel
theorem dX11_isKept_146 : decode cX11_isKept 146 = .ok (.ldc2_w 246, 3) := by decide +kernel
theorem dX11_isKept_149 : decode cX11_isKept 149 = .ok (.lcmp, 1) := by decide +kernel
theorem dX11_isKept_150 : decode cX11_isKept 150 = .ok (.ifCond .eq 69, 3) := by decide +kernel
theorem dX11_isKept_153 : decode cX11_isKept 153 = .ok (.aload_n 0, 1) := by decide +kernel
theorem dX11_isKept_154 : decode cX11_isKept 154 = .ok (.getfield 154, 3) := by decide +kernel
theorem dX11_isKept_157 : decode cX11_isKept 157 = .ok (.ldc2_w 248, 3) := by decide +kernel
theorem dX11_isKept_160 : decode cX11_isKept 160 = .ok (.lcmp, 1) := by decide +kernel
theorem dX11_isKept_161 : decode cX11_isKept 161 = .ok (.ifCond .eq 58, 3) := by decide +kernel
theorem dX11_isKept_164 : decode cX11_isKept 164 = .ok (.aload_n 0, 1) := by decide +kernel
theorem dX11_isKept_165 : decode cX11_isKept 165 = .ok (.getfield 154, 3) := by decide +kernel
theorem dX11_isKept_168 : decode cX11_isKept 168 = .ok (.ldc2_w 250, 3) := by decide +kernel
theorem dX11_isKept_171 : decode cX11_isKept 171 = .ok (.lcmp, 1) := by decide +kernel
theorem dX11_isKept_172 : decode cX11_isKept 172 = .ok (.ifCond .eq 47, 3) := by decide +kernel
theorem dX11_isKept_175 : decode cX11_isKept 175 = .ok (.aload_n 0, 1) := by decide +kernel
theorem dX11_isKept_176 : decode cX11_isKept 176 = .ok (.getfield 154, 3) := by decide +kernel
theorem dX11_isKept_179 : decode cX11_isKept 179 = .ok (.ldc2_w 252, 3) := by decide +kernel
theorem dX11_isKept_182 : decode cX11_isKept 182 = .ok (.lcmp, 1) := by decide +kernel
theorem dX11_isKept_183 : decode cX11_isKept 183 = .ok (.ifCond .eq 36, 3) := by decide +kernel
theorem dX11_isKept_186 : decode cX11_isKept 186 = .ok (.aload_n 0, 1) := by decide +kernel
theorem dX11_isKept_187 : decode cX11_isKept 187 = .ok (.getfield 154, 3) := by decide +kernel
theorem dX11_isKept_190 : decode cX11_isKept 190 = .ok (.ldc2_w 190, 3) := by decide +kernel
theorem dX11_isKept_193 : decode cX11_isKept 193 = .ok (.lcmp, 1) := by decide +kernel
theorem dX11_isKept_194 : decode cX11_isKept 194 = .ok (.ifCond .eq 25, 3) := by decide +kernel
theorem dX11_isKept_197 : decode cX11_isKept 197 = .ok (.aload_n 0, 1) := by decide +kernel
theorem dX11_isKept_198 : decode cX11_isKept 198 = .ok (.getfield 154, 3) := by decide +kernel
theorem dX11_isKept_201 : decode cX11_isKept 201 = .ok (.ldc2_w 209, 3) := by decide +kernel
theorem dX11_isKept_204 : decode cX11_isKept 204 = .ok (.lcmp, 1) := by decide +kernel
theorem dX11_isKept_205 : decode cX11_isKept 205 = .ok (.ifCond .eq 14, 3) := by decide +kernel
theorem dX11_isKept_208 : decode cX11_isKept 208 = .ok (.aload_n 0, 1) := by decide +kernel
theorem dX11_isKept_209 : decode cX11_isKept 209 = .ok (.getfield 154, 3) := by decide +kernel
theorem dX11_isKept_212 : decode cX11_isKept 212 = .ok (.ldc2_w 211, 3) := by decide +kernel
theorem dX11_isKept_215 : decode cX11_isKept 215 = .ok (.lcmp, 1) := by decide +kernel
theorem dX11_isKept_216 : decode cX11_isKept 216 = .ok (.ifCond .ne 7, 3) := by decide +kernel
theorem dX11_isKept_219 : decode cX11_isKept 219 = .ok (.iconst 1, 1) := by decide +kernel
theorem dX11_isKept_220 : decode cX11_isKept 220 = .ok (.goto 4, 3) := by decide +kernel
theorem dX11_isKept_223 : decode cX11_isKept 223 = .ok (.iconst 0, 1) := by decide +kernel
theorem dX11_isKept_224 : decode cX11_isKept 224 = .ok (.ireturn, 1) := by decide +kernel
theorem dX11_personNamed_0 : decode cX11_personNamed 0 = .ok (.bipush 6, 2) := by decide +kernel
theorem dX11_personNamed_2 : decode cX11_personNamed 2 = .ok (.iload_n 1, 1) := by decide +kernel
theorem dX11_personNamed_3 : decode cX11_personNamed 3 = .ok (.imul, 1) := by decide +kernel
theorem dX11_personNamed_4 : decode cX11_personNamed 4 = .ok (.istore_n 2, 1) := by decide +kernel
theorem dX11_personNamed_5 : decode cX11_personNamed 5 = .ok (.iload_n 2, 1) := by decide +kernel
theorem dX11_personNamed_6 : decode cX11_personNamed 6 = .ok (.bipush 6, 2) := by decide +kernel
theorem dX11_personNamed_8 : decode cX11_personNamed 8 = .ok (.iload_n 1, 1) := by decide +kernel
theorem dX11_personNamed_9 : decode cX11_personNamed 9 = .ok (.imul, 1) := by decide +kernel
theorem dX11_personNamed_10 : decode cX11_personNamed 10 = .ok (.aload_n 0, 1) := by decide +kernel
theorem dX11_personNamed_11 : decode cX11_personNamed 11 = .ok (.getfield 13, 3) := by decide +kernel
theorem dX11_personNamed_14 : decode cX11_personNamed 14 = .ok (.iconst 4, 1) := by decide +kernel
theorem dX11_personNamed_15 : decode cX11_personNamed 15 = .ok (.iload_n 1, 1) := by decide +kernel
theorem dX11_personNamed_16 : decode cX11_personNamed 16 = .ok (.imul, 1) := by decide +kernel
theorem dX11_personNamed_17 : decode cX11_personNamed 17 = .ok (.iconst 0, 1) := by decide +kernel
theorem dX11_personNamed_18 : decode cX11_personNamed 18 = .ok (.iadd, 1) := by decide +kernel
theorem dX11_personNamed_19 : decode cX11_personNamed 19 = .ok (.iaload, 1) := by decide +kernel
theorem dX11_personNamed_20 : decode cX11_personNamed 20 = .ok (.iadd, 1) := by decide +kernel
theorem dX11_personNamed_21 : decode cX11_personNamed 21 = .ok (.if_icmp .ge 30, 3) := by decide +kernel
theorem dX11_personNamed_24 : decode cX11_personNamed 24 = .ok (.aload_n 0, 1) := by decide +kernel
theorem dX11_personNamed_25 : decode cX11_personNamed 25 = .ok (.getfield 16, 3) := by decide +kernel
theorem dX11_personNamed_28 : decode cX11_personNamed 28 = .ok (.iload_n 2, 1) := by decide +kernel
theorem dX11_personNamed_29 : decode cX11_personNamed 29 = .ok (.laload, 1) := by decide +kernel
theorem dX11_personNamed_30 : decode cX11_personNamed 30 = .ok (.aload_n 0, 1) := by decide +kernel
theorem dX11_personNamed_31 : decode cX11_personNamed 31 = .ok (.getfield 154, 3) := by decide +kernel
theorem dX11_personNamed_34 : decode cX11_personNamed 34 = .ok (.lcmp, 1) := by decide +kernel
theorem dX11_personNamed_35 : decode cX11_personNamed 35 = .ok (.ifCond .ne 10, 3) := by decide +kernel
theorem dX11_personNamed_38 : decode cX11_personNamed 38 = .ok (.iload_n 2, 1) := by decide +kernel
theorem dX11_personNamed_39 : decode cX11_personNamed 39 = .ok (.bipush 6, 2) := by decide +kernel
theorem dX11_personNamed_41 : decode cX11_personNamed 41 = .ok (.iload_n 1, 1) := by decide +kernel
theorem dX11_personNamed_42 : decode cX11_personNamed 42 = .ok (.imul, 1) := by decide +kernel
theorem dX11_personNamed_43 : decode cX11_personNamed 43 = .ok (.isub, 1) := by decide +kernel
theorem dX11_personNamed_44 : decode cX11_personNamed 44 = .ok (.ireturn, 1) := by decide +kernel
theorem dX11_personNamed_45 : decode cX11_personNamed 45 = .ok (.iinc 2 1, 3) := by decide +kernel
theorem dX11_personNamed_48 : decode cX11_personNamed 48 = .ok (.goto (-43), 3) := by decide +kernel
theorem dX11_personNamed_51 : decode cX11_personNamed 51 = .ok (.iconst (-1), 1) := by decide +kernel
theorem dX11_personNamed_52 : decode cX11_personNamed 52 = .ok (.ireturn, 1) := by decide +kernel
theorem dX11_needsNumber_0 : decode cX11_needsNumber 0 = .ok (.aload_n 0, 1) := by decide +kernel
theorem dX11_needsNumber_1 : decode cX11_needsNumber 1 = .ok (.getfield 161, 3) := by decide +kernel
theorem dX11_needsNumber_4 : decode cX11_needsNumber 4 = .ok (.iconst 2, 1) := by decide +kernel
theorem dX11_needsNumber_5 : decode cX11_needsNumber 5 = .ok (.if_icmp .eq 9, 3) := by decide +kernel
theorem dX11_needsNumber_8 : decode cX11_needsNumber 8 = .ok (.aload_n 0, 1) := by decide +kernel
theorem dX11_needsNumber_9 : decode cX11_needsNumber 9 = .ok (.iconst 1, 1) := by decide +kernel
theorem dX11_needsNumber_10 : decode cX11_needsNumber 10 = .ok (.invokevirtual 200, 3) := by decide +kernel
theorem dX11_needsNumber_13 : decode cX11_needsNumber 13 = .ok (.ireturn, 1) := by decide +kernel
theorem dX11_needsNumber_14 : decode cX11_needsNumber 14 = .ok (.aload_n 0, 1) := by decide +kernel
theorem dX11_needsNumber_15 : decode cX11_needsNumber 15 = .ok (.getfield 158, 3) := by decide +kernel
theorem dX11_needsNumber_18 : decode cX11_needsNumber 18 = .ok (.iload_n 1, 1) := by decide +kernel
theorem dX11_needsNumber_19 : decode cX11_needsNumber 19 = .ok (.iload_n 2, 1) := by decide +kernel
theorem dX11_needsNumber_20 : decode cX11_needsNumber 20 = .ok (.invokestatic 254, 3) := by decide +kernel
theorem dX11_needsNumber_23 : decode cX11_needsNumber 23 = .ok (.ifCond .ne 9, 3) := by decide +kernel
theorem dX11_needsNumber_26 : decode cX11_needsNumber 26 = .ok (.aload_n 0, 1) := by decide +kernel
theorem dX11_needsNumber_27 : decode cX11_needsNumber 27 = .ok (.iconst 4, 1) := by decide +kernel
theorem dX11_needsNumber_28 : decode cX11_needsNumber 28 = .ok (.invokevirtual 200, 3) := by decide +kernel
theorem dX11_needsNumber_31 : decode cX11_needsNumber 31 = .ok (.ireturn, 1) := by decide +kernel
theorem dX11_needsNumber_32 : decode cX11_needsNumber 32 = .ok (.aload_n 0, 1) := by decide +kernel
theorem dX11_needsNumber_33 : decode cX11_needsNumber 33 = .ok (.aload_n 0, 1) := by decide +kernel
theorem dX11_needsNumber_34 : decode cX11_needsNumber 34 = .ok (.getfield 158, 3) := by decide +kernel
theorem dX11_needsNumber_37 : decode cX11_needsNumber 37 = .ok (.putfield 258, 3) := by decide +kernel
theorem dX11_needsNumber_40 : decode cX11_needsNumber 40 = .ok (.aload_n 0, 1) := by decide +kernel
theorem dX11_needsNumber_41 : decode cX11_needsNumber 41 = .ok (.invokevirtual 206, 3) := by decide +kernel
theorem dX11_needsNumber_44 : decode cX11_needsNumber 44 = .ok (.iconst 1, 1) := by decide +kernel
theorem dX11_needsNumber_45 : decode cX11_needsNumber 45 = .ok (.ireturn, 1) := by decide +kernel
theorem dX11_needsBoth_0 : decode cX11_needsBoth 0 = .ok (.aload_n 0, 1) := by decide +kernel
theorem dX11_needsBoth_1 : decode cX11_needsBoth 1 = .ok (.lload_n 1, 1) := by decide +kernel
theorem dX11_needsBoth_2 : decode cX11_needsBoth 2 = .ok (.invokevirtual 192, 3) := by decide +kernel
theorem dX11_needsBoth_5 : decode cX11_needsBoth 5 = .ok (.ifCond .ne 9, 3) := by decide +kernel
theorem dX11_needsBoth_8 : decode cX11_needsBoth 8 = .ok (.aload_n 0, 1) := by decide +kernel
theorem dX11_needsBoth_9 : decode cX11_needsBoth 9 = .ok (.iconst 1, 1) := by decide +kernel
theorem dX11_needsBoth_10 : decode cX11_needsBoth 10 = .ok (.invokevirtual 200, 3) := by decide +kernel
theorem dX11_needsBoth_13 : decode cX11_needsBoth 13 = .ok (.ireturn, 1) := by decide +kernel
theorem dX11_needsBoth_14 : decode cX11_needsBoth 14 = .ok (.aload_n 0, 1) := by decide +kernel
theorem dX11_needsBoth_15 : decode cX11_needsBoth 15 = .ok (.invokevirtual 206, 3) := by decide +kernel
theorem dX11_needsBoth_18 : decode cX11_needsBoth 18 = .ok (.aload_n 0, 1) := by decide +kernel
theorem dX11_needsBoth_19 : decode cX11_needsBoth 19 = .ok (.iload_n 3, 1) := by decide +kernel
theorem dX11_needsBoth_20 : decode cX11_needsBoth 20 = .ok (.iload 4, 2) := by decide +kernel
theorem dX11_needsBoth_22 : decode cX11_needsBoth 22 = .ok (.invokevirtual 261, 3) := by decide +kernel
theorem dX11_needsBoth_25 : decode cX11_needsBoth 25 = .ok (.ireturn, 1) := by decide +kernel
theorem dX11_closes_0 : decode cX11_closes 0 = .ok (.aload_n 0, 1) := by decide +kernel
theorem dX11_closes_1 : decode cX11_closes 1 = .ok (.bipush 59, 2) := by decide +kernel
theorem dX11_closes_3 : decode cX11_closes 3 = .ok (.invokevirtual 196, 3) := by decide +kernel
theorem dX11_closes_6 : decode cX11_closes 6 = .ok (.ifCond .ne 9, 3) := by decide +kernel
theorem dX11_closes_9 : decode cX11_closes 9 = .ok (.aload_n 0, 1) := by decide +kernel
theorem dX11_closes_10 : decode cX11_closes 10 = .ok (.iconst 1, 1) := by decide +kernel
theorem dX11_closes_11 : decode cX11_closes 11 = .ok (.invokevirtual 200, 3) := by decide +kernel
theorem dX11_closes_14 : decode cX11_closes 14 = .ok (.ireturn, 1) := by decide +kernel
theorem dX11_closes_15 : decode cX11_closes 15 = .ok (.aload_n 0, 1) := by decide +kernel
theorem dX11_closes_16 : decode cX11_closes 16 = .ok (.invokevirtual 206, 3) := by decide +kernel
theorem dX11_closes_19 : decode cX11_closes 19 = .ok (.iconst 1, 1) := by decide +kernel
theorem dX11_closes_20 : decode cX11_closes 20 = .ok (.ireturn, 1) := by decide +kernel
theorem dX11_readsPerson_0 : decode cX11_readsPerson 0 = .ok (.bipush 6, 2) := by decide +kernel
theorem dX11_readsPerson_2 : decode cX11_readsPerson 2 = .ok (.aload_n 0, 1) := by decide +kernel
theorem dX11_readsPerson_3 : decode cX11_readsPerson 3 = .ok (.getfield 13, 3) := by decide +kernel
theorem dX11_readsPerson_6 : decode cX11_readsPerson 6 = .ok (.iconst 4, 1) := by decide +kernel
theorem dX11_readsPerson_7 : decode cX11_readsPerson 7 = .ok (.iaload, 1) := by decide +kernel
theorem dX11_readsPerson_8 : decode cX11_readsPerson 8 = .ok (.iadd, 1) := by decide +kernel
theorem dX11_readsPerson_9 : decode cX11_readsPerson 9 = .ok (.istore_n 1, 1) := by decide +kernel
theorem dX11_readsPerson_10 : decode cX11_readsPerson 10 = .ok (.iload_n 1, 1) := by decide +kernel
theorem dX11_readsPerson_11 : decode cX11_readsPerson 11 = .ok (.bipush 12, 2) := by decide +kernel
theorem dX11_readsPerson_13 : decode cX11_readsPerson 13 = .ok (.if_icmp .ne 9, 3) := by decide +kernel
theorem dX11_readsPerson_16 : decode cX11_readsPerson 16 = .ok (.aload_n 0, 1) := by decide +kernel
theorem dX11_readsPerson_17 : decode cX11_readsPerson 17 = .ok (.iconst 5, 1) := by decide +kernel
theorem dX11_readsPerson_18 : decode cX11_readsPerson 18 = .ok (.invokevirtual 200, 3) := by decide +kernel
theorem dX11_readsPerson_21 : decode cX11_readsPerson 21 = .ok (.ireturn, 1) := by decide +kernel
theorem dX11_readsPerson_22 : decode cX11_readsPerson 22 = .ok (.aload_n 0, 1) := by decide +kernel
theorem dX11_readsPerson_23 : decode cX11_readsPerson 23 = .ok (.invokevirtual 206, 3) := by decide +kernel
theorem dX11_readsPerson_26 : decode cX11_readsPerson 26 = .ok (.aload_n 0, 1) := by decide +kernel
theorem dX11_readsPerson_27 : decode cX11_readsPerson 27 = .ok (.invokevirtual 265, 3) := by decide +kernel
theorem dX11_readsPerson_30 : decode cX11_readsPerson 30 = .ok (.ifCond .eq 9, 3) := by decide +kernel
theorem dX11_readsPerson_33 : decode cX11_readsPerson 33 = .ok (.aload_n 0, 1) := by decide +kernel
theorem dX11_readsPerson_34 : decode cX11_readsPerson 34 = .ok (.iconst 1, 1) := by decide +kernel
theorem dX11_readsPerson_35 : decode cX11_readsPerson 35 = .ok (.invokevirtual 200, 3) := by decide +kernel
theorem dX11_readsPerson_38 : decode cX11_readsPerson 38 = .ok (.ireturn, 1) := by decide +kernel
theorem dX11_readsPerson_39 : decode cX11_readsPerson 39 = .ok (.aload_n 0, 1) := by decide +kernel
theorem dX11_readsPerson_40 : decode cX11_readsPerson 40 = .ok (.iconst 1, 1) := by decide +kernel
theorem dX11_readsPerson_41 : decode cX11_readsPerson 41 = .ok (.invokevirtual 269, 3) := by decide +kernel
theorem dX11_readsPerson_44 : decode cX11_readsPerson 44 = .ok (.ifCond .lt 9, 3) := by decide +kernel
theorem dX11_readsPerson_47 : decode cX11_readsPerson 47 = .ok (.aload_n 0, 1) := by decide +kernel
theorem dX11_readsPerson_48 : decode cX11_readsPerson 48 = .ok (.iconst 3, 1) := by decide +kernel
theorem dX11_readsPerson_49 : decode cX11_readsPerson 49 = .ok (.invokevirtual 200, 3) := by decide +kernel
theorem dX11_readsPerson_52 : decode cX11_readsPerson 52 = .ok (.ireturn, 1) := by decide +kernel
theorem dX11_readsPerson_53 : decode cX11_readsPerson 53 = .ok (.aload_n 0, 1) := by decide +kernel
theorem dX11_readsPerson_54 : decode cX11_readsPerson 54 = .ok (.getfield 154, 3) := by decide +kernel
theorem dX11_readsPerson_57 : decode cX11_readsPerson 57 = .ok (.lstore_n 2, 1) := by decide +kernel
theorem dX11_readsPerson_58 : decode cX11_readsPerson 58 = .ok (.aload_n 0, 1) := by decide +kernel
theorem dX11_readsPerson_59 : decode cX11_readsPerson 59 = .ok (.invokevirtual 206, 3) := by decide +kernel
theorem dX11_readsPerson_62 : decode cX11_readsPerson 62 = .ok (.aload_n 0, 1) := by decide +kernel
theorem dX11_readsPerson_63 : decode cX11_readsPerson 63 = .ok (.getfield 20, 3) := by decide +kernel
theorem dX11_readsPerson_66 : decode cX11_readsPerson 66 = .ok (.iload_n 1, 1) := by decide +kernel
theorem dX11_readsPerson_67 : decode cX11_readsPerson 67 = .ok (.aload_n 0, 1) := by decide +kernel
theorem dX11_readsPerson_68 : decode cX11_readsPerson 68 = .ok (.ldc2_w 246, 3) := by decide +kernel
theorem dX11_readsPerson_71 : decode cX11_readsPerson 71 = .ok (.invokevirtual 192, 3) := by decide +kernel
theorem dX11_readsPerson_74 : decode cX11_readsPerson 74 = .ok (.ifCond .eq 7, 3) := by decide +kernel
theorem dX11_readsPerson_77 : decode cX11_readsPerson 77 = .ok (.iconst 0, 1) := by decide +kernel
theorem dX11_readsPerson_78 : decode cX11_readsPerson 78 = .ok (.goto 46, 3) := by decide +kernel
theorem dX11_readsPerson_81 : decode cX11_readsPerson 81 = .ok (.aload_n 0, 1) := by decide +kernel
theorem dX11_readsPerson_82 : decode cX11_readsPerson 82 = .ok (.ldc2_w 248, 3) := by decide +kernel
theorem dX11_readsPerson_85 : decode cX11_readsPerson 85 = .ok (.invokevirtual 192, 3) := by decide +kernel
theorem dX11_readsPerson_88 : decode cX11_readsPerson 88 = .ok (.ifCond .eq 7, 3) := by decide +kernel
theorem dX11_readsPerson_91 : decode cX11_readsPerson 91 = .ok (.iconst 1, 1) := by decide +kernel
theorem dX11_readsPerson_92 : decode cX11_readsPerson 92 = .ok (.goto 32, 3) := by decide +kernel
theorem dX11_readsPerson_95 : decode cX11_readsPerson 95 = .ok (.aload_n 0, 1) := by decide +kernel
theorem dX11_readsPerson_96 : decode cX11_readsPerson 96 = .ok (.ldc2_w 250, 3) := by decide +kernel
theorem dX11_readsPerson_99 : decode cX11_readsPerson 99 = .ok (.invokevirtual 192, 3) := by decide +kernel
theorem dX11_readsPerson_102 : decode cX11_readsPerson 102 = .ok (.ifCond .eq 7, 3) := by decide +kernel
theorem dX11_readsPerson_105 : decode cX11_readsPerson 105 = .ok (.iconst 2, 1) := by decide +kernel
theorem dX11_readsPerson_106 : decode cX11_readsPerson 106 = .ok (.goto 18, 3) := by decide +kernel
theorem dX11_readsPerson_109 : decode cX11_readsPerson 109 = .ok (.aload_n 0, 1) := by decide +kernel
theorem dX11_readsPerson_110 : decode cX11_readsPerson 110 = .ok (.ldc2_w 252, 3) := by decide +kernel
theorem dX11_readsPerson_113 : decode cX11_readsPerson 113 = .ok (.invokevirtual 192, 3) := by decide +kernel
theorem dX11_readsPerson_116 : decode cX11_readsPerson 116 = .ok (.ifCond .eq 7, 3) := by decide +kernel
theorem dX11_readsPerson_119 : decode cX11_readsPerson 119 = .ok (.iconst 3, 1) := by decide +kernel
theorem dX11_readsPerson_120 : decode cX11_readsPerson 120 = .ok (.goto 4, 3) := by decide +kernel
theorem dX11_readsPerson_123 : decode cX11_readsPerson 123 = .ok (.iconst (-1), 1) := by decide +kernel
theorem dX11_readsPerson_124 : decode cX11_readsPerson 124 = .ok (.iastore, 1) := by decide +kernel
theorem dX11_readsPerson_125 : decode cX11_readsPerson 125 = .ok (.aload_n 0, 1) := by decide +kernel
theorem dX11_readsPerson_126 : decode cX11_readsPerson 126 = .ok (.getfield 20, 3) := by decide +kernel
theorem dX11_readsPerson_129 : decode cX11_readsPerson 129 = .ok (.iload_n 1, 1) := by decide +kernel
theorem dX11_readsPerson_130 : decode cX11_readsPerson 130 = .ok (.iaload, 1) := by decide +kernel
theorem dX11_readsPerson_131 : decode cX11_readsPerson 131 = .ok (.ifCond .ge 9, 3) := by decide +kernel
theorem dX11_readsPerson_134 : decode cX11_readsPerson 134 = .ok (.aload_n 0, 1) := by decide +kernel
theorem dX11_readsPerson_135 : decode cX11_readsPerson 135 = .ok (.iconst 1, 1) := by decide +kernel
theorem dX11_readsPerson_136 : decode cX11_readsPerson 136 = .ok (.invokevirtual 200, 3) := by decide +kernel
theorem dX11_readsPerson_139 : decode cX11_readsPerson 139 = .ok (.ireturn, 1) := by decide +kernel
theorem dX11_readsPerson_140 : decode cX11_readsPerson 140 = .ok (.aload_n 0, 1) := by decide +kernel
theorem dX11_readsPerson_141 : decode cX11_readsPerson 141 = .ok (.invokevirtual 206, 3) := by decide +kernel
theorem dX11_readsPerson_144 : decode cX11_readsPerson 144 = .ok (.aload_n 0, 1) := by decide +kernel
theorem dX11_readsPerson_145 : decode cX11_readsPerson 145 = .ok (.ldc2_w 224, 3) := by decide +kernel
theorem dX11_readsPerson_148 : decode cX11_readsPerson 148 = .ok (.iconst 1, 1) := by decide +kernel
theorem dX11_readsPerson_149 : decode cX11_readsPerson 149 = .ok (.sipush 3000, 3) := by decide +kernel
theorem dX11_readsPerson_152 : decode cX11_readsPerson 152 = .ok (.invokevirtual 272, 3) := by decide +kernel
theorem dX11_readsPerson_155 : decode cX11_readsPerson 155 = .ok (.ifCond .ne 5, 3) := by decide +kernel
theorem dX11_readsPerson_158 : decode cX11_readsPerson 158 = .ok (.iconst 0, 1) := by decide +kernel
theorem dX11_readsPerson_159 : decode cX11_readsPerson 159 = .ok (.ireturn, 1) := by decide +kernel
theorem dX11_readsPerson_160 : decode cX11_readsPerson 160 = .ok (.aload_n 0, 1) := by decide +kernel
theorem dX11_readsPerson_161 : decode cX11_readsPerson 161 = .ok (.getfield 23, 3) := by decide +kernel
theorem dX11_readsPerson_164 : decode cX11_readsPerson 164 = .ok (.iload_n 1, 1) := by decide +kernel
theorem dX11_readsPerson_165 : decode cX11_readsPerson 165 = .ok (.aload_n 0, 1) := by decide +kernel
theorem dX11_readsPerson_166 : decode cX11_readsPerson 166 = .ok (.getfield 258, 3) := by decide +kernel
theorem dX11_readsPerson_169 : decode cX11_readsPerson 169 = .ok (.iastore, 1) := by decide +kernel
theorem dX11_readsPerson_170 : decode cX11_readsPerson 170 = .ok (.aload_n 0, 1) := by decide +kernel
theorem dX11_readsPerson_171 : decode cX11_readsPerson 171 = .ok (.ldc2_w 226, 3) := by decide +kernel
theorem dX11_readsPerson_174 : decode cX11_readsPerson 174 = .ok (.iconst 1, 1) := by decide +kernel
theorem dX11_readsPerson_175 : decode cX11_readsPerson 175 = .ok (.bipush 20, 2) := by decide +kernel
theorem dX11_readsPerson_177 : decode cX11_readsPerson 177 = .ok (.invokevirtual 272, 3) := by decide +kernel
theorem dX11_readsPerson_180 : decode cX11_readsPerson 180 = .ok (.ifCond .ne 5, 3) := by decide +kernel
theorem dX11_readsPerson_183 : decode cX11_readsPerson 183 = .ok (.iconst 0, 1) := by decide +kernel
theorem dX11_readsPerson_184 : decode cX11_readsPerson 184 = .ok (.ireturn, 1) := by decide +kernel
theorem dX11_readsPerson_185 : decode cX11_readsPerson 185 = .ok (.aload_n 0, 1) := by decide +kernel
theorem dX11_readsPerson_186 : decode cX11_readsPerson 186 = .ok (.getfield 26, 3) := by decide +kernel
theorem dX11_readsPerson_189 : decode cX11_readsPerson 189 = .ok (.iload_n 1, 1) := by decide +kernel
theorem dX11_readsPerson_190 : decode cX11_readsPerson 190 = .ok (.aload_n 0, 1) := by decide +kernel
theorem dX11_readsPerson_191 : decode cX11_readsPerson 191 = .ok (.getfield 258, 3) := by decide +kernel
theorem dX11_readsPerson_194 : decode cX11_readsPerson 194 = .ok (.iastore, 1) := by decide +kernel
theorem dX11_readsPerson_195 : decode cX11_readsPerson 195 = .ok (.aload_n 0, 1) := by decide +kernel
theorem dX11_readsPerson_196 : decode cX11_readsPerson 196 = .ok (.getfield 16, 3) := by decide +kernel
theorem dX11_readsPerson_199 : decode cX11_readsPerson 199 = .ok (.iload_n 1, 1) := by decide +kernel
theorem dX11_readsPerson_200 : decode cX11_readsPerson 200 = .ok (.lload_n 2, 1) := by decide +kernel
theorem dX11_readsPerson_201 : decode cX11_readsPerson 201 = .ok (.lastore, 1) := by decide +kernel
theorem dX11_readsPerson_202 : decode cX11_readsPerson 202 = .ok (.aload_n 0, 1) := by decide +kernel
theorem dX11_readsPerson_203 : decode cX11_readsPerson 203 = .ok (.getfield 13, 3) := by decide +kernel
theorem dX11_readsPerson_206 : decode cX11_readsPerson 206 = .ok (.iconst 4, 1) := by decide +kernel
theorem dX11_readsPerson_207 : decode cX11_readsPerson 207 = .ok (.dup2, 1) := by decide +kernel
theorem dX11_readsPerson_208 : decode cX11_readsPerson 208 = .ok (.iaload, 1) := by decide +kernel
theorem dX11_readsPerson_209 : decode cX11_readsPerson 209 = .ok (.iconst 1, 1) := by decide +kernel
theorem dX11_readsPerson_210 : decode cX11_readsPerson 210 = .ok (.iadd, 1) := by decide +kernel
theorem dX11_readsPerson_211 : decode cX11_readsPerson 211 = .ok (.iastore, 1) := by decide +kernel
theorem dX11_readsPerson_212 : decode cX11_readsPerson 212 = .ok (.aload_n 0, 1) := by decide +kernel
theorem dX11_readsPerson_213 : decode cX11_readsPerson 213 = .ok (.invokevirtual 276, 3) := by decide +kernel
theorem dX11_readsPerson_216 : decode cX11_readsPerson 216 = .ok (.ireturn, 1) := by decide +kernel
theorem dX11_readsOne_0 : decode cX11_readsOne 0 = .ok (.aload_n 0, 1) := by decide +kernel
theorem dX11_readsOne_1 : decode cX11_readsOne 1 = .ok (.getfield 279, 3) := by decide +kernel
theorem dX11_readsOne_4 : decode cX11_readsOne 4 = .ok (.iload_n 1, 1) := by decide +kernel
theorem dX11_readsOne_5 : decode cX11_readsOne 5 = .ok (.ishr, 1) := by decide +kernel
theorem dX11_readsOne_6 : decode cX11_readsOne 6 = .ok (.iconst 1, 1) := by decide +kernel
theorem dX11_readsOne_7 : decode cX11_readsOne 7 = .ok (.iand, 1) := by decide +kernel
theorem dX11_readsOne_8 : decode cX11_readsOne 8 = .ok (.iconst 1, 1) := by decide +kernel
theorem dX11_readsOne_9 : decode cX11_readsOne 9 = .ok (.if_icmp .ne 9, 3) := by decide +kernel
theorem dX11_readsOne_12 : decode cX11_readsOne 12 = .ok (.aload_n 0, 1) := by decide +kernel
theorem dX11_readsOne_13 : decode cX11_readsOne 13 = .ok (.iconst 3, 1) := by decide +kernel
theorem dX11_readsOne_14 : decode cX11_readsOne 14 = .ok (.invokevirtual 200, 3) := by decide +kernel
theorem dX11_readsOne_17 : decode cX11_readsOne 17 = .ok (.ireturn, 1) := by decide +kernel
theorem dX11_readsOne_18 : decode cX11_readsOne 18 = .ok (.aload_n 0, 1) := by decide +kernel
theorem dX11_readsOne_19 : decode cX11_readsOne 19 = .ok (.dup, 1) := by decide +kernel
theorem dX11_readsOne_20 : decode cX11_readsOne 20 = .ok (.getfield 279, 3) := by decide +kernel
theorem dX11_readsOne_23 : decode cX11_readsOne 23 = .ok (.iconst 1, 1) := by decide +kernel
theorem dX11_readsOne_24 : decode cX11_readsOne 24 = .ok (.iload_n 1, 1) := by decide +kernel
theorem dX11_readsOne_25 : decode cX11_readsOne 25 = .ok (.ishl, 1) := by decide +kernel
theorem dX11_readsOne_26 : decode cX11_readsOne 26 = .ok (.ior, 1) := by decide +kernel
theorem dX11_readsOne_27 : decode cX11_readsOne 27 = .ok (.putfield 279, 3) := by decide +kernel
theorem dX11_readsOne_30 : decode cX11_readsOne 30 = .ok (.aload_n 0, 1) := by decide +kernel
theorem dX11_readsOne_31 : decode cX11_readsOne 31 = .ok (.invokevirtual 206, 3) := by decide +kernel
theorem dX11_readsOne_34 : decode cX11_readsOne 34 = .ok (.aload_n 0, 1) := by decide +kernel
theorem dX11_readsOne_35 : decode cX11_readsOne 35 = .ok (.iload_n 2, 1) := by decide +kernel
theorem dX11_readsOne_36 : decode cX11_readsOne 36 = .ok (.iload_n 3, 1) := by decide +kernel
theorem dX11_readsOne_37 : decode cX11_readsOne 37 = .ok (.invokevirtual 261, 3) := by decide +kernel
theorem dX11_readsOne_40 : decode cX11_readsOne 40 = .ok (.ifCond .ne 5, 3) := by decide +kernel
theorem dX11_readsOne_43 : decode cX11_readsOne 43 = .ok (.iconst 0, 1) := by decide +kernel
theorem dX11_readsOne_44 : decode cX11_readsOne 44 = .ok (.ireturn, 1) := by decide +kernel
theorem dX11_readsOne_45 : decode cX11_readsOne 45 = .ok (.aload_n 0, 1) := by decide +kernel
theorem dX11_readsOne_46 : decode cX11_readsOne 46 = .ok (.getfield 13, 3) := by decide +kernel
theorem dX11_readsOne_49 : decode cX11_readsOne 49 = .ok (.iconst 4, 1) := by decide +kernel
theorem dX11_readsOne_50 : decode cX11_readsOne 50 = .ok (.iload_n 1, 1) := by decide +kernel
theorem dX11_readsOne_51 : decode cX11_readsOne 51 = .ok (.iadd, 1) := by decide +kernel
theorem dX11_readsOne_52 : decode cX11_readsOne 52 = .ok (.aload_n 0, 1) := by decide +kernel
theorem dX11_readsOne_53 : decode cX11_readsOne 53 = .ok (.getfield 258, 3) := by decide +kernel
theorem dX11_readsOne_56 : decode cX11_readsOne 56 = .ok (.iastore, 1) := by decide +kernel
theorem dX11_readsOne_57 : decode cX11_readsOne 57 = .ok (.aload_n 0, 1) := by decide +kernel
theorem dX11_readsOne_58 : decode cX11_readsOne 58 = .ok (.invokevirtual 276, 3) := by decide +kernel
theorem dX11_readsOne_61 : decode cX11_readsOne 61 = .ok (.ireturn, 1) := by decide +kernel
theorem dX11_readsFirst_0 : decode cX11_readsFirst 0 = .ok (.aload_n 0, 1) := by decide +kernel
theorem dX11_readsFirst_1 : decode cX11_readsFirst 1 = .ok (.getfield 32, 3) := by decide +kernel
theorem dX11_readsFirst_4 : decode cX11_readsFirst 4 = .ok (.iconst 1, 1) := by decide +kernel
theorem dX11_readsFirst_5 : decode cX11_readsFirst 5 = .ok (.iaload, 1) := by decide +kernel
theorem dX11_readsFirst_6 : decode cX11_readsFirst 6 = .ok (.aload_n 0, 1) := by decide +kernel
theorem dX11_readsFirst_7 : decode cX11_readsFirst 7 = .ok (.getfield 29, 3) := by decide +kernel
theorem dX11_readsFirst_10 : decode cX11_readsFirst 10 = .ok (.iconst 1, 1) := by decide +kernel
theorem dX11_readsFirst_11 : decode cX11_readsFirst 11 = .ok (.iaload, 1) := by decide +kernel
theorem dX11_readsFirst_12 : decode cX11_readsFirst 12 = .ok (.if_icmp .le 9, 3) := by decide +kernel
theorem dX11_readsFirst_15 : decode cX11_readsFirst 15 = .ok (.aload_n 0, 1) := by decide +kernel
theorem dX11_readsFirst_16 : decode cX11_readsFirst 16 = .ok (.iconst 3, 1) := by decide +kernel
theorem dX11_readsFirst_17 : decode cX11_readsFirst 17 = .ok (.invokevirtual 200, 3) := by decide +kernel
theorem dX11_readsFirst_20 : decode cX11_readsFirst 20 = .ok (.ireturn, 1) := by decide +kernel
theorem dX11_readsFirst_21 : decode cX11_readsFirst 21 = .ok (.aload_n 0, 1) := by decide +kernel
theorem dX11_readsFirst_22 : decode cX11_readsFirst 22 = .ok (.invokevirtual 206, 3) := by decide +kernel
theorem dX11_readsFirst_25 : decode cX11_readsFirst 25 = .ok (.aload_n 0, 1) := by decide +kernel
theorem dX11_readsFirst_26 : decode cX11_readsFirst 26 = .ok (.getfield 29, 3) := by decide +kernel
theorem dX11_readsFirst_29 : decode cX11_readsFirst 29 = .ok (.iconst 1, 1) := by decide +kernel
theorem dX11_readsFirst_30 : decode cX11_readsFirst 30 = .ok (.aload_n 0, 1) := by decide +kernel
theorem dX11_readsFirst_31 : decode cX11_readsFirst 31 = .ok (.getfield 175, 3) := by decide +kernel
theorem dX11_readsFirst_34 : decode cX11_readsFirst 34 = .ok (.iastore, 1) := by decide +kernel
theorem dX11_readsFirst_35 : decode cX11_readsFirst 35 = .ok (.aload_n 0, 1) := by decide +kernel
theorem dX11_readsFirst_36 : decode cX11_readsFirst 36 = .ok (.invokevirtual 282, 3) := by decide +kernel
theorem dX11_readsFirst_39 : decode cX11_readsFirst 39 = .ok (.ifCond .ne 5, 3) := by decide +kernel
theorem dX11_readsFirst_42 : decode cX11_readsFirst 42 = .ok (.iconst 0, 1) := by decide +kernel
theorem dX11_readsFirst_43 : decode cX11_readsFirst 43 = .ok (.ireturn, 1) := by decide +kernel
theorem dX11_readsFirst_44 : decode cX11_readsFirst 44 = .ok (.aload_n 0, 1) := by decide +kernel
theorem dX11_readsFirst_45 : decode cX11_readsFirst 45 = .ok (.getfield 32, 3) := by decide +kernel
theorem dX11_readsFirst_48 : decode cX11_readsFirst 48 = .ok (.iconst 1, 1) := by decide +kernel
theorem dX11_readsFirst_49 : decode cX11_readsFirst 49 = .ok (.aload_n 0, 1) := by decide +kernel
theorem dX11_readsFirst_50 : decode cX11_readsFirst 50 = .ok (.getfield 175, 3) := by decide +kernel
theorem dX11_readsFirst_53 : decode cX11_readsFirst 53 = .ok (.iastore, 1) := by decide +kernel
theorem dX11_readsFirst_54 : decode cX11_readsFirst 54 = .ok (.iconst 1, 1) := by decide +kernel
theorem dX11_readsFirst_55 : decode cX11_readsFirst 55 = .ok (.ireturn, 1) := by decide +kernel
theorem dX11_begins_0 : decode cX11_begins 0 = .ok (.aload_n 0, 1) := by decide +kernel
theorem dX11_begins_1 : decode cX11_begins 1 = .ok (.aload_n 0, 1) := by decide +kernel
theorem dX11_begins_2 : decode cX11_begins 2 = .ok (.getfield 142, 3) := by decide +kernel
theorem dX11_begins_5 : decode cX11_begins 5 = .ok (.putfield 145, 3) := by decide +kernel
theorem dX11_begins_8 : decode cX11_begins 8 = .ok (.aload_n 0, 1) := by decide +kernel
theorem dX11_begins_9 : decode cX11_begins 9 = .ok (.iconst 0, 1) := by decide +kernel
theorem dX11_begins_10 : decode cX11_begins 10 = .ok (.putfield 142, 3) := by decide +kernel
theorem dX11_begins_13 : decode cX11_begins 13 = .ok (.aload_n 0, 1) := by decide +kernel
theorem dX11_begins_14 : decode cX11_begins 14 = .ok (.iconst 0, 1) := by decide +kernel
theorem dX11_begins_15 : decode cX11_begins 15 = .ok (.putfield 148, 3) := by decide +kernel
theorem dX11_begins_18 : decode cX11_begins 18 = .ok (.aload_n 0, 1) := by decide +kernel
theorem dX11_begins_19 : decode cX11_begins 19 = .ok (.invokevirtual 206, 3) := by decide +kernel
theorem dX11_begins_22 : decode cX11_begins 22 = .ok (.return_, 1) := by decide +kernel
theorem dX11_readsAll_0 : decode cX11_readsAll 0 = .ok (.aload_n 0, 1) := by decide +kernel
theorem dX11_readsAll_1 : decode cX11_readsAll 1 = .ok (.iconst 1, 1) := by decide +kernel
theorem dX11_readsAll_2 : decode cX11_readsAll 2 = .ok (.invokevirtual 130, 3) := by decide +kernel
theorem dX11_readsAll_5 : decode cX11_readsAll 5 = .ok (.aload_n 0, 1) := by decide +kernel
theorem dX11_readsAll_6 : decode cX11_readsAll 6 = .ok (.getfield 29, 3) := by decide +kernel
theorem dX11_readsAll_9 : decode cX11_readsAll 9 = .ok (.iconst 1, 1) := by decide +kernel
theorem dX11_readsAll_10 : decode cX11_readsAll 10 = .ok (.sipush 1000, 3) := by decide +kernel
theorem dX11_readsAll_13 : decode cX11_readsAll 13 = .ok (.iastore, 1) := by decide +kernel
theorem dX11_readsAll_14 : decode cX11_readsAll 14 = .ok (.aload_n 0, 1) := by decide +kernel
theorem dX11_readsAll_15 : decode cX11_readsAll 15 = .ok (.getfield 32, 3) := by decide +kernel
theorem dX11_readsAll_18 : decode cX11_readsAll 18 = .ok (.iconst 1, 1) := by decide +kernel
theorem dX11_readsAll_19 : decode cX11_readsAll 19 = .ok (.sipush 1000, 3) := by decide +kernel
theorem dX11_readsAll_22 : decode cX11_readsAll 22 = .ok (.iastore, 1) := by decide +kernel
theorem dX11_readsAll_23 : decode cX11_readsAll 23 = .ok (.aload_n 0, 1) := by decide +kernel
theorem dX11_readsAll_24 : decode cX11_readsAll 24 = .ok (.iconst 0, 1) := by decide +kernel
theorem dX11_readsAll_25 : decode cX11_readsAll 25 = .ok (.putfield 279, 3) := by decide +kernel
theorem dX11_readsAll_28 : decode cX11_readsAll 28 = .ok (.aload_n 0, 1) := by decide +kernel
theorem dX11_readsAll_29 : decode cX11_readsAll 29 = .ok (.sipush 1000, 3) := by decide +kernel
theorem dX11_readsAll_32 : decode cX11_readsAll 32 = .ok (.putfield 175, 3) := by decide +kernel
theorem dX11_readsAll_35 : decode cX11_readsAll 35 = .ok (.aload_n 0, 1) := by decide +kernel
theorem dX11_readsAll_36 : decode cX11_readsAll 36 = .ok (.invokevirtual 285, 3) := by decide +kernel
theorem dX11_readsAll_39 : decode cX11_readsAll 39 = .ok (.aload_n 0, 1) := by decide +kernel
theorem dX11_readsAll_40 : decode cX11_readsAll 40 = .ok (.getfield 161, 3) := by decide +kernel
theorem dX11_readsAll_43 : decode cX11_readsAll 43 = .ok (.ifCond .eq 116, 3) := by decide +kernel
theorem dX11_readsAll_46 : decode cX11_readsAll 46 = .ok (.aload_n 0, 1) := by decide +kernel
theorem dX11_readsAll_47 : decode cX11_readsAll 47 = .ok (.ldc2_w 222, 3) := by decide +kernel
theorem dX11_readsAll_50 : decode cX11_readsAll 50 = .ok (.invokevirtual 192, 3) := by decide +kernel
theorem dX11_readsAll_53 : decode cX11_readsAll 53 = .ok (.ifCond .eq 10, 3) := by decide +kernel
theorem dX11_readsAll_56 : decode cX11_readsAll 56 = .ok (.aload_n 0, 1) := by decide +kernel
theorem dX11_readsAll_57 : decode cX11_readsAll 57 = .ok (.invokevirtual 288, 3) := by decide +kernel
theorem dX11_readsAll_60 : decode cX11_readsAll 60 = .ok (.goto 89, 3) := by decide +kernel
theorem dX11_readsAll_63 : decode cX11_readsAll 63 = .ok (.aload_n 0, 1) := by decide +kernel
theorem dX11_readsAll_64 : decode cX11_readsAll 64 = .ok (.ldc2_w 228, 3) := by decide +kernel
theorem dX11_readsAll_67 : decode cX11_readsAll 67 = .ok (.invokevirtual 192, 3) := by decide +kernel
theorem dX11_readsAll_70 : decode cX11_readsAll 70 = .ok (.ifCond .eq 15, 3) := by decide +kernel
theorem dX11_readsAll_73 : decode cX11_readsAll 73 = .ok (.aload_n 0, 1) := by decide +kernel
theorem dX11_readsAll_74 : decode cX11_readsAll 74 = .ok (.iconst 1, 1) := by decide +kernel
theorem dX11_readsAll_75 : decode cX11_readsAll 75 = .ok (.iconst 1, 1) := by decide +kernel
theorem dX11_readsAll_76 : decode cX11_readsAll 76 = .ok (.sipush 3000, 3) := by decide +kernel
theorem dX11_readsAll_79 : decode cX11_readsAll 79 = .ok (.invokevirtual 291, 3) := by decide +kernel
theorem dX11_readsAll_82 : decode cX11_readsAll 82 = .ok (.goto 67, 3) := by decide +kernel
theorem dX11_readsAll_85 : decode cX11_readsAll 85 = .ok (.aload_n 0, 1) := by decide +kernel
theorem dX11_readsAll_86 : decode cX11_readsAll 86 = .ok (.ldc2_w 230, 3) := by decide +kernel
theorem dX11_readsAll_89 : decode cX11_readsAll 89 = .ok (.invokevirtual 192, 3) := by decide +kernel
theorem dX11_readsAll_92 : decode cX11_readsAll 92 = .ok (.ifCond .eq 14, 3) := by decide +kernel
theorem dX11_readsAll_95 : decode cX11_readsAll 95 = .ok (.aload_n 0, 1) := by decide +kernel
theorem dX11_readsAll_96 : decode cX11_readsAll 96 = .ok (.iconst 2, 1) := by decide +kernel
theorem dX11_readsAll_97 : decode cX11_readsAll 97 = .ok (.iconst 1, 1) := by decide +kernel
theorem dX11_readsAll_98 : decode cX11_readsAll 98 = .ok (.bipush 40, 2) := by decide +kernel
theorem dX11_readsAll_100 : decode cX11_readsAll 100 = .ok (.invokevirtual 291, 3) := by decide +kernel
theorem dX11_readsAll_103 : decode cX11_readsAll 103 = .ok (.goto 46, 3) := by decide +kernel
theorem dX11_readsAll_106 : decode cX11_readsAll 106 = .ok (.aload_n 0, 1) := by decide +kernel
theorem dX11_readsAll_107 : decode cX11_readsAll 107 = .ok (.ldc2_w 232, 3) := by decide +kernel
theorem dX11_readsAll_110 : decode cX11_readsAll 110 = .ok (.invokevirtual 192, 3) := by decide +kernel
theorem dX11_readsAll_113 : decode cX11_readsAll 113 = .ok (.ifCond .eq 14, 3) := by decide +kernel
theorem dX11_readsAll_116 : decode cX11_readsAll 116 = .ok (.aload_n 0, 1) := by decide +kernel
theorem dX11_readsAll_117 : decode cX11_readsAll 117 = .ok (.iconst 3, 1) := by decide +kernel
theorem dX11_readsAll_118 : decode cX11_readsAll 118 = .ok (.iconst 1, 1) := by decide +kernel
theorem dX11_readsAll_119 : decode cX11_readsAll 119 = .ok (.bipush 120, 2) := by decide +kernel
theorem dX11_readsAll_121 : decode cX11_readsAll 121 = .ok (.invokevirtual 291, 3) := by decide +kernel
theorem dX11_readsAll_124 : decode cX11_readsAll 124 = .ok (.goto 25, 3) := by decide +kernel
theorem dX11_readsAll_127 : decode cX11_readsAll 127 = .ok (.aload_n 0, 1) := by decide +kernel
theorem dX11_readsAll_128 : decode cX11_readsAll 128 = .ok (.ldc2_w 234, 3) := by decide +kernel
theorem dX11_readsAll_131 : decode cX11_readsAll 131 = .ok (.invokevirtual 192, 3) := by decide +kernel
theorem dX11_readsAll_134 : decode cX11_readsAll 134 = .ok (.ifCond .eq 10, 3) := by decide +kernel
theorem dX11_readsAll_137 : decode cX11_readsAll 137 = .ok (.aload_n 0, 1) := by decide +kernel
theorem dX11_readsAll_138 : decode cX11_readsAll 138 = .ok (.invokevirtual 294, 3) := by decide +kernel
theorem dX11_readsAll_141 : decode cX11_readsAll 141 = .ok (.goto 8, 3) := by decide +kernel
theorem dX11_readsAll_144 : decode cX11_readsAll 144 = .ok (.aload_n 0, 1) := by decide +kernel
theorem dX11_readsAll_145 : decode cX11_readsAll 145 = .ok (.iconst 1, 1) := by decide +kernel
theorem dX11_readsAll_146 : decode cX11_readsAll 146 = .ok (.invokevirtual 200, 3) := by decide +kernel
theorem dX11_readsAll_149 : decode cX11_readsAll 149 = .ok (.istore_n 1, 1) := by decide +kernel
theorem dX11_readsAll_150 : decode cX11_readsAll 150 = .ok (.iload_n 1, 1) := by decide +kernel
theorem dX11_readsAll_151 : decode cX11_readsAll 151 = .ok (.ifCond .ne 5, 3) := by decide +kernel
theorem dX11_readsAll_154 : decode cX11_readsAll 154 = .ok (.iconst 0, 1) := by decide +kernel
theorem dX11_readsAll_155 : decode cX11_readsAll 155 = .ok (.ireturn, 1) := by decide +kernel
theorem dX11_readsAll_156 : decode cX11_readsAll 156 = .ok (.goto (-117), 3) := by decide +kernel
theorem dX11_readsAll_159 : decode cX11_readsAll 159 = .ok (.iconst 1, 1) := by decide +kernel
theorem dX11_readsAll_160 : decode cX11_readsAll 160 = .ok (.ireturn, 1) := by decide +kernel
theorem dX11_shifts_0 : decode cX11_shifts 0 = .ok (.iconst 0, 1) := by decide +kernel
theorem dX11_shifts_1 : decode cX11_shifts 1 = .ok (.istore_n 2, 1) := by decide +kernel
theorem dX11_shifts_2 : decode cX11_shifts 2 = .ok (.iload_n 2, 1) := by decide +kernel
theorem dX11_shifts_3 : decode cX11_shifts 3 = .ok (.iload_n 1, 1) := by decide +kernel
theorem dX11_shifts_4 : decode cX11_shifts 4 = .ok (.if_icmp .ge 17, 3) := by decide +kernel
theorem dX11_shifts_7 : decode cX11_shifts 7 = .ok (.aload_n 0, 1) := by decide +kernel
theorem dX11_shifts_8 : decode cX11_shifts 8 = .ok (.iload_n 2, 1) := by decide +kernel
theorem dX11_shifts_9 : decode cX11_shifts 9 = .ok (.aload_n 0, 1) := by decide +kernel
theorem dX11_shifts_10 : decode cX11_shifts 10 = .ok (.iload_n 1, 1) := by decide +kernel
theorem dX11_shifts_11 : decode cX11_shifts 11 = .ok (.iload_n 2, 1) := by decide +kernel
theorem dX11_shifts_12 : decode cX11_shifts 12 = .ok (.iadd, 1) := by decide +kernel
theorem dX11_shifts_13 : decode cX11_shifts 13 = .ok (.iaload, 1) := by decide +kernel
theorem dX11_shifts_14 : decode cX11_shifts 14 = .ok (.iastore, 1) := by decide +kernel
theorem dX11_shifts_15 : decode cX11_shifts 15 = .ok (.iinc 2 1, 3) := by decide +kernel
theorem dX11_shifts_18 : decode cX11_shifts 18 = .ok (.goto (-16), 3) := by decide +kernel
theorem dX11_shifts_21 : decode cX11_shifts 21 = .ok (.return_, 1) := by decide +kernel
theorem dX11_lays_0 : decode cX11_lays 0 = .ok (.aload_n 0, 1) := by decide +kernel
theorem dX11_lays_1 : decode cX11_lays 1 = .ok (.getfield 13, 3) := by decide +kernel
theorem dX11_lays_4 : decode cX11_lays 4 = .ok (.iconst 4, 1) := by decide +kernel
theorem dX11_lays_5 : decode cX11_lays 5 = .ok (.invokestatic 297, 3) := by decide +kernel
theorem dX11_lays_8 : decode cX11_lays 8 = .ok (.iconst 0, 1) := by decide +kernel
theorem dX11_lays_9 : decode cX11_lays 9 = .ok (.istore_n 1, 1) := by decide +kernel
theorem dX11_lays_10 : decode cX11_lays 10 = .ok (.iload_n 1, 1) := by decide +kernel
theorem dX11_lays_11 : decode cX11_lays 11 = .ok (.bipush 6, 2) := by decide +kernel
theorem dX11_lays_13 : decode cX11_lays 13 = .ok (.if_icmp .ge 24, 3) := by decide +kernel
theorem dX11_lays_16 : decode cX11_lays 16 = .ok (.aload_n 0, 1) := by decide +kernel
theorem dX11_lays_17 : decode cX11_lays 17 = .ok (.getfield 16, 3) := by decide +kernel
theorem dX11_lays_20 : decode cX11_lays 20 = .ok (.iload_n 1, 1) := by decide +kernel
theorem dX11_lays_21 : decode cX11_lays 21 = .ok (.aload_n 0, 1) := by decide +kernel
theorem dX11_lays_22 : decode cX11_lays 22 = .ok (.getfield 16, 3) := by decide +kernel
theorem dX11_lays_25 : decode cX11_lays 25 = .ok (.bipush 6, 2) := by decide +kernel
theorem dX11_lays_27 : decode cX11_lays 27 = .ok (.iload_n 1, 1) := by decide +kernel
theorem dX11_lays_28 : decode cX11_lays 28 = .ok (.iadd, 1) := by decide +kernel
theorem dX11_lays_29 : decode cX11_lays 29 = .ok (.laload, 1) := by decide +kernel
theorem dX11_lays_30 : decode cX11_lays 30 = .ok (.lastore, 1) := by decide +kernel
theorem dX11_lays_31 : decode cX11_lays 31 = .ok (.iinc 1 1, 3) := by decide +kernel
theorem dX11_lays_34 : decode cX11_lays 34 = .ok (.goto (-24), 3) := by decide +kernel
theorem dX11_lays_37 : decode cX11_lays 37 = .ok (.aload_n 0, 1) := by decide +kernel
theorem dX11_lays_38 : decode cX11_lays 38 = .ok (.getfield 20, 3) := by decide +kernel
theorem dX11_lays_41 : decode cX11_lays 41 = .ok (.bipush 6, 2) := by decide +kernel
theorem dX11_lays_43 : decode cX11_lays 43 = .ok (.invokestatic 297, 3) := by decide +kernel
theorem dX11_lays_46 : decode cX11_lays 46 = .ok (.aload_n 0, 1) := by decide +kernel
theorem dX11_lays_47 : decode cX11_lays 47 = .ok (.getfield 23, 3) := by decide +kernel
theorem dX11_lays_50 : decode cX11_lays 50 = .ok (.bipush 6, 2) := by decide +kernel
theorem dX11_lays_52 : decode cX11_lays 52 = .ok (.invokestatic 297, 3) := by decide +kernel
theorem dX11_lays_55 : decode cX11_lays 55 = .ok (.aload_n 0, 1) := by decide +kernel
theorem dX11_lays_56 : decode cX11_lays 56 = .ok (.getfield 26, 3) := by decide +kernel
theorem dX11_lays_59 : decode cX11_lays 59 = .ok (.bipush 6, 2) := by decide +kernel
theorem dX11_lays_61 : decode cX11_lays 61 = .ok (.invokestatic 297, 3) := by decide +kernel
theorem dX11_lays_64 : decode cX11_lays 64 = .ok (.aload_n 0, 1) := by decide +kernel
theorem dX11_lays_65 : decode cX11_lays 65 = .ok (.getfield 35, 3) := by decide +kernel
theorem dX11_lays_68 : decode cX11_lays 68 = .ok (.sipush 1000, 3) := by decide +kernel
theorem dX11_lays_71 : decode cX11_lays 71 = .ok (.invokestatic 297, 3) := by decide +kernel
theorem dX11_lays_74 : decode cX11_lays 74 = .ok (.aload_n 0, 1) := by decide +kernel
theorem dX11_lays_75 : decode cX11_lays 75 = .ok (.getfield 29, 3) := by decide +kernel
theorem dX11_lays_78 : decode cX11_lays 78 = .ok (.iconst 0, 1) := by decide +kernel
theorem dX11_lays_79 : decode cX11_lays 79 = .ok (.aload_n 0, 1) := by decide +kernel
theorem dX11_lays_80 : decode cX11_lays 80 = .ok (.getfield 29, 3) := by decide +kernel
theorem dX11_lays_83 : decode cX11_lays 83 = .ok (.iconst 1, 1) := by decide +kernel
theorem dX11_lays_84 : decode cX11_lays 84 = .ok (.iaload, 1) := by decide +kernel
theorem dX11_lays_85 : decode cX11_lays 85 = .ok (.sipush 1000, 3) := by decide +kernel
theorem dX11_lays_88 : decode cX11_lays 88 = .ok (.isub, 1) := by decide +kernel
theorem dX11_lays_89 : decode cX11_lays 89 = .ok (.iastore, 1) := by decide +kernel
theorem dX11_lays_90 : decode cX11_lays 90 = .ok (.aload_n 0, 1) := by decide +kernel
theorem dX11_lays_91 : decode cX11_lays 91 = .ok (.getfield 32, 3) := by decide +kernel
theorem dX11_lays_94 : decode cX11_lays 94 = .ok (.iconst 0, 1) := by decide +kernel
theorem dX11_lays_95 : decode cX11_lays 95 = .ok (.aload_n 0, 1) := by decide +kernel
theorem dX11_lays_96 : decode cX11_lays 96 = .ok (.getfield 32, 3) := by decide +kernel
theorem dX11_lays_99 : decode cX11_lays 99 = .ok (.iconst 1, 1) := by decide +kernel
theorem dX11_lays_100 : decode cX11_lays 100 = .ok (.iaload, 1) := by decide +kernel
theorem dX11_lays_101 : decode cX11_lays 101 = .ok (.sipush 1000, 3) := by decide +kernel
theorem dX11_lays_104 : decode cX11_lays 104 = .ok (.isub, 1) := by decide +kernel
theorem dX11_lays_105 : decode cX11_lays 105 = .ok (.iastore, 1) := by decide +kernel
theorem dX11_lays_106 : decode cX11_lays 106 = .ok (.return_, 1) := by decide +kernel
theorem dX11_copies_0 : decode cX11_copies 0 = .ok (.iconst 0, 1) := by decide +kernel
theorem dX11_copies_1 : decode cX11_copies 1 = .ok (.istore 4, 2) := by decide +kernel
theorem dX11_copies_3 : decode cX11_copies 3 = .ok (.iload 4, 2) := by decide +kernel
theorem dX11_copies_5 : decode cX11_copies 5 = .ok (.bipush 22, 2) := by decide +kernel
theorem dX11_copies_7 : decode cX11_copies 7 = .ok (.if_icmp .ge 21, 3) := by decide +kernel
theorem dX11_copies_10 : decode cX11_copies 10 = .ok (.aload_n 2, 1) := by decide +kernel
theorem dX11_copies_11 : decode cX11_copies 11 = .ok (.iload_n 3, 1) := by decide +kernel
theorem dX11_copies_12 : decode cX11_copies 12 = .ok (.iload 4, 2) := by decide +kernel
theorem dX11_copies_14 : decode cX11_copies 14 = .ok (.iadd, 1) := by decide +kernel
theorem dX11_copies_15 : decode cX11_copies 15 = .ok (.aload_n 0, 1) := by decide +kernel
theorem dX11_copies_16 : decode cX11_copies 16 = .ok (.iload_n 1, 1) := by decide +kernel
theorem dX11_copies_17 : decode cX11_copies 17 = .ok (.iload 4, 2) := by decide +kernel
theorem dX11_copies_19 : decode cX11_copies 19 = .ok (.iadd, 1) := by decide +kernel
theorem dX11_copies_20 : decode cX11_copies 20 = .ok (.iaload, 1) := by decide +kernel
theorem dX11_copies_21 : decode cX11_copies 21 = .ok (.iastore, 1) := by decide +kernel
theorem dX11_copies_22 : decode cX11_copies 22 = .ok (.iinc 4 1, 3) := by decide +kernel
theorem dX11_copies_25 : decode cX11_copies 25 = .ok (.goto (-22), 3) := by decide +kernel
theorem dX11_copies_28 : decode cX11_copies 28 = .ok (.return_, 1) := by decide +kernel
theorem dX11_readsLine_0 : decode cX11_readsLine 0 = .ok (.aload_n 0, 1) := by decide +kernel
theorem dX11_readsLine_1 : decode cX11_readsLine 1 = .ok (.ldc2_w 236, 3) := by decide +kernel
theorem dX11_readsLine_4 : decode cX11_readsLine 4 = .ok (.invokevirtual 192, 3) := by decide +kernel
theorem dX11_readsLine_7 : decode cX11_readsLine 7 = .ok (.ifCond .eq 7, 3) := by decide +kernel
theorem dX11_readsLine_10 : decode cX11_readsLine 10 = .ok (.iconst 0, 1) := by decide +kernel
theorem dX11_readsLine_11 : decode cX11_readsLine 11 = .ok (.goto 60, 3) := by decide +kernel
theorem dX11_readsLine_14 : decode cX11_readsLine 14 = .ok (.aload_n 0, 1) := by decide +kernel
theorem dX11_readsLine_15 : decode cX11_readsLine 15 = .ok (.ldc2_w 238, 3) := by decide +kernel
theorem dX11_readsLine_18 : decode cX11_readsLine 18 = .ok (.invokevirtual 192, 3) := by decide +kernel
theorem dX11_readsLine_21 : decode cX11_readsLine 21 = .ok (.ifCond .eq 7, 3) := by decide +kernel
theorem dX11_readsLine_24 : decode cX11_readsLine 24 = .ok (.iconst 1, 1) := by decide +kernel
theorem dX11_readsLine_25 : decode cX11_readsLine 25 = .ok (.goto 46, 3) := by decide +kernel
theorem dX11_readsLine_28 : decode cX11_readsLine 28 = .ok (.aload_n 0, 1) := by decide +kernel
theorem dX11_readsLine_29 : decode cX11_readsLine 29 = .ok (.ldc2_w 240, 3) := by decide +kernel
theorem dX11_readsLine_32 : decode cX11_readsLine 32 = .ok (.invokevirtual 192, 3) := by decide +kernel
theorem dX11_readsLine_35 : decode cX11_readsLine 35 = .ok (.ifCond .eq 7, 3) := by decide +kernel
theorem dX11_readsLine_38 : decode cX11_readsLine 38 = .ok (.iconst 2, 1) := by decide +kernel
theorem dX11_readsLine_39 : decode cX11_readsLine 39 = .ok (.goto 32, 3) := by decide +kernel
theorem dX11_readsLine_42 : decode cX11_readsLine 42 = .ok (.aload_n 0, 1) := by decide +kernel
theorem dX11_readsLine_43 : decode cX11_readsLine 43 = .ok (.ldc2_w 242, 3) := by decide +kernel
theorem dX11_readsLine_46 : decode cX11_readsLine 46 = .ok (.invokevirtual 192, 3) := by decide +kernel
theorem dX11_readsLine_49 : decode cX11_readsLine 49 = .ok (.ifCond .eq 7, 3) := by decide +kernel
theorem dX11_readsLine_52 : decode cX11_readsLine 52 = .ok (.iconst 3, 1) := by decide +kernel
theorem dX11_readsLine_53 : decode cX11_readsLine 53 = .ok (.goto 18, 3) := by decide +kernel
theorem dX11_readsLine_56 : decode cX11_readsLine 56 = .ok (.aload_n 0, 1) := by decide +kernel
theorem dX11_readsLine_57 : decode cX11_readsLine 57 = .ok (.ldc2_w 244, 3) := by decide +kernel
theorem dX11_readsLine_60 : decode cX11_readsLine 60 = .ok (.invokevirtual 192, 3) := by decide +kernel
theorem dX11_readsLine_63 : decode cX11_readsLine 63 = .ok (.ifCond .eq 7, 3) := by decide +kernel
theorem dX11_readsLine_66 : decode cX11_readsLine 66 = .ok (.iconst 4, 1) := by decide +kernel
theorem dX11_readsLine_67 : decode cX11_readsLine 67 = .ok (.goto 4, 3) := by decide +kernel
theorem dX11_readsLine_70 : decode cX11_readsLine 70 = .ok (.iconst (-1), 1) := by decide +kernel
theorem dX11_readsLine_71 : decode cX11_readsLine 71 = .ok (.istore_n 1, 1) := by decide +kernel
theorem dX11_readsLine_72 : decode cX11_readsLine 72 = .ok (.iload_n 1, 1) := by decide +kernel
theorem dX11_readsLine_73 : decode cX11_readsLine 73 = .ok (.ifCond .ge 9, 3) := by decide +kernel
theorem dX11_readsLine_76 : decode cX11_readsLine 76 = .ok (.aload_n 0, 1) := by decide +kernel
theorem dX11_readsLine_77 : decode cX11_readsLine 77 = .ok (.iconst 1, 1) := by decide +kernel
theorem dX11_readsLine_78 : decode cX11_readsLine 78 = .ok (.invokevirtual 200, 3) := by decide +kernel
theorem dX11_readsLine_81 : decode cX11_readsLine 81 = .ok (.ireturn, 1) := by decide +kernel
theorem dX11_readsLine_82 : decode cX11_readsLine 82 = .ok (.aload_n 0, 1) := by decide +kernel
theorem dX11_readsLine_83 : decode cX11_readsLine 83 = .ok (.getfield 75, 3) := by decide +kernel
theorem dX11_readsLine_86 : decode cX11_readsLine 86 = .ok (.iconst 5, 1) := by decide +kernel
theorem dX11_readsLine_87 : decode cX11_readsLine 87 = .ok (.iaload, 1) := by decide +kernel
theorem dX11_readsLine_88 : decode cX11_readsLine 88 = .ok (.bipush 40, 2) := by decide +kernel
theorem dX11_readsLine_90 : decode cX11_readsLine 90 = .ok (.if_icmp .ne 9, 3) := by decide +kernel
theorem dX11_readsLine_93 : decode cX11_readsLine 93 = .ok (.aload_n 0, 1) := by decide +kernel
theorem dX11_readsLine_94 : decode cX11_readsLine 94 = .ok (.iconst 5, 1) := by decide +kernel
theorem dX11_readsLine_95 : decode cX11_readsLine 95 = .ok (.invokevirtual 200, 3) := by decide +kernel
theorem dX11_readsLine_98 : decode cX11_readsLine 98 = .ok (.ireturn, 1) := by decide +kernel
theorem dX11_readsLine_99 : decode cX11_readsLine 99 = .ok (.aload_n 0, 1) := by decide +kernel
theorem dX11_readsLine_100 : decode cX11_readsLine 100 = .ok (.invokevirtual 206, 3) := by decide +kernel
theorem dX11_readsLine_103 : decode cX11_readsLine 103 = .ok (.sipush 200, 3) := by decide +kernel
theorem dX11_readsLine_106 : decode cX11_readsLine 106 = .ok (.aload_n 0, 1) := by decide +kernel
theorem dX11_readsLine_107 : decode cX11_readsLine 107 = .ok (.getfield 75, 3) := by decide +kernel
theorem dX11_readsLine_110 : decode cX11_readsLine 110 = .ok (.iconst 5, 1) := by decide +kernel
theorem dX11_readsLine_111 : decode cX11_readsLine 111 = .ok (.iaload, 1) := by decide +kernel
theorem dX11_readsLine_112 : decode cX11_readsLine 112 = .ok (.iadd, 1) := by decide +kernel
theorem dX11_readsLine_113 : decode cX11_readsLine 113 = .ok (.istore_n 2, 1) := by decide +kernel
theorem dX11_readsLine_114 : decode cX11_readsLine 114 = .ok (.aload_n 0, 1) := by decide +kernel
theorem dX11_readsLine_115 : decode cX11_readsLine 115 = .ok (.getfield 78, 3) := by decide +kernel
theorem dX11_readsLine_118 : decode cX11_readsLine 118 = .ok (.iload_n 2, 1) := by decide +kernel
theorem dX11_readsLine_119 : decode cX11_readsLine 119 = .ok (.iload_n 1, 1) := by decide +kernel
theorem dX11_readsLine_120 : decode cX11_readsLine 120 = .ok (.iastore, 1) := by decide +kernel
theorem dX11_readsLine_121 : decode cX11_readsLine 121 = .ok (.iload_n 1, 1) := by decide +kernel
theorem dX11_readsLine_122 : decode cX11_readsLine 122 = .ok (.iconst 2, 1) := by decide +kernel
theorem dX11_readsLine_123 : decode cX11_readsLine 123 = .ok (.if_icmp .ge 49, 3) := by decide +kernel
theorem dX11_readsLine_126 : decode cX11_readsLine 126 = .ok (.aload_n 0, 1) := by decide +kernel
theorem dX11_readsLine_127 : decode cX11_readsLine 127 = .ok (.invokevirtual 265, 3) := by decide +kernel
theorem dX11_readsLine_130 : decode cX11_readsLine 130 = .ok (.ifCond .eq 9, 3) := by decide +kernel
theorem dX11_readsLine_133 : decode cX11_readsLine 133 = .ok (.aload_n 0, 1) := by decide +kernel
theorem dX11_readsLine_134 : decode cX11_readsLine 134 = .ok (.iconst 1, 1) := by decide +kernel
theorem dX11_readsLine_135 : decode cX11_readsLine 135 = .ok (.invokevirtual 200, 3) := by decide +kernel
theorem dX11_readsLine_138 : decode cX11_readsLine 138 = .ok (.ireturn, 1) := by decide +kernel
theorem dX11_readsLine_139 : decode cX11_readsLine 139 = .ok (.aload_n 0, 1) := by decide +kernel
theorem dX11_readsLine_140 : decode cX11_readsLine 140 = .ok (.getfield 81, 3) := by decide +kernel
theorem dX11_readsLine_143 : decode cX11_readsLine 143 = .ok (.iload_n 2, 1) := by decide +kernel
theorem dX11_readsLine_144 : decode cX11_readsLine 144 = .ok (.aload_n 0, 1) := by decide +kernel
theorem dX11_readsLine_145 : decode cX11_readsLine 145 = .ok (.iconst 0, 1) := by decide +kernel
theorem dX11_readsLine_146 : decode cX11_readsLine 146 = .ok (.invokevirtual 269, 3) := by decide +kernel
theorem dX11_readsLine_149 : decode cX11_readsLine 149 = .ok (.iastore, 1) := by decide +kernel
theorem dX11_readsLine_150 : decode cX11_readsLine 150 = .ok (.aload_n 0, 1) := by decide +kernel
theorem dX11_readsLine_151 : decode cX11_readsLine 151 = .ok (.getfield 81, 3) := by decide +kernel
theorem dX11_readsLine_154 : decode cX11_readsLine 154 = .ok (.iload_n 2, 1) := by decide +kernel
theorem dX11_readsLine_155 : decode cX11_readsLine 155 = .ok (.iaload, 1) := by decide +kernel
theorem dX11_readsLine_156 : decode cX11_readsLine 156 = .ok (.ifCond .ge 9, 3) := by decide +kernel
theorem dX11_readsLine_159 : decode cX11_readsLine 159 = .ok (.aload_n 0, 1) := by decide +kernel
theorem dX11_readsLine_160 : decode cX11_readsLine 160 = .ok (.iconst 2, 1) := by decide +kernel
theorem dX11_readsLine_161 : decode cX11_readsLine 161 = .ok (.invokevirtual 200, 3) := by decide +kernel
theorem dX11_readsLine_164 : decode cX11_readsLine 164 = .ok (.ireturn, 1) := by decide +kernel
theorem dX11_readsLine_165 : decode cX11_readsLine 165 = .ok (.aload_n 0, 1) := by decide +kernel
theorem dX11_readsLine_166 : decode cX11_readsLine 166 = .ok (.invokevirtual 206, 3) := by decide +kernel
theorem dX11_readsLine_169 : decode cX11_readsLine 169 = .ok (.goto 30, 3) := by decide +kernel
theorem dX11_readsLine_172 : decode cX11_readsLine 172 = .ok (.iload_n 1, 1) := by decide +kernel
theorem dX11_readsLine_173 : decode cX11_readsLine 173 = .ok (.iconst 2, 1) := by decide +kernel
theorem dX11_readsLine_174 : decode cX11_readsLine 174 = .ok (.if_icmp .ne 25, 3) := by decide +kernel
theorem dX11_readsLine_177 : decode cX11_readsLine 177 = .ok (.aload_n 0, 1) := by decide +kernel
theorem dX11_readsLine_178 : decode cX11_readsLine 178 = .ok (.iconst 1, 1) := by decide +kernel
theorem dX11_readsLine_179 : decode cX11_readsLine 179 = .ok (.bipush 20, 2) := by decide +kernel
theorem dX11_readsLine_181 : decode cX11_readsLine 181 = .ok (.invokevirtual 261, 3) := by decide +kernel
theorem dX11_readsLine_184 : decode cX11_readsLine 184 = .ok (.ifCond .ne 5, 3) := by decide +kernel
theorem dX11_readsLine_187 : decode cX11_readsLine 187 = .ok (.iconst 0, 1) := by decide +kernel
theorem dX11_readsLine_188 : decode cX11_readsLine 188 = .ok (.ireturn, 1) := by decide +kernel
theorem dX11_readsLine_189 : decode cX11_readsLine 189 = .ok (.aload_n 0, 1) := by decide +kernel
theorem dX11_readsLine_190 : decode cX11_readsLine 190 = .ok (.getfield 81, 3) := by decide +kernel
theorem dX11_readsLine_193 : decode cX11_readsLine 193 = .ok (.iload_n 2, 1) := by decide +kernel
theorem dX11_readsLine_194 : decode cX11_readsLine 194 = .ok (.aload_n 0, 1) := by decide +kernel
theorem dX11_readsLine_195 : decode cX11_readsLine 195 = .ok (.getfield 258, 3) := by decide +kernel
theorem dX11_readsLine_198 : decode cX11_readsLine 198 = .ok (.iastore, 1) := by decide +kernel
theorem dX11_readsLine_199 : decode cX11_readsLine 199 = .ok (.aload_n 0, 1) := by decide +kernel
theorem dX11_readsLine_200 : decode cX11_readsLine 200 = .ok (.getfield 75, 3) := by decide +kernel
theorem dX11_readsLine_203 : decode cX11_readsLine 203 = .ok (.iconst 5, 1) := by decide +kernel
theorem dX11_readsLine_204 : decode cX11_readsLine 204 = .ok (.dup2, 1) := by decide +kernel
theorem dX11_readsLine_205 : decode cX11_readsLine 205 = .ok (.iaload, 1) := by decide +kernel
theorem dX11_readsLine_206 : decode cX11_readsLine 206 = .ok (.iconst 1, 1) := by decide +kernel
theorem dX11_readsLine_207 : decode cX11_readsLine 207 = .ok (.iadd, 1) := by decide +kernel
theorem dX11_readsLine_208 : decode cX11_readsLine 208 = .ok (.iastore, 1) := by decide +kernel
theorem dX11_readsLine_209 : decode cX11_readsLine 209 = .ok (.aload_n 0, 1) := by decide +kernel
theorem dX11_readsLine_210 : decode cX11_readsLine 210 = .ok (.invokevirtual 276, 3) := by decide +kernel
theorem dX11_readsLine_213 : decode cX11_readsLine 213 = .ok (.ireturn, 1) := by decide +kernel
theorem dX11_laysLines_0 : decode cX11_laysLines 0 = .ok (.aload_n 0, 1) := by decide +kernel
theorem dX11_laysLines_1 : decode cX11_laysLines 1 = .ok (.getfield 75, 3) := by decide +kernel
theorem dX11_laysLines_4 : decode cX11_laysLines 4 = .ok (.iload_n 2, 1) := by decide +kernel
theorem dX11_laysLines_5 : decode cX11_laysLines 5 = .ok (.aload_n 0, 1) := by decide +kernel
theorem dX11_laysLines_6 : decode cX11_laysLines 6 = .ok (.getfield 75, 3) := by decide +kernel
theorem dX11_laysLines_9 : decode cX11_laysLines 9 = .ok (.iload_n 1, 1) := by decide +kernel
theorem dX11_laysLines_10 : decode cX11_laysLines 10 = .ok (.iaload, 1) := by decide +kernel
theorem dX11_laysLines_11 : decode cX11_laysLines 11 = .ok (.iastore, 1) := by decide +kernel
theorem dX11_laysLines_12 : decode cX11_laysLines 12 = .ok (.iconst 0, 1) := by decide +kernel
theorem dX11_laysLines_13 : decode cX11_laysLines 13 = .ok (.istore_n 3, 1) := by decide +kernel
theorem dX11_laysLines_14 : decode cX11_laysLines 14 = .ok (.iload_n 3, 1) := by decide +kernel
theorem dX11_laysLines_15 : decode cX11_laysLines 15 = .ok (.bipush 40, 2) := by decide +kernel
theorem dX11_laysLines_17 : decode cX11_laysLines 17 = .ok (.if_icmp .ge 53, 3) := by decide +kernel
theorem dX11_laysLines_20 : decode cX11_laysLines 20 = .ok (.aload_n 0, 1) := by decide +kernel
theorem dX11_laysLines_21 : decode cX11_laysLines 21 = .ok (.getfield 78, 3) := by decide +kernel
theorem dX11_laysLines_24 : decode cX11_laysLines 24 = .ok (.bipush 40, 2) := by decide +kernel
theorem dX11_laysLines_26 : decode cX11_laysLines 26 = .ok (.iload_n 2, 1) := by decide +kernel
theorem dX11_laysLines_27 : decode cX11_laysLines 27 = .ok (.imul, 1) := by decide +kernel
theorem dX11_laysLines_28 : decode cX11_laysLines 28 = .ok (.iload_n 3, 1) := by decide +kernel
theorem dX11_laysLines_29 : decode cX11_laysLines 29 = .ok (.iadd, 1) := by decide +kernel
theorem dX11_laysLines_30 : decode cX11_laysLines 30 = .ok (.aload_n 0, 1) := by decide +kernel
theorem dX11_laysLines_31 : decode cX11_laysLines 31 = .ok (.getfield 78, 3) := by decide +kernel
theorem dX11_laysLines_34 : decode cX11_laysLines 34 = .ok (.bipush 40, 2) := by decide +kernel
theorem dX11_laysLines_36 : decode cX11_laysLines 36 = .ok (.iload_n 1, 1) := by decide +kernel
theorem dX11_laysLines_37 : decode cX11_laysLines 37 = .ok (.imul, 1) := by decide +kernel
theorem dX11_laysLines_38 : decode cX11_laysLines 38 = .ok (.iload_n 3, 1) := by decide +kernel
theorem dX11_laysLines_39 : decode cX11_laysLines 39 = .ok (.iadd, 1) := by decide +kernel
theorem dX11_laysLines_40 : decode cX11_laysLines 40 = .ok (.iaload, 1) := by decide +kernel
theorem dX11_laysLines_41 : decode cX11_laysLines 41 = .ok (.iastore, 1) := by decide +kernel
theorem dX11_laysLines_42 : decode cX11_laysLines 42 = .ok (.aload_n 0, 1) := by decide +kernel
theorem dX11_laysLines_43 : decode cX11_laysLines 43 = .ok (.getfield 81, 3) := by decide +kernel
theorem dX11_laysLines_46 : decode cX11_laysLines 46 = .ok (.bipush 40, 2) := by decide +kernel
theorem dX11_laysLines_48 : decode cX11_laysLines 48 = .ok (.iload_n 2, 1) := by decide +kernel
theorem dX11_laysLines_49 : decode cX11_laysLines 49 = .ok (.imul, 1) := by decide +kernel
theorem dX11_laysLines_50 : decode cX11_laysLines 50 = .ok (.iload_n 3, 1) := by decide +kernel
theorem dX11_laysLines_51 : decode cX11_laysLines 51 = .ok (.iadd, 1) := by decide +kernel
theorem dX11_laysLines_52 : decode cX11_laysLines 52 = .ok (.aload_n 0, 1) := by decide +kernel
theorem dX11_laysLines_53 : decode cX11_laysLines 53 = .ok (.getfield 81, 3) := by decide +kernel
theorem dX11_laysLines_56 : decode cX11_laysLines 56 = .ok (.bipush 40, 2) := by decide +kernel
theorem dX11_laysLines_58 : decode cX11_laysLines 58 = .ok (.iload_n 1, 1) := by decide +kernel
theorem dX11_laysLines_59 : decode cX11_laysLines 59 = .ok (.imul, 1) := by decide +kernel
theorem dX11_laysLines_60 : decode cX11_laysLines 60 = .ok (.iload_n 3, 1) := by decide +kernel
theorem dX11_laysLines_61 : decode cX11_laysLines 61 = .ok (.iadd, 1) := by decide +kernel
theorem dX11_laysLines_62 : decode cX11_laysLines 62 = .ok (.iaload, 1) := by decide +kernel
theorem dX11_laysLines_63 : decode cX11_laysLines 63 = .ok (.iastore, 1) := by decide +kernel
theorem dX11_laysLines_64 : decode cX11_laysLines 64 = .ok (.iinc 3 1, 3) := by decide +kernel
theorem dX11_laysLines_67 : decode cX11_laysLines 67 = .ok (.goto (-53), 3) := by decide +kernel
theorem dX11_laysLines_70 : decode cX11_laysLines 70 = .ok (.return_, 1) := by decide +kernel
theorem dX11_laysSaid_0 : decode cX11_laysSaid 0 = .ok (.aload_n 0, 1) := by decide +kernel
theorem dX11_laysSaid_1 : decode cX11_laysSaid 1 = .ok (.getfield 84, 3) := by decide +kernel
theorem dX11_laysSaid_4 : decode cX11_laysSaid 4 = .ok (.iload_n 2, 1) := by decide +kernel
theorem dX11_laysSaid_5 : decode cX11_laysSaid 5 = .ok (.aload_n 0, 1) := by decide +kernel
theorem dX11_laysSaid_6 : decode cX11_laysSaid 6 = .ok (.getfield 84, 3) := by decide +kernel
theorem dX11_laysSaid_9 : decode cX11_laysSaid 9 = .ok (.iload_n 1, 1) := by decide +kernel
theorem dX11_laysSaid_10 : decode cX11_laysSaid 10 = .ok (.iaload, 1) := by decide +kernel
theorem dX11_laysSaid_11 : decode cX11_laysSaid 11 = .ok (.iastore, 1) := by decide +kernel
theorem dX11_laysSaid_12 : decode cX11_laysSaid 12 = .ok (.iconst 0, 1) := by decide +kernel
theorem dX11_laysSaid_13 : decode cX11_laysSaid 13 = .ok (.istore_n 3, 1) := by decide +kernel
theorem dX11_laysSaid_14 : decode cX11_laysSaid 14 = .ok (.iload_n 3, 1) := by decide +kernel
theorem dX11_laysSaid_15 : decode cX11_laysSaid 15 = .ok (.bipush 8, 2) := by decide +kernel
theorem dX11_laysSaid_17 : decode cX11_laysSaid 17 = .ok (.if_icmp .ge 53, 3) := by decide +kernel
theorem dX11_laysSaid_20 : decode cX11_laysSaid 20 = .ok (.aload_n 0, 1) := by decide +kernel
theorem dX11_laysSaid_21 : decode cX11_laysSaid 21 = .ok (.getfield 87, 3) := by decide +kernel
theorem dX11_laysSaid_24 : decode cX11_laysSaid 24 = .ok (.bipush 8, 2) := by decide +kernel
theorem dX11_laysSaid_26 : decode cX11_laysSaid 26 = .ok (.iload_n 2, 1) := by decide +kernel
theorem dX11_laysSaid_27 : decode cX11_laysSaid 27 = .ok (.imul, 1) := by decide +kernel
theorem dX11_laysSaid_28 : decode cX11_laysSaid 28 = .ok (.iload_n 3, 1) := by decide +kernel
theorem dX11_laysSaid_29 : decode cX11_laysSaid 29 = .ok (.iadd, 1) := by decide +kernel
theorem dX11_laysSaid_30 : decode cX11_laysSaid 30 = .ok (.aload_n 0, 1) := by decide +kernel
theorem dX11_laysSaid_31 : decode cX11_laysSaid 31 = .ok (.getfield 87, 3) := by decide +kernel
theorem dX11_laysSaid_34 : decode cX11_laysSaid 34 = .ok (.bipush 8, 2) := by decide +kernel
theorem dX11_laysSaid_36 : decode cX11_laysSaid 36 = .ok (.iload_n 1, 1) := by decide +kernel
theorem dX11_laysSaid_37 : decode cX11_laysSaid 37 = .ok (.imul, 1) := by decide +kernel
theorem dX11_laysSaid_38 : decode cX11_laysSaid 38 = .ok (.iload_n 3, 1) := by decide +kernel
theorem dX11_laysSaid_39 : decode cX11_laysSaid 39 = .ok (.iadd, 1) := by decide +kernel
theorem dX11_laysSaid_40 : decode cX11_laysSaid 40 = .ok (.iaload, 1) := by decide +kernel
theorem dX11_laysSaid_41 : decode cX11_laysSaid 41 = .ok (.iastore, 1) := by decide +kernel
theorem dX11_laysSaid_42 : decode cX11_laysSaid 42 = .ok (.aload_n 0, 1) := by decide +kernel
theorem dX11_laysSaid_43 : decode cX11_laysSaid 43 = .ok (.getfield 90, 3) := by decide +kernel
theorem dX11_laysSaid_46 : decode cX11_laysSaid 46 = .ok (.bipush 8, 2) := by decide +kernel
theorem dX11_laysSaid_48 : decode cX11_laysSaid 48 = .ok (.iload_n 2, 1) := by decide +kernel
theorem dX11_laysSaid_49 : decode cX11_laysSaid 49 = .ok (.imul, 1) := by decide +kernel
theorem dX11_laysSaid_50 : decode cX11_laysSaid 50 = .ok (.iload_n 3, 1) := by decide +kernel
theorem dX11_laysSaid_51 : decode cX11_laysSaid 51 = .ok (.iadd, 1) := by decide +kernel
theorem dX11_laysSaid_52 : decode cX11_laysSaid 52 = .ok (.aload_n 0, 1) := by decide +kernel
theorem dX11_laysSaid_53 : decode cX11_laysSaid 53 = .ok (.getfield 90, 3) := by decide +kernel
theorem dX11_laysSaid_56 : decode cX11_laysSaid 56 = .ok (.bipush 8, 2) := by decide +kernel
theorem dX11_laysSaid_58 : decode cX11_laysSaid 58 = .ok (.iload_n 1, 1) := by decide +kernel
theorem dX11_laysSaid_59 : decode cX11_laysSaid 59 = .ok (.imul, 1) := by decide +kernel
theorem dX11_laysSaid_60 : decode cX11_laysSaid 60 = .ok (.iload_n 3, 1) := by decide +kernel
theorem dX11_laysSaid_61 : decode cX11_laysSaid 61 = .ok (.iadd, 1) := by decide +kernel
theorem dX11_laysSaid_62 : decode cX11_laysSaid 62 = .ok (.baload, 1) := by decide +kernel
theorem dX11_laysSaid_63 : decode cX11_laysSaid 63 = .ok (.bastore, 1) := by decide +kernel
theorem dX11_laysSaid_64 : decode cX11_laysSaid 64 = .ok (.iinc 3 1, 3) := by decide +kernel
theorem dX11_laysSaid_67 : decode cX11_laysSaid 67 = .ok (.goto (-53), 3) := by decide +kernel
theorem dX11_laysSaid_70 : decode cX11_laysSaid 70 = .ok (.return_, 1) := by decide +kernel
theorem dX11_fresh0_0 : decode cX11_fresh0 0 = .ok (.iconst 0, 1) := by decide +kernel
theorem dX11_fresh0_1 : decode cX11_fresh0 1 = .ok (.istore_n 1, 1) := by decide +kernel
theorem dX11_fresh0_2 : decode cX11_fresh0 2 = .ok (.iload_n 1, 1) := by decide +kernel
theorem dX11_fresh0_3 : decode cX11_fresh0 3 = .ok (.bipush 22, 2) := by decide +kernel
theorem dX11_fresh0_5 : decode cX11_fresh0 5 = .ok (.if_icmp .ge 16, 3) := by decide +kernel
theorem dX11_fresh0_8 : decode cX11_fresh0 8 = .ok (.aload_n 0, 1) := by decide +kernel
theorem dX11_fresh0_9 : decode cX11_fresh0 9 = .ok (.getfield 93, 3) := by decide +kernel
theorem dX11_fresh0_12 : decode cX11_fresh0 12 = .ok (.iload_n 1, 1) := by decide +kernel
theorem dX11_fresh0_13 : decode cX11_fresh0 13 = .ok (.iconst 0, 1) := by decide +kernel
theorem dX11_fresh0_14 : decode cX11_fresh0 14 = .ok (.iastore, 1) := by decide +kernel
theorem dX11_fresh0_15 : decode cX11_fresh0 15 = .ok (.iinc 1 1, 3) := by decide +kernel
theorem dX11_fresh0_18 : decode cX11_fresh0 18 = .ok (.goto (-16), 3) := by decide +kernel
theorem dX11_fresh0_21 : decode cX11_fresh0 21 = .ok (.aload_n 0, 1) := by decide +kernel
theorem dX11_fresh0_22 : decode cX11_fresh0 22 = .ok (.getfield 93, 3) := by decide +kernel
theorem dX11_fresh0_25 : decode cX11_fresh0 25 = .ok (.iconst 0, 1) := by decide +kernel
theorem dX11_fresh0_26 : decode cX11_fresh0 26 = .ok (.aload_n 0, 1) := by decide +kernel
theorem dX11_fresh0_27 : decode cX11_fresh0 27 = .ok (.getfield 13, 3) := by decide +kernel
theorem dX11_fresh0_30 : decode cX11_fresh0 30 = .ok (.iconst 1, 1) := by decide +kernel
theorem dX11_fresh0_31 : decode cX11_fresh0 31 = .ok (.iaload, 1) := by decide +kernel
theorem dX11_fresh0_32 : decode cX11_fresh0 32 = .ok (.iastore, 1) := by decide +kernel
theorem dX11_fresh0_33 : decode cX11_fresh0 33 = .ok (.return_, 1) := by decide +kernel
theorem dX11_realm_0 : decode cX11_realm 0 = .ok (.aload_n 0, 1) := by decide +kernel
theorem dX11_realm_1 : decode cX11_realm 1 = .ok (.iconst 0, 1) := by decide +kernel
theorem dX11_realm_2 : decode cX11_realm 2 = .ok (.putfield 137, 3) := by decide +kernel
theorem dX11_realm_5 : decode cX11_realm 5 = .ok (.aload_n 0, 1) := by decide +kernel
theorem dX11_realm_6 : decode cX11_realm 6 = .ok (.invokevirtual 301, 3) := by decide +kernel
theorem dX11_realm_9 : decode cX11_realm 9 = .ok (.ifCond .ne 8, 3) := by decide +kernel
theorem dX11_realm_12 : decode cX11_realm 12 = .ok (.aload_n 0, 1) := by decide +kernel
theorem dX11_realm_13 : decode cX11_realm 13 = .ok (.getfield 172, 3) := by decide +kernel
theorem dX11_realm_16 : decode cX11_realm 16 = .ok (.ireturn, 1) := by decide +kernel
theorem dX11_realm_17 : decode cX11_realm 17 = .ok (.aload_n 0, 1) := by decide +kernel
theorem dX11_realm_18 : decode cX11_realm 18 = .ok (.invokevirtual 304, 3) := by decide +kernel
theorem dX11_realm_21 : decode cX11_realm 21 = .ok (.aload_n 0, 1) := by decide +kernel
theorem dX11_realm_22 : decode cX11_realm 22 = .ok (.invokevirtual 134, 3) := by decide +kernel
theorem dX11_realm_25 : decode cX11_realm 25 = .ok (.aload_n 0, 1) := by decide +kernel
theorem dX11_realm_26 : decode cX11_realm 26 = .ok (.getfield 75, 3) := by decide +kernel
theorem dX11_realm_29 : decode cX11_realm 29 = .ok (.iconst 0, 1) := by decide +kernel
theorem dX11_realm_30 : decode cX11_realm 30 = .ok (.iconst 0, 1) := by decide +kernel
theorem dX11_realm_31 : decode cX11_realm 31 = .ok (.iastore, 1) := by decide +kernel
theorem dX11_realm_32 : decode cX11_realm 32 = .ok (.aload_n 0, 1) := by decide +kernel
theorem dX11_realm_33 : decode cX11_realm 33 = .ok (.getfield 84, 3) := by decide +kernel
theorem dX11_realm_36 : decode cX11_realm 36 = .ok (.iconst 0, 1) := by decide +kernel
theorem dX11_realm_37 : decode cX11_realm 37 = .ok (.iconst 0, 1) := by decide +kernel
theorem dX11_realm_38 : decode cX11_realm 38 = .ok (.iastore, 1) := by decide +kernel
theorem dX11_realm_39 : decode cX11_realm 39 = .ok (.aload_n 0, 1) := by decide +kernel
theorem dX11_realm_40 : decode cX11_realm 40 = .ok (.iconst 0, 1) := by decide +kernel
theorem dX11_realm_41 : decode cX11_realm 41 = .ok (.putfield 307, 3) := by decide +kernel
theorem dX11_realm_44 : decode cX11_realm 44 = .ok (.iconst 0, 1) := by decide +kernel
theorem dX11_realm_45 : decode cX11_realm 45 = .ok (.istore_n 1, 1) := by decide +kernel
theorem dX11_realm_46 : decode cX11_realm 46 = .ok (.iload_n 1, 1) := by decide +kernel
theorem dX11_realm_47 : decode cX11_realm 47 = .ok (.iconst 4, 1) := by decide +kernel
theorem dX11_realm_48 : decode cX11_realm 48 = .ok (.if_icmp .ge 16, 3) := by decide +kernel
theorem dX11_realm_51 : decode cX11_realm 51 = .ok (.aload_n 0, 1) := by decide +kernel
theorem dX11_realm_52 : decode cX11_realm 52 = .ok (.getfield 108, 3) := by decide +kernel
theorem dX11_realm_55 : decode cX11_realm 55 = .ok (.iload_n 1, 1) := by decide +kernel
theorem dX11_realm_56 : decode cX11_realm 56 = .ok (.iconst 0, 1) := by decide +kernel
theorem dX11_realm_57 : decode cX11_realm 57 = .ok (.bastore, 1) := by decide +kernel
theorem dX11_realm_58 : decode cX11_realm 58 = .ok (.iinc 1 1, 3) := by decide +kernel
theorem dX11_realm_61 : decode cX11_realm 61 = .ok (.goto (-15), 3) := by decide +kernel
theorem dX11_realm_64 : decode cX11_realm 64 = .ok (.iconst 0, 1) := by decide +kernel
theorem dX11_realm_65 : decode cX11_realm 65 = .ok (.ireturn, 1) := by decide +kernel
theorem dX11_reign_0 : decode cX11_reign 0 = .ok (.aload_n 0, 1) := by decide +kernel
theorem dX11_reign_1 : decode cX11_reign 1 = .ok (.iconst 0, 1) := by decide +kernel
theorem dX11_reign_2 : decode cX11_reign 2 = .ok (.putfield 137, 3) := by decide +kernel
theorem dX11_reign_5 : decode cX11_reign 5 = .ok (.aload_n 0, 1) := by decide +kernel
theorem dX11_reign_6 : decode cX11_reign 6 = .ok (.getfield 75, 3) := by decide +kernel
theorem dX11_reign_9 : decode cX11_reign 9 = .ok (.iconst 5, 1) := by decide +kernel
theorem dX11_reign_10 : decode cX11_reign 10 = .ok (.iconst 0, 1) := by decide +kernel
theorem dX11_reign_11 : decode cX11_reign 11 = .ok (.iastore, 1) := by decide +kernel
theorem dX11_reign_12 : decode cX11_reign 12 = .ok (.aload_n 0, 1) := by decide +kernel
theorem dX11_reign_13 : decode cX11_reign 13 = .ok (.invokevirtual 285, 3) := by decide +kernel
theorem dX11_reign_16 : decode cX11_reign 16 = .ok (.aload_n 0, 1) := by decide +kernel
theorem dX11_reign_17 : decode cX11_reign 17 = .ok (.getfield 161, 3) := by decide +kernel
theorem dX11_reign_20 : decode cX11_reign 20 = .ok (.ifCond .eq 15, 3) := by decide +kernel
theorem dX11_reign_23 : decode cX11_reign 23 = .ok (.aload_n 0, 1) := by decide +kernel
theorem dX11_reign_24 : decode cX11_reign 24 = .ok (.invokevirtual 310, 3) := by decide +kernel
theorem dX11_reign_27 : decode cX11_reign 27 = .ok (.ifCond .ne (-11), 3) := by decide +kernel
theorem dX11_reign_30 : decode cX11_reign 30 = .ok (.aload_n 0, 1) := by decide +kernel
theorem dX11_reign_31 : decode cX11_reign 31 = .ok (.getfield 172, 3) := by decide +kernel
theorem dX11_reign_34 : decode cX11_reign 34 = .ok (.ireturn, 1) := by decide +kernel
theorem dX11_reign_35 : decode cX11_reign 35 = .ok (.aload_n 0, 1) := by decide +kernel
theorem dX11_reign_36 : decode cX11_reign 36 = .ok (.iconst 5, 1) := by decide +kernel
theorem dX11_reign_37 : decode cX11_reign 37 = .ok (.iconst 0, 1) := by decide +kernel
theorem dX11_reign_38 : decode cX11_reign 38 = .ok (.invokevirtual 313, 3) := by decide +kernel
theorem dX11_reign_41 : decode cX11_reign 41 = .ok (.iconst 0, 1) := by decide +kernel
theorem dX11_reign_42 : decode cX11_reign 42 = .ok (.ireturn, 1) := by decide +kernel
theorem dX11_isPerson_0 : decode cX11_isPerson 0 = .ok (.iload_n 1, 1) := by decide +kernel
theorem dX11_isPerson_1 : decode cX11_isPerson 1 = .ok (.ifCond .lt 17, 3) := by decide +kernel
theorem dX11_isPerson_4 : decode cX11_isPerson 4 = .ok (.iload_n 1, 1) := by decide +kernel
theorem dX11_isPerson_5 : decode cX11_isPerson 5 = .ok (.aload_n 0, 1) := by decide +kernel
theorem dX11_isPerson_6 : decode cX11_isPerson 6 = .ok (.getfield 13, 3) := by decide +kernel
theorem dX11_isPerson_9 : decode cX11_isPerson 9 = .ok (.iconst 0, 1) := by decide +kernel
theorem dX11_isPerson_10 : decode cX11_isPerson 10 = .ok (.iaload, 1) := by decide +kernel
theorem dX11_isPerson_11 : decode cX11_isPerson 11 = .ok (.if_icmp .ge 7, 3) := by decide +kernel
theorem dX11_isPerson_14 : decode cX11_isPerson 14 = .ok (.iconst 1, 1) := by decide +kernel
theorem dX11_isPerson_15 : decode cX11_isPerson 15 = .ok (.goto 4, 3) := by decide +kernel
theorem dX11_isPerson_18 : decode cX11_isPerson 18 = .ok (.iconst 0, 1) := by decide +kernel
theorem dX11_isPerson_19 : decode cX11_isPerson 19 = .ok (.ireturn, 1) := by decide +kernel
theorem dX11_isLeap_0 : decode cX11_isLeap 0 = .ok (.iload_n 0, 1) := by decide +kernel
theorem dX11_isLeap_1 : decode cX11_isLeap 1 = .ok (.iconst 4, 1) := by decide +kernel
theorem dX11_isLeap_2 : decode cX11_isLeap 2 = .ok (.irem, 1) := by decide +kernel
theorem dX11_isLeap_3 : decode cX11_isLeap 3 = .ok (.ifCond .ne 22, 3) := by decide +kernel
theorem dX11_isLeap_6 : decode cX11_isLeap 6 = .ok (.iload_n 0, 1) := by decide +kernel
theorem dX11_isLeap_7 : decode cX11_isLeap 7 = .ok (.bipush 100, 2) := by decide +kernel
theorem dX11_isLeap_9 : decode cX11_isLeap 9 = .ok (.irem, 1) := by decide +kernel
theorem dX11_isLeap_10 : decode cX11_isLeap 10 = .ok (.ifCond .ne 11, 3) := by decide +kernel
theorem dX11_isLeap_13 : decode cX11_isLeap 13 = .ok (.iload_n 0, 1) := by decide +kernel
theorem dX11_isLeap_14 : decode cX11_isLeap 14 = .ok (.sipush 400, 3) := by decide +kernel
theorem dX11_isLeap_17 : decode cX11_isLeap 17 = .ok (.irem, 1) := by decide +kernel
theorem dX11_isLeap_18 : decode cX11_isLeap 18 = .ok (.ifCond .ne 7, 3) := by decide +kernel
theorem dX11_isLeap_21 : decode cX11_isLeap 21 = .ok (.iconst 1, 1) := by decide +kernel
theorem dX11_isLeap_22 : decode cX11_isLeap 22 = .ok (.goto 4, 3) := by decide +kernel
theorem dX11_isLeap_25 : decode cX11_isLeap 25 = .ok (.iconst 0, 1) := by decide +kernel
theorem dX11_isLeap_26 : decode cX11_isLeap 26 = .ok (.ireturn, 1) := by decide +kernel
theorem dX11_leapsUpTo_0 : decode cX11_leapsUpTo 0 = .ok (.iload_n 0, 1) := by decide +kernel
theorem dX11_leapsUpTo_1 : decode cX11_leapsUpTo 1 = .ok (.iconst 4, 1) := by decide +kernel
theorem dX11_leapsUpTo_2 : decode cX11_leapsUpTo 2 = .ok (.idiv, 1) := by decide +kernel
theorem dX11_leapsUpTo_3 : decode cX11_leapsUpTo 3 = .ok (.iload_n 0, 1) := by decide +kernel
theorem dX11_leapsUpTo_4 : decode cX11_leapsUpTo 4 = .ok (.bipush 100, 2) := by decide +kernel
theorem dX11_leapsUpTo_6 : decode cX11_leapsUpTo 6 = .ok (.idiv, 1) := by decide +kernel
theorem dX11_leapsUpTo_7 : decode cX11_leapsUpTo 7 = .ok (.isub, 1) := by decide +kernel
theorem dX11_leapsUpTo_8 : decode cX11_leapsUpTo 8 = .ok (.iload_n 0, 1) := by decide +kernel
theorem dX11_leapsUpTo_9 : decode cX11_leapsUpTo 9 = .ok (.sipush 400, 3) := by decide +kernel
theorem dX11_leapsUpTo_12 : decode cX11_leapsUpTo 12 = .ok (.idiv, 1) := by decide +kernel
theorem dX11_leapsUpTo_13 : decode cX11_leapsUpTo 13 = .ok (.iadd, 1) := by decide +kernel
theorem dX11_leapsUpTo_14 : decode cX11_leapsUpTo 14 = .ok (.ireturn, 1) := by decide +kernel
theorem dX11_hasDay_0 : decode cX11_hasDay 0 = .ok (.aload_n 0, 1) := by decide +kernel
theorem dX11_hasDay_1 : decode cX11_hasDay 1 = .ok (.getfield 317, 3) := by decide +kernel
theorem dX11_hasDay_4 : decode cX11_hasDay 4 = .ok (.ifCond .eq 17, 3) := by decide +kernel
theorem dX11_hasDay_7 : decode cX11_hasDay 7 = .ok (.iload_n 1, 1) := by decide +kernel
theorem dX11_hasDay_8 : decode cX11_hasDay 8 = .ok (.iconst 4, 1) := by decide +kernel
theorem dX11_hasDay_9 : decode cX11_hasDay 9 = .ok (.irem, 1) := by decide +kernel
theorem dX11_hasDay_10 : decode cX11_hasDay 10 = .ok (.ifCond .ne 7, 3) := by decide +kernel
theorem dX11_hasDay_13 : decode cX11_hasDay 13 = .ok (.iconst 1, 1) := by decide +kernel
theorem dX11_hasDay_14 : decode cX11_hasDay 14 = .ok (.goto 11, 3) := by decide +kernel
theorem dX11_hasDay_17 : decode cX11_hasDay 17 = .ok (.iconst 0, 1) := by decide +kernel
theorem dX11_hasDay_18 : decode cX11_hasDay 18 = .ok (.goto 7, 3) := by decide +kernel
theorem dX11_hasDay_21 : decode cX11_hasDay 21 = .ok (.iload_n 1, 1) := by decide +kernel
theorem dX11_hasDay_22 : decode cX11_hasDay 22 = .ok (.invokestatic 321, 3) := by decide +kernel
theorem dX11_hasDay_25 : decode cX11_hasDay 25 = .ok (.ireturn, 1) := by decide +kernel
theorem dX11_placeOf_0 : decode cX11_placeOf 0 = .ok (.iconst 0, 1) := by decide +kernel
theorem dX11_placeOf_1 : decode cX11_placeOf 1 = .ok (.istore_n 2, 1) := by decide +kernel
theorem dX11_placeOf_2 : decode cX11_placeOf 2 = .ok (.iload_n 2, 1) := by decide +kernel
theorem dX11_placeOf_3 : decode cX11_placeOf 3 = .ok (.aload_n 0, 1) := by decide +kernel
theorem dX11_placeOf_4 : decode cX11_placeOf 4 = .ok (.getfield 93, 3) := by decide +kernel
theorem dX11_placeOf_7 : decode cX11_placeOf 7 = .ok (.iconst 2, 1) := by decide +kernel
theorem dX11_placeOf_8 : decode cX11_placeOf 8 = .ok (.iaload, 1) := by decide +kernel
theorem dX11_placeOf_9 : decode cX11_placeOf 9 = .ok (.if_icmp .ge 23, 3) := by decide +kernel
theorem dX11_placeOf_12 : decode cX11_placeOf 12 = .ok (.aload_n 0, 1) := by decide +kernel
theorem dX11_placeOf_13 : decode cX11_placeOf 13 = .ok (.getfield 93, 3) := by decide +kernel
theorem dX11_placeOf_16 : decode cX11_placeOf 16 = .ok (.iconst 4, 1) := by decide +kernel
theorem dX11_placeOf_17 : decode cX11_placeOf 17 = .ok (.iload_n 2, 1) := by decide +kernel
theorem dX11_placeOf_18 : decode cX11_placeOf 18 = .ok (.iadd, 1) := by decide +kernel
theorem dX11_placeOf_19 : decode cX11_placeOf 19 = .ok (.iaload, 1) := by decide +kernel
theorem dX11_placeOf_20 : decode cX11_placeOf 20 = .ok (.iload_n 1, 1) := by decide +kernel
theorem dX11_placeOf_21 : decode cX11_placeOf 21 = .ok (.if_icmp .ne 5, 3) := by decide +kernel
theorem dX11_placeOf_24 : decode cX11_placeOf 24 = .ok (.iload_n 2, 1) := by decide +kernel
theorem dX11_placeOf_25 : decode cX11_placeOf 25 = .ok (.ireturn, 1) := by decide +kernel
theorem dX11_placeOf_26 : decode cX11_placeOf 26 = .ok (.iinc 2 1, 3) := by decide +kernel
theorem dX11_placeOf_29 : decode cX11_placeOf 29 = .ok (.goto (-27), 3) := by decide +kernel
theorem dX11_placeOf_32 : decode cX11_placeOf 32 = .ok (.iconst (-1), 1) := by decide +kernel
theorem dX11_placeOf_33 : decode cX11_placeOf 33 = .ok (.ireturn, 1) := by decide +kernel
theorem dX11_isHeard_0 : decode cX11_isHeard 0 = .ok (.aload_n 0, 1) := by decide +kernel
theorem dX11_isHeard_1 : decode cX11_isHeard 1 = .ok (.getfield 93, 3) := by decide +kernel
theorem dX11_isHeard_4 : decode cX11_isHeard 4 = .ok (.iconst 3, 1) := by decide +kernel
theorem dX11_isHeard_5 : decode cX11_isHeard 5 = .ok (.iaload, 1) := by decide +kernel
theorem dX11_isHeard_6 : decode cX11_isHeard 6 = .ok (.iload_n 1, 1) := by decide +kernel
theorem dX11_isHeard_7 : decode cX11_isHeard 7 = .ok (.ishr, 1) := by decide +kernel
theorem dX11_isHeard_8 : decode cX11_isHeard 8 = .ok (.iconst 1, 1) := by decide +kernel
theorem dX11_isHeard_9 : decode cX11_isHeard 9 = .ok (.iand, 1) := by decide +kernel
theorem dX11_isHeard_10 : decode cX11_isHeard 10 = .ok (.iconst 1, 1) := by decide +kernel
theorem dX11_isHeard_11 : decode cX11_isHeard 11 = .ok (.if_icmp .ne 7, 3) := by decide +kernel
theorem dX11_isHeard_14 : decode cX11_isHeard 14 = .ok (.iconst 1, 1) := by decide +kernel
theorem dX11_isHeard_15 : decode cX11_isHeard 15 = .ok (.goto 4, 3) := by decide +kernel
theorem dX11_isHeard_18 : decode cX11_isHeard 18 = .ok (.iconst 0, 1) := by decide +kernel
theorem dX11_isHeard_19 : decode cX11_isHeard 19 = .ok (.ireturn, 1) := by decide +kernel
theorem dX11_isDead_0 : decode cX11_isDead 0 = .ok (.aload_n 0, 1) := by decide +kernel
theorem dX11_isDead_1 : decode cX11_isDead 1 = .ok (.getfield 20, 3) := by decide +kernel
theorem dX11_isDead_4 : decode cX11_isDead 4 = .ok (.iload_n 1, 1) := by decide +kernel
theorem dX11_isDead_5 : decode cX11_isDead 5 = .ok (.iaload, 1) := by decide +kernel
theorem dX11_isDead_6 : decode cX11_isDead 6 = .ok (.iconst 2, 1) := by decide +kernel
theorem dX11_isDead_7 : decode cX11_isDead 7 = .ok (.if_icmp .eq 29, 3) := by decide +kernel
theorem dX11_isDead_10 : decode cX11_isDead 10 = .ok (.aload_n 0, 1) := by decide +kernel
theorem dX11_isDead_11 : decode cX11_isDead 11 = .ok (.getfield 93, 3) := by decide +kernel
theorem dX11_isDead_14 : decode cX11_isDead 14 = .ok (.iconst 0, 1) := by decide +kernel
theorem dX11_isDead_15 : decode cX11_isDead 15 = .ok (.iaload, 1) := by decide +kernel
theorem dX11_isDead_16 : decode cX11_isDead 16 = .ok (.aload_n 0, 1) := by decide +kernel
theorem dX11_isDead_17 : decode cX11_isDead 17 = .ok (.getfield 23, 3) := by decide +kernel
theorem dX11_isDead_20 : decode cX11_isDead 20 = .ok (.iload_n 1, 1) := by decide +kernel
theorem dX11_isDead_21 : decode cX11_isDead 21 = .ok (.iaload, 1) := by decide +kernel
theorem dX11_isDead_22 : decode cX11_isDead 22 = .ok (.aload_n 0, 1) := by decide +kernel
theorem dX11_isDead_23 : decode cX11_isDead 23 = .ok (.getfield 13, 3) := by decide +kernel
theorem dX11_isDead_26 : decode cX11_isDead 26 = .ok (.iconst 3, 1) := by decide +kernel
theorem dX11_isDead_27 : decode cX11_isDead 27 = .ok (.iaload, 1) := by decide +kernel
theorem dX11_isDead_28 : decode cX11_isDead 28 = .ok (.iadd, 1) := by decide +kernel
theorem dX11_isDead_29 : decode cX11_isDead 29 = .ok (.if_icmp .lt 7, 3) := by decide +kernel
theorem dX11_isDead_32 : decode cX11_isDead 32 = .ok (.iconst 1, 1) := by decide +kernel
theorem dX11_isDead_33 : decode cX11_isDead 33 = .ok (.goto 4, 3) := by decide +kernel
theorem dX11_isDead_36 : decode cX11_isDead 36 = .ok (.iconst 0, 1) := by decide +kernel
theorem dX11_isDead_37 : decode cX11_isDead 37 = .ok (.ireturn, 1) := by decide +kernel
theorem dX11_canCome_0 : decode cX11_canCome 0 = .ok (.aload_n 0, 1) := by decide +kernel
theorem dX11_canCome_1 : decode cX11_canCome 1 = .ok (.iload_n 1, 1) := by decide +kernel
theorem dX11_canCome_2 : decode cX11_canCome 2 = .ok (.invokevirtual 324, 3) := by decide +kernel
theorem dX11_canCome_5 : decode cX11_canCome 5 = .ok (.ifCond .ge 38, 3) := by decide +kernel
theorem dX11_canCome_8 : decode cX11_canCome 8 = .ok (.aload_n 0, 1) := by decide +kernel
theorem dX11_canCome_9 : decode cX11_canCome 9 = .ok (.iload_n 1, 1) := by decide +kernel
theorem dX11_canCome_10 : decode cX11_canCome 10 = .ok (.invokevirtual 327, 3) := by decide +kernel
theorem dX11_canCome_13 : decode cX11_canCome 13 = .ok (.ifCond .ne 30, 3) := by decide +kernel
theorem dX11_canCome_16 : decode cX11_canCome 16 = .ok (.aload_n 0, 1) := by decide +kernel
theorem dX11_canCome_17 : decode cX11_canCome 17 = .ok (.iload_n 1, 1) := by decide +kernel
theorem dX11_canCome_18 : decode cX11_canCome 18 = .ok (.invokevirtual 330, 3) := by decide +kernel
theorem dX11_canCome_21 : decode cX11_canCome 21 = .ok (.ifCond .ne 22, 3) := by decide +kernel
theorem dX11_canCome_24 : decode cX11_canCome 24 = .ok (.aload_n 0, 1) := by decide +kernel
theorem dX11_canCome_25 : decode cX11_canCome 25 = .ok (.getfield 23, 3) := by decide +kernel
theorem dX11_canCome_28 : decode cX11_canCome 28 = .ok (.iload_n 1, 1) := by decide +kernel
theorem dX11_canCome_29 : decode cX11_canCome 29 = .ok (.iaload, 1) := by decide +kernel
theorem dX11_canCome_30 : decode cX11_canCome 30 = .ok (.aload_n 0, 1) := by decide +kernel
theorem dX11_canCome_31 : decode cX11_canCome 31 = .ok (.getfield 93, 3) := by decide +kernel
theorem dX11_canCome_34 : decode cX11_canCome 34 = .ok (.iconst 0, 1) := by decide +kernel
theorem dX11_canCome_35 : decode cX11_canCome 35 = .ok (.iaload, 1) := by decide +kernel
theorem dX11_canCome_36 : decode cX11_canCome 36 = .ok (.if_icmp .gt 7, 3) := by decide +kernel
theorem dX11_canCome_39 : decode cX11_canCome 39 = .ok (.iconst 1, 1) := by decide +kernel
theorem dX11_canCome_40 : decode cX11_canCome 40 = .ok (.goto 4, 3) := by decide +kernel
theorem dX11_canCome_43 : decode cX11_canCome 43 = .ok (.iconst 0, 1) := by decide +kernel
theorem dX11_canCome_44 : decode cX11_canCome 44 = .ok (.ireturn, 1) := by decide +kernel
theorem dX11_comes_0 : decode cX11_comes 0 = .ok (.aload_n 0, 1) := by decide +kernel
theorem dX11_comes_1 : decode cX11_comes 1 = .ok (.getfield 93, 3) := by decide +kernel
theorem dX11_comes_4 : decode cX11_comes 4 = .ok (.iconst 4, 1) := by decide +kernel
theorem dX11_comes_5 : decode cX11_comes 5 = .ok (.aload_n 0, 1) := by decide +kernel
theorem dX11_comes_6 : decode cX11_comes 6 = .ok (.getfield 93, 3) := by decide +kernel
theorem dX11_comes_9 : decode cX11_comes 9 = .ok (.iconst 2, 1) := by decide +kernel
theorem dX11_comes_10 : decode cX11_comes 10 = .ok (.iaload, 1) := by decide +kernel
theorem dX11_comes_11 : decode cX11_comes 11 = .ok (.iadd, 1) := by decide +kernel
theorem dX11_comes_12 : decode cX11_comes 12 = .ok (.iload_n 1, 1) := by decide +kernel
theorem dX11_comes_13 : decode cX11_comes 13 = .ok (.iastore, 1) := by decide +kernel
theorem dX11_comes_14 : decode cX11_comes 14 = .ok (.aload_n 0, 1) := by decide +kernel
theorem dX11_comes_15 : decode cX11_comes 15 = .ok (.getfield 93, 3) := by decide +kernel
theorem dX11_comes_18 : decode cX11_comes 18 = .ok (.bipush 10, 2) := by decide +kernel
theorem dX11_comes_20 : decode cX11_comes 20 = .ok (.iload_n 1, 1) := by decide +kernel
theorem dX11_comes_21 : decode cX11_comes 21 = .ok (.iadd, 1) := by decide +kernel
theorem dX11_comes_22 : decode cX11_comes 22 = .ok (.aload_n 0, 1) := by decide +kernel
theorem dX11_comes_23 : decode cX11_comes 23 = .ok (.getfield 93, 3) := by decide +kernel
theorem dX11_comes_26 : decode cX11_comes 26 = .ok (.iconst 0, 1) := by decide +kernel
theorem dX11_comes_27 : decode cX11_comes 27 = .ok (.iaload, 1) := by decide +kernel
theorem dX11_comes_28 : decode cX11_comes 28 = .ok (.iastore, 1) := by decide +kernel
theorem dX11_comes_29 : decode cX11_comes 29 = .ok (.aload_n 0, 1) := by decide +kernel
theorem dX11_comes_30 : decode cX11_comes 30 = .ok (.getfield 93, 3) := by decide +kernel
theorem dX11_comes_33 : decode cX11_comes 33 = .ok (.bipush 16, 2) := by decide +kernel
theorem dX11_comes_35 : decode cX11_comes 35 = .ok (.iload_n 1, 1) := by decide +kernel
theorem dX11_comes_36 : decode cX11_comes 36 = .ok (.iadd, 1) := by decide +kernel
theorem dX11_comes_37 : decode cX11_comes 37 = .ok (.iconst 0, 1) := by decide +kernel
theorem dX11_comes_38 : decode cX11_comes 38 = .ok (.iastore, 1) := by decide +kernel
theorem dX11_comes_39 : decode cX11_comes 39 = .ok (.aload_n 0, 1) := by decide +kernel
theorem dX11_comes_40 : decode cX11_comes 40 = .ok (.getfield 93, 3) := by decide +kernel
theorem dX11_comes_43 : decode cX11_comes 43 = .ok (.iconst 2, 1) := by decide +kernel
theorem dX11_comes_44 : decode cX11_comes 44 = .ok (.dup2, 1) := by decide +kernel
theorem dX11_comes_45 : decode cX11_comes 45 = .ok (.iaload, 1) := by decide +kernel
theorem dX11_comes_46 : decode cX11_comes 46 = .ok (.iconst 1, 1) := by decide +kernel
theorem dX11_comes_47 : decode cX11_comes 47 = .ok (.iadd, 1) := by decide +kernel
theorem dX11_comes_48 : decode cX11_comes 48 = .ok (.iastore, 1) := by decide +kernel
theorem dX11_comes_49 : decode cX11_comes 49 = .ok (.return_, 1) := by decide +kernel
theorem dX11_leaves_0 : decode cX11_leaves 0 = .ok (.aload_n 0, 1) := by decide +kernel
theorem dX11_leaves_1 : decode cX11_leaves 1 = .ok (.iload_n 1, 1) := by decide +kernel
theorem dX11_leaves_2 : decode cX11_leaves 2 = .ok (.invokevirtual 324, 3) := by decide +kernel
theorem dX11_leaves_5 : decode cX11_leaves 5 = .ok (.istore_n 2, 1) := by decide +kernel
theorem dX11_leaves_6 : decode cX11_leaves 6 = .ok (.iload_n 2, 1) := by decide +kernel
theorem dX11_leaves_7 : decode cX11_leaves 7 = .ok (.iconst 1, 1) := by decide +kernel
theorem dX11_leaves_8 : decode cX11_leaves 8 = .ok (.iadd, 1) := by decide +kernel
theorem dX11_leaves_9 : decode cX11_leaves 9 = .ok (.aload_n 0, 1) := by decide +kernel
theorem dX11_leaves_10 : decode cX11_leaves 10 = .ok (.getfield 93, 3) := by decide +kernel
theorem dX11_leaves_13 : decode cX11_leaves 13 = .ok (.iconst 2, 1) := by decide +kernel
theorem dX11_leaves_14 : decode cX11_leaves 14 = .ok (.iaload, 1) := by decide +kernel
theorem dX11_leaves_15 : decode cX11_leaves 15 = .ok (.if_icmp .ge 27, 3) := by decide +kernel
theorem dX11_leaves_18 : decode cX11_leaves 18 = .ok (.aload_n 0, 1) := by decide +kernel
theorem dX11_leaves_19 : decode cX11_leaves 19 = .ok (.getfield 93, 3) := by decide +kernel
theorem dX11_leaves_22 : decode cX11_leaves 22 = .ok (.iconst 4, 1) := by decide +kernel
theorem dX11_leaves_23 : decode cX11_leaves 23 = .ok (.iload_n 2, 1) := by decide +kernel
theorem dX11_leaves_24 : decode cX11_leaves 24 = .ok (.iadd, 1) := by decide +kernel
theorem dX11_leaves_25 : decode cX11_leaves 25 = .ok (.aload_n 0, 1) := by decide +kernel
theorem dX11_leaves_26 : decode cX11_leaves 26 = .ok (.getfield 93, 3) := by decide +kernel
theorem dX11_leaves_29 : decode cX11_leaves 29 = .ok (.iconst 4, 1) := by decide +kernel
theorem dX11_leaves_30 : decode cX11_leaves 30 = .ok (.iload_n 2, 1) := by decide +kernel
theorem dX11_leaves_31 : decode cX11_leaves 31 = .ok (.iadd, 1) := by decide +kernel
theorem dX11_leaves_32 : decode cX11_leaves 32 = .ok (.iconst 1, 1) := by decide +kernel
theorem dX11_leaves_33 : decode cX11_leaves 33 = .ok (.iadd, 1) := by decide +kernel
theorem dX11_leaves_34 : decode cX11_leaves 34 = .ok (.iaload, 1) := by decide +kernel
theorem dX11_leaves_35 : decode cX11_leaves 35 = .ok (.iastore, 1) := by decide +kernel
theorem dX11_leaves_36 : decode cX11_leaves 36 = .ok (.iinc 2 1, 3) := by decide +kernel
theorem dX11_leaves_39 : decode cX11_leaves 39 = .ok (.goto (-33), 3) := by decide +kernel
theorem dX11_leaves_42 : decode cX11_leaves 42 = .ok (.aload_n 0, 1) := by decide +kernel
theorem dX11_leaves_43 : decode cX11_leaves 43 = .ok (.getfield 93, 3) := by decide +kernel
theorem dX11_leaves_46 : decode cX11_leaves 46 = .ok (.iconst 2, 1) := by decide +kernel
theorem dX11_leaves_47 : decode cX11_leaves 47 = .ok (.dup2, 1) := by decide +kernel
theorem dX11_leaves_48 : decode cX11_leaves 48 = .ok (.iaload, 1) := by decide +kernel
theorem dX11_leaves_49 : decode cX11_leaves 49 = .ok (.iconst 1, 1) := by decide +kernel
theorem dX11_leaves_50 : decode cX11_leaves 50 = .ok (.isub, 1) := by decide +kernel
theorem dX11_leaves_51 : decode cX11_leaves 51 = .ok (.iastore, 1) := by decide +kernel
theorem dX11_leaves_52 : decode cX11_leaves 52 = .ok (.return_, 1) := by decide +kernel
theorem dX11_inQueue_0 : decode cX11_inQueue 0 = .ok (.iconst 0, 1) := by decide +kernel
theorem dX11_inQueue_1 : decode cX11_inQueue 1 = .ok (.istore_n 1, 1) := by decide +kernel
theorem dX11_inQueue_2 : decode cX11_inQueue 2 = .ok (.iconst 0, 1) := by decide +kernel
theorem dX11_inQueue_3 : decode cX11_inQueue 3 = .ok (.istore_n 2, 1) := by decide +kernel
theorem dX11_inQueue_4 : decode cX11_inQueue 4 = .ok (.iload_n 2, 1) := by decide +kernel
theorem dX11_inQueue_5 : decode cX11_inQueue 5 = .ok (.aload_n 0, 1) := by decide +kernel
theorem dX11_inQueue_6 : decode cX11_inQueue 6 = .ok (.getfield 93, 3) := by decide +kernel
theorem dX11_inQueue_9 : decode cX11_inQueue 9 = .ok (.iconst 2, 1) := by decide +kernel
theorem dX11_inQueue_10 : decode cX11_inQueue 10 = .ok (.iaload, 1) := by decide +kernel
theorem dX11_inQueue_11 : decode cX11_inQueue 11 = .ok (.if_icmp .ge 22, 3) := by decide +kernel
theorem dX11_inQueue_14 : decode cX11_inQueue 14 = .ok (.iload_n 1, 1) := by decide +kernel
theorem dX11_inQueue_15 : decode cX11_inQueue 15 = .ok (.iconst 1, 1) := by decide +kernel
theorem dX11_inQueue_16 : decode cX11_inQueue 16 = .ok (.aload_n 0, 1) := by decide +kernel
theorem dX11_inQueue_17 : decode cX11_inQueue 17 = .ok (.getfield 93, 3) := by decide +kernel
theorem dX11_inQueue_20 : decode cX11_inQueue 20 = .ok (.iconst 4, 1) := by decide +kernel
theorem dX11_inQueue_21 : decode cX11_inQueue 21 = .ok (.iload_n 2, 1) := by decide +kernel
theorem dX11_inQueue_22 : decode cX11_inQueue 22 = .ok (.iadd, 1) := by decide +kernel
theorem dX11_inQueue_23 : decode cX11_inQueue 23 = .ok (.iaload, 1) := by decide +kernel
theorem dX11_inQueue_24 : decode cX11_inQueue 24 = .ok (.ishl, 1) := by decide +kernel
theorem dX11_inQueue_25 : decode cX11_inQueue 25 = .ok (.ior, 1) := by decide +kernel
theorem dX11_inQueue_26 : decode cX11_inQueue 26 = .ok (.istore_n 1, 1) := by decide +kernel
theorem dX11_inQueue_27 : decode cX11_inQueue 27 = .ok (.iinc 2 1, 3) := by decide +kernel
theorem dX11_inQueue_30 : decode cX11_inQueue 30 = .ok (.goto (-26), 3) := by decide +kernel
theorem dX11_inQueue_33 : decode cX11_inQueue 33 = .ok (.iload_n 1, 1) := by decide +kernel
theorem dX11_inQueue_34 : decode cX11_inQueue 34 = .ok (.ireturn, 1) := by decide +kernel
theorem dX11_rankOf_0 : decode cX11_rankOf 0 = .ok (.aload_n 0, 1) := by decide +kernel
theorem dX11_rankOf_1 : decode cX11_rankOf 1 = .ok (.getfield 93, 3) := by decide +kernel
theorem dX11_rankOf_4 : decode cX11_rankOf 4 = .ok (.iconst 0, 1) := by decide +kernel
theorem dX11_rankOf_5 : decode cX11_rankOf 5 = .ok (.iaload, 1) := by decide +kernel
theorem dX11_rankOf_6 : decode cX11_rankOf 6 = .ok (.aload_n 0, 1) := by decide +kernel
theorem dX11_rankOf_7 : decode cX11_rankOf 7 = .ok (.getfield 93, 3) := by decide +kernel
theorem dX11_rankOf_10 : decode cX11_rankOf 10 = .ok (.bipush 10, 2) := by decide +kernel
theorem dX11_rankOf_12 : decode cX11_rankOf 12 = .ok (.iload_n 1, 1) := by decide +kernel
theorem dX11_rankOf_13 : decode cX11_rankOf 13 = .ok (.iadd, 1) := by decide +kernel
theorem dX11_rankOf_14 : decode cX11_rankOf 14 = .ok (.iaload, 1) := by decide +kernel
theorem dX11_rankOf_15 : decode cX11_rankOf 15 = .ok (.isub, 1) := by decide +kernel
theorem dX11_rankOf_16 : decode cX11_rankOf 16 = .ok (.istore_n 2, 1) := by decide +kernel
theorem dX11_rankOf_17 : decode cX11_rankOf 17 = .ok (.aload_n 0, 1) := by decide +kernel
theorem dX11_rankOf_18 : decode cX11_rankOf 18 = .ok (.getfield 32, 3) := by decide +kernel
theorem dX11_rankOf_21 : decode cX11_rankOf 21 = .ok (.iconst 0, 1) := by decide +kernel
theorem dX11_rankOf_22 : decode cX11_rankOf 22 = .ok (.iaload, 1) := by decide +kernel
theorem dX11_rankOf_23 : decode cX11_rankOf 23 = .ok (.aload_n 0, 1) := by decide +kernel
theorem dX11_rankOf_24 : decode cX11_rankOf 24 = .ok (.getfield 29, 3) := by decide +kernel
theorem dX11_rankOf_27 : decode cX11_rankOf 27 = .ok (.iconst 0, 1) := by decide +kernel
theorem dX11_rankOf_28 : decode cX11_rankOf 28 = .ok (.iaload, 1) := by decide +kernel
theorem dX11_rankOf_29 : decode cX11_rankOf 29 = .ok (.if_icmp .ne 5, 3) := by decide +kernel
theorem dX11_rankOf_32 : decode cX11_rankOf 32 = .ok (.iload_n 2, 1) := by decide +kernel
theorem dX11_rankOf_33 : decode cX11_rankOf 33 = .ok (.ireturn, 1) := by decide +kernel
theorem dX11_rankOf_34 : decode cX11_rankOf 34 = .ok (.aload_n 0, 1) := by decide +kernel
theorem dX11_rankOf_35 : decode cX11_rankOf 35 = .ok (.getfield 72, 3) := by decide +kernel
theorem dX11_rankOf_38 : decode cX11_rankOf 38 = .ok (.iconst 1, 1) := by decide +kernel
theorem dX11_rankOf_39 : decode cX11_rankOf 39 = .ok (.iload_n 2, 1) := by decide +kernel
theorem dX11_rankOf_40 : decode cX11_rankOf 40 = .ok (.iastore, 1) := by decide +kernel
theorem dX11_rankOf_41 : decode cX11_rankOf 41 = .ok (.aload_n 0, 1) := by decide +kernel
theorem dX11_rankOf_42 : decode cX11_rankOf 42 = .ok (.getfield 72, 3) := by decide +kernel
theorem dX11_rankOf_45 : decode cX11_rankOf 45 = .ok (.iconst 2, 1) := by decide +kernel
theorem dX11_rankOf_46 : decode cX11_rankOf 46 = .ok (.aload_n 0, 1) := by decide +kernel
theorem dX11_rankOf_47 : decode cX11_rankOf 47 = .ok (.getfield 26, 3) := by decide +kernel
theorem dX11_rankOf_50 : decode cX11_rankOf 50 = .ok (.iload_n 1, 1) := by decide +kernel
theorem dX11_rankOf_51 : decode cX11_rankOf 51 = .ok (.iaload, 1) := by decide +kernel
theorem dX11_rankOf_52 : decode cX11_rankOf 52 = .ok (.iastore, 1) := by decide +kernel
theorem dX11_rankOf_53 : decode cX11_rankOf 53 = .ok (.aload_n 0, 1) := by decide +kernel
theorem dX11_rankOf_54 : decode cX11_rankOf 54 = .ok (.getfield 72, 3) := by decide +kernel
theorem dX11_rankOf_57 : decode cX11_rankOf 57 = .ok (.iconst 3, 1) := by decide +kernel
theorem dX11_rankOf_58 : decode cX11_rankOf 58 = .ok (.aload_n 0, 1) := by decide +kernel
theorem dX11_rankOf_59 : decode cX11_rankOf 59 = .ok (.getfield 93, 3) := by decide +kernel
theorem dX11_rankOf_62 : decode cX11_rankOf 62 = .ok (.iconst 0, 1) := by decide +kernel
theorem dX11_rankOf_63 : decode cX11_rankOf 63 = .ok (.iaload, 1) := by decide +kernel
theorem dX11_rankOf_64 : decode cX11_rankOf 64 = .ok (.aload_n 0, 1) := by decide +kernel
theorem dX11_rankOf_65 : decode cX11_rankOf 65 = .ok (.getfield 23, 3) := by decide +kernel
theorem dX11_rankOf_68 : decode cX11_rankOf 68 = .ok (.iload_n 1, 1) := by decide +kernel
theorem dX11_rankOf_69 : decode cX11_rankOf 69 = .ok (.iaload, 1) := by decide +kernel
theorem dX11_rankOf_70 : decode cX11_rankOf 70 = .ok (.isub, 1) := by decide +kernel
theorem dX11_rankOf_71 : decode cX11_rankOf 71 = .ok (.iastore, 1) := by decide +kernel
theorem dX11_rankOf_72 : decode cX11_rankOf 72 = .ok (.aload_n 0, 1) := by decide +kernel
theorem dX11_rankOf_73 : decode cX11_rankOf 73 = .ok (.getfield 72, 3) := by decide +kernel
theorem dX11_rankOf_76 : decode cX11_rankOf 76 = .ok (.iconst 4, 1) := by decide +kernel
theorem dX11_rankOf_77 : decode cX11_rankOf 77 = .ok (.aload_n 0, 1) := by decide +kernel
theorem dX11_rankOf_78 : decode cX11_rankOf 78 = .ok (.getfield 93, 3) := by decide +kernel
theorem dX11_rankOf_81 : decode cX11_rankOf 81 = .ok (.bipush 16, 2) := by decide +kernel
theorem dX11_rankOf_83 : decode cX11_rankOf 83 = .ok (.iload_n 1, 1) := by decide +kernel
theorem dX11_rankOf_84 : decode cX11_rankOf 84 = .ok (.iadd, 1) := by decide +kernel
theorem dX11_rankOf_85 : decode cX11_rankOf 85 = .ok (.iaload, 1) := by decide +kernel
theorem dX11_rankOf_86 : decode cX11_rankOf 86 = .ok (.iastore, 1) := by decide +kernel
theorem dX11_rankOf_87 : decode cX11_rankOf 87 = .ok (.aload_n 0, 1) := by decide +kernel
theorem dX11_rankOf_88 : decode cX11_rankOf 88 = .ok (.iconst 0, 1) := by decide +kernel
theorem dX11_rankOf_89 : decode cX11_rankOf 89 = .ok (.invokevirtual 333, 3) := by decide +kernel
theorem dX11_rankOf_92 : decode cX11_rankOf 92 = .ok (.ireturn, 1) := by decide +kernel
theorem dX11_isAhead_0 : decode cX11_isAhead 0 = .ok (.aload_n 0, 1) := by decide +kernel
theorem dX11_isAhead_1 : decode cX11_isAhead 1 = .ok (.getfield 20, 3) := by decide +kernel
theorem dX11_isAhead_4 : decode cX11_isAhead 4 = .ok (.iload_n 1, 1) := by decide +kernel
theorem dX11_isAhead_5 : decode cX11_isAhead 5 = .ok (.iaload, 1) := by decide +kernel
theorem dX11_isAhead_6 : decode cX11_isAhead 6 = .ok (.iconst 1, 1) := by decide +kernel
theorem dX11_isAhead_7 : decode cX11_isAhead 7 = .ok (.if_icmp .ne 7, 3) := by decide +kernel
theorem dX11_isAhead_10 : decode cX11_isAhead 10 = .ok (.iconst 1, 1) := by decide +kernel
theorem dX11_isAhead_11 : decode cX11_isAhead 11 = .ok (.goto 4, 3) := by decide +kernel
theorem dX11_isAhead_14 : decode cX11_isAhead 14 = .ok (.iconst 0, 1) := by decide +kernel
theorem dX11_isAhead_15 : decode cX11_isAhead 15 = .ok (.aload_n 0, 1) := by decide +kernel
theorem dX11_isAhead_16 : decode cX11_isAhead 16 = .ok (.getfield 20, 3) := by decide +kernel
theorem dX11_isAhead_19 : decode cX11_isAhead 19 = .ok (.iload_n 2, 1) := by decide +kernel
theorem dX11_isAhead_20 : decode cX11_isAhead 20 = .ok (.iaload, 1) := by decide +kernel
theorem dX11_isAhead_21 : decode cX11_isAhead 21 = .ok (.iconst 1, 1) := by decide +kernel
theorem dX11_isAhead_22 : decode cX11_isAhead 22 = .ok (.if_icmp .ne 7, 3) := by decide +kernel
theorem dX11_isAhead_25 : decode cX11_isAhead 25 = .ok (.iconst 1, 1) := by decide +kernel
theorem dX11_isAhead_26 : decode cX11_isAhead 26 = .ok (.goto 4, 3) := by decide +kernel
theorem dX11_isAhead_29 : decode cX11_isAhead 29 = .ok (.iconst 0, 1) := by decide +kernel
theorem dX11_isAhead_30 : decode cX11_isAhead 30 = .ok (.if_icmp .eq 19, 3) := by decide +kernel
theorem dX11_isAhead_33 : decode cX11_isAhead 33 = .ok (.aload_n 0, 1) := by decide +kernel
theorem dX11_isAhead_34 : decode cX11_isAhead 34 = .ok (.getfield 20, 3) := by decide +kernel
theorem dX11_isAhead_37 : decode cX11_isAhead 37 = .ok (.iload_n 1, 1) := by decide +kernel
theorem dX11_isAhead_38 : decode cX11_isAhead 38 = .ok (.iaload, 1) := by decide +kernel
theorem dX11_isAhead_39 : decode cX11_isAhead 39 = .ok (.iconst 1, 1) := by decide +kernel
theorem dX11_isAhead_40 : decode cX11_isAhead 40 = .ok (.if_icmp .ne 7, 3) := by decide +kernel
theorem dX11_isAhead_43 : decode cX11_isAhead 43 = .ok (.iconst 1, 1) := by decide +kernel
theorem dX11_isAhead_44 : decode cX11_isAhead 44 = .ok (.goto 4, 3) := by decide +kernel
theorem dX11_isAhead_47 : decode cX11_isAhead 47 = .ok (.iconst 0, 1) := by decide +kernel
theorem dX11_isAhead_48 : decode cX11_isAhead 48 = .ok (.ireturn, 1) := by decide +kernel
theorem dX11_isAhead_49 : decode cX11_isAhead 49 = .ok (.aload_n 0, 1) := by decide +kernel
theorem dX11_isAhead_50 : decode cX11_isAhead 50 = .ok (.getfield 114, 3) := by decide +kernel
theorem dX11_isAhead_53 : decode cX11_isAhead 53 = .ok (.iload_n 1, 1) := by decide +kernel
theorem dX11_isAhead_54 : decode cX11_isAhead 54 = .ok (.iaload, 1) := by decide +kernel
theorem dX11_isAhead_55 : decode cX11_isAhead 55 = .ok (.aload_n 0, 1) := by decide +kernel
theorem dX11_isAhead_56 : decode cX11_isAhead 56 = .ok (.getfield 114, 3) := by decide +kernel
theorem dX11_isAhead_59 : decode cX11_isAhead 59 = .ok (.iload_n 2, 1) := by decide +kernel
theorem dX11_isAhead_60 : decode cX11_isAhead 60 = .ok (.iaload, 1) := by decide +kernel
theorem dX11_isAhead_61 : decode cX11_isAhead 61 = .ok (.if_icmp .le 7, 3) := by decide +kernel
theorem dX11_isAhead_64 : decode cX11_isAhead 64 = .ok (.iconst 1, 1) := by decide +kernel
theorem dX11_isAhead_65 : decode cX11_isAhead 65 = .ok (.goto 4, 3) := by decide +kernel
theorem dX11_isAhead_68 : decode cX11_isAhead 68 = .ok (.iconst 0, 1) := by decide +kernel
theorem dX11_isAhead_69 : decode cX11_isAhead 69 = .ok (.ireturn, 1) := by decide +kernel
theorem dX11_calls_0 : decode cX11_calls 0 = .ok (.iconst 0, 1) := by decide +kernel
theorem dX11_calls_1 : decode cX11_calls 1 = .ok (.istore_n 1, 1) := by decide +kernel
theorem dX11_calls_2 : decode cX11_calls 2 = .ok (.iload_n 1, 1) := by decide +kernel
theorem dX11_calls_3 : decode cX11_calls 3 = .ok (.aload_n 0, 1) := by decide +kernel
theorem dX11_calls_4 : decode cX11_calls 4 = .ok (.getfield 93, 3) := by decide +kernel
theorem dX11_calls_7 : decode cX11_calls 7 = .ok (.iconst 2, 1) := by decide +kernel
theorem dX11_calls_8 : decode cX11_calls 8 = .ok (.iaload, 1) := by decide +kernel
theorem dX11_calls_9 : decode cX11_calls 9 = .ok (.if_icmp .ge 78, 3) := by decide +kernel
theorem dX11_calls_12 : decode cX11_calls 12 = .ok (.aload_n 0, 1) := by decide +kernel
theorem dX11_calls_13 : decode cX11_calls 13 = .ok (.getfield 93, 3) := by decide +kernel
theorem dX11_calls_16 : decode cX11_calls 16 = .ok (.iconst 4, 1) := by decide +kernel
theorem dX11_calls_17 : decode cX11_calls 17 = .ok (.iload_n 1, 1) := by decide +kernel
theorem dX11_calls_18 : decode cX11_calls 18 = .ok (.iadd, 1) := by decide +kernel
theorem dX11_calls_19 : decode cX11_calls 19 = .ok (.iaload, 1) := by decide +kernel
theorem dX11_calls_20 : decode cX11_calls 20 = .ok (.istore_n 2, 1) := by decide +kernel
theorem dX11_calls_21 : decode cX11_calls 21 = .ok (.aload_n 0, 1) := by decide +kernel
theorem dX11_calls_22 : decode cX11_calls 22 = .ok (.getfield 114, 3) := by decide +kernel
theorem dX11_calls_25 : decode cX11_calls 25 = .ok (.iload_n 2, 1) := by decide +kernel
theorem dX11_calls_26 : decode cX11_calls 26 = .ok (.aload_n 0, 1) := by decide +kernel
theorem dX11_calls_27 : decode cX11_calls 27 = .ok (.iload_n 2, 1) := by decide +kernel
theorem dX11_calls_28 : decode cX11_calls 28 = .ok (.invokevirtual 336, 3) := by decide +kernel
theorem dX11_calls_31 : decode cX11_calls 31 = .ok (.iastore, 1) := by decide +kernel
theorem dX11_calls_32 : decode cX11_calls 32 = .ok (.iload_n 1, 1) := by decide +kernel
theorem dX11_calls_33 : decode cX11_calls 33 = .ok (.istore_n 3, 1) := by decide +kernel
theorem dX11_calls_34 : decode cX11_calls 34 = .ok (.iload_n 3, 1) := by decide +kernel
theorem dX11_calls_35 : decode cX11_calls 35 = .ok (.ifCond .le 39, 3) := by decide +kernel
theorem dX11_calls_38 : decode cX11_calls 38 = .ok (.aload_n 0, 1) := by decide +kernel
theorem dX11_calls_39 : decode cX11_calls 39 = .ok (.iload_n 2, 1) := by decide +kernel
theorem dX11_calls_40 : decode cX11_calls 40 = .ok (.aload_n 0, 1) := by decide +kernel
theorem dX11_calls_41 : decode cX11_calls 41 = .ok (.getfield 111, 3) := by decide +kernel
theorem dX11_calls_44 : decode cX11_calls 44 = .ok (.iload_n 3, 1) := by decide +kernel
theorem dX11_calls_45 : decode cX11_calls 45 = .ok (.iconst 1, 1) := by decide +kernel
theorem dX11_calls_46 : decode cX11_calls 46 = .ok (.isub, 1) := by decide +kernel
theorem dX11_calls_47 : decode cX11_calls 47 = .ok (.iaload, 1) := by decide +kernel
theorem dX11_calls_48 : decode cX11_calls 48 = .ok (.invokevirtual 339, 3) := by decide +kernel
theorem dX11_calls_51 : decode cX11_calls 51 = .ok (.ifCond .eq 23, 3) := by decide +kernel
theorem dX11_calls_54 : decode cX11_calls 54 = .ok (.aload_n 0, 1) := by decide +kernel
theorem dX11_calls_55 : decode cX11_calls 55 = .ok (.getfield 111, 3) := by decide +kernel
theorem dX11_calls_58 : decode cX11_calls 58 = .ok (.iload_n 3, 1) := by decide +kernel
theorem dX11_calls_59 : decode cX11_calls 59 = .ok (.aload_n 0, 1) := by decide +kernel
theorem dX11_calls_60 : decode cX11_calls 60 = .ok (.getfield 111, 3) := by decide +kernel
theorem dX11_calls_63 : decode cX11_calls 63 = .ok (.iload_n 3, 1) := by decide +kernel
theorem dX11_calls_64 : decode cX11_calls 64 = .ok (.iconst 1, 1) := by decide +kernel
theorem dX11_calls_65 : decode cX11_calls 65 = .ok (.isub, 1) := by decide +kernel
theorem dX11_calls_66 : decode cX11_calls 66 = .ok (.iaload, 1) := by decide +kernel
theorem dX11_calls_67 : decode cX11_calls 67 = .ok (.iastore, 1) := by decide +kernel
theorem dX11_calls_68 : decode cX11_calls 68 = .ok (.iinc 3 (-1), 3) := by decide +kernel
theorem dX11_calls_71 : decode cX11_calls 71 = .ok (.goto (-37), 3) := by decide +kernel
theorem dX11_calls_74 : decode cX11_calls 74 = .ok (.aload_n 0, 1) := by decide +kernel
theorem dX11_calls_75 : decode cX11_calls 75 = .ok (.getfield 111, 3) := by decide +kernel
theorem dX11_calls_78 : decode cX11_calls 78 = .ok (.iload_n 3, 1) := by decide +kernel
theorem dX11_calls_79 : decode cX11_calls 79 = .ok (.iload_n 2, 1) := by decide +kernel
theorem dX11_calls_80 : decode cX11_calls 80 = .ok (.iastore, 1) := by decide +kernel
theorem dX11_calls_81 : decode cX11_calls 81 = .ok (.iinc 1 1, 3) := by decide +kernel
theorem dX11_calls_84 : decode cX11_calls 84 = .ok (.goto (-82), 3) := by decide +kernel
theorem dX11_calls_87 : decode cX11_calls 87 = .ok (.return_, 1) := by decide +kernel
theorem dX11_asksOf_0 : decode cX11_asksOf 0 = .ok (.aload_n 0, 1) := by decide +kernel
theorem dX11_asksOf_1 : decode cX11_asksOf 1 = .ok (.getfield 20, 3) := by decide +kernel
theorem dX11_asksOf_4 : decode cX11_asksOf 4 = .ok (.iload_n 1, 1) := by decide +kernel
theorem dX11_asksOf_5 : decode cX11_asksOf 5 = .ok (.iaload, 1) := by decide +kernel
theorem dX11_asksOf_6 : decode cX11_asksOf 6 = .ok (.iconst 3, 1) := by decide +kernel
theorem dX11_asksOf_7 : decode cX11_asksOf 7 = .ok (.if_icmp .ne 7, 3) := by decide +kernel
theorem dX11_asksOf_10 : decode cX11_asksOf 10 = .ok (.iload_n 2, 1) := by decide +kernel
theorem dX11_asksOf_11 : decode cX11_asksOf 11 = .ok (.ifCond .ne 10, 3) := by decide +kernel
theorem dX11_asksOf_14 : decode cX11_asksOf 14 = .ok (.aload_n 0, 1) := by decide +kernel
theorem dX11_asksOf_15 : decode cX11_asksOf 15 = .ok (.getfield 26, 3) := by decide +kernel
theorem dX11_asksOf_18 : decode cX11_asksOf 18 = .ok (.iload_n 1, 1) := by decide +kernel
theorem dX11_asksOf_19 : decode cX11_asksOf 19 = .ok (.iaload, 1) := by decide +kernel
theorem dX11_asksOf_20 : decode cX11_asksOf 20 = .ok (.ireturn, 1) := by decide +kernel
theorem dX11_asksOf_21 : decode cX11_asksOf 21 = .ok (.iconst 1, 1) := by decide +kernel
theorem dX11_asksOf_22 : decode cX11_asksOf 22 = .ok (.aload_n 0, 1) := by decide +kernel
theorem dX11_asksOf_23 : decode cX11_asksOf 23 = .ok (.getfield 26, 3) := by decide +kernel
theorem dX11_asksOf_26 : decode cX11_asksOf 26 = .ok (.iload_n 1, 1) := by decide +kernel
theorem dX11_asksOf_27 : decode cX11_asksOf 27 = .ok (.iaload, 1) := by decide +kernel
theorem dX11_asksOf_28 : decode cX11_asksOf 28 = .ok (.iconst 2, 1) := by decide +kernel
theorem dX11_asksOf_29 : decode cX11_asksOf 29 = .ok (.idiv, 1) := by decide +kernel
theorem dX11_asksOf_30 : decode cX11_asksOf 30 = .ok (.invokestatic 342, 3) := by decide +kernel
theorem dX11_asksOf_33 : decode cX11_asksOf 33 = .ok (.ireturn, 1) := by decide +kernel
theorem dX11_holdsDay_0 : decode cX11_holdsDay 0 = .ok (.aload_n 0, 1) := by decide +kernel
theorem dX11_holdsDay_1 : decode cX11_holdsDay 1 = .ok (.invokevirtual 348, 3) := by decide +kernel
theorem dX11_holdsDay_4 : decode cX11_holdsDay 4 = .ok (.aload_n 0, 1) := by decide +kernel
theorem dX11_holdsDay_5 : decode cX11_holdsDay 5 = .ok (.getfield 93, 3) := by decide +kernel
theorem dX11_holdsDay_8 : decode cX11_holdsDay 8 = .ok (.iconst 2, 1) := by decide +kernel
theorem dX11_holdsDay_9 : decode cX11_holdsDay 9 = .ok (.iaload, 1) := by decide +kernel
theorem dX11_holdsDay_10 : decode cX11_holdsDay 10 = .ok (.istore_n 1, 1) := by decide +kernel
theorem dX11_holdsDay_11 : decode cX11_holdsDay 11 = .ok (.aload_n 0, 1) := by decide +kernel
theorem dX11_holdsDay_12 : decode cX11_holdsDay 12 = .ok (.getfield 117, 3) := by decide +kernel
theorem dX11_holdsDay_15 : decode cX11_holdsDay 15 = .ok (.aload_n 0, 1) := by decide +kernel
theorem dX11_holdsDay_16 : decode cX11_holdsDay 16 = .ok (.getfield 93, 3) := by decide +kernel
theorem dX11_holdsDay_19 : decode cX11_holdsDay 19 = .ok (.iconst 1, 1) := by decide +kernel
theorem dX11_holdsDay_20 : decode cX11_holdsDay 20 = .ok (.iaload, 1) := by decide +kernel
theorem dX11_holdsDay_21 : decode cX11_holdsDay 21 = .ok (.iadd, 1) := by decide +kernel
theorem dX11_holdsDay_22 : decode cX11_holdsDay 22 = .ok (.istore_n 2, 1) := by decide +kernel
theorem dX11_holdsDay_23 : decode cX11_holdsDay 23 = .ok (.aload_n 0, 1) := by decide +kernel
theorem dX11_holdsDay_24 : decode cX11_holdsDay 24 = .ok (.iload_n 1, 1) := by decide +kernel
theorem dX11_holdsDay_25 : decode cX11_holdsDay 25 = .ok (.putfield 351, 3) := by decide +kernel
theorem dX11_holdsDay_28 : decode cX11_holdsDay 28 = .ok (.aload_n 0, 1) := by decide +kernel
theorem dX11_holdsDay_29 : decode cX11_holdsDay 29 = .ok (.iload_n 2, 1) := by decide +kernel
theorem dX11_holdsDay_30 : decode cX11_holdsDay 30 = .ok (.putfield 354, 3) := by decide +kernel
theorem dX11_holdsDay_33 : decode cX11_holdsDay 33 = .ok (.iconst 0, 1) := by decide +kernel
theorem dX11_holdsDay_34 : decode cX11_holdsDay 34 = .ok (.istore_n 3, 1) := by decide +kernel
theorem dX11_holdsDay_35 : decode cX11_holdsDay 35 = .ok (.iconst 0, 1) := by decide +kernel
theorem dX11_holdsDay_36 : decode cX11_holdsDay 36 = .ok (.istore 4, 2) := by decide +kernel
theorem dX11_holdsDay_38 : decode cX11_holdsDay 38 = .ok (.iload 4, 2) := by decide +kernel
theorem dX11_holdsDay_40 : decode cX11_holdsDay 40 = .ok (.iload_n 1, 1) := by decide +kernel
theorem dX11_holdsDay_41 : decode cX11_holdsDay 41 = .ok (.if_icmp .ge 95, 3) := by decide +kernel
theorem dX11_holdsDay_44 : decode cX11_holdsDay 44 = .ok (.aload_n 0, 1) := by decide +kernel
theorem dX11_holdsDay_45 : decode cX11_holdsDay 45 = .ok (.getfield 111, 3) := by decide +kernel
theorem dX11_holdsDay_48 : decode cX11_holdsDay 48 = .ok (.iload 4, 2) := by decide +kernel
theorem dX11_holdsDay_50 : decode cX11_holdsDay 50 = .ok (.iaload, 1) := by decide +kernel
theorem dX11_holdsDay_51 : decode cX11_holdsDay 51 = .ok (.istore 5, 2) := by decide +kernel
theorem dX11_holdsDay_53 : decode cX11_holdsDay 53 = .ok (.aload_n 0, 1) := by decide +kernel
theorem dX11_holdsDay_54 : decode cX11_holdsDay 54 = .ok (.iload 5, 2) := by decide +kernel
theorem dX11_holdsDay_56 : decode cX11_holdsDay 56 = .ok (.iload_n 3, 1) := by decide +kernel
theorem dX11_holdsDay_57 : decode cX11_holdsDay 57 = .ok (.invokevirtual 357, 3) := by decide +kernel
theorem dX11_holdsDay_60 : decode cX11_holdsDay 60 = .ok (.istore 6, 2) := by decide +kernel
theorem dX11_holdsDay_62 : decode cX11_holdsDay 62 = .ok (.aload_n 0, 1) := by decide +kernel
theorem dX11_holdsDay_63 : decode cX11_holdsDay 63 = .ok (.getfield 93, 3) := by decide +kernel
theorem dX11_holdsDay_66 : decode cX11_holdsDay 66 = .ok (.bipush 16, 2) := by decide +kernel
theorem dX11_holdsDay_68 : decode cX11_holdsDay 68 = .ok (.iload 5, 2) := by decide +kernel
theorem dX11_holdsDay_70 : decode cX11_holdsDay 70 = .ok (.iadd, 1) := by decide +kernel
theorem dX11_holdsDay_71 : decode cX11_holdsDay 71 = .ok (.dup2, 1) := by decide +kernel
theorem dX11_holdsDay_72 : decode cX11_holdsDay 72 = .ok (.iaload, 1) := by decide +kernel
theorem dX11_holdsDay_73 : decode cX11_holdsDay 73 = .ok (.iconst 1, 1) := by decide +kernel
theorem dX11_holdsDay_74 : decode cX11_holdsDay 74 = .ok (.iadd, 1) := by decide +kernel
theorem dX11_holdsDay_75 : decode cX11_holdsDay 75 = .ok (.iastore, 1) := by decide +kernel
theorem dX11_holdsDay_76 : decode cX11_holdsDay 76 = .ok (.iload 6, 2) := by decide +kernel
theorem dX11_holdsDay_78 : decode cX11_holdsDay 78 = .ok (.iload_n 2, 1) := by decide +kernel
theorem dX11_holdsDay_79 : decode cX11_holdsDay 79 = .ok (.if_icmp .le 6, 3) := by decide +kernel
theorem dX11_holdsDay_82 : decode cX11_holdsDay 82 = .ok (.goto 48, 3) := by decide +kernel
theorem dX11_holdsDay_85 : decode cX11_holdsDay 85 = .ok (.iload_n 2, 1) := by decide +kernel
theorem dX11_holdsDay_86 : decode cX11_holdsDay 86 = .ok (.iload 6, 2) := by decide +kernel
theorem dX11_holdsDay_88 : decode cX11_holdsDay 88 = .ok (.isub, 1) := by decide +kernel
theorem dX11_holdsDay_89 : decode cX11_holdsDay 89 = .ok (.istore_n 2, 1) := by decide +kernel
theorem dX11_holdsDay_90 : decode cX11_holdsDay 90 = .ok (.iload_n 3, 1) := by decide +kernel
theorem dX11_holdsDay_91 : decode cX11_holdsDay 91 = .ok (.ifCond .ne 14, 3) := by decide +kernel
theorem dX11_holdsDay_94 : decode cX11_holdsDay 94 = .ok (.aload_n 0, 1) := by decide +kernel
theorem dX11_holdsDay_95 : decode cX11_holdsDay 95 = .ok (.getfield 20, 3) := by decide +kernel
theorem dX11_holdsDay_98 : decode cX11_holdsDay 98 = .ok (.iload 5, 2) := by decide +kernel
theorem dX11_holdsDay_100 : decode cX11_holdsDay 100 = .ok (.iaload, 1) := by decide +kernel
theorem dX11_holdsDay_101 : decode cX11_holdsDay 101 = .ok (.iconst 3, 1) := by decide +kernel
theorem dX11_holdsDay_102 : decode cX11_holdsDay 102 = .ok (.if_icmp .ne 7, 3) := by decide +kernel
theorem dX11_holdsDay_105 : decode cX11_holdsDay 105 = .ok (.iconst 1, 1) := by decide +kernel
theorem dX11_holdsDay_106 : decode cX11_holdsDay 106 = .ok (.goto 4, 3) := by decide +kernel
theorem dX11_holdsDay_109 : decode cX11_holdsDay 109 = .ok (.iconst 0, 1) := by decide +kernel
theorem dX11_holdsDay_110 : decode cX11_holdsDay 110 = .ok (.istore_n 3, 1) := by decide +kernel
theorem dX11_holdsDay_111 : decode cX11_holdsDay 111 = .ok (.aload_n 0, 1) := by decide +kernel
theorem dX11_holdsDay_112 : decode cX11_holdsDay 112 = .ok (.getfield 93, 3) := by decide +kernel
theorem dX11_holdsDay_115 : decode cX11_holdsDay 115 = .ok (.iconst 3, 1) := by decide +kernel
theorem dX11_holdsDay_116 : decode cX11_holdsDay 116 = .ok (.dup2, 1) := by decide +kernel
theorem dX11_holdsDay_117 : decode cX11_holdsDay 117 = .ok (.iaload, 1) := by decide +kernel
theorem dX11_holdsDay_118 : decode cX11_holdsDay 118 = .ok (.iconst 1, 1) := by decide +kernel
theorem dX11_holdsDay_119 : decode cX11_holdsDay 119 = .ok (.iload 5, 2) := by decide +kernel
theorem dX11_holdsDay_121 : decode cX11_holdsDay 121 = .ok (.ishl, 1) := by decide +kernel
theorem dX11_holdsDay_122 : decode cX11_holdsDay 122 = .ok (.ior, 1) := by decide +kernel
theorem dX11_holdsDay_123 : decode cX11_holdsDay 123 = .ok (.iastore, 1) := by decide +kernel
theorem dX11_holdsDay_124 : decode cX11_holdsDay 124 = .ok (.aload_n 0, 1) := by decide +kernel
theorem dX11_holdsDay_125 : decode cX11_holdsDay 125 = .ok (.iload 5, 2) := by decide +kernel
theorem dX11_holdsDay_127 : decode cX11_holdsDay 127 = .ok (.invokevirtual 361, 3) := by decide +kernel
theorem dX11_holdsDay_130 : decode cX11_holdsDay 130 = .ok (.iinc 4 1, 3) := by decide +kernel
theorem dX11_holdsDay_133 : decode cX11_holdsDay 133 = .ok (.goto (-95), 3) := by decide +kernel
theorem dX11_holdsDay_136 : decode cX11_holdsDay 136 = .ok (.aload_n 0, 1) := by decide +kernel
theorem dX11_holdsDay_137 : decode cX11_holdsDay 137 = .ok (.getfield 93, 3) := by decide +kernel
theorem dX11_holdsDay_140 : decode cX11_holdsDay 140 = .ok (.iconst 1, 1) := by decide +kernel
theorem dX11_holdsDay_141 : decode cX11_holdsDay 141 = .ok (.iconst 0, 1) := by decide +kernel
theorem dX11_holdsDay_142 : decode cX11_holdsDay 142 = .ok (.iastore, 1) := by decide +kernel
theorem dX11_holdsDay_143 : decode cX11_holdsDay 143 = .ok (.aload_n 0, 1) := by decide +kernel
theorem dX11_holdsDay_144 : decode cX11_holdsDay 144 = .ok (.dup, 1) := by decide +kernel
theorem dX11_holdsDay_145 : decode cX11_holdsDay 145 = .ok (.getfield 354, 3) := by decide +kernel
theorem dX11_holdsDay_148 : decode cX11_holdsDay 148 = .ok (.iload_n 2, 1) := by decide +kernel
theorem dX11_holdsDay_149 : decode cX11_holdsDay 149 = .ok (.isub, 1) := by decide +kernel
theorem dX11_holdsDay_150 : decode cX11_holdsDay 150 = .ok (.putfield 354, 3) := by decide +kernel
theorem dX11_holdsDay_153 : decode cX11_holdsDay 153 = .ok (.return_, 1) := by decide +kernel
theorem dX11_passes_0 : decode cX11_passes 0 = .ok (.aload_n 0, 1) := by decide +kernel
theorem dX11_passes_1 : decode cX11_passes 1 = .ok (.getfield 93, 3) := by decide +kernel
theorem dX11_passes_4 : decode cX11_passes 4 = .ok (.iconst 0, 1) := by decide +kernel
theorem dX11_passes_5 : decode cX11_passes 5 = .ok (.dup2, 1) := by decide +kernel
theorem dX11_passes_6 : decode cX11_passes 6 = .ok (.iaload, 1) := by decide +kernel
theorem dX11_passes_7 : decode cX11_passes 7 = .ok (.iconst 1, 1) := by decide +kernel
theorem dX11_passes_8 : decode cX11_passes 8 = .ok (.iadd, 1) := by decide +kernel
theorem dX11_passes_9 : decode cX11_passes 9 = .ok (.iastore, 1) := by decide +kernel
theorem dX11_passes_10 : decode cX11_passes 10 = .ok (.iconst 0, 1) := by decide +kernel
theorem dX11_passes_11 : decode cX11_passes 11 = .ok (.istore_n 1, 1) := by decide +kernel
theorem dX11_passes_12 : decode cX11_passes 12 = .ok (.iload_n 1, 1) := by decide +kernel
theorem dX11_passes_13 : decode cX11_passes 13 = .ok (.aload_n 0, 1) := by decide +kernel
theorem dX11_passes_14 : decode cX11_passes 14 = .ok (.getfield 13, 3) := by decide +kernel
theorem dX11_passes_17 : decode cX11_passes 17 = .ok (.iconst 0, 1) := by decide +kernel
theorem dX11_passes_18 : decode cX11_passes 18 = .ok (.iaload, 1) := by decide +kernel
theorem dX11_passes_19 : decode cX11_passes 19 = .ok (.if_icmp .ge 30, 3) := by decide +kernel
theorem dX11_passes_22 : decode cX11_passes 22 = .ok (.aload_n 0, 1) := by decide +kernel
theorem dX11_passes_23 : decode cX11_passes 23 = .ok (.iload_n 1, 1) := by decide +kernel
theorem dX11_passes_24 : decode cX11_passes 24 = .ok (.invokevirtual 324, 3) := by decide +kernel
theorem dX11_passes_27 : decode cX11_passes 27 = .ok (.ifCond .lt 16, 3) := by decide +kernel
theorem dX11_passes_30 : decode cX11_passes 30 = .ok (.aload_n 0, 1) := by decide +kernel
theorem dX11_passes_31 : decode cX11_passes 31 = .ok (.iload_n 1, 1) := by decide +kernel
theorem dX11_passes_32 : decode cX11_passes 32 = .ok (.invokevirtual 330, 3) := by decide +kernel
theorem dX11_passes_35 : decode cX11_passes 35 = .ok (.ifCond .eq 8, 3) := by decide +kernel
theorem dX11_passes_38 : decode cX11_passes 38 = .ok (.aload_n 0, 1) := by decide +kernel
theorem dX11_passes_39 : decode cX11_passes 39 = .ok (.iload_n 1, 1) := by decide +kernel
theorem dX11_passes_40 : decode cX11_passes 40 = .ok (.invokevirtual 361, 3) := by decide +kernel
theorem dX11_passes_43 : decode cX11_passes 43 = .ok (.iinc 1 1, 3) := by decide +kernel
theorem dX11_passes_46 : decode cX11_passes 46 = .ok (.goto (-34), 3) := by decide +kernel
theorem dX11_passes_49 : decode cX11_passes 49 = .ok (.aload_n 0, 1) := by decide +kernel
theorem dX11_passes_50 : decode cX11_passes 50 = .ok (.aload_n 0, 1) := by decide +kernel
theorem dX11_passes_51 : decode cX11_passes 51 = .ok (.getfield 93, 3) := by decide +kernel
theorem dX11_passes_54 : decode cX11_passes 54 = .ok (.iconst 0, 1) := by decide +kernel
theorem dX11_passes_55 : decode cX11_passes 55 = .ok (.iaload, 1) := by decide +kernel
theorem dX11_passes_56 : decode cX11_passes 56 = .ok (.invokevirtual 364, 3) := by decide +kernel
theorem dX11_passes_59 : decode cX11_passes 59 = .ok (.ifCond .ne 5, 3) := by decide +kernel
theorem dX11_passes_62 : decode cX11_passes 62 = .ok (.iconst 0, 1) := by decide +kernel
theorem dX11_passes_63 : decode cX11_passes 63 = .ok (.ireturn, 1) := by decide +kernel
theorem dX11_passes_64 : decode cX11_passes 64 = .ok (.aload_n 0, 1) := by decide +kernel
theorem dX11_passes_65 : decode cX11_passes 65 = .ok (.invokevirtual 367, 3) := by decide +kernel
theorem dX11_passes_68 : decode cX11_passes 68 = .ok (.iconst 1, 1) := by decide +kernel
theorem dX11_passes_69 : decode cX11_passes 69 = .ok (.ireturn, 1) := by decide +kernel
theorem dX11_rides_0 : decode cX11_rides 0 = .ok (.iconst 0, 1) := by decide +kernel
theorem dX11_rides_1 : decode cX11_rides 1 = .ok (.istore_n 1, 1) := by decide +kernel
theorem dX11_rides_2 : decode cX11_rides 2 = .ok (.iload_n 1, 1) := by decide +kernel
theorem dX11_rides_3 : decode cX11_rides 3 = .ok (.ifCond .ne 11, 3) := by decide +kernel
theorem dX11_rides_6 : decode cX11_rides 6 = .ok (.aload_n 0, 1) := by decide +kernel
theorem dX11_rides_7 : decode cX11_rides 7 = .ok (.invokevirtual 370, 3) := by decide +kernel
theorem dX11_rides_10 : decode cX11_rides 10 = .ok (.istore_n 1, 1) := by decide +kernel
theorem dX11_rides_11 : decode cX11_rides 11 = .ok (.goto (-9), 3) := by decide +kernel
theorem dX11_rides_14 : decode cX11_rides 14 = .ok (.return_, 1) := by decide +kernel
theorem dX11_deads_0 : decode cX11_deads 0 = .ok (.iconst 0, 1) := by decide +kernel
theorem dX11_deads_1 : decode cX11_deads 1 = .ok (.istore_n 1, 1) := by decide +kernel
theorem dX11_deads_2 : decode cX11_deads 2 = .ok (.iconst 0, 1) := by decide +kernel
theorem dX11_deads_3 : decode cX11_deads 3 = .ok (.istore_n 2, 1) := by decide +kernel
theorem dX11_deads_4 : decode cX11_deads 4 = .ok (.iload_n 2, 1) := by decide +kernel
theorem dX11_deads_5 : decode cX11_deads 5 = .ok (.aload_n 0, 1) := by decide +kernel
theorem dX11_deads_6 : decode cX11_deads 6 = .ok (.getfield 13, 3) := by decide +kernel
theorem dX11_deads_9 : decode cX11_deads 9 = .ok (.iconst 0, 1) := by decide +kernel
theorem dX11_deads_10 : decode cX11_deads 10 = .ok (.iaload, 1) := by decide +kernel
theorem dX11_deads_11 : decode cX11_deads 11 = .ok (.if_icmp .ge 27, 3) := by decide +kernel
theorem dX11_deads_14 : decode cX11_deads 14 = .ok (.iload_n 1, 1) := by decide +kernel
theorem dX11_deads_15 : decode cX11_deads 15 = .ok (.aload_n 0, 1) := by decide +kernel
theorem dX11_deads_16 : decode cX11_deads 16 = .ok (.iload_n 2, 1) := by decide +kernel
theorem dX11_deads_17 : decode cX11_deads 17 = .ok (.invokevirtual 330, 3) := by decide +kernel
theorem dX11_deads_20 : decode cX11_deads 20 = .ok (.ifCond .eq 9, 3) := by decide +kernel
theorem dX11_deads_23 : decode cX11_deads 23 = .ok (.iconst 1, 1) := by decide +kernel
theorem dX11_deads_24 : decode cX11_deads 24 = .ok (.iload_n 2, 1) := by decide +kernel
theorem dX11_deads_25 : decode cX11_deads 25 = .ok (.ishl, 1) := by decide +kernel
theorem dX11_deads_26 : decode cX11_deads 26 = .ok (.goto 4, 3) := by decide +kernel
theorem dX11_deads_29 : decode cX11_deads 29 = .ok (.iconst 0, 1) := by decide +kernel
theorem dX11_deads_30 : decode cX11_deads 30 = .ok (.ior, 1) := by decide +kernel
theorem dX11_deads_31 : decode cX11_deads 31 = .ok (.istore_n 1, 1) := by decide +kernel
theorem dX11_deads_32 : decode cX11_deads 32 = .ok (.iinc 2 1, 3) := by decide +kernel
theorem dX11_deads_35 : decode cX11_deads 35 = .ok (.goto (-31), 3) := by decide +kernel
theorem dX11_deads_38 : decode cX11_deads 38 = .ok (.iload_n 1, 1) := by decide +kernel
theorem dX11_deads_39 : decode cX11_deads 39 = .ok (.ireturn, 1) := by decide +kernel
theorem dX11_person_0 : decode cX11_person 0 = .ok (.aload_n 0, 1) := by decide +kernel
theorem dX11_person_1 : decode cX11_person 1 = .ok (.iconst 0, 1) := by decide +kernel
theorem dX11_person_2 : decode cX11_person 2 = .ok (.putfield 137, 3) := by decide +kernel
theorem dX11_person_5 : decode cX11_person 5 = .ok (.aload_n 0, 1) := by decide +kernel
theorem dX11_person_6 : decode cX11_person 6 = .ok (.iload_n 1, 1) := by decide +kernel
theorem dX11_person_7 : decode cX11_person 7 = .ok (.invokevirtual 373, 3) := by decide +kernel
theorem dX11_person_10 : decode cX11_person 10 = .ok (.ifCond .eq 13, 3) := by decide +kernel
theorem dX11_person_13 : decode cX11_person 13 = .ok (.iload_n 2, 1) := by decide +kernel
theorem dX11_person_14 : decode cX11_person 14 = .ok (.iconst 0, 1) := by decide +kernel
theorem dX11_person_15 : decode cX11_person 15 = .ok (.bipush 7, 2) := by decide +kernel
theorem dX11_person_17 : decode cX11_person 17 = .ok (.invokestatic 254, 3) := by decide +kernel
theorem dX11_person_20 : decode cX11_person 20 = .ok (.ifCond .ne 6, 3) := by decide +kernel
theorem dX11_person_23 : decode cX11_person 23 = .ok (.bipush (-2), 2) := by decide +kernel
theorem dX11_person_25 : decode cX11_person 25 = .ok (.ireturn, 1) := by decide +kernel
theorem dX11_person_26 : decode cX11_person 26 = .ok (.iload_n 2, 1) := by decide +kernel
theorem dX11_person_27 : decode cX11_person 27 = .ok (.iconst 3, 1) := by decide +kernel
theorem dX11_person_28 : decode cX11_person 28 = .ok (.if_icmp .ge 37, 3) := by decide +kernel
theorem dX11_person_31 : decode cX11_person 31 = .ok (.iload_n 2, 1) := by decide +kernel
theorem dX11_person_32 : decode cX11_person 32 = .ok (.ifCond .ne 12, 3) := by decide +kernel
theorem dX11_person_35 : decode cX11_person 35 = .ok (.aload_n 0, 1) := by decide +kernel
theorem dX11_person_36 : decode cX11_person 36 = .ok (.getfield 20, 3) := by decide +kernel
theorem dX11_person_39 : decode cX11_person 39 = .ok (.iload_n 1, 1) := by decide +kernel
theorem dX11_person_40 : decode cX11_person 40 = .ok (.iaload, 1) := by decide +kernel
theorem dX11_person_41 : decode cX11_person 41 = .ok (.goto 23, 3) := by decide +kernel
theorem dX11_person_44 : decode cX11_person 44 = .ok (.iload_n 2, 1) := by decide +kernel
theorem dX11_person_45 : decode cX11_person 45 = .ok (.iconst 1, 1) := by decide +kernel
theorem dX11_person_46 : decode cX11_person 46 = .ok (.if_icmp .ne 12, 3) := by decide +kernel
theorem dX11_person_49 : decode cX11_person 49 = .ok (.aload_n 0, 1) := by decide +kernel
theorem dX11_person_50 : decode cX11_person 50 = .ok (.getfield 23, 3) := by decide +kernel
theorem dX11_person_53 : decode cX11_person 53 = .ok (.iload_n 1, 1) := by decide +kernel
theorem dX11_person_54 : decode cX11_person 54 = .ok (.iaload, 1) := by decide +kernel
theorem dX11_person_55 : decode cX11_person 55 = .ok (.goto 9, 3) := by decide +kernel
theorem dX11_person_58 : decode cX11_person 58 = .ok (.aload_n 0, 1) := by decide +kernel
theorem dX11_person_59 : decode cX11_person 59 = .ok (.getfield 26, 3) := by decide +kernel
theorem dX11_person_62 : decode cX11_person 62 = .ok (.iload_n 1, 1) := by decide +kernel
theorem dX11_person_63 : decode cX11_person 63 = .ok (.iaload, 1) := by decide +kernel
theorem dX11_person_64 : decode cX11_person 64 = .ok (.ireturn, 1) := by decide +kernel
theorem dX11_person_65 : decode cX11_person 65 = .ok (.aload_n 0, 1) := by decide +kernel
theorem dX11_person_66 : decode cX11_person 66 = .ok (.iload_n 1, 1) := by decide +kernel
theorem dX11_person_67 : decode cX11_person 67 = .ok (.invokevirtual 324, 3) := by decide +kernel
theorem dX11_person_70 : decode cX11_person 70 = .ok (.istore_n 3, 1) := by decide +kernel
theorem dX11_person_71 : decode cX11_person 71 = .ok (.iload_n 2, 1) := by decide +kernel
theorem dX11_person_72 : decode cX11_person 72 = .ok (.bipush 6, 2) := by decide +kernel
theorem dX11_person_74 : decode cX11_person 74 = .ok (.if_icmp .ge 44, 3) := by decide +kernel
theorem dX11_person_77 : decode cX11_person 77 = .ok (.iload_n 2, 1) := by decide +kernel
theorem dX11_person_78 : decode cX11_person 78 = .ok (.iconst 3, 1) := by decide +kernel
theorem dX11_person_79 : decode cX11_person 79 = .ok (.if_icmp .ne 7, 3) := by decide +kernel
theorem dX11_person_82 : decode cX11_person 82 = .ok (.iload_n 3, 1) := by decide +kernel
theorem dX11_person_83 : decode cX11_person 83 = .ok (.goto 34, 3) := by decide +kernel
theorem dX11_person_86 : decode cX11_person 86 = .ok (.iload_n 2, 1) := by decide +kernel
theorem dX11_person_87 : decode cX11_person 87 = .ok (.iconst 4, 1) := by decide +kernel
theorem dX11_person_88 : decode cX11_person 88 = .ok (.if_icmp .ne 16, 3) := by decide +kernel
theorem dX11_person_91 : decode cX11_person 91 = .ok (.aload_n 0, 1) := by decide +kernel
theorem dX11_person_92 : decode cX11_person 92 = .ok (.getfield 93, 3) := by decide +kernel
theorem dX11_person_95 : decode cX11_person 95 = .ok (.iconst 3, 1) := by decide +kernel
theorem dX11_person_96 : decode cX11_person 96 = .ok (.iaload, 1) := by decide +kernel
theorem dX11_person_97 : decode cX11_person 97 = .ok (.iload_n 1, 1) := by decide +kernel
theorem dX11_person_98 : decode cX11_person 98 = .ok (.ishr, 1) := by decide +kernel
theorem dX11_person_99 : decode cX11_person 99 = .ok (.iconst 1, 1) := by decide +kernel
theorem dX11_person_100 : decode cX11_person 100 = .ok (.iand, 1) := by decide +kernel
theorem dX11_person_101 : decode cX11_person 101 = .ok (.goto 16, 3) := by decide +kernel
theorem dX11_person_104 : decode cX11_person 104 = .ok (.aload_n 0, 1) := by decide +kernel
theorem dX11_person_105 : decode cX11_person 105 = .ok (.iload_n 1, 1) := by decide +kernel
theorem dX11_person_106 : decode cX11_person 106 = .ok (.invokevirtual 330, 3) := by decide +kernel
theorem dX11_person_109 : decode cX11_person 109 = .ok (.ifCond .eq 7, 3) := by decide +kernel
theorem dX11_person_112 : decode cX11_person 112 = .ok (.iconst 1, 1) := by decide +kernel
theorem dX11_person_113 : decode cX11_person 113 = .ok (.goto 4, 3) := by decide +kernel
theorem dX11_person_116 : decode cX11_person 116 = .ok (.iconst 0, 1) := by decide +kernel
theorem dX11_person_117 : decode cX11_person 117 = .ok (.ireturn, 1) := by decide +kernel
theorem dX11_person_118 : decode cX11_person 118 = .ok (.iload_n 3, 1) := by decide +kernel
theorem dX11_person_119 : decode cX11_person 119 = .ok (.ifCond .ge 7, 3) := by decide +kernel
theorem dX11_person_122 : decode cX11_person 122 = .ok (.iconst 0, 1) := by decide +kernel
theorem dX11_person_123 : decode cX11_person 123 = .ok (.goto 37, 3) := by decide +kernel
theorem dX11_person_126 : decode cX11_person 126 = .ok (.iload_n 2, 1) := by decide +kernel
theorem dX11_person_127 : decode cX11_person 127 = .ok (.bipush 6, 2) := by decide +kernel
theorem dX11_person_129 : decode cX11_person 129 = .ok (.if_icmp .ne 22, 3) := by decide +kernel
theorem dX11_person_132 : decode cX11_person 132 = .ok (.aload_n 0, 1) := by decide +kernel
theorem dX11_person_133 : decode cX11_person 133 = .ok (.getfield 93, 3) := by decide +kernel
theorem dX11_person_136 : decode cX11_person 136 = .ok (.iconst 0, 1) := by decide +kernel
theorem dX11_person_137 : decode cX11_person 137 = .ok (.iaload, 1) := by decide +kernel
theorem dX11_person_138 : decode cX11_person 138 = .ok (.aload_n 0, 1) := by decide +kernel
theorem dX11_person_139 : decode cX11_person 139 = .ok (.getfield 93, 3) := by decide +kernel
theorem dX11_person_142 : decode cX11_person 142 = .ok (.bipush 10, 2) := by decide +kernel
theorem dX11_person_144 : decode cX11_person 144 = .ok (.iload_n 1, 1) := by decide +kernel
theorem dX11_person_145 : decode cX11_person 145 = .ok (.iadd, 1) := by decide +kernel
theorem dX11_person_146 : decode cX11_person 146 = .ok (.iaload, 1) := by decide +kernel
theorem dX11_person_147 : decode cX11_person 147 = .ok (.isub, 1) := by decide +kernel
theorem dX11_person_148 : decode cX11_person 148 = .ok (.goto 12, 3) := by decide +kernel
theorem dX11_person_151 : decode cX11_person 151 = .ok (.aload_n 0, 1) := by decide +kernel
theorem dX11_person_152 : decode cX11_person 152 = .ok (.getfield 93, 3) := by decide +kernel
theorem dX11_person_155 : decode cX11_person 155 = .ok (.bipush 16, 2) := by decide +kernel
theorem dX11_person_157 : decode cX11_person 157 = .ok (.iload_n 1, 1) := by decide +kernel
theorem dX11_person_158 : decode cX11_person 158 = .ok (.iadd, 1) := by decide +kernel
theorem dX11_person_159 : decode cX11_person 159 = .ok (.iaload, 1) := by decide +kernel
theorem dX11_person_160 : decode cX11_person 160 = .ok (.ireturn, 1) := by decide +kernel
theorem dX11_keeps_0 : decode cX11_keeps 0 = .ok (.aload_n 0, 1) := by decide +kernel
theorem dX11_keeps_1 : decode cX11_keeps 1 = .ok (.getfield 307, 3) := by decide +kernel
theorem dX11_keeps_4 : decode cX11_keeps 4 = .ok (.bipush 16, 2) := by decide +kernel
theorem dX11_keeps_6 : decode cX11_keeps 6 = .ok (.if_icmp .ne 43, 3) := by decide +kernel
theorem dX11_keeps_9 : decode cX11_keeps 9 = .ok (.iconst 0, 1) := by decide +kernel
theorem dX11_keeps_10 : decode cX11_keeps 10 = .ok (.istore_n 1, 1) := by decide +kernel
theorem dX11_keeps_11 : decode cX11_keeps 11 = .ok (.iload_n 1, 1) := by decide +kernel
theorem dX11_keeps_12 : decode cX11_keeps 12 = .ok (.sipush 330, 3) := by decide +kernel
theorem dX11_keeps_15 : decode cX11_keeps 15 = .ok (.if_icmp .ge 24, 3) := by decide +kernel
theorem dX11_keeps_18 : decode cX11_keeps 18 = .ok (.aload_n 0, 1) := by decide +kernel
theorem dX11_keeps_19 : decode cX11_keeps 19 = .ok (.getfield 105, 3) := by decide +kernel
theorem dX11_keeps_22 : decode cX11_keeps 22 = .ok (.iload_n 1, 1) := by decide +kernel
theorem dX11_keeps_23 : decode cX11_keeps 23 = .ok (.aload_n 0, 1) := by decide +kernel
theorem dX11_keeps_24 : decode cX11_keeps 24 = .ok (.getfield 105, 3) := by decide +kernel
theorem dX11_keeps_27 : decode cX11_keeps 27 = .ok (.iload_n 1, 1) := by decide +kernel
theorem dX11_keeps_28 : decode cX11_keeps 28 = .ok (.bipush 22, 2) := by decide +kernel
theorem dX11_keeps_30 : decode cX11_keeps 30 = .ok (.iadd, 1) := by decide +kernel
theorem dX11_keeps_31 : decode cX11_keeps 31 = .ok (.iaload, 1) := by decide +kernel
theorem dX11_keeps_32 : decode cX11_keeps 32 = .ok (.iastore, 1) := by decide +kernel
theorem dX11_keeps_33 : decode cX11_keeps 33 = .ok (.iinc 1 1, 3) := by decide +kernel
theorem dX11_keeps_36 : decode cX11_keeps 36 = .ok (.goto (-25), 3) := by decide +kernel
theorem dX11_keeps_39 : decode cX11_keeps 39 = .ok (.aload_n 0, 1) := by decide +kernel
theorem dX11_keeps_40 : decode cX11_keeps 40 = .ok (.dup, 1) := by decide +kernel
theorem dX11_keeps_41 : decode cX11_keeps 41 = .ok (.getfield 307, 3) := by decide +kernel
theorem dX11_keeps_44 : decode cX11_keeps 44 = .ok (.iconst 1, 1) := by decide +kernel
theorem dX11_keeps_45 : decode cX11_keeps 45 = .ok (.isub, 1) := by decide +kernel
theorem dX11_keeps_46 : decode cX11_keeps 46 = .ok (.putfield 307, 3) := by decide +kernel
theorem dX11_keeps_49 : decode cX11_keeps 49 = .ok (.aload_n 0, 1) := by decide +kernel
theorem dX11_keeps_50 : decode cX11_keeps 50 = .ok (.getfield 93, 3) := by decide +kernel
theorem dX11_keeps_53 : decode cX11_keeps 53 = .ok (.iconst 0, 1) := by decide +kernel
theorem dX11_keeps_54 : decode cX11_keeps 54 = .ok (.aload_n 0, 1) := by decide +kernel
theorem dX11_keeps_55 : decode cX11_keeps 55 = .ok (.getfield 105, 3) := by decide +kernel
theorem dX11_keeps_58 : decode cX11_keeps 58 = .ok (.bipush 22, 2) := by decide +kernel
theorem dX11_keeps_60 : decode cX11_keeps 60 = .ok (.aload_n 0, 1) := by decide +kernel
theorem dX11_keeps_61 : decode cX11_keeps 61 = .ok (.getfield 307, 3) := by decide +kernel
theorem dX11_keeps_64 : decode cX11_keeps 64 = .ok (.imul, 1) := by decide +kernel
theorem dX11_keeps_65 : decode cX11_keeps 65 = .ok (.invokestatic 376, 3) := by decide +kernel
theorem dX11_keeps_68 : decode cX11_keeps 68 = .ok (.aload_n 0, 1) := by decide +kernel
theorem dX11_keeps_69 : decode cX11_keeps 69 = .ok (.dup, 1) := by decide +kernel
theorem dX11_keeps_70 : decode cX11_keeps 70 = .ok (.getfield 307, 3) := by decide +kernel
theorem dX11_keeps_73 : decode cX11_keeps 73 = .ok (.iconst 1, 1) := by decide +kernel
theorem dX11_keeps_74 : decode cX11_keeps 74 = .ok (.iadd, 1) := by decide +kernel
theorem dX11_keeps_75 : decode cX11_keeps 75 = .ok (.putfield 307, 3) := by decide +kernel
theorem dX11_keeps_78 : decode cX11_keeps 78 = .ok (.aload_n 0, 1) := by decide +kernel
theorem dX11_keeps_79 : decode cX11_keeps 79 = .ok (.aload_n 0, 1) := by decide +kernel
theorem dX11_keeps_80 : decode cX11_keeps 80 = .ok (.getfield 13, 3) := by decide +kernel
theorem dX11_keeps_83 : decode cX11_keeps 83 = .ok (.iconst 2, 1) := by decide +kernel
theorem dX11_keeps_84 : decode cX11_keeps 84 = .ok (.iaload, 1) := by decide +kernel
theorem dX11_keeps_85 : decode cX11_keeps 85 = .ok (.putfield 117, 3) := by decide +kernel
theorem dX11_keeps_88 : decode cX11_keeps 88 = .ok (.return_, 1) := by decide +kernel
theorem dX11_come_0 : decode cX11_come 0 = .ok (.aload_n 0, 1) := by decide +kernel
theorem dX11_come_1 : decode cX11_come 1 = .ok (.iconst 0, 1) := by decide +kernel
theorem dX11_come_2 : decode cX11_come 2 = .ok (.putfield 137, 3) := by decide +kernel
theorem dX11_come_5 : decode cX11_come 5 = .ok (.aload_n 0, 1) := by decide +kernel
theorem dX11_come_6 : decode cX11_come 6 = .ok (.iload_n 1, 1) := by decide +kernel
theorem dX11_come_7 : decode cX11_come 7 = .ok (.invokevirtual 373, 3) := by decide +kernel
theorem dX11_come_10 : decode cX11_come 10 = .ok (.ifCond .eq 11, 3) := by decide +kernel
theorem dX11_come_13 : decode cX11_come 13 = .ok (.aload_n 0, 1) := by decide +kernel
theorem dX11_come_14 : decode cX11_come 14 = .ok (.iload_n 1, 1) := by decide +kernel
theorem dX11_come_15 : decode cX11_come 15 = .ok (.invokevirtual 380, 3) := by decide +kernel
theorem dX11_come_18 : decode cX11_come 18 = .ok (.ifCond .ne 5, 3) := by decide +kernel
theorem dX11_come_21 : decode cX11_come 21 = .ok (.iconst (-1), 1) := by decide +kernel
theorem dX11_come_22 : decode cX11_come 22 = .ok (.ireturn, 1) := by decide +kernel
theorem dX11_come_23 : decode cX11_come 23 = .ok (.aload_n 0, 1) := by decide +kernel
theorem dX11_come_24 : decode cX11_come 24 = .ok (.invokevirtual 383, 3) := by decide +kernel
theorem dX11_come_27 : decode cX11_come 27 = .ok (.aload_n 0, 1) := by decide +kernel
theorem dX11_come_28 : decode cX11_come 28 = .ok (.iload_n 1, 1) := by decide +kernel
theorem dX11_come_29 : decode cX11_come 29 = .ok (.invokevirtual 386, 3) := by decide +kernel
theorem dX11_come_32 : decode cX11_come 32 = .ok (.aload_n 0, 1) := by decide +kernel
theorem dX11_come_33 : decode cX11_come 33 = .ok (.getfield 93, 3) := by decide +kernel
theorem dX11_come_36 : decode cX11_come 36 = .ok (.iconst 2, 1) := by decide +kernel
theorem dX11_come_37 : decode cX11_come 37 = .ok (.iaload, 1) := by decide +kernel
theorem dX11_come_38 : decode cX11_come 38 = .ok (.iconst 1, 1) := by decide +kernel
theorem dX11_come_39 : decode cX11_come 39 = .ok (.isub, 1) := by decide +kernel
theorem dX11_come_40 : decode cX11_come 40 = .ok (.ireturn, 1) := by decide +kernel
theorem dX11_leave_0 : decode cX11_leave 0 = .ok (.aload_n 0, 1) := by decide +kernel
theorem dX11_leave_1 : decode cX11_leave 1 = .ok (.iconst 0, 1) := by decide +kernel
theorem dX11_leave_2 : decode cX11_leave 2 = .ok (.putfield 137, 3) := by decide +kernel
theorem dX11_leave_5 : decode cX11_leave 5 = .ok (.aload_n 0, 1) := by decide +kernel
theorem dX11_leave_6 : decode cX11_leave 6 = .ok (.iload_n 1, 1) := by decide +kernel
theorem dX11_leave_7 : decode cX11_leave 7 = .ok (.invokevirtual 373, 3) := by decide +kernel
theorem dX11_leave_10 : decode cX11_leave 10 = .ok (.ifCond .eq 11, 3) := by decide +kernel
theorem dX11_leave_13 : decode cX11_leave 13 = .ok (.aload_n 0, 1) := by decide +kernel
theorem dX11_leave_14 : decode cX11_leave 14 = .ok (.iload_n 1, 1) := by decide +kernel
theorem dX11_leave_15 : decode cX11_leave 15 = .ok (.invokevirtual 324, 3) := by decide +kernel
theorem dX11_leave_18 : decode cX11_leave 18 = .ok (.ifCond .ge 5, 3) := by decide +kernel
theorem dX11_leave_21 : decode cX11_leave 21 = .ok (.iconst 0, 1) := by decide +kernel
theorem dX11_leave_22 : decode cX11_leave 22 = .ok (.ireturn, 1) := by decide +kernel
theorem dX11_leave_23 : decode cX11_leave 23 = .ok (.aload_n 0, 1) := by decide +kernel
theorem dX11_leave_24 : decode cX11_leave 24 = .ok (.invokevirtual 383, 3) := by decide +kernel
theorem dX11_leave_27 : decode cX11_leave 27 = .ok (.aload_n 0, 1) := by decide +kernel
theorem dX11_leave_28 : decode cX11_leave 28 = .ok (.iload_n 1, 1) := by decide +kernel
theorem dX11_leave_29 : decode cX11_leave 29 = .ok (.invokevirtual 361, 3) := by decide +kernel
theorem dX11_leave_32 : decode cX11_leave 32 = .ok (.iconst 1, 1) := by decide +kernel
theorem dX11_leave_33 : decode cX11_leave 33 = .ok (.ireturn, 1) := by decide +kernel
theorem dX11_lamp_0 : decode cX11_lamp 0 = .ok (.aload_n 0, 1) := by decide +kernel
theorem dX11_lamp_1 : decode cX11_lamp 1 = .ok (.iconst 0, 1) := by decide +kernel
theorem dX11_lamp_2 : decode cX11_lamp 2 = .ok (.putfield 137, 3) := by decide +kernel
theorem dX11_lamp_5 : decode cX11_lamp 5 = .ok (.iload_n 1, 1) := by decide +kernel
theorem dX11_lamp_6 : decode cX11_lamp 6 = .ok (.iconst 1, 1) := by decide +kernel
theorem dX11_lamp_7 : decode cX11_lamp 7 = .ok (.bipush 20, 2) := by decide +kernel
theorem dX11_lamp_9 : decode cX11_lamp 9 = .ok (.invokestatic 254, 3) := by decide +kernel
theorem dX11_lamp_12 : decode cX11_lamp 12 = .ok (.ifCond .ne 5, 3) := by decide +kernel
theorem dX11_lamp_15 : decode cX11_lamp 15 = .ok (.iconst (-1), 1) := by decide +kernel
theorem dX11_lamp_16 : decode cX11_lamp 16 = .ok (.ireturn, 1) := by decide +kernel
theorem dX11_lamp_17 : decode cX11_lamp 17 = .ok (.aload_n 0, 1) := by decide +kernel
theorem dX11_lamp_18 : decode cX11_lamp 18 = .ok (.invokevirtual 383, 3) := by decide +kernel
theorem dX11_lamp_21 : decode cX11_lamp 21 = .ok (.aload_n 0, 1) := by decide +kernel
theorem dX11_lamp_22 : decode cX11_lamp 22 = .ok (.getfield 93, 3) := by decide +kernel
theorem dX11_lamp_25 : decode cX11_lamp 25 = .ok (.iconst 1, 1) := by decide +kernel
theorem dX11_lamp_26 : decode cX11_lamp 26 = .ok (.bipush 60, 2) := by decide +kernel
theorem dX11_lamp_28 : decode cX11_lamp 28 = .ok (.aload_n 0, 1) := by decide +kernel
theorem dX11_lamp_29 : decode cX11_lamp 29 = .ok (.getfield 93, 3) := by decide +kernel
theorem dX11_lamp_32 : decode cX11_lamp 32 = .ok (.iconst 1, 1) := by decide +kernel
theorem dX11_lamp_33 : decode cX11_lamp 33 = .ok (.iaload, 1) := by decide +kernel
theorem dX11_lamp_34 : decode cX11_lamp 34 = .ok (.iload_n 1, 1) := by decide +kernel
theorem dX11_lamp_35 : decode cX11_lamp 35 = .ok (.iadd, 1) := by decide +kernel
theorem dX11_lamp_36 : decode cX11_lamp 36 = .ok (.invokestatic 389, 3) := by decide +kernel
theorem dX11_lamp_39 : decode cX11_lamp 39 = .ok (.iastore, 1) := by decide +kernel
theorem dX11_lamp_40 : decode cX11_lamp 40 = .ok (.aload_n 0, 1) := by decide +kernel
theorem dX11_lamp_41 : decode cX11_lamp 41 = .ok (.getfield 93, 3) := by decide +kernel
theorem dX11_lamp_44 : decode cX11_lamp 44 = .ok (.iconst 1, 1) := by decide +kernel
theorem dX11_lamp_45 : decode cX11_lamp 45 = .ok (.iaload, 1) := by decide +kernel
theorem dX11_lamp_46 : decode cX11_lamp 46 = .ok (.ireturn, 1) := by decide +kernel
theorem dX11_waits_0 : decode cX11_waits 0 = .ok (.aload_n 0, 1) := by decide +kernel
theorem dX11_waits_1 : decode cX11_waits 1 = .ok (.iconst 0, 1) := by decide +kernel
theorem dX11_waits_2 : decode cX11_waits 2 = .ok (.putfield 137, 3) := by decide +kernel
theorem dX11_waits_5 : decode cX11_waits 5 = .ok (.aload_n 0, 1) := by decide +kernel
theorem dX11_waits_6 : decode cX11_waits 6 = .ok (.invokevirtual 383, 3) := by decide +kernel
theorem dX11_waits_9 : decode cX11_waits 9 = .ok (.aload_n 0, 1) := by decide +kernel
theorem dX11_waits_10 : decode cX11_waits 10 = .ok (.getfield 93, 3) := by decide +kernel
theorem dX11_waits_13 : decode cX11_waits 13 = .ok (.iconst 3, 1) := by decide +kernel
theorem dX11_waits_14 : decode cX11_waits 14 = .ok (.iaload, 1) := by decide +kernel
theorem dX11_waits_15 : decode cX11_waits 15 = .ok (.istore_n 1, 1) := by decide +kernel
theorem dX11_waits_16 : decode cX11_waits 16 = .ok (.aload_n 0, 1) := by decide +kernel
theorem dX11_waits_17 : decode cX11_waits 17 = .ok (.invokevirtual 370, 3) := by decide +kernel
theorem dX11_waits_20 : decode cX11_waits 20 = .ok (.pop, 1) := by decide +kernel
theorem dX11_waits_21 : decode cX11_waits 21 = .ok (.aload_n 0, 1) := by decide +kernel
theorem dX11_waits_22 : decode cX11_waits 22 = .ok (.getfield 93, 3) := by decide +kernel
theorem dX11_waits_25 : decode cX11_waits 25 = .ok (.iconst 3, 1) := by decide +kernel
theorem dX11_waits_26 : decode cX11_waits 26 = .ok (.iaload, 1) := by decide +kernel
theorem dX11_waits_27 : decode cX11_waits 27 = .ok (.iload_n 1, 1) := by decide +kernel
theorem dX11_waits_28 : decode cX11_waits 28 = .ok (.iconst (-1), 1) := by decide +kernel
theorem dX11_waits_29 : decode cX11_waits 29 = .ok (.ixor, 1) := by decide +kernel
theorem dX11_waits_30 : decode cX11_waits 30 = .ok (.iand, 1) := by decide +kernel
theorem dX11_waits_31 : decode cX11_waits 31 = .ok (.ireturn, 1) := by decide +kernel
theorem dX11_ride_0 : decode cX11_ride 0 = .ok (.aload_n 0, 1) := by decide +kernel
theorem dX11_ride_1 : decode cX11_ride 1 = .ok (.iconst 0, 1) := by decide +kernel
theorem dX11_ride_2 : decode cX11_ride 2 = .ok (.putfield 137, 3) := by decide +kernel
theorem dX11_ride_5 : decode cX11_ride 5 = .ok (.aload_n 0, 1) := by decide +kernel
theorem dX11_ride_6 : decode cX11_ride 6 = .ok (.invokevirtual 383, 3) := by decide +kernel
theorem dX11_ride_9 : decode cX11_ride 9 = .ok (.aload_n 0, 1) := by decide +kernel
theorem dX11_ride_10 : decode cX11_ride 10 = .ok (.getfield 93, 3) := by decide +kernel
theorem dX11_ride_13 : decode cX11_ride 13 = .ok (.iconst 3, 1) := by decide +kernel
theorem dX11_ride_14 : decode cX11_ride 14 = .ok (.iaload, 1) := by decide +kernel
theorem dX11_ride_15 : decode cX11_ride 15 = .ok (.istore_n 1, 1) := by decide +kernel
theorem dX11_ride_16 : decode cX11_ride 16 = .ok (.aload_n 0, 1) := by decide +kernel
theorem dX11_ride_17 : decode cX11_ride 17 = .ok (.invokevirtual 392, 3) := by decide +kernel
theorem dX11_ride_20 : decode cX11_ride 20 = .ok (.aload_n 0, 1) := by decide +kernel
theorem dX11_ride_21 : decode cX11_ride 21 = .ok (.getfield 93, 3) := by decide +kernel
theorem dX11_ride_24 : decode cX11_ride 24 = .ok (.iconst 3, 1) := by decide +kernel
theorem dX11_ride_25 : decode cX11_ride 25 = .ok (.iaload, 1) := by decide +kernel
theorem dX11_ride_26 : decode cX11_ride 26 = .ok (.iload_n 1, 1) := by decide +kernel
theorem dX11_ride_27 : decode cX11_ride 27 = .ok (.iconst (-1), 1) := by decide +kernel
theorem dX11_ride_28 : decode cX11_ride 28 = .ok (.ixor, 1) := by decide +kernel
theorem dX11_ride_29 : decode cX11_ride 29 = .ok (.iand, 1) := by decide +kernel
theorem dX11_ride_30 : decode cX11_ride 30 = .ok (.ireturn, 1) := by decide +kernel
theorem dX11_undo_0 : decode cX11_undo 0 = .ok (.aload_n 0, 1) := by decide +kernel
theorem dX11_undo_1 : decode cX11_undo 1 = .ok (.iconst 0, 1) := by decide +kernel
theorem dX11_undo_2 : decode cX11_undo 2 = .ok (.putfield 137, 3) := by decide +kernel
theorem dX11_undo_5 : decode cX11_undo 5 = .ok (.aload_n 0, 1) := by decide +kernel
theorem dX11_undo_6 : decode cX11_undo 6 = .ok (.getfield 307, 3) := by decide +kernel
theorem dX11_undo_9 : decode cX11_undo 9 = .ok (.ifCond .ne 5, 3) := by decide +kernel
theorem dX11_undo_12 : decode cX11_undo 12 = .ok (.iconst 0, 1) := by decide +kernel
theorem dX11_undo_13 : decode cX11_undo 13 = .ok (.ireturn, 1) := by decide +kernel
theorem dX11_undo_14 : decode cX11_undo 14 = .ok (.aload_n 0, 1) := by decide +kernel
theorem dX11_undo_15 : decode cX11_undo 15 = .ok (.dup, 1) := by decide +kernel
theorem dX11_undo_16 : decode cX11_undo 16 = .ok (.getfield 307, 3) := by decide +kernel
theorem dX11_undo_19 : decode cX11_undo 19 = .ok (.iconst 1, 1) := by decide +kernel
theorem dX11_undo_20 : decode cX11_undo 20 = .ok (.isub, 1) := by decide +kernel
theorem dX11_undo_21 : decode cX11_undo 21 = .ok (.putfield 307, 3) := by decide +kernel
theorem dX11_undo_24 : decode cX11_undo 24 = .ok (.aload_n 0, 1) := by decide +kernel
theorem dX11_undo_25 : decode cX11_undo 25 = .ok (.getfield 105, 3) := by decide +kernel
theorem dX11_undo_28 : decode cX11_undo 28 = .ok (.bipush 22, 2) := by decide +kernel
theorem dX11_undo_30 : decode cX11_undo 30 = .ok (.aload_n 0, 1) := by decide +kernel
theorem dX11_undo_31 : decode cX11_undo 31 = .ok (.getfield 307, 3) := by decide +kernel
theorem dX11_undo_34 : decode cX11_undo 34 = .ok (.imul, 1) := by decide +kernel
theorem dX11_undo_35 : decode cX11_undo 35 = .ok (.aload_n 0, 1) := by decide +kernel
theorem dX11_undo_36 : decode cX11_undo 36 = .ok (.getfield 93, 3) := by decide +kernel
theorem dX11_undo_39 : decode cX11_undo 39 = .ok (.iconst 0, 1) := by decide +kernel
theorem dX11_undo_40 : decode cX11_undo 40 = .ok (.invokestatic 376, 3) := by decide +kernel
theorem dX11_undo_43 : decode cX11_undo 43 = .ok (.iconst 1, 1) := by decide +kernel
theorem dX11_undo_44 : decode cX11_undo 44 = .ok (.ireturn, 1) := by decide +kernel
theorem dX11_goes_0 : decode cX11_goes 0 = .ok (.aload_n 0, 1) := by decide +kernel
theorem dX11_goes_1 : decode cX11_goes 1 = .ok (.getfield 81, 3) := by decide +kernel
theorem dX11_goes_4 : decode cX11_goes 4 = .ok (.iload_n 1, 1) := by decide +kernel
theorem dX11_goes_5 : decode cX11_goes 5 = .ok (.iaload, 1) := by decide +kernel
theorem dX11_goes_6 : decode cX11_goes 6 = .ok (.istore_n 2, 1) := by decide +kernel
theorem dX11_goes_7 : decode cX11_goes 7 = .ok (.aload_n 0, 1) := by decide +kernel
theorem dX11_goes_8 : decode cX11_goes 8 = .ok (.getfield 78, 3) := by decide +kernel
theorem dX11_goes_11 : decode cX11_goes 11 = .ok (.iload_n 1, 1) := by decide +kernel
theorem dX11_goes_12 : decode cX11_goes 12 = .ok (.iaload, 1) := by decide +kernel
theorem dX11_goes_13 : decode cX11_goes 13 = .ok (.istore_n 3, 1) := by decide +kernel
theorem dX11_goes_14 : decode cX11_goes 14 = .ok (.iload_n 3, 1) := by decide +kernel
theorem dX11_goes_15 : decode cX11_goes 15 = .ok (.ifCond .ne 21, 3) := by decide +kernel
theorem dX11_goes_18 : decode cX11_goes 18 = .ok (.aload_n 0, 1) := by decide +kernel
theorem dX11_goes_19 : decode cX11_goes 19 = .ok (.iload_n 2, 1) := by decide +kernel
theorem dX11_goes_20 : decode cX11_goes 20 = .ok (.invokevirtual 380, 3) := by decide +kernel
theorem dX11_goes_23 : decode cX11_goes 23 = .ok (.ifCond .ne 5, 3) := by decide +kernel
theorem dX11_goes_26 : decode cX11_goes 26 = .ok (.iconst 0, 1) := by decide +kernel
theorem dX11_goes_27 : decode cX11_goes 27 = .ok (.ireturn, 1) := by decide +kernel
theorem dX11_goes_28 : decode cX11_goes 28 = .ok (.aload_n 0, 1) := by decide +kernel
theorem dX11_goes_29 : decode cX11_goes 29 = .ok (.iload_n 2, 1) := by decide +kernel
theorem dX11_goes_30 : decode cX11_goes 30 = .ok (.invokevirtual 386, 3) := by decide +kernel
theorem dX11_goes_33 : decode cX11_goes 33 = .ok (.goto 70, 3) := by decide +kernel
theorem dX11_goes_36 : decode cX11_goes 36 = .ok (.iload_n 3, 1) := by decide +kernel
theorem dX11_goes_37 : decode cX11_goes 37 = .ok (.iconst 1, 1) := by decide +kernel
theorem dX11_goes_38 : decode cX11_goes 38 = .ok (.if_icmp .ne 21, 3) := by decide +kernel
theorem dX11_goes_41 : decode cX11_goes 41 = .ok (.aload_n 0, 1) := by decide +kernel
theorem dX11_goes_42 : decode cX11_goes 42 = .ok (.iload_n 2, 1) := by decide +kernel
theorem dX11_goes_43 : decode cX11_goes 43 = .ok (.invokevirtual 324, 3) := by decide +kernel
theorem dX11_goes_46 : decode cX11_goes 46 = .ok (.ifCond .ge 5, 3) := by decide +kernel
theorem dX11_goes_49 : decode cX11_goes 49 = .ok (.iconst 0, 1) := by decide +kernel
theorem dX11_goes_50 : decode cX11_goes 50 = .ok (.ireturn, 1) := by decide +kernel
theorem dX11_goes_51 : decode cX11_goes 51 = .ok (.aload_n 0, 1) := by decide +kernel
theorem dX11_goes_52 : decode cX11_goes 52 = .ok (.iload_n 2, 1) := by decide +kernel
theorem dX11_goes_53 : decode cX11_goes 53 = .ok (.invokevirtual 361, 3) := by decide +kernel
theorem dX11_goes_56 : decode cX11_goes 56 = .ok (.goto 47, 3) := by decide +kernel
theorem dX11_goes_59 : decode cX11_goes 59 = .ok (.iload_n 3, 1) := by decide +kernel
theorem dX11_goes_60 : decode cX11_goes 60 = .ok (.iconst 2, 1) := by decide +kernel
theorem dX11_goes_61 : decode cX11_goes 61 = .ok (.if_icmp .ne 25, 3) := by decide +kernel
theorem dX11_goes_64 : decode cX11_goes 64 = .ok (.aload_n 0, 1) := by decide +kernel
theorem dX11_goes_65 : decode cX11_goes 65 = .ok (.getfield 93, 3) := by decide +kernel
theorem dX11_goes_68 : decode cX11_goes 68 = .ok (.iconst 1, 1) := by decide +kernel
theorem dX11_goes_69 : decode cX11_goes 69 = .ok (.bipush 60, 2) := by decide +kernel
theorem dX11_goes_71 : decode cX11_goes 71 = .ok (.aload_n 0, 1) := by decide +kernel
theorem dX11_goes_72 : decode cX11_goes 72 = .ok (.getfield 93, 3) := by decide +kernel
theorem dX11_goes_75 : decode cX11_goes 75 = .ok (.iconst 1, 1) := by decide +kernel
theorem dX11_goes_76 : decode cX11_goes 76 = .ok (.iaload, 1) := by decide +kernel
theorem dX11_goes_77 : decode cX11_goes 77 = .ok (.iload_n 2, 1) := by decide +kernel
theorem dX11_goes_78 : decode cX11_goes 78 = .ok (.iadd, 1) := by decide +kernel
theorem dX11_goes_79 : decode cX11_goes 79 = .ok (.invokestatic 389, 3) := by decide +kernel
theorem dX11_goes_82 : decode cX11_goes 82 = .ok (.iastore, 1) := by decide +kernel
theorem dX11_goes_83 : decode cX11_goes 83 = .ok (.goto 20, 3) := by decide +kernel
theorem dX11_goes_86 : decode cX11_goes 86 = .ok (.iload_n 3, 1) := by decide +kernel
theorem dX11_goes_87 : decode cX11_goes 87 = .ok (.iconst 3, 1) := by decide +kernel
theorem dX11_goes_88 : decode cX11_goes 88 = .ok (.if_icmp .ne 11, 3) := by decide +kernel
theorem dX11_goes_91 : decode cX11_goes 91 = .ok (.aload_n 0, 1) := by decide +kernel
theorem dX11_goes_92 : decode cX11_goes 92 = .ok (.invokevirtual 370, 3) := by decide +kernel
theorem dX11_goes_95 : decode cX11_goes 95 = .ok (.pop, 1) := by decide +kernel
theorem dX11_goes_96 : decode cX11_goes 96 = .ok (.goto 7, 3) := by decide +kernel
theorem dX11_goes_99 : decode cX11_goes 99 = .ok (.aload_n 0, 1) := by decide +kernel
theorem dX11_goes_100 : decode cX11_goes 100 = .ok (.invokevirtual 392, 3) := by decide +kernel
theorem dX11_goes_103 : decode cX11_goes 103 = .ok (.iconst 1, 1) := by decide +kernel
theorem dX11_goes_104 : decode cX11_goes 104 = .ok (.ireturn, 1) := by decide +kernel
theorem dX11_judged_0 : decode cX11_judged 0 = .ok (.aload_n 0, 1) := by decide +kernel
theorem dX11_judged_1 : decode cX11_judged 1 = .ok (.iconst 0, 1) := by decide +kernel
theorem dX11_judged_2 : decode cX11_judged 2 = .ok (.putfield 137, 3) := by decide +kernel
theorem dX11_judged_5 : decode cX11_judged 5 = .ok (.iload_n 1, 1) := by decide +kernel
theorem dX11_judged_6 : decode cX11_judged 6 = .ok (.iconst 0, 1) := by decide +kernel
theorem dX11_judged_7 : decode cX11_judged 7 = .ok (.iconst 2, 1) := by decide +kernel
theorem dX11_judged_8 : decode cX11_judged 8 = .ok (.invokestatic 254, 3) := by decide +kernel
theorem dX11_judged_11 : decode cX11_judged 11 = .ok (.ifCond .ne 6, 3) := by decide +kernel
theorem dX11_judged_14 : decode cX11_judged 14 = .ok (.bipush (-2), 2) := by decide +kernel
theorem dX11_judged_16 : decode cX11_judged 16 = .ok (.ireturn, 1) := by decide +kernel
theorem dX11_judged_17 : decode cX11_judged 17 = .ok (.aload_n 0, 1) := by decide +kernel
theorem dX11_judged_18 : decode cX11_judged 18 = .ok (.getfield 93, 3) := by decide +kernel
theorem dX11_judged_21 : decode cX11_judged 21 = .ok (.iconst 0, 1) := by decide +kernel
theorem dX11_judged_22 : decode cX11_judged 22 = .ok (.aload_n 0, 1) := by decide +kernel
theorem dX11_judged_23 : decode cX11_judged 23 = .ok (.getfield 96, 3) := by decide +kernel
theorem dX11_judged_26 : decode cX11_judged 26 = .ok (.iconst 0, 1) := by decide +kernel
theorem dX11_judged_27 : decode cX11_judged 27 = .ok (.invokestatic 376, 3) := by decide +kernel
theorem dX11_judged_30 : decode cX11_judged 30 = .ok (.aload_n 0, 1) := by decide +kernel
theorem dX11_judged_31 : decode cX11_judged 31 = .ok (.invokevirtual 134, 3) := by decide +kernel
theorem dX11_judged_34 : decode cX11_judged 34 = .ok (.aload_n 0, 1) := by decide +kernel
theorem dX11_judged_35 : decode cX11_judged 35 = .ok (.aload_n 0, 1) := by decide +kernel
theorem dX11_judged_36 : decode cX11_judged 36 = .ok (.getfield 13, 3) := by decide +kernel
theorem dX11_judged_39 : decode cX11_judged 39 = .ok (.iconst 2, 1) := by decide +kernel
theorem dX11_judged_40 : decode cX11_judged 40 = .ok (.iaload, 1) := by decide +kernel
theorem dX11_judged_41 : decode cX11_judged 41 = .ok (.putfield 117, 3) := by decide +kernel
theorem dX11_judged_44 : decode cX11_judged 44 = .ok (.iconst (-1), 1) := by decide +kernel
theorem dX11_judged_45 : decode cX11_judged 45 = .ok (.istore_n 2, 1) := by decide +kernel
theorem dX11_judged_46 : decode cX11_judged 46 = .ok (.iconst (-1), 1) := by decide +kernel
theorem dX11_judged_47 : decode cX11_judged 47 = .ok (.istore_n 3, 1) := by decide +kernel
theorem dX11_judged_48 : decode cX11_judged 48 = .ok (.iconst 0, 1) := by decide +kernel
theorem dX11_judged_49 : decode cX11_judged 49 = .ok (.istore 4, 2) := by decide +kernel
theorem dX11_judged_51 : decode cX11_judged 51 = .ok (.iload 4, 2) := by decide +kernel
theorem dX11_judged_53 : decode cX11_judged 53 = .ok (.aload_n 0, 1) := by decide +kernel
theorem dX11_judged_54 : decode cX11_judged 54 = .ok (.getfield 75, 3) := by decide +kernel
theorem dX11_judged_57 : decode cX11_judged 57 = .ok (.iconst 0, 1) := by decide +kernel
theorem dX11_judged_58 : decode cX11_judged 58 = .ok (.iaload, 1) := by decide +kernel
theorem dX11_judged_59 : decode cX11_judged 59 = .ok (.if_icmp .ge 51, 3) := by decide +kernel
theorem dX11_judged_62 : decode cX11_judged 62 = .ok (.aload_n 0, 1) := by decide +kernel
theorem dX11_judged_63 : decode cX11_judged 63 = .ok (.getfield 93, 3) := by decide +kernel
theorem dX11_judged_66 : decode cX11_judged 66 = .ok (.iconst 3, 1) := by decide +kernel
theorem dX11_judged_67 : decode cX11_judged 67 = .ok (.iaload, 1) := by decide +kernel
theorem dX11_judged_68 : decode cX11_judged 68 = .ok (.istore 5, 2) := by decide +kernel
theorem dX11_judged_70 : decode cX11_judged 70 = .ok (.aload_n 0, 1) := by decide +kernel
theorem dX11_judged_71 : decode cX11_judged 71 = .ok (.iload 4, 2) := by decide +kernel
theorem dX11_judged_73 : decode cX11_judged 73 = .ok (.invokevirtual 395, 3) := by decide +kernel
theorem dX11_judged_76 : decode cX11_judged 76 = .ok (.ifCond .ne 10, 3) := by decide +kernel
theorem dX11_judged_79 : decode cX11_judged 79 = .ok (.iload_n 2, 1) := by decide +kernel
theorem dX11_judged_80 : decode cX11_judged 80 = .ok (.ifCond .ge 6, 3) := by decide +kernel
theorem dX11_judged_83 : decode cX11_judged 83 = .ok (.iload 4, 2) := by decide +kernel
theorem dX11_judged_85 : decode cX11_judged 85 = .ok (.istore_n 2, 1) := by decide +kernel
theorem dX11_judged_86 : decode cX11_judged 86 = .ok (.aload_n 0, 1) := by decide +kernel
theorem dX11_judged_87 : decode cX11_judged 87 = .ok (.getfield 93, 3) := by decide +kernel
theorem dX11_judged_90 : decode cX11_judged 90 = .ok (.iconst 3, 1) := by decide +kernel
theorem dX11_judged_91 : decode cX11_judged 91 = .ok (.iaload, 1) := by decide +kernel
theorem dX11_judged_92 : decode cX11_judged 92 = .ok (.iload 5, 2) := by decide +kernel
theorem dX11_judged_94 : decode cX11_judged 94 = .ok (.if_icmp .eq 10, 3) := by decide +kernel
theorem dX11_judged_97 : decode cX11_judged 97 = .ok (.iload_n 3, 1) := by decide +kernel
theorem dX11_judged_98 : decode cX11_judged 98 = .ok (.ifCond .ge 6, 3) := by decide +kernel
theorem dX11_judged_101 : decode cX11_judged 101 = .ok (.iload 4, 2) := by decide +kernel
theorem dX11_judged_103 : decode cX11_judged 103 = .ok (.istore_n 3, 1) := by decide +kernel
theorem dX11_judged_104 : decode cX11_judged 104 = .ok (.iinc 4 1, 3) := by decide +kernel
theorem dX11_judged_107 : decode cX11_judged 107 = .ok (.goto (-56), 3) := by decide +kernel
theorem dX11_judged_110 : decode cX11_judged 110 = .ok (.aload_n 0, 1) := by decide +kernel
theorem dX11_judged_111 : decode cX11_judged 111 = .ok (.getfield 93, 3) := by decide +kernel
theorem dX11_judged_114 : decode cX11_judged 114 = .ok (.iconst 3, 1) := by decide +kernel
theorem dX11_judged_115 : decode cX11_judged 115 = .ok (.iaload, 1) := by decide +kernel
theorem dX11_judged_116 : decode cX11_judged 116 = .ok (.invokestatic 398, 3) := by decide +kernel
theorem dX11_judged_119 : decode cX11_judged 119 = .ok (.istore 4, 2) := by decide +kernel
theorem dX11_judged_121 : decode cX11_judged 121 = .ok (.aload_n 0, 1) := by decide +kernel
theorem dX11_judged_122 : decode cX11_judged 122 = .ok (.getfield 96, 3) := by decide +kernel
theorem dX11_judged_125 : decode cX11_judged 125 = .ok (.iconst 0, 1) := by decide +kernel
theorem dX11_judged_126 : decode cX11_judged 126 = .ok (.aload_n 0, 1) := by decide +kernel
theorem dX11_judged_127 : decode cX11_judged 127 = .ok (.getfield 93, 3) := by decide +kernel
theorem dX11_judged_130 : decode cX11_judged 130 = .ok (.iconst 0, 1) := by decide +kernel
theorem dX11_judged_131 : decode cX11_judged 131 = .ok (.invokestatic 376, 3) := by decide +kernel
theorem dX11_judged_134 : decode cX11_judged 134 = .ok (.iload_n 1, 1) := by decide +kernel
theorem dX11_judged_135 : decode cX11_judged 135 = .ok (.ifCond .ne 7, 3) := by decide +kernel
theorem dX11_judged_138 : decode cX11_judged 138 = .ok (.iload_n 2, 1) := by decide +kernel
theorem dX11_judged_139 : decode cX11_judged 139 = .ok (.goto 14, 3) := by decide +kernel
theorem dX11_judged_142 : decode cX11_judged 142 = .ok (.iload_n 1, 1) := by decide +kernel
theorem dX11_judged_143 : decode cX11_judged 143 = .ok (.iconst 1, 1) := by decide +kernel
theorem dX11_judged_144 : decode cX11_judged 144 = .ok (.if_icmp .ne 7, 3) := by decide +kernel
theorem dX11_judged_147 : decode cX11_judged 147 = .ok (.iload_n 3, 1) := by decide +kernel
theorem dX11_judged_148 : decode cX11_judged 148 = .ok (.goto 5, 3) := by decide +kernel
theorem dX11_judged_151 : decode cX11_judged 151 = .ok (.iload 4, 2) := by decide +kernel
theorem dX11_judged_153 : decode cX11_judged 153 = .ok (.ireturn, 1) := by decide +kernel
theorem dX11_leap_0 : decode cX11_leap 0 = .ok (.aload_n 0, 1) := by decide +kernel
theorem dX11_leap_1 : decode cX11_leap 1 = .ok (.iconst 0, 1) := by decide +kernel
theorem dX11_leap_2 : decode cX11_leap 2 = .ok (.putfield 137, 3) := by decide +kernel
theorem dX11_leap_5 : decode cX11_leap 5 = .ok (.iload_n 1, 1) := by decide +kernel
theorem dX11_leap_6 : decode cX11_leap 6 = .ok (.iconst 1, 1) := by decide +kernel
theorem dX11_leap_7 : decode cX11_leap 7 = .ok (.sipush 4000, 3) := by decide +kernel
theorem dX11_leap_10 : decode cX11_leap 10 = .ok (.invokestatic 254, 3) := by decide +kernel
theorem dX11_leap_13 : decode cX11_leap 13 = .ok (.ifCond .ne 7, 3) := by decide +kernel
theorem dX11_leap_16 : decode cX11_leap 16 = .ok (.iconst (-1), 1) := by decide +kernel
theorem dX11_leap_17 : decode cX11_leap 17 = .ok (.goto 15, 3) := by decide +kernel
theorem dX11_leap_20 : decode cX11_leap 20 = .ok (.iload_n 1, 1) := by decide +kernel
theorem dX11_leap_21 : decode cX11_leap 21 = .ok (.invokestatic 321, 3) := by decide +kernel
theorem dX11_leap_24 : decode cX11_leap 24 = .ok (.ifCond .eq 7, 3) := by decide +kernel
theorem dX11_leap_27 : decode cX11_leap 27 = .ok (.iconst 1, 1) := by decide +kernel
theorem dX11_leap_28 : decode cX11_leap 28 = .ok (.goto 4, 3) := by decide +kernel
theorem dX11_leap_31 : decode cX11_leap 31 = .ok (.iconst 0, 1) := by decide +kernel
theorem dX11_leap_32 : decode cX11_leap 32 = .ok (.ireturn, 1) := by decide +kernel
theorem dX11_between_0 : decode cX11_between 0 = .ok (.aload_n 0, 1) := by decide +kernel
theorem dX11_between_1 : decode cX11_between 1 = .ok (.iconst 0, 1) := by decide +kernel
theorem dX11_between_2 : decode cX11_between 2 = .ok (.putfield 137, 3) := by decide +kernel
theorem dX11_between_5 : decode cX11_between 5 = .ok (.iload_n 1, 1) := by decide +kernel
theorem dX11_between_6 : decode cX11_between 6 = .ok (.iconst 1, 1) := by decide +kernel
theorem dX11_between_7 : decode cX11_between 7 = .ok (.sipush 4000, 3) := by decide +kernel
theorem dX11_between_10 : decode cX11_between 10 = .ok (.invokestatic 254, 3) := by decide +kernel
theorem dX11_between_13 : decode cX11_between 13 = .ok (.ifCond .eq 26, 3) := by decide +kernel
theorem dX11_between_16 : decode cX11_between 16 = .ok (.iload_n 2, 1) := by decide +kernel
theorem dX11_between_17 : decode cX11_between 17 = .ok (.iload_n 1, 1) := by decide +kernel
theorem dX11_between_18 : decode cX11_between 18 = .ok (.sipush 4000, 3) := by decide +kernel
theorem dX11_between_21 : decode cX11_between 21 = .ok (.invokestatic 254, 3) := by decide +kernel
theorem dX11_between_24 : decode cX11_between 24 = .ok (.ifCond .eq 15, 3) := by decide +kernel
theorem dX11_between_27 : decode cX11_between 27 = .ok (.iload_n 2, 1) := by decide +kernel
theorem dX11_between_28 : decode cX11_between 28 = .ok (.invokestatic 401, 3) := by decide +kernel
theorem dX11_between_31 : decode cX11_between 31 = .ok (.iload_n 1, 1) := by decide +kernel
theorem dX11_between_32 : decode cX11_between 32 = .ok (.invokestatic 401, 3) := by decide +kernel
theorem dX11_between_35 : decode cX11_between 35 = .ok (.isub, 1) := by decide +kernel
theorem dX11_between_36 : decode cX11_between 36 = .ok (.goto 4, 3) := by decide +kernel
theorem dX11_between_39 : decode cX11_between 39 = .ok (.iconst (-1), 1) := by decide +kernel
theorem dX11_between_40 : decode cX11_between 40 = .ok (.ireturn, 1) := by decide +kernel
theorem dX11_nextLeap_0 : decode cX11_nextLeap 0 = .ok (.iload_n 0, 1) := by decide +kernel
theorem dX11_nextLeap_1 : decode cX11_nextLeap 1 = .ok (.iconst 1, 1) := by decide +kernel
theorem dX11_nextLeap_2 : decode cX11_nextLeap 2 = .ok (.iadd, 1) := by decide +kernel
theorem dX11_nextLeap_3 : decode cX11_nextLeap 3 = .ok (.istore_n 1, 1) := by decide +kernel
theorem dX11_nextLeap_4 : decode cX11_nextLeap 4 = .ok (.iload_n 1, 1) := by decide +kernel
theorem dX11_nextLeap_5 : decode cX11_nextLeap 5 = .ok (.invokestatic 321, 3) := by decide +kernel
theorem dX11_nextLeap_8 : decode cX11_nextLeap 8 = .ok (.ifCond .ne 9, 3) := by decide +kernel
theorem dX11_nextLeap_11 : decode cX11_nextLeap 11 = .ok (.iinc 1 1, 3) := by decide +kernel
theorem dX11_nextLeap_14 : decode cX11_nextLeap 14 = .ok (.goto (-10), 3) := by decide +kernel
theorem dX11_nextLeap_17 : decode cX11_nextLeap 17 = .ok (.iload_n 1, 1) := by decide +kernel
theorem dX11_nextLeap_18 : decode cX11_nextLeap 18 = .ok (.ireturn, 1) := by decide +kernel
theorem dX11_next_0 : decode cX11_next 0 = .ok (.aload_n 0, 1) := by decide +kernel
theorem dX11_next_1 : decode cX11_next 1 = .ok (.iconst 0, 1) := by decide +kernel
theorem dX11_next_2 : decode cX11_next 2 = .ok (.putfield 137, 3) := by decide +kernel
theorem dX11_next_5 : decode cX11_next 5 = .ok (.iload_n 1, 1) := by decide +kernel
theorem dX11_next_6 : decode cX11_next 6 = .ok (.iconst 1, 1) := by decide +kernel
theorem dX11_next_7 : decode cX11_next 7 = .ok (.sipush 4000, 3) := by decide +kernel
theorem dX11_next_10 : decode cX11_next 10 = .ok (.invokestatic 254, 3) := by decide +kernel
theorem dX11_next_13 : decode cX11_next 13 = .ok (.ifCond .eq 10, 3) := by decide +kernel
theorem dX11_next_16 : decode cX11_next 16 = .ok (.iload_n 1, 1) := by decide +kernel
theorem dX11_next_17 : decode cX11_next 17 = .ok (.invokestatic 404, 3) := by decide +kernel
theorem dX11_next_20 : decode cX11_next 20 = .ok (.goto 4, 3) := by decide +kernel
theorem dX11_next_23 : decode cX11_next 23 = .ok (.iconst (-1), 1) := by decide +kernel
theorem dX11_next_24 : decode cX11_next 24 = .ok (.ireturn, 1) := by decide +kernel
theorem dX11_weekdayOf_0 : decode cX11_weekdayOf 0 = .ok (.sipush 365, 3) := by decide +kernel
theorem dX11_weekdayOf_3 : decode cX11_weekdayOf 3 = .ok (.iload_n 0, 1) := by decide +kernel
theorem dX11_weekdayOf_4 : decode cX11_weekdayOf 4 = .ok (.iconst 1, 1) := by decide +kernel
theorem dX11_weekdayOf_5 : decode cX11_weekdayOf 5 = .ok (.isub, 1) := by decide +kernel
theorem dX11_weekdayOf_6 : decode cX11_weekdayOf 6 = .ok (.imul, 1) := by decide +kernel
theorem dX11_weekdayOf_7 : decode cX11_weekdayOf 7 = .ok (.iload_n 0, 1) := by decide +kernel
theorem dX11_weekdayOf_8 : decode cX11_weekdayOf 8 = .ok (.iconst 1, 1) := by decide +kernel
theorem dX11_weekdayOf_9 : decode cX11_weekdayOf 9 = .ok (.isub, 1) := by decide +kernel
theorem dX11_weekdayOf_10 : decode cX11_weekdayOf 10 = .ok (.invokestatic 401, 3) := by decide +kernel
theorem dX11_weekdayOf_13 : decode cX11_weekdayOf 13 = .ok (.iadd, 1) := by decide +kernel
theorem dX11_weekdayOf_14 : decode cX11_weekdayOf 14 = .ok (.bipush 60, 2) := by decide +kernel
theorem dX11_weekdayOf_16 : decode cX11_weekdayOf 16 = .ok (.iadd, 1) := by decide +kernel
theorem dX11_weekdayOf_17 : decode cX11_weekdayOf 17 = .ok (.bipush 7, 2) := by decide +kernel
theorem dX11_weekdayOf_19 : decode cX11_weekdayOf 19 = .ok (.irem, 1) := by decide +kernel
theorem dX11_weekdayOf_20 : decode cX11_weekdayOf 20 = .ok (.ireturn, 1) := by decide +kernel
theorem dX11_weekday_0 : decode cX11_weekday 0 = .ok (.aload_n 0, 1) := by decide +kernel
theorem dX11_weekday_1 : decode cX11_weekday 1 = .ok (.iconst 0, 1) := by decide +kernel
theorem dX11_weekday_2 : decode cX11_weekday 2 = .ok (.putfield 137, 3) := by decide +kernel
theorem dX11_weekday_5 : decode cX11_weekday 5 = .ok (.iload_n 1, 1) := by decide +kernel
theorem dX11_weekday_6 : decode cX11_weekday 6 = .ok (.iconst 1, 1) := by decide +kernel
theorem dX11_weekday_7 : decode cX11_weekday 7 = .ok (.sipush 4000, 3) := by decide +kernel
theorem dX11_weekday_10 : decode cX11_weekday 10 = .ok (.invokestatic 254, 3) := by decide +kernel
theorem dX11_weekday_13 : decode cX11_weekday 13 = .ok (.ifCond .eq 17, 3) := by decide +kernel
theorem dX11_weekday_16 : decode cX11_weekday 16 = .ok (.iload_n 1, 1) := by decide +kernel
theorem dX11_weekday_17 : decode cX11_weekday 17 = .ok (.invokestatic 321, 3) := by decide +kernel
theorem dX11_weekday_20 : decode cX11_weekday 20 = .ok (.ifCond .eq 10, 3) := by decide +kernel
theorem dX11_weekday_23 : decode cX11_weekday 23 = .ok (.iload_n 1, 1) := by decide +kernel
theorem dX11_weekday_24 : decode cX11_weekday 24 = .ok (.invokestatic 407, 3) := by decide +kernel
theorem dX11_weekday_27 : decode cX11_weekday 27 = .ok (.goto 4, 3) := by decide +kernel
theorem dX11_weekday_30 : decode cX11_weekday 30 = .ok (.iconst (-1), 1) := by decide +kernel
theorem dX11_weekday_31 : decode cX11_weekday 31 = .ok (.ireturn, 1) := by decide +kernel
theorem dX11_cycle_0 : decode cX11_cycle 0 = .ok (.aload_n 0, 1) := by decide +kernel
theorem dX11_cycle_1 : decode cX11_cycle 1 = .ok (.iconst 0, 1) := by decide +kernel
theorem dX11_cycle_2 : decode cX11_cycle 2 = .ok (.putfield 137, 3) := by decide +kernel
theorem dX11_cycle_5 : decode cX11_cycle 5 = .ok (.iload_n 1, 1) := by decide +kernel
theorem dX11_cycle_6 : decode cX11_cycle 6 = .ok (.iconst 1, 1) := by decide +kernel
theorem dX11_cycle_7 : decode cX11_cycle 7 = .ok (.sipush 4000, 3) := by decide +kernel
theorem dX11_cycle_10 : decode cX11_cycle 10 = .ok (.invokestatic 254, 3) := by decide +kernel
theorem dX11_cycle_13 : decode cX11_cycle 13 = .ok (.ifCond .eq 10, 3) := by decide +kernel
theorem dX11_cycle_16 : decode cX11_cycle 16 = .ok (.iload_n 1, 1) := by decide +kernel
theorem dX11_cycle_17 : decode cX11_cycle 17 = .ok (.invokestatic 321, 3) := by decide +kernel
theorem dX11_cycle_20 : decode cX11_cycle 20 = .ok (.ifCond .ne 5, 3) := by decide +kernel
theorem dX11_cycle_23 : decode cX11_cycle 23 = .ok (.iconst (-1), 1) := by decide +kernel
theorem dX11_cycle_24 : decode cX11_cycle 24 = .ok (.ireturn, 1) := by decide +kernel
theorem dX11_cycle_25 : decode cX11_cycle 25 = .ok (.iload_n 1, 1) := by decide +kernel
theorem dX11_cycle_26 : decode cX11_cycle 26 = .ok (.invokestatic 404, 3) := by decide +kernel
theorem dX11_cycle_29 : decode cX11_cycle 29 = .ok (.istore_n 2, 1) := by decide +kernel
theorem dX11_cycle_30 : decode cX11_cycle 30 = .ok (.iload_n 2, 1) := by decide +kernel
theorem dX11_cycle_31 : decode cX11_cycle 31 = .ok (.invokestatic 407, 3) := by decide +kernel
theorem dX11_cycle_34 : decode cX11_cycle 34 = .ok (.iload_n 1, 1) := by decide +kernel
theorem dX11_cycle_35 : decode cX11_cycle 35 = .ok (.invokestatic 407, 3) := by decide +kernel
theorem dX11_cycle_38 : decode cX11_cycle 38 = .ok (.if_icmp .eq 11, 3) := by decide +kernel
theorem dX11_cycle_41 : decode cX11_cycle 41 = .ok (.iload_n 2, 1) := by decide +kernel
theorem dX11_cycle_42 : decode cX11_cycle 42 = .ok (.invokestatic 404, 3) := by decide +kernel
theorem dX11_cycle_45 : decode cX11_cycle 45 = .ok (.istore_n 2, 1) := by decide +kernel
theorem dX11_cycle_46 : decode cX11_cycle 46 = .ok (.goto (-16), 3) := by decide +kernel
theorem dX11_cycle_49 : decode cX11_cycle 49 = .ok (.iload_n 2, 1) := by decide +kernel
theorem dX11_cycle_50 : decode cX11_cycle 50 = .ok (.ireturn, 1) := by decide +kernel
theorem dX11_lastday_0 : decode cX11_lastday 0 = .ok (.aload_n 0, 1) := by decide +kernel
theorem dX11_lastday_1 : decode cX11_lastday 1 = .ok (.iconst 0, 1) := by decide +kernel
theorem dX11_lastday_2 : decode cX11_lastday 2 = .ok (.putfield 137, 3) := by decide +kernel
theorem dX11_lastday_5 : decode cX11_lastday 5 = .ok (.aload_n 0, 1) := by decide +kernel
theorem dX11_lastday_6 : decode cX11_lastday 6 = .ok (.iload_n 1, 1) := by decide +kernel
theorem dX11_lastday_7 : decode cX11_lastday 7 = .ok (.invokevirtual 373, 3) := by decide +kernel
theorem dX11_lastday_10 : decode cX11_lastday 10 = .ok (.ifCond .eq 13, 3) := by decide +kernel
theorem dX11_lastday_13 : decode cX11_lastday 13 = .ok (.aload_n 0, 1) := by decide +kernel
theorem dX11_lastday_14 : decode cX11_lastday 14 = .ok (.getfield 20, 3) := by decide +kernel
theorem dX11_lastday_17 : decode cX11_lastday 17 = .ok (.iload_n 1, 1) := by decide +kernel
theorem dX11_lastday_18 : decode cX11_lastday 18 = .ok (.iaload, 1) := by decide +kernel
theorem dX11_lastday_19 : decode cX11_lastday 19 = .ok (.iconst 2, 1) := by decide +kernel
theorem dX11_lastday_20 : decode cX11_lastday 20 = .ok (.if_icmp .ne 5, 3) := by decide +kernel
theorem dX11_lastday_23 : decode cX11_lastday 23 = .ok (.iconst (-1), 1) := by decide +kernel
theorem dX11_lastday_24 : decode cX11_lastday 24 = .ok (.ireturn, 1) := by decide +kernel
theorem dX11_lastday_25 : decode cX11_lastday 25 = .ok (.aload_n 0, 1) := by decide +kernel
theorem dX11_lastday_26 : decode cX11_lastday 26 = .ok (.getfield 23, 3) := by decide +kernel
theorem dX11_lastday_29 : decode cX11_lastday 29 = .ok (.iload_n 1, 1) := by decide +kernel
theorem dX11_lastday_30 : decode cX11_lastday 30 = .ok (.iaload, 1) := by decide +kernel
theorem dX11_lastday_31 : decode cX11_lastday 31 = .ok (.aload_n 0, 1) := by decide +kernel
theorem dX11_lastday_32 : decode cX11_lastday 32 = .ok (.getfield 13, 3) := by decide +kernel
theorem dX11_lastday_35 : decode cX11_lastday 35 = .ok (.iconst 3, 1) := by decide +kernel
theorem dX11_lastday_36 : decode cX11_lastday 36 = .ok (.iaload, 1) := by decide +kernel
theorem dX11_lastday_37 : decode cX11_lastday 37 = .ok (.iadd, 1) := by decide +kernel
theorem dX11_lastday_38 : decode cX11_lastday 38 = .ok (.iconst 1, 1) := by decide +kernel
theorem dX11_lastday_39 : decode cX11_lastday 39 = .ok (.isub, 1) := by decide +kernel
theorem dX11_lastday_40 : decode cX11_lastday 40 = .ok (.istore_n 2, 1) := by decide +kernel
theorem dX11_lastday_41 : decode cX11_lastday 41 = .ok (.iload_n 2, 1) := by decide +kernel
theorem dX11_lastday_42 : decode cX11_lastday 42 = .ok (.aload_n 0, 1) := by decide +kernel
theorem dX11_lastday_43 : decode cX11_lastday 43 = .ok (.getfield 23, 3) := by decide +kernel
theorem dX11_lastday_46 : decode cX11_lastday 46 = .ok (.iload_n 1, 1) := by decide +kernel
theorem dX11_lastday_47 : decode cX11_lastday 47 = .ok (.iaload, 1) := by decide +kernel
theorem dX11_lastday_48 : decode cX11_lastday 48 = .ok (.if_icmp .lt 16, 3) := by decide +kernel
theorem dX11_lastday_51 : decode cX11_lastday 51 = .ok (.iload_n 2, 1) := by decide +kernel
theorem dX11_lastday_52 : decode cX11_lastday 52 = .ok (.invokestatic 321, 3) := by decide +kernel
theorem dX11_lastday_55 : decode cX11_lastday 55 = .ok (.ifCond .ne 9, 3) := by decide +kernel
theorem dX11_lastday_58 : decode cX11_lastday 58 = .ok (.iinc 2 (-1), 3) := by decide +kernel
theorem dX11_lastday_61 : decode cX11_lastday 61 = .ok (.goto (-20), 3) := by decide +kernel
theorem dX11_lastday_64 : decode cX11_lastday 64 = .ok (.iload_n 2, 1) := by decide +kernel
theorem dX11_lastday_65 : decode cX11_lastday 65 = .ok (.aload_n 0, 1) := by decide +kernel
theorem dX11_lastday_66 : decode cX11_lastday 66 = .ok (.getfield 23, 3) := by decide +kernel
theorem dX11_lastday_69 : decode cX11_lastday 69 = .ok (.iload_n 1, 1) := by decide +kernel
theorem dX11_lastday_70 : decode cX11_lastday 70 = .ok (.iaload, 1) := by decide +kernel
theorem dX11_lastday_71 : decode cX11_lastday 71 = .ok (.if_icmp .lt 7, 3) := by decide +kernel
theorem dX11_lastday_74 : decode cX11_lastday 74 = .ok (.iload_n 2, 1) := by decide +kernel
theorem dX11_lastday_75 : decode cX11_lastday 75 = .ok (.goto 4, 3) := by decide +kernel
theorem dX11_lastday_78 : decode cX11_lastday 78 = .ok (.iconst (-1), 1) := by decide +kernel
theorem dX11_lastday_79 : decode cX11_lastday 79 = .ok (.ireturn, 1) := by decide +kernel
theorem dX11_gate_0 : decode cX11_gate 0 = .ok (.aload_n 0, 1) := by decide +kernel
theorem dX11_gate_1 : decode cX11_gate 1 = .ok (.iconst 0, 1) := by decide +kernel
theorem dX11_gate_2 : decode cX11_gate 2 = .ok (.putfield 137, 3) := by decide +kernel
theorem dX11_gate_5 : decode cX11_gate 5 = .ok (.iload_n 1, 1) := by decide +kernel
theorem dX11_gate_6 : decode cX11_gate 6 = .ok (.iconst 1, 1) := by decide +kernel
theorem dX11_gate_7 : decode cX11_gate 7 = .ok (.sipush 4000, 3) := by decide +kernel
theorem dX11_gate_10 : decode cX11_gate 10 = .ok (.invokestatic 254, 3) := by decide +kernel
theorem dX11_gate_13 : decode cX11_gate 13 = .ok (.ifCond .eq 14, 3) := by decide +kernel
theorem dX11_gate_16 : decode cX11_gate 16 = .ok (.iload_n 2, 1) := by decide +kernel
theorem dX11_gate_17 : decode cX11_gate 17 = .ok (.iload_n 1, 1) := by decide +kernel
theorem dX11_gate_18 : decode cX11_gate 18 = .ok (.sipush 4000, 3) := by decide +kernel
theorem dX11_gate_21 : decode cX11_gate 21 = .ok (.invokestatic 254, 3) := by decide +kernel
theorem dX11_gate_24 : decode cX11_gate 24 = .ok (.ifCond .ne 5, 3) := by decide +kernel
theorem dX11_gate_27 : decode cX11_gate 27 = .ok (.iconst (-1), 1) := by decide +kernel
theorem dX11_gate_28 : decode cX11_gate 28 = .ok (.ireturn, 1) := by decide +kernel
theorem dX11_gate_29 : decode cX11_gate 29 = .ok (.iconst 0, 1) := by decide +kernel
theorem dX11_gate_30 : decode cX11_gate 30 = .ok (.istore_n 3, 1) := by decide +kernel
theorem dX11_gate_31 : decode cX11_gate 31 = .ok (.iload_n 1, 1) := by decide +kernel
theorem dX11_gate_32 : decode cX11_gate 32 = .ok (.invokestatic 321, 3) := by decide +kernel
theorem dX11_gate_35 : decode cX11_gate 35 = .ok (.ifCond .eq 7, 3) := by decide +kernel
theorem dX11_gate_38 : decode cX11_gate 38 = .ok (.iload_n 1, 1) := by decide +kernel
theorem dX11_gate_39 : decode cX11_gate 39 = .ok (.goto 7, 3) := by decide +kernel
theorem dX11_gate_42 : decode cX11_gate 42 = .ok (.iload_n 1, 1) := by decide +kernel
theorem dX11_gate_43 : decode cX11_gate 43 = .ok (.invokestatic 404, 3) := by decide +kernel
theorem dX11_gate_46 : decode cX11_gate 46 = .ok (.istore 4, 2) := by decide +kernel
theorem dX11_gate_48 : decode cX11_gate 48 = .ok (.iload 4, 2) := by decide +kernel
theorem dX11_gate_50 : decode cX11_gate 50 = .ok (.invokestatic 404, 3) := by decide +kernel
theorem dX11_gate_53 : decode cX11_gate 53 = .ok (.iload_n 2, 1) := by decide +kernel
theorem dX11_gate_54 : decode cX11_gate 54 = .ok (.if_icmp .gt 26, 3) := by decide +kernel
theorem dX11_gate_57 : decode cX11_gate 57 = .ok (.iload_n 3, 1) := by decide +kernel
theorem dX11_gate_58 : decode cX11_gate 58 = .ok (.iload 4, 2) := by decide +kernel
theorem dX11_gate_60 : decode cX11_gate 60 = .ok (.invokestatic 404, 3) := by decide +kernel
theorem dX11_gate_63 : decode cX11_gate 63 = .ok (.iload 4, 2) := by decide +kernel
theorem dX11_gate_65 : decode cX11_gate 65 = .ok (.isub, 1) := by decide +kernel
theorem dX11_gate_66 : decode cX11_gate 66 = .ok (.invokestatic 342, 3) := by decide +kernel
theorem dX11_gate_69 : decode cX11_gate 69 = .ok (.istore_n 3, 1) := by decide +kernel
theorem dX11_gate_70 : decode cX11_gate 70 = .ok (.iload 4, 2) := by decide +kernel
theorem dX11_gate_72 : decode cX11_gate 72 = .ok (.invokestatic 404, 3) := by decide +kernel
theorem dX11_gate_75 : decode cX11_gate 75 = .ok (.istore 4, 2) := by decide +kernel
theorem dX11_gate_77 : decode cX11_gate 77 = .ok (.goto (-29), 3) := by decide +kernel
theorem dX11_gate_80 : decode cX11_gate 80 = .ok (.iload_n 3, 1) := by decide +kernel
theorem dX11_gate_81 : decode cX11_gate 81 = .ok (.ireturn, 1) := by decide +kernel
theorem dX11_call_0 : decode cX11_call 0 = .ok (.aload_n 0, 1) := by decide +kernel
theorem dX11_call_1 : decode cX11_call 1 = .ok (.iconst 0, 1) := by decide +kernel
theorem dX11_call_2 : decode cX11_call 2 = .ok (.putfield 137, 3) := by decide +kernel
theorem dX11_call_5 : decode cX11_call 5 = .ok (.iload_n 1, 1) := by decide +kernel
theorem dX11_call_6 : decode cX11_call 6 = .ok (.iconst 0, 1) := by decide +kernel
theorem dX11_call_7 : decode cX11_call 7 = .ok (.aload_n 0, 1) := by decide +kernel
theorem dX11_call_8 : decode cX11_call 8 = .ok (.getfield 93, 3) := by decide +kernel
theorem dX11_call_11 : decode cX11_call 11 = .ok (.iconst 2, 1) := by decide +kernel
theorem dX11_call_12 : decode cX11_call 12 = .ok (.iaload, 1) := by decide +kernel
theorem dX11_call_13 : decode cX11_call 13 = .ok (.iconst 1, 1) := by decide +kernel
theorem dX11_call_14 : decode cX11_call 14 = .ok (.isub, 1) := by decide +kernel
theorem dX11_call_15 : decode cX11_call 15 = .ok (.invokestatic 254, 3) := by decide +kernel
theorem dX11_call_18 : decode cX11_call 18 = .ok (.ifCond .ne 5, 3) := by decide +kernel
theorem dX11_call_21 : decode cX11_call 21 = .ok (.iconst (-1), 1) := by decide +kernel
theorem dX11_call_22 : decode cX11_call 22 = .ok (.ireturn, 1) := by decide +kernel
theorem dX11_call_23 : decode cX11_call 23 = .ok (.aload_n 0, 1) := by decide +kernel
theorem dX11_call_24 : decode cX11_call 24 = .ok (.invokevirtual 348, 3) := by decide +kernel
theorem dX11_call_27 : decode cX11_call 27 = .ok (.aload_n 0, 1) := by decide +kernel
theorem dX11_call_28 : decode cX11_call 28 = .ok (.getfield 111, 3) := by decide +kernel
theorem dX11_call_31 : decode cX11_call 31 = .ok (.iload_n 1, 1) := by decide +kernel
theorem dX11_call_32 : decode cX11_call 32 = .ok (.iaload, 1) := by decide +kernel
theorem dX11_call_33 : decode cX11_call 33 = .ok (.ireturn, 1) := by decide +kernel
theorem dX11_when_0 : decode cX11_when 0 = .ok (.aload_n 0, 1) := by decide +kernel
theorem dX11_when_1 : decode cX11_when 1 = .ok (.iconst 0, 1) := by decide +kernel
theorem dX11_when_2 : decode cX11_when 2 = .ok (.putfield 137, 3) := by decide +kernel
theorem dX11_when_5 : decode cX11_when 5 = .ok (.aload_n 0, 1) := by decide +kernel
theorem dX11_when_6 : decode cX11_when 6 = .ok (.iload_n 1, 1) := by decide +kernel
theorem dX11_when_7 : decode cX11_when 7 = .ok (.invokevirtual 373, 3) := by decide +kernel
theorem dX11_when_10 : decode cX11_when 10 = .ok (.ifCond .eq 11, 3) := by decide +kernel
theorem dX11_when_13 : decode cX11_when 13 = .ok (.aload_n 0, 1) := by decide +kernel
theorem dX11_when_14 : decode cX11_when 14 = .ok (.iload_n 1, 1) := by decide +kernel
theorem dX11_when_15 : decode cX11_when 15 = .ok (.invokevirtual 324, 3) := by decide +kernel
theorem dX11_when_18 : decode cX11_when 18 = .ok (.ifCond .ge 5, 3) := by decide +kernel
theorem dX11_when_21 : decode cX11_when 21 = .ok (.iconst (-1), 1) := by decide +kernel
theorem dX11_when_22 : decode cX11_when 22 = .ok (.ireturn, 1) := by decide +kernel
theorem dX11_when_23 : decode cX11_when 23 = .ok (.aload_n 0, 1) := by decide +kernel
theorem dX11_when_24 : decode cX11_when 24 = .ok (.aload_n 0, 1) := by decide +kernel
theorem dX11_when_25 : decode cX11_when 25 = .ok (.getfield 13, 3) := by decide +kernel
theorem dX11_when_28 : decode cX11_when 28 = .ok (.iconst 2, 1) := by decide +kernel
theorem dX11_when_29 : decode cX11_when 29 = .ok (.iaload, 1) := by decide +kernel
theorem dX11_when_30 : decode cX11_when 30 = .ok (.putfield 117, 3) := by decide +kernel
theorem dX11_when_33 : decode cX11_when 33 = .ok (.aload_n 0, 1) := by decide +kernel
theorem dX11_when_34 : decode cX11_when 34 = .ok (.getfield 93, 3) := by decide +kernel
theorem dX11_when_37 : decode cX11_when 37 = .ok (.iconst 0, 1) := by decide +kernel
theorem dX11_when_38 : decode cX11_when 38 = .ok (.aload_n 0, 1) := by decide +kernel
theorem dX11_when_39 : decode cX11_when 39 = .ok (.getfield 99, 3) := by decide +kernel
theorem dX11_when_42 : decode cX11_when 42 = .ok (.iconst 0, 1) := by decide +kernel
theorem dX11_when_43 : decode cX11_when 43 = .ok (.invokestatic 376, 3) := by decide +kernel
theorem dX11_when_46 : decode cX11_when 46 = .ok (.iconst 0, 1) := by decide +kernel
theorem dX11_when_47 : decode cX11_when 47 = .ok (.istore_n 2, 1) := by decide +kernel
theorem dX11_when_48 : decode cX11_when 48 = .ok (.iload_n 2, 1) := by decide +kernel
theorem dX11_when_49 : decode cX11_when 49 = .ok (.bipush 99, 2) := by decide +kernel
theorem dX11_when_51 : decode cX11_when 51 = .ok (.if_icmp .gt 22, 3) := by decide +kernel
theorem dX11_when_54 : decode cX11_when 54 = .ok (.aload_n 0, 1) := by decide +kernel
theorem dX11_when_55 : decode cX11_when 55 = .ok (.iload_n 1, 1) := by decide +kernel
theorem dX11_when_56 : decode cX11_when 56 = .ok (.invokevirtual 327, 3) := by decide +kernel
theorem dX11_when_59 : decode cX11_when 59 = .ok (.ifCond .ne 14, 3) := by decide +kernel
theorem dX11_when_62 : decode cX11_when 62 = .ok (.aload_n 0, 1) := by decide +kernel
theorem dX11_when_63 : decode cX11_when 63 = .ok (.invokevirtual 370, 3) := by decide +kernel
theorem dX11_when_66 : decode cX11_when 66 = .ok (.pop, 1) := by decide +kernel
theorem dX11_when_67 : decode cX11_when 67 = .ok (.iinc 2 1, 3) := by decide +kernel
theorem dX11_when_70 : decode cX11_when 70 = .ok (.goto (-22), 3) := by decide +kernel
theorem dX11_when_73 : decode cX11_when 73 = .ok (.aload_n 0, 1) := by decide +kernel
theorem dX11_when_74 : decode cX11_when 74 = .ok (.getfield 99, 3) := by decide +kernel
theorem dX11_when_77 : decode cX11_when 77 = .ok (.iconst 0, 1) := by decide +kernel
theorem dX11_when_78 : decode cX11_when 78 = .ok (.aload_n 0, 1) := by decide +kernel
theorem dX11_when_79 : decode cX11_when 79 = .ok (.getfield 93, 3) := by decide +kernel
theorem dX11_when_82 : decode cX11_when 82 = .ok (.iconst 0, 1) := by decide +kernel
theorem dX11_when_83 : decode cX11_when 83 = .ok (.invokestatic 376, 3) := by decide +kernel
theorem dX11_when_86 : decode cX11_when 86 = .ok (.iload_n 2, 1) := by decide +kernel
theorem dX11_when_87 : decode cX11_when 87 = .ok (.bipush 99, 2) := by decide +kernel
theorem dX11_when_89 : decode cX11_when 89 = .ok (.if_icmp .le 7, 3) := by decide +kernel
theorem dX11_when_92 : decode cX11_when 92 = .ok (.iconst (-1), 1) := by decide +kernel
theorem dX11_when_93 : decode cX11_when 93 = .ok (.goto 4, 3) := by decide +kernel
theorem dX11_when_96 : decode cX11_when 96 = .ok (.iload_n 2, 1) := by decide +kernel
theorem dX11_when_97 : decode cX11_when 97 = .ok (.ireturn, 1) := by decide +kernel
theorem dX11_audience_0 : decode cX11_audience 0 = .ok (.aload_n 0, 1) := by decide +kernel
theorem dX11_audience_1 : decode cX11_audience 1 = .ok (.iconst 0, 1) := by decide +kernel
theorem dX11_audience_2 : decode cX11_audience 2 = .ok (.putfield 137, 3) := by decide +kernel
theorem dX11_audience_5 : decode cX11_audience 5 = .ok (.iload_n 1, 1) := by decide +kernel
theorem dX11_audience_6 : decode cX11_audience 6 = .ok (.iconst 1, 1) := by decide +kernel
theorem dX11_audience_7 : decode cX11_audience 7 = .ok (.bipush 12, 2) := by decide +kernel
theorem dX11_audience_9 : decode cX11_audience 9 = .ok (.invokestatic 254, 3) := by decide +kernel
theorem dX11_audience_12 : decode cX11_audience 12 = .ok (.ifCond .ne 5, 3) := by decide +kernel
theorem dX11_audience_15 : decode cX11_audience 15 = .ok (.iconst (-1), 1) := by decide +kernel
theorem dX11_audience_16 : decode cX11_audience 16 = .ok (.ireturn, 1) := by decide +kernel
theorem dX11_audience_17 : decode cX11_audience 17 = .ok (.aload_n 0, 1) := by decide +kernel
theorem dX11_audience_18 : decode cX11_audience 18 = .ok (.aload_n 0, 1) := by decide +kernel
theorem dX11_audience_19 : decode cX11_audience 19 = .ok (.getfield 13, 3) := by decide +kernel
theorem dX11_audience_22 : decode cX11_audience 22 = .ok (.iconst 2, 1) := by decide +kernel
theorem dX11_audience_23 : decode cX11_audience 23 = .ok (.iaload, 1) := by decide +kernel
theorem dX11_audience_24 : decode cX11_audience 24 = .ok (.putfield 117, 3) := by decide +kernel
theorem dX11_audience_27 : decode cX11_audience 27 = .ok (.aload_n 0, 1) := by decide +kernel
theorem dX11_audience_28 : decode cX11_audience 28 = .ok (.getfield 93, 3) := by decide +kernel
theorem dX11_audience_31 : decode cX11_audience 31 = .ok (.iconst 0, 1) := by decide +kernel
theorem dX11_audience_32 : decode cX11_audience 32 = .ok (.aload_n 0, 1) := by decide +kernel
theorem dX11_audience_33 : decode cX11_audience 33 = .ok (.getfield 99, 3) := by decide +kernel
theorem dX11_audience_36 : decode cX11_audience 36 = .ok (.iconst 0, 1) := by decide +kernel
theorem dX11_audience_37 : decode cX11_audience 37 = .ok (.invokestatic 376, 3) := by decide +kernel
theorem dX11_audience_40 : decode cX11_audience 40 = .ok (.iconst 0, 1) := by decide +kernel
theorem dX11_audience_41 : decode cX11_audience 41 = .ok (.istore_n 2, 1) := by decide +kernel
theorem dX11_audience_42 : decode cX11_audience 42 = .ok (.iconst 0, 1) := by decide +kernel
theorem dX11_audience_43 : decode cX11_audience 43 = .ok (.istore_n 3, 1) := by decide +kernel
theorem dX11_audience_44 : decode cX11_audience 44 = .ok (.iload_n 3, 1) := by decide +kernel
theorem dX11_audience_45 : decode cX11_audience 45 = .ok (.iload_n 1, 1) := by decide +kernel
theorem dX11_audience_46 : decode cX11_audience 46 = .ok (.if_icmp .ge 20, 3) := by decide +kernel
theorem dX11_audience_49 : decode cX11_audience 49 = .ok (.aload_n 0, 1) := by decide +kernel
theorem dX11_audience_50 : decode cX11_audience 50 = .ok (.getfield 93, 3) := by decide +kernel
theorem dX11_audience_53 : decode cX11_audience 53 = .ok (.iconst 3, 1) := by decide +kernel
theorem dX11_audience_54 : decode cX11_audience 54 = .ok (.iaload, 1) := by decide +kernel
theorem dX11_audience_55 : decode cX11_audience 55 = .ok (.istore_n 2, 1) := by decide +kernel
theorem dX11_audience_56 : decode cX11_audience 56 = .ok (.aload_n 0, 1) := by decide +kernel
theorem dX11_audience_57 : decode cX11_audience 57 = .ok (.invokevirtual 392, 3) := by decide +kernel
theorem dX11_audience_60 : decode cX11_audience 60 = .ok (.iinc 3 1, 3) := by decide +kernel
theorem dX11_audience_63 : decode cX11_audience 63 = .ok (.goto (-19), 3) := by decide +kernel
theorem dX11_audience_66 : decode cX11_audience 66 = .ok (.aload_n 0, 1) := by decide +kernel
theorem dX11_audience_67 : decode cX11_audience 67 = .ok (.getfield 93, 3) := by decide +kernel
theorem dX11_audience_70 : decode cX11_audience 70 = .ok (.iconst 3, 1) := by decide +kernel
theorem dX11_audience_71 : decode cX11_audience 71 = .ok (.iaload, 1) := by decide +kernel
theorem dX11_audience_72 : decode cX11_audience 72 = .ok (.iload_n 2, 1) := by decide +kernel
theorem dX11_audience_73 : decode cX11_audience 73 = .ok (.iconst (-1), 1) := by decide +kernel
theorem dX11_audience_74 : decode cX11_audience 74 = .ok (.ixor, 1) := by decide +kernel
theorem dX11_audience_75 : decode cX11_audience 75 = .ok (.iand, 1) := by decide +kernel
theorem dX11_audience_76 : decode cX11_audience 76 = .ok (.istore_n 3, 1) := by decide +kernel
theorem dX11_audience_77 : decode cX11_audience 77 = .ok (.aload_n 0, 1) := by decide +kernel
theorem dX11_audience_78 : decode cX11_audience 78 = .ok (.getfield 99, 3) := by decide +kernel
theorem dX11_audience_81 : decode cX11_audience 81 = .ok (.iconst 0, 1) := by decide +kernel
theorem dX11_audience_82 : decode cX11_audience 82 = .ok (.aload_n 0, 1) := by decide +kernel
theorem dX11_audience_83 : decode cX11_audience 83 = .ok (.getfield 93, 3) := by decide +kernel
theorem dX11_audience_86 : decode cX11_audience 86 = .ok (.iconst 0, 1) := by decide +kernel

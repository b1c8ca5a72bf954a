theorem dX10_init_102 : decode cX10_init 102 = .ok (.iconst 0, 1) := by decide +kernel
theorem dX10_init_103 : decode cX10_init 103 = .ok (.putfield 61, 3) := by decide +kernel
theorem dX10_init_106 : decode cX10_init 106 = .ok (.aload_n 0, 1) := by decide +kernel
theorem dX10_init_107 : decode cX10_init 107 = .ok (.iconst 4, 1) := by decide +kernel
theorem dX10_init_108 : decode cX10_init 108 = .ok (.anewarray 65, 3) := by decide +kernel
theorem dX10_init_111 : decode cX10_init 111 = .ok (.putfield 67, 3) := by decide +kernel
theorem dX10_init_114 : decode cX10_init 114 = .ok (.aload_n 0, 1) := by decide +kernel
theorem dX10_init_115 : decode cX10_init 115 = .ok (.new 36, 3) := by decide +kernel
theorem dX10_init_118 : decode cX10_init 118 = .ok (.dup, 1) := by decide +kernel
theorem dX10_init_119 : decode cX10_init 119 = .ok (.invokespecial 38, 3) := by decide +kernel
theorem dX10_init_122 : decode cX10_init 122 = .ok (.putfield 71, 3) := by decide +kernel
theorem dX10_init_125 : decode cX10_init 125 = .ok (.aload_n 0, 1) := by decide +kernel
theorem dX10_init_126 : decode cX10_init 126 = .ok (.bipush 6, 2) := by decide +kernel
theorem dX10_init_128 : decode cX10_init 128 = .ok (.newarray .int, 2) := by decide +kernel
theorem dX10_init_130 : decode cX10_init 130 = .ok (.putfield 74, 3) := by decide +kernel
theorem dX10_init_133 : decode cX10_init 133 = .ok (.aload_n 0, 1) := by decide +kernel
theorem dX10_init_134 : decode cX10_init 134 = .ok (.bipush 6, 2) := by decide +kernel
theorem dX10_init_136 : decode cX10_init 136 = .ok (.newarray .int, 2) := by decide +kernel
theorem dX10_init_138 : decode cX10_init 138 = .ok (.putfield 78, 3) := by decide +kernel
theorem dX10_init_141 : decode cX10_init 141 = .ok (.aload_n 0, 1) := by decide +kernel
theorem dX10_init_142 : decode cX10_init 142 = .ok (.lconst 0, 1) := by decide +kernel
theorem dX10_init_143 : decode cX10_init 143 = .ok (.putfield 81, 3) := by decide +kernel
theorem dX10_init_146 : decode cX10_init 146 = .ok (.iconst 0, 1) := by decide +kernel
theorem dX10_init_147 : decode cX10_init 147 = .ok (.istore_n 1, 1) := by decide +kernel
theorem dX10_init_148 : decode cX10_init 148 = .ok (.iload_n 1, 1) := by decide +kernel
theorem dX10_init_149 : decode cX10_init 149 = .ok (.aload_n 0, 1) := by decide +kernel
theorem dX10_init_150 : decode cX10_init 150 = .ok (.getfield 57, 3) := by decide +kernel
theorem dX10_init_153 : decode cX10_init 153 = .ok (.arraylength, 1) := by decide +kernel
theorem dX10_init_154 : decode cX10_init 154 = .ok (.if_icmp .ge 22, 3) := by decide +kernel
theorem dX10_init_157 : decode cX10_init 157 = .ok (.aload_n 0, 1) := by decide +kernel
theorem dX10_init_158 : decode cX10_init 158 = .ok (.getfield 57, 3) := by decide +kernel
theorem dX10_init_161 : decode cX10_init 161 = .ok (.iload_n 1, 1) := by decide +kernel
theorem dX10_init_162 : decode cX10_init 162 = .ok (.new 36, 3) := by decide +kernel
theorem dX10_init_165 : decode cX10_init 165 = .ok (.dup, 1) := by decide +kernel
theorem dX10_init_166 : decode cX10_init 166 = .ok (.invokespecial 38, 3) := by decide +kernel
theorem dX10_init_169 : decode cX10_init 169 = .ok (.aastore, 1) := by decide +kernel
theorem dX10_init_170 : decode cX10_init 170 = .ok (.iinc 1 1, 3) := by decide +kernel
theorem dX10_init_173 : decode cX10_init 173 = .ok (.goto (-25), 3) := by decide +kernel
theorem dX10_init_176 : decode cX10_init 176 = .ok (.iconst 0, 1) := by decide +kernel
theorem dX10_init_177 : decode cX10_init 177 = .ok (.istore_n 1, 1) := by decide +kernel
theorem dX10_init_178 : decode cX10_init 178 = .ok (.iload_n 1, 1) := by decide +kernel
theorem dX10_init_179 : decode cX10_init 179 = .ok (.aload_n 0, 1) := by decide +kernel
theorem dX10_init_180 : decode cX10_init 180 = .ok (.getfield 67, 3) := by decide +kernel
theorem dX10_init_183 : decode cX10_init 183 = .ok (.arraylength, 1) := by decide +kernel
theorem dX10_init_184 : decode cX10_init 184 = .ok (.if_icmp .ge 22, 3) := by decide +kernel
theorem dX10_init_187 : decode cX10_init 187 = .ok (.aload_n 0, 1) := by decide +kernel
theorem dX10_init_188 : decode cX10_init 188 = .ok (.getfield 67, 3) := by decide +kernel
theorem dX10_init_191 : decode cX10_init 191 = .ok (.iload_n 1, 1) := by decide +kernel
theorem dX10_init_192 : decode cX10_init 192 = .ok (.new 65, 3) := by decide +kernel
theorem dX10_init_195 : decode cX10_init 195 = .ok (.dup, 1) := by decide +kernel
theorem dX10_init_196 : decode cX10_init 196 = .ok (.invokespecial 85, 3) := by decide +kernel
theorem dX10_init_199 : decode cX10_init 199 = .ok (.aastore, 1) := by decide +kernel
theorem dX10_init_200 : decode cX10_init 200 = .ok (.iinc 1 1, 3) := by decide +kernel
theorem dX10_init_203 : decode cX10_init 203 = .ok (.goto (-25), 3) := by decide +kernel
theorem dX10_init_206 : decode cX10_init 206 = .ok (.aload_n 0, 1) := by decide +kernel
theorem dX10_init_207 : decode cX10_init 207 = .ok (.getfield 39, 3) := by decide +kernel
theorem dX10_init_210 : decode cX10_init 210 = .ok (.aload_n 0, 1) := by decide +kernel
theorem dX10_init_211 : decode cX10_init 211 = .ok (.getfield 19, 3) := by decide +kernel
theorem dX10_init_214 : decode cX10_init 214 = .ok (.invokevirtual 86, 3) := by decide +kernel
theorem dX10_init_217 : decode cX10_init 217 = .ok (.return_, 1) := by decide +kernel
theorem dX10_feed_0 : decode cX10_feed 0 = .ok (.aload_n 0, 1) := by decide +kernel
theorem dX10_feed_1 : decode cX10_feed 1 = .ok (.getfield 10, 3) := by decide +kernel
theorem dX10_feed_4 : decode cX10_feed 4 = .ok (.getfield 90, 3) := by decide +kernel
theorem dX10_feed_7 : decode cX10_feed 7 = .ok (.lload_n 1, 1) := by decide +kernel
theorem dX10_feed_8 : decode cX10_feed 8 = .ok (.invokevirtual 94, 3) := by decide +kernel
theorem dX10_feed_11 : decode cX10_feed 11 = .ok (.aload_n 0, 1) := by decide +kernel
theorem dX10_feed_12 : decode cX10_feed 12 = .ok (.getfield 10, 3) := by decide +kernel
theorem dX10_feed_15 : decode cX10_feed 15 = .ok (.getfield 90, 3) := by decide +kernel
theorem dX10_feed_18 : decode cX10_feed 18 = .ok (.lload_n 3, 1) := by decide +kernel
theorem dX10_feed_19 : decode cX10_feed 19 = .ok (.invokevirtual 94, 3) := by decide +kernel
theorem dX10_feed_22 : decode cX10_feed 22 = .ok (.aload_n 0, 1) := by decide +kernel
theorem dX10_feed_23 : decode cX10_feed 23 = .ok (.getfield 10, 3) := by decide +kernel
theorem dX10_feed_26 : decode cX10_feed 26 = .ok (.getfield 90, 3) := by decide +kernel
theorem dX10_feed_29 : decode cX10_feed 29 = .ok (.lload 5, 2) := by decide +kernel
theorem dX10_feed_31 : decode cX10_feed 31 = .ok (.invokevirtual 94, 3) := by decide +kernel
theorem dX10_feed_34 : decode cX10_feed 34 = .ok (.aload_n 0, 1) := by decide +kernel
theorem dX10_feed_35 : decode cX10_feed 35 = .ok (.getfield 10, 3) := by decide +kernel
theorem dX10_feed_38 : decode cX10_feed 38 = .ok (.getfield 90, 3) := by decide +kernel
theorem dX10_feed_41 : decode cX10_feed 41 = .ok (.getfield 100, 3) := by decide +kernel
theorem dX10_feed_44 : decode cX10_feed 44 = .ok (.ireturn, 1) := by decide +kernel
theorem dX10_realm_0 : decode cX10_realm 0 = .ok (.aload_n 0, 1) := by decide +kernel
theorem dX10_realm_1 : decode cX10_realm 1 = .ok (.getfield 10, 3) := by decide +kernel
theorem dX10_realm_4 : decode cX10_realm 4 = .ok (.aload_n 0, 1) := by decide +kernel
theorem dX10_realm_5 : decode cX10_realm 5 = .ok (.getfield 23, 3) := by decide +kernel
theorem dX10_realm_8 : decode cX10_realm 8 = .ok (.invokevirtual 103, 3) := by decide +kernel
theorem dX10_realm_11 : decode cX10_realm 11 = .ok (.istore_n 1, 1) := by decide +kernel
theorem dX10_realm_12 : decode cX10_realm 12 = .ok (.aload_n 0, 1) := by decide +kernel
theorem dX10_realm_13 : decode cX10_realm 13 = .ok (.getfield 10, 3) := by decide +kernel
theorem dX10_realm_16 : decode cX10_realm 16 = .ok (.getfield 90, 3) := by decide +kernel
theorem dX10_realm_19 : decode cX10_realm 19 = .ok (.invokevirtual 107, 3) := by decide +kernel
theorem dX10_realm_22 : decode cX10_realm 22 = .ok (.iload_n 1, 1) := by decide +kernel
theorem dX10_realm_23 : decode cX10_realm 23 = .ok (.ifCond .eq 5, 3) := by decide +kernel
theorem dX10_realm_26 : decode cX10_realm 26 = .ok (.iload_n 1, 1) := by decide +kernel
theorem dX10_realm_27 : decode cX10_realm 27 = .ok (.ireturn, 1) := by decide +kernel
theorem dX10_realm_28 : decode cX10_realm 28 = .ok (.aload_n 0, 1) := by decide +kernel
theorem dX10_realm_29 : decode cX10_realm 29 = .ok (.getfield 23, 3) := by decide +kernel
theorem dX10_realm_32 : decode cX10_realm 32 = .ok (.astore_n 2, 1) := by decide +kernel
theorem dX10_realm_33 : decode cX10_realm 33 = .ok (.aload_n 0, 1) := by decide +kernel
theorem dX10_realm_34 : decode cX10_realm 34 = .ok (.aload_n 0, 1) := by decide +kernel
theorem dX10_realm_35 : decode cX10_realm 35 = .ok (.getfield 19, 3) := by decide +kernel
theorem dX10_realm_38 : decode cX10_realm 38 = .ok (.putfield 23, 3) := by decide +kernel
theorem dX10_realm_41 : decode cX10_realm 41 = .ok (.aload_n 0, 1) := by decide +kernel
theorem dX10_realm_42 : decode cX10_realm 42 = .ok (.aload_n 2, 1) := by decide +kernel
theorem dX10_realm_43 : decode cX10_realm 43 = .ok (.putfield 19, 3) := by decide +kernel
theorem dX10_realm_46 : decode cX10_realm 46 = .ok (.aload_n 0, 1) := by decide +kernel
theorem dX10_realm_47 : decode cX10_realm 47 = .ok (.getfield 39, 3) := by decide +kernel
theorem dX10_realm_50 : decode cX10_realm 50 = .ok (.aload_n 0, 1) := by decide +kernel
theorem dX10_realm_51 : decode cX10_realm 51 = .ok (.getfield 19, 3) := by decide +kernel
theorem dX10_realm_54 : decode cX10_realm 54 = .ok (.invokevirtual 86, 3) := by decide +kernel
theorem dX10_realm_57 : decode cX10_realm 57 = .ok (.aload_n 0, 1) := by decide +kernel
theorem dX10_realm_58 : decode cX10_realm 58 = .ok (.getfield 29, 3) := by decide +kernel
theorem dX10_realm_61 : decode cX10_realm 61 = .ok (.invokevirtual 110, 3) := by decide +kernel
theorem dX10_realm_64 : decode cX10_realm 64 = .ok (.aload_n 0, 1) := by decide +kernel
theorem dX10_realm_65 : decode cX10_realm 65 = .ok (.getfield 46, 3) := by decide +kernel
theorem dX10_realm_68 : decode cX10_realm 68 = .ok (.invokevirtual 113, 3) := by decide +kernel
theorem dX10_realm_71 : decode cX10_realm 71 = .ok (.aload_n 0, 1) := by decide +kernel
theorem dX10_realm_72 : decode cX10_realm 72 = .ok (.iconst 0, 1) := by decide +kernel
theorem dX10_realm_73 : decode cX10_realm 73 = .ok (.putfield 61, 3) := by decide +kernel
theorem dX10_realm_76 : decode cX10_realm 76 = .ok (.iconst 0, 1) := by decide +kernel
theorem dX10_realm_77 : decode cX10_realm 77 = .ok (.istore_n 3, 1) := by decide +kernel
theorem dX10_realm_78 : decode cX10_realm 78 = .ok (.iload_n 3, 1) := by decide +kernel
theorem dX10_realm_79 : decode cX10_realm 79 = .ok (.aload_n 0, 1) := by decide +kernel
theorem dX10_realm_80 : decode cX10_realm 80 = .ok (.getfield 67, 3) := by decide +kernel
theorem dX10_realm_83 : decode cX10_realm 83 = .ok (.arraylength, 1) := by decide +kernel
theorem dX10_realm_84 : decode cX10_realm 84 = .ok (.if_icmp .ge 28, 3) := by decide +kernel
theorem dX10_realm_87 : decode cX10_realm 87 = .ok (.aload_n 0, 1) := by decide +kernel
theorem dX10_realm_88 : decode cX10_realm 88 = .ok (.getfield 67, 3) := by decide +kernel
theorem dX10_realm_91 : decode cX10_realm 91 = .ok (.iload_n 3, 1) := by decide +kernel
theorem dX10_realm_92 : decode cX10_realm 92 = .ok (.aaload, 1) := by decide +kernel
theorem dX10_realm_93 : decode cX10_realm 93 = .ok (.ifnull 13, 3) := by decide +kernel
theorem dX10_realm_96 : decode cX10_realm 96 = .ok (.aload_n 0, 1) := by decide +kernel
theorem dX10_realm_97 : decode cX10_realm 97 = .ok (.getfield 67, 3) := by decide +kernel
theorem dX10_realm_100 : decode cX10_realm 100 = .ok (.iload_n 3, 1) := by decide +kernel
theorem dX10_realm_101 : decode cX10_realm 101 = .ok (.aaload, 1) := by decide +kernel
theorem dX10_realm_102 : decode cX10_realm 102 = .ok (.iconst 0, 1) := by decide +kernel
theorem dX10_realm_103 : decode cX10_realm 103 = .ok (.putfield 114, 3) := by decide +kernel
theorem dX10_realm_106 : decode cX10_realm 106 = .ok (.iinc 3 1, 3) := by decide +kernel
theorem dX10_realm_109 : decode cX10_realm 109 = .ok (.goto (-31), 3) := by decide +kernel
theorem dX10_realm_112 : decode cX10_realm 112 = .ok (.iconst 0, 1) := by decide +kernel
theorem dX10_realm_113 : decode cX10_realm 113 = .ok (.ireturn, 1) := by decide +kernel
theorem dX10_reign_0 : decode cX10_reign 0 = .ok (.aload_n 0, 1) := by decide +kernel
theorem dX10_reign_1 : decode cX10_reign 1 = .ok (.getfield 10, 3) := by decide +kernel
theorem dX10_reign_4 : decode cX10_reign 4 = .ok (.aload_n 0, 1) := by decide +kernel
theorem dX10_reign_5 : decode cX10_reign 5 = .ok (.getfield 19, 3) := by decide +kernel
theorem dX10_reign_8 : decode cX10_reign 8 = .ok (.aload_n 0, 1) := by decide +kernel
theorem dX10_reign_9 : decode cX10_reign 9 = .ok (.getfield 33, 3) := by decide +kernel
theorem dX10_reign_12 : decode cX10_reign 12 = .ok (.invokevirtual 118, 3) := by decide +kernel
theorem dX10_reign_15 : decode cX10_reign 15 = .ok (.istore_n 1, 1) := by decide +kernel
theorem dX10_reign_16 : decode cX10_reign 16 = .ok (.aload_n 0, 1) := by decide +kernel
theorem dX10_reign_17 : decode cX10_reign 17 = .ok (.getfield 10, 3) := by decide +kernel
theorem dX10_reign_20 : decode cX10_reign 20 = .ok (.getfield 90, 3) := by decide +kernel
theorem dX10_reign_23 : decode cX10_reign 23 = .ok (.invokevirtual 107, 3) := by decide +kernel
theorem dX10_reign_26 : decode cX10_reign 26 = .ok (.iload_n 1, 1) := by decide +kernel
theorem dX10_reign_27 : decode cX10_reign 27 = .ok (.ifCond .eq 5, 3) := by decide +kernel
theorem dX10_reign_30 : decode cX10_reign 30 = .ok (.iload_n 1, 1) := by decide +kernel
theorem dX10_reign_31 : decode cX10_reign 31 = .ok (.ireturn, 1) := by decide +kernel
theorem dX10_reign_32 : decode cX10_reign 32 = .ok (.aload_n 0, 1) := by decide +kernel
theorem dX10_reign_33 : decode cX10_reign 33 = .ok (.getfield 33, 3) := by decide +kernel
theorem dX10_reign_36 : decode cX10_reign 36 = .ok (.astore_n 2, 1) := by decide +kernel
theorem dX10_reign_37 : decode cX10_reign 37 = .ok (.aload_n 0, 1) := by decide +kernel
theorem dX10_reign_38 : decode cX10_reign 38 = .ok (.aload_n 0, 1) := by decide +kernel
theorem dX10_reign_39 : decode cX10_reign 39 = .ok (.getfield 29, 3) := by decide +kernel
theorem dX10_reign_42 : decode cX10_reign 42 = .ok (.putfield 33, 3) := by decide +kernel
theorem dX10_reign_45 : decode cX10_reign 45 = .ok (.aload_n 0, 1) := by decide +kernel
theorem dX10_reign_46 : decode cX10_reign 46 = .ok (.aload_n 2, 1) := by decide +kernel
theorem dX10_reign_47 : decode cX10_reign 47 = .ok (.putfield 29, 3) := by decide +kernel
theorem dX10_reign_50 : decode cX10_reign 50 = .ok (.iconst 0, 1) := by decide +kernel
theorem dX10_reign_51 : decode cX10_reign 51 = .ok (.ireturn, 1) := by decide +kernel
theorem dX10_person_0 : decode cX10_person 0 = .ok (.aload_n 0, 1) := by decide +kernel
theorem dX10_person_1 : decode cX10_person 1 = .ok (.getfield 19, 3) := by decide +kernel
theorem dX10_person_4 : decode cX10_person 4 = .ok (.iload_n 1, 1) := by decide +kernel
theorem dX10_person_5 : decode cX10_person 5 = .ok (.invokevirtual 122, 3) := by decide +kernel
theorem dX10_person_8 : decode cX10_person 8 = .ok (.ifCond .ne 6, 3) := by decide +kernel
theorem dX10_person_11 : decode cX10_person 11 = .ok (.bipush (-2), 2) := by decide +kernel
theorem dX10_person_13 : decode cX10_person 13 = .ok (.ireturn, 1) := by decide +kernel
theorem dX10_person_14 : decode cX10_person 14 = .ok (.iload_n 2, 1) := by decide +kernel
theorem dX10_person_15 : decode cX10_person 15 = .ok (.tableswitch 165 0 7 #[45, 54, 63, 72, 81, 93, 117, 141], 45) := by decide +kernel
theorem dX10_person_60 : decode cX10_person 60 = .ok (.aload_n 0, 1) := by decide +kernel
theorem dX10_person_61 : decode cX10_person 61 = .ok (.getfield 19, 3) := by decide +kernel
theorem dX10_person_64 : decode cX10_person 64 = .ok (.iload_n 1, 1) := by decide +kernel
theorem dX10_person_65 : decode cX10_person 65 = .ok (.invokevirtual 126, 3) := by decide +kernel
theorem dX10_person_68 : decode cX10_person 68 = .ok (.ireturn, 1) := by decide +kernel
theorem dX10_person_69 : decode cX10_person 69 = .ok (.aload_n 0, 1) := by decide +kernel
theorem dX10_person_70 : decode cX10_person 70 = .ok (.getfield 19, 3) := by decide +kernel
theorem dX10_person_73 : decode cX10_person 73 = .ok (.iload_n 1, 1) := by decide +kernel
theorem dX10_person_74 : decode cX10_person 74 = .ok (.invokevirtual 130, 3) := by decide +kernel
theorem dX10_person_77 : decode cX10_person 77 = .ok (.ireturn, 1) := by decide +kernel
theorem dX10_person_78 : decode cX10_person 78 = .ok (.aload_n 0, 1) := by decide +kernel
theorem dX10_person_79 : decode cX10_person 79 = .ok (.getfield 19, 3) := by decide +kernel
theorem dX10_person_82 : decode cX10_person 82 = .ok (.iload_n 1, 1) := by decide +kernel
theorem dX10_person_83 : decode cX10_person 83 = .ok (.invokevirtual 133, 3) := by decide +kernel
theorem dX10_person_86 : decode cX10_person 86 = .ok (.ireturn, 1) := by decide +kernel
theorem dX10_person_87 : decode cX10_person 87 = .ok (.aload_n 0, 1) := by decide +kernel
theorem dX10_person_88 : decode cX10_person 88 = .ok (.getfield 39, 3) := by decide +kernel
theorem dX10_person_91 : decode cX10_person 91 = .ok (.iload_n 1, 1) := by decide +kernel
theorem dX10_person_92 : decode cX10_person 92 = .ok (.invokevirtual 136, 3) := by decide +kernel
theorem dX10_person_95 : decode cX10_person 95 = .ok (.ireturn, 1) := by decide +kernel
theorem dX10_person_96 : decode cX10_person 96 = .ok (.aload_n 0, 1) := by decide +kernel
theorem dX10_person_97 : decode cX10_person 97 = .ok (.getfield 39, 3) := by decide +kernel
theorem dX10_person_100 : decode cX10_person 100 = .ok (.getfield 139, 3) := by decide +kernel
theorem dX10_person_103 : decode cX10_person 103 = .ok (.iload_n 1, 1) := by decide +kernel
theorem dX10_person_104 : decode cX10_person 104 = .ok (.ishr, 1) := by decide +kernel
theorem dX10_person_105 : decode cX10_person 105 = .ok (.iconst 1, 1) := by decide +kernel
theorem dX10_person_106 : decode cX10_person 106 = .ok (.iand, 1) := by decide +kernel
theorem dX10_person_107 : decode cX10_person 107 = .ok (.ireturn, 1) := by decide +kernel
theorem dX10_person_108 : decode cX10_person 108 = .ok (.aload_n 0, 1) := by decide +kernel
theorem dX10_person_109 : decode cX10_person 109 = .ok (.getfield 19, 3) := by decide +kernel
theorem dX10_person_112 : decode cX10_person 112 = .ok (.iload_n 1, 1) := by decide +kernel
theorem dX10_person_113 : decode cX10_person 113 = .ok (.aload_n 0, 1) := by decide +kernel
theorem dX10_person_114 : decode cX10_person 114 = .ok (.getfield 39, 3) := by decide +kernel
theorem dX10_person_117 : decode cX10_person 117 = .ok (.getfield 142, 3) := by decide +kernel
theorem dX10_person_120 : decode cX10_person 120 = .ok (.invokevirtual 145, 3) := by decide +kernel
theorem dX10_person_123 : decode cX10_person 123 = .ok (.ifCond .eq 7, 3) := by decide +kernel
theorem dX10_person_126 : decode cX10_person 126 = .ok (.iconst 1, 1) := by decide +kernel
theorem dX10_person_127 : decode cX10_person 127 = .ok (.goto 4, 3) := by decide +kernel
theorem dX10_person_130 : decode cX10_person 130 = .ok (.iconst 0, 1) := by decide +kernel
theorem dX10_person_131 : decode cX10_person 131 = .ok (.ireturn, 1) := by decide +kernel
theorem dX10_person_132 : decode cX10_person 132 = .ok (.aload_n 0, 1) := by decide +kernel
theorem dX10_person_133 : decode cX10_person 133 = .ok (.getfield 39, 3) := by decide +kernel
theorem dX10_person_136 : decode cX10_person 136 = .ok (.iload_n 1, 1) := by decide +kernel
theorem dX10_person_137 : decode cX10_person 137 = .ok (.invokevirtual 149, 3) := by decide +kernel
theorem dX10_person_140 : decode cX10_person 140 = .ok (.ifCond .eq 14, 3) := by decide +kernel
theorem dX10_person_143 : decode cX10_person 143 = .ok (.aload_n 0, 1) := by decide +kernel
theorem dX10_person_144 : decode cX10_person 144 = .ok (.getfield 39, 3) := by decide +kernel
theorem dX10_person_147 : decode cX10_person 147 = .ok (.iload_n 1, 1) := by decide +kernel
theorem dX10_person_148 : decode cX10_person 148 = .ok (.invokevirtual 152, 3) := by decide +kernel
theorem dX10_person_151 : decode cX10_person 151 = .ok (.goto 4, 3) := by decide +kernel
theorem dX10_person_154 : decode cX10_person 154 = .ok (.iconst 0, 1) := by decide +kernel
theorem dX10_person_155 : decode cX10_person 155 = .ok (.ireturn, 1) := by decide +kernel
theorem dX10_person_156 : decode cX10_person 156 = .ok (.aload_n 0, 1) := by decide +kernel
theorem dX10_person_157 : decode cX10_person 157 = .ok (.getfield 39, 3) := by decide +kernel
theorem dX10_person_160 : decode cX10_person 160 = .ok (.iload_n 1, 1) := by decide +kernel
theorem dX10_person_161 : decode cX10_person 161 = .ok (.invokevirtual 149, 3) := by decide +kernel
theorem dX10_person_164 : decode cX10_person 164 = .ok (.ifCond .eq 14, 3) := by decide +kernel
theorem dX10_person_167 : decode cX10_person 167 = .ok (.aload_n 0, 1) := by decide +kernel
theorem dX10_person_168 : decode cX10_person 168 = .ok (.getfield 39, 3) := by decide +kernel
theorem dX10_person_171 : decode cX10_person 171 = .ok (.iload_n 1, 1) := by decide +kernel
theorem dX10_person_172 : decode cX10_person 172 = .ok (.invokevirtual 155, 3) := by decide +kernel
theorem dX10_person_175 : decode cX10_person 175 = .ok (.goto 4, 3) := by decide +kernel
theorem dX10_person_178 : decode cX10_person 178 = .ok (.iconst 0, 1) := by decide +kernel
theorem dX10_person_179 : decode cX10_person 179 = .ok (.ireturn, 1) := by decide +kernel
theorem dX10_person_180 : decode cX10_person 180 = .ok (.bipush (-2), 2) := by decide +kernel
theorem dX10_person_182 : decode cX10_person 182 = .ok (.ireturn, 1) := by decide +kernel
theorem dX10_come_0 : decode cX10_come 0 = .ok (.aload_n 0, 1) := by decide +kernel
theorem dX10_come_1 : decode cX10_come 1 = .ok (.getfield 39, 3) := by decide +kernel
theorem dX10_come_4 : decode cX10_come 4 = .ok (.aload_n 0, 1) := by decide +kernel
theorem dX10_come_5 : decode cX10_come 5 = .ok (.getfield 19, 3) := by decide +kernel
theorem dX10_come_8 : decode cX10_come 8 = .ok (.iload_n 1, 1) := by decide +kernel
theorem dX10_come_9 : decode cX10_come 9 = .ok (.invokevirtual 158, 3) := by decide +kernel
theorem dX10_come_12 : decode cX10_come 12 = .ok (.ifCond .ne 5, 3) := by decide +kernel
theorem dX10_come_15 : decode cX10_come 15 = .ok (.iconst (-1), 1) := by decide +kernel
theorem dX10_come_16 : decode cX10_come 16 = .ok (.ireturn, 1) := by decide +kernel
theorem dX10_come_17 : decode cX10_come 17 = .ok (.aload_n 0, 1) := by decide +kernel
theorem dX10_come_18 : decode cX10_come 18 = .ok (.invokevirtual 162, 3) := by decide +kernel
theorem dX10_come_21 : decode cX10_come 21 = .ok (.aload_n 0, 1) := by decide +kernel
theorem dX10_come_22 : decode cX10_come 22 = .ok (.getfield 39, 3) := by decide +kernel
theorem dX10_come_25 : decode cX10_come 25 = .ok (.iload_n 1, 1) := by decide +kernel
theorem dX10_come_26 : decode cX10_come 26 = .ok (.invokevirtual 165, 3) := by decide +kernel
theorem dX10_come_29 : decode cX10_come 29 = .ok (.aload_n 0, 1) := by decide +kernel
theorem dX10_come_30 : decode cX10_come 30 = .ok (.getfield 39, 3) := by decide +kernel
theorem dX10_come_33 : decode cX10_come 33 = .ok (.iload_n 1, 1) := by decide +kernel
theorem dX10_come_34 : decode cX10_come 34 = .ok (.invokevirtual 136, 3) := by decide +kernel
theorem dX10_come_37 : decode cX10_come 37 = .ok (.ireturn, 1) := by decide +kernel
theorem dX10_leave_0 : decode cX10_leave 0 = .ok (.aload_n 0, 1) := by decide +kernel
theorem dX10_leave_1 : decode cX10_leave 1 = .ok (.getfield 39, 3) := by decide +kernel
theorem dX10_leave_4 : decode cX10_leave 4 = .ok (.iload_n 1, 1) := by decide +kernel
theorem dX10_leave_5 : decode cX10_leave 5 = .ok (.invokevirtual 149, 3) := by decide +kernel
theorem dX10_leave_8 : decode cX10_leave 8 = .ok (.ifCond .ne 5, 3) := by decide +kernel
theorem dX10_leave_11 : decode cX10_leave 11 = .ok (.iconst 0, 1) := by decide +kernel
theorem dX10_leave_12 : decode cX10_leave 12 = .ok (.ireturn, 1) := by decide +kernel
theorem dX10_leave_13 : decode cX10_leave 13 = .ok (.aload_n 0, 1) := by decide +kernel
theorem dX10_leave_14 : decode cX10_leave 14 = .ok (.invokevirtual 162, 3) := by decide +kernel
theorem dX10_leave_17 : decode cX10_leave 17 = .ok (.aload_n 0, 1) := by decide +kernel
theorem dX10_leave_18 : decode cX10_leave 18 = .ok (.getfield 39, 3) := by decide +kernel
theorem dX10_leave_21 : decode cX10_leave 21 = .ok (.iload_n 1, 1) := by decide +kernel
theorem dX10_leave_22 : decode cX10_leave 22 = .ok (.invokevirtual 169, 3) := by decide +kernel
theorem dX10_leave_25 : decode cX10_leave 25 = .ok (.iconst 1, 1) := by decide +kernel
theorem dX10_leave_26 : decode cX10_leave 26 = .ok (.ireturn, 1) := by decide +kernel
theorem dX10_lamp_0 : decode cX10_lamp 0 = .ok (.iload_n 1, 1) := by decide +kernel
theorem dX10_lamp_1 : decode cX10_lamp 1 = .ok (.iconst 1, 1) := by decide +kernel
theorem dX10_lamp_2 : decode cX10_lamp 2 = .ok (.if_icmp .lt 9, 3) := by decide +kernel
theorem dX10_lamp_5 : decode cX10_lamp 5 = .ok (.iload_n 1, 1) := by decide +kernel
theorem dX10_lamp_6 : decode cX10_lamp 6 = .ok (.bipush 20, 2) := by decide +kernel
theorem dX10_lamp_8 : decode cX10_lamp 8 = .ok (.if_icmp .le 5, 3) := by decide +kernel
theorem dX10_lamp_11 : decode cX10_lamp 11 = .ok (.iconst (-1), 1) := by decide +kernel
theorem dX10_lamp_12 : decode cX10_lamp 12 = .ok (.ireturn, 1) := by decide +kernel
theorem dX10_lamp_13 : decode cX10_lamp 13 = .ok (.aload_n 0, 1) := by decide +kernel
theorem dX10_lamp_14 : decode cX10_lamp 14 = .ok (.invokevirtual 162, 3) := by decide +kernel
theorem dX10_lamp_17 : decode cX10_lamp 17 = .ok (.aload_n 0, 1) := by decide +kernel
theorem dX10_lamp_18 : decode cX10_lamp 18 = .ok (.getfield 39, 3) := by decide +kernel
theorem dX10_lamp_21 : decode cX10_lamp 21 = .ok (.iload_n 1, 1) := by decide +kernel
theorem dX10_lamp_22 : decode cX10_lamp 22 = .ok (.invokevirtual 172, 3) := by decide +kernel
theorem dX10_lamp_25 : decode cX10_lamp 25 = .ok (.aload_n 0, 1) := by decide +kernel
theorem dX10_lamp_26 : decode cX10_lamp 26 = .ok (.getfield 39, 3) := by decide +kernel
theorem dX10_lamp_29 : decode cX10_lamp 29 = .ok (.getfield 175, 3) := by decide +kernel
theorem dX10_lamp_32 : decode cX10_lamp 32 = .ok (.ireturn, 1) := by decide +kernel
theorem dX10_waits_0 : decode cX10_waits 0 = .ok (.aload_n 0, 1) := by decide +kernel
theorem dX10_waits_1 : decode cX10_waits 1 = .ok (.invokevirtual 162, 3) := by decide +kernel
theorem dX10_waits_4 : decode cX10_waits 4 = .ok (.aload_n 0, 1) := by decide +kernel
theorem dX10_waits_5 : decode cX10_waits 5 = .ok (.getfield 53, 3) := by decide +kernel
theorem dX10_waits_8 : decode cX10_waits 8 = .ok (.aload_n 0, 1) := by decide +kernel
theorem dX10_waits_9 : decode cX10_waits 9 = .ok (.getfield 19, 3) := by decide +kernel
theorem dX10_waits_12 : decode cX10_waits 12 = .ok (.aload_n 0, 1) := by decide +kernel
theorem dX10_waits_13 : decode cX10_waits 13 = .ok (.getfield 39, 3) := by decide +kernel
theorem dX10_waits_16 : decode cX10_waits 16 = .ok (.iconst 0, 1) := by decide +kernel
theorem dX10_waits_17 : decode cX10_waits 17 = .ok (.invokevirtual 178, 3) := by decide +kernel
theorem dX10_waits_20 : decode cX10_waits 20 = .ok (.ireturn, 1) := by decide +kernel
theorem dX10_ride_0 : decode cX10_ride 0 = .ok (.aload_n 0, 1) := by decide +kernel
theorem dX10_ride_1 : decode cX10_ride 1 = .ok (.invokevirtual 162, 3) := by decide +kernel
theorem dX10_ride_4 : decode cX10_ride 4 = .ok (.aload_n 0, 1) := by decide +kernel
theorem dX10_ride_5 : decode cX10_ride 5 = .ok (.getfield 53, 3) := by decide +kernel
theorem dX10_ride_8 : decode cX10_ride 8 = .ok (.aload_n 0, 1) := by decide +kernel
theorem dX10_ride_9 : decode cX10_ride 9 = .ok (.getfield 19, 3) := by decide +kernel
theorem dX10_ride_12 : decode cX10_ride 12 = .ok (.aload_n 0, 1) := by decide +kernel
theorem dX10_ride_13 : decode cX10_ride 13 = .ok (.getfield 39, 3) := by decide +kernel
theorem dX10_ride_16 : decode cX10_ride 16 = .ok (.aload_n 0, 1) := by decide +kernel
theorem dX10_ride_17 : decode cX10_ride 17 = .ok (.getfield 19, 3) := by decide +kernel
theorem dX10_ride_20 : decode cX10_ride 20 = .ok (.getfield 182, 3) := by decide +kernel
theorem dX10_ride_23 : decode cX10_ride 23 = .ok (.invokevirtual 185, 3) := by decide +kernel
theorem dX10_ride_26 : decode cX10_ride 26 = .ok (.ireturn, 1) := by decide +kernel
theorem dX10_undo_0 : decode cX10_undo 0 = .ok (.aload_n 0, 1) := by decide +kernel
theorem dX10_undo_1 : decode cX10_undo 1 = .ok (.getfield 61, 3) := by decide +kernel
theorem dX10_undo_4 : decode cX10_undo 4 = .ok (.ifCond .le 15, 3) := by decide +kernel
theorem dX10_undo_7 : decode cX10_undo 7 = .ok (.aload_n 0, 1) := by decide +kernel
theorem dX10_undo_8 : decode cX10_undo 8 = .ok (.getfield 61, 3) := by decide +kernel
theorem dX10_undo_11 : decode cX10_undo 11 = .ok (.aload_n 0, 1) := by decide +kernel
theorem dX10_undo_12 : decode cX10_undo 12 = .ok (.getfield 57, 3) := by decide +kernel
theorem dX10_undo_15 : decode cX10_undo 15 = .ok (.arraylength, 1) := by decide +kernel
theorem dX10_undo_16 : decode cX10_undo 16 = .ok (.if_icmp .le 5, 3) := by decide +kernel
theorem dX10_undo_19 : decode cX10_undo 19 = .ok (.iconst 0, 1) := by decide +kernel
theorem dX10_undo_20 : decode cX10_undo 20 = .ok (.ireturn, 1) := by decide +kernel
theorem dX10_undo_21 : decode cX10_undo 21 = .ok (.aload_n 0, 1) := by decide +kernel
theorem dX10_undo_22 : decode cX10_undo 22 = .ok (.getfield 57, 3) := by decide +kernel
theorem dX10_undo_25 : decode cX10_undo 25 = .ok (.aload_n 0, 1) := by decide +kernel
theorem dX10_undo_26 : decode cX10_undo 26 = .ok (.getfield 61, 3) := by decide +kernel
theorem dX10_undo_29 : decode cX10_undo 29 = .ok (.iconst 1, 1) := by decide +kernel
theorem dX10_undo_30 : decode cX10_undo 30 = .ok (.isub, 1) := by decide +kernel
theorem dX10_undo_31 : decode cX10_undo 31 = .ok (.aaload, 1) := by decide +kernel
theorem dX10_undo_32 : decode cX10_undo 32 = .ok (.astore_n 1, 1) := by decide +kernel
theorem dX10_undo_33 : decode cX10_undo 33 = .ok (.aload_n 1, 1) := by decide +kernel
theorem dX10_undo_34 : decode cX10_undo 34 = .ok (.ifnonnull 5, 3) := by decide +kernel
theorem dX10_undo_37 : decode cX10_undo 37 = .ok (.iconst 0, 1) := by decide +kernel
theorem dX10_undo_38 : decode cX10_undo 38 = .ok (.ireturn, 1) := by decide +kernel
theorem dX10_undo_39 : decode cX10_undo 39 = .ok (.aload_n 0, 1) := by decide +kernel
theorem dX10_undo_40 : decode cX10_undo 40 = .ok (.getfield 39, 3) := by decide +kernel
theorem dX10_undo_43 : decode cX10_undo 43 = .ok (.aload_n 1, 1) := by decide +kernel
theorem dX10_undo_44 : decode cX10_undo 44 = .ok (.invokevirtual 189, 3) := by decide +kernel
theorem dX10_undo_47 : decode cX10_undo 47 = .ok (.aload_n 0, 1) := by decide +kernel
theorem dX10_undo_48 : decode cX10_undo 48 = .ok (.dup, 1) := by decide +kernel
theorem dX10_undo_49 : decode cX10_undo 49 = .ok (.getfield 61, 3) := by decide +kernel
theorem dX10_undo_52 : decode cX10_undo 52 = .ok (.iconst 1, 1) := by decide +kernel
theorem dX10_undo_53 : decode cX10_undo 53 = .ok (.isub, 1) := by decide +kernel
theorem dX10_undo_54 : decode cX10_undo 54 = .ok (.putfield 61, 3) := by decide +kernel
theorem dX10_undo_57 : decode cX10_undo 57 = .ok (.iconst 1, 1) := by decide +kernel
theorem dX10_undo_58 : decode cX10_undo 58 = .ok (.ireturn, 1) := by decide +kernel
theorem dX10_remember_0 : decode cX10_remember 0 = .ok (.aload_n 0, 1) := by decide +kernel
theorem dX10_remember_1 : decode cX10_remember 1 = .ok (.getfield 61, 3) := by decide +kernel
theorem dX10_remember_4 : decode cX10_remember 4 = .ok (.aload_n 0, 1) := by decide +kernel
theorem dX10_remember_5 : decode cX10_remember 5 = .ok (.getfield 57, 3) := by decide +kernel
theorem dX10_remember_8 : decode cX10_remember 8 = .ok (.arraylength, 1) := by decide +kernel
theorem dX10_remember_9 : decode cX10_remember 9 = .ok (.if_icmp .lt 65, 3) := by decide +kernel
theorem dX10_remember_12 : decode cX10_remember 12 = .ok (.aload_n 0, 1) := by decide +kernel
theorem dX10_remember_13 : decode cX10_remember 13 = .ok (.getfield 57, 3) := by decide +kernel
theorem dX10_remember_16 : decode cX10_remember 16 = .ok (.iconst 0, 1) := by decide +kernel
theorem dX10_remember_17 : decode cX10_remember 17 = .ok (.aaload, 1) := by decide +kernel
theorem dX10_remember_18 : decode cX10_remember 18 = .ok (.astore_n 1, 1) := by decide +kernel
theorem dX10_remember_19 : decode cX10_remember 19 = .ok (.iconst 1, 1) := by decide +kernel
theorem dX10_remember_20 : decode cX10_remember 20 = .ok (.istore_n 2, 1) := by decide +kernel
theorem dX10_remember_21 : decode cX10_remember 21 = .ok (.iload_n 2, 1) := by decide +kernel
theorem dX10_remember_22 : decode cX10_remember 22 = .ok (.aload_n 0, 1) := by decide +kernel
theorem dX10_remember_23 : decode cX10_remember 23 = .ok (.getfield 57, 3) := by decide +kernel
theorem dX10_remember_26 : decode cX10_remember 26 = .ok (.arraylength, 1) := by decide +kernel
theorem dX10_remember_27 : decode cX10_remember 27 = .ok (.if_icmp .ge 23, 3) := by decide +kernel
theorem dX10_remember_30 : decode cX10_remember 30 = .ok (.aload_n 0, 1) := by decide +kernel
theorem dX10_remember_31 : decode cX10_remember 31 = .ok (.getfield 57, 3) := by decide +kernel
theorem dX10_remember_34 : decode cX10_remember 34 = .ok (.iload_n 2, 1) := by decide +kernel
theorem dX10_remember_35 : decode cX10_remember 35 = .ok (.iconst 1, 1) := by decide +kernel
theorem dX10_remember_36 : decode cX10_remember 36 = .ok (.isub, 1) := by decide +kernel
theorem dX10_remember_37 : decode cX10_remember 37 = .ok (.aload_n 0, 1) := by decide +kernel
theorem dX10_remember_38 : decode cX10_remember 38 = .ok (.getfield 57, 3) := by decide +kernel
theorem dX10_remember_41 : decode cX10_remember 41 = .ok (.iload_n 2, 1) := by decide +kernel
theorem dX10_remember_42 : decode cX10_remember 42 = .ok (.aaload, 1) := by decide +kernel
theorem dX10_remember_43 : decode cX10_remember 43 = .ok (.aastore, 1) := by decide +kernel
theorem dX10_remember_44 : decode cX10_remember 44 = .ok (.iinc 2 1, 3) := by decide +kernel
theorem dX10_remember_47 : decode cX10_remember 47 = .ok (.goto (-26), 3) := by decide +kernel
theorem dX10_remember_50 : decode cX10_remember 50 = .ok (.aload_n 0, 1) := by decide +kernel
theorem dX10_remember_51 : decode cX10_remember 51 = .ok (.getfield 57, 3) := by decide +kernel
theorem dX10_remember_54 : decode cX10_remember 54 = .ok (.aload_n 0, 1) := by decide +kernel
theorem dX10_remember_55 : decode cX10_remember 55 = .ok (.getfield 57, 3) := by decide +kernel
theorem dX10_remember_58 : decode cX10_remember 58 = .ok (.arraylength, 1) := by decide +kernel
theorem dX10_remember_59 : decode cX10_remember 59 = .ok (.iconst 1, 1) := by decide +kernel
theorem dX10_remember_60 : decode cX10_remember 60 = .ok (.isub, 1) := by decide +kernel
theorem dX10_remember_61 : decode cX10_remember 61 = .ok (.aload_n 1, 1) := by decide +kernel
theorem dX10_remember_62 : decode cX10_remember 62 = .ok (.aastore, 1) := by decide +kernel
theorem dX10_remember_63 : decode cX10_remember 63 = .ok (.aload_n 0, 1) := by decide +kernel
theorem dX10_remember_64 : decode cX10_remember 64 = .ok (.aload_n 0, 1) := by decide +kernel
theorem dX10_remember_65 : decode cX10_remember 65 = .ok (.getfield 57, 3) := by decide +kernel
theorem dX10_remember_68 : decode cX10_remember 68 = .ok (.arraylength, 1) := by decide +kernel
theorem dX10_remember_69 : decode cX10_remember 69 = .ok (.iconst 1, 1) := by decide +kernel
theorem dX10_remember_70 : decode cX10_remember 70 = .ok (.isub, 1) := by decide +kernel
theorem dX10_remember_71 : decode cX10_remember 71 = .ok (.putfield 61, 3) := by decide +kernel
theorem dX10_remember_74 : decode cX10_remember 74 = .ok (.aload_n 0, 1) := by decide +kernel
theorem dX10_remember_75 : decode cX10_remember 75 = .ok (.getfield 61, 3) := by decide +kernel
theorem dX10_remember_78 : decode cX10_remember 78 = .ok (.ifCond .lt 41, 3) := by decide +kernel
theorem dX10_remember_81 : decode cX10_remember 81 = .ok (.aload_n 0, 1) := by decide +kernel
theorem dX10_remember_82 : decode cX10_remember 82 = .ok (.getfield 57, 3) := by decide +kernel
theorem dX10_remember_85 : decode cX10_remember 85 = .ok (.aload_n 0, 1) := by decide +kernel
theorem dX10_remember_86 : decode cX10_remember 86 = .ok (.getfield 61, 3) := by decide +kernel
theorem dX10_remember_89 : decode cX10_remember 89 = .ok (.aaload, 1) := by decide +kernel
theorem dX10_remember_90 : decode cX10_remember 90 = .ok (.ifnull 29, 3) := by decide +kernel
theorem dX10_remember_93 : decode cX10_remember 93 = .ok (.aload_n 0, 1) := by decide +kernel
theorem dX10_remember_94 : decode cX10_remember 94 = .ok (.getfield 57, 3) := by decide +kernel
theorem dX10_remember_97 : decode cX10_remember 97 = .ok (.aload_n 0, 1) := by decide +kernel
theorem dX10_remember_98 : decode cX10_remember 98 = .ok (.getfield 61, 3) := by decide +kernel
theorem dX10_remember_101 : decode cX10_remember 101 = .ok (.aaload, 1) := by decide +kernel
theorem dX10_remember_102 : decode cX10_remember 102 = .ok (.aload_n 0, 1) := by decide +kernel
theorem dX10_remember_103 : decode cX10_remember 103 = .ok (.getfield 39, 3) := by decide +kernel
theorem dX10_remember_106 : decode cX10_remember 106 = .ok (.invokevirtual 189, 3) := by decide +kernel
theorem dX10_remember_109 : decode cX10_remember 109 = .ok (.aload_n 0, 1) := by decide +kernel
theorem dX10_remember_110 : decode cX10_remember 110 = .ok (.dup, 1) := by decide +kernel
theorem dX10_remember_111 : decode cX10_remember 111 = .ok (.getfield 61, 3) := by decide +kernel
theorem dX10_remember_114 : decode cX10_remember 114 = .ok (.iconst 1, 1) := by decide +kernel
theorem dX10_remember_115 : decode cX10_remember 115 = .ok (.iadd, 1) := by decide +kernel
theorem dX10_remember_116 : decode cX10_remember 116 = .ok (.putfield 61, 3) := by decide +kernel
theorem dX10_remember_119 : decode cX10_remember 119 = .ok (.return_, 1) := by decide +kernel
theorem dX10_judged_0 : decode cX10_judged 0 = .ok (.iload_n 1, 1) := by decide +kernel
theorem dX10_judged_1 : decode cX10_judged 1 = .ok (.ifCond .lt 8, 3) := by decide +kernel
theorem dX10_judged_4 : decode cX10_judged 4 = .ok (.iload_n 1, 1) := by decide +kernel
theorem dX10_judged_5 : decode cX10_judged 5 = .ok (.iconst 2, 1) := by decide +kernel
theorem dX10_judged_6 : decode cX10_judged 6 = .ok (.if_icmp .le 6, 3) := by decide +kernel
theorem dX10_judged_9 : decode cX10_judged 9 = .ok (.bipush (-2), 2) := by decide +kernel
theorem dX10_judged_11 : decode cX10_judged 11 = .ok (.ireturn, 1) := by decide +kernel
theorem dX10_judged_12 : decode cX10_judged 12 = .ok (.iconst (-1), 1) := by decide +kernel
theorem dX10_judged_13 : decode cX10_judged 13 = .ok (.istore_n 2, 1) := by decide +kernel
theorem dX10_judged_14 : decode cX10_judged 14 = .ok (.iconst (-1), 1) := by decide +kernel
theorem dX10_judged_15 : decode cX10_judged 15 = .ok (.istore_n 3, 1) := by decide +kernel
theorem dX10_judged_16 : decode cX10_judged 16 = .ok (.aload_n 0, 1) := by decide +kernel
theorem dX10_judged_17 : decode cX10_judged 17 = .ok (.getfield 71, 3) := by decide +kernel
theorem dX10_judged_20 : decode cX10_judged 20 = .ok (.aload_n 0, 1) := by decide +kernel
theorem dX10_judged_21 : decode cX10_judged 21 = .ok (.getfield 19, 3) := by decide +kernel
theorem dX10_judged_24 : decode cX10_judged 24 = .ok (.invokevirtual 86, 3) := by decide +kernel
theorem dX10_judged_27 : decode cX10_judged 27 = .ok (.iconst 0, 1) := by decide +kernel
theorem dX10_judged_28 : decode cX10_judged 28 = .ok (.istore 4, 2) := by decide +kernel
theorem dX10_judged_30 : decode cX10_judged 30 = .ok (.iload 4, 2) := by decide +kernel
theorem dX10_judged_32 : decode cX10_judged 32 = .ok (.aload_n 0, 1) := by decide +kernel
theorem dX10_judged_33 : decode cX10_judged 33 = .ok (.getfield 29, 3) := by decide +kernel
theorem dX10_judged_36 : decode cX10_judged 36 = .ok (.getfield 193, 3) := by decide +kernel
theorem dX10_judged_39 : decode cX10_judged 39 = .ok (.if_icmp .ge 64, 3) := by decide +kernel
theorem dX10_judged_42 : decode cX10_judged 42 = .ok (.aload_n 0, 1) := by decide +kernel
theorem dX10_judged_43 : decode cX10_judged 43 = .ok (.aload_n 0, 1) := by decide +kernel
theorem dX10_judged_44 : decode cX10_judged 44 = .ok (.getfield 29, 3) := by decide +kernel
theorem dX10_judged_47 : decode cX10_judged 47 = .ok (.iload 4, 2) := by decide +kernel
theorem dX10_judged_49 : decode cX10_judged 49 = .ok (.invokevirtual 196, 3) := by decide +kernel
theorem dX10_judged_52 : decode cX10_judged 52 = .ok (.aload_n 0, 1) := by decide +kernel
theorem dX10_judged_53 : decode cX10_judged 53 = .ok (.getfield 29, 3) := by decide +kernel
theorem dX10_judged_56 : decode cX10_judged 56 = .ok (.iload 4, 2) := by decide +kernel
theorem dX10_judged_58 : decode cX10_judged 58 = .ok (.invokevirtual 199, 3) := by decide +kernel
theorem dX10_judged_61 : decode cX10_judged 61 = .ok (.invokevirtual 202, 3) := by decide +kernel
theorem dX10_judged_64 : decode cX10_judged 64 = .ok (.istore 5, 2) := by decide +kernel
theorem dX10_judged_66 : decode cX10_judged 66 = .ok (.iload 5, 2) := by decide +kernel
theorem dX10_judged_68 : decode cX10_judged 68 = .ok (.ifCond .ne 11, 3) := by decide +kernel
theorem dX10_judged_71 : decode cX10_judged 71 = .ok (.iload_n 2, 1) := by decide +kernel
theorem dX10_judged_72 : decode cX10_judged 72 = .ok (.iconst (-1), 1) := by decide +kernel
theorem dX10_judged_73 : decode cX10_judged 73 = .ok (.if_icmp .ne 6, 3) := by decide +kernel
theorem dX10_judged_76 : decode cX10_judged 76 = .ok (.iload 4, 2) := by decide +kernel
theorem dX10_judged_78 : decode cX10_judged 78 = .ok (.istore_n 2, 1) := by decide +kernel
theorem dX10_judged_79 : decode cX10_judged 79 = .ok (.aload_n 0, 1) := by decide +kernel
theorem dX10_judged_80 : decode cX10_judged 80 = .ok (.getfield 71, 3) := by decide +kernel
theorem dX10_judged_83 : decode cX10_judged 83 = .ok (.getfield 139, 3) := by decide +kernel
theorem dX10_judged_86 : decode cX10_judged 86 = .ok (.ifCond .eq 11, 3) := by decide +kernel
theorem dX10_judged_89 : decode cX10_judged 89 = .ok (.iload_n 3, 1) := by decide +kernel
theorem dX10_judged_90 : decode cX10_judged 90 = .ok (.iconst (-1), 1) := by decide +kernel
theorem dX10_judged_91 : decode cX10_judged 91 = .ok (.if_icmp .ne 6, 3) := by decide +kernel
theorem dX10_judged_94 : decode cX10_judged 94 = .ok (.iload 4, 2) := by decide +kernel
theorem dX10_judged_96 : decode cX10_judged 96 = .ok (.istore_n 3, 1) := by decide +kernel
theorem dX10_judged_97 : decode cX10_judged 97 = .ok (.iinc 4 1, 3) := by decide +kernel
theorem dX10_judged_100 : decode cX10_judged 100 = .ok (.goto (-70), 3) := by decide +kernel
theorem dX10_judged_103 : decode cX10_judged 103 = .ok (.iload_n 1, 1) := by decide +kernel
theorem dX10_judged_104 : decode cX10_judged 104 = .ok (.ifCond .ne 5, 3) := by decide +kernel
theorem dX10_judged_107 : decode cX10_judged 107 = .ok (.iload_n 2, 1) := by decide +kernel
theorem dX10_judged_108 : decode cX10_judged 108 = .ok (.ireturn, 1) := by decide +kernel
theorem dX10_judged_109 : decode cX10_judged 109 = .ok (.iload_n 1, 1) := by decide +kernel
theorem dX10_judged_110 : decode cX10_judged 110 = .ok (.iconst 1, 1) := by decide +kernel
theorem dX10_judged_111 : decode cX10_judged 111 = .ok (.if_icmp .ne 7, 3) := by decide +kernel
theorem dX10_judged_114 : decode cX10_judged 114 = .ok (.iload_n 3, 1) := by decide +kernel
theorem dX10_judged_115 : decode cX10_judged 115 = .ok (.goto 13, 3) := by decide +kernel
theorem dX10_judged_118 : decode cX10_judged 118 = .ok (.aload_n 0, 1) := by decide +kernel
theorem dX10_judged_119 : decode cX10_judged 119 = .ok (.getfield 71, 3) := by decide +kernel
theorem dX10_judged_122 : decode cX10_judged 122 = .ok (.getfield 139, 3) := by decide +kernel
theorem dX10_judged_125 : decode cX10_judged 125 = .ok (.invokestatic 205, 3) := by decide +kernel
theorem dX10_judged_128 : decode cX10_judged 128 = .ok (.ireturn, 1) := by decide +kernel
theorem dX10_follow_0 : decode cX10_follow 0 = .ok (.iload_n 1, 1) := by decide +kernel
theorem dX10_follow_1 : decode cX10_follow 1 = .ok (.tableswitch 110 7 10 #[31, 58, 81, 91], 31) := by decide +kernel
theorem dX10_follow_32 : decode cX10_follow 32 = .ok (.aload_n 0, 1) := by decide +kernel
theorem dX10_follow_33 : decode cX10_follow 33 = .ok (.getfield 71, 3) := by decide +kernel
theorem dX10_follow_36 : decode cX10_follow 36 = .ok (.aload_n 0, 1) := by decide +kernel
theorem dX10_follow_37 : decode cX10_follow 37 = .ok (.getfield 19, 3) := by decide +kernel
theorem dX10_follow_40 : decode cX10_follow 40 = .ok (.iload_n 2, 1) := by decide +kernel
theorem dX10_follow_41 : decode cX10_follow 41 = .ok (.invokevirtual 158, 3) := by decide +kernel
theorem dX10_follow_44 : decode cX10_follow 44 = .ok (.ifCond .ne 5, 3) := by decide +kernel
theorem dX10_follow_47 : decode cX10_follow 47 = .ok (.iconst 0, 1) := by decide +kernel
theorem dX10_follow_48 : decode cX10_follow 48 = .ok (.ireturn, 1) := by decide +kernel
theorem dX10_follow_49 : decode cX10_follow 49 = .ok (.aload_n 0, 1) := by decide +kernel
theorem dX10_follow_50 : decode cX10_follow 50 = .ok (.getfield 71, 3) := by decide +kernel
theorem dX10_follow_53 : decode cX10_follow 53 = .ok (.iload_n 2, 1) := by decide +kernel
theorem dX10_follow_54 : decode cX10_follow 54 = .ok (.invokevirtual 165, 3) := by decide +kernel
theorem dX10_follow_57 : decode cX10_follow 57 = .ok (.iconst 1, 1) := by decide +kernel
theorem dX10_follow_58 : decode cX10_follow 58 = .ok (.ireturn, 1) := by decide +kernel
theorem dX10_follow_59 : decode cX10_follow 59 = .ok (.aload_n 0, 1) := by decide +kernel
theorem dX10_follow_60 : decode cX10_follow 60 = .ok (.getfield 71, 3) := by decide +kernel
theorem dX10_follow_63 : decode cX10_follow 63 = .ok (.iload_n 2, 1) := by decide +kernel
theorem dX10_follow_64 : decode cX10_follow 64 = .ok (.invokevirtual 149, 3) := by decide +kernel
theorem dX10_follow_67 : decode cX10_follow 67 = .ok (.ifCond .ne 5, 3) := by decide +kernel
theorem dX10_follow_70 : decode cX10_follow 70 = .ok (.iconst 0, 1) := by decide +kernel
theorem dX10_follow_71 : decode cX10_follow 71 = .ok (.ireturn, 1) := by decide +kernel
theorem dX10_follow_72 : decode cX10_follow 72 = .ok (.aload_n 0, 1) := by decide +kernel
theorem dX10_follow_73 : decode cX10_follow 73 = .ok (.getfield 71, 3) := by decide +kernel
theorem dX10_follow_76 : decode cX10_follow 76 = .ok (.iload_n 2, 1) := by decide +kernel
theorem dX10_follow_77 : decode cX10_follow 77 = .ok (.invokevirtual 169, 3) := by decide +kernel
theorem dX10_follow_80 : decode cX10_follow 80 = .ok (.iconst 1, 1) := by decide +kernel
theorem dX10_follow_81 : decode cX10_follow 81 = .ok (.ireturn, 1) := by decide +kernel
theorem dX10_follow_82 : decode cX10_follow 82 = .ok (.aload_n 0, 1) := by decide +kernel
theorem dX10_follow_83 : decode cX10_follow 83 = .ok (.getfield 71, 3) := by decide +kernel
theorem dX10_follow_86 : decode cX10_follow 86 = .ok (.iload_n 2, 1) := by decide +kernel
theorem dX10_follow_87 : decode cX10_follow 87 = .ok (.invokevirtual 172, 3) := by decide +kernel
theorem dX10_follow_90 : decode cX10_follow 90 = .ok (.iconst 1, 1) := by decide +kernel
theorem dX10_follow_91 : decode cX10_follow 91 = .ok (.ireturn, 1) := by decide +kernel
theorem dX10_follow_92 : decode cX10_follow 92 = .ok (.aload_n 0, 1) := by decide +kernel
theorem dX10_follow_93 : decode cX10_follow 93 = .ok (.getfield 53, 3) := by decide +kernel
theorem dX10_follow_96 : decode cX10_follow 96 = .ok (.aload_n 0, 1) := by decide +kernel
theorem dX10_follow_97 : decode cX10_follow 97 = .ok (.getfield 19, 3) := by decide +kernel
theorem dX10_follow_100 : decode cX10_follow 100 = .ok (.aload_n 0, 1) := by decide +kernel
theorem dX10_follow_101 : decode cX10_follow 101 = .ok (.getfield 71, 3) := by decide +kernel
theorem dX10_follow_104 : decode cX10_follow 104 = .ok (.iconst 0, 1) := by decide +kernel
theorem dX10_follow_105 : decode cX10_follow 105 = .ok (.invokevirtual 178, 3) := by decide +kernel
theorem dX10_follow_108 : decode cX10_follow 108 = .ok (.pop, 1) := by decide +kernel
theorem dX10_follow_109 : decode cX10_follow 109 = .ok (.iconst 1, 1) := by decide +kernel
theorem dX10_follow_110 : decode cX10_follow 110 = .ok (.ireturn, 1) := by decide +kernel
theorem dX10_follow_111 : decode cX10_follow 111 = .ok (.aload_n 0, 1) := by decide +kernel
theorem dX10_follow_112 : decode cX10_follow 112 = .ok (.getfield 53, 3) := by decide +kernel
theorem dX10_follow_115 : decode cX10_follow 115 = .ok (.aload_n 0, 1) := by decide +kernel
theorem dX10_follow_116 : decode cX10_follow 116 = .ok (.getfield 19, 3) := by decide +kernel
theorem dX10_follow_119 : decode cX10_follow 119 = .ok (.aload_n 0, 1) := by decide +kernel
theorem dX10_follow_120 : decode cX10_follow 120 = .ok (.getfield 71, 3) := by decide +kernel
theorem dX10_follow_123 : decode cX10_follow 123 = .ok (.aload_n 0, 1) := by decide +kernel
theorem dX10_follow_124 : decode cX10_follow 124 = .ok (.getfield 19, 3) := by decide +kernel
theorem dX10_follow_127 : decode cX10_follow 127 = .ok (.getfield 182, 3) := by decide +kernel
theorem dX10_follow_130 : decode cX10_follow 130 = .ok (.invokevirtual 185, 3) := by decide +kernel
theorem dX10_follow_133 : decode cX10_follow 133 = .ok (.pop, 1) := by decide +kernel
theorem dX10_follow_134 : decode cX10_follow 134 = .ok (.iconst 1, 1) := by decide +kernel
theorem dX10_follow_135 : decode cX10_follow 135 = .ok (.ireturn, 1) := by decide +kernel
theorem dX10_leap_0 : decode cX10_leap 0 = .ok (.iload_n 1, 1) := by decide +kernel
theorem dX10_leap_1 : decode cX10_leap 1 = .ok (.invokestatic 210, 3) := by decide +kernel
theorem dX10_leap_4 : decode cX10_leap 4 = .ok (.ifCond .ne 5, 3) := by decide +kernel
theorem dX10_leap_7 : decode cX10_leap 7 = .ok (.iconst (-1), 1) := by decide +kernel
theorem dX10_leap_8 : decode cX10_leap 8 = .ok (.ireturn, 1) := by decide +kernel
theorem dX10_leap_9 : decode cX10_leap 9 = .ok (.iload_n 1, 1) := by decide +kernel
theorem dX10_leap_10 : decode cX10_leap 10 = .ok (.invokestatic 215, 3) := by decide +kernel
theorem dX10_leap_13 : decode cX10_leap 13 = .ok (.ifCond .eq 7, 3) := by decide +kernel
theorem dX10_leap_16 : decode cX10_leap 16 = .ok (.iconst 1, 1) := by decide +kernel
theorem dX10_leap_17 : decode cX10_leap 17 = .ok (.goto 4, 3) := by decide +kernel
theorem dX10_leap_20 : decode cX10_leap 20 = .ok (.iconst 0, 1) := by decide +kernel
theorem dX10_leap_21 : decode cX10_leap 21 = .ok (.ireturn, 1) := by decide +kernel
theorem dX10_between_0 : decode cX10_between 0 = .ok (.iload_n 1, 1) := by decide +kernel
theorem dX10_between_1 : decode cX10_between 1 = .ok (.invokestatic 210, 3) := by decide +kernel
theorem dX10_between_4 : decode cX10_between 4 = .ok (.ifCond .eq 15, 3) := by decide +kernel
theorem dX10_between_7 : decode cX10_between 7 = .ok (.iload_n 2, 1) := by decide +kernel
theorem dX10_between_8 : decode cX10_between 8 = .ok (.invokestatic 210, 3) := by decide +kernel
theorem dX10_between_11 : decode cX10_between 11 = .ok (.ifCond .eq 8, 3) := by decide +kernel
theorem dX10_between_14 : decode cX10_between 14 = .ok (.iload_n 2, 1) := by decide +kernel
theorem dX10_between_15 : decode cX10_between 15 = .ok (.iload_n 1, 1) := by decide +kernel
theorem dX10_between_16 : decode cX10_between 16 = .ok (.if_icmp .ge 5, 3) := by decide +kernel
theorem dX10_between_19 : decode cX10_between 19 = .ok (.iconst (-1), 1) := by decide +kernel
theorem dX10_between_20 : decode cX10_between 20 = .ok (.ireturn, 1) := by decide +kernel
theorem dX10_between_21 : decode cX10_between 21 = .ok (.iload_n 2, 1) := by decide +kernel
theorem dX10_between_22 : decode cX10_between 22 = .ok (.invokestatic 218, 3) := by decide +kernel
theorem dX10_between_25 : decode cX10_between 25 = .ok (.iload_n 1, 1) := by decide +kernel
theorem dX10_between_26 : decode cX10_between 26 = .ok (.invokestatic 218, 3) := by decide +kernel
theorem dX10_between_29 : decode cX10_between 29 = .ok (.isub, 1) := by decide +kernel
theorem dX10_between_30 : decode cX10_between 30 = .ok (.ireturn, 1) := by decide +kernel
theorem dX10_next_0 : decode cX10_next 0 = .ok (.iload_n 1, 1) := by decide +kernel
theorem dX10_next_1 : decode cX10_next 1 = .ok (.invokestatic 210, 3) := by decide +kernel
theorem dX10_next_4 : decode cX10_next 4 = .ok (.ifCond .eq 10, 3) := by decide +kernel
theorem dX10_next_7 : decode cX10_next 7 = .ok (.iload_n 1, 1) := by decide +kernel
theorem dX10_next_8 : decode cX10_next 8 = .ok (.invokestatic 221, 3) := by decide +kernel
theorem dX10_next_11 : decode cX10_next 11 = .ok (.goto 4, 3) := by decide +kernel
theorem dX10_next_14 : decode cX10_next 14 = .ok (.iconst (-1), 1) := by decide +kernel
theorem dX10_next_15 : decode cX10_next 15 = .ok (.ireturn, 1) := by decide +kernel
theorem dX10_weekday_0 : decode cX10_weekday 0 = .ok (.iload_n 1, 1) := by decide +kernel
theorem dX10_weekday_1 : decode cX10_weekday 1 = .ok (.invokestatic 210, 3) := by decide +kernel
theorem dX10_weekday_4 : decode cX10_weekday 4 = .ok (.ifCond .eq 17, 3) := by decide +kernel
theorem dX10_weekday_7 : decode cX10_weekday 7 = .ok (.iload_n 1, 1) := by decide +kernel
theorem dX10_weekday_8 : decode cX10_weekday 8 = .ok (.invokestatic 215, 3) := by decide +kernel
theorem dX10_weekday_11 : decode cX10_weekday 11 = .ok (.ifCond .eq 10, 3) := by decide +kernel
theorem dX10_weekday_14 : decode cX10_weekday 14 = .ok (.iload_n 1, 1) := by decide +kernel
theorem dX10_weekday_15 : decode cX10_weekday 15 = .ok (.invokestatic 224, 3) := by decide +kernel
theorem dX10_weekday_18 : decode cX10_weekday 18 = .ok (.goto 4, 3) := by decide +kernel
theorem dX10_weekday_21 : decode cX10_weekday 21 = .ok (.iconst (-1), 1) := by decide +kernel
theorem dX10_weekday_22 : decode cX10_weekday 22 = .ok (.ireturn, 1) := by decide +kernel
theorem dX10_gate_0 : decode cX10_gate 0 = .ok (.iload_n 1, 1) := by decide +kernel
theorem dX10_gate_1 : decode cX10_gate 1 = .ok (.invokestatic 210, 3) := by decide +kernel
theorem dX10_gate_4 : decode cX10_gate 4 = .ok (.ifCond .eq 15, 3) := by decide +kernel
theorem dX10_gate_7 : decode cX10_gate 7 = .ok (.iload_n 2, 1) := by decide +kernel
theorem dX10_gate_8 : decode cX10_gate 8 = .ok (.invokestatic 210, 3) := by decide +kernel
theorem dX10_gate_11 : decode cX10_gate 11 = .ok (.ifCond .eq 8, 3) := by decide +kernel
theorem dX10_gate_14 : decode cX10_gate 14 = .ok (.iload_n 2, 1) := by decide +kernel
theorem dX10_gate_15 : decode cX10_gate 15 = .ok (.iload_n 1, 1) := by decide +kernel
theorem dX10_gate_16 : decode cX10_gate 16 = .ok (.if_icmp .ge 5, 3) := by decide +kernel
theorem dX10_gate_19 : decode cX10_gate 19 = .ok (.iconst (-1), 1) := by decide +kernel
theorem dX10_gate_20 : decode cX10_gate 20 = .ok (.ireturn, 1) := by decide +kernel
theorem dX10_gate_21 : decode cX10_gate 21 = .ok (.iconst 0, 1) := by decide +kernel
theorem dX10_gate_22 : decode cX10_gate 22 = .ok (.istore_n 3, 1) := by decide +kernel
theorem dX10_gate_23 : decode cX10_gate 23 = .ok (.iconst 0, 1) := by decide +kernel
theorem dX10_gate_24 : decode cX10_gate 24 = .ok (.istore 4, 2) := by decide +kernel
theorem dX10_gate_26 : decode cX10_gate 26 = .ok (.iload_n 1, 1) := by decide +kernel
theorem dX10_gate_27 : decode cX10_gate 27 = .ok (.istore 5, 2) := by decide +kernel
theorem dX10_gate_29 : decode cX10_gate 29 = .ok (.iload 5, 2) := by decide +kernel
theorem dX10_gate_31 : decode cX10_gate 31 = .ok (.iload_n 2, 1) := by decide +kernel
theorem dX10_gate_32 : decode cX10_gate 32 = .ok (.if_icmp .gt 36, 3) := by decide +kernel
theorem dX10_gate_35 : decode cX10_gate 35 = .ok (.iload 5, 2) := by decide +kernel
theorem dX10_gate_37 : decode cX10_gate 37 = .ok (.invokestatic 215, 3) := by decide +kernel
theorem dX10_gate_40 : decode cX10_gate 40 = .ok (.ifCond .eq 22, 3) := by decide +kernel
theorem dX10_gate_43 : decode cX10_gate 43 = .ok (.iload 4, 2) := by decide +kernel
theorem dX10_gate_45 : decode cX10_gate 45 = .ok (.ifCond .le 13, 3) := by decide +kernel
theorem dX10_gate_48 : decode cX10_gate 48 = .ok (.iload_n 3, 1) := by decide +kernel
theorem dX10_gate_49 : decode cX10_gate 49 = .ok (.iload 5, 2) := by decide +kernel
theorem dX10_gate_51 : decode cX10_gate 51 = .ok (.iload 4, 2) := by decide +kernel
theorem dX10_gate_53 : decode cX10_gate 53 = .ok (.isub, 1) := by decide +kernel
theorem dX10_gate_54 : decode cX10_gate 54 = .ok (.invokestatic 227, 3) := by decide +kernel
theorem dX10_gate_57 : decode cX10_gate 57 = .ok (.istore_n 3, 1) := by decide +kernel
theorem dX10_gate_58 : decode cX10_gate 58 = .ok (.iload 5, 2) := by decide +kernel
theorem dX10_gate_60 : decode cX10_gate 60 = .ok (.istore 4, 2) := by decide +kernel
theorem dX10_gate_62 : decode cX10_gate 62 = .ok (.iinc 5 1, 3) := by decide +kernel
theorem dX10_gate_65 : decode cX10_gate 65 = .ok (.goto (-36), 3) := by decide +kernel
theorem dX10_gate_68 : decode cX10_gate 68 = .ok (.iload_n 3, 1) := by decide +kernel
theorem dX10_gate_69 : decode cX10_gate 69 = .ok (.ireturn, 1) := by decide +kernel
theorem dX10_cycle_0 : decode cX10_cycle 0 = .ok (.iload_n 1, 1) := by decide +kernel
theorem dX10_cycle_1 : decode cX10_cycle 1 = .ok (.invokestatic 210, 3) := by decide +kernel
theorem dX10_cycle_4 : decode cX10_cycle 4 = .ok (.ifCond .eq 10, 3) := by decide +kernel
theorem dX10_cycle_7 : decode cX10_cycle 7 = .ok (.iload_n 1, 1) := by decide +kernel
theorem dX10_cycle_8 : decode cX10_cycle 8 = .ok (.invokestatic 215, 3) := by decide +kernel
theorem dX10_cycle_11 : decode cX10_cycle 11 = .ok (.ifCond .ne 5, 3) := by decide +kernel
theorem dX10_cycle_14 : decode cX10_cycle 14 = .ok (.iconst (-1), 1) := by decide +kernel
theorem dX10_cycle_15 : decode cX10_cycle 15 = .ok (.ireturn, 1) := by decide +kernel
theorem dX10_cycle_16 : decode cX10_cycle 16 = .ok (.iload_n 1, 1) := by decide +kernel
theorem dX10_cycle_17 : decode cX10_cycle 17 = .ok (.invokestatic 224, 3) := by decide +kernel
theorem dX10_cycle_20 : decode cX10_cycle 20 = .ok (.istore_n 2, 1) := by decide +kernel
theorem dX10_cycle_21 : decode cX10_cycle 21 = .ok (.iload_n 1, 1) := by decide +kernel
theorem dX10_cycle_22 : decode cX10_cycle 22 = .ok (.iconst 1, 1) := by decide +kernel
theorem dX10_cycle_23 : decode cX10_cycle 23 = .ok (.iadd, 1) := by decide +kernel
theorem dX10_cycle_24 : decode cX10_cycle 24 = .ok (.istore_n 3, 1) := by decide +kernel
theorem dX10_cycle_25 : decode cX10_cycle 25 = .ok (.iload_n 3, 1) := by decide +kernel
theorem dX10_cycle_26 : decode cX10_cycle 26 = .ok (.iload_n 1, 1) := by decide +kernel
theorem dX10_cycle_27 : decode cX10_cycle 27 = .ok (.sipush 400, 3) := by decide +kernel
theorem dX10_cycle_30 : decode cX10_cycle 30 = .ok (.iadd, 1) := by decide +kernel
theorem dX10_cycle_31 : decode cX10_cycle 31 = .ok (.if_icmp .gt 26, 3) := by decide +kernel
theorem dX10_cycle_34 : decode cX10_cycle 34 = .ok (.iload_n 3, 1) := by decide +kernel
theorem dX10_cycle_35 : decode cX10_cycle 35 = .ok (.invokestatic 215, 3) := by decide +kernel
theorem dX10_cycle_38 : decode cX10_cycle 38 = .ok (.ifCond .eq 13, 3) := by decide +kernel
theorem dX10_cycle_41 : decode cX10_cycle 41 = .ok (.iload_n 3, 1) := by decide +kernel
theorem dX10_cycle_42 : decode cX10_cycle 42 = .ok (.invokestatic 224, 3) := by decide +kernel
theorem dX10_cycle_45 : decode cX10_cycle 45 = .ok (.iload_n 2, 1) := by decide +kernel
theorem dX10_cycle_46 : decode cX10_cycle 46 = .ok (.if_icmp .ne 5, 3) := by decide +kernel
theorem dX10_cycle_49 : decode cX10_cycle 49 = .ok (.iload_n 3, 1) := by decide +kernel
theorem dX10_cycle_50 : decode cX10_cycle 50 = .ok (.ireturn, 1) := by decide +kernel
theorem dX10_cycle_51 : decode cX10_cycle 51 = .ok (.iinc 3 1, 3) := by decide +kernel
theorem dX10_cycle_54 : decode cX10_cycle 54 = .ok (.goto (-29), 3) := by decide +kernel
theorem dX10_cycle_57 : decode cX10_cycle 57 = .ok (.iconst (-1), 1) := by decide +kernel
theorem dX10_cycle_58 : decode cX10_cycle 58 = .ok (.ireturn, 1) := by decide +kernel
theorem dX10_lastday_0 : decode cX10_lastday 0 = .ok (.aload_n 0, 1) := by decide +kernel
theorem dX10_lastday_1 : decode cX10_lastday 1 = .ok (.getfield 19, 3) := by decide +kernel
theorem dX10_lastday_4 : decode cX10_lastday 4 = .ok (.iload_n 1, 1) := by decide +kernel
theorem dX10_lastday_5 : decode cX10_lastday 5 = .ok (.invokevirtual 122, 3) := by decide +kernel
theorem dX10_lastday_8 : decode cX10_lastday 8 = .ok (.ifCond .eq 15, 3) := by decide +kernel
theorem dX10_lastday_11 : decode cX10_lastday 11 = .ok (.aload_n 0, 1) := by decide +kernel
theorem dX10_lastday_12 : decode cX10_lastday 12 = .ok (.getfield 19, 3) := by decide +kernel
theorem dX10_lastday_15 : decode cX10_lastday 15 = .ok (.iload_n 1, 1) := by decide +kernel
theorem dX10_lastday_16 : decode cX10_lastday 16 = .ok (.invokevirtual 126, 3) := by decide +kernel
theorem dX10_lastday_19 : decode cX10_lastday 19 = .ok (.iconst 2, 1) := by decide +kernel
theorem dX10_lastday_20 : decode cX10_lastday 20 = .ok (.if_icmp .ne 5, 3) := by decide +kernel
theorem dX10_lastday_23 : decode cX10_lastday 23 = .ok (.iconst (-1), 1) := by decide +kernel
theorem dX10_lastday_24 : decode cX10_lastday 24 = .ok (.ireturn, 1) := by decide +kernel
theorem dX10_lastday_25 : decode cX10_lastday 25 = .ok (.aload_n 0, 1) := by decide +kernel
theorem dX10_lastday_26 : decode cX10_lastday 26 = .ok (.getfield 19, 3) := by decide +kernel
theorem dX10_lastday_29 : decode cX10_lastday 29 = .ok (.iload_n 1, 1) := by decide +kernel
theorem dX10_lastday_30 : decode cX10_lastday 30 = .ok (.invokevirtual 130, 3) := by decide +kernel
theorem dX10_lastday_33 : decode cX10_lastday 33 = .ok (.istore_n 2, 1) := by decide +kernel
theorem dX10_lastday_34 : decode cX10_lastday 34 = .ok (.iload_n 2, 1) := by decide +kernel
theorem dX10_lastday_35 : decode cX10_lastday 35 = .ok (.aload_n 0, 1) := by decide +kernel
theorem dX10_lastday_36 : decode cX10_lastday 36 = .ok (.getfield 19, 3) := by decide +kernel
theorem dX10_lastday_39 : decode cX10_lastday 39 = .ok (.getfield 233, 3) := by decide +kernel
theorem dX10_lastday_42 : decode cX10_lastday 42 = .ok (.iadd, 1) := by decide +kernel
theorem dX10_lastday_43 : decode cX10_lastday 43 = .ok (.iconst 1, 1) := by decide +kernel
theorem dX10_lastday_44 : decode cX10_lastday 44 = .ok (.isub, 1) := by decide +kernel
theorem dX10_lastday_45 : decode cX10_lastday 45 = .ok (.istore_n 3, 1) := by decide +kernel
theorem dX10_lastday_46 : decode cX10_lastday 46 = .ok (.iload_n 3, 1) := by decide +kernel
theorem dX10_lastday_47 : decode cX10_lastday 47 = .ok (.iload_n 2, 1) := by decide +kernel
theorem dX10_lastday_48 : decode cX10_lastday 48 = .ok (.if_icmp .lt 18, 3) := by decide +kernel
theorem dX10_lastday_51 : decode cX10_lastday 51 = .ok (.iload_n 3, 1) := by decide +kernel
theorem dX10_lastday_52 : decode cX10_lastday 52 = .ok (.invokestatic 215, 3) := by decide +kernel
theorem dX10_lastday_55 : decode cX10_lastday 55 = .ok (.ifCond .eq 5, 3) := by decide +kernel
theorem dX10_lastday_58 : decode cX10_lastday 58 = .ok (.iload_n 3, 1) := by decide +kernel
theorem dX10_lastday_59 : decode cX10_lastday 59 = .ok (.ireturn, 1) := by decide +kernel
theorem dX10_lastday_60 : decode cX10_lastday 60 = .ok (.iinc 3 (-1), 3) := by decide +kernel
theorem dX10_lastday_63 : decode cX10_lastday 63 = .ok (.goto (-17), 3) := by decide +kernel
theorem dX10_lastday_66 : decode cX10_lastday 66 = .ok (.iconst (-1), 1) := by decide +kernel
theorem dX10_lastday_67 : decode cX10_lastday 67 = .ok (.ireturn, 1) := by decide +kernel
theorem dX10_old_0 : decode cX10_old 0 = .ok (.aload_n 0, 1) := by decide +kernel
theorem dX10_old_1 : decode cX10_old 1 = .ok (.getfield 19, 3) := by decide +kernel
theorem dX10_old_4 : decode cX10_old 4 = .ok (.iload_n 1, 1) := by decide +kernel
theorem dX10_old_5 : decode cX10_old 5 = .ok (.invokevirtual 122, 3) := by decide +kernel
theorem dX10_old_8 : decode cX10_old 8 = .ok (.ifCond .ne 5, 3) := by decide +kernel
theorem dX10_old_11 : decode cX10_old 11 = .ok (.iconst (-1), 1) := by decide +kernel
theorem dX10_old_12 : decode cX10_old 12 = .ok (.ireturn, 1) := by decide +kernel
theorem dX10_old_13 : decode cX10_old 13 = .ok (.aload_n 0, 1) := by decide +kernel
theorem dX10_old_14 : decode cX10_old 14 = .ok (.getfield 39, 3) := by decide +kernel
theorem dX10_old_17 : decode cX10_old 17 = .ok (.getfield 142, 3) := by decide +kernel
theorem dX10_old_20 : decode cX10_old 20 = .ok (.invokestatic 218, 3) := by decide +kernel
theorem dX10_old_23 : decode cX10_old 23 = .ok (.aload_n 0, 1) := by decide +kernel
theorem dX10_old_24 : decode cX10_old 24 = .ok (.getfield 19, 3) := by decide +kernel
theorem dX10_old_27 : decode cX10_old 27 = .ok (.iload_n 1, 1) := by decide +kernel
theorem dX10_old_28 : decode cX10_old 28 = .ok (.invokevirtual 130, 3) := by decide +kernel
theorem dX10_old_31 : decode cX10_old 31 = .ok (.invokestatic 218, 3) := by decide +kernel
theorem dX10_old_34 : decode cX10_old 34 = .ok (.isub, 1) := by decide +kernel
theorem dX10_old_35 : decode cX10_old 35 = .ok (.istore_n 2, 1) := by decide +kernel
theorem dX10_old_36 : decode cX10_old 36 = .ok (.iconst 0, 1) := by decide +kernel
theorem dX10_old_37 : decode cX10_old 37 = .ok (.iload_n 2, 1) := by decide +kernel
theorem dX10_old_38 : decode cX10_old 38 = .ok (.invokestatic 227, 3) := by decide +kernel
theorem dX10_old_41 : decode cX10_old 41 = .ok (.ireturn, 1) := by decide +kernel
theorem dX10_call_0 : decode cX10_call 0 = .ok (.aload_n 0, 1) := by decide +kernel
theorem dX10_call_1 : decode cX10_call 1 = .ok (.getfield 53, 3) := by decide +kernel
theorem dX10_call_4 : decode cX10_call 4 = .ok (.aload_n 0, 1) := by decide +kernel
theorem dX10_call_5 : decode cX10_call 5 = .ok (.getfield 19, 3) := by decide +kernel
theorem dX10_call_8 : decode cX10_call 8 = .ok (.aload_n 0, 1) := by decide +kernel
theorem dX10_call_9 : decode cX10_call 9 = .ok (.getfield 39, 3) := by decide +kernel
theorem dX10_call_12 : decode cX10_call 12 = .ok (.invokevirtual 236, 3) := by decide +kernel
theorem dX10_call_15 : decode cX10_call 15 = .ok (.aload_n 0, 1) := by decide +kernel
theorem dX10_call_16 : decode cX10_call 16 = .ok (.getfield 53, 3) := by decide +kernel
theorem dX10_call_19 : decode cX10_call 19 = .ok (.iload_n 1, 1) := by decide +kernel
theorem dX10_call_20 : decode cX10_call 20 = .ok (.invokevirtual 240, 3) := by decide +kernel
theorem dX10_call_23 : decode cX10_call 23 = .ok (.ireturn, 1) := by decide +kernel
theorem dX10_when_0 : decode cX10_when 0 = .ok (.aload_n 0, 1) := by decide +kernel
theorem dX10_when_1 : decode cX10_when 1 = .ok (.getfield 39, 3) := by decide +kernel
theorem dX10_when_4 : decode cX10_when 4 = .ok (.iload_n 1, 1) := by decide +kernel
theorem dX10_when_5 : decode cX10_when 5 = .ok (.invokevirtual 149, 3) := by decide +kernel
theorem dX10_when_8 : decode cX10_when 8 = .ok (.ifCond .ne 5, 3) := by decide +kernel
theorem dX10_when_11 : decode cX10_when 11 = .ok (.iconst (-1), 1) := by decide +kernel
theorem dX10_when_12 : decode cX10_when 12 = .ok (.ireturn, 1) := by decide +kernel
theorem dX10_when_13 : decode cX10_when 13 = .ok (.aload_n 0, 1) := by decide +kernel
theorem dX10_when_14 : decode cX10_when 14 = .ok (.getfield 71, 3) := by decide +kernel
theorem dX10_when_17 : decode cX10_when 17 = .ok (.aload_n 0, 1) := by decide +kernel
theorem dX10_when_18 : decode cX10_when 18 = .ok (.getfield 39, 3) := by decide +kernel
theorem dX10_when_21 : decode cX10_when 21 = .ok (.invokevirtual 189, 3) := by decide +kernel
theorem dX10_when_24 : decode cX10_when 24 = .ok (.iconst 1, 1) := by decide +kernel
theorem dX10_when_25 : decode cX10_when 25 = .ok (.istore_n 2, 1) := by decide +kernel
theorem dX10_when_26 : decode cX10_when 26 = .ok (.iload_n 2, 1) := by decide +kernel
theorem dX10_when_27 : decode cX10_when 27 = .ok (.bipush 99, 2) := by decide +kernel
theorem dX10_when_29 : decode cX10_when 29 = .ok (.if_icmp .gt 42, 3) := by decide +kernel
theorem dX10_when_32 : decode cX10_when 32 = .ok (.aload_n 0, 1) := by decide +kernel
theorem dX10_when_33 : decode cX10_when 33 = .ok (.getfield 53, 3) := by decide +kernel
theorem dX10_when_36 : decode cX10_when 36 = .ok (.aload_n 0, 1) := by decide +kernel
theorem dX10_when_37 : decode cX10_when 37 = .ok (.getfield 19, 3) := by decide +kernel
theorem dX10_when_40 : decode cX10_when 40 = .ok (.aload_n 0, 1) := by decide +kernel
theorem dX10_when_41 : decode cX10_when 41 = .ok (.getfield 71, 3) := by decide +kernel
theorem dX10_when_44 : decode cX10_when 44 = .ok (.iconst 0, 1) := by decide +kernel
theorem dX10_when_45 : decode cX10_when 45 = .ok (.invokevirtual 178, 3) := by decide +kernel
theorem dX10_when_48 : decode cX10_when 48 = .ok (.pop, 1) := by decide +kernel
theorem dX10_when_49 : decode cX10_when 49 = .ok (.aload_n 0, 1) := by decide +kernel
theorem dX10_when_50 : decode cX10_when 50 = .ok (.getfield 71, 3) := by decide +kernel
theorem dX10_when_53 : decode cX10_when 53 = .ok (.getfield 139, 3) := by decide +kernel
theorem dX10_when_56 : decode cX10_when 56 = .ok (.iload_n 1, 1) := by decide +kernel
theorem dX10_when_57 : decode cX10_when 57 = .ok (.ishr, 1) := by decide +kernel
theorem dX10_when_58 : decode cX10_when 58 = .ok (.iconst 1, 1) := by decide +kernel
theorem dX10_when_59 : decode cX10_when 59 = .ok (.iand, 1) := by decide +kernel
theorem dX10_when_60 : decode cX10_when 60 = .ok (.ifCond .eq 5, 3) := by decide +kernel
theorem dX10_when_63 : decode cX10_when 63 = .ok (.iload_n 2, 1) := by decide +kernel
theorem dX10_when_64 : decode cX10_when 64 = .ok (.ireturn, 1) := by decide +kernel
theorem dX10_when_65 : decode cX10_when 65 = .ok (.iinc 2 1, 3) := by decide +kernel
theorem dX10_when_68 : decode cX10_when 68 = .ok (.goto (-42), 3) := by decide +kernel
theorem dX10_when_71 : decode cX10_when 71 = .ok (.iconst (-1), 1) := by decide +kernel
theorem dX10_when_72 : decode cX10_when 72 = .ok (.ireturn, 1) := by decide +kernel
theorem dX10_audience_0 : decode cX10_audience 0 = .ok (.aload_n 0, 1) := by decide +kernel
theorem dX10_audience_1 : decode cX10_audience 1 = .ok (.iload_n 1, 1) := by decide +kernel
theorem dX10_audience_2 : decode cX10_audience 2 = .ok (.invokevirtual 243, 3) := by decide +kernel
theorem dX10_audience_5 : decode cX10_audience 5 = .ok (.ifCond .eq 13, 3) := by decide +kernel
theorem dX10_audience_8 : decode cX10_audience 8 = .ok (.aload_n 0, 1) := by decide +kernel
theorem dX10_audience_9 : decode cX10_audience 9 = .ok (.getfield 53, 3) := by decide +kernel
theorem dX10_audience_12 : decode cX10_audience 12 = .ok (.getfield 246, 3) := by decide +kernel
theorem dX10_audience_15 : decode cX10_audience 15 = .ok (.goto 4, 3) := by decide +kernel
theorem dX10_audience_18 : decode cX10_audience 18 = .ok (.iconst (-1), 1) := by decide +kernel
theorem dX10_audience_19 : decode cX10_audience 19 = .ok (.ireturn, 1) := by decide +kernel
theorem dX10_burnt_0 : decode cX10_burnt 0 = .ok (.aload_n 0, 1) := by decide +kernel
theorem dX10_burnt_1 : decode cX10_burnt 1 = .ok (.iload_n 1, 1) := by decide +kernel
theorem dX10_burnt_2 : decode cX10_burnt 2 = .ok (.invokevirtual 243, 3) := by decide +kernel
theorem dX10_burnt_5 : decode cX10_burnt 5 = .ok (.ifCond .eq 13, 3) := by decide +kernel
theorem dX10_burnt_8 : decode cX10_burnt 8 = .ok (.aload_n 0, 1) := by decide +kernel
theorem dX10_burnt_9 : decode cX10_burnt 9 = .ok (.getfield 53, 3) := by decide +kernel
theorem dX10_burnt_12 : decode cX10_burnt 12 = .ok (.getfield 247, 3) := by decide +kernel
theorem dX10_burnt_15 : decode cX10_burnt 15 = .ok (.goto 4, 3) := by decide +kernel
theorem dX10_burnt_18 : decode cX10_burnt 18 = .ok (.iconst (-1), 1) := by decide +kernel
theorem dX10_burnt_19 : decode cX10_burnt 19 = .ok (.ireturn, 1) := by decide +kernel
theorem dX10_crowd_0 : decode cX10_crowd 0 = .ok (.aload_n 0, 1) := by decide +kernel
theorem dX10_crowd_1 : decode cX10_crowd 1 = .ok (.iload_n 1, 1) := by decide +kernel
theorem dX10_crowd_2 : decode cX10_crowd 2 = .ok (.invokevirtual 243, 3) := by decide +kernel
theorem dX10_crowd_5 : decode cX10_crowd 5 = .ok (.ifCond .eq 13, 3) := by decide +kernel
theorem dX10_crowd_8 : decode cX10_crowd 8 = .ok (.aload_n 0, 1) := by decide +kernel
theorem dX10_crowd_9 : decode cX10_crowd 9 = .ok (.getfield 53, 3) := by decide +kernel
theorem dX10_crowd_12 : decode cX10_crowd 12 = .ok (.getfield 250, 3) := by decide +kernel
theorem dX10_crowd_15 : decode cX10_crowd 15 = .ok (.goto 4, 3) := by decide +kernel
theorem dX10_crowd_18 : decode cX10_crowd 18 = .ok (.iconst (-1), 1) := by decide +kernel
theorem dX10_crowd_19 : decode cX10_crowd 19 = .ok (.ireturn, 1) := by decide +kernel
theorem dX10_foreseeDay_0 : decode cX10_foreseeDay 0 = .ok (.iload_n 1, 1) := by decide +kernel
theorem dX10_foreseeDay_1 : decode cX10_foreseeDay 1 = .ok (.iconst 1, 1) := by decide +kernel
theorem dX10_foreseeDay_2 : decode cX10_foreseeDay 2 = .ok (.if_icmp .lt 9, 3) := by decide +kernel
theorem dX10_foreseeDay_5 : decode cX10_foreseeDay 5 = .ok (.iload_n 1, 1) := by decide +kernel
theorem dX10_foreseeDay_6 : decode cX10_foreseeDay 6 = .ok (.bipush 12, 2) := by decide +kernel
theorem dX10_foreseeDay_8 : decode cX10_foreseeDay 8 = .ok (.if_icmp .le 5, 3) := by decide +kernel
theorem dX10_foreseeDay_11 : decode cX10_foreseeDay 11 = .ok (.iconst 0, 1) := by decide +kernel
theorem dX10_foreseeDay_12 : decode cX10_foreseeDay 12 = .ok (.ireturn, 1) := by decide +kernel
theorem dX10_foreseeDay_13 : decode cX10_foreseeDay 13 = .ok (.aload_n 0, 1) := by decide +kernel
theorem dX10_foreseeDay_14 : decode cX10_foreseeDay 14 = .ok (.getfield 71, 3) := by decide +kernel
theorem dX10_foreseeDay_17 : decode cX10_foreseeDay 17 = .ok (.aload_n 0, 1) := by decide +kernel
theorem dX10_foreseeDay_18 : decode cX10_foreseeDay 18 = .ok (.getfield 39, 3) := by decide +kernel
theorem dX10_foreseeDay_21 : decode cX10_foreseeDay 21 = .ok (.invokevirtual 189, 3) := by decide +kernel
theorem dX10_foreseeDay_24 : decode cX10_foreseeDay 24 = .ok (.iconst 1, 1) := by decide +kernel
theorem dX10_foreseeDay_25 : decode cX10_foreseeDay 25 = .ok (.istore_n 2, 1) := by decide +kernel
theorem dX10_foreseeDay_26 : decode cX10_foreseeDay 26 = .ok (.iload_n 2, 1) := by decide +kernel
theorem dX10_foreseeDay_27 : decode cX10_foreseeDay 27 = .ok (.iload_n 1, 1) := by decide +kernel
theorem dX10_foreseeDay_28 : decode cX10_foreseeDay 28 = .ok (.if_icmp .gt 32, 3) := by decide +kernel
theorem dX10_foreseeDay_31 : decode cX10_foreseeDay 31 = .ok (.aload_n 0, 1) := by decide +kernel
theorem dX10_foreseeDay_32 : decode cX10_foreseeDay 32 = .ok (.getfield 53, 3) := by decide +kernel
theorem dX10_foreseeDay_35 : decode cX10_foreseeDay 35 = .ok (.aload_n 0, 1) := by decide +kernel
theorem dX10_foreseeDay_36 : decode cX10_foreseeDay 36 = .ok (.getfield 19, 3) := by decide +kernel
theorem dX10_foreseeDay_39 : decode cX10_foreseeDay 39 = .ok (.aload_n 0, 1) := by decide +kernel
theorem dX10_foreseeDay_40 : decode cX10_foreseeDay 40 = .ok (.getfield 71, 3) := by decide +kernel
theorem dX10_foreseeDay_43 : decode cX10_foreseeDay 43 = .ok (.aload_n 0, 1) := by decide +kernel
theorem dX10_foreseeDay_44 : decode cX10_foreseeDay 44 = .ok (.getfield 19, 3) := by decide +kernel
theorem dX10_foreseeDay_47 : decode cX10_foreseeDay 47 = .ok (.getfield 182, 3) := by decide +kernel
theorem dX10_foreseeDay_50 : decode cX10_foreseeDay 50 = .ok (.invokevirtual 185, 3) := by decide +kernel
theorem dX10_foreseeDay_53 : decode cX10_foreseeDay 53 = .ok (.pop, 1) := by decide +kernel
theorem dX10_foreseeDay_54 : decode cX10_foreseeDay 54 = .ok (.iinc 2 1, 3) := by decide +kernel
theorem dX10_foreseeDay_57 : decode cX10_foreseeDay 57 = .ok (.goto (-31), 3) := by decide +kernel
theorem dX10_foreseeDay_60 : decode cX10_foreseeDay 60 = .ok (.iconst 1, 1) := by decide +kernel
theorem dX10_foreseeDay_61 : decode cX10_foreseeDay 61 = .ok (.ireturn, 1) := by decide +kernel
theorem dX10_exchange_0 : decode cX10_exchange 0 = .ok (.iload_n 1, 1) := by decide +kernel
theorem dX10_exchange_1 : decode cX10_exchange 1 = .ok (.iload_n 2, 1) := by decide +kernel
theorem dX10_exchange_2 : decode cX10_exchange 2 = .ok (.if_icmp .eq 25, 3) := by decide +kernel
theorem dX10_exchange_5 : decode cX10_exchange 5 = .ok (.aload_n 0, 1) := by decide +kernel
theorem dX10_exchange_6 : decode cX10_exchange 6 = .ok (.getfield 39, 3) := by decide +kernel
theorem dX10_exchange_9 : decode cX10_exchange 9 = .ok (.iload_n 1, 1) := by decide +kernel
theorem dX10_exchange_10 : decode cX10_exchange 10 = .ok (.invokevirtual 149, 3) := by decide +kernel
theorem dX10_exchange_13 : decode cX10_exchange 13 = .ok (.ifCond .eq 14, 3) := by decide +kernel
theorem dX10_exchange_16 : decode cX10_exchange 16 = .ok (.aload_n 0, 1) := by decide +kernel
theorem dX10_exchange_17 : decode cX10_exchange 17 = .ok (.getfield 39, 3) := by decide +kernel
theorem dX10_exchange_20 : decode cX10_exchange 20 = .ok (.iload_n 2, 1) := by decide +kernel
theorem dX10_exchange_21 : decode cX10_exchange 21 = .ok (.invokevirtual 149, 3) := by decide +kernel
theorem dX10_exchange_24 : decode cX10_exchange 24 = .ok (.ifCond .ne 5, 3) := by decide +kernel
theorem dX10_exchange_27 : decode cX10_exchange 27 = .ok (.iconst (-1), 1) := by decide +kernel
theorem dX10_exchange_28 : decode cX10_exchange 28 = .ok (.ireturn, 1) := by decide +kernel
theorem dX10_exchange_29 : decode cX10_exchange 29 = .ok (.aload_n 0, 1) := by decide +kernel
theorem dX10_exchange_30 : decode cX10_exchange 30 = .ok (.getfield 71, 3) := by decide +kernel
theorem dX10_exchange_33 : decode cX10_exchange 33 = .ok (.aload_n 0, 1) := by decide +kernel
theorem dX10_exchange_34 : decode cX10_exchange 34 = .ok (.getfield 39, 3) := by decide +kernel
theorem dX10_exchange_37 : decode cX10_exchange 37 = .ok (.invokevirtual 189, 3) := by decide +kernel
theorem dX10_exchange_40 : decode cX10_exchange 40 = .ok (.aload_n 0, 1) := by decide +kernel
theorem dX10_exchange_41 : decode cX10_exchange 41 = .ok (.getfield 71, 3) := by decide +kernel
theorem dX10_exchange_44 : decode cX10_exchange 44 = .ok (.iload_n 1, 1) := by decide +kernel
theorem dX10_exchange_45 : decode cX10_exchange 45 = .ok (.iload_n 2, 1) := by decide +kernel
theorem dX10_exchange_46 : decode cX10_exchange 46 = .ok (.invokevirtual 253, 3) := by decide +kernel
theorem dX10_exchange_49 : decode cX10_exchange 49 = .ok (.aload_n 0, 1) := by decide +kernel
theorem dX10_exchange_50 : decode cX10_exchange 50 = .ok (.getfield 53, 3) := by decide +kernel
theorem dX10_exchange_53 : decode cX10_exchange 53 = .ok (.aload_n 0, 1) := by decide +kernel
theorem dX10_exchange_54 : decode cX10_exchange 54 = .ok (.getfield 19, 3) := by decide +kernel
theorem dX10_exchange_57 : decode cX10_exchange 57 = .ok (.aload_n 0, 1) := by decide +kernel
theorem dX10_exchange_58 : decode cX10_exchange 58 = .ok (.getfield 71, 3) := by decide +kernel
theorem dX10_exchange_61 : decode cX10_exchange 61 = .ok (.aload_n 0, 1) := by decide +kernel
theorem dX10_exchange_62 : decode cX10_exchange 62 = .ok (.getfield 19, 3) := by decide +kernel
theorem dX10_exchange_65 : decode cX10_exchange 65 = .ok (.getfield 182, 3) := by decide +kernel
theorem dX10_exchange_68 : decode cX10_exchange 68 = .ok (.invokevirtual 185, 3) := by decide +kernel
theorem dX10_exchange_71 : decode cX10_exchange 71 = .ok (.ireturn, 1) := by decide +kernel
theorem dX10_need_0 : decode cX10_need 0 = .ok (.aload_n 0, 1) := by decide +kernel
theorem dX10_need_1 : decode cX10_need 1 = .ok (.getfield 39, 3) := by decide +kernel
theorem dX10_need_4 : decode cX10_need 4 = .ok (.iload_n 1, 1) := by decide +kernel
theorem dX10_need_5 : decode cX10_need 5 = .ok (.invokevirtual 149, 3) := by decide +kernel
theorem dX10_need_8 : decode cX10_need 8 = .ok (.ifCond .ne 5, 3) := by decide +kernel
theorem dX10_need_11 : decode cX10_need 11 = .ok (.iconst (-1), 1) := by decide +kernel
theorem dX10_need_12 : decode cX10_need 12 = .ok (.ireturn, 1) := by decide +kernel
theorem dX10_need_13 : decode cX10_need 13 = .ok (.iconst 1, 1) := by decide +kernel
theorem dX10_need_14 : decode cX10_need 14 = .ok (.istore_n 2, 1) := by decide +kernel
theorem dX10_need_15 : decode cX10_need 15 = .ok (.iload_n 2, 1) := by decide +kernel
theorem dX10_need_16 : decode cX10_need 16 = .ok (.bipush 99, 2) := by decide +kernel
theorem dX10_need_18 : decode cX10_need 18 = .ok (.if_icmp .gt 47, 3) := by decide +kernel
theorem dX10_need_21 : decode cX10_need 21 = .ok (.aload_n 0, 1) := by decide +kernel
theorem dX10_need_22 : decode cX10_need 22 = .ok (.getfield 71, 3) := by decide +kernel
theorem dX10_need_25 : decode cX10_need 25 = .ok (.aload_n 0, 1) := by decide +kernel
theorem dX10_need_26 : decode cX10_need 26 = .ok (.getfield 39, 3) := by decide +kernel
theorem dX10_need_29 : decode cX10_need 29 = .ok (.invokevirtual 189, 3) := by decide +kernel
theorem dX10_need_32 : decode cX10_need 32 = .ok (.aload_n 0, 1) := by decide +kernel
theorem dX10_need_33 : decode cX10_need 33 = .ok (.getfield 53, 3) := by decide +kernel
theorem dX10_need_36 : decode cX10_need 36 = .ok (.aload_n 0, 1) := by decide +kernel
theorem dX10_need_37 : decode cX10_need 37 = .ok (.getfield 19, 3) := by decide +kernel
theorem dX10_need_40 : decode cX10_need 40 = .ok (.aload_n 0, 1) := by decide +kernel
theorem dX10_need_41 : decode cX10_need 41 = .ok (.getfield 71, 3) := by decide +kernel
theorem dX10_need_44 : decode cX10_need 44 = .ok (.iload_n 2, 1) := by decide +kernel
theorem dX10_need_45 : decode cX10_need 45 = .ok (.invokevirtual 185, 3) := by decide +kernel
theorem dX10_need_48 : decode cX10_need 48 = .ok (.istore_n 3, 1) := by decide +kernel
theorem dX10_need_49 : decode cX10_need 49 = .ok (.iload_n 3, 1) := by decide +kernel
theorem dX10_need_50 : decode cX10_need 50 = .ok (.iload_n 1, 1) := by decide +kernel
theorem dX10_need_51 : decode cX10_need 51 = .ok (.ishr, 1) := by decide +kernel
theorem dX10_need_52 : decode cX10_need 52 = .ok (.iconst 1, 1) := by decide +kernel
theorem dX10_need_53 : decode cX10_need 53 = .ok (.iand, 1) := by decide +kernel
theorem dX10_need_54 : decode cX10_need 54 = .ok (.ifCond .eq 5, 3) := by decide +kernel
theorem dX10_need_57 : decode cX10_need 57 = .ok (.iload_n 2, 1) := by decide +kernel
theorem dX10_need_58 : decode cX10_need 58 = .ok (.ireturn, 1) := by decide +kernel
theorem dX10_need_59 : decode cX10_need 59 = .ok (.iinc 2 1, 3) := by decide +kernel
theorem dX10_need_62 : decode cX10_need 62 = .ok (.goto (-47), 3) := by decide +kernel
theorem dX10_need_65 : decode cX10_need 65 = .ok (.iconst (-1), 1) := by decide +kernel
theorem dX10_need_66 : decode cX10_need 66 = .ok (.ireturn, 1) := by decide +kernel
theorem dX10_julian_0 : decode cX10_julian 0 = .ok (.iload_n 1, 1) := by decide +kernel
theorem dX10_julian_1 : decode cX10_julian 1 = .ok (.iconst 1, 1) := by decide +kernel
theorem dX10_julian_2 : decode cX10_julian 2 = .ok (.if_icmp .lt 9, 3) := by decide +kernel
theorem dX10_julian_5 : decode cX10_julian 5 = .ok (.iload_n 1, 1) := by decide +kernel
theorem dX10_julian_6 : decode cX10_julian 6 = .ok (.bipush 99, 2) := by decide +kernel
theorem dX10_julian_8 : decode cX10_julian 8 = .ok (.if_icmp .le 5, 3) := by decide +kernel
theorem dX10_julian_11 : decode cX10_julian 11 = .ok (.iconst (-1), 1) := by decide +kernel
theorem dX10_julian_12 : decode cX10_julian 12 = .ok (.ireturn, 1) := by decide +kernel
theorem dX10_julian_13 : decode cX10_julian 13 = .ok (.aload_n 0, 1) := by decide +kernel
theorem dX10_julian_14 : decode cX10_julian 14 = .ok (.iload_n 1, 1) := by decide +kernel
theorem dX10_julian_15 : decode cX10_julian 15 = .ok (.iconst 1, 1) := by decide +kernel
theorem dX10_julian_16 : decode cX10_julian 16 = .ok (.invokevirtual 257, 3) := by decide +kernel
theorem dX10_julian_19 : decode cX10_julian 19 = .ok (.aload_n 0, 1) := by decide +kernel
theorem dX10_julian_20 : decode cX10_julian 20 = .ok (.iload_n 1, 1) := by decide +kernel
theorem dX10_julian_21 : decode cX10_julian 21 = .ok (.iconst 0, 1) := by decide +kernel
theorem dX10_julian_22 : decode cX10_julian 22 = .ok (.invokevirtual 257, 3) := by decide +kernel
theorem dX10_julian_25 : decode cX10_julian 25 = .ok (.iconst (-1), 1) := by decide +kernel
theorem dX10_julian_26 : decode cX10_julian 26 = .ok (.ixor, 1) := by decide +kernel
theorem dX10_julian_27 : decode cX10_julian 27 = .ok (.iand, 1) := by decide +kernel
theorem dX10_julian_28 : decode cX10_julian 28 = .ok (.ireturn, 1) := by decide +kernel
theorem dX10_heardBehind_0 : decode cX10_heardBehind 0 = .ok (.aload_n 0, 1) := by decide +kernel
theorem dX10_heardBehind_1 : decode cX10_heardBehind 1 = .ok (.getfield 71, 3) := by decide +kernel
theorem dX10_heardBehind_4 : decode cX10_heardBehind 4 = .ok (.aload_n 0, 1) := by decide +kernel
theorem dX10_heardBehind_5 : decode cX10_heardBehind 5 = .ok (.getfield 39, 3) := by decide +kernel
theorem dX10_heardBehind_8 : decode cX10_heardBehind 8 = .ok (.invokevirtual 189, 3) := by decide +kernel
theorem dX10_heardBehind_11 : decode cX10_heardBehind 11 = .ok (.iconst 0, 1) := by decide +kernel
theorem dX10_heardBehind_12 : decode cX10_heardBehind 12 = .ok (.istore_n 3, 1) := by decide +kernel
theorem dX10_heardBehind_13 : decode cX10_heardBehind 13 = .ok (.iload_n 3, 1) := by decide +kernel
theorem dX10_heardBehind_14 : decode cX10_heardBehind 14 = .ok (.iload_n 1, 1) := by decide +kernel
theorem dX10_heardBehind_15 : decode cX10_heardBehind 15 = .ok (.if_icmp .ge 26, 3) := by decide +kernel
theorem dX10_heardBehind_18 : decode cX10_heardBehind 18 = .ok (.aload_n 0, 1) := by decide +kernel
theorem dX10_heardBehind_19 : decode cX10_heardBehind 19 = .ok (.getfield 53, 3) := by decide +kernel
theorem dX10_heardBehind_22 : decode cX10_heardBehind 22 = .ok (.aload_n 0, 1) := by decide +kernel
theorem dX10_heardBehind_23 : decode cX10_heardBehind 23 = .ok (.getfield 19, 3) := by decide +kernel
theorem dX10_heardBehind_26 : decode cX10_heardBehind 26 = .ok (.aload_n 0, 1) := by decide +kernel
theorem dX10_heardBehind_27 : decode cX10_heardBehind 27 = .ok (.getfield 71, 3) := by decide +kernel
theorem dX10_heardBehind_30 : decode cX10_heardBehind 30 = .ok (.iload_n 2, 1) := by decide +kernel
theorem dX10_heardBehind_31 : decode cX10_heardBehind 31 = .ok (.invokevirtual 178, 3) := by decide +kernel
theorem dX10_heardBehind_34 : decode cX10_heardBehind 34 = .ok (.pop, 1) := by decide +kernel
theorem dX10_heardBehind_35 : decode cX10_heardBehind 35 = .ok (.iinc 3 1, 3) := by decide +kernel
theorem dX10_heardBehind_38 : decode cX10_heardBehind 38 = .ok (.goto (-25), 3) := by decide +kernel
theorem dX10_heardBehind_41 : decode cX10_heardBehind 41 = .ok (.aload_n 0, 1) := by decide +kernel
theorem dX10_heardBehind_42 : decode cX10_heardBehind 42 = .ok (.getfield 71, 3) := by decide +kernel
theorem dX10_heardBehind_45 : decode cX10_heardBehind 45 = .ok (.getfield 139, 3) := by decide +kernel
theorem dX10_heardBehind_48 : decode cX10_heardBehind 48 = .ok (.ireturn, 1) := by decide +kernel
theorem dX10_stale_0 : decode cX10_stale 0 = .ok (.aload_n 0, 1) := by decide +kernel
theorem dX10_stale_1 : decode cX10_stale 1 = .ok (.bipush 99, 2) := by decide +kernel
theorem dX10_stale_3 : decode cX10_stale 3 = .ok (.iconst 0, 1) := by decide +kernel
theorem dX10_stale_4 : decode cX10_stale 4 = .ok (.invokevirtual 257, 3) := by decide +kernel
theorem dX10_stale_7 : decode cX10_stale 7 = .ok (.istore_n 1, 1) := by decide +kernel
theorem dX10_stale_8 : decode cX10_stale 8 = .ok (.aload_n 0, 1) := by decide +kernel
theorem dX10_stale_9 : decode cX10_stale 9 = .ok (.getfield 39, 3) := by decide +kernel
theorem dX10_stale_12 : decode cX10_stale 12 = .ok (.invokevirtual 261, 3) := by decide +kernel
theorem dX10_stale_15 : decode cX10_stale 15 = .ok (.aload_n 0, 1) := by decide +kernel
theorem dX10_stale_16 : decode cX10_stale 16 = .ok (.getfield 71, 3) := by decide +kernel
theorem dX10_stale_19 : decode cX10_stale 19 = .ok (.invokevirtual 261, 3) := by decide +kernel
theorem dX10_stale_22 : decode cX10_stale 22 = .ok (.iconst (-1), 1) := by decide +kernel
theorem dX10_stale_23 : decode cX10_stale 23 = .ok (.ixor, 1) := by decide +kernel
theorem dX10_stale_24 : decode cX10_stale 24 = .ok (.iand, 1) := by decide +kernel
theorem dX10_stale_25 : decode cX10_stale 25 = .ok (.iload_n 1, 1) := by decide +kernel
theorem dX10_stale_26 : decode cX10_stale 26 = .ok (.iconst (-1), 1) := by decide +kernel
theorem dX10_stale_27 : decode cX10_stale 27 = .ok (.ixor, 1) := by decide +kernel
theorem dX10_stale_28 : decode cX10_stale 28 = .ok (.iand, 1) := by decide +kernel
theorem dX10_stale_29 : decode cX10_stale 29 = .ok (.ireturn, 1) := by decide +kernel
theorem dX10_chance_0 : decode cX10_chance 0 = .ok (.aload_n 0, 1) := by decide +kernel
theorem dX10_chance_1 : decode cX10_chance 1 = .ok (.getfield 39, 3) := by decide +kernel
theorem dX10_chance_4 : decode cX10_chance 4 = .ok (.iload_n 1, 1) := by decide +kernel
theorem dX10_chance_5 : decode cX10_chance 5 = .ok (.invokevirtual 149, 3) := by decide +kernel
theorem dX10_chance_8 : decode cX10_chance 8 = .ok (.ifCond .eq 13, 3) := by decide +kernel
theorem dX10_chance_11 : decode cX10_chance 11 = .ok (.iload_n 2, 1) := by decide +kernel
theorem dX10_chance_12 : decode cX10_chance 12 = .ok (.ifCond .lt 9, 3) := by decide +kernel
theorem dX10_chance_15 : decode cX10_chance 15 = .ok (.iload_n 2, 1) := by decide +kernel
theorem dX10_chance_16 : decode cX10_chance 16 = .ok (.bipush 10, 2) := by decide +kernel
theorem dX10_chance_18 : decode cX10_chance 18 = .ok (.if_icmp .le 5, 3) := by decide +kernel
theorem dX10_chance_21 : decode cX10_chance 21 = .ok (.iconst (-1), 1) := by decide +kernel
theorem dX10_chance_22 : decode cX10_chance 22 = .ok (.ireturn, 1) := by decide +kernel
theorem dX10_chance_23 : decode cX10_chance 23 = .ok (.aload_n 0, 1) := by decide +kernel
theorem dX10_chance_24 : decode cX10_chance 24 = .ok (.getfield 39, 3) := by decide +kernel
theorem dX10_chance_27 : decode cX10_chance 27 = .ok (.invokevirtual 261, 3) := by decide +kernel
theorem dX10_chance_30 : decode cX10_chance 30 = .ok (.iconst 1, 1) := by decide +kernel
theorem dX10_chance_31 : decode cX10_chance 31 = .ok (.iload_n 1, 1) := by decide +kernel
theorem dX10_chance_32 : decode cX10_chance 32 = .ok (.ishl, 1) := by decide +kernel
theorem dX10_chance_33 : decode cX10_chance 33 = .ok (.iconst (-1), 1) := by decide +kernel
theorem dX10_chance_34 : decode cX10_chance 34 = .ok (.ixor, 1) := by decide +kernel
theorem dX10_chance_35 : decode cX10_chance 35 = .ok (.iand, 1) := by decide +kernel
theorem dX10_chance_36 : decode cX10_chance 36 = .ok (.istore_n 3, 1) := by decide +kernel
theorem dX10_chance_37 : decode cX10_chance 37 = .ok (.iconst 0, 1) := by decide +kernel
theorem dX10_chance_38 : decode cX10_chance 38 = .ok (.istore 4, 2) := by decide +kernel
theorem dX10_chance_40 : decode cX10_chance 40 = .ok (.iconst 0, 1) := by decide +kernel
theorem dX10_chance_41 : decode cX10_chance 41 = .ok (.istore 5, 2) := by decide +kernel
theorem dX10_chance_43 : decode cX10_chance 43 = .ok (.iload 5, 2) := by decide +kernel
theorem dX10_chance_45 : decode cX10_chance 45 = .ok (.bipush 64, 2) := by decide +kernel
theorem dX10_chance_47 : decode cX10_chance 47 = .ok (.if_icmp .ge 67, 3) := by decide +kernel
theorem dX10_chance_50 : decode cX10_chance 50 = .ok (.iload 5, 2) := by decide +kernel
theorem dX10_chance_52 : decode cX10_chance 52 = .ok (.iload_n 3, 1) := by decide +kernel
theorem dX10_chance_53 : decode cX10_chance 53 = .ok (.iconst (-1), 1) := by decide +kernel
theorem dX10_chance_54 : decode cX10_chance 54 = .ok (.ixor, 1) := by decide +kernel
theorem dX10_chance_55 : decode cX10_chance 55 = .ok (.iand, 1) := by decide +kernel
theorem dX10_chance_56 : decode cX10_chance 56 = .ok (.ifCond .eq 6, 3) := by decide +kernel
theorem dX10_chance_59 : decode cX10_chance 59 = .ok (.goto 49, 3) := by decide +kernel
theorem dX10_chance_62 : decode cX10_chance 62 = .ok (.aload_n 0, 1) := by decide +kernel
theorem dX10_chance_63 : decode cX10_chance 63 = .ok (.iload_n 3, 1) := by decide +kernel
theorem dX10_chance_64 : decode cX10_chance 64 = .ok (.iload 5, 2) := by decide +kernel
theorem dX10_chance_66 : decode cX10_chance 66 = .ok (.iload_n 2, 1) := by decide +kernel
theorem dX10_chance_67 : decode cX10_chance 67 = .ok (.invokevirtual 265, 3) := by decide +kernel
theorem dX10_chance_70 : decode cX10_chance 70 = .ok (.istore 6, 2) := by decide +kernel
theorem dX10_chance_72 : decode cX10_chance 72 = .ok (.aload_n 0, 1) := by decide +kernel
theorem dX10_chance_73 : decode cX10_chance 73 = .ok (.getfield 53, 3) := by decide +kernel
theorem dX10_chance_76 : decode cX10_chance 76 = .ok (.aload_n 0, 1) := by decide +kernel
theorem dX10_chance_77 : decode cX10_chance 77 = .ok (.getfield 19, 3) := by decide +kernel
theorem dX10_chance_80 : decode cX10_chance 80 = .ok (.aload_n 0, 1) := by decide +kernel
theorem dX10_chance_81 : decode cX10_chance 81 = .ok (.getfield 71, 3) := by decide +kernel
theorem dX10_chance_84 : decode cX10_chance 84 = .ok (.aload_n 0, 1) := by decide +kernel
theorem dX10_chance_85 : decode cX10_chance 85 = .ok (.getfield 19, 3) := by decide +kernel
theorem dX10_chance_88 : decode cX10_chance 88 = .ok (.getfield 182, 3) := by decide +kernel
theorem dX10_chance_91 : decode cX10_chance 91 = .ok (.invokevirtual 185, 3) := by decide +kernel
theorem dX10_chance_94 : decode cX10_chance 94 = .ok (.iload_n 1, 1) := by decide +kernel
theorem dX10_chance_95 : decode cX10_chance 95 = .ok (.ishr, 1) := by decide +kernel
theorem dX10_chance_96 : decode cX10_chance 96 = .ok (.iconst 1, 1) := by decide +kernel
theorem dX10_chance_97 : decode cX10_chance 97 = .ok (.iand, 1) := by decide +kernel
theorem dX10_chance_98 : decode cX10_chance 98 = .ok (.ifCond .eq 10, 3) := by decide +kernel
theorem dX10_chance_101 : decode cX10_chance 101 = .ok (.iload 4, 2) := by decide +kernel
theorem dX10_chance_103 : decode cX10_chance 103 = .ok (.iload 6, 2) := by decide +kernel
theorem dX10_chance_105 : decode cX10_chance 105 = .ok (.iadd, 1) := by decide +kernel
theorem dX10_chance_106 : decode cX10_chance 106 = .ok (.istore 4, 2) := by decide +kernel
theorem dX10_chance_108 : decode cX10_chance 108 = .ok (.iinc 5 1, 3) := by decide +kernel
theorem dX10_chance_111 : decode cX10_chance 111 = .ok (.goto (-68), 3) := by decide +kernel
theorem dX10_chance_114 : decode cX10_chance 114 = .ok (.iload 4, 2) := by decide +kernel
theorem dX10_chance_116 : decode cX10_chance 116 = .ok (.ireturn, 1) := by decide +kernel
theorem dX10_thinOut_0 : decode cX10_thinOut 0 = .ok (.aload_n 0, 1) := by decide +kernel
theorem dX10_thinOut_1 : decode cX10_thinOut 1 = .ok (.getfield 71, 3) := by decide +kernel
theorem dX10_thinOut_4 : decode cX10_thinOut 4 = .ok (.aload_n 0, 1) := by decide +kernel
theorem dX10_thinOut_5 : decode cX10_thinOut 5 = .ok (.getfield 39, 3) := by decide +kernel
theorem dX10_thinOut_8 : decode cX10_thinOut 8 = .ok (.invokevirtual 189, 3) := by decide +kernel
theorem dX10_thinOut_11 : decode cX10_thinOut 11 = .ok (.ldc_w 269, 3) := by decide +kernel
theorem dX10_thinOut_14 : decode cX10_thinOut 14 = .ok (.istore 4, 2) := by decide +kernel
theorem dX10_thinOut_16 : decode cX10_thinOut 16 = .ok (.iconst 0, 1) := by decide +kernel
theorem dX10_thinOut_17 : decode cX10_thinOut 17 = .ok (.istore 5, 2) := by decide +kernel
theorem dX10_thinOut_19 : decode cX10_thinOut 19 = .ok (.iload 5, 2) := by decide +kernel
theorem dX10_thinOut_21 : decode cX10_thinOut 21 = .ok (.bipush 6, 2) := by decide +kernel
theorem dX10_thinOut_23 : decode cX10_thinOut 23 = .ok (.if_icmp .ge 63, 3) := by decide +kernel
theorem dX10_thinOut_26 : decode cX10_thinOut 26 = .ok (.iload_n 1, 1) := by decide +kernel
theorem dX10_thinOut_27 : decode cX10_thinOut 27 = .ok (.iload 5, 2) := by decide +kernel
theorem dX10_thinOut_29 : decode cX10_thinOut 29 = .ok (.ishr, 1) := by decide +kernel
theorem dX10_thinOut_30 : decode cX10_thinOut 30 = .ok (.iconst 1, 1) := by decide +kernel
theorem dX10_thinOut_31 : decode cX10_thinOut 31 = .ok (.iand, 1) := by decide +kernel
theorem dX10_thinOut_32 : decode cX10_thinOut 32 = .ok (.ifCond .ne 6, 3) := by decide +kernel
theorem dX10_thinOut_35 : decode cX10_thinOut 35 = .ok (.goto 45, 3) := by decide +kernel
theorem dX10_thinOut_38 : decode cX10_thinOut 38 = .ok (.iload_n 2, 1) := by decide +kernel
theorem dX10_thinOut_39 : decode cX10_thinOut 39 = .ok (.iload 5, 2) := by decide +kernel
theorem dX10_thinOut_41 : decode cX10_thinOut 41 = .ok (.ishr, 1) := by decide +kernel
theorem dX10_thinOut_42 : decode cX10_thinOut 42 = .ok (.iconst 1, 1) := by decide +kernel
theorem dX10_thinOut_43 : decode cX10_thinOut 43 = .ok (.iand, 1) := by decide +kernel
theorem dX10_thinOut_44 : decode cX10_thinOut 44 = .ok (.ifCond .eq 15, 3) := by decide +kernel
theorem dX10_thinOut_47 : decode cX10_thinOut 47 = .ok (.iload 4, 2) := by decide +kernel
theorem dX10_thinOut_49 : decode cX10_thinOut 49 = .ok (.bipush 10, 2) := by decide +kernel
theorem dX10_thinOut_51 : decode cX10_thinOut 51 = .ok (.idiv, 1) := by decide +kernel
theorem dX10_thinOut_52 : decode cX10_thinOut 52 = .ok (.iload_n 3, 1) := by decide +kernel
theorem dX10_thinOut_53 : decode cX10_thinOut 53 = .ok (.imul, 1) := by decide +kernel
theorem dX10_thinOut_54 : decode cX10_thinOut 54 = .ok (.istore 4, 2) := by decide +kernel
theorem dX10_thinOut_56 : decode cX10_thinOut 56 = .ok (.goto 24, 3) := by decide +kernel
theorem dX10_thinOut_59 : decode cX10_thinOut 59 = .ok (.iload 4, 2) := by decide +kernel
theorem dX10_thinOut_61 : decode cX10_thinOut 61 = .ok (.bipush 10, 2) := by decide +kernel
theorem dX10_thinOut_63 : decode cX10_thinOut 63 = .ok (.idiv, 1) := by decide +kernel
theorem dX10_thinOut_64 : decode cX10_thinOut 64 = .ok (.bipush 10, 2) := by decide +kernel
theorem dX10_thinOut_66 : decode cX10_thinOut 66 = .ok (.iload_n 3, 1) := by decide +kernel
theorem dX10_thinOut_67 : decode cX10_thinOut 67 = .ok (.isub, 1) := by decide +kernel
theorem dX10_thinOut_68 : decode cX10_thinOut 68 = .ok (.imul, 1) := by decide +kernel
theorem dX10_thinOut_69 : decode cX10_thinOut 69 = .ok (.istore 4, 2) := by decide +kernel
theorem dX10_thinOut_71 : decode cX10_thinOut 71 = .ok (.aload_n 0, 1) := by decide +kernel
theorem dX10_thinOut_72 : decode cX10_thinOut 72 = .ok (.getfield 71, 3) := by decide +kernel
theorem dX10_thinOut_75 : decode cX10_thinOut 75 = .ok (.iload 5, 2) := by decide +kernel
theorem dX10_thinOut_77 : decode cX10_thinOut 77 = .ok (.invokevirtual 169, 3) := by decide +kernel
theorem dX10_thinOut_80 : decode cX10_thinOut 80 = .ok (.iinc 5 1, 3) := by decide +kernel
theorem dX10_thinOut_83 : decode cX10_thinOut 83 = .ok (.goto (-64), 3) := by decide +kernel
theorem dX10_thinOut_86 : decode cX10_thinOut 86 = .ok (.iload 4, 2) := by decide +kernel
theorem dX10_thinOut_88 : decode cX10_thinOut 88 = .ok (.ireturn, 1) := by decide +kernel
theorem dX10_coming_0 : decode cX10_coming 0 = .ok (.iload_n 1, 1) := by decide +kernel
theorem dX10_coming_1 : decode cX10_coming 1 = .ok (.iconst 1, 1) := by decide +kernel
theorem dX10_coming_2 : decode cX10_coming 2 = .ok (.if_icmp .lt 13, 3) := by decide +kernel
theorem dX10_coming_5 : decode cX10_coming 5 = .ok (.iload_n 1, 1) := by decide +kernel
theorem dX10_coming_6 : decode cX10_coming 6 = .ok (.iconst 4, 1) := by decide +kernel
theorem dX10_coming_7 : decode cX10_coming 7 = .ok (.if_icmp .gt 8, 3) := by decide +kernel
theorem dX10_coming_10 : decode cX10_coming 10 = .ok (.iload_n 2, 1) := by decide +kernel
theorem dX10_coming_11 : decode cX10_coming 11 = .ok (.iconst (-1), 1) := by decide +kernel
theorem dX10_coming_12 : decode cX10_coming 12 = .ok (.if_icmp .ge 6, 3) := by decide +kernel
theorem dX10_coming_15 : decode cX10_coming 15 = .ok (.bipush (-2), 2) := by decide +kernel
theorem dX10_coming_17 : decode cX10_coming 17 = .ok (.ireturn, 1) := by decide +kernel
theorem dX10_coming_18 : decode cX10_coming 18 = .ok (.aload_n 0, 1) := by decide +kernel
theorem dX10_coming_19 : decode cX10_coming 19 = .ok (.invokevirtual 270, 3) := by decide +kernel
theorem dX10_coming_22 : decode cX10_coming 22 = .ok (.istore_n 3, 1) := by decide +kernel
theorem dX10_coming_23 : decode cX10_coming 23 = .ok (.iload_n 2, 1) := by decide +kernel
theorem dX10_coming_24 : decode cX10_coming 24 = .ok (.iload_n 3, 1) := by decide +kernel
theorem dX10_coming_25 : decode cX10_coming 25 = .ok (.if_icmp .lt 6, 3) := by decide +kernel
theorem dX10_coming_28 : decode cX10_coming 28 = .ok (.bipush (-2), 2) := by decide +kernel
theorem dX10_coming_30 : decode cX10_coming 30 = .ok (.ireturn, 1) := by decide +kernel
theorem dX10_coming_31 : decode cX10_coming 31 = .ok (.iconst (-1), 1) := by decide +kernel
theorem dX10_coming_32 : decode cX10_coming 32 = .ok (.istore 4, 2) := by decide +kernel
theorem dX10_coming_34 : decode cX10_coming 34 = .ok (.iconst 1, 1) := by decide +kernel
theorem dX10_coming_35 : decode cX10_coming 35 = .ok (.istore 5, 2) := by decide +kernel
theorem dX10_coming_37 : decode cX10_coming 37 = .ok (.iconst 0, 1) := by decide +kernel
theorem dX10_coming_38 : decode cX10_coming 38 = .ok (.istore 6, 2) := by decide +kernel
theorem dX10_coming_40 : decode cX10_coming 40 = .ok (.iload 6, 2) := by decide +kernel
theorem dX10_coming_42 : decode cX10_coming 42 = .ok (.sipush 720, 3) := by decide +kernel
theorem dX10_coming_45 : decode cX10_coming 45 = .ok (.if_icmp .ge 67, 3) := by decide +kernel
theorem dX10_coming_48 : decode cX10_coming 48 = .ok (.iload 5, 2) := by decide +kernel
theorem dX10_coming_50 : decode cX10_coming 50 = .ok (.ifCond .eq 62, 3) := by decide +kernel
theorem dX10_coming_53 : decode cX10_coming 53 = .ok (.aload_n 0, 1) := by decide +kernel
theorem dX10_coming_54 : decode cX10_coming 54 = .ok (.iload_n 3, 1) := by decide +kernel
theorem dX10_coming_55 : decode cX10_coming 55 = .ok (.iload_n 1, 1) := by decide +kernel
theorem dX10_coming_56 : decode cX10_coming 56 = .ok (.invokevirtual 273, 3) := by decide +kernel
theorem dX10_coming_59 : decode cX10_coming 59 = .ok (.istore 7, 2) := by decide +kernel
theorem dX10_coming_61 : decode cX10_coming 61 = .ok (.iload 7, 2) := by decide +kernel
theorem dX10_coming_63 : decode cX10_coming 63 = .ok (.iload 4, 2) := by decide +kernel
theorem dX10_coming_65 : decode cX10_coming 65 = .ok (.if_icmp .le 12, 3) := by decide +kernel
theorem dX10_coming_68 : decode cX10_coming 68 = .ok (.iload 7, 2) := by decide +kernel
theorem dX10_coming_70 : decode cX10_coming 70 = .ok (.istore 4, 2) := by decide +kernel
theorem dX10_coming_72 : decode cX10_coming 72 = .ok (.aload_n 0, 1) := by decide +kernel
theorem dX10_coming_73 : decode cX10_coming 73 = .ok (.iload_n 3, 1) := by decide +kernel
theorem dX10_coming_74 : decode cX10_coming 74 = .ok (.invokevirtual 276, 3) := by decide +kernel
theorem dX10_coming_77 : decode cX10_coming 77 = .ok (.iload 4, 2) := by decide +kernel
theorem dX10_coming_79 : decode cX10_coming 79 = .ok (.iload_n 3, 1) := by decide +kernel
theorem dX10_coming_80 : decode cX10_coming 80 = .ok (.aload_n 0, 1) := by decide +kernel
theorem dX10_coming_81 : decode cX10_coming 81 = .ok (.getfield 39, 3) := by decide +kernel
theorem dX10_coming_84 : decode cX10_coming 84 = .ok (.getfield 279, 3) := by decide +kernel
theorem dX10_coming_87 : decode cX10_coming 87 = .ok (.iadd, 1) := by decide +kernel
theorem dX10_coming_88 : decode cX10_coming 88 = .ok (.if_icmp .ge 15, 3) := by decide +kernel
theorem dX10_coming_91 : decode cX10_coming 91 = .ok (.aload_n 0, 1) := by decide +kernel
theorem dX10_coming_92 : decode cX10_coming 92 = .ok (.iload_n 3, 1) := by decide +kernel
theorem dX10_coming_93 : decode cX10_coming 93 = .ok (.invokevirtual 280, 3) := by decide +kernel
theorem dX10_coming_96 : decode cX10_coming 96 = .ok (.ifCond .eq 7, 3) := by decide +kernel
theorem dX10_coming_99 : decode cX10_coming 99 = .ok (.iconst 1, 1) := by decide +kernel
theorem dX10_coming_100 : decode cX10_coming 100 = .ok (.goto 4, 3) := by decide +kernel
theorem dX10_coming_103 : decode cX10_coming 103 = .ok (.iconst 0, 1) := by decide +kernel
theorem dX10_coming_104 : decode cX10_coming 104 = .ok (.istore 5, 2) := by decide +kernel
theorem dX10_coming_106 : decode cX10_coming 106 = .ok (.iinc 6 1, 3) := by decide +kernel
theorem dX10_coming_109 : decode cX10_coming 109 = .ok (.goto (-69), 3) := by decide +kernel
theorem dX10_coming_112 : decode cX10_coming 112 = .ok (.iload_n 2, 1) := by decide +kernel
theorem dX10_coming_113 : decode cX10_coming 113 = .ok (.iconst (-1), 1) := by decide +kernel
theorem dX10_coming_114 : decode cX10_coming 114 = .ok (.if_icmp .ne 6, 3) := by decide +kernel
theorem dX10_coming_117 : decode cX10_coming 117 = .ok (.iload 4, 2) := by decide +kernel
theorem dX10_coming_119 : decode cX10_coming 119 = .ok (.ireturn, 1) := by decide +kernel
theorem dX10_coming_120 : decode cX10_coming 120 = .ok (.iload_n 2, 1) := by decide +kernel
theorem dX10_coming_121 : decode cX10_coming 121 = .ok (.aload_n 0, 1) := by decide +kernel
theorem dX10_coming_122 : decode cX10_coming 122 = .ok (.getfield 78, 3) := by decide +kernel
theorem dX10_coming_125 : decode cX10_coming 125 = .ok (.arraylength, 1) := by decide +kernel
theorem dX10_coming_126 : decode cX10_coming 126 = .ok (.if_icmp .ge 12, 3) := by decide +kernel
theorem dX10_coming_129 : decode cX10_coming 129 = .ok (.aload_n 0, 1) := by decide +kernel
theorem dX10_coming_130 : decode cX10_coming 130 = .ok (.getfield 78, 3) := by decide +kernel
theorem dX10_coming_133 : decode cX10_coming 133 = .ok (.iload_n 2, 1) := by decide +kernel
theorem dX10_coming_134 : decode cX10_coming 134 = .ok (.iaload, 1) := by decide +kernel
theorem dX10_coming_135 : decode cX10_coming 135 = .ok (.goto 5, 3) := by decide +kernel
theorem dX10_coming_138 : decode cX10_coming 138 = .ok (.bipush (-2), 2) := by decide +kernel
theorem dX10_coming_140 : decode cX10_coming 140 = .ok (.ireturn, 1) := by decide +kernel
theorem dX10_firstRow_0 : decode cX10_firstRow 0 = .ok (.iconst 0, 1) := by decide +kernel
theorem dX10_firstRow_1 : decode cX10_firstRow 1 = .ok (.istore_n 1, 1) := by decide +kernel
theorem dX10_firstRow_2 : decode cX10_firstRow 2 = .ok (.iconst 0, 1) := by decide +kernel
theorem dX10_firstRow_3 : decode cX10_firstRow 3 = .ok (.istore_n 2, 1) := by decide +kernel
theorem dX10_firstRow_4 : decode cX10_firstRow 4 = .ok (.iload_n 2, 1) := by decide +kernel
theorem dX10_firstRow_5 : decode cX10_firstRow 5 = .ok (.bipush 6, 2) := by decide +kernel
theorem dX10_firstRow_7 : decode cX10_firstRow 7 = .ok (.if_icmp .ge 43, 3) := by decide +kernel
theorem dX10_firstRow_10 : decode cX10_firstRow 10 = .ok (.iload_n 1, 1) := by decide +kernel
theorem dX10_firstRow_11 : decode cX10_firstRow 11 = .ok (.aload_n 0, 1) := by decide +kernel
theorem dX10_firstRow_12 : decode cX10_firstRow 12 = .ok (.getfield 74, 3) := by decide +kernel
theorem dX10_firstRow_15 : decode cX10_firstRow 15 = .ok (.arraylength, 1) := by decide +kernel
theorem dX10_firstRow_16 : decode cX10_firstRow 16 = .ok (.if_icmp .ge 34, 3) := by decide +kernel
theorem dX10_firstRow_19 : decode cX10_firstRow 19 = .ok (.aload_n 0, 1) := by decide +kernel
theorem dX10_firstRow_20 : decode cX10_firstRow 20 = .ok (.getfield 39, 3) := by decide +kernel
theorem dX10_firstRow_23 : decode cX10_firstRow 23 = .ok (.aload_n 0, 1) := by decide +kernel
theorem dX10_firstRow_24 : decode cX10_firstRow 24 = .ok (.getfield 19, 3) := by decide +kernel
theorem dX10_firstRow_27 : decode cX10_firstRow 27 = .ok (.iload_n 2, 1) := by decide +kernel
theorem dX10_firstRow_28 : decode cX10_firstRow 28 = .ok (.invokevirtual 158, 3) := by decide +kernel
theorem dX10_firstRow_31 : decode cX10_firstRow 31 = .ok (.ifCond .eq 13, 3) := by decide +kernel
theorem dX10_firstRow_34 : decode cX10_firstRow 34 = .ok (.aload_n 0, 1) := by decide +kernel
theorem dX10_firstRow_35 : decode cX10_firstRow 35 = .ok (.getfield 74, 3) := by decide +kernel
theorem dX10_firstRow_38 : decode cX10_firstRow 38 = .ok (.iload_n 1, 1) := by decide +kernel
theorem dX10_firstRow_39 : decode cX10_firstRow 39 = .ok (.iload_n 2, 1) := by decide +kernel
theorem dX10_firstRow_40 : decode cX10_firstRow 40 = .ok (.iastore, 1) := by decide +kernel
theorem dX10_firstRow_41 : decode cX10_firstRow 41 = .ok (.iinc 1 1, 3) := by decide +kernel
theorem dX10_firstRow_44 : decode cX10_firstRow 44 = .ok (.iinc 2 1, 3) := by decide +kernel
theorem dX10_firstRow_47 : decode cX10_firstRow 47 = .ok (.goto (-43), 3) := by decide +kernel
theorem dX10_firstRow_50 : decode cX10_firstRow 50 = .ok (.iload_n 1, 1) := by decide +kernel
theorem dX10_firstRow_51 : decode cX10_firstRow 51 = .ok (.ireturn, 1) := by decide +kernel
theorem dX10_heardByRow_0 : decode cX10_heardByRow 0 = .ok (.aload_n 0, 1) := by decide +kernel
theorem dX10_heardByRow_1 : decode cX10_heardByRow 1 = .ok (.getfield 71, 3) := by decide +kernel
theorem dX10_heardByRow_4 : decode cX10_heardByRow 4 = .ok (.aload_n 0, 1) := by decide +kernel
theorem dX10_heardByRow_5 : decode cX10_heardByRow 5 = .ok (.getfield 39, 3) := by decide +kernel
theorem dX10_heardByRow_8 : decode cX10_heardByRow 8 = .ok (.invokevirtual 189, 3) := by decide +kernel
theorem dX10_heardByRow_11 : decode cX10_heardByRow 11 = .ok (.iconst 0, 1) := by decide +kernel
theorem dX10_heardByRow_12 : decode cX10_heardByRow 12 = .ok (.istore_n 3, 1) := by decide +kernel
theorem dX10_heardByRow_13 : decode cX10_heardByRow 13 = .ok (.iload_n 3, 1) := by decide +kernel
theorem dX10_heardByRow_14 : decode cX10_heardByRow 14 = .ok (.iload_n 1, 1) := by decide +kernel
theorem dX10_heardByRow_15 : decode cX10_heardByRow 15 = .ok (.if_icmp .ge 31, 3) := by decide +kernel
theorem dX10_heardByRow_18 : decode cX10_heardByRow 18 = .ok (.iload_n 3, 1) := by decide +kernel
theorem dX10_heardByRow_19 : decode cX10_heardByRow 19 = .ok (.aload_n 0, 1) := by decide +kernel
theorem dX10_heardByRow_20 : decode cX10_heardByRow 20 = .ok (.getfield 74, 3) := by decide +kernel
theorem dX10_heardByRow_23 : decode cX10_heardByRow 23 = .ok (.arraylength, 1) := by decide +kernel
theorem dX10_heardByRow_24 : decode cX10_heardByRow 24 = .ok (.if_icmp .ge 22, 3) := by decide +kernel
theorem dX10_heardByRow_27 : decode cX10_heardByRow 27 = .ok (.aload_n 0, 1) := by decide +kernel
theorem dX10_heardByRow_28 : decode cX10_heardByRow 28 = .ok (.getfield 71, 3) := by decide +kernel
theorem dX10_heardByRow_31 : decode cX10_heardByRow 31 = .ok (.aload_n 0, 1) := by decide +kernel
theorem dX10_heardByRow_32 : decode cX10_heardByRow 32 = .ok (.getfield 74, 3) := by decide +kernel
theorem dX10_heardByRow_35 : decode cX10_heardByRow 35 = .ok (.iload_n 3, 1) := by decide +kernel
theorem dX10_heardByRow_36 : decode cX10_heardByRow 36 = .ok (.iaload, 1) := by decide +kernel
theorem dX10_heardByRow_37 : decode cX10_heardByRow 37 = .ok (.invokevirtual 165, 3) := by decide +kernel
theorem dX10_heardByRow_40 : decode cX10_heardByRow 40 = .ok (.iinc 3 1, 3) := by decide +kernel
theorem dX10_heardByRow_43 : decode cX10_heardByRow 43 = .ok (.goto (-30), 3) := by decide +kernel
theorem dX10_heardByRow_46 : decode cX10_heardByRow 46 = .ok (.iconst 0, 1) := by decide +kernel
theorem dX10_heardByRow_47 : decode cX10_heardByRow 47 = .ok (.istore_n 3, 1) := by decide +kernel
theorem dX10_heardByRow_48 : decode cX10_heardByRow 48 = .ok (.iload_n 3, 1) := by decide +kernel
theorem dX10_heardByRow_49 : decode cX10_heardByRow 49 = .ok (.iload_n 2, 1) := by decide +kernel
theorem dX10_heardByRow_50 : decode cX10_heardByRow 50 = .ok (.if_icmp .ge 42, 3) := by decide +kernel
theorem dX10_heardByRow_53 : decode cX10_heardByRow 53 = .ok (.aload_n 0, 1) := by decide +kernel
theorem dX10_heardByRow_54 : decode cX10_heardByRow 54 = .ok (.getfield 71, 3) := by decide +kernel
theorem dX10_heardByRow_57 : decode cX10_heardByRow 57 = .ok (.getfield 279, 3) := by decide +kernel
theorem dX10_heardByRow_60 : decode cX10_heardByRow 60 = .ok (.ifCond .le 32, 3) := by decide +kernel
theorem dX10_heardByRow_63 : decode cX10_heardByRow 63 = .ok (.aload_n 0, 1) := by decide +kernel
theorem dX10_heardByRow_64 : decode cX10_heardByRow 64 = .ok (.getfield 53, 3) := by decide +kernel
theorem dX10_heardByRow_67 : decode cX10_heardByRow 67 = .ok (.aload_n 0, 1) := by decide +kernel
theorem dX10_heardByRow_68 : decode cX10_heardByRow 68 = .ok (.getfield 19, 3) := by decide +kernel
theorem dX10_heardByRow_71 : decode cX10_heardByRow 71 = .ok (.aload_n 0, 1) := by decide +kernel
theorem dX10_heardByRow_72 : decode cX10_heardByRow 72 = .ok (.getfield 71, 3) := by decide +kernel
theorem dX10_heardByRow_75 : decode cX10_heardByRow 75 = .ok (.aload_n 0, 1) := by decide +kernel
theorem dX10_heardByRow_76 : decode cX10_heardByRow 76 = .ok (.getfield 19, 3) := by decide +kernel
theorem dX10_heardByRow_79 : decode cX10_heardByRow 79 = .ok (.getfield 182, 3) := by decide +kernel
theorem dX10_heardByRow_82 : decode cX10_heardByRow 82 = .ok (.invokevirtual 185, 3) := by decide +kernel
theorem dX10_heardByRow_85 : decode cX10_heardByRow 85 = .ok (.pop, 1) := by decide +kernel
theorem dX10_heardByRow_86 : decode cX10_heardByRow 86 = .ok (.iinc 3 1, 3) := by decide +kernel
theorem dX10_heardByRow_89 : decode cX10_heardByRow 89 = .ok (.goto (-41), 3) := by decide +kernel
theorem dX10_heardByRow_92 : decode cX10_heardByRow 92 = .ok (.aload_n 0, 1) := by decide +kernel
theorem dX10_heardByRow_93 : decode cX10_heardByRow 93 = .ok (.getfield 71, 3) := by decide +kernel
theorem dX10_heardByRow_96 : decode cX10_heardByRow 96 = .ok (.getfield 139, 3) := by decide +kernel
theorem dX10_heardByRow_99 : decode cX10_heardByRow 99 = .ok (.aload_n 0, 1) := by decide +kernel
theorem dX10_heardByRow_100 : decode cX10_heardByRow 100 = .ok (.getfield 39, 3) := by decide +kernel
theorem dX10_heardByRow_103 : decode cX10_heardByRow 103 = .ok (.getfield 139, 3) := by decide +kernel
theorem dX10_heardByRow_106 : decode cX10_heardByRow 106 = .ok (.iconst (-1), 1) := by decide +kernel
theorem dX10_heardByRow_107 : decode cX10_heardByRow 107 = .ok (.ixor, 1) := by decide +kernel
theorem dX10_heardByRow_108 : decode cX10_heardByRow 108 = .ok (.iand, 1) := by decide +kernel
theorem dX10_heardByRow_109 : decode cX10_heardByRow 109 = .ok (.invokestatic 205, 3) := by decide +kernel
theorem dX10_heardByRow_112 : decode cX10_heardByRow 112 = .ok (.ireturn, 1) := by decide +kernel
theorem dX10_keepRow_0 : decode cX10_keepRow 0 = .ok (.iconst 0, 1) := by decide +kernel
theorem dX10_keepRow_1 : decode cX10_keepRow 1 = .ok (.istore_n 2, 1) := by decide +kernel
theorem dX10_keepRow_2 : decode cX10_keepRow 2 = .ok (.iload_n 2, 1) := by decide +kernel
theorem dX10_keepRow_3 : decode cX10_keepRow 3 = .ok (.iload_n 1, 1) := by decide +kernel
theorem dX10_keepRow_4 : decode cX10_keepRow 4 = .ok (.if_icmp .ge 39, 3) := by decide +kernel
theorem dX10_keepRow_7 : decode cX10_keepRow 7 = .ok (.iload_n 2, 1) := by decide +kernel
theorem dX10_keepRow_8 : decode cX10_keepRow 8 = .ok (.aload_n 0, 1) := by decide +kernel
theorem dX10_keepRow_9 : decode cX10_keepRow 9 = .ok (.getfield 74, 3) := by decide +kernel
theorem dX10_keepRow_12 : decode cX10_keepRow 12 = .ok (.arraylength, 1) := by decide +kernel
theorem dX10_keepRow_13 : decode cX10_keepRow 13 = .ok (.if_icmp .ge 30, 3) := by decide +kernel
theorem dX10_keepRow_16 : decode cX10_keepRow 16 = .ok (.iload_n 2, 1) := by decide +kernel
theorem dX10_keepRow_17 : decode cX10_keepRow 17 = .ok (.aload_n 0, 1) := by decide +kernel
theorem dX10_keepRow_18 : decode cX10_keepRow 18 = .ok (.getfield 78, 3) := by decide +kernel
theorem dX10_keepRow_21 : decode cX10_keepRow 21 = .ok (.arraylength, 1) := by decide +kernel
theorem dX10_keepRow_22 : decode cX10_keepRow 22 = .ok (.if_icmp .ge 21, 3) := by decide +kernel
theorem dX10_keepRow_25 : decode cX10_keepRow 25 = .ok (.aload_n 0, 1) := by decide +kernel
theorem dX10_keepRow_26 : decode cX10_keepRow 26 = .ok (.getfield 78, 3) := by decide +kernel
theorem dX10_keepRow_29 : decode cX10_keepRow 29 = .ok (.iload_n 2, 1) := by decide +kernel
theorem dX10_keepRow_30 : decode cX10_keepRow 30 = .ok (.aload_n 0, 1) := by decide +kernel
theorem dX10_keepRow_31 : decode cX10_keepRow 31 = .ok (.getfield 74, 3) := by decide +kernel
theorem dX10_keepRow_34 : decode cX10_keepRow 34 = .ok (.iload_n 2, 1) := by decide +kernel
theorem dX10_keepRow_35 : decode cX10_keepRow 35 = .ok (.iaload, 1) := by decide +kernel
theorem dX10_keepRow_36 : decode cX10_keepRow 36 = .ok (.iastore, 1) := by decide +kernel
theorem dX10_keepRow_37 : decode cX10_keepRow 37 = .ok (.iinc 2 1, 3) := by decide +kernel
theorem dX10_keepRow_40 : decode cX10_keepRow 40 = .ok (.goto (-38), 3) := by decide +kernel
theorem dX10_keepRow_43 : decode cX10_keepRow 43 = .ok (.return_, 1) := by decide +kernel
theorem dX10_nextRow_0 : decode cX10_nextRow 0 = .ok (.iload_n 1, 1) := by decide +kernel
theorem dX10_nextRow_1 : decode cX10_nextRow 1 = .ok (.aload_n 0, 1) := by decide +kernel
theorem dX10_nextRow_2 : decode cX10_nextRow 2 = .ok (.getfield 74, 3) := by decide +kernel
theorem dX10_nextRow_5 : decode cX10_nextRow 5 = .ok (.arraylength, 1) := by decide +kernel
theorem dX10_nextRow_6 : decode cX10_nextRow 6 = .ok (.if_icmp .le 5, 3) := by decide +kernel
theorem dX10_nextRow_9 : decode cX10_nextRow 9 = .ok (.iconst 0, 1) := by decide +kernel
theorem dX10_nextRow_10 : decode cX10_nextRow 10 = .ok (.ireturn, 1) := by decide +kernel
theorem dX10_nextRow_11 : decode cX10_nextRow 11 = .ok (.iload_n 1, 1) := by decide +kernel
theorem dX10_nextRow_12 : decode cX10_nextRow 12 = .ok (.iconst 2, 1) := by decide +kernel
theorem dX10_nextRow_13 : decode cX10_nextRow 13 = .ok (.isub, 1) := by decide +kernel
theorem dX10_nextRow_14 : decode cX10_nextRow 14 = .ok (.istore_n 2, 1) := by decide +kernel
theorem dX10_nextRow_15 : decode cX10_nextRow 15 = .ok (.iload_n 2, 1) := by decide +kernel
theorem dX10_nextRow_16 : decode cX10_nextRow 16 = .ok (.ifCond .lt 26, 3) := by decide +kernel
theorem dX10_nextRow_19 : decode cX10_nextRow 19 = .ok (.aload_n 0, 1) := by decide +kernel
theorem dX10_nextRow_20 : decode cX10_nextRow 20 = .ok (.getfield 74, 3) := by decide +kernel
theorem dX10_nextRow_23 : decode cX10_nextRow 23 = .ok (.iload_n 2, 1) := by decide +kernel
theorem dX10_nextRow_24 : decode cX10_nextRow 24 = .ok (.iaload, 1) := by decide +kernel
theorem dX10_nextRow_25 : decode cX10_nextRow 25 = .ok (.aload_n 0, 1) := by decide +kernel
theorem dX10_nextRow_26 : decode cX10_nextRow 26 = .ok (.getfield 74, 3) := by decide +kernel
theorem dX10_nextRow_29 : decode cX10_nextRow 29 = .ok (.iload_n 2, 1) := by decide +kernel
theorem dX10_nextRow_30 : decode cX10_nextRow 30 = .ok (.iconst 1, 1) := by decide +kernel
theorem dX10_nextRow_31 : decode cX10_nextRow 31 = .ok (.iadd, 1) := by decide +kernel
theorem dX10_nextRow_32 : decode cX10_nextRow 32 = .ok (.iaload, 1) := by decide +kernel
theorem dX10_nextRow_33 : decode cX10_nextRow 33 = .ok (.if_icmp .le 9, 3) := by decide +kernel
theorem dX10_nextRow_36 : decode cX10_nextRow 36 = .ok (.iinc 2 (-1), 3) := by decide +kernel
theorem dX10_nextRow_39 : decode cX10_nextRow 39 = .ok (.goto (-24), 3) := by decide +kernel
theorem dX10_nextRow_42 : decode cX10_nextRow 42 = .ok (.iload_n 2, 1) := by decide +kernel
theorem dX10_nextRow_43 : decode cX10_nextRow 43 = .ok (.ifCond .ge 5, 3) := by decide +kernel
theorem dX10_nextRow_46 : decode cX10_nextRow 46 = .ok (.iconst 0, 1) := by decide +kernel
theorem dX10_nextRow_47 : decode cX10_nextRow 47 = .ok (.ireturn, 1) := by decide +kernel
theorem dX10_nextRow_48 : decode cX10_nextRow 48 = .ok (.iload_n 1, 1) := by decide +kernel
theorem dX10_nextRow_49 : decode cX10_nextRow 49 = .ok (.iconst 1, 1) := by decide +kernel
theorem dX10_nextRow_50 : decode cX10_nextRow 50 = .ok (.isub, 1) := by decide +kernel
theorem dX10_nextRow_51 : decode cX10_nextRow 51 = .ok (.istore_n 3, 1) := by decide +kernel
theorem dX10_nextRow_52 : decode cX10_nextRow 52 = .ok (.iload_n 3, 1) := by decide +kernel
theorem dX10_nextRow_53 : decode cX10_nextRow 53 = .ok (.iload_n 2, 1) := by decide +kernel
theorem dX10_nextRow_54 : decode cX10_nextRow 54 = .ok (.if_icmp .le 24, 3) := by decide +kernel
theorem dX10_nextRow_57 : decode cX10_nextRow 57 = .ok (.aload_n 0, 1) := by decide +kernel
theorem dX10_nextRow_58 : decode cX10_nextRow 58 = .ok (.getfield 74, 3) := by decide +kernel
theorem dX10_nextRow_61 : decode cX10_nextRow 61 = .ok (.iload_n 3, 1) := by decide +kernel
theorem dX10_nextRow_62 : decode cX10_nextRow 62 = .ok (.iaload, 1) := by decide +kernel
theorem dX10_nextRow_63 : decode cX10_nextRow 63 = .ok (.aload_n 0, 1) := by decide +kernel
theorem dX10_nextRow_64 : decode cX10_nextRow 64 = .ok (.getfield 74, 3) := by decide +kernel
theorem dX10_nextRow_67 : decode cX10_nextRow 67 = .ok (.iload_n 2, 1) := by decide +kernel
theorem dX10_nextRow_68 : decode cX10_nextRow 68 = .ok (.iaload, 1) := by decide +kernel
theorem dX10_nextRow_69 : decode cX10_nextRow 69 = .ok (.if_icmp .ge 9, 3) := by decide +kernel
theorem dX10_nextRow_72 : decode cX10_nextRow 72 = .ok (.iinc 3 (-1), 3) := by decide +kernel
theorem dX10_nextRow_75 : decode cX10_nextRow 75 = .ok (.goto (-23), 3) := by decide +kernel
theorem dX10_nextRow_78 : decode cX10_nextRow 78 = .ok (.aload_n 0, 1) := by decide +kernel
theorem dX10_nextRow_79 : decode cX10_nextRow 79 = .ok (.iload_n 2, 1) := by decide +kernel
theorem dX10_nextRow_80 : decode cX10_nextRow 80 = .ok (.iload_n 3, 1) := by decide +kernel
theorem dX10_nextRow_81 : decode cX10_nextRow 81 = .ok (.invokevirtual 283, 3) := by decide +kernel
theorem dX10_nextRow_84 : decode cX10_nextRow 84 = .ok (.iload_n 2, 1) := by decide +kernel
theorem dX10_nextRow_85 : decode cX10_nextRow 85 = .ok (.iconst 1, 1) := by decide +kernel
theorem dX10_nextRow_86 : decode cX10_nextRow 86 = .ok (.iadd, 1) := by decide +kernel
theorem dX10_nextRow_87 : decode cX10_nextRow 87 = .ok (.istore 4, 2) := by decide +kernel
theorem dX10_nextRow_89 : decode cX10_nextRow 89 = .ok (.iload_n 1, 1) := by decide +kernel
theorem dX10_nextRow_90 : decode cX10_nextRow 90 = .ok (.iconst 1, 1) := by decide +kernel
theorem dX10_nextRow_91 : decode cX10_nextRow 91 = .ok (.isub, 1) := by decide +kernel
theorem dX10_nextRow_92 : decode cX10_nextRow 92 = .ok (.istore 5, 2) := by decide +kernel
theorem dX10_nextRow_94 : decode cX10_nextRow 94 = .ok (.iload 4, 2) := by decide +kernel
theorem dX10_nextRow_96 : decode cX10_nextRow 96 = .ok (.iload 5, 2) := by decide +kernel
theorem dX10_nextRow_98 : decode cX10_nextRow 98 = .ok (.if_icmp .ge 20, 3) := by decide +kernel
theorem dX10_nextRow_101 : decode cX10_nextRow 101 = .ok (.aload_n 0, 1) := by decide +kernel
theorem dX10_nextRow_102 : decode cX10_nextRow 102 = .ok (.iload 4, 2) := by decide +kernel
theorem dX10_nextRow_104 : decode cX10_nextRow 104 = .ok (.iload 5, 2) := by decide +kernel
theorem dX10_nextRow_106 : decode cX10_nextRow 106 = .ok (.invokevirtual 283, 3) := by decide +kernel
theorem dX10_nextRow_109 : decode cX10_nextRow 109 = .ok (.iinc 4 1, 3) := by decide +kernel
theorem dX10_nextRow_112 : decode cX10_nextRow 112 = .ok (.iinc 5 (-1), 3) := by decide +kernel
theorem dX10_nextRow_115 : decode cX10_nextRow 115 = .ok (.goto (-21), 3) := by decide +kernel
theorem dX10_nextRow_118 : decode cX10_nextRow 118 = .ok (.iconst 1, 1) := by decide +kernel
theorem dX10_nextRow_119 : decode cX10_nextRow 119 = .ok (.ireturn, 1) := by decide +kernel
theorem dX10_swapInRow_0 : decode cX10_swapInRow 0 = .ok (.iload_n 1, 1) := by decide +kernel
theorem dX10_swapInRow_1 : decode cX10_swapInRow 1 = .ok (.ifCond .lt 25, 3) := by decide +kernel
theorem dX10_swapInRow_4 : decode cX10_swapInRow 4 = .ok (.iload_n 2, 1) := by decide +kernel
theorem dX10_swapInRow_5 : decode cX10_swapInRow 5 = .ok (.ifCond .lt 21, 3) := by decide +kernel
theorem dX10_swapInRow_8 : decode cX10_swapInRow 8 = .ok (.iload_n 1, 1) := by decide +kernel
theorem dX10_swapInRow_9 : decode cX10_swapInRow 9 = .ok (.aload_n 0, 1) := by decide +kernel
theorem dX10_swapInRow_10 : decode cX10_swapInRow 10 = .ok (.getfield 74, 3) := by decide +kernel
theorem dX10_swapInRow_13 : decode cX10_swapInRow 13 = .ok (.arraylength, 1) := by decide +kernel
theorem dX10_swapInRow_14 : decode cX10_swapInRow 14 = .ok (.if_icmp .ge 12, 3) := by decide +kernel
theorem dX10_swapInRow_17 : decode cX10_swapInRow 17 = .ok (.iload_n 2, 1) := by decide +kernel
theorem dX10_swapInRow_18 : decode cX10_swapInRow 18 = .ok (.aload_n 0, 1) := by decide +kernel
theorem dX10_swapInRow_19 : decode cX10_swapInRow 19 = .ok (.getfield 74, 3) := by decide +kernel
theorem dX10_swapInRow_22 : decode cX10_swapInRow 22 = .ok (.arraylength, 1) := by decide +kernel
theorem dX10_swapInRow_23 : decode cX10_swapInRow 23 = .ok (.if_icmp .lt 4, 3) := by decide +kernel
theorem dX10_swapInRow_26 : decode cX10_swapInRow 26 = .ok (.return_, 1) := by decide +kernel
theorem dX10_swapInRow_27 : decode cX10_swapInRow 27 = .ok (.aload_n 0, 1) := by decide +kernel
theorem dX10_swapInRow_28 : decode cX10_swapInRow 28 = .ok (.getfield 74, 3) := by decide +kernel
theorem dX10_swapInRow_31 : decode cX10_swapInRow 31 = .ok (.iload_n 1, 1) := by decide +kernel
theorem dX10_swapInRow_32 : decode cX10_swapInRow 32 = .ok (.iaload, 1) := by decide +kernel
theorem dX10_swapInRow_33 : decode cX10_swapInRow 33 = .ok (.istore_n 3, 1) := by decide +kernel
theorem dX10_swapInRow_34 : decode cX10_swapInRow 34 = .ok (.aload_n 0, 1) := by decide +kernel
theorem dX10_swapInRow_35 : decode cX10_swapInRow 35 = .ok (.getfield 74, 3) := by decide +kernel
theorem dX10_swapInRow_38 : decode cX10_swapInRow 38 = .ok (.iload_n 1, 1) := by decide +kernel
theorem dX10_swapInRow_39 : decode cX10_swapInRow 39 = .ok (.aload_n 0, 1) := by decide +kernel
theorem dX10_swapInRow_40 : decode cX10_swapInRow 40 = .ok (.getfield 74, 3) := by decide +kernel
theorem dX10_swapInRow_43 : decode cX10_swapInRow 43 = .ok (.iload_n 2, 1) := by decide +kernel
theorem dX10_swapInRow_44 : decode cX10_swapInRow 44 = .ok (.iaload, 1) := by decide +kernel
theorem dX10_swapInRow_45 : decode cX10_swapInRow 45 = .ok (.iastore, 1) := by decide +kernel
theorem dX10_swapInRow_46 : decode cX10_swapInRow 46 = .ok (.aload_n 0, 1) := by decide +kernel
theorem dX10_swapInRow_47 : decode cX10_swapInRow 47 = .ok (.getfield 74, 3) := by decide +kernel
theorem dX10_swapInRow_50 : decode cX10_swapInRow 50 = .ok (.iload_n 2, 1) := by decide +kernel
theorem dX10_swapInRow_51 : decode cX10_swapInRow 51 = .ok (.iload_n 3, 1) := by decide +kernel
theorem dX10_swapInRow_52 : decode cX10_swapInRow 52 = .ok (.iastore, 1) := by decide +kernel
theorem dX10_swapInRow_53 : decode cX10_swapInRow 53 = .ok (.return_, 1) := by decide +kernel
theorem dX10_say_0 : decode cX10_say 0 = .ok (.aload_n 0, 1) := by decide +kernel
theorem dX10_say_1 : decode cX10_say 1 = .ok (.getfield 46, 3) := by decide +kernel
theorem dX10_say_4 : decode cX10_say 4 = .ok (.iload_n 1, 1) := by decide +kernel
theorem dX10_say_5 : decode cX10_say 5 = .ok (.iload_n 2, 1) := by decide +kernel
theorem dX10_say_6 : decode cX10_say 6 = .ok (.invokevirtual 286, 3) := by decide +kernel
theorem dX10_say_9 : decode cX10_say 9 = .ok (.ireturn, 1) := by decide +kernel
theorem dX10_fits_0 : decode cX10_fits 0 = .ok (.iconst 0, 1) := by decide +kernel
theorem dX10_fits_1 : decode cX10_fits 1 = .ok (.istore_n 2, 1) := by decide +kernel
theorem dX10_fits_2 : decode cX10_fits 2 = .ok (.iconst (-1), 1) := by decide +kernel
theorem dX10_fits_3 : decode cX10_fits 3 = .ok (.istore_n 3, 1) := by decide +kernel
theorem dX10_fits_4 : decode cX10_fits 4 = .ok (.iconst (-1), 1) := by decide +kernel
theorem dX10_fits_5 : decode cX10_fits 5 = .ok (.istore 4, 2) := by decide +kernel
theorem dX10_fits_7 : decode cX10_fits 7 = .ok (.iconst 1, 1) := by decide +kernel
theorem dX10_fits_8 : decode cX10_fits 8 = .ok (.istore 5, 2) := by decide +kernel
theorem dX10_fits_10 : decode cX10_fits 10 = .ok (.iload 5, 2) := by decide +kernel
theorem dX10_fits_12 : decode cX10_fits 12 = .ok (.sipush 2000, 3) := by decide +kernel
theorem dX10_fits_15 : decode cX10_fits 15 = .ok (.if_icmp .gt 40, 3) := by decide +kernel
theorem dX10_fits_18 : decode cX10_fits 18 = .ok (.aload_n 0, 1) := by decide +kernel
theorem dX10_fits_19 : decode cX10_fits 19 = .ok (.getfield 46, 3) := by decide +kernel
theorem dX10_fits_22 : decode cX10_fits 22 = .ok (.iload 5, 2) := by decide +kernel
theorem dX10_fits_24 : decode cX10_fits 24 = .ok (.invokevirtual 290, 3) := by decide +kernel
theorem dX10_fits_27 : decode cX10_fits 27 = .ok (.ifCond .eq 22, 3) := by decide +kernel
theorem dX10_fits_30 : decode cX10_fits 30 = .ok (.iinc 2 1, 3) := by decide +kernel
theorem dX10_fits_33 : decode cX10_fits 33 = .ok (.iload_n 3, 1) := by decide +kernel
theorem dX10_fits_34 : decode cX10_fits 34 = .ok (.iconst (-1), 1) := by decide +kernel
theorem dX10_fits_35 : decode cX10_fits 35 = .ok (.if_icmp .ne 8, 3) := by decide +kernel
theorem dX10_fits_38 : decode cX10_fits 38 = .ok (.iload 5, 2) := by decide +kernel
theorem dX10_fits_40 : decode cX10_fits 40 = .ok (.goto 4, 3) := by decide +kernel
theorem dX10_fits_43 : decode cX10_fits 43 = .ok (.iload_n 3, 1) := by decide +kernel
theorem dX10_fits_44 : decode cX10_fits 44 = .ok (.istore_n 3, 1) := by decide +kernel
theorem dX10_fits_45 : decode cX10_fits 45 = .ok (.iload 5, 2) := by decide +kernel
theorem dX10_fits_47 : decode cX10_fits 47 = .ok (.istore 4, 2) := by decide +kernel
theorem dX10_fits_49 : decode cX10_fits 49 = .ok (.iinc 5 1, 3) := by decide +kernel
theorem dX10_fits_52 : decode cX10_fits 52 = .ok (.goto (-42), 3) := by decide +kernel
theorem dX10_fits_55 : decode cX10_fits 55 = .ok (.iload_n 1, 1) := by decide +kernel
theorem dX10_fits_56 : decode cX10_fits 56 = .ok (.tableswitch 35 0 2 #[28, 30, 32], 28) := by decide +kernel
theorem dX10_fits_84 : decode cX10_fits 84 = .ok (.iload_n 2, 1) := by decide +kernel
theorem dX10_fits_85 : decode cX10_fits 85 = .ok (.ireturn, 1) := by decide +kernel
theorem dX10_fits_86 : decode cX10_fits 86 = .ok (.iload_n 3, 1) := by decide +kernel
theorem dX10_fits_87 : decode cX10_fits 87 = .ok (.ireturn, 1) := by decide +kernel
theorem dX10_fits_88 : decode cX10_fits 88 = .ok (.iload 4, 2) := by decide +kernel
theorem dX10_fits_90 : decode cX10_fits 90 = .ok (.ireturn, 1) := by decide +kernel
theorem dX10_fits_91 : decode cX10_fits 91 = .ok (.iconst (-1), 1) := by decide +kernel
theorem dX10_fits_92 : decode cX10_fits 92 = .ok (.ireturn, 1) := by decide +kernel
theorem dX10_ask_0 : decode cX10_ask 0 = .ok (.aload_n 0, 1) := by decide +kernel
theorem dX10_ask_1 : decode cX10_ask 1 = .ok (.getfield 46, 3) := by decide +kernel
theorem dX10_ask_4 : decode cX10_ask 4 = .ok (.invokevirtual 293, 3) := by decide +kernel
theorem dX10_ask_7 : decode cX10_ask 7 = .ok (.ireturn, 1) := by decide +kernel
theorem dX10_rests_0 : decode cX10_rests 0 = .ok (.iload_n 1, 1) := by decide +kernel
theorem dX10_rests_1 : decode cX10_rests 1 = .ok (.invokestatic 296, 3) := by decide +kernel
theorem dX10_rests_4 : decode cX10_rests 4 = .ok (.ifCond .eq 23, 3) := by decide +kernel
theorem dX10_rests_7 : decode cX10_rests 7 = .ok (.iload_n 2, 1) := by decide +kernel
theorem dX10_rests_8 : decode cX10_rests 8 = .ok (.invokestatic 296, 3) := by decide +kernel
theorem dX10_rests_11 : decode cX10_rests 11 = .ok (.ifCond .eq 16, 3) := by decide +kernel
theorem dX10_rests_14 : decode cX10_rests 14 = .ok (.iload_n 3, 1) := by decide +kernel
theorem dX10_rests_15 : decode cX10_rests 15 = .ok (.invokestatic 296, 3) := by decide +kernel
theorem dX10_rests_18 : decode cX10_rests 18 = .ok (.ifCond .eq 9, 3) := by decide +kernel
theorem dX10_rests_21 : decode cX10_rests 21 = .ok (.iload 4, 2) := by decide +kernel
theorem dX10_rests_23 : decode cX10_rests 23 = .ok (.iconst (-1), 1) := by decide +kernel
theorem dX10_rests_24 : decode cX10_rests 24 = .ok (.if_icmp .ge 11, 3) := by decide +kernel
theorem dX10_rests_27 : decode cX10_rests 27 = .ok (.new 299, 3) := by decide +kernel
theorem dX10_rests_30 : decode cX10_rests 30 = .ok (.dup, 1) := by decide +kernel
theorem dX10_rests_31 : decode cX10_rests 31 = .ok (.invokespecial 301, 3) := by decide +kernel
theorem dX10_rests_34 : decode cX10_rests 34 = .ok (.athrow, 1) := by decide +kernel
theorem dX10_rests_35 : decode cX10_rests 35 = .ok (.iconst 0, 1) := by decide +kernel
theorem dX10_rests_36 : decode cX10_rests 36 = .ok (.istore 5, 2) := by decide +kernel
theorem dX10_rests_38 : decode cX10_rests 38 = .ok (.iconst 0, 1) := by decide +kernel
theorem dX10_rests_39 : decode cX10_rests 39 = .ok (.istore 6, 2) := by decide +kernel
theorem dX10_rests_41 : decode cX10_rests 41 = .ok (.iload 6, 2) := by decide +kernel
theorem dX10_rests_43 : decode cX10_rests 43 = .ok (.iconst 4, 1) := by decide +kernel
theorem dX10_rests_44 : decode cX10_rests 44 = .ok (.if_icmp .ge 101, 3) := by decide +kernel
theorem dX10_rests_47 : decode cX10_rests 47 = .ok (.iload 6, 2) := by decide +kernel
theorem dX10_rests_49 : decode cX10_rests 49 = .ok (.iconst 1, 1) := by decide +kernel
theorem dX10_rests_50 : decode cX10_rests 50 = .ok (.ishr, 1) := by decide +kernel
theorem dX10_rests_51 : decode cX10_rests 51 = .ok (.istore 7, 2) := by decide +kernel
theorem dX10_rests_53 : decode cX10_rests 53 = .ok (.iload 6, 2) := by decide +kernel
theorem dX10_rests_55 : decode cX10_rests 55 = .ok (.iconst 1, 1) := by decide +kernel
theorem dX10_rests_56 : decode cX10_rests 56 = .ok (.iand, 1) := by decide +kernel
theorem dX10_rests_57 : decode cX10_rests 57 = .ok (.istore 8, 2) := by decide +kernel
theorem dX10_rests_59 : decode cX10_rests 59 = .ok (.iload 7, 2) := by decide +kernel
theorem dX10_rests_61 : decode cX10_rests 61 = .ok (.iload 8, 2) := by decide +kernel
theorem dX10_rests_63 : decode cX10_rests 63 = .ok (.iload_n 1, 1) := by decide +kernel
theorem dX10_rests_64 : decode cX10_rests 64 = .ok (.iload_n 2, 1) := by decide +kernel
theorem dX10_rests_65 : decode cX10_rests 65 = .ok (.iload_n 3, 1) := by decide +kernel
theorem dX10_rests_66 : decode cX10_rests 66 = .ok (.invokestatic 302, 3) := by decide +kernel
theorem dX10_rests_69 : decode cX10_rests 69 = .ok (.iconst 1, 1) := by decide +kernel
theorem dX10_rests_70 : decode cX10_rests 70 = .ok (.iload 7, 2) := by decide +kernel
theorem dX10_rests_72 : decode cX10_rests 72 = .ok (.isub, 1) := by decide +kernel
theorem dX10_rests_73 : decode cX10_rests 73 = .ok (.iload 8, 2) := by decide +kernel
theorem dX10_rests_75 : decode cX10_rests 75 = .ok (.iload_n 1, 1) := by decide +kernel
theorem dX10_rests_76 : decode cX10_rests 76 = .ok (.iload_n 2, 1) := by decide +kernel
theorem dX10_rests_77 : decode cX10_rests 77 = .ok (.iload_n 3, 1) := by decide +kernel
theorem dX10_rests_78 : decode cX10_rests 78 = .ok (.invokestatic 302, 3) := by decide +kernel
theorem dX10_rests_81 : decode cX10_rests 81 = .ok (.if_icmp .lt 32, 3) := by decide +kernel
theorem dX10_rests_84 : decode cX10_rests 84 = .ok (.iload 8, 2) := by decide +kernel
theorem dX10_rests_86 : decode cX10_rests 86 = .ok (.iload 7, 2) := by decide +kernel
theorem dX10_rests_88 : decode cX10_rests 88 = .ok (.iload_n 1, 1) := by decide +kernel
theorem dX10_rests_89 : decode cX10_rests 89 = .ok (.iload_n 2, 1) := by decide +kernel
theorem dX10_rests_90 : decode cX10_rests 90 = .ok (.iload_n 3, 1) := by decide +kernel
theorem dX10_rests_91 : decode cX10_rests 91 = .ok (.invokestatic 302, 3) := by decide +kernel
theorem dX10_rests_94 : decode cX10_rests 94 = .ok (.iconst 1, 1) := by decide +kernel
theorem dX10_rests_95 : decode cX10_rests 95 = .ok (.iload 8, 2) := by decide +kernel
theorem dX10_rests_97 : decode cX10_rests 97 = .ok (.isub, 1) := by decide +kernel
theorem dX10_rests_98 : decode cX10_rests 98 = .ok (.iload 7, 2) := by decide +kernel
theorem dX10_rests_100 : decode cX10_rests 100 = .ok (.iload_n 1, 1) := by decide +kernel
theorem dX10_rests_101 : decode cX10_rests 101 = .ok (.iload_n 2, 1) := by decide +kernel
theorem dX10_rests_102 : decode cX10_rests 102 = .ok (.iload_n 3, 1) := by decide +kernel
theorem dX10_rests_103 : decode cX10_rests 103 = .ok (.invokestatic 302, 3) := by decide +kernel
theorem dX10_rests_106 : decode cX10_rests 106 = .ok (.if_icmp .lt 7, 3) := by decide +kernel
theorem dX10_rests_109 : decode cX10_rests 109 = .ok (.iconst 1, 1) := by decide +kernel
theorem dX10_rests_110 : decode cX10_rests 110 = .ok (.goto 4, 3) := by decide +kernel
theorem dX10_rests_113 : decode cX10_rests 113 = .ok (.iconst 0, 1) := by decide +kernel
theorem dX10_rests_114 : decode cX10_rests 114 = .ok (.istore 9, 2) := by decide +kernel
theorem dX10_rests_116 : decode cX10_rests 116 = .ok (.iload 9, 2) := by decide +kernel
theorem dX10_rests_118 : decode cX10_rests 118 = .ok (.ifCond .eq 13, 3) := by decide +kernel
theorem dX10_rests_121 : decode cX10_rests 121 = .ok (.iload 5, 2) := by decide +kernel
theorem dX10_rests_123 : decode cX10_rests 123 = .ok (.iload 4, 2) := by decide +kernel
theorem dX10_rests_125 : decode cX10_rests 125 = .ok (.if_icmp .ne 6, 3) := by decide +kernel
theorem dX10_rests_128 : decode cX10_rests 128 = .ok (.iload 6, 2) := by decide +kernel
theorem dX10_rests_130 : decode cX10_rests 130 = .ok (.ireturn, 1) := by decide +kernel
theorem dX10_rests_131 : decode cX10_rests 131 = .ok (.iload 9, 2) := by decide +kernel
theorem dX10_rests_133 : decode cX10_rests 133 = .ok (.ifCond .eq 6, 3) := by decide +kernel
theorem dX10_rests_136 : decode cX10_rests 136 = .ok (.iinc 5 1, 3) := by decide +kernel
theorem dX10_rests_139 : decode cX10_rests 139 = .ok (.iinc 6 1, 3) := by decide +kernel
theorem dX10_rests_142 : decode cX10_rests 142 = .ok (.goto (-101), 3) := by decide +kernel
theorem dX10_rests_145 : decode cX10_rests 145 = .ok (.iload 4, 2) := by decide +kernel
theorem dX10_rests_147 : decode cX10_rests 147 = .ok (.iconst (-1), 1) := by decide +kernel
theorem dX10_rests_148 : decode cX10_rests 148 = .ok (.if_icmp .eq 11, 3) := by decide +kernel
theorem dX10_rests_151 : decode cX10_rests 151 = .ok (.new 299, 3) := by decide +kernel
theorem dX10_rests_154 : decode cX10_rests 154 = .ok (.dup, 1) := by decide +kernel
theorem dX10_rests_155 : decode cX10_rests 155 = .ok (.invokespecial 301, 3) := by decide +kernel
theorem dX10_rests_158 : decode cX10_rests 158 = .ok (.athrow, 1) := by decide +kernel
theorem dX10_rests_159 : decode cX10_rests 159 = .ok (.iload 5, 2) := by decide +kernel
theorem dX10_rests_161 : decode cX10_rests 161 = .ok (.ireturn, 1) := by decide +kernel
theorem dX10_isStake_0 : decode cX10_isStake 0 = .ok (.iload_n 0, 1) := by decide +kernel
theorem dX10_isStake_1 : decode cX10_isStake 1 = .ok (.ifCond .lt 13, 3) := by decide +kernel
theorem dX10_isStake_4 : decode cX10_isStake 4 = .ok (.iload_n 0, 1) := by decide +kernel
theorem dX10_isStake_5 : decode cX10_isStake 5 = .ok (.bipush 9, 2) := by decide +kernel
theorem dX10_isStake_7 : decode cX10_isStake 7 = .ok (.if_icmp .gt 7, 3) := by decide +kernel
theorem dX10_isStake_10 : decode cX10_isStake 10 = .ok (.iconst 1, 1) := by decide +kernel
theorem dX10_isStake_11 : decode cX10_isStake 11 = .ok (.goto 4, 3) := by decide +kernel
theorem dX10_isStake_14 : decode cX10_isStake 14 = .ok (.iconst 0, 1) := by decide +kernel
theorem dX10_isStake_15 : decode cX10_isStake 15 = .ok (.ireturn, 1) := by decide +kernel
theorem dX10_gain_0 : decode cX10_gain 0 = .ok (.iload_n 0, 1) := by decide +kernel
theorem dX10_gain_1 : decode cX10_gain 1 = .ok (.iconst 1, 1) := by decide +kernel
theorem dX10_gain_2 : decode cX10_gain 2 = .ok (.if_icmp .ne 15, 3) := by decide +kernel
theorem dX10_gain_5 : decode cX10_gain 5 = .ok (.iload_n 1, 1) := by decide +kernel
theorem dX10_gain_6 : decode cX10_gain 6 = .ok (.iconst 1, 1) := by decide +kernel
theorem dX10_gain_7 : decode cX10_gain 7 = .ok (.if_icmp .ne 8, 3) := by decide +kernel
theorem dX10_gain_10 : decode cX10_gain 10 = .ok (.iload_n 2, 1) := by decide +kernel
theorem dX10_gain_11 : decode cX10_gain 11 = .ok (.ineg, 1) := by decide +kernel
theorem dX10_gain_12 : decode cX10_gain 12 = .ok (.goto 4, 3) := by decide +kernel
theorem dX10_gain_15 : decode cX10_gain 15 = .ok (.iload_n 3, 1) := by decide +kernel
theorem dX10_gain_16 : decode cX10_gain 16 = .ok (.ireturn, 1) := by decide +kernel
theorem dX10_gain_17 : decode cX10_gain 17 = .ok (.iload_n 1, 1) := by decide +kernel
theorem dX10_gain_18 : decode cX10_gain 18 = .ok (.iconst 1, 1) := by decide +kernel
theorem dX10_gain_19 : decode cX10_gain 19 = .ok (.if_icmp .ne 8, 3) := by decide +kernel
theorem dX10_gain_22 : decode cX10_gain 22 = .ok (.iload 4, 2) := by decide +kernel
theorem dX10_gain_24 : decode cX10_gain 24 = .ok (.goto 4, 3) := by decide +kernel
theorem dX10_gain_27 : decode cX10_gain 27 = .ok (.iconst 0, 1) := by decide +kernel
theorem dX10_gain_28 : decode cX10_gain 28 = .ok (.ireturn, 1) := by decide +kernel
theorem dX10_ages_0 : decode cX10_ages 0 = .ok (.iload_n 1, 1) := by decide +kernel
theorem dX10_ages_1 : decode cX10_ages 1 = .ok (.ifCond .lt 30, 3) := by decide +kernel
theorem dX10_ages_4 : decode cX10_ages 4 = .ok (.iload_n 1, 1) := by decide +kernel
theorem dX10_ages_5 : decode cX10_ages 5 = .ok (.sipush 9999, 3) := by decide +kernel
theorem dX10_ages_8 : decode cX10_ages 8 = .ok (.if_icmp .gt 23, 3) := by decide +kernel
theorem dX10_ages_11 : decode cX10_ages 11 = .ok (.iload_n 2, 1) := by decide +kernel
theorem dX10_ages_12 : decode cX10_ages 12 = .ok (.iconst 1, 1) := by decide +kernel
theorem dX10_ages_13 : decode cX10_ages 13 = .ok (.if_icmp .lt 18, 3) := by decide +kernel
theorem dX10_ages_16 : decode cX10_ages 16 = .ok (.iload_n 2, 1) := by decide +kernel
theorem dX10_ages_17 : decode cX10_ages 17 = .ok (.bipush 99, 2) := by decide +kernel
theorem dX10_ages_19 : decode cX10_ages 19 = .ok (.if_icmp .gt 12, 3) := by decide +kernel
theorem dX10_ages_22 : decode cX10_ages 22 = .ok (.iload_n 3, 1) := by decide +kernel
theorem dX10_ages_23 : decode cX10_ages 23 = .ok (.ifCond .lt 8, 3) := by decide +kernel
theorem dX10_ages_26 : decode cX10_ages 26 = .ok (.iload_n 3, 1) := by decide +kernel
theorem dX10_ages_27 : decode cX10_ages 27 = .ok (.iconst 2, 1) := by decide +kernel
theorem dX10_ages_28 : decode cX10_ages 28 = .ok (.if_icmp .le 5, 3) := by decide +kernel
theorem dX10_ages_31 : decode cX10_ages 31 = .ok (.iconst (-1), 1) := by decide +kernel
theorem dX10_ages_32 : decode cX10_ages 32 = .ok (.ireturn, 1) := by decide +kernel
theorem dX10_ages_33 : decode cX10_ages 33 = .ok (.aload_n 0, 1) := by decide +kernel
theorem dX10_ages_34 : decode cX10_ages 34 = .ok (.iload_n 1, 1) := by decide +kernel
theorem dX10_ages_35 : decode cX10_ages 35 = .ok (.i2l, 1) := by decide +kernel
theorem dX10_ages_36 : decode cX10_ages 36 = .ok (.putfield 81, 3) := by decide +kernel
theorem dX10_ages_39 : decode cX10_ages 39 = .ok (.aload_n 0, 1) := by decide +kernel
theorem dX10_ages_40 : decode cX10_ages 40 = .ok (.getfield 71, 3) := by decide +kernel
theorem dX10_ages_43 : decode cX10_ages 43 = .ok (.aload_n 0, 1) := by decide +kernel
theorem dX10_ages_44 : decode cX10_ages 44 = .ok (.getfield 39, 3) := by decide +kernel
theorem dX10_ages_47 : decode cX10_ages 47 = .ok (.invokevirtual 189, 3) := by decide +kernel
theorem dX10_ages_50 : decode cX10_ages 50 = .ok (.iconst 0, 1) := by decide +kernel
theorem dX10_ages_51 : decode cX10_ages 51 = .ok (.istore 4, 2) := by decide +kernel
theorem dX10_ages_53 : decode cX10_ages 53 = .ok (.iload 4, 2) := by decide +kernel
theorem dX10_ages_55 : decode cX10_ages 55 = .ok (.iload_n 2, 1) := by decide +kernel
theorem dX10_ages_56 : decode cX10_ages 56 = .ok (.if_icmp .ge 54, 3) := by decide +kernel
theorem dX10_ages_59 : decode cX10_ages 59 = .ok (.aload_n 0, 1) := by decide +kernel
theorem dX10_ages_60 : decode cX10_ages 60 = .ok (.invokevirtual 306, 3) := by decide +kernel
theorem dX10_ages_63 : decode cX10_ages 63 = .ok (.aload_n 0, 1) := by decide +kernel
theorem dX10_ages_64 : decode cX10_ages 64 = .ok (.bipush 6, 2) := by decide +kernel
theorem dX10_ages_66 : decode cX10_ages 66 = .ok (.invokevirtual 309, 3) := by decide +kernel
theorem dX10_ages_69 : decode cX10_ages 69 = .ok (.ifCond .ne 18, 3) := by decide +kernel
theorem dX10_ages_72 : decode cX10_ages 72 = .ok (.aload_n 0, 1) := by decide +kernel
theorem dX10_ages_73 : decode cX10_ages 73 = .ok (.getfield 71, 3) := by decide +kernel
theorem dX10_ages_76 : decode cX10_ages 76 = .ok (.aload_n 0, 1) := by decide +kernel
theorem dX10_ages_77 : decode cX10_ages 77 = .ok (.bipush 20, 2) := by decide +kernel
theorem dX10_ages_79 : decode cX10_ages 79 = .ok (.invokevirtual 309, 3) := by decide +kernel
theorem dX10_ages_82 : decode cX10_ages 82 = .ok (.iconst 1, 1) := by decide +kernel
theorem dX10_ages_83 : decode cX10_ages 83 = .ok (.iadd, 1) := by decide +kernel
theorem dX10_ages_84 : decode cX10_ages 84 = .ok (.invokevirtual 172, 3) := by decide +kernel
theorem dX10_ages_87 : decode cX10_ages 87 = .ok (.aload_n 0, 1) := by decide +kernel
theorem dX10_ages_88 : decode cX10_ages 88 = .ok (.getfield 53, 3) := by decide +kernel
theorem dX10_ages_91 : decode cX10_ages 91 = .ok (.aload_n 0, 1) := by decide +kernel
theorem dX10_ages_92 : decode cX10_ages 92 = .ok (.getfield 19, 3) := by decide +kernel
theorem dX10_ages_95 : decode cX10_ages 95 = .ok (.aload_n 0, 1) := by decide +kernel
theorem dX10_ages_96 : decode cX10_ages 96 = .ok (.getfield 71, 3) := by decide +kernel
theorem dX10_ages_99 : decode cX10_ages 99 = .ok (.iconst 0, 1) := by decide +kernel
theorem dX10_ages_100 : decode cX10_ages 100 = .ok (.invokevirtual 178, 3) := by decide +kernel
theorem dX10_ages_103 : decode cX10_ages 103 = .ok (.pop, 1) := by decide +kernel
theorem dX10_ages_104 : decode cX10_ages 104 = .ok (.iinc 4 1, 3) := by decide +kernel
theorem dX10_ages_107 : decode cX10_ages 107 = .ok (.goto (-54), 3) := by decide +kernel
theorem dX10_ages_110 : decode cX10_ages 110 = .ok (.iload_n 3, 1) := by decide +kernel
theorem dX10_ages_111 : decode cX10_ages 111 = .ok (.ifCond .ne 24, 3) := by decide +kernel
theorem dX10_ages_114 : decode cX10_ages 114 = .ok (.aload_n 0, 1) := by decide +kernel
theorem dX10_ages_115 : decode cX10_ages 115 = .ok (.getfield 71, 3) := by decide +kernel
theorem dX10_ages_118 : decode cX10_ages 118 = .ok (.getfield 139, 3) := by decide +kernel
theorem dX10_ages_121 : decode cX10_ages 121 = .ok (.aload_n 0, 1) := by decide +kernel
theorem dX10_ages_122 : decode cX10_ages 122 = .ok (.getfield 39, 3) := by decide +kernel
theorem dX10_ages_125 : decode cX10_ages 125 = .ok (.getfield 139, 3) := by decide +kernel
theorem dX10_ages_128 : decode cX10_ages 128 = .ok (.iconst (-1), 1) := by decide +kernel
theorem dX10_ages_129 : decode cX10_ages 129 = .ok (.ixor, 1) := by decide +kernel
theorem dX10_ages_130 : decode cX10_ages 130 = .ok (.iand, 1) := by decide +kernel
theorem dX10_ages_131 : decode cX10_ages 131 = .ok (.invokestatic 205, 3) := by decide +kernel
theorem dX10_ages_134 : decode cX10_ages 134 = .ok (.ireturn, 1) := by decide +kernel
theorem dX10_ages_135 : decode cX10_ages 135 = .ok (.iload_n 3, 1) := by decide +kernel
theorem dX10_ages_136 : decode cX10_ages 136 = .ok (.iconst 1, 1) := by decide +kernel
theorem dX10_ages_137 : decode cX10_ages 137 = .ok (.if_icmp .ne 13, 3) := by decide +kernel
theorem dX10_ages_140 : decode cX10_ages 140 = .ok (.aload_n 0, 1) := by decide +kernel
theorem dX10_ages_141 : decode cX10_ages 141 = .ok (.getfield 71, 3) := by decide +kernel
theorem dX10_ages_144 : decode cX10_ages 144 = .ok (.invokevirtual 261, 3) := by decide +kernel
theorem dX10_ages_147 : decode cX10_ages 147 = .ok (.goto 10, 3) := by decide +kernel
theorem dX10_ages_150 : decode cX10_ages 150 = .ok (.aload_n 0, 1) := by decide +kernel
theorem dX10_ages_151 : decode cX10_ages 151 = .ok (.getfield 71, 3) := by decide +kernel
theorem dX10_ages_154 : decode cX10_ages 154 = .ok (.getfield 142, 3) := by decide +kernel
theorem dX10_ages_157 : decode cX10_ages 157 = .ok (.ireturn, 1) := by decide +kernel
theorem dX10_drawVisit_0 : decode cX10_drawVisit 0 = .ok (.aload_n 0, 1) := by decide +kernel
theorem dX10_drawVisit_1 : decode cX10_drawVisit 1 = .ok (.getfield 19, 3) := by decide +kernel
theorem dX10_drawVisit_4 : decode cX10_drawVisit 4 = .ok (.getfield 312, 3) := by decide +kernel
theorem dX10_drawVisit_7 : decode cX10_drawVisit 7 = .ok (.ifCond .gt 4, 3) := by decide +kernel
theorem dX10_drawVisit_10 : decode cX10_drawVisit 10 = .ok (.return_, 1) := by decide +kernel
theorem dX10_drawVisit_11 : decode cX10_drawVisit 11 = .ok (.aload_n 0, 1) := by decide +kernel
theorem dX10_drawVisit_12 : decode cX10_drawVisit 12 = .ok (.aload_n 0, 1) := by decide +kernel
theorem dX10_drawVisit_13 : decode cX10_drawVisit 13 = .ok (.getfield 19, 3) := by decide +kernel
theorem dX10_drawVisit_16 : decode cX10_drawVisit 16 = .ok (.getfield 312, 3) := by decide +kernel
theorem dX10_drawVisit_19 : decode cX10_drawVisit 19 = .ok (.invokevirtual 309, 3) := by decide +kernel
theorem dX10_drawVisit_22 : decode cX10_drawVisit 22 = .ok (.istore_n 1, 1) := by decide +kernel
theorem dX10_drawVisit_23 : decode cX10_drawVisit 23 = .ok (.aload_n 0, 1) := by decide +kernel
theorem dX10_drawVisit_24 : decode cX10_drawVisit 24 = .ok (.getfield 71, 3) := by decide +kernel
theorem dX10_drawVisit_27 : decode cX10_drawVisit 27 = .ok (.aload_n 0, 1) := by decide +kernel
theorem dX10_drawVisit_28 : decode cX10_drawVisit 28 = .ok (.getfield 19, 3) := by decide +kernel
theorem dX10_drawVisit_31 : decode cX10_drawVisit 31 = .ok (.iload_n 1, 1) := by decide +kernel
theorem dX10_drawVisit_32 : decode cX10_drawVisit 32 = .ok (.invokevirtual 158, 3) := by decide +kernel
theorem dX10_drawVisit_35 : decode cX10_drawVisit 35 = .ok (.ifCond .eq 14, 3) := by decide +kernel
theorem dX10_drawVisit_38 : decode cX10_drawVisit 38 = .ok (.aload_n 0, 1) := by decide +kernel
theorem dX10_drawVisit_39 : decode cX10_drawVisit 39 = .ok (.getfield 71, 3) := by decide +kernel
theorem dX10_drawVisit_42 : decode cX10_drawVisit 42 = .ok (.iload_n 1, 1) := by decide +kernel
theorem dX10_drawVisit_43 : decode cX10_drawVisit 43 = .ok (.invokevirtual 165, 3) := by decide +kernel
theorem dX10_drawVisit_46 : decode cX10_drawVisit 46 = .ok (.goto 31, 3) := by decide +kernel
theorem dX10_drawVisit_49 : decode cX10_drawVisit 49 = .ok (.aload_n 0, 1) := by decide +kernel
theorem dX10_drawVisit_50 : decode cX10_drawVisit 50 = .ok (.getfield 71, 3) := by decide +kernel
theorem dX10_drawVisit_53 : decode cX10_drawVisit 53 = .ok (.iload_n 1, 1) := by decide +kernel
theorem dX10_drawVisit_54 : decode cX10_drawVisit 54 = .ok (.invokevirtual 149, 3) := by decide +kernel
theorem dX10_drawVisit_57 : decode cX10_drawVisit 57 = .ok (.ifCond .eq 20, 3) := by decide +kernel
theorem dX10_drawVisit_60 : decode cX10_drawVisit 60 = .ok (.aload_n 0, 1) := by decide +kernel
theorem dX10_drawVisit_61 : decode cX10_drawVisit 61 = .ok (.bipush 8, 2) := by decide +kernel
theorem dX10_drawVisit_63 : decode cX10_drawVisit 63 = .ok (.invokevirtual 309, 3) := by decide +kernel
theorem dX10_drawVisit_66 : decode cX10_drawVisit 66 = .ok (.ifCond .ne 11, 3) := by decide +kernel
theorem dX10_drawVisit_69 : decode cX10_drawVisit 69 = .ok (.aload_n 0, 1) := by decide +kernel
theorem dX10_drawVisit_70 : decode cX10_drawVisit 70 = .ok (.getfield 71, 3) := by decide +kernel
theorem dX10_drawVisit_73 : decode cX10_drawVisit 73 = .ok (.iload_n 1, 1) := by decide +kernel
theorem dX10_drawVisit_74 : decode cX10_drawVisit 74 = .ok (.invokevirtual 169, 3) := by decide +kernel
theorem dX10_drawVisit_77 : decode cX10_drawVisit 77 = .ok (.return_, 1) := by decide +kernel
theorem dX10_draw_0 : decode cX10_draw 0 = .ok (.iload_n 1, 1) := by decide +kernel
theorem dX10_draw_1 : decode cX10_draw 1 = .ok (.iconst 1, 1) := by decide +kernel
theorem dX10_draw_2 : decode cX10_draw 2 = .ok (.if_icmp .ge 5, 3) := by decide +kernel
theorem dX10_draw_5 : decode cX10_draw 5 = .ok (.iconst 0, 1) := by decide +kernel
theorem dX10_draw_6 : decode cX10_draw 6 = .ok (.ireturn, 1) := by decide +kernel
theorem dX10_draw_7 : decode cX10_draw 7 = .ok (.aload_n 0, 1) := by decide +kernel
theorem dX10_draw_8 : decode cX10_draw 8 = .ok (.aload_n 0, 1) := by decide +kernel
theorem dX10_draw_9 : decode cX10_draw 9 = .ok (.getfield 81, 3) := by decide +kernel
theorem dX10_draw_12 : decode cX10_draw 12 = .ok (.ldc2_w 315, 3) := by decide +kernel
theorem dX10_draw_15 : decode cX10_draw 15 = .ok (.lmul, 1) := by decide +kernel
theorem dX10_draw_16 : decode cX10_draw 16 = .ok (.ldc2_w 317, 3) := by decide +kernel
theorem dX10_draw_19 : decode cX10_draw 19 = .ok (.ladd, 1) := by decide +kernel
theorem dX10_draw_20 : decode cX10_draw 20 = .ok (.ldc2_w 319, 3) := by decide +kernel
theorem dX10_draw_23 : decode cX10_draw 23 = .ok (.lrem, 1) := by decide +kernel
theorem dX10_draw_24 : decode cX10_draw 24 = .ok (.putfield 81, 3) := by decide +kernel
theorem dX10_draw_27 : decode cX10_draw 27 = .ok (.aload_n 0, 1) := by decide +kernel
theorem dX10_draw_28 : decode cX10_draw 28 = .ok (.getfield 81, 3) := by decide +kernel
theorem dX10_draw_31 : decode cX10_draw 31 = .ok (.ldc2_w 321, 3) := by decide +kernel
theorem dX10_draw_34 : decode cX10_draw 34 = .ok (.ldiv, 1) := by decide +kernel
theorem dX10_draw_35 : decode cX10_draw 35 = .ok (.iload_n 1, 1) := by decide +kernel
theorem dX10_draw_36 : decode cX10_draw 36 = .ok (.i2l, 1) := by decide +kernel
theorem dX10_draw_37 : decode cX10_draw 37 = .ok (.lrem, 1) := by decide +kernel
theorem dX10_draw_38 : decode cX10_draw 38 = .ok (.l2i, 1) := by decide +kernel
theorem dX10_draw_39 : decode cX10_draw 39 = .ok (.ireturn, 1) := by decide +kernel
theorem dX10_mark_0 : decode cX10_mark 0 = .ok (.iload_n 1, 1) := by decide +kernel
theorem dX10_mark_1 : decode cX10_mark 1 = .ok (.ifCond .lt 12, 3) := by decide +kernel
theorem dX10_mark_4 : decode cX10_mark 4 = .ok (.iload_n 1, 1) := by decide +kernel
theorem dX10_mark_5 : decode cX10_mark 5 = .ok (.aload_n 0, 1) := by decide +kernel
theorem dX10_mark_6 : decode cX10_mark 6 = .ok (.getfield 67, 3) := by decide +kernel
theorem dX10_mark_9 : decode cX10_mark 9 = .ok (.arraylength, 1) := by decide +kernel
theorem dX10_mark_10 : decode cX10_mark 10 = .ok (.if_icmp .lt 5, 3) := by decide +kernel
theorem dX10_mark_13 : decode cX10_mark 13 = .ok (.iconst 0, 1) := by decide +kernel
theorem dX10_mark_14 : decode cX10_mark 14 = .ok (.ireturn, 1) := by decide +kernel
theorem dX10_mark_15 : decode cX10_mark 15 = .ok (.aload_n 0, 1) := by decide +kernel
theorem dX10_mark_16 : decode cX10_mark 16 = .ok (.getfield 67, 3) := by decide +kernel
theorem dX10_mark_19 : decode cX10_mark 19 = .ok (.iload_n 1, 1) := by decide +kernel
theorem dX10_mark_20 : decode cX10_mark 20 = .ok (.aaload, 1) := by decide +kernel
theorem dX10_mark_21 : decode cX10_mark 21 = .ok (.astore_n 3, 1) := by decide +kernel
theorem dX10_mark_22 : decode cX10_mark 22 = .ok (.aload_n 3, 1) := by decide +kernel
theorem dX10_mark_23 : decode cX10_mark 23 = .ok (.ifnonnull 5, 3) := by decide +kernel
theorem dX10_mark_26 : decode cX10_mark 26 = .ok (.iconst 0, 1) := by decide +kernel
theorem dX10_mark_27 : decode cX10_mark 27 = .ok (.ireturn, 1) := by decide +kernel
theorem dX10_mark_28 : decode cX10_mark 28 = .ok (.iload_n 2, 1) := by decide +kernel
theorem dX10_mark_29 : decode cX10_mark 29 = .ok (.ifCond .ne 21, 3) := by decide +kernel
theorem dX10_mark_32 : decode cX10_mark 32 = .ok (.aload_n 3, 1) := by decide +kernel
theorem dX10_mark_33 : decode cX10_mark 33 = .ok (.aload_n 0, 1) := by decide +kernel
theorem dX10_mark_34 : decode cX10_mark 34 = .ok (.getfield 39, 3) := by decide +kernel
theorem dX10_mark_37 : decode cX10_mark 37 = .ok (.aload_n 0, 1) := by decide +kernel
theorem dX10_mark_38 : decode cX10_mark 38 = .ok (.getfield 29, 3) := by decide +kernel
theorem dX10_mark_41 : decode cX10_mark 41 = .ok (.aload_n 0, 1) := by decide +kernel
theorem dX10_mark_42 : decode cX10_mark 42 = .ok (.getfield 46, 3) := by decide +kernel
theorem dX10_mark_45 : decode cX10_mark 45 = .ok (.invokevirtual 323, 3) := by decide +kernel
theorem dX10_mark_48 : decode cX10_mark 48 = .ok (.iconst 1, 1) := by decide +kernel
theorem dX10_mark_49 : decode cX10_mark 49 = .ok (.ireturn, 1) := by decide +kernel
theorem dX10_mark_50 : decode cX10_mark 50 = .ok (.aload_n 3, 1) := by decide +kernel
theorem dX10_mark_51 : decode cX10_mark 51 = .ok (.getfield 114, 3) := by decide +kernel
theorem dX10_mark_54 : decode cX10_mark 54 = .ok (.ifCond .ne 5, 3) := by decide +kernel
theorem dX10_mark_57 : decode cX10_mark 57 = .ok (.iconst 0, 1) := by decide +kernel
theorem dX10_mark_58 : decode cX10_mark 58 = .ok (.ireturn, 1) := by decide +kernel
theorem dX10_mark_59 : decode cX10_mark 59 = .ok (.aload_n 0, 1) := by decide +kernel
theorem dX10_mark_60 : decode cX10_mark 60 = .ok (.getfield 39, 3) := by decide +kernel
theorem dX10_mark_63 : decode cX10_mark 63 = .ok (.aload_n 3, 1) := by decide +kernel
theorem dX10_mark_64 : decode cX10_mark 64 = .ok (.getfield 327, 3) := by decide +kernel
theorem dX10_mark_67 : decode cX10_mark 67 = .ok (.invokevirtual 189, 3) := by decide +kernel
theorem dX10_mark_70 : decode cX10_mark 70 = .ok (.aload_n 0, 1) := by decide +kernel
theorem dX10_mark_71 : decode cX10_mark 71 = .ok (.getfield 29, 3) := by decide +kernel
theorem dX10_mark_74 : decode cX10_mark 74 = .ok (.aload_n 3, 1) := by decide +kernel
theorem dX10_mark_75 : decode cX10_mark 75 = .ok (.getfield 328, 3) := by decide +kernel
theorem dX10_mark_78 : decode cX10_mark 78 = .ok (.invokevirtual 329, 3) := by decide +kernel
theorem dX10_mark_81 : decode cX10_mark 81 = .ok (.aload_n 0, 1) := by decide +kernel
theorem dX10_mark_82 : decode cX10_mark 82 = .ok (.getfield 46, 3) := by decide +kernel
theorem dX10_mark_85 : decode cX10_mark 85 = .ok (.aload_n 3, 1) := by decide +kernel
theorem dX10_mark_86 : decode cX10_mark 86 = .ok (.getfield 332, 3) := by decide +kernel
theorem dX10_mark_89 : decode cX10_mark 89 = .ok (.invokevirtual 333, 3) := by decide +kernel
theorem dX10_mark_92 : decode cX10_mark 92 = .ok (.aload_n 0, 1) := by decide +kernel
theorem dX10_mark_93 : decode cX10_mark 93 = .ok (.iconst 0, 1) := by decide +kernel
theorem dX10_mark_94 : decode cX10_mark 94 = .ok (.putfield 61, 3) := by decide +kernel
theorem dX10_mark_97 : decode cX10_mark 97 = .ok (.iconst 1, 1) := by decide +kernel
theorem dX10_mark_98 : decode cX10_mark 98 = .ok (.ireturn, 1) := by decide +kernel
theorem dX10_count_0 : decode cX10_count 0 = .ok (.iload_n 1, 1) := by decide +kernel
theorem dX10_count_1 : decode cX10_count 1 = .ok (.tableswitch 178 0 12 #[67, 75, 83, 91, 99, 107, 115, 123, 131, 146, 154, 162, 167], 67) := by decide +kernel
theorem dX10_count_68 : decode cX10_count 68 = .ok (.aload_n 0, 1) := by decide +kernel
theorem dX10_count_69 : decode cX10_count 69 = .ok (.getfield 19, 3) := by decide +kernel
theorem dX10_count_72 : decode cX10_count 72 = .ok (.getfield 312, 3) := by decide +kernel
theorem dX10_count_75 : decode cX10_count 75 = .ok (.ireturn, 1) := by decide +kernel
theorem dX10_count_76 : decode cX10_count 76 = .ok (.aload_n 0, 1) := by decide +kernel
theorem dX10_count_77 : decode cX10_count 77 = .ok (.getfield 39, 3) := by decide +kernel
theorem dX10_count_80 : decode cX10_count 80 = .ok (.getfield 142, 3) := by decide +kernel
theorem dX10_count_83 : decode cX10_count 83 = .ok (.ireturn, 1) := by decide +kernel
theorem dX10_count_84 : decode cX10_count 84 = .ok (.aload_n 0, 1) := by decide +kernel
theorem dX10_count_85 : decode cX10_count 85 = .ok (.getfield 19, 3) := by decide +kernel
theorem dX10_count_88 : decode cX10_count 88 = .ok (.getfield 182, 3) := by decide +kernel
theorem dX10_count_91 : decode cX10_count 91 = .ok (.ireturn, 1) := by decide +kernel
theorem dX10_count_92 : decode cX10_count 92 = .ok (.aload_n 0, 1) := by decide +kernel
theorem dX10_count_93 : decode cX10_count 93 = .ok (.getfield 19, 3) := by decide +kernel
theorem dX10_count_96 : decode cX10_count 96 = .ok (.getfield 233, 3) := by decide +kernel
theorem dX10_count_99 : decode cX10_count 99 = .ok (.ireturn, 1) := by decide +kernel
theorem dX10_count_100 : decode cX10_count 100 = .ok (.aload_n 0, 1) := by decide +kernel
theorem dX10_count_101 : decode cX10_count 101 = .ok (.getfield 39, 3) := by decide +kernel
theorem dX10_count_104 : decode cX10_count 104 = .ok (.getfield 175, 3) := by decide +kernel
theorem dX10_count_107 : decode cX10_count 107 = .ok (.ireturn, 1) := by decide +kernel
theorem dX10_count_108 : decode cX10_count 108 = .ok (.aload_n 0, 1) := by decide +kernel
theorem dX10_count_109 : decode cX10_count 109 = .ok (.getfield 39, 3) := by decide +kernel
theorem dX10_count_112 : decode cX10_count 112 = .ok (.getfield 279, 3) := by decide +kernel
theorem dX10_count_115 : decode cX10_count 115 = .ok (.ireturn, 1) := by decide +kernel
theorem dX10_count_116 : decode cX10_count 116 = .ok (.aload_n 0, 1) := by decide +kernel
theorem dX10_count_117 : decode cX10_count 117 = .ok (.getfield 39, 3) := by decide +kernel
theorem dX10_count_120 : decode cX10_count 120 = .ok (.invokevirtual 261, 3) := by decide +kernel
theorem dX10_count_123 : decode cX10_count 123 = .ok (.ireturn, 1) := by decide +kernel
theorem dX10_count_124 : decode cX10_count 124 = .ok (.aload_n 0, 1) := by decide +kernel
theorem dX10_count_125 : decode cX10_count 125 = .ok (.getfield 39, 3) := by decide +kernel
theorem dX10_count_128 : decode cX10_count 128 = .ok (.getfield 139, 3) := by decide +kernel
theorem dX10_count_131 : decode cX10_count 131 = .ok (.ireturn, 1) := by decide +kernel
theorem dX10_count_132 : decode cX10_count 132 = .ok (.aload_n 0, 1) := by decide +kernel
theorem dX10_count_133 : decode cX10_count 133 = .ok (.getfield 19, 3) := by decide +kernel
theorem dX10_count_136 : decode cX10_count 136 = .ok (.aload_n 0, 1) := by decide +kernel
theorem dX10_count_137 : decode cX10_count 137 = .ok (.getfield 39, 3) := by decide +kernel
theorem dX10_count_140 : decode cX10_count 140 = .ok (.getfield 142, 3) := by decide +kernel
theorem dX10_count_143 : decode cX10_count 143 = .ok (.invokevirtual 336, 3) := by decide +kernel
theorem dX10_count_146 : decode cX10_count 146 = .ok (.ireturn, 1) := by decide +kernel
theorem dX10_count_147 : decode cX10_count 147 = .ok (.aload_n 0, 1) := by decide +kernel
theorem dX10_count_148 : decode cX10_count 148 = .ok (.getfield 29, 3) := by decide +kernel
theorem dX10_count_151 : decode cX10_count 151 = .ok (.getfield 193, 3) := by decide +kernel
theorem dX10_count_154 : decode cX10_count 154 = .ok (.ireturn, 1) := by decide +kernel
theorem dX10_count_155 : decode cX10_count 155 = .ok (.aload_n 0, 1) := by decide +kernel
theorem dX10_count_156 : decode cX10_count 156 = .ok (.getfield 46, 3) := by decide +kernel
theorem dX10_count_159 : decode cX10_count 159 = .ok (.getfield 339, 3) := by decide +kernel
theorem dX10_count_162 : decode cX10_count 162 = .ok (.ireturn, 1) := by decide +kernel
theorem dX10_count_163 : decode cX10_count 163 = .ok (.aload_n 0, 1) := by decide +kernel
theorem dX10_count_164 : decode cX10_count 164 = .ok (.getfield 61, 3) := by decide +kernel
theorem dX10_count_167 : decode cX10_count 167 = .ok (.ireturn, 1) := by decide +kernel
theorem dX10_count_168 : decode cX10_count 168 = .ok (.aload_n 0, 1) := by decide +kernel
theorem dX10_count_169 : decode cX10_count 169 = .ok (.getfield 10, 3) := by decide +kernel
theorem dX10_count_172 : decode cX10_count 172 = .ok (.getfield 90, 3) := by decide +kernel
theorem dX10_count_175 : decode cX10_count 175 = .ok (.getfield 100, 3) := by decide +kernel
theorem dX10_count_178 : decode cX10_count 178 = .ok (.ireturn, 1) := by decide +kernel
theorem dX10_count_179 : decode cX10_count 179 = .ok (.iconst (-1), 1) := by decide +kernel
theorem dX10_count_180 : decode cX10_count 180 = .ok (.ireturn, 1) := by decide +kernel
theorem dX11_init_0 : decode cX11_init 0 = .ok (.aload_n 0, 1) := by decide +kernel
theorem dX11_init_1 : decode cX11_init 1 = .ok (.invokespecial 1, 3) := by decide +kernel
theorem dX11_init_4 : decode cX11_init 4 = .ok (.aload_n 0, 1) := by decide +kernel
theorem dX11_init_5 : decode cX11_init 5 = .ok (.sipush 1000, 3) := by decide +kernel
theorem dX11_init_8 : decode cX11_init 8 = .ok (.newarray .int, 2) := by decide +kernel
theorem dX11_init_10 : decode cX11_init 10 = .ok (.putfield 7, 3) := by decide +kernel
theorem dX11_init_13 : decode cX11_init 13 = .ok (.aload_n 0, 1) := by decide +kernel
theorem dX11_init_14 : decode cX11_init 14 = .ok (.bipush 8, 2) := by decide +kernel
theorem dX11_init_16 : decode cX11_init 16 = .ok (.newarray .int, 2) := by decide +kernel
theorem dX11_init_18 : decode cX11_init 18 = .ok (.putfield 13, 3) := by decide +kernel
theorem dX11_init_21 : decode cX11_init 21 = .ok (.aload_n 0, 1) := by decide +kernel
theorem dX11_init_22 : decode cX11_init 22 = .ok (.bipush 12, 2) := by decide +kernel
theorem dX11_init_24 : decode cX11_init 24 = .ok (.newarray .long, 2) := by decide +kernel
theorem dX11_init_26 : decode cX11_init 26 = .ok (.putfield 16, 3) := by decide +kernel
theorem dX11_init_29 : decode cX11_init 29 = .ok (.aload_n 0, 1) := by decide +kernel
theorem dX11_init_30 : decode cX11_init 30 = .ok (.bipush 12, 2) := by decide +kernel
theorem dX11_init_32 : decode cX11_init 32 = .ok (.newarray .int, 2) := by decide +kernel
theorem dX11_init_34 : decode cX11_init 34 = .ok (.putfield 20, 3) := by decide +kernel
theorem dX11_init_37 : decode cX11_init 37 = .ok (.aload_n 0, 1) := by decide +kernel
theorem dX11_init_38 : decode cX11_init 38 = .ok (.bipush 12, 2) := by decide +kernel
theorem dX11_init_40 : decode cX11_init 40 = .ok (.newarray .int, 2) := by decide +kernel
theorem dX11_init_42 : decode cX11_init 42 = .ok (.putfield 23, 3) := by decide +kernel
theorem dX11_init_45 : decode cX11_init 45 = .ok (.aload_n 0, 1) := by decide +kernel
theorem dX11_init_46 : decode cX11_init 46 = .ok (.bipush 12, 2) := by decide +kernel
theorem dX11_init_48 : decode cX11_init 48 = .ok (.newarray .int, 2) := by decide +kernel
theorem dX11_init_50 : decode cX11_init 50 = .ok (.putfield 26, 3) := by decide +kernel
theorem dX11_init_53 : decode cX11_init 53 = .ok (.aload_n 0, 1) := by decide +kernel
theorem dX11_init_54 : decode cX11_init 54 = .ok (.iconst 2, 1) := by decide +kernel
theorem dX11_init_55 : decode cX11_init 55 = .ok (.newarray .int, 2) := by decide +kernel
theorem dX11_init_57 : decode cX11_init 57 = .ok (.putfield 29, 3) := by decide +kernel
theorem dX11_init_60 : decode cX11_init 60 = .ok (.aload_n 0, 1) := by decide +kernel
theorem dX11_init_61 : decode cX11_init 61 = .ok (.iconst 2, 1) := by decide +kernel
theorem dX11_init_62 : decode cX11_init 62 = .ok (.newarray .int, 2) := by decide +kernel
theorem dX11_init_64 : decode cX11_init 64 = .ok (.putfield 32, 3) := by decide +kernel
theorem dX11_init_67 : decode cX11_init 67 = .ok (.aload_n 0, 1) := by decide +kernel
theorem dX11_init_68 : decode cX11_init 68 = .ok (.sipush 2000, 3) := by decide +kernel
theorem dX11_init_71 : decode cX11_init 71 = .ok (.newarray .int, 2) := by decide +kernel
theorem dX11_init_73 : decode cX11_init 73 = .ok (.putfield 35, 3) := by decide +kernel
theorem dX11_init_76 : decode cX11_init 76 = .ok (.aload_n 0, 1) := by decide +kernel
theorem dX11_init_77 : decode cX11_init 77 = .ok (.bipush 7, 2) := by decide +kernel
theorem dX11_init_79 : decode cX11_init 79 = .ok (.newarray .int, 2) := by decide +kernel
theorem dX11_init_81 : decode cX11_init 81 = .ok (.putfield 38, 3) := by decide +kernel
theorem dX11_init_84 : decode cX11_init 84 = .ok (.aload_n 0, 1) := by decide +kernel
theorem dX11_init_85 : decode cX11_init 85 = .ok (.bipush 7, 2) := by decide +kernel
theorem dX11_init_87 : decode cX11_init 87 = .ok (.newarray .boolean, 2) := by decide +kernel
theorem dX11_init_89 : decode cX11_init 89 = .ok (.putfield 41, 3) := by decide +kernel
theorem dX11_init_92 : decode cX11_init 92 = .ok (.aload_n 0, 1) := by decide +kernel
theorem dX11_init_93 : decode cX11_init 93 = .ok (.bipush 7, 2) := by decide +kernel
theorem dX11_init_95 : decode cX11_init 95 = .ok (.newarray .int, 2) := by decide +kernel
theorem dX11_init_97 : decode cX11_init 97 = .ok (.putfield 45, 3) := by decide +kernel
theorem dX11_init_100 : decode cX11_init 100 = .ok (.aload_n 0, 1) := by decide +kernel
theorem dX11_init_101 : decode cX11_init 101 = .ok (.bipush 7, 2) := by decide +kernel
theorem dX11_init_103 : decode cX11_init 103 = .ok (.newarray .int, 2) := by decide +kernel
theorem dX11_init_105 : decode cX11_init 105 = .ok (.putfield 48, 3) := by decide +kernel
theorem dX11_init_108 : decode cX11_init 108 = .ok (.aload_n 0, 1) := by decide +kernel
theorem dX11_init_109 : decode cX11_init 109 = .ok (.bipush 7, 2) := by decide +kernel
theorem dX11_init_111 : decode cX11_init 111 = .ok (.newarray .int, 2) := by decide +kernel
theorem dX11_init_113 : decode cX11_init 113 = .ok (.putfield 51, 3) := by decide +kernel
theorem dX11_init_116 : decode cX11_init 116 = .ok (.aload_n 0, 1) := by decide +kernel
theorem dX11_init_117 : decode cX11_init 117 = .ok (.bipush 7, 2) := by decide +kernel
theorem dX11_init_119 : decode cX11_init 119 = .ok (.newarray .int, 2) := by decide +kernel
theorem dX11_init_121 : decode cX11_init 121 = .ok (.putfield 54, 3) := by decide +kernel
theorem dX11_init_124 : decode cX11_init 124 = .ok (.aload_n 0, 1) := by decide +kernel
theorem dX11_init_125 : decode cX11_init 125 = .ok (.bipush 7, 2) := by decide +kernel
theorem dX11_init_127 : decode cX11_init 127 = .ok (.newarray .int, 2) := by decide +kernel
theorem dX11_init_129 : decode cX11_init 129 = .ok (.putfield 57, 3) := by decide +kernel
theorem dX11_init_132 : decode cX11_init 132 = .ok (.aload_n 0, 1) := by decide +kernel
theorem dX11_init_133 : decode cX11_init 133 = .ok (.bipush 7, 2) := by decide +kernel
theorem dX11_init_135 : decode cX11_init 135 = .ok (.newarray .int, 2) := by decide +kernel
theorem dX11_init_137 : decode cX11_init 137 = .ok (.putfield 60, 3) := by decide +kernel
theorem dX11_init_140 : decode cX11_init 140 = .ok (.aload_n 0, 1) := by decide +kernel
theorem dX11_init_141 : decode cX11_init 141 = .ok (.bipush 7, 2) := by decide +kernel
theorem dX11_init_143 : decode cX11_init 143 = .ok (.newarray .int, 2) := by decide +kernel
theorem dX11_init_145 : decode cX11_init 145 = .ok (.putfield 63, 3) := by decide +kernel
theorem dX11_init_148 : decode cX11_init 148 = .ok (.aload_n 0, 1) := by decide +kernel
theorem dX11_init_149 : decode cX11_init 149 = .ok (.bipush 7, 2) := by decide +kernel
theorem dX11_init_151 : decode cX11_init 151 = .ok (.newarray .int, 2) := by decide +kernel
theorem dX11_init_153 : decode cX11_init 153 = .ok (.putfield 66, 3) := by decide +kernel
theorem dX11_init_156 : decode cX11_init 156 = .ok (.aload_n 0, 1) := by decide +kernel
theorem dX11_init_157 : decode cX11_init 157 = .ok (.bipush 7, 2) := by decide +kernel
theorem dX11_init_159 : decode cX11_init 159 = .ok (.newarray .int, 2) := by decide +kernel
theorem dX11_init_161 : decode cX11_init 161 = .ok (.putfield 69, 3) := by decide +kernel
theorem dX11_init_164 : decode cX11_init 164 = .ok (.aload_n 0, 1) := by decide +kernel
theorem dX11_init_165 : decode cX11_init 165 = .ok (.bipush 20, 2) := by decide +kernel
theorem dX11_init_167 : decode cX11_init 167 = .ok (.newarray .int, 2) := by decide +kernel
theorem dX11_init_169 : decode cX11_init 169 = .ok (.putfield 72, 3) := by decide +kernel
theorem dX11_init_172 : decode cX11_init 172 = .ok (.aload_n 0, 1) := by decide +kernel
theorem dX11_init_173 : decode cX11_init 173 = .ok (.bipush 6, 2) := by decide +kernel
theorem dX11_init_175 : decode cX11_init 175 = .ok (.newarray .int, 2) := by decide +kernel
theorem dX11_init_177 : decode cX11_init 177 = .ok (.putfield 75, 3) := by decide +kernel
theorem dX11_init_180 : decode cX11_init 180 = .ok (.aload_n 0, 1) := by decide +kernel
theorem dX11_init_181 : decode cX11_init 181 = .ok (.sipush 240, 3) := by decide +kernel
theorem dX11_init_184 : decode cX11_init 184 = .ok (.newarray .int, 2) := by decide +kernel
theorem dX11_init_186 : decode cX11_init 186 = .ok (.putfield 78, 3) := by decide +kernel
theorem dX11_init_189 : decode cX11_init 189 = .ok (.aload_n 0, 1) := by decide +kernel
theorem dX11_init_190 : decode cX11_init 190 = .ok (.sipush 240, 3) := by decide +kernel
theorem dX11_init_193 : decode cX11_init 193 = .ok (.newarray .int, 2) := by decide +kernel
theorem dX11_init_195 : decode cX11_init 195 = .ok (.putfield 81, 3) := by decide +kernel
theorem dX11_init_198 : decode cX11_init 198 = .ok (.aload_n 0, 1) := by decide +kernel
theorem dX11_init_199 : decode cX11_init 199 = .ok (.iconst 5, 1) := by decide +kernel
theorem dX11_init_200 : decode cX11_init 200 = .ok (.newarray .int, 2) := by decide +kernel
theorem dX11_init_202 : decode cX11_init 202 = .ok (.putfield 84, 3) := by decide +kernel
theorem dX11_init_205 : decode cX11_init 205 = .ok (.aload_n 0, 1) := by decide +kernel
theorem dX11_init_206 : decode cX11_init 206 = .ok (.bipush 40, 2) := by decide +kernel
theorem dX11_init_208 : decode cX11_init 208 = .ok (.newarray .int, 2) := by decide +kernel
theorem dX11_init_210 : decode cX11_init 210 = .ok (.putfield 87, 3) := by decide +kernel
theorem dX11_init_213 : decode cX11_init 213 = .ok (.aload_n 0, 1) := by decide +kernel
theorem dX11_init_214 : decode cX11_init 214 = .ok (.bipush 40, 2) := by decide +kernel
theorem dX11_init_216 : decode cX11_init 216 = .ok (.newarray .boolean, 2) := by decide +kernel
theorem dX11_init_218 : decode cX11_init 218 = .ok (.putfield 90, 3) := by decide +kernel
theorem dX11_init_221 : decode cX11_init 221 = .ok (.aload_n 0, 1) := by decide +kernel
theorem dX11_init_222 : decode cX11_init 222 = .ok (.bipush 22, 2) := by decide +kernel
theorem dX11_init_224 : decode cX11_init 224 = .ok (.newarray .int, 2) := by decide +kernel
theorem dX11_init_226 : decode cX11_init 226 = .ok (.putfield 93, 3) := by decide +kernel
theorem dX11_init_229 : decode cX11_init 229 = .ok (.aload_n 0, 1) := by decide +kernel
theorem dX11_init_230 : decode cX11_init 230 = .ok (.bipush 22, 2) := by decide +kernel
theorem dX11_init_232 : decode cX11_init 232 = .ok (.newarray .int, 2) := by decide +kernel
theorem dX11_init_234 : decode cX11_init 234 = .ok (.putfield 96, 3) := by decide +kernel
theorem dX11_init_237 : decode cX11_init 237 = .ok (.aload_n 0, 1) := by decide +kernel
theorem dX11_init_238 : decode cX11_init 238 = .ok (.bipush 22, 2) := by decide +kernel
theorem dX11_init_240 : decode cX11_init 240 = .ok (.newarray .int, 2) := by decide +kernel
theorem dX11_init_242 : decode cX11_init 242 = .ok (.putfield 99, 3) := by decide +kernel
theorem dX11_init_245 : decode cX11_init 245 = .ok (.aload_n 0, 1) := by decide +kernel
theorem dX11_init_246 : decode cX11_init 246 = .ok (.bipush 88, 2) := by decide +kernel
theorem dX11_init_248 : decode cX11_init 248 = .ok (.newarray .int, 2) := by decide +kernel
theorem dX11_init_250 : decode cX11_init 250 = .ok (.putfield 102, 3) := by decide +kernel
theorem dX11_init_253 : decode cX11_init 253 = .ok (.aload_n 0, 1) := by decide +kernel
theorem dX11_init_254 : decode cX11_init 254 = .ok (.sipush 352, 3) := by decide +kernel
theorem dX11_init_257 : decode cX11_init 257 = .ok (.newarray .int, 2) := by decide +kernel
theorem dX11_init_259 : decode cX11_init 259 = .ok (.putfield 105, 3) := by decide +kernel
theorem dX11_init_262 : decode cX11_init 262 = .ok (.aload_n 0, 1) := by decide +kernel
theorem dX11_init_263 : decode cX11_init 263 = .ok (.iconst 4, 1) := by decide +kernel
theorem dX11_init_264 : decode cX11_init 264 = .ok (.newarray .boolean, 2) := by decide +kernel
theorem dX11_init_266 : decode cX11_init 266 = .ok (.putfield 108, 3) := by decide +kernel
theorem dX11_init_269 : decode cX11_init 269 = .ok (.aload_n 0, 1) := by decide +kernel
theorem dX11_init_270 : decode cX11_init 270 = .ok (.bipush 6, 2) := by decide +kernel
theorem dX11_init_272 : decode cX11_init 272 = .ok (.newarray .int, 2) := by decide +kernel
theorem dX11_init_274 : decode cX11_init 274 = .ok (.putfield 111, 3) := by decide +kernel
theorem dX11_init_277 : decode cX11_init 277 = .ok (.aload_n 0, 1) := by decide +kernel
theorem dX11_init_278 : decode cX11_init 278 = .ok (.bipush 6, 2) := by decide +kernel
theorem dX11_init_280 : decode cX11_init 280 = .ok (.newarray .int, 2) := by decide +kernel
theorem dX11_init_282 : decode cX11_init 282 = .ok (.putfield 114, 3) := by decide +kernel
theorem dX11_init_285 : decode cX11_init 285 = .ok (.aload_n 0, 1) := by decide +kernel
theorem dX11_init_286 : decode cX11_init 286 = .ok (.bipush 10, 2) := by decide +kernel
theorem dX11_init_288 : decode cX11_init 288 = .ok (.putfield 117, 3) := by decide +kernel
theorem dX11_init_291 : decode cX11_init 291 = .ok (.aload_n 0, 1) := by decide +kernel
theorem dX11_init_292 : decode cX11_init 292 = .ok (.bipush 6, 2) := by decide +kernel
theorem dX11_init_294 : decode cX11_init 294 = .ok (.newarray .int, 2) := by decide +kernel
theorem dX11_init_296 : decode cX11_init 296 = .ok (.putfield 121, 3) := by decide +kernel
theorem dX11_init_299 : decode cX11_init 299 = .ok (.aload_n 0, 1) := by decide +kernel
theorem dX11_init_300 : decode cX11_init 300 = .ok (.bipush 6, 2) := by decide +kernel
theorem dX11_init_302 : decode cX11_init 302 = .ok (.newarray .int, 2) := by decide +kernel
theorem dX11_init_304 : decode cX11_init 304 = .ok (.putfield 124, 3) := by decide +kernel
theorem dX11_init_307 : decode cX11_init 307 = .ok (.aload_n 0, 1) := by decide +kernel
theorem dX11_init_308 : decode cX11_init 308 = .ok (.bipush 41, 2) := by decide +kernel
theorem dX11_init_310 : decode cX11_init 310 = .ok (.newarray .int, 2) := by decide +kernel
theorem dX11_init_312 : decode cX11_init 312 = .ok (.putfield 127, 3) := by decide +kernel
theorem dX11_init_315 : decode cX11_init 315 = .ok (.aload_n 0, 1) := by decide +kernel
theorem dX11_init_316 : decode cX11_init 316 = .ok (.iconst 0, 1) := by decide +kernel
theorem dX11_init_317 : decode cX11_init 317 = .ok (.invokevirtual 130, 3) := by decide +kernel
theorem dX11_init_320 : decode cX11_init 320 = .ok (.aload_n 0, 1) := by decide +kernel
theorem dX11_init_321 : decode cX11_init 321 = .ok (.invokevirtual 134, 3) := by decide +kernel
theorem dX11_init_324 : decode cX11_init 324 = .ok (.return_, 1) := by decide +kernel
theorem dX11_thrown_0 : decode cX11_thrown 0 = .ok (.aload_n 0, 1) := by decide +kernel
theorem dX11_thrown_1 : decode cX11_thrown 1 = .ok (.getfield 137, 3) := by decide +kernel
theorem dX11_thrown_4 : decode cX11_thrown 4 = .ok (.ireturn, 1) := by decide +kernel
theorem dX11_within_0 : decode cX11_within 0 = .ok (.iload_n 0, 1) := by decide +kernel
theorem dX11_within_1 : decode cX11_within 1 = .ok (.iload_n 1, 1) := by decide +kernel
theorem dX11_within_2 : decode cX11_within 2 = .ok (.if_icmp .lt 12, 3) := by decide +kernel
theorem dX11_within_5 : decode cX11_within 5 = .ok (.iload_n 0, 1) := by decide +kernel
theorem dX11_within_6 : decode cX11_within 6 = .ok (.iload_n 2, 1) := by decide +kernel
theorem dX11_within_7 : decode cX11_within 7 = .ok (.if_icmp .gt 7, 3) := by decide +kernel
theorem dX11_within_10 : decode cX11_within 10 = .ok (.iconst 1, 1) := by decide +kernel
theorem dX11_within_11 : decode cX11_within 11 = .ok (.goto 4, 3) := by decide +kernel
theorem dX11_within_14 : decode cX11_within 14 = .ok (.iconst 0, 1) := by decide +kernel
theorem dX11_within_15 : decode cX11_within 15 = .ok (.ireturn, 1) := by decide +kernel
theorem dX11_bits_0 : decode cX11_bits 0 = .ok (.iconst 0, 1) := by decide +kernel
theorem dX11_bits_1 : decode cX11_bits 1 = .ok (.istore_n 1, 1) := by decide +kernel
theorem dX11_bits_2 : decode cX11_bits 2 = .ok (.iconst 0, 1) := by decide +kernel
theorem dX11_bits_3 : decode cX11_bits 3 = .ok (.istore_n 2, 1) := by decide +kernel
theorem dX11_bits_4 : decode cX11_bits 4 = .ok (.iload_n 2, 1) := by decide +kernel
theorem dX11_bits_5 : decode cX11_bits 5 = .ok (.bipush 6, 2) := by decide +kernel
theorem dX11_bits_7 : decode cX11_bits 7 = .ok (.if_icmp .ge 17, 3) := by decide +kernel
theorem dX11_bits_10 : decode cX11_bits 10 = .ok (.iload_n 1, 1) := by decide +kernel
theorem dX11_bits_11 : decode cX11_bits 11 = .ok (.iload_n 0, 1) := by decide +kernel
theorem dX11_bits_12 : decode cX11_bits 12 = .ok (.iload_n 2, 1) := by decide +kernel
theorem dX11_bits_13 : decode cX11_bits 13 = .ok (.ishr, 1) := by decide +kernel
theorem dX11_bits_14 : decode cX11_bits 14 = .ok (.iconst 1, 1) := by decide +kernel
theorem dX11_bits_15 : decode cX11_bits 15 = .ok (.iand, 1) := by decide +kernel
theorem dX11_bits_16 : decode cX11_bits 16 = .ok (.iadd, 1) := by decide +kernel
theorem dX11_bits_17 : decode cX11_bits 17 = .ok (.istore_n 1, 1) := by decide +kernel
theorem dX11_bits_18 : decode cX11_bits 18 = .ok (.iinc 2 1, 3) := by decide +kernel
theorem dX11_bits_21 : decode cX11_bits 21 = .ok (.goto (-17), 3) := by decide +kernel
theorem dX11_bits_24 : decode cX11_bits 24 = .ok (.iload_n 1, 1) := by decide +kernel
theorem dX11_bits_25 : decode cX11_bits 25 = .ok (.ireturn, 1) := by decide +kernel
theorem dX11_feed_0 : decode cX11_feed 0 = .ok (.aload_n 0, 1) := by decide +kernel
theorem dX11_feed_1 : decode cX11_feed 1 = .ok (.iconst 0, 1) := by decide +kernel
theorem dX11_feed_2 : decode cX11_feed 2 = .ok (.putfield 137, 3) := by decide +kernel
theorem dX11_feed_5 : decode cX11_feed 5 = .ok (.iconst 0, 1) := by decide +kernel
theorem dX11_feed_6 : decode cX11_feed 6 = .ok (.istore 7, 2) := by decide +kernel
theorem dX11_feed_8 : decode cX11_feed 8 = .ok (.iload 7, 2) := by decide +kernel
theorem dX11_feed_10 : decode cX11_feed 10 = .ok (.bipush 24, 2) := by decide +kernel
theorem dX11_feed_12 : decode cX11_feed 12 = .ok (.if_icmp .ge 108, 3) := by decide +kernel
theorem dX11_feed_15 : decode cX11_feed 15 = .ok (.iload 7, 2) := by decide +kernel
theorem dX11_feed_17 : decode cX11_feed 17 = .ok (.bipush 8, 2) := by decide +kernel
theorem dX11_feed_19 : decode cX11_feed 19 = .ok (.if_icmp .ge 7, 3) := by decide +kernel
theorem dX11_feed_22 : decode cX11_feed 22 = .ok (.lload_n 1, 1) := by decide +kernel
theorem dX11_feed_23 : decode cX11_feed 23 = .ok (.goto 16, 3) := by decide +kernel
theorem dX11_feed_26 : decode cX11_feed 26 = .ok (.iload 7, 2) := by decide +kernel
theorem dX11_feed_28 : decode cX11_feed 28 = .ok (.bipush 16, 2) := by decide +kernel
theorem dX11_feed_30 : decode cX11_feed 30 = .ok (.if_icmp .ge 7, 3) := by decide +kernel
theorem dX11_feed_33 : decode cX11_feed 33 = .ok (.lload_n 3, 1) := by decide +kernel
theorem dX11_feed_34 : decode cX11_feed 34 = .ok (.goto 5, 3) := by decide +kernel
theorem dX11_feed_37 : decode cX11_feed 37 = .ok (.lload 5, 2) := by decide +kernel
theorem dX11_feed_39 : decode cX11_feed 39 = .ok (.lstore 8, 2) := by decide +kernel
theorem dX11_feed_41 : decode cX11_feed 41 = .ok (.lload 8, 2) := by decide +kernel
theorem dX11_feed_43 : decode cX11_feed 43 = .ok (.bipush 56, 2) := by decide +kernel
theorem dX11_feed_45 : decode cX11_feed 45 = .ok (.bipush 8, 2) := by decide +kernel
theorem dX11_feed_47 : decode cX11_feed 47 = .ok (.iload 7, 2) := by decide +kernel
theorem dX11_feed_49 : decode cX11_feed 49 = .ok (.bipush 7, 2) := by decide +kernel
theorem dX11_feed_51 : decode cX11_feed 51 = .ok (.iand, 1) := by decide +kernel
theorem dX11_feed_52 : decode cX11_feed 52 = .ok (.imul, 1) := by decide +kernel
theorem dX11_feed_53 : decode cX11_feed 53 = .ok (.isub, 1) := by decide +kernel
theorem dX11_feed_54 : decode cX11_feed 54 = .ok (.lushr, 1) := by decide +kernel
theorem dX11_feed_55 : decode cX11_feed 55 = .ok (.ldc2_w 140, 3) := by decide +kernel
theorem dX11_feed_58 : decode cX11_feed 58 = .ok (.land, 1) := by decide +kernel
theorem dX11_feed_59 : decode cX11_feed 59 = .ok (.l2i, 1) := by decide +kernel
theorem dX11_feed_60 : decode cX11_feed 60 = .ok (.istore 10, 2) := by decide +kernel
theorem dX11_feed_62 : decode cX11_feed 62 = .ok (.aload_n 0, 1) := by decide +kernel
theorem dX11_feed_63 : decode cX11_feed 63 = .ok (.getfield 142, 3) := by decide +kernel
theorem dX11_feed_66 : decode cX11_feed 66 = .ok (.sipush 1000, 3) := by decide +kernel
theorem dX11_feed_69 : decode cX11_feed 69 = .ok (.if_icmp .ge 45, 3) := by decide +kernel
theorem dX11_feed_72 : decode cX11_feed 72 = .ok (.iload 10, 2) := by decide +kernel
theorem dX11_feed_74 : decode cX11_feed 74 = .ok (.bipush 10, 2) := by decide +kernel
theorem dX11_feed_76 : decode cX11_feed 76 = .ok (.if_icmp .eq 17, 3) := by decide +kernel
theorem dX11_feed_79 : decode cX11_feed 79 = .ok (.iload 10, 2) := by decide +kernel
theorem dX11_feed_81 : decode cX11_feed 81 = .ok (.bipush 32, 2) := by decide +kernel
theorem dX11_feed_83 : decode cX11_feed 83 = .ok (.if_icmp .lt 31, 3) := by decide +kernel
theorem dX11_feed_86 : decode cX11_feed 86 = .ok (.iload 10, 2) := by decide +kernel
theorem dX11_feed_88 : decode cX11_feed 88 = .ok (.bipush 126, 2) := by decide +kernel
theorem dX11_feed_90 : decode cX11_feed 90 = .ok (.if_icmp .gt 24, 3) := by decide +kernel
theorem dX11_feed_93 : decode cX11_feed 93 = .ok (.aload_n 0, 1) := by decide +kernel
theorem dX11_feed_94 : decode cX11_feed 94 = .ok (.getfield 7, 3) := by decide +kernel
theorem dX11_feed_97 : decode cX11_feed 97 = .ok (.aload_n 0, 1) := by decide +kernel
theorem dX11_feed_98 : decode cX11_feed 98 = .ok (.getfield 142, 3) := by decide +kernel
theorem dX11_feed_101 : decode cX11_feed 101 = .ok (.iload 10, 2) := by decide +kernel
theorem dX11_feed_103 : decode cX11_feed 103 = .ok (.iastore, 1) := by decide +kernel
theorem dX11_feed_104 : decode cX11_feed 104 = .ok (.aload_n 0, 1) := by decide +kernel
theorem dX11_feed_105 : decode cX11_feed 105 = .ok (.dup, 1) := by decide +kernel
theorem dX11_feed_106 : decode cX11_feed 106 = .ok (.getfield 142, 3) := by decide +kernel
theorem dX11_feed_109 : decode cX11_feed 109 = .ok (.iconst 1, 1) := by decide +kernel
theorem dX11_feed_110 : decode cX11_feed 110 = .ok (.iadd, 1) := by decide +kernel
theorem dX11_feed_111 : decode cX11_feed 111 = .ok (.putfield 142, 3) := by decide +kernel
theorem dX11_feed_114 : decode cX11_feed 114 = .ok (.iinc 7 1, 3) := by decide +kernel
theorem dX11_feed_117 : decode cX11_feed 117 = .ok (.goto (-109), 3) := by decide +kernel
theorem dX11_feed_120 : decode cX11_feed 120 = .ok (.aload_n 0, 1) := by decide +kernel
theorem dX11_feed_121 : decode cX11_feed 121 = .ok (.getfield 142, 3) := by decide +kernel
theorem dX11_feed_124 : decode cX11_feed 124 = .ok (.ireturn, 1) := by decide +kernel
theorem dX11_signAt_0 : decode cX11_signAt 0 = .ok (.iload_n 1, 1) := by decide +kernel
theorem dX11_signAt_1 : decode cX11_signAt 1 = .ok (.aload_n 0, 1) := by decide +kernel
theorem dX11_signAt_2 : decode cX11_signAt 2 = .ok (.getfield 145, 3) := by decide +kernel
theorem dX11_signAt_5 : decode cX11_signAt 5 = .ok (.if_icmp .ge 12, 3) := by decide +kernel
theorem dX11_signAt_8 : decode cX11_signAt 8 = .ok (.aload_n 0, 1) := by decide +kernel
theorem dX11_signAt_9 : decode cX11_signAt 9 = .ok (.getfield 7, 3) := by decide +kernel
theorem dX11_signAt_12 : decode cX11_signAt 12 = .ok (.iload_n 1, 1) := by decide +kernel
theorem dX11_signAt_13 : decode cX11_signAt 13 = .ok (.iaload, 1) := by decide +kernel
theorem dX11_signAt_14 : decode cX11_signAt 14 = .ok (.goto 4, 3) := by decide +kernel
theorem dX11_signAt_17 : decode cX11_signAt 17 = .ok (.iconst 0, 1) := by decide +kernel
theorem dX11_signAt_18 : decode cX11_signAt 18 = .ok (.ireturn, 1) := by decide +kernel
theorem dX11_nextToken_0 : decode cX11_nextToken 0 = .ok (.aload_n 0, 1) := by decide +kernel
theorem dX11_nextToken_1 : decode cX11_nextToken 1 = .ok (.getfield 148, 3) := by decide +kernel
theorem dX11_nextToken_4 : decode cX11_nextToken 4 = .ok (.aload_n 0, 1) := by decide +kernel
theorem dX11_nextToken_5 : decode cX11_nextToken 5 = .ok (.getfield 145, 3) := by decide +kernel
theorem dX11_nextToken_8 : decode cX11_nextToken 8 = .ok (.if_icmp .ge 44, 3) := by decide +kernel
theorem dX11_nextToken_11 : decode cX11_nextToken 11 = .ok (.aload_n 0, 1) := by decide +kernel
theorem dX11_nextToken_12 : decode cX11_nextToken 12 = .ok (.getfield 7, 3) := by decide +kernel
theorem dX11_nextToken_15 : decode cX11_nextToken 15 = .ok (.aload_n 0, 1) := by decide +kernel
theorem dX11_nextToken_16 : decode cX11_nextToken 16 = .ok (.getfield 148, 3) := by decide +kernel
theorem dX11_nextToken_19 : decode cX11_nextToken 19 = .ok (.iaload, 1) := by decide +kernel
theorem dX11_nextToken_20 : decode cX11_nextToken 20 = .ok (.bipush 32, 2) := by decide +kernel
theorem dX11_nextToken_22 : decode cX11_nextToken 22 = .ok (.if_icmp .eq 17, 3) := by decide +kernel
theorem dX11_nextToken_25 : decode cX11_nextToken 25 = .ok (.aload_n 0, 1) := by decide +kernel
theorem dX11_nextToken_26 : decode cX11_nextToken 26 = .ok (.getfield 7, 3) := by decide +kernel
theorem dX11_nextToken_29 : decode cX11_nextToken 29 = .ok (.aload_n 0, 1) := by decide +kernel
theorem dX11_nextToken_30 : decode cX11_nextToken 30 = .ok (.getfield 148, 3) := by decide +kernel
theorem dX11_nextToken_33 : decode cX11_nextToken 33 = .ok (.iaload, 1) := by decide +kernel
theorem dX11_nextToken_34 : decode cX11_nextToken 34 = .ok (.bipush 10, 2) := by decide +kernel
theorem dX11_nextToken_36 : decode cX11_nextToken 36 = .ok (.if_icmp .ne 16, 3) := by decide +kernel
theorem dX11_nextToken_39 : decode cX11_nextToken 39 = .ok (.aload_n 0, 1) := by decide +kernel
theorem dX11_nextToken_40 : decode cX11_nextToken 40 = .ok (.dup, 1) := by decide +kernel
theorem dX11_nextToken_41 : decode cX11_nextToken 41 = .ok (.getfield 148, 3) := by decide +kernel
theorem dX11_nextToken_44 : decode cX11_nextToken 44 = .ok (.iconst 1, 1) := by decide +kernel
theorem dX11_nextToken_45 : decode cX11_nextToken 45 = .ok (.iadd, 1) := by decide +kernel
theorem dX11_nextToken_46 : decode cX11_nextToken 46 = .ok (.putfield 148, 3) := by decide +kernel
theorem dX11_nextToken_49 : decode cX11_nextToken 49 = .ok (.goto (-49), 3) := by decide +kernel
theorem dX11_nextToken_52 : decode cX11_nextToken 52 = .ok (.aload_n 0, 1) := by decide +kernel
theorem dX11_nextToken_53 : decode cX11_nextToken 53 = .ok (.aload_n 0, 1) := by decide +kernel
theorem dX11_nextToken_54 : decode cX11_nextToken 54 = .ok (.getfield 148, 3) := by decide +kernel
theorem dX11_nextToken_57 : decode cX11_nextToken 57 = .ok (.putfield 151, 3) := by decide +kernel
theorem dX11_nextToken_60 : decode cX11_nextToken 60 = .ok (.aload_n 0, 1) := by decide +kernel
theorem dX11_nextToken_61 : decode cX11_nextToken 61 = .ok (.lconst 0, 1) := by decide +kernel
theorem dX11_nextToken_62 : decode cX11_nextToken 62 = .ok (.putfield 154, 3) := by decide +kernel
theorem dX11_nextToken_65 : decode cX11_nextToken 65 = .ok (.aload_n 0, 1) := by decide +kernel
theorem dX11_nextToken_66 : decode cX11_nextToken 66 = .ok (.iconst 0, 1) := by decide +kernel
theorem dX11_nextToken_67 : decode cX11_nextToken 67 = .ok (.putfield 158, 3) := by decide +kernel
theorem dX11_nextToken_70 : decode cX11_nextToken 70 = .ok (.aload_n 0, 1) := by decide +kernel
theorem dX11_nextToken_71 : decode cX11_nextToken 71 = .ok (.getfield 148, 3) := by decide +kernel
theorem dX11_nextToken_74 : decode cX11_nextToken 74 = .ok (.aload_n 0, 1) := by decide +kernel
theorem dX11_nextToken_75 : decode cX11_nextToken 75 = .ok (.getfield 145, 3) := by decide +kernel
theorem dX11_nextToken_78 : decode cX11_nextToken 78 = .ok (.if_icmp .ne 9, 3) := by decide +kernel
theorem dX11_nextToken_81 : decode cX11_nextToken 81 = .ok (.aload_n 0, 1) := by decide +kernel
theorem dX11_nextToken_82 : decode cX11_nextToken 82 = .ok (.iconst 0, 1) := by decide +kernel
theorem dX11_nextToken_83 : decode cX11_nextToken 83 = .ok (.putfield 161, 3) := by decide +kernel
theorem dX11_nextToken_86 : decode cX11_nextToken 86 = .ok (.return_, 1) := by decide +kernel
theorem dX11_nextToken_87 : decode cX11_nextToken 87 = .ok (.aload_n 0, 1) := by decide +kernel
theorem dX11_nextToken_88 : decode cX11_nextToken 88 = .ok (.getfield 7, 3) := by decide +kernel
theorem dX11_nextToken_91 : decode cX11_nextToken 91 = .ok (.aload_n 0, 1) := by decide +kernel
theorem dX11_nextToken_92 : decode cX11_nextToken 92 = .ok (.getfield 148, 3) := by decide +kernel
theorem dX11_nextToken_95 : decode cX11_nextToken 95 = .ok (.iaload, 1) := by decide +kernel
theorem dX11_nextToken_96 : decode cX11_nextToken 96 = .ok (.istore_n 1, 1) := by decide +kernel
theorem dX11_nextToken_97 : decode cX11_nextToken 97 = .ok (.iload_n 1, 1) := by decide +kernel
theorem dX11_nextToken_98 : decode cX11_nextToken 98 = .ok (.bipush 97, 2) := by decide +kernel
theorem dX11_nextToken_100 : decode cX11_nextToken 100 = .ok (.if_icmp .lt 112, 3) := by decide +kernel
theorem dX11_nextToken_103 : decode cX11_nextToken 103 = .ok (.iload_n 1, 1) := by decide +kernel
theorem dX11_nextToken_104 : decode cX11_nextToken 104 = .ok (.bipush 122, 2) := by decide +kernel
theorem dX11_nextToken_106 : decode cX11_nextToken 106 = .ok (.if_icmp .gt 106, 3) := by decide +kernel
theorem dX11_nextToken_109 : decode cX11_nextToken 109 = .ok (.aload_n 0, 1) := by decide +kernel
theorem dX11_nextToken_110 : decode cX11_nextToken 110 = .ok (.aload_n 0, 1) := by decide +kernel
theorem dX11_nextToken_111 : decode cX11_nextToken 111 = .ok (.getfield 148, 3) := by decide +kernel
theorem dX11_nextToken_114 : decode cX11_nextToken 114 = .ok (.invokevirtual 164, 3) := by decide +kernel
theorem dX11_nextToken_117 : decode cX11_nextToken 117 = .ok (.bipush 97, 2) := by decide +kernel
theorem dX11_nextToken_119 : decode cX11_nextToken 119 = .ok (.if_icmp .lt 69, 3) := by decide +kernel
theorem dX11_nextToken_122 : decode cX11_nextToken 122 = .ok (.aload_n 0, 1) := by decide +kernel
theorem dX11_nextToken_123 : decode cX11_nextToken 123 = .ok (.aload_n 0, 1) := by decide +kernel
theorem dX11_nextToken_124 : decode cX11_nextToken 124 = .ok (.getfield 148, 3) := by decide +kernel
theorem dX11_nextToken_127 : decode cX11_nextToken 127 = .ok (.invokevirtual 164, 3) := by decide +kernel
theorem dX11_nextToken_130 : decode cX11_nextToken 130 = .ok (.bipush 122, 2) := by decide +kernel
theorem dX11_nextToken_132 : decode cX11_nextToken 132 = .ok (.if_icmp .gt 56, 3) := by decide +kernel
theorem dX11_nextToken_135 : decode cX11_nextToken 135 = .ok (.aload_n 0, 1) := by decide +kernel
theorem dX11_nextToken_136 : decode cX11_nextToken 136 = .ok (.getfield 148, 3) := by decide +kernel
theorem dX11_nextToken_139 : decode cX11_nextToken 139 = .ok (.aload_n 0, 1) := by decide +kernel
theorem dX11_nextToken_140 : decode cX11_nextToken 140 = .ok (.getfield 151, 3) := by decide +kernel
theorem dX11_nextToken_143 : decode cX11_nextToken 143 = .ok (.isub, 1) := by decide +kernel
theorem dX11_nextToken_144 : decode cX11_nextToken 144 = .ok (.bipush 8, 2) := by decide +kernel
theorem dX11_nextToken_146 : decode cX11_nextToken 146 = .ok (.if_icmp .ge 29, 3) := by decide +kernel
theorem dX11_nextToken_149 : decode cX11_nextToken 149 = .ok (.aload_n 0, 1) := by decide +kernel
theorem dX11_nextToken_150 : decode cX11_nextToken 150 = .ok (.aload_n 0, 1) := by decide +kernel
theorem dX11_nextToken_151 : decode cX11_nextToken 151 = .ok (.getfield 154, 3) := by decide +kernel
theorem dX11_nextToken_154 : decode cX11_nextToken 154 = .ok (.ldc2_w 168, 3) := by decide +kernel
theorem dX11_nextToken_157 : decode cX11_nextToken 157 = .ok (.lmul, 1) := by decide +kernel
theorem dX11_nextToken_158 : decode cX11_nextToken 158 = .ok (.aload_n 0, 1) := by decide +kernel
theorem dX11_nextToken_159 : decode cX11_nextToken 159 = .ok (.aload_n 0, 1) := by decide +kernel
theorem dX11_nextToken_160 : decode cX11_nextToken 160 = .ok (.getfield 148, 3) := by decide +kernel
theorem dX11_nextToken_163 : decode cX11_nextToken 163 = .ok (.invokevirtual 164, 3) := by decide +kernel
theorem dX11_nextToken_166 : decode cX11_nextToken 166 = .ok (.i2l, 1) := by decide +kernel
theorem dX11_nextToken_167 : decode cX11_nextToken 167 = .ok (.ladd, 1) := by decide +kernel
theorem dX11_nextToken_168 : decode cX11_nextToken 168 = .ok (.ldc2_w 170, 3) := by decide +kernel
theorem dX11_nextToken_171 : decode cX11_nextToken 171 = .ok (.lsub, 1) := by decide +kernel
theorem dX11_nextToken_172 : decode cX11_nextToken 172 = .ok (.putfield 154, 3) := by decide +kernel
theorem dX11_nextToken_175 : decode cX11_nextToken 175 = .ok (.aload_n 0, 1) := by decide +kernel
theorem dX11_nextToken_176 : decode cX11_nextToken 176 = .ok (.dup, 1) := by decide +kernel
theorem dX11_nextToken_177 : decode cX11_nextToken 177 = .ok (.getfield 148, 3) := by decide +kernel
theorem dX11_nextToken_180 : decode cX11_nextToken 180 = .ok (.iconst 1, 1) := by decide +kernel
theorem dX11_nextToken_181 : decode cX11_nextToken 181 = .ok (.iadd, 1) := by decide +kernel
theorem dX11_nextToken_182 : decode cX11_nextToken 182 = .ok (.putfield 148, 3) := by decide +kernel
theorem dX11_nextToken_185 : decode cX11_nextToken 185 = .ok (.goto (-76), 3) := by decide +kernel
theorem dX11_nextToken_188 : decode cX11_nextToken 188 = .ok (.aload_n 0, 1) := by decide +kernel
theorem dX11_nextToken_189 : decode cX11_nextToken 189 = .ok (.aload_n 0, 1) := by decide +kernel
theorem dX11_nextToken_190 : decode cX11_nextToken 190 = .ok (.getfield 148, 3) := by decide +kernel
theorem dX11_nextToken_193 : decode cX11_nextToken 193 = .ok (.aload_n 0, 1) := by decide +kernel
theorem dX11_nextToken_194 : decode cX11_nextToken 194 = .ok (.getfield 151, 3) := by decide +kernel
theorem dX11_nextToken_197 : decode cX11_nextToken 197 = .ok (.isub, 1) := by decide +kernel
theorem dX11_nextToken_198 : decode cX11_nextToken 198 = .ok (.bipush 8, 2) := by decide +kernel
theorem dX11_nextToken_200 : decode cX11_nextToken 200 = .ok (.if_icmp .le 7, 3) := by decide +kernel
theorem dX11_nextToken_203 : decode cX11_nextToken 203 = .ok (.iconst 4, 1) := by decide +kernel
theorem dX11_nextToken_204 : decode cX11_nextToken 204 = .ok (.goto 4, 3) := by decide +kernel
theorem dX11_nextToken_207 : decode cX11_nextToken 207 = .ok (.iconst 1, 1) := by decide +kernel
theorem dX11_nextToken_208 : decode cX11_nextToken 208 = .ok (.putfield 161, 3) := by decide +kernel
theorem dX11_nextToken_211 : decode cX11_nextToken 211 = .ok (.return_, 1) := by decide +kernel
theorem dX11_nextToken_212 : decode cX11_nextToken 212 = .ok (.iload_n 1, 1) := by decide +kernel
theorem dX11_nextToken_213 : decode cX11_nextToken 213 = .ok (.bipush 48, 2) := by decide +kernel
theorem dX11_nextToken_215 : decode cX11_nextToken 215 = .ok (.if_icmp .lt 107, 3) := by decide +kernel
theorem dX11_nextToken_218 : decode cX11_nextToken 218 = .ok (.iload_n 1, 1) := by decide +kernel
theorem dX11_nextToken_219 : decode cX11_nextToken 219 = .ok (.bipush 57, 2) := by decide +kernel
theorem dX11_nextToken_221 : decode cX11_nextToken 221 = .ok (.if_icmp .gt 101, 3) := by decide +kernel
theorem dX11_nextToken_224 : decode cX11_nextToken 224 = .ok (.aload_n 0, 1) := by decide +kernel
theorem dX11_nextToken_225 : decode cX11_nextToken 225 = .ok (.aload_n 0, 1) := by decide +kernel
theorem dX11_nextToken_226 : decode cX11_nextToken 226 = .ok (.getfield 148, 3) := by decide +kernel
theorem dX11_nextToken_229 : decode cX11_nextToken 229 = .ok (.invokevirtual 164, 3) := by decide +kernel
theorem dX11_nextToken_232 : decode cX11_nextToken 232 = .ok (.bipush 48, 2) := by decide +kernel
theorem dX11_nextToken_234 : decode cX11_nextToken 234 = .ok (.if_icmp .lt 65, 3) := by decide +kernel
theorem dX11_nextToken_237 : decode cX11_nextToken 237 = .ok (.aload_n 0, 1) := by decide +kernel
theorem dX11_nextToken_238 : decode cX11_nextToken 238 = .ok (.aload_n 0, 1) := by decide +kernel
theorem dX11_nextToken_239 : decode cX11_nextToken 239 = .ok (.getfield 148, 3) := by decide +kernel
theorem dX11_nextToken_242 : decode cX11_nextToken 242 = .ok (.invokevirtual 164, 3) := by decide +kernel
theorem dX11_nextToken_245 : decode cX11_nextToken 245 = .ok (.bipush 57, 2) := by decide +kernel
theorem dX11_nextToken_247 : decode cX11_nextToken 247 = .ok (.if_icmp .gt 52, 3) := by decide +kernel
theorem dX11_nextToken_250 : decode cX11_nextToken 250 = .ok (.aload_n 0, 1) := by decide +kernel
theorem dX11_nextToken_251 : decode cX11_nextToken 251 = .ok (.getfield 148, 3) := by decide +kernel
theorem dX11_nextToken_254 : decode cX11_nextToken 254 = .ok (.aload_n 0, 1) := by decide +kernel
theorem dX11_nextToken_255 : decode cX11_nextToken 255 = .ok (.getfield 151, 3) := by decide +kernel
theorem dX11_nextToken_258 : decode cX11_nextToken 258 = .ok (.isub, 1) := by decide +kernel
theorem dX11_nextToken_259 : decode cX11_nextToken 259 = .ok (.iconst 4, 1) := by decide +kernel
theorem dX11_nextToken_260 : decode cX11_nextToken 260 = .ok (.if_icmp .ge 26, 3) := by decide +kernel
theorem dX11_nextToken_263 : decode cX11_nextToken 263 = .ok (.aload_n 0, 1) := by decide +kernel
theorem dX11_nextToken_264 : decode cX11_nextToken 264 = .ok (.aload_n 0, 1) := by decide +kernel
theorem dX11_nextToken_265 : decode cX11_nextToken 265 = .ok (.getfield 158, 3) := by decide +kernel
theorem dX11_nextToken_268 : decode cX11_nextToken 268 = .ok (.bipush 10, 2) := by decide +kernel
theorem dX11_nextToken_270 : decode cX11_nextToken 270 = .ok (.imul, 1) := by decide +kernel
theorem dX11_nextToken_271 : decode cX11_nextToken 271 = .ok (.aload_n 0, 1) := by decide +kernel
theorem dX11_nextToken_272 : decode cX11_nextToken 272 = .ok (.aload_n 0, 1) := by decide +kernel
theorem dX11_nextToken_273 : decode cX11_nextToken 273 = .ok (.getfield 148, 3) := by decide +kernel
theorem dX11_nextToken_276 : decode cX11_nextToken 276 = .ok (.invokevirtual 164, 3) := by decide +kernel
theorem dX11_nextToken_279 : decode cX11_nextToken 279 = .ok (.iadd, 1) := by decide +kernel
theorem dX11_nextToken_280 : decode cX11_nextToken 280 = .ok (.bipush 48, 2) := by decide +kernel
theorem dX11_nextToken_282 : decode cX11_nextToken 282 = .ok (.isub, 1) := by decide +kernel
theorem dX11_nextToken_283 : decode cX11_nextToken 283 = .ok (.putfield 158, 3) := by decide +kernel
theorem dX11_nextToken_286 : decode cX11_nextToken 286 = .ok (.aload_n 0, 1) := by decide +kernel
theorem dX11_nextToken_287 : decode cX11_nextToken 287 = .ok (.dup, 1) := by decide +kernel
theorem dX11_nextToken_288 : decode cX11_nextToken 288 = .ok (.getfield 148, 3) := by decide +kernel
theorem dX11_nextToken_291 : decode cX11_nextToken 291 = .ok (.iconst 1, 1) := by decide +kernel
theorem dX11_nextToken_292 : decode cX11_nextToken 292 = .ok (.iadd, 1) := by decide +kernel
theorem dX11_nextToken_293 : decode cX11_nextToken 293 = .ok (.putfield 148, 3) := by decide +kernel
theorem dX11_nextToken_296 : decode cX11_nextToken 296 = .ok (.goto (-72), 3) := by decide +kernel
theorem dX11_nextToken_299 : decode cX11_nextToken 299 = .ok (.aload_n 0, 1) := by decide +kernel
theorem dX11_nextToken_300 : decode cX11_nextToken 300 = .ok (.aload_n 0, 1) := by decide +kernel
theorem dX11_nextToken_301 : decode cX11_nextToken 301 = .ok (.getfield 148, 3) := by decide +kernel
theorem dX11_nextToken_304 : decode cX11_nextToken 304 = .ok (.aload_n 0, 1) := by decide +kernel
theorem dX11_nextToken_305 : decode cX11_nextToken 305 = .ok (.getfield 151, 3) := by decide +kernel
theorem dX11_nextToken_308 : decode cX11_nextToken 308 = .ok (.isub, 1) := by decide +kernel
theorem dX11_nextToken_309 : decode cX11_nextToken 309 = .ok (.iconst 4, 1) := by decide +kernel
theorem dX11_nextToken_310 : decode cX11_nextToken 310 = .ok (.if_icmp .le 7, 3) := by decide +kernel
theorem dX11_nextToken_313 : decode cX11_nextToken 313 = .ok (.iconst 4, 1) := by decide +kernel
theorem dX11_nextToken_314 : decode cX11_nextToken 314 = .ok (.goto 4, 3) := by decide +kernel
theorem dX11_nextToken_317 : decode cX11_nextToken 317 = .ok (.iconst 2, 1) := by decide +kernel
theorem dX11_nextToken_318 : decode cX11_nextToken 318 = .ok (.putfield 161, 3) := by decide +kernel
theorem dX11_nextToken_321 : decode cX11_nextToken 321 = .ok (.return_, 1) := by decide +kernel
theorem dX11_nextToken_322 : decode cX11_nextToken 322 = .ok (.aload_n 0, 1) := by decide +kernel
theorem dX11_nextToken_323 : decode cX11_nextToken 323 = .ok (.dup, 1) := by decide +kernel
theorem dX11_nextToken_324 : decode cX11_nextToken 324 = .ok (.getfield 148, 3) := by decide +kernel
theorem dX11_nextToken_327 : decode cX11_nextToken 327 = .ok (.iconst 1, 1) := by decide +kernel
theorem dX11_nextToken_328 : decode cX11_nextToken 328 = .ok (.iadd, 1) := by decide +kernel
theorem dX11_nextToken_329 : decode cX11_nextToken 329 = .ok (.putfield 148, 3) := by decide +kernel
theorem dX11_nextToken_332 : decode cX11_nextToken 332 = .ok (.aload_n 0, 1) := by decide +kernel
theorem dX11_nextToken_333 : decode cX11_nextToken 333 = .ok (.iload_n 1, 1) := by decide +kernel
theorem dX11_nextToken_334 : decode cX11_nextToken 334 = .ok (.bipush 40, 2) := by decide +kernel
theorem dX11_nextToken_336 : decode cX11_nextToken 336 = .ok (.if_icmp .lt 9, 3) := by decide +kernel
theorem dX11_nextToken_339 : decode cX11_nextToken 339 = .ok (.iload_n 1, 1) := by decide +kernel
theorem dX11_nextToken_340 : decode cX11_nextToken 340 = .ok (.bipush 43, 2) := by decide +kernel
theorem dX11_nextToken_342 : decode cX11_nextToken 342 = .ok (.if_icmp .le 21, 3) := by decide +kernel
theorem dX11_nextToken_345 : decode cX11_nextToken 345 = .ok (.iload_n 1, 1) := by decide +kernel
theorem dX11_nextToken_346 : decode cX11_nextToken 346 = .ok (.bipush 45, 2) := by decide +kernel
theorem dX11_nextToken_348 : decode cX11_nextToken 348 = .ok (.if_icmp .eq 15, 3) := by decide +kernel
theorem dX11_nextToken_351 : decode cX11_nextToken 351 = .ok (.iload_n 1, 1) := by decide +kernel
theorem dX11_nextToken_352 : decode cX11_nextToken 352 = .ok (.bipush 59, 2) := by decide +kernel
theorem dX11_nextToken_354 : decode cX11_nextToken 354 = .ok (.if_icmp .lt 13, 3) := by decide +kernel
theorem dX11_nextToken_357 : decode cX11_nextToken 357 = .ok (.iload_n 1, 1) := by decide +kernel
theorem dX11_nextToken_358 : decode cX11_nextToken 358 = .ok (.bipush 61, 2) := by decide +kernel
theorem dX11_nextToken_360 : decode cX11_nextToken 360 = .ok (.if_icmp .gt 7, 3) := by decide +kernel
theorem dX11_nextToken_363 : decode cX11_nextToken 363 = .ok (.iconst 3, 1) := by decide +kernel
theorem dX11_nextToken_364 : decode cX11_nextToken 364 = .ok (.goto 4, 3) := by decide +kernel
theorem dX11_nextToken_367 : decode cX11_nextToken 367 = .ok (.iconst 4, 1) := by decide +kernel
theorem dX11_nextToken_368 : decode cX11_nextToken 368 = .ok (.putfield 161, 3) := by decide +kernel
theorem dX11_nextToken_371 : decode cX11_nextToken 371 = .ok (.return_, 1) := by decide +kernel
theorem dX11_isWord_0 : decode cX11_isWord 0 = .ok (.aload_n 0, 1) := by decide +kernel
theorem dX11_isWord_1 : decode cX11_isWord 1 = .ok (.getfield 161, 3) := by decide +kernel
theorem dX11_isWord_4 : decode cX11_isWord 4 = .ok (.iconst 1, 1) := by decide +kernel
theorem dX11_isWord_5 : decode cX11_isWord 5 = .ok (.if_icmp .ne 16, 3) := by decide +kernel
theorem dX11_isWord_8 : decode cX11_isWord 8 = .ok (.aload_n 0, 1) := by decide +kernel
theorem dX11_isWord_9 : decode cX11_isWord 9 = .ok (.getfield 154, 3) := by decide +kernel
theorem dX11_isWord_12 : decode cX11_isWord 12 = .ok (.lload_n 1, 1) := by decide +kernel
theorem dX11_isWord_13 : decode cX11_isWord 13 = .ok (.lcmp, 1) := by decide +kernel
theorem dX11_isWord_14 : decode cX11_isWord 14 = .ok (.ifCond .ne 7, 3) := by decide +kernel
theorem dX11_isWord_17 : decode cX11_isWord 17 = .ok (.iconst 1, 1) := by decide +kernel
theorem dX11_isWord_18 : decode cX11_isWord 18 = .ok (.goto 4, 3) := by decide +kernel
theorem dX11_isWord_21 : decode cX11_isWord 21 = .ok (.iconst 0, 1) := by decide +kernel
theorem dX11_isWord_22 : decode cX11_isWord 22 = .ok (.ireturn, 1) := by decide +kernel
theorem dX11_isSign_0 : decode cX11_isSign 0 = .ok (.aload_n 0, 1) := by decide +kernel
theorem dX11_isSign_1 : decode cX11_isSign 1 = .ok (.getfield 161, 3) := by decide +kernel
theorem dX11_isSign_4 : decode cX11_isSign 4 = .ok (.iconst 3, 1) := by decide +kernel
theorem dX11_isSign_5 : decode cX11_isSign 5 = .ok (.if_icmp .ne 20, 3) := by decide +kernel
theorem dX11_isSign_8 : decode cX11_isSign 8 = .ok (.aload_n 0, 1) := by decide +kernel
theorem dX11_isSign_9 : decode cX11_isSign 9 = .ok (.getfield 7, 3) := by decide +kernel
theorem dX11_isSign_12 : decode cX11_isSign 12 = .ok (.aload_n 0, 1) := by decide +kernel
theorem dX11_isSign_13 : decode cX11_isSign 13 = .ok (.getfield 151, 3) := by decide +kernel
theorem dX11_isSign_16 : decode cX11_isSign 16 = .ok (.iaload, 1) := by decide +kernel
theorem dX11_isSign_17 : decode cX11_isSign 17 = .ok (.iload_n 1, 1) := by decide +kernel
theorem dX11_isSign_18 : decode cX11_isSign 18 = .ok (.if_icmp .ne 7, 3) := by decide +kernel
theorem dX11_isSign_21 : decode cX11_isSign 21 = .ok (.iconst 1, 1) := by decide +kernel
theorem dX11_isSign_22 : decode cX11_isSign 22 = .ok (.goto 4, 3) := by decide +kernel
theorem dX11_isSign_25 : decode cX11_isSign 25 = .ok (.iconst 0, 1) := by decide +kernel
theorem dX11_isSign_26 : decode cX11_isSign 26 = .ok (.ireturn, 1) := by decide +kernel
theorem dX11_fails_0 : decode cX11_fails 0 = .ok (.aload_n 0, 1) := by decide +kernel
theorem dX11_fails_1 : decode cX11_fails 1 = .ok (.iload_n 1, 1) := by decide +kernel
theorem dX11_fails_2 : decode cX11_fails 2 = .ok (.bipush 16, 2) := by decide +kernel
theorem dX11_fails_4 : decode cX11_fails 4 = .ok (.aload_n 0, 1) := by decide +kernel
theorem dX11_fails_5 : decode cX11_fails 5 = .ok (.getfield 151, 3) := by decide +kernel
theorem dX11_fails_8 : decode cX11_fails 8 = .ok (.imul, 1) := by decide +kernel
theorem dX11_fails_9 : decode cX11_fails 9 = .ok (.iadd, 1) := by decide +kernel
theorem dX11_fails_10 : decode cX11_fails 10 = .ok (.putfield 172, 3) := by decide +kernel
theorem dX11_fails_13 : decode cX11_fails 13 = .ok (.iconst 0, 1) := by decide +kernel
theorem dX11_fails_14 : decode cX11_fails 14 = .ok (.ireturn, 1) := by decide +kernel
theorem dX11_usual_0 : decode cX11_usual 0 = .ok (.aload_n 0, 1) := by decide +kernel
theorem dX11_usual_1 : decode cX11_usual 1 = .ok (.getfield 13, 3) := by decide +kernel
theorem dX11_usual_4 : decode cX11_usual 4 = .ok (.iconst 4, 1) := by decide +kernel
theorem dX11_usual_5 : decode cX11_usual 5 = .ok (.iload_n 1, 1) := by decide +kernel
theorem dX11_usual_6 : decode cX11_usual 6 = .ok (.imul, 1) := by decide +kernel
theorem dX11_usual_7 : decode cX11_usual 7 = .ok (.iconst 0, 1) := by decide +kernel
theorem dX11_usual_8 : decode cX11_usual 8 = .ok (.iadd, 1) := by decide +kernel
theorem dX11_usual_9 : decode cX11_usual 9 = .ok (.iconst 0, 1) := by decide +kernel
theorem dX11_usual_10 : decode cX11_usual 10 = .ok (.iastore, 1) := by decide +kernel
theorem dX11_usual_11 : decode cX11_usual 11 = .ok (.aload_n 0, 1) := by decide +kernel
theorem dX11_usual_12 : decode cX11_usual 12 = .ok (.getfield 13, 3) := by decide +kernel
theorem dX11_usual_15 : decode cX11_usual 15 = .ok (.iconst 4, 1) := by decide +kernel
theorem dX11_usual_16 : decode cX11_usual 16 = .ok (.iload_n 1, 1) := by decide +kernel
theorem dX11_usual_17 : decode cX11_usual 17 = .ok (.imul, 1) := by decide +kernel
theorem dX11_usual_18 : decode cX11_usual 18 = .ok (.iconst 1, 1) := by decide +kernel
theorem dX11_usual_19 : decode cX11_usual 19 = .ok (.iadd, 1) := by decide +kernel
theorem dX11_usual_20 : decode cX11_usual 20 = .ok (.sipush 1896, 3) := by decide +kernel
theorem dX11_usual_23 : decode cX11_usual 23 = .ok (.iastore, 1) := by decide +kernel
theorem dX11_usual_24 : decode cX11_usual 24 = .ok (.aload_n 0, 1) := by decide +kernel
theorem dX11_usual_25 : decode cX11_usual 25 = .ok (.getfield 13, 3) := by decide +kernel
theorem dX11_usual_28 : decode cX11_usual 28 = .ok (.iconst 4, 1) := by decide +kernel
theorem dX11_usual_29 : decode cX11_usual 29 = .ok (.iload_n 1, 1) := by decide +kernel
theorem dX11_usual_30 : decode cX11_usual 30 = .ok (.imul, 1) := by decide +kernel
theorem dX11_usual_31 : decode cX11_usual 31 = .ok (.iconst 2, 1) := by decide +kernel
theorem dX11_usual_32 : decode cX11_usual 32 = .ok (.iadd, 1) := by decide +kernel
theorem dX11_usual_33 : decode cX11_usual 33 = .ok (.bipush 10, 2) := by decide +kernel
theorem dX11_usual_35 : decode cX11_usual 35 = .ok (.iastore, 1) := by decide +kernel
theorem dX11_usual_36 : decode cX11_usual 36 = .ok (.aload_n 0, 1) := by decide +kernel
theorem dX11_usual_37 : decode cX11_usual 37 = .ok (.getfield 13, 3) := by decide +kernel
theorem dX11_usual_40 : decode cX11_usual 40 = .ok (.iconst 4, 1) := by decide +kernel
theorem dX11_usual_41 : decode cX11_usual 41 = .ok (.iload_n 1, 1) := by decide +kernel
theorem dX11_usual_42 : decode cX11_usual 42 = .ok (.imul, 1) := by decide +kernel
theorem dX11_usual_43 : decode cX11_usual 43 = .ok (.iconst 3, 1) := by decide +kernel
theorem dX11_usual_44 : decode cX11_usual 44 = .ok (.iadd, 1) := by decide +kernel
theorem dX11_usual_45 : decode cX11_usual 45 = .ok (.bipush 70, 2) := by decide +kernel
theorem dX11_usual_47 : decode cX11_usual 47 = .ok (.iastore, 1) := by decide +kernel
theorem dX11_usual_48 : decode cX11_usual 48 = .ok (.return_, 1) := by decide +kernel
theorem dX11_puts_0 : decode cX11_puts 0 = .ok (.aload_n 0, 1) := by decide +kernel
theorem dX11_puts_1 : decode cX11_puts 1 = .ok (.getfield 35, 3) := by decide +kernel
theorem dX11_puts_4 : decode cX11_puts 4 = .ok (.aload_n 0, 1) := by decide +kernel
theorem dX11_puts_5 : decode cX11_puts 5 = .ok (.getfield 175, 3) := by decide +kernel
theorem dX11_puts_8 : decode cX11_puts 8 = .ok (.iload_n 1, 1) := by decide +kernel
theorem dX11_puts_9 : decode cX11_puts 9 = .ok (.iastore, 1) := by decide +kernel
theorem dX11_puts_10 : decode cX11_puts 10 = .ok (.aload_n 0, 1) := by decide +kernel
theorem dX11_puts_11 : decode cX11_puts 11 = .ok (.dup, 1) := by decide +kernel
theorem dX11_puts_12 : decode cX11_puts 12 = .ok (.getfield 175, 3) := by decide +kernel
theorem dX11_puts_15 : decode cX11_puts 15 = .ok (.iconst 1, 1) := by decide +kernel
theorem dX11_puts_16 : decode cX11_puts 16 = .ok (.iadd, 1) := by decide +kernel
theorem dX11_puts_17 : decode cX11_puts 17 = .ok (.putfield 175, 3) := by decide +kernel
theorem dX11_puts_20 : decode cX11_puts 20 = .ok (.return_, 1) := by decide +kernel
theorem dX11_fact_0 : decode cX11_fact 0 = .ok (.aload_n 0, 1) := by decide +kernel
theorem dX11_fact_1 : decode cX11_fact 1 = .ok (.getfield 161, 3) := by decide +kernel
theorem dX11_fact_4 : decode cX11_fact 4 = .ok (.iconst 1, 1) := by decide +kernel
theorem dX11_fact_5 : decode cX11_fact 5 = .ok (.if_icmp .eq 5, 3) := by decide +kernel
theorem dX11_fact_8 : decode cX11_fact 8 = .ok (.iconst 0, 1) := by decide +kernel
theorem dX11_fact_9 : decode cX11_fact 9 = .ok (.ireturn, 1) := by decide +kernel
theorem dX11_fact_10 : decode cX11_fact 10 = .ok (.aload_n 0, 1) := by decide +kernel
theorem dX11_fact_11 : decode cX11_fact 11 = .ok (.getfield 154, 3) := by decide +kernel
theorem dX11_fact_14 : decode cX11_fact 14 = .ok (.ldc2_w 178, 3) := by decide +kernel
theorem dX11_fact_17 : decode cX11_fact 17 = .ok (.lcmp, 1) := by decide +kernel
theorem dX11_fact_18 : decode cX11_fact 18 = .ok (.ifCond .ne 5, 3) := by decide +kernel
theorem dX11_fact_21 : decode cX11_fact 21 = .ok (.iconst 1, 1) := by decide +kernel
theorem dX11_fact_22 : decode cX11_fact 22 = .ok (.ireturn, 1) := by decide +kernel
theorem dX11_fact_23 : decode cX11_fact 23 = .ok (.aload_n 0, 1) := by decide +kernel
theorem dX11_fact_24 : decode cX11_fact 24 = .ok (.getfield 154, 3) := by decide +kernel
theorem dX11_fact_27 : decode cX11_fact 27 = .ok (.ldc2_w 180, 3) := by decide +kernel
theorem dX11_fact_30 : decode cX11_fact 30 = .ok (.lcmp, 1) := by decide +kernel
theorem dX11_fact_31 : decode cX11_fact 31 = .ok (.ifCond .ne 5, 3) := by decide +kernel
theorem dX11_fact_34 : decode cX11_fact 34 = .ok (.iconst 2, 1) := by decide +kernel
theorem dX11_fact_35 : decode cX11_fact 35 = .ok (.ireturn, 1) := by decide +kernel
theorem dX11_fact_36 : decode cX11_fact 36 = .ok (.aload_n 0, 1) := by decide +kernel
theorem dX11_fact_37 : decode cX11_fact 37 = .ok (.getfield 154, 3) := by decide +kernel
theorem dX11_fact_40 : decode cX11_fact 40 = .ok (.ldc2_w 182, 3) := by decide +kernel
theorem dX11_fact_43 : decode cX11_fact 43 = .ok (.lcmp, 1) := by decide +kernel
theorem dX11_fact_44 : decode cX11_fact 44 = .ok (.ifCond .ne 7, 3) := by decide +kernel
theorem dX11_fact_47 : decode cX11_fact 47 = .ok (.iconst 3, 1) := by decide +kernel
theorem dX11_fact_48 : decode cX11_fact 48 = .ok (.goto 19, 3) := by decide +kernel
theorem dX11_fact_51 : decode cX11_fact 51 = .ok (.aload_n 0, 1) := by decide +kernel
theorem dX11_fact_52 : decode cX11_fact 52 = .ok (.getfield 154, 3) := by decide +kernel
theorem dX11_fact_55 : decode cX11_fact 55 = .ok (.ldc2_w 184, 3) := by decide +kernel
theorem dX11_fact_58 : decode cX11_fact 58 = .ok (.lcmp, 1) := by decide +kernel
theorem dX11_fact_59 : decode cX11_fact 59 = .ok (.ifCond .ne 7, 3) := by decide +kernel
theorem dX11_fact_62 : decode cX11_fact 62 = .ok (.iconst 4, 1) := by decide +kernel
theorem dX11_fact_63 : decode cX11_fact 63 = .ok (.goto 4, 3) := by decide +kernel
theorem dX11_fact_66 : decode cX11_fact 66 = .ok (.iconst 0, 1) := by decide +kernel
theorem dX11_fact_67 : decode cX11_fact 67 = .ok (.ireturn, 1) := by decide +kernel
theorem dX11_reads_0 : decode cX11_reads 0 = .ok (.iconst 0, 1) := by decide +kernel
theorem dX11_reads_1 : decode cX11_reads 1 = .ok (.istore_n 1, 1) := by decide +kernel
theorem dX11_reads_2 : decode cX11_reads 2 = .ok (.iconst 1, 1) := by decide +kernel
theorem dX11_reads_3 : decode cX11_reads 3 = .ok (.istore_n 2, 1) := by decide +kernel
theorem dX11_reads_4 : decode cX11_reads 4 = .ok (.aload_n 0, 1) := by decide +kernel
theorem dX11_reads_5 : decode cX11_reads 5 = .ok (.getfield 41, 3) := by decide +kernel
theorem dX11_reads_8 : decode cX11_reads 8 = .ok (.iconst 0, 1) := by decide +kernel
theorem dX11_reads_9 : decode cX11_reads 9 = .ok (.iconst 0, 1) := by decide +kernel
theorem dX11_reads_10 : decode cX11_reads 10 = .ok (.bastore, 1) := by decide +kernel
theorem dX11_reads_11 : decode cX11_reads 11 = .ok (.iload_n 2, 1) := by decide +kernel
theorem dX11_reads_12 : decode cX11_reads 12 = .ok (.ifCond .eq 167, 3) := by decide +kernel
theorem dX11_reads_15 : decode cX11_reads 15 = .ok (.aload_n 0, 1) := by decide +kernel
theorem dX11_reads_16 : decode cX11_reads 16 = .ok (.invokevirtual 186, 3) := by decide +kernel
theorem dX11_reads_19 : decode cX11_reads 19 = .ok (.istore_n 3, 1) := by decide +kernel
theorem dX11_reads_20 : decode cX11_reads 20 = .ok (.aload_n 0, 1) := by decide +kernel
theorem dX11_reads_21 : decode cX11_reads 21 = .ok (.ldc2_w 190, 3) := by decide +kernel
theorem dX11_reads_24 : decode cX11_reads 24 = .ok (.invokevirtual 192, 3) := by decide +kernel
theorem dX11_reads_27 : decode cX11_reads 27 = .ok (.istore 4, 2) := by decide +kernel
theorem dX11_reads_29 : decode cX11_reads 29 = .ok (.aload_n 0, 1) := by decide +kernel
theorem dX11_reads_30 : decode cX11_reads 30 = .ok (.bipush 40, 2) := by decide +kernel
theorem dX11_reads_32 : decode cX11_reads 32 = .ok (.invokevirtual 196, 3) := by decide +kernel
theorem dX11_reads_35 : decode cX11_reads 35 = .ok (.istore 5, 2) := by decide +kernel
theorem dX11_reads_37 : decode cX11_reads 37 = .ok (.iload_n 3, 1) := by decide +kernel
theorem dX11_reads_38 : decode cX11_reads 38 = .ok (.ifCond .ne 27, 3) := by decide +kernel
theorem dX11_reads_41 : decode cX11_reads 41 = .ok (.iload 4, 2) := by decide +kernel
theorem dX11_reads_43 : decode cX11_reads 43 = .ok (.ifCond .ne 22, 3) := by decide +kernel
theorem dX11_reads_46 : decode cX11_reads 46 = .ok (.iload 5, 2) := by decide +kernel
theorem dX11_reads_48 : decode cX11_reads 48 = .ok (.ifCond .ne 17, 3) := by decide +kernel
theorem dX11_reads_51 : decode cX11_reads 51 = .ok (.aload_n 0, 1) := by decide +kernel
theorem dX11_reads_52 : decode cX11_reads 52 = .ok (.getfield 161, 3) := by decide +kernel
theorem dX11_reads_55 : decode cX11_reads 55 = .ok (.iconst 2, 1) := by decide +kernel
theorem dX11_reads_56 : decode cX11_reads 56 = .ok (.if_icmp .eq 9, 3) := by decide +kernel
theorem dX11_reads_59 : decode cX11_reads 59 = .ok (.aload_n 0, 1) := by decide +kernel
theorem dX11_reads_60 : decode cX11_reads 60 = .ok (.iconst 1, 1) := by decide +kernel
theorem dX11_reads_61 : decode cX11_reads 61 = .ok (.invokevirtual 200, 3) := by decide +kernel
theorem dX11_reads_64 : decode cX11_reads 64 = .ok (.ireturn, 1) := by decide +kernel
theorem dX11_reads_65 : decode cX11_reads 65 = .ok (.iload_n 1, 1) := by decide +kernel
theorem dX11_reads_66 : decode cX11_reads 66 = .ok (.iconst 5, 1) := by decide +kernel
theorem dX11_reads_67 : decode cX11_reads 67 = .ok (.if_icmp .ne 9, 3) := by decide +kernel
theorem dX11_reads_70 : decode cX11_reads 70 = .ok (.aload_n 0, 1) := by decide +kernel
theorem dX11_reads_71 : decode cX11_reads 71 = .ok (.iconst 5, 1) := by decide +kernel
theorem dX11_reads_72 : decode cX11_reads 72 = .ok (.invokevirtual 200, 3) := by decide +kernel
theorem dX11_reads_75 : decode cX11_reads 75 = .ok (.ireturn, 1) := by decide +kernel
theorem dX11_reads_76 : decode cX11_reads 76 = .ok (.iload 4, 2) := by decide +kernel
theorem dX11_reads_78 : decode cX11_reads 78 = .ok (.ifCond .ne 8, 3) := by decide +kernel
theorem dX11_reads_81 : decode cX11_reads 81 = .ok (.iload 5, 2) := by decide +kernel
theorem dX11_reads_83 : decode cX11_reads 83 = .ok (.ifCond .eq 48, 3) := by decide +kernel
theorem dX11_reads_86 : decode cX11_reads 86 = .ok (.aload_n 0, 1) := by decide +kernel
theorem dX11_reads_87 : decode cX11_reads 87 = .ok (.iload 4, 2) := by decide +kernel
theorem dX11_reads_89 : decode cX11_reads 89 = .ok (.ifCond .eq 8, 3) := by decide +kernel
theorem dX11_reads_92 : decode cX11_reads 92 = .ok (.bipush 30, 2) := by decide +kernel
theorem dX11_reads_94 : decode cX11_reads 94 = .ok (.goto 5, 3) := by decide +kernel
theorem dX11_reads_97 : decode cX11_reads 97 = .ok (.bipush 28, 2) := by decide +kernel
theorem dX11_reads_99 : decode cX11_reads 99 = .ok (.invokevirtual 203, 3) := by decide +kernel
theorem dX11_reads_102 : decode cX11_reads 102 = .ok (.iinc 1 1, 3) := by decide +kernel
theorem dX11_reads_105 : decode cX11_reads 105 = .ok (.aload_n 0, 1) := by decide +kernel
theorem dX11_reads_106 : decode cX11_reads 106 = .ok (.getfield 38, 3) := by decide +kernel
theorem dX11_reads_109 : decode cX11_reads 109 = .ok (.iload_n 1, 1) := by decide +kernel
theorem dX11_reads_110 : decode cX11_reads 110 = .ok (.iload 4, 2) := by decide +kernel
theorem dX11_reads_112 : decode cX11_reads 112 = .ok (.ifCond .eq 7, 3) := by decide +kernel
theorem dX11_reads_115 : decode cX11_reads 115 = .ok (.iconst 1, 1) := by decide +kernel
theorem dX11_reads_116 : decode cX11_reads 116 = .ok (.goto 4, 3) := by decide +kernel
theorem dX11_reads_119 : decode cX11_reads 119 = .ok (.iconst 2, 1) := by decide +kernel
theorem dX11_reads_120 : decode cX11_reads 120 = .ok (.iastore, 1) := by decide +kernel
theorem dX11_reads_121 : decode cX11_reads 121 = .ok (.aload_n 0, 1) := by decide +kernel
theorem dX11_reads_122 : decode cX11_reads 122 = .ok (.getfield 41, 3) := by decide +kernel
theorem dX11_reads_125 : decode cX11_reads 125 = .ok (.iload_n 1, 1) := by decide +kernel
theorem dX11_reads_126 : decode cX11_reads 126 = .ok (.iconst 0, 1) := by decide +kernel
theorem dX11_reads_127 : decode cX11_reads 127 = .ok (.bastore, 1) := by decide +kernel
theorem dX11_reads_128 : decode cX11_reads 128 = .ok (.goto 44, 3) := by decide +kernel
theorem dX11_reads_131 : decode cX11_reads 131 = .ok (.aload_n 0, 1) := by decide +kernel
theorem dX11_reads_132 : decode cX11_reads 132 = .ok (.iload_n 3, 1) := by decide +kernel
theorem dX11_reads_133 : decode cX11_reads 133 = .ok (.ifCond .le 7, 3) := by decide +kernel
theorem dX11_reads_136 : decode cX11_reads 136 = .ok (.iload_n 3, 1) := by decide +kernel
theorem dX11_reads_137 : decode cX11_reads 137 = .ok (.goto 10, 3) := by decide +kernel
theorem dX11_reads_140 : decode cX11_reads 140 = .ok (.bipush 100, 2) := by decide +kernel
theorem dX11_reads_142 : decode cX11_reads 142 = .ok (.aload_n 0, 1) := by decide +kernel
theorem dX11_reads_143 : decode cX11_reads 143 = .ok (.getfield 158, 3) := by decide +kernel
theorem dX11_reads_146 : decode cX11_reads 146 = .ok (.iadd, 1) := by decide +kernel
theorem dX11_reads_147 : decode cX11_reads 147 = .ok (.invokevirtual 203, 3) := by decide +kernel
theorem dX11_reads_150 : decode cX11_reads 150 = .ok (.iconst 0, 1) := by decide +kernel
theorem dX11_reads_151 : decode cX11_reads 151 = .ok (.istore_n 2, 1) := by decide +kernel
theorem dX11_reads_152 : decode cX11_reads 152 = .ok (.iload_n 1, 1) := by decide +kernel
theorem dX11_reads_153 : decode cX11_reads 153 = .ok (.ifCond .le 19, 3) := by decide +kernel
theorem dX11_reads_156 : decode cX11_reads 156 = .ok (.aload_n 0, 1) := by decide +kernel
theorem dX11_reads_157 : decode cX11_reads 157 = .ok (.getfield 38, 3) := by decide +kernel
theorem dX11_reads_160 : decode cX11_reads 160 = .ok (.iload_n 1, 1) := by decide +kernel
theorem dX11_reads_161 : decode cX11_reads 161 = .ok (.iaload, 1) := by decide +kernel
theorem dX11_reads_162 : decode cX11_reads 162 = .ok (.iconst 1, 1) := by decide +kernel
theorem dX11_reads_163 : decode cX11_reads 163 = .ok (.if_icmp .ne 9, 3) := by decide +kernel
theorem dX11_reads_166 : decode cX11_reads 166 = .ok (.iinc 1 (-1), 3) := by decide +kernel
theorem dX11_reads_169 : decode cX11_reads 169 = .ok (.goto (-17), 3) := by decide +kernel
theorem dX11_reads_172 : decode cX11_reads 172 = .ok (.aload_n 0, 1) := by decide +kernel
theorem dX11_reads_173 : decode cX11_reads 173 = .ok (.invokevirtual 206, 3) := by decide +kernel
theorem dX11_reads_176 : decode cX11_reads 176 = .ok (.goto (-165), 3) := by decide +kernel
theorem dX11_reads_179 : decode cX11_reads 179 = .ok (.aload_n 0, 1) := by decide +kernel
theorem dX11_reads_180 : decode cX11_reads 180 = .ok (.bipush 43, 2) := by decide +kernel
theorem dX11_reads_182 : decode cX11_reads 182 = .ok (.invokevirtual 196, 3) := by decide +kernel
theorem dX11_reads_185 : decode cX11_reads 185 = .ok (.ifCond .ne 21, 3) := by decide +kernel
theorem dX11_reads_188 : decode cX11_reads 188 = .ok (.aload_n 0, 1) := by decide +kernel
theorem dX11_reads_189 : decode cX11_reads 189 = .ok (.bipush 45, 2) := by decide +kernel
theorem dX11_reads_191 : decode cX11_reads 191 = .ok (.invokevirtual 196, 3) := by decide +kernel
theorem dX11_reads_194 : decode cX11_reads 194 = .ok (.ifCond .ne 12, 3) := by decide +kernel
theorem dX11_reads_197 : decode cX11_reads 197 = .ok (.aload_n 0, 1) := by decide +kernel
theorem dX11_reads_198 : decode cX11_reads 198 = .ok (.bipush 42, 2) := by decide +kernel
theorem dX11_reads_200 : decode cX11_reads 200 = .ok (.invokevirtual 196, 3) := by decide +kernel
theorem dX11_reads_203 : decode cX11_reads 203 = .ok (.ifCond .eq 42, 3) := by decide +kernel
theorem dX11_reads_206 : decode cX11_reads 206 = .ok (.aload_n 0, 1) := by decide +kernel
theorem dX11_reads_207 : decode cX11_reads 207 = .ok (.aload_n 0, 1) := by decide +kernel
theorem dX11_reads_208 : decode cX11_reads 208 = .ok (.bipush 43, 2) := by decide +kernel
theorem dX11_reads_210 : decode cX11_reads 210 = .ok (.invokevirtual 196, 3) := by decide +kernel
theorem dX11_reads_213 : decode cX11_reads 213 = .ok (.ifCond .eq 8, 3) := by decide +kernel
theorem dX11_reads_216 : decode cX11_reads 216 = .ok (.bipush 20, 2) := by decide +kernel
theorem dX11_reads_218 : decode cX11_reads 218 = .ok (.goto 19, 3) := by decide +kernel
theorem dX11_reads_221 : decode cX11_reads 221 = .ok (.aload_n 0, 1) := by decide +kernel
theorem dX11_reads_222 : decode cX11_reads 222 = .ok (.bipush 45, 2) := by decide +kernel
theorem dX11_reads_224 : decode cX11_reads 224 = .ok (.invokevirtual 196, 3) := by decide +kernel
theorem dX11_reads_227 : decode cX11_reads 227 = .ok (.ifCond .eq 8, 3) := by decide +kernel
theorem dX11_reads_230 : decode cX11_reads 230 = .ok (.bipush 21, 2) := by decide +kernel
theorem dX11_reads_232 : decode cX11_reads 232 = .ok (.goto 5, 3) := by decide +kernel
theorem dX11_reads_235 : decode cX11_reads 235 = .ok (.bipush 22, 2) := by decide +kernel
theorem dX11_reads_237 : decode cX11_reads 237 = .ok (.invokevirtual 203, 3) := by decide +kernel
theorem dX11_reads_240 : decode cX11_reads 240 = .ok (.iconst 1, 1) := by decide +kernel
theorem dX11_reads_241 : decode cX11_reads 241 = .ok (.istore_n 2, 1) := by decide +kernel
theorem dX11_reads_242 : decode cX11_reads 242 = .ok (.goto 182, 3) := by decide +kernel
theorem dX11_reads_245 : decode cX11_reads 245 = .ok (.aload_n 0, 1) := by decide +kernel
theorem dX11_reads_246 : decode cX11_reads 246 = .ok (.bipush 60, 2) := by decide +kernel
theorem dX11_reads_248 : decode cX11_reads 248 = .ok (.invokevirtual 196, 3) := by decide +kernel
theorem dX11_reads_251 : decode cX11_reads 251 = .ok (.ifCond .ne 12, 3) := by decide +kernel
theorem dX11_reads_254 : decode cX11_reads 254 = .ok (.aload_n 0, 1) := by decide +kernel
theorem dX11_reads_255 : decode cX11_reads 255 = .ok (.bipush 61, 2) := by decide +kernel
theorem dX11_reads_257 : decode cX11_reads 257 = .ok (.invokevirtual 196, 3) := by decide +kernel
theorem dX11_reads_260 : decode cX11_reads 260 = .ok (.ifCond .eq 44, 3) := by decide +kernel
theorem dX11_reads_263 : decode cX11_reads 263 = .ok (.aload_n 0, 1) := by decide +kernel
theorem dX11_reads_264 : decode cX11_reads 264 = .ok (.getfield 41, 3) := by decide +kernel
theorem dX11_reads_267 : decode cX11_reads 267 = .ok (.iload_n 1, 1) := by decide +kernel
theorem dX11_reads_268 : decode cX11_reads 268 = .ok (.baload, 1) := by decide +kernel
theorem dX11_reads_269 : decode cX11_reads 269 = .ok (.ifCond .ne 35, 3) := by decide +kernel
theorem dX11_reads_272 : decode cX11_reads 272 = .ok (.aload_n 0, 1) := by decide +kernel
theorem dX11_reads_273 : decode cX11_reads 273 = .ok (.aload_n 0, 1) := by decide +kernel
theorem dX11_reads_274 : decode cX11_reads 274 = .ok (.bipush 60, 2) := by decide +kernel
theorem dX11_reads_276 : decode cX11_reads 276 = .ok (.invokevirtual 196, 3) := by decide +kernel
theorem dX11_reads_279 : decode cX11_reads 279 = .ok (.ifCond .eq 8, 3) := by decide +kernel
theorem dX11_reads_282 : decode cX11_reads 282 = .ok (.bipush 24, 2) := by decide +kernel
theorem dX11_reads_284 : decode cX11_reads 284 = .ok (.goto 5, 3) := by decide +kernel
theorem dX11_reads_287 : decode cX11_reads 287 = .ok (.bipush 25, 2) := by decide +kernel
theorem dX11_reads_289 : decode cX11_reads 289 = .ok (.invokevirtual 203, 3) := by decide +kernel
theorem dX11_reads_292 : decode cX11_reads 292 = .ok (.aload_n 0, 1) := by decide +kernel
theorem dX11_reads_293 : decode cX11_reads 293 = .ok (.getfield 41, 3) := by decide +kernel
theorem dX11_reads_296 : decode cX11_reads 296 = .ok (.iload_n 1, 1) := by decide +kernel
theorem dX11_reads_297 : decode cX11_reads 297 = .ok (.iconst 1, 1) := by decide +kernel
theorem dX11_reads_298 : decode cX11_reads 298 = .ok (.bastore, 1) := by decide +kernel
theorem dX11_reads_299 : decode cX11_reads 299 = .ok (.iconst 1, 1) := by decide +kernel
theorem dX11_reads_300 : decode cX11_reads 300 = .ok (.istore_n 2, 1) := by decide +kernel
theorem dX11_reads_301 : decode cX11_reads 301 = .ok (.goto 123, 3) := by decide +kernel
theorem dX11_reads_304 : decode cX11_reads 304 = .ok (.aload_n 0, 1) := by decide +kernel
theorem dX11_reads_305 : decode cX11_reads 305 = .ok (.ldc2_w 209, 3) := by decide +kernel
theorem dX11_reads_308 : decode cX11_reads 308 = .ok (.invokevirtual 192, 3) := by decide +kernel
theorem dX11_reads_311 : decode cX11_reads 311 = .ok (.ifCond .ne 13, 3) := by decide +kernel
theorem dX11_reads_314 : decode cX11_reads 314 = .ok (.aload_n 0, 1) := by decide +kernel
theorem dX11_reads_315 : decode cX11_reads 315 = .ok (.ldc2_w 211, 3) := by decide +kernel
theorem dX11_reads_318 : decode cX11_reads 318 = .ok (.invokevirtual 192, 3) := by decide +kernel
theorem dX11_reads_321 : decode cX11_reads 321 = .ok (.ifCond .eq 36, 3) := by decide +kernel
theorem dX11_reads_324 : decode cX11_reads 324 = .ok (.aload_n 0, 1) := by decide +kernel
theorem dX11_reads_325 : decode cX11_reads 325 = .ok (.aload_n 0, 1) := by decide +kernel
theorem dX11_reads_326 : decode cX11_reads 326 = .ok (.ldc2_w 209, 3) := by decide +kernel
theorem dX11_reads_329 : decode cX11_reads 329 = .ok (.invokevirtual 192, 3) := by decide +kernel
theorem dX11_reads_332 : decode cX11_reads 332 = .ok (.ifCond .eq 8, 3) := by decide +kernel
theorem dX11_reads_335 : decode cX11_reads 335 = .ok (.bipush 26, 2) := by decide +kernel
theorem dX11_reads_337 : decode cX11_reads 337 = .ok (.goto 5, 3) := by decide +kernel
theorem dX11_reads_340 : decode cX11_reads 340 = .ok (.bipush 27, 2) := by decide +kernel
theorem dX11_reads_342 : decode cX11_reads 342 = .ok (.invokevirtual 203, 3) := by decide +kernel
theorem dX11_reads_345 : decode cX11_reads 345 = .ok (.aload_n 0, 1) := by decide +kernel
theorem dX11_reads_346 : decode cX11_reads 346 = .ok (.getfield 41, 3) := by decide +kernel
theorem dX11_reads_349 : decode cX11_reads 349 = .ok (.iload_n 1, 1) := by decide +kernel
theorem dX11_reads_350 : decode cX11_reads 350 = .ok (.iconst 0, 1) := by decide +kernel
theorem dX11_reads_351 : decode cX11_reads 351 = .ok (.bastore, 1) := by decide +kernel
theorem dX11_reads_352 : decode cX11_reads 352 = .ok (.iconst 1, 1) := by decide +kernel
theorem dX11_reads_353 : decode cX11_reads 353 = .ok (.istore_n 2, 1) := by decide +kernel
theorem dX11_reads_354 : decode cX11_reads 354 = .ok (.goto 70, 3) := by decide +kernel
theorem dX11_reads_357 : decode cX11_reads 357 = .ok (.aload_n 0, 1) := by decide +kernel
theorem dX11_reads_358 : decode cX11_reads 358 = .ok (.bipush 41, 2) := by decide +kernel
theorem dX11_reads_360 : decode cX11_reads 360 = .ok (.invokevirtual 196, 3) := by decide +kernel
theorem dX11_reads_363 : decode cX11_reads 363 = .ok (.ifCond .eq 36, 3) := by decide +kernel
theorem dX11_reads_366 : decode cX11_reads 366 = .ok (.iload_n 1, 1) := by decide +kernel
theorem dX11_reads_367 : decode cX11_reads 367 = .ok (.ifCond .le 32, 3) := by decide +kernel
theorem dX11_reads_370 : decode cX11_reads 370 = .ok (.aload_n 0, 1) := by decide +kernel
theorem dX11_reads_371 : decode cX11_reads 371 = .ok (.bipush 29, 2) := by decide +kernel
theorem dX11_reads_373 : decode cX11_reads 373 = .ok (.invokevirtual 203, 3) := by decide +kernel
theorem dX11_reads_376 : decode cX11_reads 376 = .ok (.iinc 1 (-1), 3) := by decide +kernel
theorem dX11_reads_379 : decode cX11_reads 379 = .ok (.iload_n 1, 1) := by decide +kernel
theorem dX11_reads_380 : decode cX11_reads 380 = .ok (.ifCond .le 44, 3) := by decide +kernel
theorem dX11_reads_383 : decode cX11_reads 383 = .ok (.aload_n 0, 1) := by decide +kernel
theorem dX11_reads_384 : decode cX11_reads 384 = .ok (.getfield 38, 3) := by decide +kernel
theorem dX11_reads_387 : decode cX11_reads 387 = .ok (.iload_n 1, 1) := by decide +kernel
theorem dX11_reads_388 : decode cX11_reads 388 = .ok (.iaload, 1) := by decide +kernel
theorem dX11_reads_389 : decode cX11_reads 389 = .ok (.iconst 1, 1) := by decide +kernel
theorem dX11_reads_390 : decode cX11_reads 390 = .ok (.if_icmp .ne 34, 3) := by decide +kernel
theorem dX11_reads_393 : decode cX11_reads 393 = .ok (.iinc 1 (-1), 3) := by decide +kernel
theorem dX11_reads_396 : decode cX11_reads 396 = .ok (.goto (-17), 3) := by decide +kernel
theorem dX11_reads_399 : decode cX11_reads 399 = .ok (.iload_n 1, 1) := by decide +kernel
theorem dX11_reads_400 : decode cX11_reads 400 = .ok (.ifCond .ne 18, 3) := by decide +kernel
theorem dX11_reads_403 : decode cX11_reads 403 = .ok (.aload_n 0, 1) := by decide +kernel
theorem dX11_reads_404 : decode cX11_reads 404 = .ok (.bipush 59, 2) := by decide +kernel
theorem dX11_reads_406 : decode cX11_reads 406 = .ok (.invokevirtual 196, 3) := by decide +kernel

theorem dX11_init_0 : decode cX11_init 0 = .ok (.aload_n 0, 1) := by decide +kernel
theorem dX11_init_1 : decode cX11_init 1 = .ok (.invokespecial 1, 3) := by decide +kernel
theorem dX11_init_4 : decode cX11_init 4 = .ok (.aload_n 0, 1) := by decide +kernel
theorem dX11_init_5 : decode cX11_init 5 = .ok (.sipush 4184, 3) := by decide +kernel
theorem dX11_init_8 : decode cX11_init 8 = .ok (.newarray .int, 2) := by decide +kernel
theorem dX11_init_10 : decode cX11_init 10 = .ok (.putfield 7, 3) := by decide +kernel
theorem dX11_init_13 : decode cX11_init 13 = .ok (.aload_n 0, 1) := by decide +kernel
theorem dX11_init_14 : decode cX11_init 14 = .ok (.iconst 3, 1) := by decide +kernel
theorem dX11_init_15 : decode cX11_init 15 = .ok (.newarray .boolean, 2) := by decide +kernel
theorem dX11_init_17 : decode cX11_init 17 = .ok (.putfield 13, 3) := by decide +kernel
theorem dX11_init_20 : decode cX11_init 20 = .ok (.aload_n 0, 1) := by decide +kernel
theorem dX11_init_21 : decode cX11_init 21 = .ok (.bipush 121, 2) := by decide +kernel
theorem dX11_init_23 : decode cX11_init 23 = .ok (.newarray .int, 2) := by decide +kernel
theorem dX11_init_25 : decode cX11_init 25 = .ok (.putfield 17, 3) := by decide +kernel
theorem dX11_init_28 : decode cX11_init 28 = .ok (.aload_n 0, 1) := by decide +kernel
theorem dX11_init_29 : decode cX11_init 29 = .ok (.bipush 10, 2) := by decide +kernel
theorem dX11_init_31 : decode cX11_init 31 = .ok (.newarray .int, 2) := by decide +kernel
theorem dX11_init_33 : decode cX11_init 33 = .ok (.putfield 20, 3) := by decide +kernel
theorem dX11_init_36 : decode cX11_init 36 = .ok (.aload_n 0, 1) := by decide +kernel
theorem dX11_init_37 : decode cX11_init 37 = .ok (.bipush 100, 2) := by decide +kernel
theorem dX11_init_39 : decode cX11_init 39 = .ok (.newarray .int, 2) := by decide +kernel
theorem dX11_init_41 : decode cX11_init 41 = .ok (.putfield 23, 3) := by decide +kernel
theorem dX11_init_44 : decode cX11_init 44 = .ok (.aload_n 0, 1) := by decide +kernel
theorem dX11_init_45 : decode cX11_init 45 = .ok (.bipush 8, 2) := by decide +kernel
theorem dX11_init_47 : decode cX11_init 47 = .ok (.newarray .int, 2) := by decide +kernel
theorem dX11_init_49 : decode cX11_init 49 = .ok (.putfield 26, 3) := by decide +kernel
theorem dX11_init_52 : decode cX11_init 52 = .ok (.aload_n 0, 1) := by decide +kernel
theorem dX11_init_53 : decode cX11_init 53 = .ok (.bipush 8, 2) := by decide +kernel
theorem dX11_init_55 : decode cX11_init 55 = .ok (.newarray .int, 2) := by decide +kernel
theorem dX11_init_57 : decode cX11_init 57 = .ok (.putfield 29, 3) := by decide +kernel
theorem dX11_init_60 : decode cX11_init 60 = .ok (.aload_n 0, 1) := by decide +kernel
theorem dX11_init_61 : decode cX11_init 61 = .ok (.bipush 6, 2) := by decide +kernel
theorem dX11_init_63 : decode cX11_init 63 = .ok (.newarray .int, 2) := by decide +kernel
theorem dX11_init_65 : decode cX11_init 65 = .ok (.putfield 32, 3) := by decide +kernel
theorem dX11_init_68 : decode cX11_init 68 = .ok (.aload_n 0, 1) := by decide +kernel
theorem dX11_init_69 : decode cX11_init 69 = .ok (.bipush 6, 2) := by decide +kernel
theorem dX11_init_71 : decode cX11_init 71 = .ok (.newarray .int, 2) := by decide +kernel
theorem dX11_init_73 : decode cX11_init 73 = .ok (.putfield 35, 3) := by decide +kernel
theorem dX11_init_76 : decode cX11_init 76 = .ok (.aload_n 0, 1) := by decide +kernel
theorem dX11_init_77 : decode cX11_init 77 = .ok (.bipush 8, 2) := by decide +kernel
theorem dX11_init_79 : decode cX11_init 79 = .ok (.newarray .int, 2) := by decide +kernel
theorem dX11_init_81 : decode cX11_init 81 = .ok (.putfield 38, 3) := by decide +kernel
theorem dX11_init_84 : decode cX11_init 84 = .ok (.aload_n 0, 1) := by decide +kernel
theorem dX11_init_85 : decode cX11_init 85 = .ok (.sipush 488, 3) := by decide +kernel
theorem dX11_init_88 : decode cX11_init 88 = .ok (.newarray .int, 2) := by decide +kernel
theorem dX11_init_90 : decode cX11_init 90 = .ok (.putfield 41, 3) := by decide +kernel
theorem dX11_init_93 : decode cX11_init 93 = .ok (.aload_n 0, 1) := by decide +kernel
theorem dX11_init_94 : decode cX11_init 94 = .ok (.bipush 6, 2) := by decide +kernel
theorem dX11_init_96 : decode cX11_init 96 = .ok (.newarray .int, 2) := by decide +kernel
theorem dX11_init_98 : decode cX11_init 98 = .ok (.putfield 44, 3) := by decide +kernel
theorem dX11_init_101 : decode cX11_init 101 = .ok (.aload_n 0, 1) := by decide +kernel
theorem dX11_init_102 : decode cX11_init 102 = .ok (.bipush 6, 2) := by decide +kernel
theorem dX11_init_104 : decode cX11_init 104 = .ok (.newarray .int, 2) := by decide +kernel
theorem dX11_init_106 : decode cX11_init 106 = .ok (.putfield 47, 3) := by decide +kernel
theorem dX11_init_109 : decode cX11_init 109 = .ok (.aload_n 0, 1) := by decide +kernel
theorem dX11_init_110 : decode cX11_init 110 = .ok (.iconst 3, 1) := by decide +kernel
theorem dX11_init_111 : decode cX11_init 111 = .ok (.newarray .int, 2) := by decide +kernel
theorem dX11_init_113 : decode cX11_init 113 = .ok (.putfield 50, 3) := by decide +kernel
theorem dX11_init_116 : decode cX11_init 116 = .ok (.aload_n 0, 1) := by decide +kernel
theorem dX11_init_117 : decode cX11_init 117 = .ok (.iconst 5, 1) := by decide +kernel
theorem dX11_init_118 : decode cX11_init 118 = .ok (.newarray .int, 2) := by decide +kernel
theorem dX11_init_120 : decode cX11_init 120 = .ok (.putfield 53, 3) := by decide +kernel
theorem dX11_init_123 : decode cX11_init 123 = .ok (.aload_n 0, 1) := by decide +kernel
theorem dX11_init_124 : decode cX11_init 124 = .ok (.iconst 5, 1) := by decide +kernel
theorem dX11_init_125 : decode cX11_init 125 = .ok (.newarray .int, 2) := by decide +kernel
theorem dX11_init_127 : decode cX11_init 127 = .ok (.putfield 56, 3) := by decide +kernel
theorem dX11_init_130 : decode cX11_init 130 = .ok (.aload_n 0, 1) := by decide +kernel
theorem dX11_init_131 : decode cX11_init 131 = .ok (.iconst 5, 1) := by decide +kernel
theorem dX11_init_132 : decode cX11_init 132 = .ok (.newarray .int, 2) := by decide +kernel
theorem dX11_init_134 : decode cX11_init 134 = .ok (.putfield 59, 3) := by decide +kernel
theorem dX11_init_137 : decode cX11_init 137 = .ok (.aload_n 0, 1) := by decide +kernel
theorem dX11_init_138 : decode cX11_init 138 = .ok (.bipush 8, 2) := by decide +kernel
theorem dX11_init_140 : decode cX11_init 140 = .ok (.newarray .int, 2) := by decide +kernel
theorem dX11_init_142 : decode cX11_init 142 = .ok (.putfield 62, 3) := by decide +kernel
theorem dX11_init_145 : decode cX11_init 145 = .ok (.aload_n 0, 1) := by decide +kernel
theorem dX11_init_146 : decode cX11_init 146 = .ok (.sipush 488, 3) := by decide +kernel
theorem dX11_init_149 : decode cX11_init 149 = .ok (.newarray .int, 2) := by decide +kernel
theorem dX11_init_151 : decode cX11_init 151 = .ok (.putfield 65, 3) := by decide +kernel
theorem dX11_init_154 : decode cX11_init 154 = .ok (.aload_n 0, 1) := by decide +kernel
theorem dX11_init_155 : decode cX11_init 155 = .ok (.bipush 6, 2) := by decide +kernel
theorem dX11_init_157 : decode cX11_init 157 = .ok (.newarray .int, 2) := by decide +kernel
theorem dX11_init_159 : decode cX11_init 159 = .ok (.putfield 68, 3) := by decide +kernel
theorem dX11_init_162 : decode cX11_init 162 = .ok (.aload_n 0, 1) := by decide +kernel
theorem dX11_init_163 : decode cX11_init 163 = .ok (.bipush 80, 2) := by decide +kernel
theorem dX11_init_165 : decode cX11_init 165 = .ok (.newarray .int, 2) := by decide +kernel
theorem dX11_init_167 : decode cX11_init 167 = .ok (.putfield 71, 3) := by decide +kernel
theorem dX11_init_170 : decode cX11_init 170 = .ok (.aload_n 0, 1) := by decide +kernel
theorem dX11_init_171 : decode cX11_init 171 = .ok (.bipush 36, 2) := by decide +kernel
theorem dX11_init_173 : decode cX11_init 173 = .ok (.newarray .int, 2) := by decide +kernel
theorem dX11_init_175 : decode cX11_init 175 = .ok (.putfield 74, 3) := by decide +kernel
theorem dX11_init_178 : decode cX11_init 178 = .ok (.aload_n 0, 1) := by decide +kernel
theorem dX11_init_179 : decode cX11_init 179 = .ok (.getfield 7, 3) := by decide +kernel
theorem dX11_init_182 : decode cX11_init 182 = .ok (.bipush 6, 2) := by decide +kernel
theorem dX11_init_184 : decode cX11_init 184 = .ok (.iconst (-1), 1) := by decide +kernel
theorem dX11_init_185 : decode cX11_init 185 = .ok (.iastore, 1) := by decide +kernel
theorem dX11_init_186 : decode cX11_init 186 = .ok (.return_, 1) := by decide +kernel
theorem dX11_isIn_0 : decode cX11_isIn 0 = .ok (.iload_n 0, 1) := by decide +kernel
theorem dX11_isIn_1 : decode cX11_isIn 1 = .ok (.iload_n 1, 1) := by decide +kernel
theorem dX11_isIn_2 : decode cX11_isIn 2 = .ok (.if_icmp .lt 12, 3) := by decide +kernel
theorem dX11_isIn_5 : decode cX11_isIn 5 = .ok (.iload_n 0, 1) := by decide +kernel
theorem dX11_isIn_6 : decode cX11_isIn 6 = .ok (.iload_n 2, 1) := by decide +kernel
theorem dX11_isIn_7 : decode cX11_isIn 7 = .ok (.if_icmp .gt 7, 3) := by decide +kernel
theorem dX11_isIn_10 : decode cX11_isIn 10 = .ok (.iconst 1, 1) := by decide +kernel
theorem dX11_isIn_11 : decode cX11_isIn 11 = .ok (.goto 4, 3) := by decide +kernel
theorem dX11_isIn_14 : decode cX11_isIn 14 = .ok (.iconst 0, 1) := by decide +kernel
theorem dX11_isIn_15 : decode cX11_isIn 15 = .ok (.ireturn, 1) := by decide +kernel
theorem dX11_feed_0 : decode cX11_feed 0 = .ok (.aload_n 0, 1) := by decide +kernel
theorem dX11_feed_1 : decode cX11_feed 1 = .ok (.getfield 7, 3) := by decide +kernel
theorem dX11_feed_4 : decode cX11_feed 4 = .ok (.iconst 4, 1) := by decide +kernel
theorem dX11_feed_5 : decode cX11_feed 5 = .ok (.iaload, 1) := by decide +kernel
theorem dX11_feed_6 : decode cX11_feed 6 = .ok (.bipush 20, 2) := by decide +kernel
theorem dX11_feed_8 : decode cX11_feed 8 = .ok (.iadd, 1) := by decide +kernel
theorem dX11_feed_9 : decode cX11_feed 9 = .ok (.sipush 600, 3) := by decide +kernel
theorem dX11_feed_12 : decode cX11_feed 12 = .ok (.if_icmp .le 5, 3) := by decide +kernel
theorem dX11_feed_15 : decode cX11_feed 15 = .ok (.iconst (-1), 1) := by decide +kernel
theorem dX11_feed_16 : decode cX11_feed 16 = .ok (.ireturn, 1) := by decide +kernel
theorem dX11_feed_17 : decode cX11_feed 17 = .ok (.iconst 0, 1) := by decide +kernel
theorem dX11_feed_18 : decode cX11_feed 18 = .ok (.istore 6, 2) := by decide +kernel
theorem dX11_feed_20 : decode cX11_feed 20 = .ok (.iload 6, 2) := by decide +kernel
theorem dX11_feed_22 : decode cX11_feed 22 = .ok (.bipush 20, 2) := by decide +kernel
theorem dX11_feed_24 : decode cX11_feed 24 = .ok (.if_icmp .ge 98, 3) := by decide +kernel
theorem dX11_feed_27 : decode cX11_feed 27 = .ok (.iload 6, 2) := by decide +kernel
theorem dX11_feed_29 : decode cX11_feed 29 = .ok (.iconst 4, 1) := by decide +kernel
theorem dX11_feed_30 : decode cX11_feed 30 = .ok (.if_icmp .ge 7, 3) := by decide +kernel
theorem dX11_feed_33 : decode cX11_feed 33 = .ok (.iload_n 1, 1) := by decide +kernel
theorem dX11_feed_34 : decode cX11_feed 34 = .ok (.goto 39, 3) := by decide +kernel
theorem dX11_feed_37 : decode cX11_feed 37 = .ok (.iload 6, 2) := by decide +kernel
theorem dX11_feed_39 : decode cX11_feed 39 = .ok (.bipush 8, 2) := by decide +kernel
theorem dX11_feed_41 : decode cX11_feed 41 = .ok (.if_icmp .ge 7, 3) := by decide +kernel
theorem dX11_feed_44 : decode cX11_feed 44 = .ok (.iload_n 2, 1) := by decide +kernel
theorem dX11_feed_45 : decode cX11_feed 45 = .ok (.goto 28, 3) := by decide +kernel
theorem dX11_feed_48 : decode cX11_feed 48 = .ok (.iload 6, 2) := by decide +kernel
theorem dX11_feed_50 : decode cX11_feed 50 = .ok (.bipush 12, 2) := by decide +kernel
theorem dX11_feed_52 : decode cX11_feed 52 = .ok (.if_icmp .ge 7, 3) := by decide +kernel
theorem dX11_feed_55 : decode cX11_feed 55 = .ok (.iload_n 3, 1) := by decide +kernel
theorem dX11_feed_56 : decode cX11_feed 56 = .ok (.goto 17, 3) := by decide +kernel
theorem dX11_feed_59 : decode cX11_feed 59 = .ok (.iload 6, 2) := by decide +kernel
theorem dX11_feed_61 : decode cX11_feed 61 = .ok (.bipush 16, 2) := by decide +kernel
theorem dX11_feed_63 : decode cX11_feed 63 = .ok (.if_icmp .ge 8, 3) := by decide +kernel
theorem dX11_feed_66 : decode cX11_feed 66 = .ok (.iload 4, 2) := by decide +kernel
theorem dX11_feed_68 : decode cX11_feed 68 = .ok (.goto 5, 3) := by decide +kernel
theorem dX11_feed_71 : decode cX11_feed 71 = .ok (.iload 5, 2) := by decide +kernel
theorem dX11_feed_73 : decode cX11_feed 73 = .ok (.istore 7, 2) := by decide +kernel
theorem dX11_feed_75 : decode cX11_feed 75 = .ok (.aload_n 0, 1) := by decide +kernel
theorem dX11_feed_76 : decode cX11_feed 76 = .ok (.getfield 7, 3) := by decide +kernel
theorem dX11_feed_79 : decode cX11_feed 79 = .ok (.bipush 10, 2) := by decide +kernel
theorem dX11_feed_81 : decode cX11_feed 81 = .ok (.aload_n 0, 1) := by decide +kernel
theorem dX11_feed_82 : decode cX11_feed 82 = .ok (.getfield 7, 3) := by decide +kernel
theorem dX11_feed_85 : decode cX11_feed 85 = .ok (.iconst 4, 1) := by decide +kernel
theorem dX11_feed_86 : decode cX11_feed 86 = .ok (.iaload, 1) := by decide +kernel
theorem dX11_feed_87 : decode cX11_feed 87 = .ok (.iadd, 1) := by decide +kernel
theorem dX11_feed_88 : decode cX11_feed 88 = .ok (.iload 7, 2) := by decide +kernel
theorem dX11_feed_90 : decode cX11_feed 90 = .ok (.bipush 24, 2) := by decide +kernel
theorem dX11_feed_92 : decode cX11_feed 92 = .ok (.bipush 8, 2) := by decide +kernel
theorem dX11_feed_94 : decode cX11_feed 94 = .ok (.iload 6, 2) := by decide +kernel
theorem dX11_feed_96 : decode cX11_feed 96 = .ok (.iconst 4, 1) := by decide +kernel
theorem dX11_feed_97 : decode cX11_feed 97 = .ok (.irem, 1) := by decide +kernel
theorem dX11_feed_98 : decode cX11_feed 98 = .ok (.imul, 1) := by decide +kernel
theorem dX11_feed_99 : decode cX11_feed 99 = .ok (.isub, 1) := by decide +kernel
theorem dX11_feed_100 : decode cX11_feed 100 = .ok (.ishr, 1) := by decide +kernel
theorem dX11_feed_101 : decode cX11_feed 101 = .ok (.sipush 255, 3) := by decide +kernel
theorem dX11_feed_104 : decode cX11_feed 104 = .ok (.iand, 1) := by decide +kernel
theorem dX11_feed_105 : decode cX11_feed 105 = .ok (.iastore, 1) := by decide +kernel
theorem dX11_feed_106 : decode cX11_feed 106 = .ok (.aload_n 0, 1) := by decide +kernel
theorem dX11_feed_107 : decode cX11_feed 107 = .ok (.getfield 7, 3) := by decide +kernel
theorem dX11_feed_110 : decode cX11_feed 110 = .ok (.iconst 4, 1) := by decide +kernel
theorem dX11_feed_111 : decode cX11_feed 111 = .ok (.dup2, 1) := by decide +kernel
theorem dX11_feed_112 : decode cX11_feed 112 = .ok (.iaload, 1) := by decide +kernel
theorem dX11_feed_113 : decode cX11_feed 113 = .ok (.iconst 1, 1) := by decide +kernel
theorem dX11_feed_114 : decode cX11_feed 114 = .ok (.iadd, 1) := by decide +kernel
theorem dX11_feed_115 : decode cX11_feed 115 = .ok (.iastore, 1) := by decide +kernel
theorem dX11_feed_116 : decode cX11_feed 116 = .ok (.iinc 6 1, 3) := by decide +kernel
theorem dX11_feed_119 : decode cX11_feed 119 = .ok (.goto (-99), 3) := by decide +kernel
theorem dX11_feed_122 : decode cX11_feed 122 = .ok (.aload_n 0, 1) := by decide +kernel
theorem dX11_feed_123 : decode cX11_feed 123 = .ok (.getfield 7, 3) := by decide +kernel
theorem dX11_feed_126 : decode cX11_feed 126 = .ok (.iconst 4, 1) := by decide +kernel
theorem dX11_feed_127 : decode cX11_feed 127 = .ok (.iaload, 1) := by decide +kernel
theorem dX11_feed_128 : decode cX11_feed 128 = .ok (.ireturn, 1) := by decide +kernel
theorem dX11_end_0 : decode cX11_end 0 = .ok (.iload_n 1, 1) := by decide +kernel
theorem dX11_end_1 : decode cX11_end 1 = .ok (.ifCond .lt 13, 3) := by decide +kernel
theorem dX11_end_4 : decode cX11_end 4 = .ok (.iload_n 1, 1) := by decide +kernel
theorem dX11_end_5 : decode cX11_end 5 = .ok (.aload_n 0, 1) := by decide +kernel
theorem dX11_end_6 : decode cX11_end 6 = .ok (.getfield 7, 3) := by decide +kernel
theorem dX11_end_9 : decode cX11_end 9 = .ok (.iconst 4, 1) := by decide +kernel
theorem dX11_end_10 : decode cX11_end 10 = .ok (.iaload, 1) := by decide +kernel
theorem dX11_end_11 : decode cX11_end 11 = .ok (.if_icmp .le 5, 3) := by decide +kernel
theorem dX11_end_14 : decode cX11_end 14 = .ok (.iconst (-1), 1) := by decide +kernel
theorem dX11_end_15 : decode cX11_end 15 = .ok (.ireturn, 1) := by decide +kernel
theorem dX11_end_16 : decode cX11_end 16 = .ok (.aload_n 0, 1) := by decide +kernel
theorem dX11_end_17 : decode cX11_end 17 = .ok (.getfield 7, 3) := by decide +kernel
theorem dX11_end_20 : decode cX11_end 20 = .ok (.iconst 4, 1) := by decide +kernel
theorem dX11_end_21 : decode cX11_end 21 = .ok (.iload_n 1, 1) := by decide +kernel
theorem dX11_end_22 : decode cX11_end 22 = .ok (.iastore, 1) := by decide +kernel
theorem dX11_end_23 : decode cX11_end 23 = .ok (.iload_n 1, 1) := by decide +kernel
theorem dX11_end_24 : decode cX11_end 24 = .ok (.ireturn, 1) := by decide +kernel
theorem dX11_byteAt_0 : decode cX11_byteAt 0 = .ok (.iload_n 1, 1) := by decide +kernel
theorem dX11_byteAt_1 : decode cX11_byteAt 1 = .ok (.aload_n 0, 1) := by decide +kernel
theorem dX11_byteAt_2 : decode cX11_byteAt 2 = .ok (.getfield 77, 3) := by decide +kernel
theorem dX11_byteAt_5 : decode cX11_byteAt 5 = .ok (.if_icmp .ge 15, 3) := by decide +kernel
theorem dX11_byteAt_8 : decode cX11_byteAt 8 = .ok (.aload_n 0, 1) := by decide +kernel
theorem dX11_byteAt_9 : decode cX11_byteAt 9 = .ok (.getfield 7, 3) := by decide +kernel
theorem dX11_byteAt_12 : decode cX11_byteAt 12 = .ok (.bipush 10, 2) := by decide +kernel
theorem dX11_byteAt_14 : decode cX11_byteAt 14 = .ok (.iload_n 1, 1) := by decide +kernel
theorem dX11_byteAt_15 : decode cX11_byteAt 15 = .ok (.iadd, 1) := by decide +kernel
theorem dX11_byteAt_16 : decode cX11_byteAt 16 = .ok (.iaload, 1) := by decide +kernel
theorem dX11_byteAt_17 : decode cX11_byteAt 17 = .ok (.goto 4, 3) := by decide +kernel
theorem dX11_byteAt_20 : decode cX11_byteAt 20 = .ok (.iconst (-1), 1) := by decide +kernel
theorem dX11_byteAt_21 : decode cX11_byteAt 21 = .ok (.ireturn, 1) := by decide +kernel
theorem dX11_isLetter_0 : decode cX11_isLetter 0 = .ok (.iload_n 0, 1) := by decide +kernel
theorem dX11_isLetter_1 : decode cX11_isLetter 1 = .ok (.bipush 97, 2) := by decide +kernel
theorem dX11_isLetter_3 : decode cX11_isLetter 3 = .ok (.if_icmp .lt 13, 3) := by decide +kernel
theorem dX11_isLetter_6 : decode cX11_isLetter 6 = .ok (.iload_n 0, 1) := by decide +kernel
theorem dX11_isLetter_7 : decode cX11_isLetter 7 = .ok (.bipush 122, 2) := by decide +kernel
theorem dX11_isLetter_9 : decode cX11_isLetter 9 = .ok (.if_icmp .gt 7, 3) := by decide +kernel
theorem dX11_isLetter_12 : decode cX11_isLetter 12 = .ok (.iconst 1, 1) := by decide +kernel
theorem dX11_isLetter_13 : decode cX11_isLetter 13 = .ok (.goto 4, 3) := by decide +kernel
theorem dX11_isLetter_16 : decode cX11_isLetter 16 = .ok (.iconst 0, 1) := by decide +kernel
theorem dX11_isLetter_17 : decode cX11_isLetter 17 = .ok (.ireturn, 1) := by decide +kernel
theorem dX11_isDigit_0 : decode cX11_isDigit 0 = .ok (.iload_n 0, 1) := by decide +kernel
theorem dX11_isDigit_1 : decode cX11_isDigit 1 = .ok (.bipush 48, 2) := by decide +kernel
theorem dX11_isDigit_3 : decode cX11_isDigit 3 = .ok (.if_icmp .lt 13, 3) := by decide +kernel
theorem dX11_isDigit_6 : decode cX11_isDigit 6 = .ok (.iload_n 0, 1) := by decide +kernel
theorem dX11_isDigit_7 : decode cX11_isDigit 7 = .ok (.bipush 57, 2) := by decide +kernel
theorem dX11_isDigit_9 : decode cX11_isDigit 9 = .ok (.if_icmp .gt 7, 3) := by decide +kernel
theorem dX11_isDigit_12 : decode cX11_isDigit 12 = .ok (.iconst 1, 1) := by decide +kernel
theorem dX11_isDigit_13 : decode cX11_isDigit 13 = .ok (.goto 4, 3) := by decide +kernel
theorem dX11_isDigit_16 : decode cX11_isDigit 16 = .ok (.iconst 0, 1) := by decide +kernel
theorem dX11_isDigit_17 : decode cX11_isDigit 17 = .ok (.ireturn, 1) := by decide +kernel
theorem dX11_four_0 : decode cX11_four 0 = .ok (.iload_n 0, 1) := by decide +kernel
theorem dX11_four_1 : decode cX11_four 1 = .ok (.bipush 32, 2) := by decide +kernel
theorem dX11_four_3 : decode cX11_four 3 = .ok (.imul, 1) := by decide +kernel
theorem dX11_four_4 : decode cX11_four 4 = .ok (.iload_n 1, 1) := by decide +kernel
theorem dX11_four_5 : decode cX11_four 5 = .ok (.iadd, 1) := by decide +kernel
theorem dX11_four_6 : decode cX11_four 6 = .ok (.bipush 32, 2) := by decide +kernel
theorem dX11_four_8 : decode cX11_four 8 = .ok (.imul, 1) := by decide +kernel
theorem dX11_four_9 : decode cX11_four 9 = .ok (.iload_n 2, 1) := by decide +kernel
theorem dX11_four_10 : decode cX11_four 10 = .ok (.iadd, 1) := by decide +kernel
theorem dX11_four_11 : decode cX11_four 11 = .ok (.bipush 32, 2) := by decide +kernel
theorem dX11_four_13 : decode cX11_four 13 = .ok (.imul, 1) := by decide +kernel
theorem dX11_four_14 : decode cX11_four 14 = .ok (.iload_n 3, 1) := by decide +kernel
theorem dX11_four_15 : decode cX11_four 15 = .ok (.iadd, 1) := by decide +kernel
theorem dX11_four_16 : decode cX11_four 16 = .ok (.i2l, 1) := by decide +kernel
theorem dX11_four_17 : decode cX11_four 17 = .ok (.lreturn, 1) := by decide +kernel
theorem dX11_eight_0 : decode cX11_eight 0 = .ok (.iload_n 0, 1) := by decide +kernel
theorem dX11_eight_1 : decode cX11_eight 1 = .ok (.iload_n 1, 1) := by decide +kernel
theorem dX11_eight_2 : decode cX11_eight 2 = .ok (.iload_n 2, 1) := by decide +kernel
theorem dX11_eight_3 : decode cX11_eight 3 = .ok (.iload_n 3, 1) := by decide +kernel
theorem dX11_eight_4 : decode cX11_eight 4 = .ok (.invokestatic 81, 3) := by decide +kernel
theorem dX11_eight_7 : decode cX11_eight 7 = .ok (.ldc2_w 85, 3) := by decide +kernel
theorem dX11_eight_10 : decode cX11_eight 10 = .ok (.lmul, 1) := by decide +kernel
theorem dX11_eight_11 : decode cX11_eight 11 = .ok (.iload 4, 2) := by decide +kernel
theorem dX11_eight_13 : decode cX11_eight 13 = .ok (.iload 5, 2) := by decide +kernel
theorem dX11_eight_15 : decode cX11_eight 15 = .ok (.iload 6, 2) := by decide +kernel
theorem dX11_eight_17 : decode cX11_eight 17 = .ok (.iload 7, 2) := by decide +kernel
theorem dX11_eight_19 : decode cX11_eight 19 = .ok (.invokestatic 81, 3) := by decide +kernel
theorem dX11_eight_22 : decode cX11_eight 22 = .ok (.ladd, 1) := by decide +kernel
theorem dX11_eight_23 : decode cX11_eight 23 = .ok (.lreturn, 1) := by decide +kernel
theorem dX11_wordOf_0 : decode cX11_wordOf 0 = .ok (.lload_n 0, 1) := by decide +kernel
theorem dX11_wordOf_1 : decode cX11_wordOf 1 = .ok (.bipush 23, 2) := by decide +kernel
theorem dX11_wordOf_3 : decode cX11_wordOf 3 = .ok (.bipush 15, 2) := by decide +kernel
theorem dX11_wordOf_5 : decode cX11_wordOf 5 = .ok (.bipush 18, 2) := by decide +kernel
theorem dX11_wordOf_7 : decode cX11_wordOf 7 = .ok (.iconst 4, 1) := by decide +kernel
theorem dX11_wordOf_8 : decode cX11_wordOf 8 = .ok (.invokestatic 81, 3) := by decide +kernel
theorem dX11_wordOf_11 : decode cX11_wordOf 11 = .ok (.lcmp, 1) := by decide +kernel
theorem dX11_wordOf_12 : decode cX11_wordOf 12 = .ok (.ifCond .ne 5, 3) := by decide +kernel
theorem dX11_wordOf_15 : decode cX11_wordOf 15 = .ok (.iconst 1, 1) := by decide +kernel
theorem dX11_wordOf_16 : decode cX11_wordOf 16 = .ok (.ireturn, 1) := by decide +kernel
theorem dX11_wordOf_17 : decode cX11_wordOf 17 = .ok (.lload_n 0, 1) := by decide +kernel
theorem dX11_wordOf_18 : decode cX11_wordOf 18 = .ok (.bipush 14, 2) := by decide +kernel
theorem dX11_wordOf_20 : decode cX11_wordOf 20 = .ok (.iconst 5, 1) := by decide +kernel
theorem dX11_wordOf_21 : decode cX11_wordOf 21 = .ok (.iconst 1, 1) := by decide +kernel
theorem dX11_wordOf_22 : decode cX11_wordOf 22 = .ok (.bipush 18, 2) := by decide +kernel
theorem dX11_wordOf_24 : decode cX11_wordOf 24 = .ok (.invokestatic 81, 3) := by decide +kernel
theorem dX11_wordOf_27 : decode cX11_wordOf 27 = .ok (.lcmp, 1) := by decide +kernel
theorem dX11_wordOf_28 : decode cX11_wordOf 28 = .ok (.ifCond .ne 5, 3) := by decide +kernel
theorem dX11_wordOf_31 : decode cX11_wordOf 31 = .ok (.iconst 2, 1) := by decide +kernel
theorem dX11_wordOf_32 : decode cX11_wordOf 32 = .ok (.ireturn, 1) := by decide +kernel
theorem dX11_wordOf_33 : decode cX11_wordOf 33 = .ok (.lload_n 0, 1) := by decide +kernel
theorem dX11_wordOf_34 : decode cX11_wordOf 34 = .ok (.iconst 0, 1) := by decide +kernel
theorem dX11_wordOf_35 : decode cX11_wordOf 35 = .ok (.iconst 0, 1) := by decide +kernel
theorem dX11_wordOf_36 : decode cX11_wordOf 36 = .ok (.bipush 18, 2) := by decide +kernel
theorem dX11_wordOf_38 : decode cX11_wordOf 38 = .ok (.iconst 5, 1) := by decide +kernel
theorem dX11_wordOf_39 : decode cX11_wordOf 39 = .ok (.iconst 1, 1) := by decide +kernel
theorem dX11_wordOf_40 : decode cX11_wordOf 40 = .ok (.iconst 4, 1) := by decide +kernel
theorem dX11_wordOf_41 : decode cX11_wordOf 41 = .ok (.iconst 5, 1) := by decide +kernel
theorem dX11_wordOf_42 : decode cX11_wordOf 42 = .ok (.bipush 18, 2) := by decide +kernel
theorem dX11_wordOf_44 : decode cX11_wordOf 44 = .ok (.invokestatic 87, 3) := by decide +kernel
theorem dX11_wordOf_47 : decode cX11_wordOf 47 = .ok (.lcmp, 1) := by decide +kernel
theorem dX11_wordOf_48 : decode cX11_wordOf 48 = .ok (.ifCond .ne 5, 3) := by decide +kernel
theorem dX11_wordOf_51 : decode cX11_wordOf 51 = .ok (.iconst 3, 1) := by decide +kernel
theorem dX11_wordOf_52 : decode cX11_wordOf 52 = .ok (.ireturn, 1) := by decide +kernel
theorem dX11_wordOf_53 : decode cX11_wordOf 53 = .ok (.lload_n 0, 1) := by decide +kernel
theorem dX11_wordOf_54 : decode cX11_wordOf 54 = .ok (.iconst 0, 1) := by decide +kernel
theorem dX11_wordOf_55 : decode cX11_wordOf 55 = .ok (.iconst 0, 1) := by decide +kernel
theorem dX11_wordOf_56 : decode cX11_wordOf 56 = .ok (.iconst 0, 1) := by decide +kernel
theorem dX11_wordOf_57 : decode cX11_wordOf 57 = .ok (.bipush 23, 2) := by decide +kernel
theorem dX11_wordOf_59 : decode cX11_wordOf 59 = .ok (.iconst 1, 1) := by decide +kernel
theorem dX11_wordOf_60 : decode cX11_wordOf 60 = .ok (.bipush 14, 2) := by decide +kernel
theorem dX11_wordOf_62 : decode cX11_wordOf 62 = .ok (.bipush 20, 2) := by decide +kernel
theorem dX11_wordOf_64 : decode cX11_wordOf 64 = .ok (.bipush 19, 2) := by decide +kernel
theorem dX11_wordOf_66 : decode cX11_wordOf 66 = .ok (.invokestatic 87, 3) := by decide +kernel
theorem dX11_wordOf_69 : decode cX11_wordOf 69 = .ok (.lcmp, 1) := by decide +kernel
theorem dX11_wordOf_70 : decode cX11_wordOf 70 = .ok (.ifCond .ne 5, 3) := by decide +kernel
theorem dX11_wordOf_73 : decode cX11_wordOf 73 = .ok (.iconst 4, 1) := by decide +kernel
theorem dX11_wordOf_74 : decode cX11_wordOf 74 = .ok (.ireturn, 1) := by decide +kernel
theorem dX11_wordOf_75 : decode cX11_wordOf 75 = .ok (.lload_n 0, 1) := by decide +kernel
theorem dX11_wordOf_76 : decode cX11_wordOf 76 = .ok (.bipush 18, 2) := by decide +kernel
theorem dX11_wordOf_78 : decode cX11_wordOf 78 = .ok (.iconst 5, 1) := by decide +kernel
theorem dX11_wordOf_79 : decode cX11_wordOf 79 = .ok (.iconst 1, 1) := by decide +kernel
theorem dX11_wordOf_80 : decode cX11_wordOf 80 = .ok (.iconst 4, 1) := by decide +kernel
theorem dX11_wordOf_81 : decode cX11_wordOf 81 = .ok (.invokestatic 81, 3) := by decide +kernel
theorem dX11_wordOf_84 : decode cX11_wordOf 84 = .ok (.lcmp, 1) := by decide +kernel
theorem dX11_wordOf_85 : decode cX11_wordOf 85 = .ok (.ifCond .ne 5, 3) := by decide +kernel
theorem dX11_wordOf_88 : decode cX11_wordOf 88 = .ok (.iconst 5, 1) := by decide +kernel
theorem dX11_wordOf_89 : decode cX11_wordOf 89 = .ok (.ireturn, 1) := by decide +kernel
theorem dX11_wordOf_90 : decode cX11_wordOf 90 = .ok (.lload_n 0, 1) := by decide +kernel
theorem dX11_wordOf_91 : decode cX11_wordOf 91 = .ok (.iconst 0, 1) := by decide +kernel
theorem dX11_wordOf_92 : decode cX11_wordOf 92 = .ok (.bipush 19, 2) := by decide +kernel
theorem dX11_wordOf_94 : decode cX11_wordOf 94 = .ok (.iconst 5, 1) := by decide +kernel
theorem dX11_wordOf_95 : decode cX11_wordOf 95 = .ok (.bipush 20, 2) := by decide +kernel
theorem dX11_wordOf_97 : decode cX11_wordOf 97 = .ok (.invokestatic 81, 3) := by decide +kernel
theorem dX11_wordOf_100 : decode cX11_wordOf 100 = .ok (.lcmp, 1) := by decide +kernel
theorem dX11_wordOf_101 : decode cX11_wordOf 101 = .ok (.ifCond .ne 6, 3) := by decide +kernel
theorem dX11_wordOf_104 : decode cX11_wordOf 104 = .ok (.bipush 6, 2) := by decide +kernel
theorem dX11_wordOf_106 : decode cX11_wordOf 106 = .ok (.ireturn, 1) := by decide +kernel
theorem dX11_wordOf_107 : decode cX11_wordOf 107 = .ok (.lload_n 0, 1) := by decide +kernel
theorem dX11_wordOf_108 : decode cX11_wordOf 108 = .ok (.bipush 19, 2) := by decide +kernel
theorem dX11_wordOf_110 : decode cX11_wordOf 110 = .ok (.bipush 20, 2) := by decide +kernel
theorem dX11_wordOf_112 : decode cX11_wordOf 112 = .ok (.iconst 5, 1) := by decide +kernel
theorem dX11_wordOf_113 : decode cX11_wordOf 113 = .ok (.bipush 20, 2) := by decide +kernel
theorem dX11_wordOf_115 : decode cX11_wordOf 115 = .ok (.invokestatic 81, 3) := by decide +kernel
theorem dX11_wordOf_118 : decode cX11_wordOf 118 = .ok (.lcmp, 1) := by decide +kernel
theorem dX11_wordOf_119 : decode cX11_wordOf 119 = .ok (.ifCond .ne 6, 3) := by decide +kernel
theorem dX11_wordOf_122 : decode cX11_wordOf 122 = .ok (.bipush 7, 2) := by decide +kernel
theorem dX11_wordOf_124 : decode cX11_wordOf 124 = .ok (.ireturn, 1) := by decide +kernel
theorem dX11_wordOf_125 : decode cX11_wordOf 125 = .ok (.lload_n 0, 1) := by decide +kernel
theorem dX11_wordOf_126 : decode cX11_wordOf 126 = .ok (.bipush 10, 2) := by decide +kernel
theorem dX11_wordOf_128 : decode cX11_wordOf 128 = .ok (.bipush 15, 2) := by decide +kernel
theorem dX11_wordOf_130 : decode cX11_wordOf 130 = .ok (.bipush 9, 2) := by decide +kernel
theorem dX11_wordOf_132 : decode cX11_wordOf 132 = .ok (.bipush 14, 2) := by decide +kernel
theorem dX11_wordOf_134 : decode cX11_wordOf 134 = .ok (.invokestatic 81, 3) := by decide +kernel
theorem dX11_wordOf_137 : decode cX11_wordOf 137 = .ok (.lcmp, 1) := by decide +kernel
theorem dX11_wordOf_138 : decode cX11_wordOf 138 = .ok (.ifCond .ne 6, 3) := by decide +kernel
theorem dX11_wordOf_141 : decode cX11_wordOf 141 = .ok (.bipush 8, 2) := by decide +kernel
theorem dX11_wordOf_143 : decode cX11_wordOf 143 = .ok (.ireturn, 1) := by decide +kernel
theorem dX11_wordOf_144 : decode cX11_wordOf 144 = .ok (.lload_n 0, 1) := by decide +kernel
theorem dX11_wordOf_145 : decode cX11_wordOf 145 = .ok (.bipush 16, 2) := by decide +kernel
theorem dX11_wordOf_147 : decode cX11_wordOf 147 = .ok (.iconst 1, 1) := by decide +kernel
theorem dX11_wordOf_148 : decode cX11_wordOf 148 = .ok (.bipush 18, 2) := by decide +kernel
theorem dX11_wordOf_150 : decode cX11_wordOf 150 = .ok (.bipush 20, 2) := by decide +kernel
theorem dX11_wordOf_152 : decode cX11_wordOf 152 = .ok (.invokestatic 81, 3) := by decide +kernel
theorem dX11_wordOf_155 : decode cX11_wordOf 155 = .ok (.lcmp, 1) := by decide +kernel
theorem dX11_wordOf_156 : decode cX11_wordOf 156 = .ok (.ifCond .ne 6, 3) := by decide +kernel
theorem dX11_wordOf_159 : decode cX11_wordOf 159 = .ok (.bipush 9, 2) := by decide +kernel
theorem dX11_wordOf_161 : decode cX11_wordOf 161 = .ok (.ireturn, 1) := by decide +kernel
theorem dX11_wordOf_162 : decode cX11_wordOf 162 = .ok (.lload_n 0, 1) := by decide +kernel
theorem dX11_wordOf_163 : decode cX11_wordOf 163 = .ok (.iconst 0, 1) := by decide +kernel
theorem dX11_wordOf_164 : decode cX11_wordOf 164 = .ok (.iconst 0, 1) := by decide +kernel
theorem dX11_wordOf_165 : decode cX11_wordOf 165 = .ok (.iconst 0, 1) := by decide +kernel
theorem dX11_wordOf_166 : decode cX11_wordOf 166 = .ok (.bipush 16, 2) := by decide +kernel
theorem dX11_wordOf_168 : decode cX11_wordOf 168 = .ok (.bipush 18, 2) := by decide +kernel
theorem dX11_wordOf_170 : decode cX11_wordOf 170 = .ok (.bipush 9, 2) := by decide +kernel
theorem dX11_wordOf_172 : decode cX11_wordOf 172 = .ok (.bipush 14, 2) := by decide +kernel
theorem dX11_wordOf_174 : decode cX11_wordOf 174 = .ok (.bipush 20, 2) := by decide +kernel
theorem dX11_wordOf_176 : decode cX11_wordOf 176 = .ok (.invokestatic 87, 3) := by decide +kernel
theorem dX11_wordOf_179 : decode cX11_wordOf 179 = .ok (.lcmp, 1) := by decide +kernel
theorem dX11_wordOf_180 : decode cX11_wordOf 180 = .ok (.ifCond .ne 6, 3) := by decide +kernel
theorem dX11_wordOf_183 : decode cX11_wordOf 183 = .ok (.bipush 10, 2) := by decide +kernel
theorem dX11_wordOf_185 : decode cX11_wordOf 185 = .ok (.ireturn, 1) := by decide +kernel
theorem dX11_wordOf_186 : decode cX11_wordOf 186 = .ok (.lload_n 0, 1) := by decide +kernel
theorem dX11_wordOf_187 : decode cX11_wordOf 187 = .ok (.iconst 0, 1) := by decide +kernel
theorem dX11_wordOf_188 : decode cX11_wordOf 188 = .ok (.bipush 23, 2) := by decide +kernel
theorem dX11_wordOf_190 : decode cX11_wordOf 190 = .ok (.iconst 1, 1) := by decide +kernel
theorem dX11_wordOf_191 : decode cX11_wordOf 191 = .ok (.bipush 19, 2) := by decide +kernel
theorem dX11_wordOf_193 : decode cX11_wordOf 193 = .ok (.invokestatic 81, 3) := by decide +kernel
theorem dX11_wordOf_196 : decode cX11_wordOf 196 = .ok (.lcmp, 1) := by decide +kernel
theorem dX11_wordOf_197 : decode cX11_wordOf 197 = .ok (.ifCond .ne 8, 3) := by decide +kernel
theorem dX11_wordOf_200 : decode cX11_wordOf 200 = .ok (.bipush 11, 2) := by decide +kernel
theorem dX11_wordOf_202 : decode cX11_wordOf 202 = .ok (.goto 5, 3) := by decide +kernel
theorem dX11_wordOf_205 : decode cX11_wordOf 205 = .ok (.bipush 99, 2) := by decide +kernel
theorem dX11_wordOf_207 : decode cX11_wordOf 207 = .ok (.ireturn, 1) := by decide +kernel
theorem dX11_advance_0 : decode cX11_advance 0 = .ok (.aload_n 0, 1) := by decide +kernel
theorem dX11_advance_1 : decode cX11_advance 1 = .ok (.aload_n 0, 1) := by decide +kernel
theorem dX11_advance_2 : decode cX11_advance 2 = .ok (.getfield 91, 3) := by decide +kernel
theorem dX11_advance_5 : decode cX11_advance 5 = .ok (.invokevirtual 94, 3) := by decide +kernel
theorem dX11_advance_8 : decode cX11_advance 8 = .ok (.bipush 10, 2) := by decide +kernel
theorem dX11_advance_10 : decode cX11_advance 10 = .ok (.if_icmp .eq 16, 3) := by decide +kernel
theorem dX11_advance_13 : decode cX11_advance 13 = .ok (.aload_n 0, 1) := by decide +kernel
theorem dX11_advance_14 : decode cX11_advance 14 = .ok (.aload_n 0, 1) := by decide +kernel
theorem dX11_advance_15 : decode cX11_advance 15 = .ok (.getfield 91, 3) := by decide +kernel
theorem dX11_advance_18 : decode cX11_advance 18 = .ok (.invokevirtual 94, 3) := by decide +kernel
theorem dX11_advance_21 : decode cX11_advance 21 = .ok (.bipush 32, 2) := by decide +kernel
theorem dX11_advance_23 : decode cX11_advance 23 = .ok (.if_icmp .ne 16, 3) := by decide +kernel
theorem dX11_advance_26 : decode cX11_advance 26 = .ok (.aload_n 0, 1) := by decide +kernel
theorem dX11_advance_27 : decode cX11_advance 27 = .ok (.dup, 1) := by decide +kernel
theorem dX11_advance_28 : decode cX11_advance 28 = .ok (.getfield 91, 3) := by decide +kernel
theorem dX11_advance_31 : decode cX11_advance 31 = .ok (.iconst 1, 1) := by decide +kernel
theorem dX11_advance_32 : decode cX11_advance 32 = .ok (.iadd, 1) := by decide +kernel
theorem dX11_advance_33 : decode cX11_advance 33 = .ok (.putfield 91, 3) := by decide +kernel
theorem dX11_advance_36 : decode cX11_advance 36 = .ok (.goto (-36), 3) := by decide +kernel
theorem dX11_advance_39 : decode cX11_advance 39 = .ok (.aload_n 0, 1) := by decide +kernel
theorem dX11_advance_40 : decode cX11_advance 40 = .ok (.aload_n 0, 1) := by decide +kernel
theorem dX11_advance_41 : decode cX11_advance 41 = .ok (.getfield 91, 3) := by decide +kernel
theorem dX11_advance_44 : decode cX11_advance 44 = .ok (.putfield 98, 3) := by decide +kernel
theorem dX11_advance_47 : decode cX11_advance 47 = .ok (.aload_n 0, 1) := by decide +kernel
theorem dX11_advance_48 : decode cX11_advance 48 = .ok (.aload_n 0, 1) := by decide +kernel
theorem dX11_advance_49 : decode cX11_advance 49 = .ok (.getfield 91, 3) := by decide +kernel
theorem dX11_advance_52 : decode cX11_advance 52 = .ok (.invokevirtual 94, 3) := by decide +kernel
theorem dX11_advance_55 : decode cX11_advance 55 = .ok (.istore_n 1, 1) := by decide +kernel
theorem dX11_advance_56 : decode cX11_advance 56 = .ok (.iload_n 1, 1) := by decide +kernel
theorem dX11_advance_57 : decode cX11_advance 57 = .ok (.ifCond .ge 11, 3) := by decide +kernel
theorem dX11_advance_60 : decode cX11_advance 60 = .ok (.aload_n 0, 1) := by decide +kernel
theorem dX11_advance_61 : decode cX11_advance 61 = .ok (.iconst 0, 1) := by decide +kernel
theorem dX11_advance_62 : decode cX11_advance 62 = .ok (.putfield 101, 3) := by decide +kernel
theorem dX11_advance_65 : decode cX11_advance 65 = .ok (.goto 246, 3) := by decide +kernel
theorem dX11_advance_68 : decode cX11_advance 68 = .ok (.iload_n 1, 1) := by decide +kernel
theorem dX11_advance_69 : decode cX11_advance 69 = .ok (.invokestatic 104, 3) := by decide +kernel
theorem dX11_advance_72 : decode cX11_advance 72 = .ok (.ifCond .eq 114, 3) := by decide +kernel
theorem dX11_advance_75 : decode cX11_advance 75 = .ok (.lconst 0, 1) := by decide +kernel
theorem dX11_advance_76 : decode cX11_advance 76 = .ok (.lstore_n 2, 1) := by decide +kernel
theorem dX11_advance_77 : decode cX11_advance 77 = .ok (.aload_n 0, 1) := by decide +kernel
theorem dX11_advance_78 : decode cX11_advance 78 = .ok (.aload_n 0, 1) := by decide +kernel
theorem dX11_advance_79 : decode cX11_advance 79 = .ok (.getfield 91, 3) := by decide +kernel
theorem dX11_advance_82 : decode cX11_advance 82 = .ok (.invokevirtual 94, 3) := by decide +kernel
theorem dX11_advance_85 : decode cX11_advance 85 = .ok (.invokestatic 104, 3) := by decide +kernel
theorem dX11_advance_88 : decode cX11_advance 88 = .ok (.ifCond .eq 50, 3) := by decide +kernel
theorem dX11_advance_91 : decode cX11_advance 91 = .ok (.aload_n 0, 1) := by decide +kernel
theorem dX11_advance_92 : decode cX11_advance 92 = .ok (.getfield 91, 3) := by decide +kernel
theorem dX11_advance_95 : decode cX11_advance 95 = .ok (.aload_n 0, 1) := by decide +kernel
theorem dX11_advance_96 : decode cX11_advance 96 = .ok (.getfield 98, 3) := by decide +kernel
theorem dX11_advance_99 : decode cX11_advance 99 = .ok (.isub, 1) := by decide +kernel
theorem dX11_advance_100 : decode cX11_advance 100 = .ok (.bipush 8, 2) := by decide +kernel
theorem dX11_advance_102 : decode cX11_advance 102 = .ok (.if_icmp .ge 23, 3) := by decide +kernel
theorem dX11_advance_105 : decode cX11_advance 105 = .ok (.ldc2_w 108, 3) := by decide +kernel
theorem dX11_advance_108 : decode cX11_advance 108 = .ok (.lload_n 2, 1) := by decide +kernel
theorem dX11_advance_109 : decode cX11_advance 109 = .ok (.lmul, 1) := by decide +kernel
theorem dX11_advance_110 : decode cX11_advance 110 = .ok (.aload_n 0, 1) := by decide +kernel
theorem dX11_advance_111 : decode cX11_advance 111 = .ok (.aload_n 0, 1) := by decide +kernel
theorem dX11_advance_112 : decode cX11_advance 112 = .ok (.getfield 91, 3) := by decide +kernel
theorem dX11_advance_115 : decode cX11_advance 115 = .ok (.invokevirtual 94, 3) := by decide +kernel
theorem dX11_advance_118 : decode cX11_advance 118 = .ok (.i2l, 1) := by decide +kernel
theorem dX11_advance_119 : decode cX11_advance 119 = .ok (.ladd, 1) := by decide +kernel
theorem dX11_advance_120 : decode cX11_advance 120 = .ok (.ldc2_w 110, 3) := by decide +kernel
theorem dX11_advance_123 : decode cX11_advance 123 = .ok (.lsub, 1) := by decide +kernel
theorem dX11_advance_124 : decode cX11_advance 124 = .ok (.lstore_n 2, 1) := by decide +kernel
theorem dX11_advance_125 : decode cX11_advance 125 = .ok (.aload_n 0, 1) := by decide +kernel
theorem dX11_advance_126 : decode cX11_advance 126 = .ok (.dup, 1) := by decide +kernel
theorem dX11_advance_127 : decode cX11_advance 127 = .ok (.getfield 91, 3) := by decide +kernel
theorem dX11_advance_130 : decode cX11_advance 130 = .ok (.iconst 1, 1) := by decide +kernel
theorem dX11_advance_131 : decode cX11_advance 131 = .ok (.iadd, 1) := by decide +kernel
theorem dX11_advance_132 : decode cX11_advance 132 = .ok (.putfield 91, 3) := by decide +kernel
theorem dX11_advance_135 : decode cX11_advance 135 = .ok (.goto (-58), 3) := by decide +kernel
theorem dX11_advance_138 : decode cX11_advance 138 = .ok (.aload_n 0, 1) := by decide +kernel
theorem dX11_advance_139 : decode cX11_advance 139 = .ok (.aload_n 0, 1) := by decide +kernel
theorem dX11_advance_140 : decode cX11_advance 140 = .ok (.getfield 91, 3) := by decide +kernel
theorem dX11_advance_143 : decode cX11_advance 143 = .ok (.aload_n 0, 1) := by decide +kernel
theorem dX11_advance_144 : decode cX11_advance 144 = .ok (.getfield 98, 3) := by decide +kernel
theorem dX11_advance_147 : decode cX11_advance 147 = .ok (.isub, 1) := by decide +kernel
theorem dX11_advance_148 : decode cX11_advance 148 = .ok (.bipush 8, 2) := by decide +kernel
theorem dX11_advance_150 : decode cX11_advance 150 = .ok (.if_icmp .le 8, 3) := by decide +kernel
theorem dX11_advance_153 : decode cX11_advance 153 = .ok (.bipush 99, 2) := by decide +kernel
theorem dX11_advance_155 : decode cX11_advance 155 = .ok (.goto 7, 3) := by decide +kernel
theorem dX11_advance_158 : decode cX11_advance 158 = .ok (.lload_n 2, 1) := by decide +kernel
theorem dX11_advance_159 : decode cX11_advance 159 = .ok (.invokestatic 112, 3) := by decide +kernel
theorem dX11_advance_162 : decode cX11_advance 162 = .ok (.putfield 116, 3) := by decide +kernel
theorem dX11_advance_165 : decode cX11_advance 165 = .ok (.aload_n 0, 1) := by decide +kernel
theorem dX11_advance_166 : decode cX11_advance 166 = .ok (.aload_n 0, 1) := by decide +kernel
theorem dX11_advance_167 : decode cX11_advance 167 = .ok (.getfield 116, 3) := by decide +kernel
theorem dX11_advance_170 : decode cX11_advance 170 = .ok (.bipush 99, 2) := by decide +kernel
theorem dX11_advance_172 : decode cX11_advance 172 = .ok (.if_icmp .ne 7, 3) := by decide +kernel
theorem dX11_advance_175 : decode cX11_advance 175 = .ok (.iconst 4, 1) := by decide +kernel
theorem dX11_advance_176 : decode cX11_advance 176 = .ok (.goto 4, 3) := by decide +kernel
theorem dX11_advance_179 : decode cX11_advance 179 = .ok (.iconst 3, 1) := by decide +kernel
theorem dX11_advance_180 : decode cX11_advance 180 = .ok (.putfield 101, 3) := by decide +kernel
theorem dX11_advance_183 : decode cX11_advance 183 = .ok (.goto 128, 3) := by decide +kernel
theorem dX11_advance_186 : decode cX11_advance 186 = .ok (.iload_n 1, 1) := by decide +kernel
theorem dX11_advance_187 : decode cX11_advance 187 = .ok (.invokestatic 119, 3) := by decide +kernel
theorem dX11_advance_190 : decode cX11_advance 190 = .ok (.ifCond .eq 96, 3) := by decide +kernel
theorem dX11_advance_193 : decode cX11_advance 193 = .ok (.aload_n 0, 1) := by decide +kernel
theorem dX11_advance_194 : decode cX11_advance 194 = .ok (.iconst 0, 1) := by decide +kernel
theorem dX11_advance_195 : decode cX11_advance 195 = .ok (.putfield 122, 3) := by decide +kernel
theorem dX11_advance_198 : decode cX11_advance 198 = .ok (.aload_n 0, 1) := by decide +kernel
theorem dX11_advance_199 : decode cX11_advance 199 = .ok (.aload_n 0, 1) := by decide +kernel
theorem dX11_advance_200 : decode cX11_advance 200 = .ok (.getfield 91, 3) := by decide +kernel
theorem dX11_advance_203 : decode cX11_advance 203 = .ok (.invokevirtual 94, 3) := by decide +kernel
theorem dX11_advance_206 : decode cX11_advance 206 = .ok (.invokestatic 119, 3) := by decide +kernel
theorem dX11_advance_209 : decode cX11_advance 209 = .ok (.ifCond .eq 52, 3) := by decide +kernel
theorem dX11_advance_212 : decode cX11_advance 212 = .ok (.aload_n 0, 1) := by decide +kernel
theorem dX11_advance_213 : decode cX11_advance 213 = .ok (.getfield 91, 3) := by decide +kernel
theorem dX11_advance_216 : decode cX11_advance 216 = .ok (.aload_n 0, 1) := by decide +kernel
theorem dX11_advance_217 : decode cX11_advance 217 = .ok (.getfield 98, 3) := by decide +kernel
theorem dX11_advance_220 : decode cX11_advance 220 = .ok (.isub, 1) := by decide +kernel
theorem dX11_advance_221 : decode cX11_advance 221 = .ok (.iconst 2, 1) := by decide +kernel
theorem dX11_advance_222 : decode cX11_advance 222 = .ok (.if_icmp .ge 26, 3) := by decide +kernel
theorem dX11_advance_225 : decode cX11_advance 225 = .ok (.aload_n 0, 1) := by decide +kernel
theorem dX11_advance_226 : decode cX11_advance 226 = .ok (.bipush 10, 2) := by decide +kernel
theorem dX11_advance_228 : decode cX11_advance 228 = .ok (.aload_n 0, 1) := by decide +kernel
theorem dX11_advance_229 : decode cX11_advance 229 = .ok (.getfield 122, 3) := by decide +kernel
theorem dX11_advance_232 : decode cX11_advance 232 = .ok (.imul, 1) := by decide +kernel
theorem dX11_advance_233 : decode cX11_advance 233 = .ok (.aload_n 0, 1) := by decide +kernel
theorem dX11_advance_234 : decode cX11_advance 234 = .ok (.aload_n 0, 1) := by decide +kernel
theorem dX11_advance_235 : decode cX11_advance 235 = .ok (.getfield 91, 3) := by decide +kernel
theorem dX11_advance_238 : decode cX11_advance 238 = .ok (.invokevirtual 94, 3) := by decide +kernel
theorem dX11_advance_241 : decode cX11_advance 241 = .ok (.iadd, 1) := by decide +kernel
theorem dX11_advance_242 : decode cX11_advance 242 = .ok (.bipush 48, 2) := by decide +kernel
theorem dX11_advance_244 : decode cX11_advance 244 = .ok (.isub, 1) := by decide +kernel
theorem dX11_advance_245 : decode cX11_advance 245 = .ok (.putfield 122, 3) := by decide +kernel
theorem dX11_advance_248 : decode cX11_advance 248 = .ok (.aload_n 0, 1) := by decide +kernel
theorem dX11_advance_249 : decode cX11_advance 249 = .ok (.dup, 1) := by decide +kernel
theorem dX11_advance_250 : decode cX11_advance 250 = .ok (.getfield 91, 3) := by decide +kernel
theorem dX11_advance_253 : decode cX11_advance 253 = .ok (.iconst 1, 1) := by decide +kernel
theorem dX11_advance_254 : decode cX11_advance 254 = .ok (.iadd, 1) := by decide +kernel
theorem dX11_advance_255 : decode cX11_advance 255 = .ok (.putfield 91, 3) := by decide +kernel
theorem dX11_advance_258 : decode cX11_advance 258 = .ok (.goto (-60), 3) := by decide +kernel
theorem dX11_advance_261 : decode cX11_advance 261 = .ok (.aload_n 0, 1) := by decide +kernel
theorem dX11_advance_262 : decode cX11_advance 262 = .ok (.aload_n 0, 1) := by decide +kernel
theorem dX11_advance_263 : decode cX11_advance 263 = .ok (.getfield 91, 3) := by decide +kernel
theorem dX11_advance_266 : decode cX11_advance 266 = .ok (.aload_n 0, 1) := by decide +kernel
theorem dX11_advance_267 : decode cX11_advance 267 = .ok (.getfield 98, 3) := by decide +kernel
theorem dX11_advance_270 : decode cX11_advance 270 = .ok (.isub, 1) := by decide +kernel
theorem dX11_advance_271 : decode cX11_advance 271 = .ok (.iconst 2, 1) := by decide +kernel
theorem dX11_advance_272 : decode cX11_advance 272 = .ok (.if_icmp .le 7, 3) := by decide +kernel
theorem dX11_advance_275 : decode cX11_advance 275 = .ok (.iconst 4, 1) := by decide +kernel
theorem dX11_advance_276 : decode cX11_advance 276 = .ok (.goto 4, 3) := by decide +kernel
theorem dX11_advance_279 : decode cX11_advance 279 = .ok (.iconst 1, 1) := by decide +kernel
theorem dX11_advance_280 : decode cX11_advance 280 = .ok (.putfield 101, 3) := by decide +kernel
theorem dX11_advance_283 : decode cX11_advance 283 = .ok (.goto 28, 3) := by decide +kernel
theorem dX11_advance_286 : decode cX11_advance 286 = .ok (.aload_n 0, 1) := by decide +kernel
theorem dX11_advance_287 : decode cX11_advance 287 = .ok (.dup, 1) := by decide +kernel
theorem dX11_advance_288 : decode cX11_advance 288 = .ok (.getfield 91, 3) := by decide +kernel
theorem dX11_advance_291 : decode cX11_advance 291 = .ok (.iconst 1, 1) := by decide +kernel
theorem dX11_advance_292 : decode cX11_advance 292 = .ok (.iadd, 1) := by decide +kernel
theorem dX11_advance_293 : decode cX11_advance 293 = .ok (.putfield 91, 3) := by decide +kernel
theorem dX11_advance_296 : decode cX11_advance 296 = .ok (.aload_n 0, 1) := by decide +kernel
theorem dX11_advance_297 : decode cX11_advance 297 = .ok (.iload_n 1, 1) := by decide +kernel
theorem dX11_advance_298 : decode cX11_advance 298 = .ok (.bipush 59, 2) := by decide +kernel
theorem dX11_advance_300 : decode cX11_advance 300 = .ok (.if_icmp .ne 7, 3) := by decide +kernel
theorem dX11_advance_303 : decode cX11_advance 303 = .ok (.iconst 2, 1) := by decide +kernel
theorem dX11_advance_304 : decode cX11_advance 304 = .ok (.goto 4, 3) := by decide +kernel
theorem dX11_advance_307 : decode cX11_advance 307 = .ok (.iconst 4, 1) := by decide +kernel
theorem dX11_advance_308 : decode cX11_advance 308 = .ok (.putfield 101, 3) := by decide +kernel
theorem dX11_advance_311 : decode cX11_advance 311 = .ok (.return_, 1) := by decide +kernel
theorem dX11_ends_0 : decode cX11_ends 0 = .ok (.aload_n 0, 1) := by decide +kernel
theorem dX11_ends_1 : decode cX11_ends 1 = .ok (.getfield 125, 3) := by decide +kernel
theorem dX11_ends_4 : decode cX11_ends 4 = .ok (.ifCond .eq 4, 3) := by decide +kernel
theorem dX11_ends_7 : decode cX11_ends 7 = .ok (.return_, 1) := by decide +kernel
theorem dX11_ends_8 : decode cX11_ends 8 = .ok (.aload_n 0, 1) := by decide +kernel
theorem dX11_ends_9 : decode cX11_ends 9 = .ok (.iconst 1, 1) := by decide +kernel
theorem dX11_ends_10 : decode cX11_ends 10 = .ok (.putfield 125, 3) := by decide +kernel
theorem dX11_ends_13 : decode cX11_ends 13 = .ok (.aload_n 0, 1) := by decide +kernel
theorem dX11_ends_14 : decode cX11_ends 14 = .ok (.getfield 7, 3) := by decide +kernel
theorem dX11_ends_17 : decode cX11_ends 17 = .ok (.iconst 5, 1) := by decide +kernel
theorem dX11_ends_18 : decode cX11_ends 18 = .ok (.iconst 1, 1) := by decide +kernel
theorem dX11_ends_19 : decode cX11_ends 19 = .ok (.iastore, 1) := by decide +kernel
theorem dX11_ends_20 : decode cX11_ends 20 = .ok (.aload_n 0, 1) := by decide +kernel
theorem dX11_ends_21 : decode cX11_ends 21 = .ok (.getfield 7, 3) := by decide +kernel
theorem dX11_ends_24 : decode cX11_ends 24 = .ok (.bipush 6, 2) := by decide +kernel
theorem dX11_ends_26 : decode cX11_ends 26 = .ok (.aload_n 0, 1) := by decide +kernel
theorem dX11_ends_27 : decode cX11_ends 27 = .ok (.getfield 98, 3) := by decide +kernel
theorem dX11_ends_30 : decode cX11_ends 30 = .ok (.iastore, 1) := by decide +kernel
theorem dX11_ends_31 : decode cX11_ends 31 = .ok (.return_, 1) := by decide +kernel
theorem dX11_also_0 : decode cX11_also 0 = .ok (.aload_n 0, 1) := by decide +kernel
theorem dX11_also_1 : decode cX11_also 1 = .ok (.getfield 125, 3) := by decide +kernel
theorem dX11_also_4 : decode cX11_also 4 = .ok (.ifCond .ne 44, 3) := by decide +kernel
theorem dX11_also_7 : decode cX11_also 7 = .ok (.aload_n 0, 1) := by decide +kernel
theorem dX11_also_8 : decode cX11_also 8 = .ok (.getfield 7, 3) := by decide +kernel
theorem dX11_also_11 : decode cX11_also 11 = .ok (.iconst 5, 1) := by decide +kernel
theorem dX11_also_12 : decode cX11_also 12 = .ok (.iaload, 1) := by decide +kernel
theorem dX11_also_13 : decode cX11_also 13 = .ok (.ifCond .eq 36, 3) := by decide +kernel
theorem dX11_also_16 : decode cX11_also 16 = .ok (.aload_n 0, 1) := by decide +kernel
theorem dX11_also_17 : decode cX11_also 17 = .ok (.getfield 7, 3) := by decide +kernel
theorem dX11_also_20 : decode cX11_also 20 = .ok (.bipush 6, 2) := by decide +kernel
theorem dX11_also_22 : decode cX11_also 22 = .ok (.iaload, 1) := by decide +kernel
theorem dX11_also_23 : decode cX11_also 23 = .ok (.iload_n 2, 1) := by decide +kernel
theorem dX11_also_24 : decode cX11_also 24 = .ok (.if_icmp .lt 24, 3) := by decide +kernel
theorem dX11_also_27 : decode cX11_also 27 = .ok (.aload_n 0, 1) := by decide +kernel
theorem dX11_also_28 : decode cX11_also 28 = .ok (.getfield 7, 3) := by decide +kernel
theorem dX11_also_31 : decode cX11_also 31 = .ok (.bipush 6, 2) := by decide +kernel
theorem dX11_also_33 : decode cX11_also 33 = .ok (.iaload, 1) := by decide +kernel
theorem dX11_also_34 : decode cX11_also 34 = .ok (.iload_n 2, 1) := by decide +kernel
theorem dX11_also_35 : decode cX11_also 35 = .ok (.if_icmp .ne 14, 3) := by decide +kernel
theorem dX11_also_38 : decode cX11_also 38 = .ok (.aload_n 0, 1) := by decide +kernel
theorem dX11_also_39 : decode cX11_also 39 = .ok (.getfield 7, 3) := by decide +kernel
theorem dX11_also_42 : decode cX11_also 42 = .ok (.iconst 5, 1) := by decide +kernel
theorem dX11_also_43 : decode cX11_also 43 = .ok (.iaload, 1) := by decide +kernel
theorem dX11_also_44 : decode cX11_also 44 = .ok (.iload_n 1, 1) := by decide +kernel
theorem dX11_also_45 : decode cX11_also 45 = .ok (.if_icmp .gt 4, 3) := by decide +kernel
theorem dX11_also_48 : decode cX11_also 48 = .ok (.return_, 1) := by decide +kernel
theorem dX11_also_49 : decode cX11_also 49 = .ok (.aload_n 0, 1) := by decide +kernel
theorem dX11_also_50 : decode cX11_also 50 = .ok (.getfield 7, 3) := by decide +kernel
theorem dX11_also_53 : decode cX11_also 53 = .ok (.iconst 5, 1) := by decide +kernel
theorem dX11_also_54 : decode cX11_also 54 = .ok (.iload_n 1, 1) := by decide +kernel
theorem dX11_also_55 : decode cX11_also 55 = .ok (.iastore, 1) := by decide +kernel
theorem dX11_also_56 : decode cX11_also 56 = .ok (.aload_n 0, 1) := by decide +kernel
theorem dX11_also_57 : decode cX11_also 57 = .ok (.getfield 7, 3) := by decide +kernel
theorem dX11_also_60 : decode cX11_also 60 = .ok (.bipush 6, 2) := by decide +kernel
theorem dX11_also_62 : decode cX11_also 62 = .ok (.iload_n 2, 1) := by decide +kernel
theorem dX11_also_63 : decode cX11_also 63 = .ok (.iastore, 1) := by decide +kernel
theorem dX11_also_64 : decode cX11_also 64 = .ok (.return_, 1) := by decide +kernel
theorem dX11_numbered_0 : decode cX11_numbered 0 = .ok (.aload_n 0, 1) := by decide +kernel
theorem dX11_numbered_1 : decode cX11_numbered 1 = .ok (.getfield 125, 3) := by decide +kernel
theorem dX11_numbered_4 : decode cX11_numbered 4 = .ok (.ifCond .ne 11, 3) := by decide +kernel
theorem dX11_numbered_7 : decode cX11_numbered 7 = .ok (.aload_n 0, 1) := by decide +kernel
theorem dX11_numbered_8 : decode cX11_numbered 8 = .ok (.getfield 101, 3) := by decide +kernel
theorem dX11_numbered_11 : decode cX11_numbered 11 = .ok (.iconst 1, 1) := by decide +kernel
theorem dX11_numbered_12 : decode cX11_numbered 12 = .ok (.if_icmp .eq 9, 3) := by decide +kernel
theorem dX11_numbered_15 : decode cX11_numbered 15 = .ok (.aload_n 0, 1) := by decide +kernel
theorem dX11_numbered_16 : decode cX11_numbered 16 = .ok (.invokevirtual 129, 3) := by decide +kernel
theorem dX11_numbered_19 : decode cX11_numbered 19 = .ok (.iload_n 1, 1) := by decide +kernel
theorem dX11_numbered_20 : decode cX11_numbered 20 = .ok (.ireturn, 1) := by decide +kernel
theorem dX11_numbered_21 : decode cX11_numbered 21 = .ok (.aload_n 0, 1) := by decide +kernel
theorem dX11_numbered_22 : decode cX11_numbered 22 = .ok (.getfield 122, 3) := by decide +kernel
theorem dX11_numbered_25 : decode cX11_numbered 25 = .ok (.istore_n 3, 1) := by decide +kernel
theorem dX11_numbered_26 : decode cX11_numbered 26 = .ok (.iload_n 3, 1) := by decide +kernel
theorem dX11_numbered_27 : decode cX11_numbered 27 = .ok (.iload_n 1, 1) := by decide +kernel
theorem dX11_numbered_28 : decode cX11_numbered 28 = .ok (.iload_n 2, 1) := by decide +kernel
theorem dX11_numbered_29 : decode cX11_numbered 29 = .ok (.invokestatic 132, 3) := by decide +kernel
theorem dX11_numbered_32 : decode cX11_numbered 32 = .ok (.ifCond .ne 12, 3) := by decide +kernel
theorem dX11_numbered_35 : decode cX11_numbered 35 = .ok (.aload_n 0, 1) := by decide +kernel
theorem dX11_numbered_36 : decode cX11_numbered 36 = .ok (.iconst 2, 1) := by decide +kernel
theorem dX11_numbered_37 : decode cX11_numbered 37 = .ok (.aload_n 0, 1) := by decide +kernel
theorem dX11_numbered_38 : decode cX11_numbered 38 = .ok (.getfield 98, 3) := by decide +kernel
theorem dX11_numbered_41 : decode cX11_numbered 41 = .ok (.invokevirtual 136, 3) := by decide +kernel
theorem dX11_numbered_44 : decode cX11_numbered 44 = .ok (.aload_n 0, 1) := by decide +kernel
theorem dX11_numbered_45 : decode cX11_numbered 45 = .ok (.invokevirtual 140, 3) := by decide +kernel
theorem dX11_numbered_48 : decode cX11_numbered 48 = .ok (.iload_n 3, 1) := by decide +kernel
theorem dX11_numbered_49 : decode cX11_numbered 49 = .ok (.iload_n 1, 1) := by decide +kernel
theorem dX11_numbered_50 : decode cX11_numbered 50 = .ok (.iload_n 2, 1) := by decide +kernel
theorem dX11_numbered_51 : decode cX11_numbered 51 = .ok (.invokestatic 132, 3) := by decide +kernel
theorem dX11_numbered_54 : decode cX11_numbered 54 = .ok (.ifCond .eq 7, 3) := by decide +kernel
theorem dX11_numbered_57 : decode cX11_numbered 57 = .ok (.iload_n 3, 1) := by decide +kernel
theorem dX11_numbered_58 : decode cX11_numbered 58 = .ok (.goto 4, 3) := by decide +kernel
theorem dX11_numbered_61 : decode cX11_numbered 61 = .ok (.iload_n 1, 1) := by decide +kernel
theorem dX11_numbered_62 : decode cX11_numbered 62 = .ok (.ireturn, 1) := by decide +kernel
theorem dX11_wordIn_0 : decode cX11_wordIn 0 = .ok (.aload_n 0, 1) := by decide +kernel
theorem dX11_wordIn_1 : decode cX11_wordIn 1 = .ok (.getfield 125, 3) := by decide +kernel
theorem dX11_wordIn_4 : decode cX11_wordIn 4 = .ok (.ifCond .ne 23, 3) := by decide +kernel
theorem dX11_wordIn_7 : decode cX11_wordIn 7 = .ok (.aload_n 0, 1) := by decide +kernel
theorem dX11_wordIn_8 : decode cX11_wordIn 8 = .ok (.getfield 101, 3) := by decide +kernel
theorem dX11_wordIn_11 : decode cX11_wordIn 11 = .ok (.iconst 3, 1) := by decide +kernel
theorem dX11_wordIn_12 : decode cX11_wordIn 12 = .ok (.if_icmp .ne 15, 3) := by decide +kernel
theorem dX11_wordIn_15 : decode cX11_wordIn 15 = .ok (.aload_n 0, 1) := by decide +kernel
theorem dX11_wordIn_16 : decode cX11_wordIn 16 = .ok (.getfield 116, 3) := by decide +kernel
theorem dX11_wordIn_19 : decode cX11_wordIn 19 = .ok (.iload_n 1, 1) := by decide +kernel
theorem dX11_wordIn_20 : decode cX11_wordIn 20 = .ok (.iload_n 2, 1) := by decide +kernel
theorem dX11_wordIn_21 : decode cX11_wordIn 21 = .ok (.invokestatic 132, 3) := by decide +kernel
theorem dX11_wordIn_24 : decode cX11_wordIn 24 = .ok (.ifCond .ne 9, 3) := by decide +kernel
theorem dX11_wordIn_27 : decode cX11_wordIn 27 = .ok (.aload_n 0, 1) := by decide +kernel
theorem dX11_wordIn_28 : decode cX11_wordIn 28 = .ok (.invokevirtual 129, 3) := by decide +kernel
theorem dX11_wordIn_31 : decode cX11_wordIn 31 = .ok (.iconst 0, 1) := by decide +kernel
theorem dX11_wordIn_32 : decode cX11_wordIn 32 = .ok (.ireturn, 1) := by decide +kernel
theorem dX11_wordIn_33 : decode cX11_wordIn 33 = .ok (.aload_n 0, 1) := by decide +kernel
theorem dX11_wordIn_34 : decode cX11_wordIn 34 = .ok (.getfield 116, 3) := by decide +kernel
theorem dX11_wordIn_37 : decode cX11_wordIn 37 = .ok (.istore_n 3, 1) := by decide +kernel
theorem dX11_wordIn_38 : decode cX11_wordIn 38 = .ok (.aload_n 0, 1) := by decide +kernel
theorem dX11_wordIn_39 : decode cX11_wordIn 39 = .ok (.invokevirtual 140, 3) := by decide +kernel
theorem dX11_wordIn_42 : decode cX11_wordIn 42 = .ok (.iload_n 3, 1) := by decide +kernel
theorem dX11_wordIn_43 : decode cX11_wordIn 43 = .ok (.ireturn, 1) := by decide +kernel
theorem dX11_endsLine_0 : decode cX11_endsLine 0 = .ok (.aload_n 0, 1) := by decide +kernel
theorem dX11_endsLine_1 : decode cX11_endsLine 1 = .ok (.getfield 125, 3) := by decide +kernel
theorem dX11_endsLine_4 : decode cX11_endsLine 4 = .ok (.ifCond .ne 18, 3) := by decide +kernel
theorem dX11_endsLine_7 : decode cX11_endsLine 7 = .ok (.aload_n 0, 1) := by decide +kernel
theorem dX11_endsLine_8 : decode cX11_endsLine 8 = .ok (.getfield 101, 3) := by decide +kernel
theorem dX11_endsLine_11 : decode cX11_endsLine 11 = .ok (.iconst 2, 1) := by decide +kernel
theorem dX11_endsLine_12 : decode cX11_endsLine 12 = .ok (.if_icmp .ne 10, 3) := by decide +kernel
theorem dX11_endsLine_15 : decode cX11_endsLine 15 = .ok (.aload_n 0, 1) := by decide +kernel
theorem dX11_endsLine_16 : decode cX11_endsLine 16 = .ok (.invokevirtual 140, 3) := by decide +kernel
theorem dX11_endsLine_19 : decode cX11_endsLine 19 = .ok (.goto 7, 3) := by decide +kernel
theorem dX11_endsLine_22 : decode cX11_endsLine 22 = .ok (.aload_n 0, 1) := by decide +kernel
theorem dX11_endsLine_23 : decode cX11_endsLine 23 = .ok (.invokevirtual 129, 3) := by decide +kernel
theorem dX11_endsLine_26 : decode cX11_endsLine 26 = .ok (.return_, 1) := by decide +kernel
theorem dX11_otherWord_0 : decode cX11_otherWord 0 = .ok (.aload_n 0, 1) := by decide +kernel
theorem dX11_otherWord_1 : decode cX11_otherWord 1 = .ok (.getfield 125, 3) := by decide +kernel
theorem dX11_otherWord_4 : decode cX11_otherWord 4 = .ok (.ifCond .ne 28, 3) := by decide +kernel
theorem dX11_otherWord_7 : decode cX11_otherWord 7 = .ok (.aload_n 0, 1) := by decide +kernel
theorem dX11_otherWord_8 : decode cX11_otherWord 8 = .ok (.getfield 101, 3) := by decide +kernel
theorem dX11_otherWord_11 : decode cX11_otherWord 11 = .ok (.iconst 1, 1) := by decide +kernel
theorem dX11_otherWord_12 : decode cX11_otherWord 12 = .ok (.if_icmp .ne 20, 3) := by decide +kernel
theorem dX11_otherWord_15 : decode cX11_otherWord 15 = .ok (.aload_n 0, 1) := by decide +kernel
theorem dX11_otherWord_16 : decode cX11_otherWord 16 = .ok (.getfield 122, 3) := by decide +kernel
theorem dX11_otherWord_19 : decode cX11_otherWord 19 = .ok (.iload_n 1, 1) := by decide +kernel
theorem dX11_otherWord_20 : decode cX11_otherWord 20 = .ok (.if_icmp .ne 12, 3) := by decide +kernel
theorem dX11_otherWord_23 : decode cX11_otherWord 23 = .ok (.aload_n 0, 1) := by decide +kernel
theorem dX11_otherWord_24 : decode cX11_otherWord 24 = .ok (.iconst 2, 1) := by decide +kernel
theorem dX11_otherWord_25 : decode cX11_otherWord 25 = .ok (.aload_n 0, 1) := by decide +kernel
theorem dX11_otherWord_26 : decode cX11_otherWord 26 = .ok (.getfield 98, 3) := by decide +kernel
theorem dX11_otherWord_29 : decode cX11_otherWord 29 = .ok (.invokevirtual 136, 3) := by decide +kernel
theorem dX11_otherWord_32 : decode cX11_otherWord 32 = .ok (.aload_n 0, 1) := by decide +kernel
theorem dX11_otherWord_33 : decode cX11_otherWord 33 = .ok (.iconst 0, 1) := by decide +kernel
theorem dX11_otherWord_34 : decode cX11_otherWord 34 = .ok (.bipush 9, 2) := by decide +kernel
theorem dX11_otherWord_36 : decode cX11_otherWord 36 = .ok (.invokevirtual 143, 3) := by decide +kernel
theorem dX11_otherWord_39 : decode cX11_otherWord 39 = .ok (.ireturn, 1) := by decide +kernel
theorem dX11_wordTold_0 : decode cX11_wordTold 0 = .ok (.aload_n 0, 1) := by decide +kernel
theorem dX11_wordTold_1 : decode cX11_wordTold 1 = .ok (.getfield 17, 3) := by decide +kernel
theorem dX11_wordTold_4 : decode cX11_wordTold 4 = .ok (.iconst 0, 1) := by decide +kernel
theorem dX11_wordTold_5 : decode cX11_wordTold 5 = .ok (.iaload, 1) := by decide +kernel
theorem dX11_wordTold_6 : decode cX11_wordTold 6 = .ok (.bipush 8, 2) := by decide +kernel
theorem dX11_wordTold_8 : decode cX11_wordTold 8 = .ok (.if_icmp .lt 9, 3) := by decide +kernel
theorem dX11_wordTold_11 : decode cX11_wordTold 11 = .ok (.aload_n 0, 1) := by decide +kernel
theorem dX11_wordTold_12 : decode cX11_wordTold 12 = .ok (.iconst 3, 1) := by decide +kernel
theorem dX11_wordTold_13 : decode cX11_wordTold 13 = .ok (.iload_n 1, 1) := by decide +kernel
theorem dX11_wordTold_14 : decode cX11_wordTold 14 = .ok (.invokevirtual 136, 3) := by decide +kernel
theorem dX11_wordTold_17 : decode cX11_wordTold 17 = .ok (.aload_n 0, 1) := by decide +kernel
theorem dX11_wordTold_18 : decode cX11_wordTold 18 = .ok (.iconst 0, 1) := by decide +kernel
theorem dX11_wordTold_19 : decode cX11_wordTold 19 = .ok (.bipush 9, 2) := by decide +kernel
theorem dX11_wordTold_21 : decode cX11_wordTold 21 = .ok (.invokevirtual 143, 3) := by decide +kernel
theorem dX11_wordTold_24 : decode cX11_wordTold 24 = .ok (.istore_n 2, 1) := by decide +kernel
theorem dX11_wordTold_25 : decode cX11_wordTold 25 = .ok (.aload_n 0, 1) := by decide +kernel
theorem dX11_wordTold_26 : decode cX11_wordTold 26 = .ok (.getfield 17, 3) := by decide +kernel
theorem dX11_wordTold_29 : decode cX11_wordTold 29 = .ok (.iconst 0, 1) := by decide +kernel
theorem dX11_wordTold_30 : decode cX11_wordTold 30 = .ok (.iaload, 1) := by decide +kernel
theorem dX11_wordTold_31 : decode cX11_wordTold 31 = .ok (.bipush 8, 2) := by decide +kernel
theorem dX11_wordTold_33 : decode cX11_wordTold 33 = .ok (.if_icmp .lt 4, 3) := by decide +kernel
theorem dX11_wordTold_36 : decode cX11_wordTold 36 = .ok (.return_, 1) := by decide +kernel
theorem dX11_wordTold_37 : decode cX11_wordTold 37 = .ok (.aload_n 0, 1) := by decide +kernel
theorem dX11_wordTold_38 : decode cX11_wordTold 38 = .ok (.getfield 17, 3) := by decide +kernel
theorem dX11_wordTold_41 : decode cX11_wordTold 41 = .ok (.iconst 2, 1) := by decide +kernel
theorem dX11_wordTold_42 : decode cX11_wordTold 42 = .ok (.aload_n 0, 1) := by decide +kernel
theorem dX11_wordTold_43 : decode cX11_wordTold 43 = .ok (.getfield 17, 3) := by decide +kernel
theorem dX11_wordTold_46 : decode cX11_wordTold 46 = .ok (.iconst 0, 1) := by decide +kernel
theorem dX11_wordTold_47 : decode cX11_wordTold 47 = .ok (.iaload, 1) := by decide +kernel
theorem dX11_wordTold_48 : decode cX11_wordTold 48 = .ok (.iadd, 1) := by decide +kernel
theorem dX11_wordTold_49 : decode cX11_wordTold 49 = .ok (.iload_n 2, 1) := by decide +kernel
theorem dX11_wordTold_50 : decode cX11_wordTold 50 = .ok (.iastore, 1) := by decide +kernel
theorem dX11_wordTold_51 : decode cX11_wordTold 51 = .ok (.aload_n 0, 1) := by decide +kernel
theorem dX11_wordTold_52 : decode cX11_wordTold 52 = .ok (.getfield 17, 3) := by decide +kernel
theorem dX11_wordTold_55 : decode cX11_wordTold 55 = .ok (.iconst 0, 1) := by decide +kernel
theorem dX11_wordTold_56 : decode cX11_wordTold 56 = .ok (.dup2, 1) := by decide +kernel
theorem dX11_wordTold_57 : decode cX11_wordTold 57 = .ok (.iaload, 1) := by decide +kernel
theorem dX11_wordTold_58 : decode cX11_wordTold 58 = .ok (.iconst 1, 1) := by decide +kernel
theorem dX11_wordTold_59 : decode cX11_wordTold 59 = .ok (.iadd, 1) := by decide +kernel
theorem dX11_wordTold_60 : decode cX11_wordTold 60 = .ok (.iastore, 1) := by decide +kernel
theorem dX11_wordTold_61 : decode cX11_wordTold 61 = .ok (.return_, 1) := by decide +kernel
theorem dX11_nearTold_0 : decode cX11_nearTold 0 = .ok (.aload_n 0, 1) := by decide +kernel
theorem dX11_nearTold_1 : decode cX11_nearTold 1 = .ok (.iconst 0, 1) := by decide +kernel
theorem dX11_nearTold_2 : decode cX11_nearTold 2 = .ok (.bipush 9, 2) := by decide +kernel
theorem dX11_nearTold_4 : decode cX11_nearTold 4 = .ok (.invokevirtual 143, 3) := by decide +kernel
theorem dX11_nearTold_7 : decode cX11_nearTold 7 = .ok (.istore_n 1, 1) := by decide +kernel
theorem dX11_nearTold_8 : decode cX11_nearTold 8 = .ok (.aload_n 0, 1) := by decide +kernel
theorem dX11_nearTold_9 : decode cX11_nearTold 9 = .ok (.iload_n 1, 1) := by decide +kernel
theorem dX11_nearTold_10 : decode cX11_nearTold 10 = .ok (.invokevirtual 147, 3) := by decide +kernel
theorem dX11_nearTold_13 : decode cX11_nearTold 13 = .ok (.istore_n 2, 1) := by decide +kernel
theorem dX11_nearTold_14 : decode cX11_nearTold 14 = .ok (.aload_n 0, 1) := by decide +kernel
theorem dX11_nearTold_15 : decode cX11_nearTold 15 = .ok (.getfield 17, 3) := by decide +kernel
theorem dX11_nearTold_18 : decode cX11_nearTold 18 = .ok (.bipush 10, 2) := by decide +kernel
theorem dX11_nearTold_20 : decode cX11_nearTold 20 = .ok (.iload_n 1, 1) := by decide +kernel
theorem dX11_nearTold_21 : decode cX11_nearTold 21 = .ok (.iadd, 1) := by decide +kernel
theorem dX11_nearTold_22 : decode cX11_nearTold 22 = .ok (.dup2, 1) := by decide +kernel
theorem dX11_nearTold_23 : decode cX11_nearTold 23 = .ok (.iaload, 1) := by decide +kernel
theorem dX11_nearTold_24 : decode cX11_nearTold 24 = .ok (.iconst 1, 1) := by decide +kernel
theorem dX11_nearTold_25 : decode cX11_nearTold 25 = .ok (.iload_n 2, 1) := by decide +kernel
theorem dX11_nearTold_26 : decode cX11_nearTold 26 = .ok (.ishl, 1) := by decide +kernel
theorem dX11_nearTold_27 : decode cX11_nearTold 27 = .ok (.ior, 1) := by decide +kernel
theorem dX11_nearTold_28 : decode cX11_nearTold 28 = .ok (.iastore, 1) := by decide +kernel
theorem dX11_nearTold_29 : decode cX11_nearTold 29 = .ok (.aload_n 0, 1) := by decide +kernel
theorem dX11_nearTold_30 : decode cX11_nearTold 30 = .ok (.getfield 17, 3) := by decide +kernel
theorem dX11_nearTold_33 : decode cX11_nearTold 33 = .ok (.bipush 10, 2) := by decide +kernel
theorem dX11_nearTold_35 : decode cX11_nearTold 35 = .ok (.iload_n 2, 1) := by decide +kernel
theorem dX11_nearTold_36 : decode cX11_nearTold 36 = .ok (.iadd, 1) := by decide +kernel
theorem dX11_nearTold_37 : decode cX11_nearTold 37 = .ok (.dup2, 1) := by decide +kernel
theorem dX11_nearTold_38 : decode cX11_nearTold 38 = .ok (.iaload, 1) := by decide +kernel
theorem dX11_nearTold_39 : decode cX11_nearTold 39 = .ok (.iconst 1, 1) := by decide +kernel
theorem dX11_nearTold_40 : decode cX11_nearTold 40 = .ok (.iload_n 1, 1) := by decide +kernel
theorem dX11_nearTold_41 : decode cX11_nearTold 41 = .ok (.ishl, 1) := by decide +kernel
theorem dX11_nearTold_42 : decode cX11_nearTold 42 = .ok (.ior, 1) := by decide +kernel
theorem dX11_nearTold_43 : decode cX11_nearTold 43 = .ok (.iastore, 1) := by decide +kernel
theorem dX11_nearTold_44 : decode cX11_nearTold 44 = .ok (.return_, 1) := by decide +kernel
theorem dX11_readerTold_0 : decode cX11_readerTold 0 = .ok (.aload_n 0, 1) := by decide +kernel
theorem dX11_readerTold_1 : decode cX11_readerTold 1 = .ok (.getfield 17, 3) := by decide +kernel
theorem dX11_readerTold_4 : decode cX11_readerTold 4 = .ok (.iconst 1, 1) := by decide +kernel
theorem dX11_readerTold_5 : decode cX11_readerTold 5 = .ok (.iaload, 1) := by decide +kernel
theorem dX11_readerTold_6 : decode cX11_readerTold 6 = .ok (.bipush 6, 2) := by decide +kernel
theorem dX11_readerTold_8 : decode cX11_readerTold 8 = .ok (.if_icmp .lt 9, 3) := by decide +kernel
theorem dX11_readerTold_11 : decode cX11_readerTold 11 = .ok (.aload_n 0, 1) := by decide +kernel
theorem dX11_readerTold_12 : decode cX11_readerTold 12 = .ok (.iconst 3, 1) := by decide +kernel
theorem dX11_readerTold_13 : decode cX11_readerTold 13 = .ok (.iload_n 1, 1) := by decide +kernel
theorem dX11_readerTold_14 : decode cX11_readerTold 14 = .ok (.invokevirtual 136, 3) := by decide +kernel
theorem dX11_readerTold_17 : decode cX11_readerTold 17 = .ok (.aload_n 0, 1) := by decide +kernel
theorem dX11_readerTold_18 : decode cX11_readerTold 18 = .ok (.iconst 0, 1) := by decide +kernel
theorem dX11_readerTold_19 : decode cX11_readerTold 19 = .ok (.bipush 9, 2) := by decide +kernel
theorem dX11_readerTold_21 : decode cX11_readerTold 21 = .ok (.invokevirtual 143, 3) := by decide +kernel
theorem dX11_readerTold_24 : decode cX11_readerTold 24 = .ok (.istore_n 2, 1) := by decide +kernel
theorem dX11_readerTold_25 : decode cX11_readerTold 25 = .ok (.aload_n 0, 1) := by decide +kernel
theorem dX11_readerTold_26 : decode cX11_readerTold 26 = .ok (.iconst 1, 1) := by decide +kernel
theorem dX11_readerTold_27 : decode cX11_readerTold 27 = .ok (.bipush 9, 2) := by decide +kernel
theorem dX11_readerTold_29 : decode cX11_readerTold 29 = .ok (.invokevirtual 143, 3) := by decide +kernel
theorem dX11_readerTold_32 : decode cX11_readerTold 32 = .ok (.istore_n 3, 1) := by decide +kernel
theorem dX11_readerTold_33 : decode cX11_readerTold 33 = .ok (.aload_n 0, 1) := by decide +kernel
theorem dX11_readerTold_34 : decode cX11_readerTold 34 = .ok (.getfield 17, 3) := by decide +kernel
theorem dX11_readerTold_37 : decode cX11_readerTold 37 = .ok (.iconst 1, 1) := by decide +kernel
theorem dX11_readerTold_38 : decode cX11_readerTold 38 = .ok (.iaload, 1) := by decide +kernel
theorem dX11_readerTold_39 : decode cX11_readerTold 39 = .ok (.bipush 6, 2) := by decide +kernel
theorem dX11_readerTold_41 : decode cX11_readerTold 41 = .ok (.if_icmp .lt 4, 3) := by decide +kernel
theorem dX11_readerTold_44 : decode cX11_readerTold 44 = .ok (.return_, 1) := by decide +kernel
theorem dX11_readerTold_45 : decode cX11_readerTold 45 = .ok (.aload_n 0, 1) := by decide +kernel
theorem dX11_readerTold_46 : decode cX11_readerTold 46 = .ok (.getfield 17, 3) := by decide +kernel
theorem dX11_readerTold_49 : decode cX11_readerTold 49 = .ok (.bipush 20, 2) := by decide +kernel
theorem dX11_readerTold_51 : decode cX11_readerTold 51 = .ok (.iconst 2, 1) := by decide +kernel
theorem dX11_readerTold_52 : decode cX11_readerTold 52 = .ok (.aload_n 0, 1) := by decide +kernel
theorem dX11_readerTold_53 : decode cX11_readerTold 53 = .ok (.getfield 17, 3) := by decide +kernel
theorem dX11_readerTold_56 : decode cX11_readerTold 56 = .ok (.iconst 1, 1) := by decide +kernel
theorem dX11_readerTold_57 : decode cX11_readerTold 57 = .ok (.iaload, 1) := by decide +kernel
theorem dX11_readerTold_58 : decode cX11_readerTold 58 = .ok (.imul, 1) := by decide +kernel
theorem dX11_readerTold_59 : decode cX11_readerTold 59 = .ok (.iadd, 1) := by decide +kernel
theorem dX11_readerTold_60 : decode cX11_readerTold 60 = .ok (.iload_n 2, 1) := by decide +kernel
theorem dX11_readerTold_61 : decode cX11_readerTold 61 = .ok (.iastore, 1) := by decide +kernel
theorem dX11_readerTold_62 : decode cX11_readerTold 62 = .ok (.aload_n 0, 1) := by decide +kernel
theorem dX11_readerTold_63 : decode cX11_readerTold 63 = .ok (.getfield 17, 3) := by decide +kernel
theorem dX11_readerTold_66 : decode cX11_readerTold 66 = .ok (.bipush 21, 2) := by decide +kernel
theorem dX11_readerTold_68 : decode cX11_readerTold 68 = .ok (.iconst 2, 1) := by decide +kernel
theorem dX11_readerTold_69 : decode cX11_readerTold 69 = .ok (.aload_n 0, 1) := by decide +kernel
theorem dX11_readerTold_70 : decode cX11_readerTold 70 = .ok (.getfield 17, 3) := by decide +kernel
theorem dX11_readerTold_73 : decode cX11_readerTold 73 = .ok (.iconst 1, 1) := by decide +kernel
theorem dX11_readerTold_74 : decode cX11_readerTold 74 = .ok (.iaload, 1) := by decide +kernel
theorem dX11_readerTold_75 : decode cX11_readerTold 75 = .ok (.imul, 1) := by decide +kernel
theorem dX11_readerTold_76 : decode cX11_readerTold 76 = .ok (.iadd, 1) := by decide +kernel
theorem dX11_readerTold_77 : decode cX11_readerTold 77 = .ok (.iload_n 3, 1) := by decide +kernel
theorem dX11_readerTold_78 : decode cX11_readerTold 78 = .ok (.iastore, 1) := by decide +kernel
theorem dX11_readerTold_79 : decode cX11_readerTold 79 = .ok (.aload_n 0, 1) := by decide +kernel
theorem dX11_readerTold_80 : decode cX11_readerTold 80 = .ok (.getfield 17, 3) := by decide +kernel
theorem dX11_readerTold_83 : decode cX11_readerTold 83 = .ok (.iconst 1, 1) := by decide +kernel
theorem dX11_readerTold_84 : decode cX11_readerTold 84 = .ok (.dup2, 1) := by decide +kernel
theorem dX11_readerTold_85 : decode cX11_readerTold 85 = .ok (.iaload, 1) := by decide +kernel
theorem dX11_readerTold_86 : decode cX11_readerTold 86 = .ok (.iconst 1, 1) := by decide +kernel
theorem dX11_readerTold_87 : decode cX11_readerTold 87 = .ok (.iadd, 1) := by decide +kernel
theorem dX11_readerTold_88 : decode cX11_readerTold 88 = .ok (.iastore, 1) := by decide +kernel
theorem dX11_readerTold_89 : decode cX11_readerTold 89 = .ok (.return_, 1) := by decide +kernel
theorem dX11_wantTold_0 : decode cX11_wantTold 0 = .ok (.aload_n 0, 1) := by decide +kernel
theorem dX11_wantTold_1 : decode cX11_wantTold 1 = .ok (.iconst 0, 1) := by decide +kernel
theorem dX11_wantTold_2 : decode cX11_wantTold 2 = .ok (.iconst 5, 1) := by decide +kernel
theorem dX11_wantTold_3 : decode cX11_wantTold 3 = .ok (.invokevirtual 143, 3) := by decide +kernel
theorem dX11_wantTold_6 : decode cX11_wantTold 6 = .ok (.istore_n 1, 1) := by decide +kernel
theorem dX11_wantTold_7 : decode cX11_wantTold 7 = .ok (.aload_n 0, 1) := by decide +kernel
theorem dX11_wantTold_8 : decode cX11_wantTold 8 = .ok (.iconst 0, 1) := by decide +kernel
theorem dX11_wantTold_9 : decode cX11_wantTold 9 = .ok (.bipush 7, 2) := by decide +kernel
theorem dX11_wantTold_11 : decode cX11_wantTold 11 = .ok (.invokevirtual 143, 3) := by decide +kernel
theorem dX11_wantTold_14 : decode cX11_wantTold 14 = .ok (.istore_n 2, 1) := by decide +kernel
theorem dX11_wantTold_15 : decode cX11_wantTold 15 = .ok (.aload_n 0, 1) := by decide +kernel
theorem dX11_wantTold_16 : decode cX11_wantTold 16 = .ok (.iload_n 1, 1) := by decide +kernel
theorem dX11_wantTold_17 : decode cX11_wantTold 17 = .ok (.aload_n 0, 1) := by decide +kernel
theorem dX11_wantTold_18 : decode cX11_wantTold 18 = .ok (.getfield 150, 3) := by decide +kernel
theorem dX11_wantTold_21 : decode cX11_wantTold 21 = .ok (.if_icmp .le 7, 3) := by decide +kernel
theorem dX11_wantTold_24 : decode cX11_wantTold 24 = .ok (.iload_n 1, 1) := by decide +kernel
theorem dX11_wantTold_25 : decode cX11_wantTold 25 = .ok (.goto 7, 3) := by decide +kernel
theorem dX11_wantTold_28 : decode cX11_wantTold 28 = .ok (.aload_n 0, 1) := by decide +kernel
theorem dX11_wantTold_29 : decode cX11_wantTold 29 = .ok (.getfield 150, 3) := by decide +kernel
theorem dX11_wantTold_32 : decode cX11_wantTold 32 = .ok (.putfield 150, 3) := by decide +kernel
theorem dX11_wantTold_35 : decode cX11_wantTold 35 = .ok (.aload_n 0, 1) := by decide +kernel
theorem dX11_wantTold_36 : decode cX11_wantTold 36 = .ok (.iload_n 2, 1) := by decide +kernel
theorem dX11_wantTold_37 : decode cX11_wantTold 37 = .ok (.aload_n 0, 1) := by decide +kernel
theorem dX11_wantTold_38 : decode cX11_wantTold 38 = .ok (.getfield 153, 3) := by decide +kernel
theorem dX11_wantTold_41 : decode cX11_wantTold 41 = .ok (.if_icmp .le 7, 3) := by decide +kernel
theorem dX11_wantTold_44 : decode cX11_wantTold 44 = .ok (.iload_n 2, 1) := by decide +kernel
theorem dX11_wantTold_45 : decode cX11_wantTold 45 = .ok (.goto 7, 3) := by decide +kernel
theorem dX11_wantTold_48 : decode cX11_wantTold 48 = .ok (.aload_n 0, 1) := by decide +kernel
theorem dX11_wantTold_49 : decode cX11_wantTold 49 = .ok (.getfield 153, 3) := by decide +kernel
theorem dX11_wantTold_52 : decode cX11_wantTold 52 = .ok (.putfield 153, 3) := by decide +kernel
theorem dX11_wantTold_55 : decode cX11_wantTold 55 = .ok (.aload_n 0, 1) := by decide +kernel
theorem dX11_wantTold_56 : decode cX11_wantTold 56 = .ok (.getfield 17, 3) := by decide +kernel
theorem dX11_wantTold_59 : decode cX11_wantTold 59 = .ok (.bipush 32, 2) := by decide +kernel
theorem dX11_wantTold_61 : decode cX11_wantTold 61 = .ok (.bipush 8, 2) := by decide +kernel
theorem dX11_wantTold_63 : decode cX11_wantTold 63 = .ok (.iload_n 1, 1) := by decide +kernel
theorem dX11_wantTold_64 : decode cX11_wantTold 64 = .ok (.imul, 1) := by decide +kernel
theorem dX11_wantTold_65 : decode cX11_wantTold 65 = .ok (.iadd, 1) := by decide +kernel
theorem dX11_wantTold_66 : decode cX11_wantTold 66 = .ok (.iload_n 2, 1) := by decide +kernel
theorem dX11_wantTold_67 : decode cX11_wantTold 67 = .ok (.iadd, 1) := by decide +kernel
theorem dX11_wantTold_68 : decode cX11_wantTold 68 = .ok (.aload_n 0, 1) := by decide +kernel
theorem dX11_wantTold_69 : decode cX11_wantTold 69 = .ok (.iconst 0, 1) := by decide +kernel
theorem dX11_wantTold_70 : decode cX11_wantTold 70 = .ok (.bipush 9, 2) := by decide +kernel
theorem dX11_wantTold_72 : decode cX11_wantTold 72 = .ok (.invokevirtual 143, 3) := by decide +kernel
theorem dX11_wantTold_75 : decode cX11_wantTold 75 = .ok (.iastore, 1) := by decide +kernel
theorem dX11_wantTold_76 : decode cX11_wantTold 76 = .ok (.return_, 1) := by decide +kernel
theorem dX11_paperLine_0 : decode cX11_paperLine 0 = .ok (.aload_n 0, 1) := by decide +kernel
theorem dX11_paperLine_1 : decode cX11_paperLine 1 = .ok (.getfield 98, 3) := by decide +kernel
theorem dX11_paperLine_4 : decode cX11_paperLine 4 = .ok (.istore_n 1, 1) := by decide +kernel
theorem dX11_paperLine_5 : decode cX11_paperLine 5 = .ok (.aload_n 0, 1) := by decide +kernel
theorem dX11_paperLine_6 : decode cX11_paperLine 6 = .ok (.iconst 1, 1) := by decide +kernel
theorem dX11_paperLine_7 : decode cX11_paperLine 7 = .ok (.iconst 4, 1) := by decide +kernel
theorem dX11_paperLine_8 : decode cX11_paperLine 8 = .ok (.invokevirtual 156, 3) := by decide +kernel
theorem dX11_paperLine_11 : decode cX11_paperLine 11 = .ok (.istore_n 2, 1) := by decide +kernel
theorem dX11_paperLine_12 : decode cX11_paperLine 12 = .ok (.aload_n 0, 1) := by decide +kernel
theorem dX11_paperLine_13 : decode cX11_paperLine 13 = .ok (.getfield 125, 3) := by decide +kernel
theorem dX11_paperLine_16 : decode cX11_paperLine 16 = .ok (.ifCond .eq 7, 3) := by decide +kernel
theorem dX11_paperLine_19 : decode cX11_paperLine 19 = .ok (.iconst 0, 1) := by decide +kernel
theorem dX11_paperLine_20 : decode cX11_paperLine 20 = .ok (.goto 4, 3) := by decide +kernel
theorem dX11_paperLine_23 : decode cX11_paperLine 23 = .ok (.iload_n 2, 1) := by decide +kernel
theorem dX11_paperLine_24 : decode cX11_paperLine 24 = .ok (.tableswitch 62 1 4 #[32, 40, 47, 55], 32) := by decide +kernel
theorem dX11_paperLine_56 : decode cX11_paperLine 56 = .ok (.aload_n 0, 1) := by decide +kernel
theorem dX11_paperLine_57 : decode cX11_paperLine 57 = .ok (.iload_n 1, 1) := by decide +kernel
theorem dX11_paperLine_58 : decode cX11_paperLine 58 = .ok (.invokevirtual 159, 3) := by decide +kernel
theorem dX11_paperLine_61 : decode cX11_paperLine 61 = .ok (.goto 25, 3) := by decide +kernel
theorem dX11_paperLine_64 : decode cX11_paperLine 64 = .ok (.aload_n 0, 1) := by decide +kernel
theorem dX11_paperLine_65 : decode cX11_paperLine 65 = .ok (.invokevirtual 163, 3) := by decide +kernel
theorem dX11_paperLine_68 : decode cX11_paperLine 68 = .ok (.goto 18, 3) := by decide +kernel
theorem dX11_paperLine_71 : decode cX11_paperLine 71 = .ok (.aload_n 0, 1) := by decide +kernel
theorem dX11_paperLine_72 : decode cX11_paperLine 72 = .ok (.iload_n 1, 1) := by decide +kernel
theorem dX11_paperLine_73 : decode cX11_paperLine 73 = .ok (.invokevirtual 166, 3) := by decide +kernel
theorem dX11_paperLine_76 : decode cX11_paperLine 76 = .ok (.goto 10, 3) := by decide +kernel
theorem dX11_paperLine_79 : decode cX11_paperLine 79 = .ok (.aload_n 0, 1) := by decide +kernel
theorem dX11_paperLine_80 : decode cX11_paperLine 80 = .ok (.invokevirtual 169, 3) := by decide +kernel
theorem dX11_paperLine_83 : decode cX11_paperLine 83 = .ok (.goto 3, 3) := by decide +kernel
theorem dX11_paperLine_86 : decode cX11_paperLine 86 = .ok (.aload_n 0, 1) := by decide +kernel
theorem dX11_paperLine_87 : decode cX11_paperLine 87 = .ok (.invokevirtual 172, 3) := by decide +kernel
theorem dX11_paperLine_90 : decode cX11_paperLine 90 = .ok (.return_, 1) := by decide +kernel
theorem dX11_weekLine_0 : decode cX11_weekLine 0 = .ok (.aload_n 0, 1) := by decide +kernel
theorem dX11_weekLine_1 : decode cX11_weekLine 1 = .ok (.getfield 98, 3) := by decide +kernel
theorem dX11_weekLine_4 : decode cX11_weekLine 4 = .ok (.istore_n 1, 1) := by decide +kernel
theorem dX11_weekLine_5 : decode cX11_weekLine 5 = .ok (.aload_n 0, 1) := by decide +kernel
theorem dX11_weekLine_6 : decode cX11_weekLine 6 = .ok (.iconst 5, 1) := by decide +kernel
theorem dX11_weekLine_7 : decode cX11_weekLine 7 = .ok (.bipush 10, 2) := by decide +kernel
theorem dX11_weekLine_9 : decode cX11_weekLine 9 = .ok (.invokevirtual 156, 3) := by decide +kernel
theorem dX11_weekLine_12 : decode cX11_weekLine 12 = .ok (.iconst 5, 1) := by decide +kernel
theorem dX11_weekLine_13 : decode cX11_weekLine 13 = .ok (.isub, 1) := by decide +kernel
theorem dX11_weekLine_14 : decode cX11_weekLine 14 = .ok (.istore_n 2, 1) := by decide +kernel
theorem dX11_weekLine_15 : decode cX11_weekLine 15 = .ok (.aload_n 0, 1) := by decide +kernel
theorem dX11_weekLine_16 : decode cX11_weekLine 16 = .ok (.getfield 125, 3) := by decide +kernel
theorem dX11_weekLine_19 : decode cX11_weekLine 19 = .ok (.ifCond .ne 20, 3) := by decide +kernel
theorem dX11_weekLine_22 : decode cX11_weekLine 22 = .ok (.aload_n 0, 1) := by decide +kernel
theorem dX11_weekLine_23 : decode cX11_weekLine 23 = .ok (.getfield 17, 3) := by decide +kernel
theorem dX11_weekLine_26 : decode cX11_weekLine 26 = .ok (.iconst 0, 1) := by decide +kernel
theorem dX11_weekLine_27 : decode cX11_weekLine 27 = .ok (.iaload, 1) := by decide +kernel
theorem dX11_weekLine_28 : decode cX11_weekLine 28 = .ok (.bipush 40, 2) := by decide +kernel
theorem dX11_weekLine_30 : decode cX11_weekLine 30 = .ok (.if_icmp .lt 9, 3) := by decide +kernel
theorem dX11_weekLine_33 : decode cX11_weekLine 33 = .ok (.aload_n 0, 1) := by decide +kernel
theorem dX11_weekLine_34 : decode cX11_weekLine 34 = .ok (.iconst 3, 1) := by decide +kernel
theorem dX11_weekLine_35 : decode cX11_weekLine 35 = .ok (.iload_n 1, 1) := by decide +kernel
theorem dX11_weekLine_36 : decode cX11_weekLine 36 = .ok (.invokevirtual 136, 3) := by decide +kernel
theorem dX11_weekLine_39 : decode cX11_weekLine 39 = .ok (.iconst (-1), 1) := by decide +kernel
theorem dX11_weekLine_40 : decode cX11_weekLine 40 = .ok (.istore_n 3, 1) := by decide +kernel
theorem dX11_weekLine_41 : decode cX11_weekLine 41 = .ok (.iconst (-1), 1) := by decide +kernel
theorem dX11_weekLine_42 : decode cX11_weekLine 42 = .ok (.istore 4, 2) := by decide +kernel
theorem dX11_weekLine_44 : decode cX11_weekLine 44 = .ok (.aload_n 0, 1) := by decide +kernel
theorem dX11_weekLine_45 : decode cX11_weekLine 45 = .ok (.getfield 125, 3) := by decide +kernel
theorem dX11_weekLine_48 : decode cX11_weekLine 48 = .ok (.ifCond .eq 7, 3) := by decide +kernel
theorem dX11_weekLine_51 : decode cX11_weekLine 51 = .ok (.iconst 5, 1) := by decide +kernel
theorem dX11_weekLine_52 : decode cX11_weekLine 52 = .ok (.goto 4, 3) := by decide +kernel
theorem dX11_weekLine_55 : decode cX11_weekLine 55 = .ok (.iload_n 2, 1) := by decide +kernel
theorem dX11_weekLine_56 : decode cX11_weekLine 56 = .ok (.tableswitch 103 0 4 #[36, 46, 66, 85, 85], 36) := by decide +kernel
theorem dX11_weekLine_92 : decode cX11_weekLine 92 = .ok (.aload_n 0, 1) := by decide +kernel
theorem dX11_weekLine_93 : decode cX11_weekLine 93 = .ok (.iconst 0, 1) := by decide +kernel
theorem dX11_weekLine_94 : decode cX11_weekLine 94 = .ok (.iconst 5, 1) := by decide +kernel
theorem dX11_weekLine_95 : decode cX11_weekLine 95 = .ok (.invokevirtual 143, 3) := by decide +kernel
theorem dX11_weekLine_98 : decode cX11_weekLine 98 = .ok (.istore_n 3, 1) := by decide +kernel
theorem dX11_weekLine_99 : decode cX11_weekLine 99 = .ok (.goto 60, 3) := by decide +kernel
theorem dX11_weekLine_102 : decode cX11_weekLine 102 = .ok (.aload_n 0, 1) := by decide +kernel
theorem dX11_weekLine_103 : decode cX11_weekLine 103 = .ok (.iconst 0, 1) := by decide +kernel
theorem dX11_weekLine_104 : decode cX11_weekLine 104 = .ok (.bipush 7, 2) := by decide +kernel
theorem dX11_weekLine_106 : decode cX11_weekLine 106 = .ok (.invokevirtual 143, 3) := by decide +kernel
theorem dX11_weekLine_109 : decode cX11_weekLine 109 = .ok (.istore_n 3, 1) := by decide +kernel
theorem dX11_weekLine_110 : decode cX11_weekLine 110 = .ok (.aload_n 0, 1) := by decide +kernel
theorem dX11_weekLine_111 : decode cX11_weekLine 111 = .ok (.iconst 0, 1) := by decide +kernel
theorem dX11_weekLine_112 : decode cX11_weekLine 112 = .ok (.bipush 9, 2) := by decide +kernel
theorem dX11_weekLine_114 : decode cX11_weekLine 114 = .ok (.invokevirtual 143, 3) := by decide +kernel
theorem dX11_weekLine_117 : decode cX11_weekLine 117 = .ok (.istore 4, 2) := by decide +kernel
theorem dX11_weekLine_119 : decode cX11_weekLine 119 = .ok (.goto 40, 3) := by decide +kernel
theorem dX11_weekLine_122 : decode cX11_weekLine 122 = .ok (.aload_n 0, 1) := by decide +kernel
theorem dX11_weekLine_123 : decode cX11_weekLine 123 = .ok (.iconst 0, 1) := by decide +kernel
theorem dX11_weekLine_124 : decode cX11_weekLine 124 = .ok (.iconst 5, 1) := by decide +kernel
theorem dX11_weekLine_125 : decode cX11_weekLine 125 = .ok (.invokevirtual 143, 3) := by decide +kernel
theorem dX11_weekLine_128 : decode cX11_weekLine 128 = .ok (.istore_n 3, 1) := by decide +kernel
theorem dX11_weekLine_129 : decode cX11_weekLine 129 = .ok (.aload_n 0, 1) := by decide +kernel
theorem dX11_weekLine_130 : decode cX11_weekLine 130 = .ok (.iconst 0, 1) := by decide +kernel
theorem dX11_weekLine_131 : decode cX11_weekLine 131 = .ok (.bipush 7, 2) := by decide +kernel
theorem dX11_weekLine_133 : decode cX11_weekLine 133 = .ok (.invokevirtual 143, 3) := by decide +kernel
theorem dX11_weekLine_136 : decode cX11_weekLine 136 = .ok (.istore 4, 2) := by decide +kernel
theorem dX11_weekLine_138 : decode cX11_weekLine 138 = .ok (.goto 21, 3) := by decide +kernel
theorem dX11_weekLine_141 : decode cX11_weekLine 141 = .ok (.aload_n 0, 1) := by decide +kernel
theorem dX11_weekLine_142 : decode cX11_weekLine 142 = .ok (.iconst 0, 1) := by decide +kernel
theorem dX11_weekLine_143 : decode cX11_weekLine 143 = .ok (.bipush 9, 2) := by decide +kernel
theorem dX11_weekLine_145 : decode cX11_weekLine 145 = .ok (.invokevirtual 143, 3) := by decide +kernel
theorem dX11_weekLine_148 : decode cX11_weekLine 148 = .ok (.istore_n 3, 1) := by decide +kernel
theorem dX11_weekLine_149 : decode cX11_weekLine 149 = .ok (.aload_n 0, 1) := by decide +kernel
theorem dX11_weekLine_150 : decode cX11_weekLine 150 = .ok (.iload_n 3, 1) := by decide +kernel
theorem dX11_weekLine_151 : decode cX11_weekLine 151 = .ok (.invokevirtual 147, 3) := by decide +kernel
theorem dX11_weekLine_154 : decode cX11_weekLine 154 = .ok (.istore 4, 2) := by decide +kernel
theorem dX11_weekLine_156 : decode cX11_weekLine 156 = .ok (.goto 3, 3) := by decide +kernel
theorem dX11_weekLine_159 : decode cX11_weekLine 159 = .ok (.aload_n 0, 1) := by decide +kernel
theorem dX11_weekLine_160 : decode cX11_weekLine 160 = .ok (.getfield 17, 3) := by decide +kernel
theorem dX11_weekLine_163 : decode cX11_weekLine 163 = .ok (.iconst 0, 1) := by decide +kernel
theorem dX11_weekLine_164 : decode cX11_weekLine 164 = .ok (.iaload, 1) := by decide +kernel
theorem dX11_weekLine_165 : decode cX11_weekLine 165 = .ok (.bipush 40, 2) := by decide +kernel
theorem dX11_weekLine_167 : decode cX11_weekLine 167 = .ok (.if_icmp .ge 54, 3) := by decide +kernel
theorem dX11_weekLine_170 : decode cX11_weekLine 170 = .ok (.iconst 1, 1) := by decide +kernel
theorem dX11_weekLine_171 : decode cX11_weekLine 171 = .ok (.iconst 3, 1) := by decide +kernel
theorem dX11_weekLine_172 : decode cX11_weekLine 172 = .ok (.aload_n 0, 1) := by decide +kernel
theorem dX11_weekLine_173 : decode cX11_weekLine 173 = .ok (.getfield 17, 3) := by decide +kernel
theorem dX11_weekLine_176 : decode cX11_weekLine 176 = .ok (.iconst 0, 1) := by decide +kernel
theorem dX11_weekLine_177 : decode cX11_weekLine 177 = .ok (.iaload, 1) := by decide +kernel
theorem dX11_weekLine_178 : decode cX11_weekLine 178 = .ok (.imul, 1) := by decide +kernel
theorem dX11_weekLine_179 : decode cX11_weekLine 179 = .ok (.iadd, 1) := by decide +kernel
theorem dX11_weekLine_180 : decode cX11_weekLine 180 = .ok (.istore 5, 2) := by decide +kernel
theorem dX11_weekLine_182 : decode cX11_weekLine 182 = .ok (.aload_n 0, 1) := by decide +kernel
theorem dX11_weekLine_183 : decode cX11_weekLine 183 = .ok (.getfield 17, 3) := by decide +kernel
theorem dX11_weekLine_186 : decode cX11_weekLine 186 = .ok (.iload 5, 2) := by decide +kernel
theorem dX11_weekLine_188 : decode cX11_weekLine 188 = .ok (.iload_n 2, 1) := by decide +kernel
theorem dX11_weekLine_189 : decode cX11_weekLine 189 = .ok (.iastore, 1) := by decide +kernel
theorem dX11_weekLine_190 : decode cX11_weekLine 190 = .ok (.aload_n 0, 1) := by decide +kernel
theorem dX11_weekLine_191 : decode cX11_weekLine 191 = .ok (.getfield 17, 3) := by decide +kernel
theorem dX11_weekLine_194 : decode cX11_weekLine 194 = .ok (.iload 5, 2) := by decide +kernel
theorem dX11_weekLine_196 : decode cX11_weekLine 196 = .ok (.iconst 1, 1) := by decide +kernel
theorem dX11_weekLine_197 : decode cX11_weekLine 197 = .ok (.iadd, 1) := by decide +kernel
theorem dX11_weekLine_198 : decode cX11_weekLine 198 = .ok (.iload_n 3, 1) := by decide +kernel
theorem dX11_weekLine_199 : decode cX11_weekLine 199 = .ok (.iastore, 1) := by decide +kernel
theorem dX11_weekLine_200 : decode cX11_weekLine 200 = .ok (.aload_n 0, 1) := by decide +kernel
theorem dX11_weekLine_201 : decode cX11_weekLine 201 = .ok (.getfield 17, 3) := by decide +kernel
theorem dX11_weekLine_204 : decode cX11_weekLine 204 = .ok (.iload 5, 2) := by decide +kernel
theorem dX11_weekLine_206 : decode cX11_weekLine 206 = .ok (.iconst 2, 1) := by decide +kernel
theorem dX11_weekLine_207 : decode cX11_weekLine 207 = .ok (.iadd, 1) := by decide +kernel
theorem dX11_weekLine_208 : decode cX11_weekLine 208 = .ok (.iload 4, 2) := by decide +kernel
theorem dX11_weekLine_210 : decode cX11_weekLine 210 = .ok (.iastore, 1) := by decide +kernel
theorem dX11_weekLine_211 : decode cX11_weekLine 211 = .ok (.aload_n 0, 1) := by decide +kernel
theorem dX11_weekLine_212 : decode cX11_weekLine 212 = .ok (.getfield 17, 3) := by decide +kernel
theorem dX11_weekLine_215 : decode cX11_weekLine 215 = .ok (.iconst 0, 1) := by decide +kernel
theorem dX11_weekLine_216 : decode cX11_weekLine 216 = .ok (.dup2, 1) := by decide +kernel
theorem dX11_weekLine_217 : decode cX11_weekLine 217 = .ok (.iaload, 1) := by decide +kernel
theorem dX11_weekLine_218 : decode cX11_weekLine 218 = .ok (.iconst 1, 1) := by decide +kernel
theorem dX11_weekLine_219 : decode cX11_weekLine 219 = .ok (.iadd, 1) := by decide +kernel
theorem dX11_weekLine_220 : decode cX11_weekLine 220 = .ok (.iastore, 1) := by decide +kernel
theorem dX11_weekLine_221 : decode cX11_weekLine 221 = .ok (.aload_n 0, 1) := by decide +kernel
theorem dX11_weekLine_222 : decode cX11_weekLine 222 = .ok (.invokevirtual 172, 3) := by decide +kernel
theorem dX11_weekLine_225 : decode cX11_weekLine 225 = .ok (.return_, 1) := by decide +kernel
theorem dX11_logLine_0 : decode cX11_logLine 0 = .ok (.aload_n 0, 1) := by decide +kernel
theorem dX11_logLine_1 : decode cX11_logLine 1 = .ok (.getfield 98, 3) := by decide +kernel
theorem dX11_logLine_4 : decode cX11_logLine 4 = .ok (.istore_n 1, 1) := by decide +kernel
theorem dX11_logLine_5 : decode cX11_logLine 5 = .ok (.aload_n 0, 1) := by decide +kernel
theorem dX11_logLine_6 : decode cX11_logLine 6 = .ok (.bipush 11, 2) := by decide +kernel
theorem dX11_logLine_8 : decode cX11_logLine 8 = .ok (.bipush 11, 2) := by decide +kernel
theorem dX11_logLine_10 : decode cX11_logLine 10 = .ok (.invokevirtual 156, 3) := by decide +kernel
theorem dX11_logLine_13 : decode cX11_logLine 13 = .ok (.pop, 1) := by decide +kernel
theorem dX11_logLine_14 : decode cX11_logLine 14 = .ok (.aload_n 0, 1) := by decide +kernel
theorem dX11_logLine_15 : decode cX11_logLine 15 = .ok (.getfield 125, 3) := by decide +kernel
theorem dX11_logLine_18 : decode cX11_logLine 18 = .ok (.ifCond .ne 20, 3) := by decide +kernel
theorem dX11_logLine_21 : decode cX11_logLine 21 = .ok (.aload_n 0, 1) := by decide +kernel
theorem dX11_logLine_22 : decode cX11_logLine 22 = .ok (.getfield 17, 3) := by decide +kernel
theorem dX11_logLine_25 : decode cX11_logLine 25 = .ok (.iconst 0, 1) := by decide +kernel
theorem dX11_logLine_26 : decode cX11_logLine 26 = .ok (.iaload, 1) := by decide +kernel
theorem dX11_logLine_27 : decode cX11_logLine 27 = .ok (.bipush 8, 2) := by decide +kernel
theorem dX11_logLine_29 : decode cX11_logLine 29 = .ok (.if_icmp .lt 9, 3) := by decide +kernel
theorem dX11_logLine_32 : decode cX11_logLine 32 = .ok (.aload_n 0, 1) := by decide +kernel
theorem dX11_logLine_33 : decode cX11_logLine 33 = .ok (.iconst 3, 1) := by decide +kernel
theorem dX11_logLine_34 : decode cX11_logLine 34 = .ok (.iload_n 1, 1) := by decide +kernel
theorem dX11_logLine_35 : decode cX11_logLine 35 = .ok (.invokevirtual 136, 3) := by decide +kernel
theorem dX11_logLine_38 : decode cX11_logLine 38 = .ok (.aload_n 0, 1) := by decide +kernel
theorem dX11_logLine_39 : decode cX11_logLine 39 = .ok (.iconst 0, 1) := by decide +kernel
theorem dX11_logLine_40 : decode cX11_logLine 40 = .ok (.bipush 7, 2) := by decide +kernel
theorem dX11_logLine_42 : decode cX11_logLine 42 = .ok (.invokevirtual 143, 3) := by decide +kernel
theorem dX11_logLine_45 : decode cX11_logLine 45 = .ok (.istore_n 2, 1) := by decide +kernel
theorem dX11_logLine_46 : decode cX11_logLine 46 = .ok (.aload_n 0, 1) := by decide +kernel
theorem dX11_logLine_47 : decode cX11_logLine 47 = .ok (.iconst 0, 1) := by decide +kernel
theorem dX11_logLine_48 : decode cX11_logLine 48 = .ok (.bipush 9, 2) := by decide +kernel
theorem dX11_logLine_50 : decode cX11_logLine 50 = .ok (.invokevirtual 143, 3) := by decide +kernel
theorem dX11_logLine_53 : decode cX11_logLine 53 = .ok (.istore_n 3, 1) := by decide +kernel
theorem dX11_logLine_54 : decode cX11_logLine 54 = .ok (.aload_n 0, 1) := by decide +kernel
theorem dX11_logLine_55 : decode cX11_logLine 55 = .ok (.getfield 17, 3) := by decide +kernel
theorem dX11_logLine_58 : decode cX11_logLine 58 = .ok (.iconst 0, 1) := by decide +kernel
theorem dX11_logLine_59 : decode cX11_logLine 59 = .ok (.iaload, 1) := by decide +kernel
theorem dX11_logLine_60 : decode cX11_logLine 60 = .ok (.bipush 8, 2) := by decide +kernel
theorem dX11_logLine_62 : decode cX11_logLine 62 = .ok (.if_icmp .ge 45, 3) := by decide +kernel
theorem dX11_logLine_65 : decode cX11_logLine 65 = .ok (.aload_n 0, 1) := by decide +kernel
theorem dX11_logLine_66 : decode cX11_logLine 66 = .ok (.getfield 17, 3) := by decide +kernel
theorem dX11_logLine_69 : decode cX11_logLine 69 = .ok (.iconst 1, 1) := by decide +kernel
theorem dX11_logLine_70 : decode cX11_logLine 70 = .ok (.iconst 2, 1) := by decide +kernel
theorem dX11_logLine_71 : decode cX11_logLine 71 = .ok (.aload_n 0, 1) := by decide +kernel
theorem dX11_logLine_72 : decode cX11_logLine 72 = .ok (.getfield 17, 3) := by decide +kernel
theorem dX11_logLine_75 : decode cX11_logLine 75 = .ok (.iconst 0, 1) := by decide +kernel
theorem dX11_logLine_76 : decode cX11_logLine 76 = .ok (.iaload, 1) := by decide +kernel
theorem dX11_logLine_77 : decode cX11_logLine 77 = .ok (.imul, 1) := by decide +kernel
theorem dX11_logLine_78 : decode cX11_logLine 78 = .ok (.iadd, 1) := by decide +kernel
theorem dX11_logLine_79 : decode cX11_logLine 79 = .ok (.iload_n 2, 1) := by decide +kernel
theorem dX11_logLine_80 : decode cX11_logLine 80 = .ok (.iastore, 1) := by decide +kernel
theorem dX11_logLine_81 : decode cX11_logLine 81 = .ok (.aload_n 0, 1) := by decide +kernel
theorem dX11_logLine_82 : decode cX11_logLine 82 = .ok (.getfield 17, 3) := by decide +kernel
theorem dX11_logLine_85 : decode cX11_logLine 85 = .ok (.iconst 2, 1) := by decide +kernel
theorem dX11_logLine_86 : decode cX11_logLine 86 = .ok (.iconst 2, 1) := by decide +kernel
theorem dX11_logLine_87 : decode cX11_logLine 87 = .ok (.aload_n 0, 1) := by decide +kernel
theorem dX11_logLine_88 : decode cX11_logLine 88 = .ok (.getfield 17, 3) := by decide +kernel
theorem dX11_logLine_91 : decode cX11_logLine 91 = .ok (.iconst 0, 1) := by decide +kernel
theorem dX11_logLine_92 : decode cX11_logLine 92 = .ok (.iaload, 1) := by decide +kernel
theorem dX11_logLine_93 : decode cX11_logLine 93 = .ok (.imul, 1) := by decide +kernel
theorem dX11_logLine_94 : decode cX11_logLine 94 = .ok (.iadd, 1) := by decide +kernel
theorem dX11_logLine_95 : decode cX11_logLine 95 = .ok (.iload_n 3, 1) := by decide +kernel
theorem dX11_logLine_96 : decode cX11_logLine 96 = .ok (.iastore, 1) := by decide +kernel
theorem dX11_logLine_97 : decode cX11_logLine 97 = .ok (.aload_n 0, 1) := by decide +kernel
theorem dX11_logLine_98 : decode cX11_logLine 98 = .ok (.getfield 17, 3) := by decide +kernel
theorem dX11_logLine_101 : decode cX11_logLine 101 = .ok (.iconst 0, 1) := by decide +kernel
theorem dX11_logLine_102 : decode cX11_logLine 102 = .ok (.dup2, 1) := by decide +kernel
theorem dX11_logLine_103 : decode cX11_logLine 103 = .ok (.iaload, 1) := by decide +kernel
theorem dX11_logLine_104 : decode cX11_logLine 104 = .ok (.iconst 1, 1) := by decide +kernel
theorem dX11_logLine_105 : decode cX11_logLine 105 = .ok (.iadd, 1) := by decide +kernel
theorem dX11_logLine_106 : decode cX11_logLine 106 = .ok (.iastore, 1) := by decide +kernel
theorem dX11_logLine_107 : decode cX11_logLine 107 = .ok (.aload_n 0, 1) := by decide +kernel
theorem dX11_logLine_108 : decode cX11_logLine 108 = .ok (.invokevirtual 172, 3) := by decide +kernel
theorem dX11_logLine_111 : decode cX11_logLine 111 = .ok (.return_, 1) := by decide +kernel
theorem dX11_placeOf_0 : decode cX11_placeOf 0 = .ok (.iload_n 0, 1) := by decide +kernel
theorem dX11_placeOf_1 : decode cX11_placeOf 1 = .ok (.ifCond .ne 14, 3) := by decide +kernel
theorem dX11_placeOf_4 : decode cX11_placeOf 4 = .ok (.sipush 610, 3) := by decide +kernel
theorem dX11_placeOf_7 : decode cX11_placeOf 7 = .ok (.bipush 80, 2) := by decide +kernel
theorem dX11_placeOf_9 : decode cX11_placeOf 9 = .ok (.iload_n 1, 1) := by decide +kernel
theorem dX11_placeOf_10 : decode cX11_placeOf 10 = .ok (.imul, 1) := by decide +kernel
theorem dX11_placeOf_11 : decode cX11_placeOf 11 = .ok (.iadd, 1) := by decide +kernel
theorem dX11_placeOf_12 : decode cX11_placeOf 12 = .ok (.goto 27, 3) := by decide +kernel
theorem dX11_placeOf_15 : decode cX11_placeOf 15 = .ok (.iload_n 0, 1) := by decide +kernel
theorem dX11_placeOf_16 : decode cX11_placeOf 16 = .ok (.iconst 1, 1) := by decide +kernel
theorem dX11_placeOf_17 : decode cX11_placeOf 17 = .ok (.if_icmp .ne 14, 3) := by decide +kernel
theorem dX11_placeOf_20 : decode cX11_placeOf 20 = .ok (.sipush 770, 3) := by decide +kernel
theorem dX11_placeOf_23 : decode cX11_placeOf 23 = .ok (.bipush 121, 2) := by decide +kernel
theorem dX11_placeOf_25 : decode cX11_placeOf 25 = .ok (.iload_n 1, 1) := by decide +kernel
theorem dX11_placeOf_26 : decode cX11_placeOf 26 = .ok (.imul, 1) := by decide +kernel
theorem dX11_placeOf_27 : decode cX11_placeOf 27 = .ok (.iadd, 1) := by decide +kernel
theorem dX11_placeOf_28 : decode cX11_placeOf 28 = .ok (.goto 11, 3) := by decide +kernel
theorem dX11_placeOf_31 : decode cX11_placeOf 31 = .ok (.sipush 1012, 3) := by decide +kernel
theorem dX11_placeOf_34 : decode cX11_placeOf 34 = .ok (.bipush 17, 2) := by decide +kernel
theorem dX11_placeOf_36 : decode cX11_placeOf 36 = .ok (.iload_n 1, 1) := by decide +kernel
theorem dX11_placeOf_37 : decode cX11_placeOf 37 = .ok (.imul, 1) := by decide +kernel
theorem dX11_placeOf_38 : decode cX11_placeOf 38 = .ok (.iadd, 1) := by decide +kernel
theorem dX11_placeOf_39 : decode cX11_placeOf 39 = .ok (.ireturn, 1) := by decide +kernel
theorem dX11_sizeOf_0 : decode cX11_sizeOf 0 = .ok (.iload_n 0, 1) := by decide +kernel
theorem dX11_sizeOf_1 : decode cX11_sizeOf 1 = .ok (.ifCond .ne 8, 3) := by decide +kernel
theorem dX11_sizeOf_4 : decode cX11_sizeOf 4 = .ok (.bipush 80, 2) := by decide +kernel
theorem dX11_sizeOf_6 : decode cX11_sizeOf 6 = .ok (.goto 15, 3) := by decide +kernel
theorem dX11_sizeOf_9 : decode cX11_sizeOf 9 = .ok (.iload_n 0, 1) := by decide +kernel
theorem dX11_sizeOf_10 : decode cX11_sizeOf 10 = .ok (.iconst 1, 1) := by decide +kernel
theorem dX11_sizeOf_11 : decode cX11_sizeOf 11 = .ok (.if_icmp .ne 8, 3) := by decide +kernel
theorem dX11_sizeOf_14 : decode cX11_sizeOf 14 = .ok (.bipush 121, 2) := by decide +kernel
theorem dX11_sizeOf_16 : decode cX11_sizeOf 16 = .ok (.goto 5, 3) := by decide +kernel
theorem dX11_sizeOf_19 : decode cX11_sizeOf 19 = .ok (.bipush 17, 2) := by decide +kernel
theorem dX11_sizeOf_21 : decode cX11_sizeOf 21 = .ok (.ireturn, 1) := by decide +kernel
theorem dX11_isOf_0 : decode cX11_isOf 0 = .ok (.iload_n 2, 1) := by decide +kernel
theorem dX11_isOf_1 : decode cX11_isOf 1 = .ok (.iconst 0, 1) := by decide +kernel
theorem dX11_isOf_2 : decode cX11_isOf 2 = .ok (.aload_n 0, 1) := by decide +kernel
theorem dX11_isOf_3 : decode cX11_isOf 3 = .ok (.getfield 7, 3) := by decide +kernel
theorem dX11_isOf_6 : decode cX11_isOf 6 = .ok (.iload_n 1, 1) := by decide +kernel
theorem dX11_isOf_7 : decode cX11_isOf 7 = .ok (.iaload, 1) := by decide +kernel
theorem dX11_isOf_8 : decode cX11_isOf 8 = .ok (.iconst 1, 1) := by decide +kernel
theorem dX11_isOf_9 : decode cX11_isOf 9 = .ok (.isub, 1) := by decide +kernel
theorem dX11_isOf_10 : decode cX11_isOf 10 = .ok (.invokestatic 132, 3) := by decide +kernel
theorem dX11_isOf_13 : decode cX11_isOf 13 = .ok (.ireturn, 1) := by decide +kernel
theorem dX11_beginsText_0 : decode cX11_beginsText 0 = .ok (.aload_n 0, 1) := by decide +kernel
theorem dX11_beginsText_1 : decode cX11_beginsText 1 = .ok (.iconst 0, 1) := by decide +kernel
theorem dX11_beginsText_2 : decode cX11_beginsText 2 = .ok (.putfield 91, 3) := by decide +kernel
theorem dX11_beginsText_5 : decode cX11_beginsText 5 = .ok (.aload_n 0, 1) := by decide +kernel
theorem dX11_beginsText_6 : decode cX11_beginsText 6 = .ok (.iconst 0, 1) := by decide +kernel
theorem dX11_beginsText_7 : decode cX11_beginsText 7 = .ok (.putfield 125, 3) := by decide +kernel
theorem dX11_beginsText_10 : decode cX11_beginsText 10 = .ok (.aload_n 0, 1) := by decide +kernel
theorem dX11_beginsText_11 : decode cX11_beginsText 11 = .ok (.iconst (-1), 1) := by decide +kernel
theorem dX11_beginsText_12 : decode cX11_beginsText 12 = .ok (.putfield 150, 3) := by decide +kernel
theorem dX11_beginsText_15 : decode cX11_beginsText 15 = .ok (.aload_n 0, 1) := by decide +kernel
theorem dX11_beginsText_16 : decode cX11_beginsText 16 = .ok (.iconst (-1), 1) := by decide +kernel
theorem dX11_beginsText_17 : decode cX11_beginsText 17 = .ok (.putfield 153, 3) := by decide +kernel
theorem dX11_beginsText_20 : decode cX11_beginsText 20 = .ok (.iconst 0, 1) := by decide +kernel
theorem dX11_beginsText_21 : decode cX11_beginsText 21 = .ok (.istore_n 2, 1) := by decide +kernel
theorem dX11_beginsText_22 : decode cX11_beginsText 22 = .ok (.iload_n 2, 1) := by decide +kernel
theorem dX11_beginsText_23 : decode cX11_beginsText 23 = .ok (.bipush 121, 2) := by decide +kernel
theorem dX11_beginsText_25 : decode cX11_beginsText 25 = .ok (.if_icmp .ge 36, 3) := by decide +kernel
theorem dX11_beginsText_28 : decode cX11_beginsText 28 = .ok (.aload_n 0, 1) := by decide +kernel
theorem dX11_beginsText_29 : decode cX11_beginsText 29 = .ok (.getfield 17, 3) := by decide +kernel
theorem dX11_beginsText_32 : decode cX11_beginsText 32 = .ok (.iload_n 2, 1) := by decide +kernel
theorem dX11_beginsText_33 : decode cX11_beginsText 33 = .ok (.iload_n 1, 1) := by decide +kernel
theorem dX11_beginsText_34 : decode cX11_beginsText 34 = .ok (.ifCond .ne 19, 3) := by decide +kernel
theorem dX11_beginsText_37 : decode cX11_beginsText 37 = .ok (.iload_n 2, 1) := by decide +kernel
theorem dX11_beginsText_38 : decode cX11_beginsText 38 = .ok (.bipush 32, 2) := by decide +kernel
theorem dX11_beginsText_40 : decode cX11_beginsText 40 = .ok (.bipush 79, 2) := by decide +kernel
theorem dX11_beginsText_42 : decode cX11_beginsText 42 = .ok (.invokestatic 132, 3) := by decide +kernel
theorem dX11_beginsText_45 : decode cX11_beginsText 45 = .ok (.ifCond .eq 8, 3) := by decide +kernel
theorem dX11_beginsText_48 : decode cX11_beginsText 48 = .ok (.bipush 10, 2) := by decide +kernel
theorem dX11_beginsText_50 : decode cX11_beginsText 50 = .ok (.goto 4, 3) := by decide +kernel
theorem dX11_beginsText_53 : decode cX11_beginsText 53 = .ok (.iconst 0, 1) := by decide +kernel
theorem dX11_beginsText_54 : decode cX11_beginsText 54 = .ok (.iastore, 1) := by decide +kernel
theorem dX11_beginsText_55 : decode cX11_beginsText 55 = .ok (.iinc 2 1, 3) := by decide +kernel
theorem dX11_beginsText_58 : decode cX11_beginsText 58 = .ok (.goto (-36), 3) := by decide +kernel
theorem dX11_beginsText_61 : decode cX11_beginsText 61 = .ok (.return_, 1) := by decide +kernel
theorem dX11_text_0 : decode cX11_text 0 = .ok (.aload_n 0, 1) := by decide +kernel
theorem dX11_text_1 : decode cX11_text 1 = .ok (.aload_n 0, 1) := by decide +kernel
theorem dX11_text_2 : decode cX11_text 2 = .ok (.getfield 7, 3) := by decide +kernel
theorem dX11_text_5 : decode cX11_text 5 = .ok (.iconst 4, 1) := by decide +kernel
theorem dX11_text_6 : decode cX11_text 6 = .ok (.iaload, 1) := by decide +kernel
theorem dX11_text_7 : decode cX11_text 7 = .ok (.putfield 77, 3) := by decide +kernel
theorem dX11_text_10 : decode cX11_text 10 = .ok (.aload_n 0, 1) := by decide +kernel
theorem dX11_text_11 : decode cX11_text 11 = .ok (.getfield 7, 3) := by decide +kernel
theorem dX11_text_14 : decode cX11_text 14 = .ok (.iconst 4, 1) := by decide +kernel
theorem dX11_text_15 : decode cX11_text 15 = .ok (.iconst 0, 1) := by decide +kernel
theorem dX11_text_16 : decode cX11_text 16 = .ok (.iastore, 1) := by decide +kernel
theorem dX11_text_17 : decode cX11_text 17 = .ok (.aload_n 0, 1) := by decide +kernel
theorem dX11_text_18 : decode cX11_text 18 = .ok (.getfield 7, 3) := by decide +kernel
theorem dX11_text_21 : decode cX11_text 21 = .ok (.iconst 5, 1) := by decide +kernel
theorem dX11_text_22 : decode cX11_text 22 = .ok (.iconst 0, 1) := by decide +kernel
theorem dX11_text_23 : decode cX11_text 23 = .ok (.iastore, 1) := by decide +kernel
theorem dX11_text_24 : decode cX11_text 24 = .ok (.aload_n 0, 1) := by decide +kernel
theorem dX11_text_25 : decode cX11_text 25 = .ok (.getfield 7, 3) := by decide +kernel
theorem dX11_text_28 : decode cX11_text 28 = .ok (.bipush 6, 2) := by decide +kernel
theorem dX11_text_30 : decode cX11_text 30 = .ok (.iconst (-1), 1) := by decide +kernel
theorem dX11_text_31 : decode cX11_text 31 = .ok (.iastore, 1) := by decide +kernel
theorem dX11_text_32 : decode cX11_text 32 = .ok (.iload_n 1, 1) := by decide +kernel
theorem dX11_text_33 : decode cX11_text 33 = .ok (.iconst 0, 1) := by decide +kernel
theorem dX11_text_34 : decode cX11_text 34 = .ok (.iconst 2, 1) := by decide +kernel
theorem dX11_text_35 : decode cX11_text 35 = .ok (.invokestatic 132, 3) := by decide +kernel
theorem dX11_text_38 : decode cX11_text 38 = .ok (.ifCond .eq 30, 3) := by decide +kernel
theorem dX11_text_41 : decode cX11_text 41 = .ok (.iload_n 2, 1) := by decide +kernel
theorem dX11_text_42 : decode cX11_text 42 = .ok (.iconst (-1), 1) := by decide +kernel
theorem dX11_text_43 : decode cX11_text 43 = .ok (.if_icmp .ne 16, 3) := by decide +kernel
theorem dX11_text_46 : decode cX11_text 46 = .ok (.aload_n 0, 1) := by decide +kernel
theorem dX11_text_47 : decode cX11_text 47 = .ok (.getfield 7, 3) := by decide +kernel
theorem dX11_text_50 : decode cX11_text 50 = .ok (.iload_n 1, 1) := by decide +kernel
theorem dX11_text_51 : decode cX11_text 51 = .ok (.iaload, 1) := by decide +kernel
theorem dX11_text_52 : decode cX11_text 52 = .ok (.iconst 2, 1) := by decide +kernel
theorem dX11_text_53 : decode cX11_text 53 = .ok (.if_icmp .lt 18, 3) := by decide +kernel
theorem dX11_text_56 : decode cX11_text 56 = .ok (.goto 12, 3) := by decide +kernel
theorem dX11_text_59 : decode cX11_text 59 = .ok (.aload_n 0, 1) := by decide +kernel
theorem dX11_text_60 : decode cX11_text 60 = .ok (.iload_n 1, 1) := by decide +kernel
theorem dX11_text_61 : decode cX11_text 61 = .ok (.iload_n 2, 1) := by decide +kernel
theorem dX11_text_62 : decode cX11_text 62 = .ok (.invokevirtual 175, 3) := by decide +kernel
theorem dX11_text_65 : decode cX11_text 65 = .ok (.ifCond .ne 6, 3) := by decide +kernel
theorem dX11_text_68 : decode cX11_text 68 = .ok (.bipush (-2), 2) := by decide +kernel
theorem dX11_text_70 : decode cX11_text 70 = .ok (.ireturn, 1) := by decide +kernel
theorem dX11_text_71 : decode cX11_text 71 = .ok (.aload_n 0, 1) := by decide +kernel
theorem dX11_text_72 : decode cX11_text 72 = .ok (.iload_n 1, 1) := by decide +kernel
theorem dX11_text_73 : decode cX11_text 73 = .ok (.invokevirtual 179, 3) := by decide +kernel
theorem dX11_text_76 : decode cX11_text 76 = .ok (.aload_n 0, 1) := by decide +kernel
theorem dX11_text_77 : decode cX11_text 77 = .ok (.invokevirtual 140, 3) := by decide +kernel
theorem dX11_text_80 : decode cX11_text 80 = .ok (.aload_n 0, 1) := by decide +kernel
theorem dX11_text_81 : decode cX11_text 81 = .ok (.getfield 125, 3) := by decide +kernel
theorem dX11_text_84 : decode cX11_text 84 = .ok (.ifCond .ne 57, 3) := by decide +kernel
theorem dX11_text_87 : decode cX11_text 87 = .ok (.aload_n 0, 1) := by decide +kernel
theorem dX11_text_88 : decode cX11_text 88 = .ok (.getfield 101, 3) := by decide +kernel
theorem dX11_text_91 : decode cX11_text 91 = .ok (.ifCond .eq 50, 3) := by decide +kernel
theorem dX11_text_94 : decode cX11_text 94 = .ok (.iload_n 1, 1) := by decide +kernel
theorem dX11_text_95 : decode cX11_text 95 = .ok (.lookupswitch 39 #[(0, 25), (1, 32)], 25) := by decide +kernel
theorem dX11_text_120 : decode cX11_text 120 = .ok (.aload_n 0, 1) := by decide +kernel
theorem dX11_text_121 : decode cX11_text 121 = .ok (.invokevirtual 182, 3) := by decide +kernel
theorem dX11_text_124 : decode cX11_text 124 = .ok (.goto (-44), 3) := by decide +kernel
theorem dX11_text_127 : decode cX11_text 127 = .ok (.aload_n 0, 1) := by decide +kernel
theorem dX11_text_128 : decode cX11_text 128 = .ok (.invokevirtual 185, 3) := by decide +kernel
theorem dX11_text_131 : decode cX11_text 131 = .ok (.goto (-51), 3) := by decide +kernel
theorem dX11_text_134 : decode cX11_text 134 = .ok (.aload_n 0, 1) := by decide +kernel
theorem dX11_text_135 : decode cX11_text 135 = .ok (.invokevirtual 188, 3) := by decide +kernel
theorem dX11_text_138 : decode cX11_text 138 = .ok (.goto (-58), 3) := by decide +kernel
theorem dX11_text_141 : decode cX11_text 141 = .ok (.iload_n 1, 1) := by decide +kernel
theorem dX11_text_142 : decode cX11_text 142 = .ok (.ifCond .ne 34, 3) := by decide +kernel
theorem dX11_text_145 : decode cX11_text 145 = .ok (.aload_n 0, 1) := by decide +kernel
theorem dX11_text_146 : decode cX11_text 146 = .ok (.getfield 7, 3) := by decide +kernel
theorem dX11_text_149 : decode cX11_text 149 = .ok (.iconst 5, 1) := by decide +kernel
theorem dX11_text_150 : decode cX11_text 150 = .ok (.iaload, 1) := by decide +kernel
theorem dX11_text_151 : decode cX11_text 151 = .ok (.ifCond .ne 25, 3) := by decide +kernel
theorem dX11_text_154 : decode cX11_text 154 = .ok (.aload_n 0, 1) := by decide +kernel
theorem dX11_text_155 : decode cX11_text 155 = .ok (.getfield 150, 3) := by decide +kernel
theorem dX11_text_158 : decode cX11_text 158 = .ok (.aload_n 0, 1) := by decide +kernel
theorem dX11_text_159 : decode cX11_text 159 = .ok (.getfield 17, 3) := by decide +kernel
theorem dX11_text_162 : decode cX11_text 162 = .ok (.iconst 1, 1) := by decide +kernel
theorem dX11_text_163 : decode cX11_text 163 = .ok (.iaload, 1) := by decide +kernel
theorem dX11_text_164 : decode cX11_text 164 = .ok (.if_icmp .lt 12, 3) := by decide +kernel
theorem dX11_text_167 : decode cX11_text 167 = .ok (.aload_n 0, 1) := by decide +kernel
theorem dX11_text_168 : decode cX11_text 168 = .ok (.iconst 4, 1) := by decide +kernel
theorem dX11_text_169 : decode cX11_text 169 = .ok (.aload_n 0, 1) := by decide +kernel
theorem dX11_text_170 : decode cX11_text 170 = .ok (.getfield 98, 3) := by decide +kernel
theorem dX11_text_173 : decode cX11_text 173 = .ok (.invokevirtual 136, 3) := by decide +kernel
theorem dX11_text_176 : decode cX11_text 176 = .ok (.iload_n 1, 1) := by decide +kernel
theorem dX11_text_177 : decode cX11_text 177 = .ok (.ifCond .ne 34, 3) := by decide +kernel
theorem dX11_text_180 : decode cX11_text 180 = .ok (.aload_n 0, 1) := by decide +kernel
theorem dX11_text_181 : decode cX11_text 181 = .ok (.getfield 7, 3) := by decide +kernel
theorem dX11_text_184 : decode cX11_text 184 = .ok (.iconst 5, 1) := by decide +kernel
theorem dX11_text_185 : decode cX11_text 185 = .ok (.iaload, 1) := by decide +kernel
theorem dX11_text_186 : decode cX11_text 186 = .ok (.ifCond .ne 25, 3) := by decide +kernel
theorem dX11_text_189 : decode cX11_text 189 = .ok (.aload_n 0, 1) := by decide +kernel
theorem dX11_text_190 : decode cX11_text 190 = .ok (.getfield 153, 3) := by decide +kernel
theorem dX11_text_193 : decode cX11_text 193 = .ok (.aload_n 0, 1) := by decide +kernel
theorem dX11_text_194 : decode cX11_text 194 = .ok (.getfield 17, 3) := by decide +kernel
theorem dX11_text_197 : decode cX11_text 197 = .ok (.iconst 0, 1) := by decide +kernel
theorem dX11_text_198 : decode cX11_text 198 = .ok (.iaload, 1) := by decide +kernel
theorem dX11_text_199 : decode cX11_text 199 = .ok (.if_icmp .lt 12, 3) := by decide +kernel
theorem dX11_text_202 : decode cX11_text 202 = .ok (.aload_n 0, 1) := by decide +kernel
theorem dX11_text_203 : decode cX11_text 203 = .ok (.iconst 5, 1) := by decide +kernel
theorem dX11_text_204 : decode cX11_text 204 = .ok (.aload_n 0, 1) := by decide +kernel
theorem dX11_text_205 : decode cX11_text 205 = .ok (.getfield 98, 3) := by decide +kernel
theorem dX11_text_208 : decode cX11_text 208 = .ok (.invokevirtual 136, 3) := by decide +kernel
theorem dX11_text_211 : decode cX11_text 211 = .ok (.aload_n 0, 1) := by decide +kernel
theorem dX11_text_212 : decode cX11_text 212 = .ok (.getfield 7, 3) := by decide +kernel
theorem dX11_text_215 : decode cX11_text 215 = .ok (.iconst 5, 1) := by decide +kernel
theorem dX11_text_216 : decode cX11_text 216 = .ok (.iaload, 1) := by decide +kernel
theorem dX11_text_217 : decode cX11_text 217 = .ok (.ifCond .eq 5, 3) := by decide +kernel
theorem dX11_text_220 : decode cX11_text 220 = .ok (.iconst (-1), 1) := by decide +kernel
theorem dX11_text_221 : decode cX11_text 221 = .ok (.ireturn, 1) := by decide +kernel
theorem dX11_text_222 : decode cX11_text 222 = .ok (.iload_n 2, 1) := by decide +kernel
theorem dX11_text_223 : decode cX11_text 223 = .ok (.iconst (-1), 1) := by decide +kernel
theorem dX11_text_224 : decode cX11_text 224 = .ok (.if_icmp .ne 12, 3) := by decide +kernel
theorem dX11_text_227 : decode cX11_text 227 = .ok (.aload_n 0, 1) := by decide +kernel
theorem dX11_text_228 : decode cX11_text 228 = .ok (.getfield 7, 3) := by decide +kernel
theorem dX11_text_231 : decode cX11_text 231 = .ok (.iload_n 1, 1) := by decide +kernel
theorem dX11_text_232 : decode cX11_text 232 = .ok (.iaload, 1) := by decide +kernel
theorem dX11_text_233 : decode cX11_text 233 = .ok (.goto 4, 3) := by decide +kernel
theorem dX11_text_236 : decode cX11_text 236 = .ok (.iload_n 2, 1) := by decide +kernel
theorem dX11_text_237 : decode cX11_text 237 = .ok (.istore_n 3, 1) := by decide +kernel
theorem dX11_text_238 : decode cX11_text 238 = .ok (.iload_n 2, 1) := by decide +kernel
theorem dX11_text_239 : decode cX11_text 239 = .ok (.iconst (-1), 1) := by decide +kernel
theorem dX11_text_240 : decode cX11_text 240 = .ok (.if_icmp .ne 13, 3) := by decide +kernel
theorem dX11_text_243 : decode cX11_text 243 = .ok (.aload_n 0, 1) := by decide +kernel
theorem dX11_text_244 : decode cX11_text 244 = .ok (.getfield 7, 3) := by decide +kernel
theorem dX11_text_247 : decode cX11_text 247 = .ok (.iload_n 1, 1) := by decide +kernel
theorem dX11_text_248 : decode cX11_text 248 = .ok (.dup2, 1) := by decide +kernel
theorem dX11_text_249 : decode cX11_text 249 = .ok (.iaload, 1) := by decide +kernel
theorem dX11_text_250 : decode cX11_text 250 = .ok (.iconst 1, 1) := by decide +kernel
theorem dX11_text_251 : decode cX11_text 251 = .ok (.iadd, 1) := by decide +kernel
theorem dX11_text_252 : decode cX11_text 252 = .ok (.iastore, 1) := by decide +kernel
theorem dX11_text_253 : decode cX11_text 253 = .ok (.iconst 0, 1) := by decide +kernel
theorem dX11_text_254 : decode cX11_text 254 = .ok (.istore 4, 2) := by decide +kernel
theorem dX11_text_256 : decode cX11_text 256 = .ok (.iload 4, 2) := by decide +kernel
theorem dX11_text_258 : decode cX11_text 258 = .ok (.iload_n 1, 1) := by decide +kernel
theorem dX11_text_259 : decode cX11_text 259 = .ok (.invokestatic 191, 3) := by decide +kernel
theorem dX11_text_262 : decode cX11_text 262 = .ok (.if_icmp .ge 29, 3) := by decide +kernel
theorem dX11_text_265 : decode cX11_text 265 = .ok (.aload_n 0, 1) := by decide +kernel
theorem dX11_text_266 : decode cX11_text 266 = .ok (.getfield 7, 3) := by decide +kernel
theorem dX11_text_269 : decode cX11_text 269 = .ok (.iload_n 1, 1) := by decide +kernel
theorem dX11_text_270 : decode cX11_text 270 = .ok (.iload_n 3, 1) := by decide +kernel
theorem dX11_text_271 : decode cX11_text 271 = .ok (.invokestatic 194, 3) := by decide +kernel
theorem dX11_text_274 : decode cX11_text 274 = .ok (.iload 4, 2) := by decide +kernel
theorem dX11_text_276 : decode cX11_text 276 = .ok (.iadd, 1) := by decide +kernel
theorem dX11_text_277 : decode cX11_text 277 = .ok (.aload_n 0, 1) := by decide +kernel
theorem dX11_text_278 : decode cX11_text 278 = .ok (.getfield 17, 3) := by decide +kernel
theorem dX11_text_281 : decode cX11_text 281 = .ok (.iload 4, 2) := by decide +kernel
theorem dX11_text_283 : decode cX11_text 283 = .ok (.iaload, 1) := by decide +kernel
theorem dX11_text_284 : decode cX11_text 284 = .ok (.iastore, 1) := by decide +kernel
theorem dX11_text_285 : decode cX11_text 285 = .ok (.iinc 4 1, 3) := by decide +kernel
theorem dX11_text_288 : decode cX11_text 288 = .ok (.goto (-32), 3) := by decide +kernel
theorem dX11_text_291 : decode cX11_text 291 = .ok (.iload_n 3, 1) := by decide +kernel
theorem dX11_text_292 : decode cX11_text 292 = .ok (.ireturn, 1) := by decide +kernel
theorem dX11_fault_0 : decode cX11_fault 0 = .ok (.iload_n 1, 1) := by decide +kernel
theorem dX11_fault_1 : decode cX11_fault 1 = .ok (.ifCond .ne 12, 3) := by decide +kernel
theorem dX11_fault_4 : decode cX11_fault 4 = .ok (.aload_n 0, 1) := by decide +kernel
theorem dX11_fault_5 : decode cX11_fault 5 = .ok (.getfield 7, 3) := by decide +kernel
theorem dX11_fault_8 : decode cX11_fault 8 = .ok (.iconst 5, 1) := by decide +kernel
theorem dX11_fault_9 : decode cX11_fault 9 = .ok (.iaload, 1) := by decide +kernel
theorem dX11_fault_10 : decode cX11_fault 10 = .ok (.goto 19, 3) := by decide +kernel
theorem dX11_fault_13 : decode cX11_fault 13 = .ok (.iload_n 1, 1) := by decide +kernel
theorem dX11_fault_14 : decode cX11_fault 14 = .ok (.iconst 1, 1) := by decide +kernel
theorem dX11_fault_15 : decode cX11_fault 15 = .ok (.if_icmp .ne 13, 3) := by decide +kernel
theorem dX11_fault_18 : decode cX11_fault 18 = .ok (.aload_n 0, 1) := by decide +kernel
theorem dX11_fault_19 : decode cX11_fault 19 = .ok (.getfield 7, 3) := by decide +kernel
theorem dX11_fault_22 : decode cX11_fault 22 = .ok (.bipush 6, 2) := by decide +kernel
theorem dX11_fault_24 : decode cX11_fault 24 = .ok (.iaload, 1) := by decide +kernel
theorem dX11_fault_25 : decode cX11_fault 25 = .ok (.goto 4, 3) := by decide +kernel
theorem dX11_fault_28 : decode cX11_fault 28 = .ok (.iconst (-1), 1) := by decide +kernel
theorem dX11_fault_29 : decode cX11_fault 29 = .ok (.ireturn, 1) := by decide +kernel
theorem dX11_isPaper_0 : decode cX11_isPaper 0 = .ok (.aload_n 0, 1) := by decide +kernel
theorem dX11_isPaper_1 : decode cX11_isPaper 1 = .ok (.iconst 0, 1) := by decide +kernel
theorem dX11_isPaper_2 : decode cX11_isPaper 2 = .ok (.iload_n 1, 1) := by decide +kernel
theorem dX11_isPaper_3 : decode cX11_isPaper 3 = .ok (.invokevirtual 175, 3) := by decide +kernel
theorem dX11_isPaper_6 : decode cX11_isPaper 6 = .ok (.ifCond .ne 5, 3) := by decide +kernel
theorem dX11_isPaper_9 : decode cX11_isPaper 9 = .ok (.iconst 0, 1) := by decide +kernel
theorem dX11_isPaper_10 : decode cX11_isPaper 10 = .ok (.ireturn, 1) := by decide +kernel
theorem dX11_isPaper_11 : decode cX11_isPaper 11 = .ok (.aload_n 0, 1) := by decide +kernel
theorem dX11_isPaper_12 : decode cX11_isPaper 12 = .ok (.iconst 0, 1) := by decide +kernel
theorem dX11_isPaper_13 : decode cX11_isPaper 13 = .ok (.iload_n 1, 1) := by decide +kernel
theorem dX11_isPaper_14 : decode cX11_isPaper 14 = .ok (.invokestatic 194, 3) := by decide +kernel
theorem dX11_isPaper_17 : decode cX11_isPaper 17 = .ok (.putfield 197, 3) := by decide +kernel
theorem dX11_isPaper_20 : decode cX11_isPaper 20 = .ok (.aload_n 0, 1) := by decide +kernel
theorem dX11_isPaper_21 : decode cX11_isPaper 21 = .ok (.aload_n 0, 1) := by decide +kernel
theorem dX11_isPaper_22 : decode cX11_isPaper 22 = .ok (.getfield 7, 3) := by decide +kernel
theorem dX11_isPaper_25 : decode cX11_isPaper 25 = .ok (.aload_n 0, 1) := by decide +kernel
theorem dX11_isPaper_26 : decode cX11_isPaper 26 = .ok (.getfield 197, 3) := by decide +kernel
theorem dX11_isPaper_29 : decode cX11_isPaper 29 = .ok (.iaload, 1) := by decide +kernel
theorem dX11_isPaper_30 : decode cX11_isPaper 30 = .ok (.putfield 200, 3) := by decide +kernel
theorem dX11_isPaper_33 : decode cX11_isPaper 33 = .ok (.aload_n 0, 1) := by decide +kernel
theorem dX11_isPaper_34 : decode cX11_isPaper 34 = .ok (.aload_n 0, 1) := by decide +kernel
theorem dX11_isPaper_35 : decode cX11_isPaper 35 = .ok (.getfield 7, 3) := by decide +kernel
theorem dX11_isPaper_38 : decode cX11_isPaper 38 = .ok (.aload_n 0, 1) := by decide +kernel
theorem dX11_isPaper_39 : decode cX11_isPaper 39 = .ok (.getfield 197, 3) := by decide +kernel
theorem dX11_isPaper_42 : decode cX11_isPaper 42 = .ok (.iconst 1, 1) := by decide +kernel
theorem dX11_isPaper_43 : decode cX11_isPaper 43 = .ok (.iadd, 1) := by decide +kernel
theorem dX11_isPaper_44 : decode cX11_isPaper 44 = .ok (.iaload, 1) := by decide +kernel
theorem dX11_isPaper_45 : decode cX11_isPaper 45 = .ok (.putfield 203, 3) := by decide +kernel
theorem dX11_isPaper_48 : decode cX11_isPaper 48 = .ok (.aload_n 0, 1) := by decide +kernel
theorem dX11_isPaper_49 : decode cX11_isPaper 49 = .ok (.invokevirtual 206, 3) := by decide +kernel
theorem dX11_isPaper_52 : decode cX11_isPaper 52 = .ok (.iconst 1, 1) := by decide +kernel
theorem dX11_isPaper_53 : decode cX11_isPaper 53 = .ok (.ireturn, 1) := by decide +kernel
theorem dX11_isPlace_0 : decode cX11_isPlace 0 = .ok (.iload_n 1, 1) := by decide +kernel
theorem dX11_isPlace_1 : decode cX11_isPlace 1 = .ok (.iconst 0, 1) := by decide +kernel
theorem dX11_isPlace_2 : decode cX11_isPlace 2 = .ok (.aload_n 0, 1) := by decide +kernel
theorem dX11_isPlace_3 : decode cX11_isPlace 3 = .ok (.getfield 200, 3) := by decide +kernel
theorem dX11_isPlace_6 : decode cX11_isPlace 6 = .ok (.iconst 1, 1) := by decide +kernel
theorem dX11_isPlace_7 : decode cX11_isPlace 7 = .ok (.isub, 1) := by decide +kernel
theorem dX11_isPlace_8 : decode cX11_isPlace 8 = .ok (.invokestatic 132, 3) := by decide +kernel
theorem dX11_isPlace_11 : decode cX11_isPlace 11 = .ok (.ireturn, 1) := by decide +kernel
theorem dX11_isReader_0 : decode cX11_isReader 0 = .ok (.iload_n 1, 1) := by decide +kernel
theorem dX11_isReader_1 : decode cX11_isReader 1 = .ok (.iconst 0, 1) := by decide +kernel
theorem dX11_isReader_2 : decode cX11_isReader 2 = .ok (.aload_n 0, 1) := by decide +kernel
theorem dX11_isReader_3 : decode cX11_isReader 3 = .ok (.getfield 203, 3) := by decide +kernel
theorem dX11_isReader_6 : decode cX11_isReader 6 = .ok (.iconst 1, 1) := by decide +kernel
theorem dX11_isReader_7 : decode cX11_isReader 7 = .ok (.isub, 1) := by decide +kernel
theorem dX11_isReader_8 : decode cX11_isReader 8 = .ok (.invokestatic 132, 3) := by decide +kernel
theorem dX11_isReader_11 : decode cX11_isReader 11 = .ok (.ireturn, 1) := by decide +kernel
theorem dX11_wordTold0_0 : decode cX11_wordTold0 0 = .ok (.aload_n 0, 1) := by decide +kernel
theorem dX11_wordTold0_1 : decode cX11_wordTold0 1 = .ok (.getfield 7, 3) := by decide +kernel
theorem dX11_wordTold0_4 : decode cX11_wordTold0 4 = .ok (.aload_n 0, 1) := by decide +kernel
theorem dX11_wordTold0_5 : decode cX11_wordTold0 5 = .ok (.getfield 197, 3) := by decide +kernel
theorem dX11_wordTold0_8 : decode cX11_wordTold0 8 = .ok (.iconst 2, 1) := by decide +kernel
theorem dX11_wordTold0_9 : decode cX11_wordTold0 9 = .ok (.iadd, 1) := by decide +kernel
theorem dX11_wordTold0_10 : decode cX11_wordTold0 10 = .ok (.iload_n 1, 1) := by decide +kernel
theorem dX11_wordTold0_11 : decode cX11_wordTold0 11 = .ok (.iadd, 1) := by decide +kernel
theorem dX11_wordTold0_12 : decode cX11_wordTold0 12 = .ok (.iaload, 1) := by decide +kernel
theorem dX11_wordTold0_13 : decode cX11_wordTold0 13 = .ok (.ireturn, 1) := by decide +kernel
theorem dX11_patienceOf_0 : decode cX11_patienceOf 0 = .ok (.aload_n 0, 1) := by decide +kernel
theorem dX11_patienceOf_1 : decode cX11_patienceOf 1 = .ok (.getfield 7, 3) := by decide +kernel
theorem dX11_patienceOf_4 : decode cX11_patienceOf 4 = .ok (.aload_n 0, 1) := by decide +kernel
theorem dX11_patienceOf_5 : decode cX11_patienceOf 5 = .ok (.getfield 197, 3) := by decide +kernel
theorem dX11_patienceOf_8 : decode cX11_patienceOf 8 = .ok (.bipush 20, 2) := by decide +kernel
theorem dX11_patienceOf_10 : decode cX11_patienceOf 10 = .ok (.iadd, 1) := by decide +kernel
theorem dX11_patienceOf_11 : decode cX11_patienceOf 11 = .ok (.iconst 2, 1) := by decide +kernel
theorem dX11_patienceOf_12 : decode cX11_patienceOf 12 = .ok (.iload_n 1, 1) := by decide +kernel
theorem dX11_patienceOf_13 : decode cX11_patienceOf 13 = .ok (.imul, 1) := by decide +kernel
theorem dX11_patienceOf_14 : decode cX11_patienceOf 14 = .ok (.iadd, 1) := by decide +kernel
theorem dX11_patienceOf_15 : decode cX11_patienceOf 15 = .ok (.iaload, 1) := by decide +kernel
theorem dX11_patienceOf_16 : decode cX11_patienceOf 16 = .ok (.ireturn, 1) := by decide +kernel
theorem dX11_daysOf_0 : decode cX11_daysOf 0 = .ok (.aload_n 0, 1) := by decide +kernel
theorem dX11_daysOf_1 : decode cX11_daysOf 1 = .ok (.getfield 7, 3) := by decide +kernel
theorem dX11_daysOf_4 : decode cX11_daysOf 4 = .ok (.aload_n 0, 1) := by decide +kernel
theorem dX11_daysOf_5 : decode cX11_daysOf 5 = .ok (.getfield 197, 3) := by decide +kernel
theorem dX11_daysOf_8 : decode cX11_daysOf 8 = .ok (.bipush 20, 2) := by decide +kernel
theorem dX11_daysOf_10 : decode cX11_daysOf 10 = .ok (.iadd, 1) := by decide +kernel
theorem dX11_daysOf_11 : decode cX11_daysOf 11 = .ok (.iconst 1, 1) := by decide +kernel
theorem dX11_daysOf_12 : decode cX11_daysOf 12 = .ok (.iadd, 1) := by decide +kernel
theorem dX11_daysOf_13 : decode cX11_daysOf 13 = .ok (.iconst 2, 1) := by decide +kernel
theorem dX11_daysOf_14 : decode cX11_daysOf 14 = .ok (.iload_n 1, 1) := by decide +kernel
theorem dX11_daysOf_15 : decode cX11_daysOf 15 = .ok (.imul, 1) := by decide +kernel
theorem dX11_daysOf_16 : decode cX11_daysOf 16 = .ok (.iadd, 1) := by decide +kernel
theorem dX11_daysOf_17 : decode cX11_daysOf 17 = .ok (.iaload, 1) := by decide +kernel
theorem dX11_daysOf_18 : decode cX11_daysOf 18 = .ok (.ireturn, 1) := by decide +kernel
theorem dX11_wantOf_0 : decode cX11_wantOf 0 = .ok (.aload_n 0, 1) := by decide +kernel
theorem dX11_wantOf_1 : decode cX11_wantOf 1 = .ok (.getfield 7, 3) := by decide +kernel
theorem dX11_wantOf_4 : decode cX11_wantOf 4 = .ok (.aload_n 0, 1) := by decide +kernel
theorem dX11_wantOf_5 : decode cX11_wantOf 5 = .ok (.getfield 197, 3) := by decide +kernel
theorem dX11_wantOf_8 : decode cX11_wantOf 8 = .ok (.bipush 32, 2) := by decide +kernel
theorem dX11_wantOf_10 : decode cX11_wantOf 10 = .ok (.iadd, 1) := by decide +kernel
theorem dX11_wantOf_11 : decode cX11_wantOf 11 = .ok (.bipush 8, 2) := by decide +kernel
theorem dX11_wantOf_13 : decode cX11_wantOf 13 = .ok (.iload_n 1, 1) := by decide +kernel
theorem dX11_wantOf_14 : decode cX11_wantOf 14 = .ok (.imul, 1) := by decide +kernel
theorem dX11_wantOf_15 : decode cX11_wantOf 15 = .ok (.iadd, 1) := by decide +kernel
theorem dX11_wantOf_16 : decode cX11_wantOf 16 = .ok (.iload_n 2, 1) := by decide +kernel
theorem dX11_wantOf_17 : decode cX11_wantOf 17 = .ok (.iadd, 1) := by decide +kernel
theorem dX11_wantOf_18 : decode cX11_wantOf 18 = .ok (.iaload, 1) := by decide +kernel
theorem dX11_wantOf_19 : decode cX11_wantOf 19 = .ok (.ireturn, 1) := by decide +kernel
theorem dX11_paper_0 : decode cX11_paper 0 = .ok (.aload_n 0, 1) := by decide +kernel
theorem dX11_paper_1 : decode cX11_paper 1 = .ok (.iload_n 1, 1) := by decide +kernel
theorem dX11_paper_2 : decode cX11_paper 2 = .ok (.invokevirtual 209, 3) := by decide +kernel
theorem dX11_paper_5 : decode cX11_paper 5 = .ok (.ifCond .eq 7, 3) := by decide +kernel
theorem dX11_paper_8 : decode cX11_paper 8 = .ok (.iload_n 2, 1) := by decide +kernel
theorem dX11_paper_9 : decode cX11_paper 9 = .ok (.ifCond .ge 5, 3) := by decide +kernel
theorem dX11_paper_12 : decode cX11_paper 12 = .ok (.iconst (-1), 1) := by decide +kernel
theorem dX11_paper_13 : decode cX11_paper 13 = .ok (.ireturn, 1) := by decide +kernel
theorem dX11_paper_14 : decode cX11_paper 14 = .ok (.iload_n 2, 1) := by decide +kernel
theorem dX11_paper_15 : decode cX11_paper 15 = .ok (.bipush 10, 2) := by decide +kernel
theorem dX11_paper_17 : decode cX11_paper 17 = .ok (.irem, 1) := by decide +kernel
theorem dX11_paper_18 : decode cX11_paper 18 = .ok (.istore_n 3, 1) := by decide +kernel
theorem dX11_paper_19 : decode cX11_paper 19 = .ok (.iload_n 2, 1) := by decide +kernel
theorem dX11_paper_20 : decode cX11_paper 20 = .ok (.bipush 10, 2) := by decide +kernel
theorem dX11_paper_22 : decode cX11_paper 22 = .ok (.idiv, 1) := by decide +kernel
theorem dX11_paper_23 : decode cX11_paper 23 = .ok (.tableswitch 123 0 4 #[33, 54, 72, 87, 105], 33) := by decide +kernel
theorem dX11_paper_56 : decode cX11_paper 56 = .ok (.iload_n 2, 1) := by decide +kernel
theorem dX11_paper_57 : decode cX11_paper 57 = .ok (.iconst 2, 1) := by decide +kernel
theorem dX11_paper_58 : decode cX11_paper 58 = .ok (.if_icmp .ge 17, 3) := by decide +kernel
theorem dX11_paper_61 : decode cX11_paper 61 = .ok (.aload_n 0, 1) := by decide +kernel
theorem dX11_paper_62 : decode cX11_paper 62 = .ok (.getfield 7, 3) := by decide +kernel
theorem dX11_paper_65 : decode cX11_paper 65 = .ok (.aload_n 0, 1) := by decide +kernel
theorem dX11_paper_66 : decode cX11_paper 66 = .ok (.getfield 197, 3) := by decide +kernel
theorem dX11_paper_69 : decode cX11_paper 69 = .ok (.iload_n 2, 1) := by decide +kernel
theorem dX11_paper_70 : decode cX11_paper 70 = .ok (.iadd, 1) := by decide +kernel
theorem dX11_paper_71 : decode cX11_paper 71 = .ok (.iaload, 1) := by decide +kernel
theorem dX11_paper_72 : decode cX11_paper 72 = .ok (.goto 4, 3) := by decide +kernel
theorem dX11_paper_75 : decode cX11_paper 75 = .ok (.iconst (-1), 1) := by decide +kernel
theorem dX11_paper_76 : decode cX11_paper 76 = .ok (.ireturn, 1) := by decide +kernel
theorem dX11_paper_77 : decode cX11_paper 77 = .ok (.aload_n 0, 1) := by decide +kernel
theorem dX11_paper_78 : decode cX11_paper 78 = .ok (.iload_n 3, 1) := by decide +kernel
theorem dX11_paper_79 : decode cX11_paper 79 = .ok (.invokevirtual 212, 3) := by decide +kernel
theorem dX11_paper_82 : decode cX11_paper 82 = .ok (.ifCond .eq 11, 3) := by decide +kernel
theorem dX11_paper_85 : decode cX11_paper 85 = .ok (.aload_n 0, 1) := by decide +kernel
theorem dX11_paper_86 : decode cX11_paper 86 = .ok (.iload_n 3, 1) := by decide +kernel
theorem dX11_paper_87 : decode cX11_paper 87 = .ok (.invokevirtual 215, 3) := by decide +kernel
theorem dX11_paper_90 : decode cX11_paper 90 = .ok (.goto 4, 3) := by decide +kernel
theorem dX11_paper_93 : decode cX11_paper 93 = .ok (.iconst (-1), 1) := by decide +kernel
theorem dX11_paper_94 : decode cX11_paper 94 = .ok (.ireturn, 1) := by decide +kernel
theorem dX11_paper_95 : decode cX11_paper 95 = .ok (.aload_n 0, 1) := by decide +kernel
theorem dX11_paper_96 : decode cX11_paper 96 = .ok (.getfield 7, 3) := by decide +kernel
theorem dX11_paper_99 : decode cX11_paper 99 = .ok (.aload_n 0, 1) := by decide +kernel
theorem dX11_paper_100 : decode cX11_paper 100 = .ok (.getfield 197, 3) := by decide +kernel
theorem dX11_paper_103 : decode cX11_paper 103 = .ok (.bipush 10, 2) := by decide +kernel
theorem dX11_paper_105 : decode cX11_paper 105 = .ok (.iadd, 1) := by decide +kernel
theorem dX11_paper_106 : decode cX11_paper 106 = .ok (.iload_n 3, 1) := by decide +kernel
theorem dX11_paper_107 : decode cX11_paper 107 = .ok (.iadd, 1) := by decide +kernel
theorem dX11_paper_108 : decode cX11_paper 108 = .ok (.iaload, 1) := by decide +kernel
theorem dX11_paper_109 : decode cX11_paper 109 = .ok (.ireturn, 1) := by decide +kernel
theorem dX11_paper_110 : decode cX11_paper 110 = .ok (.aload_n 0, 1) := by decide +kernel
theorem dX11_paper_111 : decode cX11_paper 111 = .ok (.iload_n 3, 1) := by decide +kernel
theorem dX11_paper_112 : decode cX11_paper 112 = .ok (.invokevirtual 218, 3) := by decide +kernel
theorem dX11_paper_115 : decode cX11_paper 115 = .ok (.ifCond .eq 11, 3) := by decide +kernel
theorem dX11_paper_118 : decode cX11_paper 118 = .ok (.aload_n 0, 1) := by decide +kernel
theorem dX11_paper_119 : decode cX11_paper 119 = .ok (.iload_n 3, 1) := by decide +kernel
theorem dX11_paper_120 : decode cX11_paper 120 = .ok (.invokevirtual 221, 3) := by decide +kernel
theorem dX11_paper_123 : decode cX11_paper 123 = .ok (.goto 4, 3) := by decide +kernel
theorem dX11_paper_126 : decode cX11_paper 126 = .ok (.iconst (-1), 1) := by decide +kernel
theorem dX11_paper_127 : decode cX11_paper 127 = .ok (.ireturn, 1) := by decide +kernel
theorem dX11_paper_128 : decode cX11_paper 128 = .ok (.aload_n 0, 1) := by decide +kernel
theorem dX11_paper_129 : decode cX11_paper 129 = .ok (.iload_n 3, 1) := by decide +kernel
theorem dX11_paper_130 : decode cX11_paper 130 = .ok (.invokevirtual 218, 3) := by decide +kernel
theorem dX11_paper_133 : decode cX11_paper 133 = .ok (.ifCond .eq 11, 3) := by decide +kernel
theorem dX11_paper_136 : decode cX11_paper 136 = .ok (.aload_n 0, 1) := by decide +kernel
theorem dX11_paper_137 : decode cX11_paper 137 = .ok (.iload_n 3, 1) := by decide +kernel
theorem dX11_paper_138 : decode cX11_paper 138 = .ok (.invokevirtual 224, 3) := by decide +kernel
theorem dX11_paper_141 : decode cX11_paper 141 = .ok (.goto 4, 3) := by decide +kernel
theorem dX11_paper_144 : decode cX11_paper 144 = .ok (.iconst (-1), 1) := by decide +kernel
theorem dX11_paper_145 : decode cX11_paper 145 = .ok (.ireturn, 1) := by decide +kernel
theorem dX11_paper_146 : decode cX11_paper 146 = .ok (.iload_n 2, 1) := by decide +kernel
theorem dX11_paper_147 : decode cX11_paper 147 = .ok (.bipush 100, 2) := by decide +kernel
theorem dX11_paper_149 : decode cX11_paper 149 = .ok (.if_icmp .lt 40, 3) := by decide +kernel
theorem dX11_paper_152 : decode cX11_paper 152 = .ok (.aload_n 0, 1) := by decide +kernel
theorem dX11_paper_153 : decode cX11_paper 153 = .ok (.iload_n 2, 1) := by decide +kernel
theorem dX11_paper_154 : decode cX11_paper 154 = .ok (.bipush 10, 2) := by decide +kernel
theorem dX11_paper_156 : decode cX11_paper 156 = .ok (.idiv, 1) := by decide +kernel
theorem dX11_paper_157 : decode cX11_paper 157 = .ok (.bipush 10, 2) := by decide +kernel
theorem dX11_paper_159 : decode cX11_paper 159 = .ok (.isub, 1) := by decide +kernel
theorem dX11_paper_160 : decode cX11_paper 160 = .ok (.invokevirtual 218, 3) := by decide +kernel
theorem dX11_paper_163 : decode cX11_paper 163 = .ok (.ifCond .eq 26, 3) := by decide +kernel
theorem dX11_paper_166 : decode cX11_paper 166 = .ok (.aload_n 0, 1) := by decide +kernel
theorem dX11_paper_167 : decode cX11_paper 167 = .ok (.iload_n 3, 1) := by decide +kernel
theorem dX11_paper_168 : decode cX11_paper 168 = .ok (.invokevirtual 212, 3) := by decide +kernel
theorem dX11_paper_171 : decode cX11_paper 171 = .ok (.ifCond .eq 18, 3) := by decide +kernel
theorem dX11_paper_174 : decode cX11_paper 174 = .ok (.aload_n 0, 1) := by decide +kernel
theorem dX11_paper_175 : decode cX11_paper 175 = .ok (.iload_n 2, 1) := by decide +kernel
theorem dX11_paper_176 : decode cX11_paper 176 = .ok (.bipush 10, 2) := by decide +kernel
theorem dX11_paper_178 : decode cX11_paper 178 = .ok (.idiv, 1) := by decide +kernel
theorem dX11_paper_179 : decode cX11_paper 179 = .ok (.bipush 10, 2) := by decide +kernel
theorem dX11_paper_181 : decode cX11_paper 181 = .ok (.isub, 1) := by decide +kernel
theorem dX11_paper_182 : decode cX11_paper 182 = .ok (.iload_n 3, 1) := by decide +kernel
theorem dX11_paper_183 : decode cX11_paper 183 = .ok (.invokevirtual 227, 3) := by decide +kernel
theorem dX11_paper_186 : decode cX11_paper 186 = .ok (.goto 4, 3) := by decide +kernel
theorem dX11_paper_189 : decode cX11_paper 189 = .ok (.iconst (-1), 1) := by decide +kernel
theorem dX11_paper_190 : decode cX11_paper 190 = .ok (.ireturn, 1) := by decide +kernel
theorem dX11_areNear_0 : decode cX11_areNear 0 = .ok (.aload_n 0, 1) := by decide +kernel
theorem dX11_areNear_1 : decode cX11_areNear 1 = .ok (.getfield 20, 3) := by decide +kernel
theorem dX11_areNear_4 : decode cX11_areNear 4 = .ok (.iload_n 1, 1) := by decide +kernel
theorem dX11_areNear_5 : decode cX11_areNear 5 = .ok (.iaload, 1) := by decide +kernel
theorem dX11_areNear_6 : decode cX11_areNear 6 = .ok (.iload_n 2, 1) := by decide +kernel
theorem dX11_areNear_7 : decode cX11_areNear 7 = .ok (.ishr, 1) := by decide +kernel
theorem dX11_areNear_8 : decode cX11_areNear 8 = .ok (.iconst 1, 1) := by decide +kernel
theorem dX11_areNear_9 : decode cX11_areNear 9 = .ok (.iand, 1) := by decide +kernel
theorem dX11_areNear_10 : decode cX11_areNear 10 = .ok (.iconst 1, 1) := by decide +kernel
theorem dX11_areNear_11 : decode cX11_areNear 11 = .ok (.if_icmp .ne 7, 3) := by decide +kernel
theorem dX11_areNear_14 : decode cX11_areNear 14 = .ok (.iconst 1, 1) := by decide +kernel
theorem dX11_areNear_15 : decode cX11_areNear 15 = .ok (.goto 4, 3) := by decide +kernel
theorem dX11_areNear_18 : decode cX11_areNear 18 = .ok (.iconst 0, 1) := by decide +kernel
theorem dX11_areNear_19 : decode cX11_areNear 19 = .ok (.ireturn, 1) := by decide +kernel
theorem dX11_laysSteps_0 : decode cX11_laysSteps 0 = .ok (.iconst 0, 1) := by decide +kernel
theorem dX11_laysSteps_1 : decode cX11_laysSteps 1 = .ok (.istore_n 1, 1) := by decide +kernel
theorem dX11_laysSteps_2 : decode cX11_laysSteps 2 = .ok (.iload_n 1, 1) := by decide +kernel
theorem dX11_laysSteps_3 : decode cX11_laysSteps 3 = .ok (.bipush 10, 2) := by decide +kernel
theorem dX11_laysSteps_5 : decode cX11_laysSteps 5 = .ok (.if_icmp .ge 154, 3) := by decide +kernel
theorem dX11_laysSteps_8 : decode cX11_laysSteps 8 = .ok (.iconst 1, 1) := by decide +kernel
theorem dX11_laysSteps_9 : decode cX11_laysSteps 9 = .ok (.iload_n 1, 1) := by decide +kernel
theorem dX11_laysSteps_10 : decode cX11_laysSteps 10 = .ok (.ishl, 1) := by decide +kernel
theorem dX11_laysSteps_11 : decode cX11_laysSteps 11 = .ok (.istore_n 2, 1) := by decide +kernel
theorem dX11_laysSteps_12 : decode cX11_laysSteps 12 = .ok (.iconst 0, 1) := by decide +kernel
theorem dX11_laysSteps_13 : decode cX11_laysSteps 13 = .ok (.istore_n 3, 1) := by decide +kernel
theorem dX11_laysSteps_14 : decode cX11_laysSteps 14 = .ok (.iload_n 3, 1) := by decide +kernel
theorem dX11_laysSteps_15 : decode cX11_laysSteps 15 = .ok (.bipush 10, 2) := by decide +kernel
theorem dX11_laysSteps_17 : decode cX11_laysSteps 17 = .ok (.if_icmp .ge 30, 3) := by decide +kernel
theorem dX11_laysSteps_20 : decode cX11_laysSteps 20 = .ok (.aload_n 0, 1) := by decide +kernel
theorem dX11_laysSteps_21 : decode cX11_laysSteps 21 = .ok (.getfield 23, 3) := by decide +kernel
theorem dX11_laysSteps_24 : decode cX11_laysSteps 24 = .ok (.bipush 10, 2) := by decide +kernel
theorem dX11_laysSteps_26 : decode cX11_laysSteps 26 = .ok (.iload_n 1, 1) := by decide +kernel
theorem dX11_laysSteps_27 : decode cX11_laysSteps 27 = .ok (.imul, 1) := by decide +kernel
theorem dX11_laysSteps_28 : decode cX11_laysSteps 28 = .ok (.iload_n 3, 1) := by decide +kernel
theorem dX11_laysSteps_29 : decode cX11_laysSteps 29 = .ok (.iadd, 1) := by decide +kernel
theorem dX11_laysSteps_30 : decode cX11_laysSteps 30 = .ok (.iload_n 1, 1) := by decide +kernel
theorem dX11_laysSteps_31 : decode cX11_laysSteps 31 = .ok (.iload_n 3, 1) := by decide +kernel
theorem dX11_laysSteps_32 : decode cX11_laysSteps 32 = .ok (.if_icmp .ne 7, 3) := by decide +kernel
theorem dX11_laysSteps_35 : decode cX11_laysSteps 35 = .ok (.iconst 0, 1) := by decide +kernel
theorem dX11_laysSteps_36 : decode cX11_laysSteps 36 = .ok (.goto 4, 3) := by decide +kernel
theorem dX11_laysSteps_39 : decode cX11_laysSteps 39 = .ok (.iconst (-1), 1) := by decide +kernel
theorem dX11_laysSteps_40 : decode cX11_laysSteps 40 = .ok (.iastore, 1) := by decide +kernel
theorem dX11_laysSteps_41 : decode cX11_laysSteps 41 = .ok (.iinc 3 1, 3) := by decide +kernel
theorem dX11_laysSteps_44 : decode cX11_laysSteps 44 = .ok (.goto (-30), 3) := by decide +kernel
theorem dX11_laysSteps_47 : decode cX11_laysSteps 47 = .ok (.iconst 1, 1) := by decide +kernel
theorem dX11_laysSteps_48 : decode cX11_laysSteps 48 = .ok (.istore_n 3, 1) := by decide +kernel
theorem dX11_laysSteps_49 : decode cX11_laysSteps 49 = .ok (.iload_n 3, 1) := by decide +kernel
theorem dX11_laysSteps_50 : decode cX11_laysSteps 50 = .ok (.bipush 10, 2) := by decide +kernel
theorem dX11_laysSteps_52 : decode cX11_laysSteps 52 = .ok (.if_icmp .ge 101, 3) := by decide +kernel
theorem dX11_laysSteps_55 : decode cX11_laysSteps 55 = .ok (.iload_n 2, 1) := by decide +kernel
theorem dX11_laysSteps_56 : decode cX11_laysSteps 56 = .ok (.istore 4, 2) := by decide +kernel
theorem dX11_laysSteps_58 : decode cX11_laysSteps 58 = .ok (.iconst 0, 1) := by decide +kernel
theorem dX11_laysSteps_59 : decode cX11_laysSteps 59 = .ok (.istore 5, 2) := by decide +kernel
theorem dX11_laysSteps_61 : decode cX11_laysSteps 61 = .ok (.iload 5, 2) := by decide +kernel
theorem dX11_laysSteps_63 : decode cX11_laysSteps 63 = .ok (.bipush 10, 2) := by decide +kernel
theorem dX11_laysSteps_65 : decode cX11_laysSteps 65 = .ok (.if_icmp .ge 35, 3) := by decide +kernel
theorem dX11_laysSteps_68 : decode cX11_laysSteps 68 = .ok (.iload 4, 2) := by decide +kernel
theorem dX11_laysSteps_70 : decode cX11_laysSteps 70 = .ok (.iload_n 2, 1) := by decide +kernel
theorem dX11_laysSteps_71 : decode cX11_laysSteps 71 = .ok (.iload 5, 2) := by decide +kernel
theorem dX11_laysSteps_73 : decode cX11_laysSteps 73 = .ok (.ishr, 1) := by decide +kernel
theorem dX11_laysSteps_74 : decode cX11_laysSteps 74 = .ok (.iconst 1, 1) := by decide +kernel
theorem dX11_laysSteps_75 : decode cX11_laysSteps 75 = .ok (.iand, 1) := by decide +kernel
theorem dX11_laysSteps_76 : decode cX11_laysSteps 76 = .ok (.iconst 1, 1) := by decide +kernel
theorem dX11_laysSteps_77 : decode cX11_laysSteps 77 = .ok (.if_icmp .ne 13, 3) := by decide +kernel
theorem dX11_laysSteps_80 : decode cX11_laysSteps 80 = .ok (.aload_n 0, 1) := by decide +kernel
theorem dX11_laysSteps_81 : decode cX11_laysSteps 81 = .ok (.getfield 20, 3) := by decide +kernel
theorem dX11_laysSteps_84 : decode cX11_laysSteps 84 = .ok (.iload 5, 2) := by decide +kernel
theorem dX11_laysSteps_86 : decode cX11_laysSteps 86 = .ok (.iaload, 1) := by decide +kernel
theorem dX11_laysSteps_87 : decode cX11_laysSteps 87 = .ok (.goto 4, 3) := by decide +kernel
theorem dX11_laysSteps_90 : decode cX11_laysSteps 90 = .ok (.iconst 0, 1) := by decide +kernel
theorem dX11_laysSteps_91 : decode cX11_laysSteps 91 = .ok (.ior, 1) := by decide +kernel
theorem dX11_laysSteps_92 : decode cX11_laysSteps 92 = .ok (.istore 4, 2) := by decide +kernel
theorem dX11_laysSteps_94 : decode cX11_laysSteps 94 = .ok (.iinc 5 1, 3) := by decide +kernel
theorem dX11_laysSteps_97 : decode cX11_laysSteps 97 = .ok (.goto (-36), 3) := by decide +kernel
theorem dX11_laysSteps_100 : decode cX11_laysSteps 100 = .ok (.iconst 0, 1) := by decide +kernel
theorem dX11_laysSteps_101 : decode cX11_laysSteps 101 = .ok (.istore 5, 2) := by decide +kernel
theorem dX11_laysSteps_103 : decode cX11_laysSteps 103 = .ok (.iload 5, 2) := by decide +kernel
theorem dX11_laysSteps_105 : decode cX11_laysSteps 105 = .ok (.bipush 10, 2) := by decide +kernel
theorem dX11_laysSteps_107 : decode cX11_laysSteps 107 = .ok (.if_icmp .ge 37, 3) := by decide +kernel
theorem dX11_laysSteps_110 : decode cX11_laysSteps 110 = .ok (.iload 4, 2) := by decide +kernel
theorem dX11_laysSteps_112 : decode cX11_laysSteps 112 = .ok (.iload_n 2, 1) := by decide +kernel
theorem dX11_laysSteps_113 : decode cX11_laysSteps 113 = .ok (.iconst (-1), 1) := by decide +kernel
theorem dX11_laysSteps_114 : decode cX11_laysSteps 114 = .ok (.ixor, 1) := by decide +kernel
theorem dX11_laysSteps_115 : decode cX11_laysSteps 115 = .ok (.iand, 1) := by decide +kernel
theorem dX11_laysSteps_116 : decode cX11_laysSteps 116 = .ok (.iload 5, 2) := by decide +kernel
theorem dX11_laysSteps_118 : decode cX11_laysSteps 118 = .ok (.ishr, 1) := by decide +kernel
theorem dX11_laysSteps_119 : decode cX11_laysSteps 119 = .ok (.iconst 1, 1) := by decide +kernel
theorem dX11_laysSteps_120 : decode cX11_laysSteps 120 = .ok (.iand, 1) := by decide +kernel
theorem dX11_laysSteps_121 : decode cX11_laysSteps 121 = .ok (.iconst 1, 1) := by decide +kernel
theorem dX11_laysSteps_122 : decode cX11_laysSteps 122 = .ok (.if_icmp .ne 16, 3) := by decide +kernel
theorem dX11_laysSteps_125 : decode cX11_laysSteps 125 = .ok (.aload_n 0, 1) := by decide +kernel
theorem dX11_laysSteps_126 : decode cX11_laysSteps 126 = .ok (.getfield 23, 3) := by decide +kernel
theorem dX11_laysSteps_129 : decode cX11_laysSteps 129 = .ok (.bipush 10, 2) := by decide +kernel
theorem dX11_laysSteps_131 : decode cX11_laysSteps 131 = .ok (.iload_n 1, 1) := by decide +kernel
theorem dX11_laysSteps_132 : decode cX11_laysSteps 132 = .ok (.imul, 1) := by decide +kernel
theorem dX11_laysSteps_133 : decode cX11_laysSteps 133 = .ok (.iload 5, 2) := by decide +kernel
theorem dX11_laysSteps_135 : decode cX11_laysSteps 135 = .ok (.iadd, 1) := by decide +kernel
theorem dX11_laysSteps_136 : decode cX11_laysSteps 136 = .ok (.iload_n 3, 1) := by decide +kernel
theorem dX11_laysSteps_137 : decode cX11_laysSteps 137 = .ok (.iastore, 1) := by decide +kernel
theorem dX11_laysSteps_138 : decode cX11_laysSteps 138 = .ok (.iinc 5 1, 3) := by decide +kernel
theorem dX11_laysSteps_141 : decode cX11_laysSteps 141 = .ok (.goto (-38), 3) := by decide +kernel
theorem dX11_laysSteps_144 : decode cX11_laysSteps 144 = .ok (.iload 4, 2) := by decide +kernel
theorem dX11_laysSteps_146 : decode cX11_laysSteps 146 = .ok (.istore_n 2, 1) := by decide +kernel
theorem dX11_laysSteps_147 : decode cX11_laysSteps 147 = .ok (.iinc 3 1, 3) := by decide +kernel
theorem dX11_laysSteps_150 : decode cX11_laysSteps 150 = .ok (.goto (-101), 3) := by decide +kernel
theorem dX11_laysSteps_153 : decode cX11_laysSteps 153 = .ok (.iinc 1 1, 3) := by decide +kernel
theorem dX11_laysSteps_156 : decode cX11_laysSteps 156 = .ok (.goto (-154), 3) := by decide +kernel
theorem dX11_laysSteps_159 : decode cX11_laysSteps 159 = .ok (.return_, 1) := by decide +kernel
theorem dX11_joins_0 : decode cX11_joins 0 = .ok (.aload_n 0, 1) := by decide +kernel
theorem dX11_joins_1 : decode cX11_joins 1 = .ok (.getfield 20, 3) := by decide +kernel
theorem dX11_joins_4 : decode cX11_joins 4 = .ok (.iload_n 1, 1) := by decide +kernel
theorem dX11_joins_5 : decode cX11_joins 5 = .ok (.iload_n 3, 1) := by decide +kernel
theorem dX11_joins_6 : decode cX11_joins 6 = .ok (.ifCond .eq 16, 3) := by decide +kernel
theorem dX11_joins_9 : decode cX11_joins 9 = .ok (.aload_n 0, 1) := by decide +kernel
theorem dX11_joins_10 : decode cX11_joins 10 = .ok (.getfield 20, 3) := by decide +kernel
theorem dX11_joins_13 : decode cX11_joins 13 = .ok (.iload_n 1, 1) := by decide +kernel
theorem dX11_joins_14 : decode cX11_joins 14 = .ok (.iaload, 1) := by decide +kernel
theorem dX11_joins_15 : decode cX11_joins 15 = .ok (.iconst 1, 1) := by decide +kernel
theorem dX11_joins_16 : decode cX11_joins 16 = .ok (.iload_n 2, 1) := by decide +kernel
theorem dX11_joins_17 : decode cX11_joins 17 = .ok (.ishl, 1) := by decide +kernel
theorem dX11_joins_18 : decode cX11_joins 18 = .ok (.ior, 1) := by decide +kernel
theorem dX11_joins_19 : decode cX11_joins 19 = .ok (.goto 15, 3) := by decide +kernel
theorem dX11_joins_22 : decode cX11_joins 22 = .ok (.aload_n 0, 1) := by decide +kernel
theorem dX11_joins_23 : decode cX11_joins 23 = .ok (.getfield 20, 3) := by decide +kernel
theorem dX11_joins_26 : decode cX11_joins 26 = .ok (.iload_n 1, 1) := by decide +kernel
theorem dX11_joins_27 : decode cX11_joins 27 = .ok (.iaload, 1) := by decide +kernel
theorem dX11_joins_28 : decode cX11_joins 28 = .ok (.iconst 1, 1) := by decide +kernel
theorem dX11_joins_29 : decode cX11_joins 29 = .ok (.iload_n 2, 1) := by decide +kernel
theorem dX11_joins_30 : decode cX11_joins 30 = .ok (.ishl, 1) := by decide +kernel
theorem dX11_joins_31 : decode cX11_joins 31 = .ok (.iconst (-1), 1) := by decide +kernel
theorem dX11_joins_32 : decode cX11_joins 32 = .ok (.ixor, 1) := by decide +kernel
theorem dX11_joins_33 : decode cX11_joins 33 = .ok (.iand, 1) := by decide +kernel
theorem dX11_joins_34 : decode cX11_joins 34 = .ok (.iastore, 1) := by decide +kernel
theorem dX11_joins_35 : decode cX11_joins 35 = .ok (.aload_n 0, 1) := by decide +kernel
theorem dX11_joins_36 : decode cX11_joins 36 = .ok (.getfield 20, 3) := by decide +kernel
theorem dX11_joins_39 : decode cX11_joins 39 = .ok (.iload_n 2, 1) := by decide +kernel
theorem dX11_joins_40 : decode cX11_joins 40 = .ok (.iload_n 3, 1) := by decide +kernel
theorem dX11_joins_41 : decode cX11_joins 41 = .ok (.ifCond .eq 16, 3) := by decide +kernel
theorem dX11_joins_44 : decode cX11_joins 44 = .ok (.aload_n 0, 1) := by decide +kernel
theorem dX11_joins_45 : decode cX11_joins 45 = .ok (.getfield 20, 3) := by decide +kernel
theorem dX11_joins_48 : decode cX11_joins 48 = .ok (.iload_n 2, 1) := by decide +kernel
theorem dX11_joins_49 : decode cX11_joins 49 = .ok (.iaload, 1) := by decide +kernel
theorem dX11_joins_50 : decode cX11_joins 50 = .ok (.iconst 1, 1) := by decide +kernel
theorem dX11_joins_51 : decode cX11_joins 51 = .ok (.iload_n 1, 1) := by decide +kernel
theorem dX11_joins_52 : decode cX11_joins 52 = .ok (.ishl, 1) := by decide +kernel
theorem dX11_joins_53 : decode cX11_joins 53 = .ok (.ior, 1) := by decide +kernel
theorem dX11_joins_54 : decode cX11_joins 54 = .ok (.goto 15, 3) := by decide +kernel
theorem dX11_joins_57 : decode cX11_joins 57 = .ok (.aload_n 0, 1) := by decide +kernel
theorem dX11_joins_58 : decode cX11_joins 58 = .ok (.getfield 20, 3) := by decide +kernel
theorem dX11_joins_61 : decode cX11_joins 61 = .ok (.iload_n 2, 1) := by decide +kernel
theorem dX11_joins_62 : decode cX11_joins 62 = .ok (.iaload, 1) := by decide +kernel
theorem dX11_joins_63 : decode cX11_joins 63 = .ok (.iconst 1, 1) := by decide +kernel
theorem dX11_joins_64 : decode cX11_joins 64 = .ok (.iload_n 1, 1) := by decide +kernel
theorem dX11_joins_65 : decode cX11_joins 65 = .ok (.ishl, 1) := by decide +kernel
theorem dX11_joins_66 : decode cX11_joins 66 = .ok (.iconst (-1), 1) := by decide +kernel
theorem dX11_joins_67 : decode cX11_joins 67 = .ok (.ixor, 1) := by decide +kernel
theorem dX11_joins_68 : decode cX11_joins 68 = .ok (.iand, 1) := by decide +kernel
theorem dX11_joins_69 : decode cX11_joins 69 = .ok (.iastore, 1) := by decide +kernel
theorem dX11_joins_70 : decode cX11_joins 70 = .ok (.aload_n 0, 1) := by decide +kernel
theorem dX11_joins_71 : decode cX11_joins 71 = .ok (.invokevirtual 230, 3) := by decide +kernel
theorem dX11_joins_74 : decode cX11_joins 74 = .ok (.return_, 1) := by decide +kernel
theorem dX11_towardsOf_0 : decode cX11_towardsOf 0 = .ok (.aload_n 0, 1) := by decide +kernel
theorem dX11_towardsOf_1 : decode cX11_towardsOf 1 = .ok (.getfield 23, 3) := by decide +kernel
theorem dX11_towardsOf_4 : decode cX11_towardsOf 4 = .ok (.bipush 10, 2) := by decide +kernel
theorem dX11_towardsOf_6 : decode cX11_towardsOf 6 = .ok (.iload_n 1, 1) := by decide +kernel
theorem dX11_towardsOf_7 : decode cX11_towardsOf 7 = .ok (.imul, 1) := by decide +kernel
theorem dX11_towardsOf_8 : decode cX11_towardsOf 8 = .ok (.iload_n 2, 1) := by decide +kernel
theorem dX11_towardsOf_9 : decode cX11_towardsOf 9 = .ok (.iadd, 1) := by decide +kernel
theorem dX11_towardsOf_10 : decode cX11_towardsOf 10 = .ok (.iaload, 1) := by decide +kernel
theorem dX11_towardsOf_11 : decode cX11_towardsOf 11 = .ok (.istore_n 3, 1) := by decide +kernel
theorem dX11_towardsOf_12 : decode cX11_towardsOf 12 = .ok (.iload_n 3, 1) := by decide +kernel
theorem dX11_towardsOf_13 : decode cX11_towardsOf 13 = .ok (.iconst 1, 1) := by decide +kernel
theorem dX11_towardsOf_14 : decode cX11_towardsOf 14 = .ok (.if_icmp .ge 5, 3) := by decide +kernel
theorem dX11_towardsOf_17 : decode cX11_towardsOf 17 = .ok (.iconst (-1), 1) := by decide +kernel
theorem dX11_towardsOf_18 : decode cX11_towardsOf 18 = .ok (.ireturn, 1) := by decide +kernel
theorem dX11_towardsOf_19 : decode cX11_towardsOf 19 = .ok (.iconst 0, 1) := by decide +kernel
theorem dX11_towardsOf_20 : decode cX11_towardsOf 20 = .ok (.istore 4, 2) := by decide +kernel
theorem dX11_towardsOf_22 : decode cX11_towardsOf 22 = .ok (.iload 4, 2) := by decide +kernel
theorem dX11_towardsOf_24 : decode cX11_towardsOf 24 = .ok (.bipush 10, 2) := by decide +kernel
theorem dX11_towardsOf_26 : decode cX11_towardsOf 26 = .ok (.if_icmp .ge 40, 3) := by decide +kernel
theorem dX11_towardsOf_29 : decode cX11_towardsOf 29 = .ok (.aload_n 0, 1) := by decide +kernel
theorem dX11_towardsOf_30 : decode cX11_towardsOf 30 = .ok (.iload_n 1, 1) := by decide +kernel
theorem dX11_towardsOf_31 : decode cX11_towardsOf 31 = .ok (.iload 4, 2) := by decide +kernel
theorem dX11_towardsOf_33 : decode cX11_towardsOf 33 = .ok (.invokevirtual 233, 3) := by decide +kernel
theorem dX11_towardsOf_36 : decode cX11_towardsOf 36 = .ok (.ifCond .eq 24, 3) := by decide +kernel
theorem dX11_towardsOf_39 : decode cX11_towardsOf 39 = .ok (.aload_n 0, 1) := by decide +kernel
theorem dX11_towardsOf_40 : decode cX11_towardsOf 40 = .ok (.getfield 23, 3) := by decide +kernel
theorem dX11_towardsOf_43 : decode cX11_towardsOf 43 = .ok (.bipush 10, 2) := by decide +kernel
theorem dX11_towardsOf_45 : decode cX11_towardsOf 45 = .ok (.iload 4, 2) := by decide +kernel
theorem dX11_towardsOf_47 : decode cX11_towardsOf 47 = .ok (.imul, 1) := by decide +kernel
theorem dX11_towardsOf_48 : decode cX11_towardsOf 48 = .ok (.iload_n 2, 1) := by decide +kernel
theorem dX11_towardsOf_49 : decode cX11_towardsOf 49 = .ok (.iadd, 1) := by decide +kernel
theorem dX11_towardsOf_50 : decode cX11_towardsOf 50 = .ok (.iaload, 1) := by decide +kernel
theorem dX11_towardsOf_51 : decode cX11_towardsOf 51 = .ok (.iload_n 3, 1) := by decide +kernel
theorem dX11_towardsOf_52 : decode cX11_towardsOf 52 = .ok (.iconst 1, 1) := by decide +kernel
theorem dX11_towardsOf_53 : decode cX11_towardsOf 53 = .ok (.isub, 1) := by decide +kernel
theorem dX11_towardsOf_54 : decode cX11_towardsOf 54 = .ok (.if_icmp .ne 6, 3) := by decide +kernel
theorem dX11_towardsOf_57 : decode cX11_towardsOf 57 = .ok (.iload 4, 2) := by decide +kernel
theorem dX11_towardsOf_59 : decode cX11_towardsOf 59 = .ok (.ireturn, 1) := by decide +kernel
theorem dX11_towardsOf_60 : decode cX11_towardsOf 60 = .ok (.iinc 4 1, 3) := by decide +kernel
theorem dX11_towardsOf_63 : decode cX11_towardsOf 63 = .ok (.goto (-41), 3) := by decide +kernel
theorem dX11_towardsOf_66 : decode cX11_towardsOf 66 = .ok (.iconst (-1), 1) := by decide +kernel
theorem dX11_towardsOf_67 : decode cX11_towardsOf 67 = .ok (.ireturn, 1) := by decide +kernel
theorem dX11_isWord_0 : decode cX11_isWord 0 = .ok (.iload_n 0, 1) := by decide +kernel
theorem dX11_isWord_1 : decode cX11_isWord 1 = .ok (.iconst 0, 1) := by decide +kernel
theorem dX11_isWord_2 : decode cX11_isWord 2 = .ok (.bipush 9, 2) := by decide +kernel
theorem dX11_isWord_4 : decode cX11_isWord 4 = .ok (.invokestatic 132, 3) := by decide +kernel
theorem dX11_isWord_7 : decode cX11_isWord 7 = .ok (.ireturn, 1) := by decide +kernel
theorem dX11_steps_0 : decode cX11_steps 0 = .ok (.aload_n 0, 1) := by decide +kernel
theorem dX11_steps_1 : decode cX11_steps 1 = .ok (.iload_n 1, 1) := by decide +kernel
theorem dX11_steps_2 : decode cX11_steps 2 = .ok (.invokevirtual 209, 3) := by decide +kernel
theorem dX11_steps_5 : decode cX11_steps 5 = .ok (.ifCond .eq 31, 3) := by decide +kernel
theorem dX11_steps_8 : decode cX11_steps 8 = .ok (.iload_n 2, 1) := by decide +kernel
theorem dX11_steps_9 : decode cX11_steps 9 = .ok (.invokestatic 236, 3) := by decide +kernel
theorem dX11_steps_12 : decode cX11_steps 12 = .ok (.ifCond .eq 24, 3) := by decide +kernel
theorem dX11_steps_15 : decode cX11_steps 15 = .ok (.iload_n 3, 1) := by decide +kernel
theorem dX11_steps_16 : decode cX11_steps 16 = .ok (.invokestatic 236, 3) := by decide +kernel
theorem dX11_steps_19 : decode cX11_steps 19 = .ok (.ifCond .eq 17, 3) := by decide +kernel
theorem dX11_steps_22 : decode cX11_steps 22 = .ok (.aload_n 0, 1) := by decide +kernel
theorem dX11_steps_23 : decode cX11_steps 23 = .ok (.getfield 23, 3) := by decide +kernel
theorem dX11_steps_26 : decode cX11_steps 26 = .ok (.bipush 10, 2) := by decide +kernel
theorem dX11_steps_28 : decode cX11_steps 28 = .ok (.iload_n 2, 1) := by decide +kernel
theorem dX11_steps_29 : decode cX11_steps 29 = .ok (.imul, 1) := by decide +kernel
theorem dX11_steps_30 : decode cX11_steps 30 = .ok (.iload_n 3, 1) := by decide +kernel
theorem dX11_steps_31 : decode cX11_steps 31 = .ok (.iadd, 1) := by decide +kernel
theorem dX11_steps_32 : decode cX11_steps 32 = .ok (.iaload, 1) := by decide +kernel
theorem dX11_steps_33 : decode cX11_steps 33 = .ok (.goto 4, 3) := by decide +kernel
theorem dX11_steps_36 : decode cX11_steps 36 = .ok (.iconst (-1), 1) := by decide +kernel
theorem dX11_steps_37 : decode cX11_steps 37 = .ok (.ireturn, 1) := by decide +kernel
theorem dX11_towards_0 : decode cX11_towards 0 = .ok (.aload_n 0, 1) := by decide +kernel
theorem dX11_towards_1 : decode cX11_towards 1 = .ok (.iload_n 1, 1) := by decide +kernel
theorem dX11_towards_2 : decode cX11_towards 2 = .ok (.invokevirtual 209, 3) := by decide +kernel
theorem dX11_towards_5 : decode cX11_towards 5 = .ok (.ifCond .eq 26, 3) := by decide +kernel
theorem dX11_towards_8 : decode cX11_towards 8 = .ok (.iload_n 2, 1) := by decide +kernel
theorem dX11_towards_9 : decode cX11_towards 9 = .ok (.invokestatic 236, 3) := by decide +kernel
theorem dX11_towards_12 : decode cX11_towards 12 = .ok (.ifCond .eq 19, 3) := by decide +kernel
theorem dX11_towards_15 : decode cX11_towards 15 = .ok (.iload_n 3, 1) := by decide +kernel
theorem dX11_towards_16 : decode cX11_towards 16 = .ok (.invokestatic 236, 3) := by decide +kernel
theorem dX11_towards_19 : decode cX11_towards 19 = .ok (.ifCond .eq 12, 3) := by decide +kernel
theorem dX11_towards_22 : decode cX11_towards 22 = .ok (.aload_n 0, 1) := by decide +kernel
theorem dX11_towards_23 : decode cX11_towards 23 = .ok (.iload_n 2, 1) := by decide +kernel
theorem dX11_towards_24 : decode cX11_towards 24 = .ok (.iload_n 3, 1) := by decide +kernel
theorem dX11_towards_25 : decode cX11_towards 25 = .ok (.invokevirtual 239, 3) := by decide +kernel
theorem dX11_towards_28 : decode cX11_towards 28 = .ok (.goto 4, 3) := by decide +kernel
theorem dX11_towards_31 : decode cX11_towards 31 = .ok (.iconst (-1), 1) := by decide +kernel
theorem dX11_towards_32 : decode cX11_towards 32 = .ok (.ireturn, 1) := by decide +kernel
theorem dX11_beginsProof_0 : decode cX11_beginsProof 0 = .ok (.aload_n 0, 1) := by decide +kernel
theorem dX11_beginsProof_1 : decode cX11_beginsProof 1 = .ok (.iconst 0, 1) := by decide +kernel
theorem dX11_beginsProof_2 : decode cX11_beginsProof 2 = .ok (.putfield 242, 3) := by decide +kernel
theorem dX11_beginsProof_5 : decode cX11_beginsProof 5 = .ok (.iconst 0, 1) := by decide +kernel
theorem dX11_beginsProof_6 : decode cX11_beginsProof 6 = .ok (.istore_n 1, 1) := by decide +kernel
theorem dX11_beginsProof_7 : decode cX11_beginsProof 7 = .ok (.iload_n 1, 1) := by decide +kernel
theorem dX11_beginsProof_8 : decode cX11_beginsProof 8 = .ok (.bipush 8, 2) := by decide +kernel
theorem dX11_beginsProof_10 : decode cX11_beginsProof 10 = .ok (.if_icmp .ge 27, 3) := by decide +kernel
theorem dX11_beginsProof_13 : decode cX11_beginsProof 13 = .ok (.aload_n 0, 1) := by decide +kernel
theorem dX11_beginsProof_14 : decode cX11_beginsProof 14 = .ok (.getfield 26, 3) := by decide +kernel
theorem dX11_beginsProof_17 : decode cX11_beginsProof 17 = .ok (.iload_n 1, 1) := by decide +kernel
theorem dX11_beginsProof_18 : decode cX11_beginsProof 18 = .ok (.aload_n 0, 1) := by decide +kernel
theorem dX11_beginsProof_19 : decode cX11_beginsProof 19 = .ok (.iload_n 1, 1) := by decide +kernel
theorem dX11_beginsProof_20 : decode cX11_beginsProof 20 = .ok (.invokevirtual 215, 3) := by decide +kernel
theorem dX11_beginsProof_23 : decode cX11_beginsProof 23 = .ok (.iastore, 1) := by decide +kernel
theorem dX11_beginsProof_24 : decode cX11_beginsProof 24 = .ok (.aload_n 0, 1) := by decide +kernel
theorem dX11_beginsProof_25 : decode cX11_beginsProof 25 = .ok (.getfield 38, 3) := by decide +kernel
theorem dX11_beginsProof_28 : decode cX11_beginsProof 28 = .ok (.iload_n 1, 1) := by decide +kernel
theorem dX11_beginsProof_29 : decode cX11_beginsProof 29 = .ok (.iconst (-1), 1) := by decide +kernel
theorem dX11_beginsProof_30 : decode cX11_beginsProof 30 = .ok (.iastore, 1) := by decide +kernel
theorem dX11_beginsProof_31 : decode cX11_beginsProof 31 = .ok (.iinc 1 1, 3) := by decide +kernel
theorem dX11_beginsProof_34 : decode cX11_beginsProof 34 = .ok (.goto (-27), 3) := by decide +kernel
theorem dX11_beginsProof_37 : decode cX11_beginsProof 37 = .ok (.iconst 0, 1) := by decide +kernel
theorem dX11_beginsProof_38 : decode cX11_beginsProof 38 = .ok (.istore_n 1, 1) := by decide +kernel
theorem dX11_beginsProof_39 : decode cX11_beginsProof 39 = .ok (.iload_n 1, 1) := by decide +kernel
theorem dX11_beginsProof_40 : decode cX11_beginsProof 40 = .ok (.bipush 6, 2) := by decide +kernel
theorem dX11_beginsProof_42 : decode cX11_beginsProof 42 = .ok (.if_icmp .ge 23, 3) := by decide +kernel
theorem dX11_beginsProof_45 : decode cX11_beginsProof 45 = .ok (.aload_n 0, 1) := by decide +kernel
theorem dX11_beginsProof_46 : decode cX11_beginsProof 46 = .ok (.getfield 32, 3) := by decide +kernel
theorem dX11_beginsProof_49 : decode cX11_beginsProof 49 = .ok (.iload_n 1, 1) := by decide +kernel
theorem dX11_beginsProof_50 : decode cX11_beginsProof 50 = .ok (.iconst 0, 1) := by decide +kernel
theorem dX11_beginsProof_51 : decode cX11_beginsProof 51 = .ok (.iastore, 1) := by decide +kernel
theorem dX11_beginsProof_52 : decode cX11_beginsProof 52 = .ok (.aload_n 0, 1) := by decide +kernel
theorem dX11_beginsProof_53 : decode cX11_beginsProof 53 = .ok (.getfield 35, 3) := by decide +kernel
theorem dX11_beginsProof_56 : decode cX11_beginsProof 56 = .ok (.iload_n 1, 1) := by decide +kernel
theorem dX11_beginsProof_57 : decode cX11_beginsProof 57 = .ok (.iconst 0, 1) := by decide +kernel
theorem dX11_beginsProof_58 : decode cX11_beginsProof 58 = .ok (.iastore, 1) := by decide +kernel
theorem dX11_beginsProof_59 : decode cX11_beginsProof 59 = .ok (.iinc 1 1, 3) := by decide +kernel
theorem dX11_beginsProof_62 : decode cX11_beginsProof 62 = .ok (.goto (-23), 3) := by decide +kernel
theorem dX11_beginsProof_65 : decode cX11_beginsProof 65 = .ok (.return_, 1) := by decide +kernel
theorem dX11_begins_0 : decode cX11_begins 0 = .ok (.aload_n 0, 1) := by decide +kernel
theorem dX11_begins_1 : decode cX11_begins 1 = .ok (.invokevirtual 245, 3) := by decide +kernel
theorem dX11_begins_4 : decode cX11_begins 4 = .ok (.aload_n 0, 1) := by decide +kernel
theorem dX11_begins_5 : decode cX11_begins 5 = .ok (.iconst 0, 1) := by decide +kernel
theorem dX11_begins_6 : decode cX11_begins 6 = .ok (.putfield 248, 3) := by decide +kernel
theorem dX11_begins_9 : decode cX11_begins 9 = .ok (.aload_n 0, 1) := by decide +kernel
theorem dX11_begins_10 : decode cX11_begins 10 = .ok (.iconst 0, 1) := by decide +kernel
theorem dX11_begins_11 : decode cX11_begins 11 = .ok (.putfield 251, 3) := by decide +kernel
theorem dX11_begins_14 : decode cX11_begins 14 = .ok (.aload_n 0, 1) := by decide +kernel
theorem dX11_begins_15 : decode cX11_begins 15 = .ok (.iconst 0, 1) := by decide +kernel
theorem dX11_begins_16 : decode cX11_begins 16 = .ok (.putfield 254, 3) := by decide +kernel
theorem dX11_begins_19 : decode cX11_begins 19 = .ok (.aload_n 0, 1) := by decide +kernel
theorem dX11_begins_20 : decode cX11_begins 20 = .ok (.iconst 0, 1) := by decide +kernel
theorem dX11_begins_21 : decode cX11_begins 21 = .ok (.putfield 257, 3) := by decide +kernel
theorem dX11_begins_24 : decode cX11_begins 24 = .ok (.aload_n 0, 1) := by decide +kernel
theorem dX11_begins_25 : decode cX11_begins 25 = .ok (.iconst (-1), 1) := by decide +kernel
theorem dX11_begins_26 : decode cX11_begins 26 = .ok (.putfield 260, 3) := by decide +kernel
theorem dX11_begins_29 : decode cX11_begins 29 = .ok (.iconst 0, 1) := by decide +kernel
theorem dX11_begins_30 : decode cX11_begins 30 = .ok (.istore_n 1, 1) := by decide +kernel
theorem dX11_begins_31 : decode cX11_begins 31 = .ok (.iload_n 1, 1) := by decide +kernel
theorem dX11_begins_32 : decode cX11_begins 32 = .ok (.bipush 8, 2) := by decide +kernel
theorem dX11_begins_34 : decode cX11_begins 34 = .ok (.if_icmp .ge 17, 3) := by decide +kernel
theorem dX11_begins_37 : decode cX11_begins 37 = .ok (.aload_n 0, 1) := by decide +kernel
theorem dX11_begins_38 : decode cX11_begins 38 = .ok (.getfield 29, 3) := by decide +kernel
theorem dX11_begins_41 : decode cX11_begins 41 = .ok (.iload_n 1, 1) := by decide +kernel
theorem dX11_begins_42 : decode cX11_begins 42 = .ok (.bipush 10, 2) := by decide +kernel
theorem dX11_begins_44 : decode cX11_begins 44 = .ok (.iastore, 1) := by decide +kernel
theorem dX11_begins_45 : decode cX11_begins 45 = .ok (.iinc 1 1, 3) := by decide +kernel
theorem dX11_begins_48 : decode cX11_begins 48 = .ok (.goto (-17), 3) := by decide +kernel
theorem dX11_begins_51 : decode cX11_begins 51 = .ok (.iconst 0, 1) := by decide +kernel
theorem dX11_begins_52 : decode cX11_begins 52 = .ok (.istore_n 1, 1) := by decide +kernel
theorem dX11_begins_53 : decode cX11_begins 53 = .ok (.iload_n 1, 1) := by decide +kernel
theorem dX11_begins_54 : decode cX11_begins 54 = .ok (.bipush 10, 2) := by decide +kernel
theorem dX11_begins_56 : decode cX11_begins 56 = .ok (.if_icmp .ge 29, 3) := by decide +kernel
theorem dX11_begins_59 : decode cX11_begins 59 = .ok (.aload_n 0, 1) := by decide +kernel
theorem dX11_begins_60 : decode cX11_begins 60 = .ok (.getfield 20, 3) := by decide +kernel
theorem dX11_begins_63 : decode cX11_begins 63 = .ok (.iload_n 1, 1) := by decide +kernel
theorem dX11_begins_64 : decode cX11_begins 64 = .ok (.aload_n 0, 1) := by decide +kernel
theorem dX11_begins_65 : decode cX11_begins 65 = .ok (.getfield 7, 3) := by decide +kernel
theorem dX11_begins_68 : decode cX11_begins 68 = .ok (.aload_n 0, 1) := by decide +kernel
theorem dX11_begins_69 : decode cX11_begins 69 = .ok (.getfield 197, 3) := by decide +kernel
theorem dX11_begins_72 : decode cX11_begins 72 = .ok (.bipush 10, 2) := by decide +kernel
theorem dX11_begins_74 : decode cX11_begins 74 = .ok (.iadd, 1) := by decide +kernel
theorem dX11_begins_75 : decode cX11_begins 75 = .ok (.iload_n 1, 1) := by decide +kernel
theorem dX11_begins_76 : decode cX11_begins 76 = .ok (.iadd, 1) := by decide +kernel
theorem dX11_begins_77 : decode cX11_begins 77 = .ok (.iaload, 1) := by decide +kernel
theorem dX11_begins_78 : decode cX11_begins 78 = .ok (.iastore, 1) := by decide +kernel
theorem dX11_begins_79 : decode cX11_begins 79 = .ok (.iinc 1 1, 3) := by decide +kernel
theorem dX11_begins_82 : decode cX11_begins 82 = .ok (.goto (-29), 3) := by decide +kernel
theorem dX11_begins_85 : decode cX11_begins 85 = .ok (.aload_n 0, 1) := by decide +kernel
theorem dX11_begins_86 : decode cX11_begins 86 = .ok (.invokevirtual 230, 3) := by decide +kernel
theorem dX11_begins_89 : decode cX11_begins 89 = .ok (.return_, 1) := by decide +kernel
theorem dX11_putOf_0 : decode cX11_putOf 0 = .ok (.aload_n 0, 1) := by decide +kernel
theorem dX11_putOf_1 : decode cX11_putOf 1 = .ok (.iload_n 1, 1) := by decide +kernel
theorem dX11_putOf_2 : decode cX11_putOf 2 = .ok (.iload_n 2, 1) := by decide +kernel
theorem dX11_putOf_3 : decode cX11_putOf 3 = .ok (.invokevirtual 227, 3) := by decide +kernel
theorem dX11_putOf_6 : decode cX11_putOf 6 = .ok (.bipush 10, 2) := by decide +kernel
theorem dX11_putOf_8 : decode cX11_putOf 8 = .ok (.if_icmp .ne 7, 3) := by decide +kernel
theorem dX11_putOf_11 : decode cX11_putOf 11 = .ok (.iconst (-1), 1) := by decide +kernel
theorem dX11_putOf_12 : decode cX11_putOf 12 = .ok (.goto 19, 3) := by decide +kernel
theorem dX11_putOf_15 : decode cX11_putOf 15 = .ok (.aload_n 0, 1) := by decide +kernel
theorem dX11_putOf_16 : decode cX11_putOf 16 = .ok (.aload_n 0, 1) := by decide +kernel
theorem dX11_putOf_17 : decode cX11_putOf 17 = .ok (.getfield 26, 3) := by decide +kernel
theorem dX11_putOf_20 : decode cX11_putOf 20 = .ok (.iload_n 2, 1) := by decide +kernel
theorem dX11_putOf_21 : decode cX11_putOf 21 = .ok (.iaload, 1) := by decide +kernel
theorem dX11_putOf_22 : decode cX11_putOf 22 = .ok (.aload_n 0, 1) := by decide +kernel
theorem dX11_putOf_23 : decode cX11_putOf 23 = .ok (.iload_n 1, 1) := by decide +kernel
theorem dX11_putOf_24 : decode cX11_putOf 24 = .ok (.iload_n 2, 1) := by decide +kernel
theorem dX11_putOf_25 : decode cX11_putOf 25 = .ok (.invokevirtual 227, 3) := by decide +kernel
theorem dX11_putOf_28 : decode cX11_putOf 28 = .ok (.invokevirtual 239, 3) := by decide +kernel
theorem dX11_putOf_31 : decode cX11_putOf 31 = .ok (.ireturn, 1) := by decide +kernel
theorem dX11_reads_0 : decode cX11_reads 0 = .ok (.iconst 0, 1) := by decide +kernel
theorem dX11_reads_1 : decode cX11_reads 1 = .ok (.istore_n 2, 1) := by decide +kernel
theorem dX11_reads_2 : decode cX11_reads 2 = .ok (.iconst 0, 1) := by decide +kernel
theorem dX11_reads_3 : decode cX11_reads 3 = .ok (.istore_n 3, 1) := by decide +kernel
theorem dX11_reads_4 : decode cX11_reads 4 = .ok (.iload_n 3, 1) := by decide +kernel
theorem dX11_reads_5 : decode cX11_reads 5 = .ok (.aload_n 0, 1) := by decide +kernel
theorem dX11_reads_6 : decode cX11_reads 6 = .ok (.getfield 200, 3) := by decide +kernel
theorem dX11_reads_9 : decode cX11_reads 9 = .ok (.if_icmp .ge 83, 3) := by decide +kernel
theorem dX11_reads_12 : decode cX11_reads 12 = .ok (.iload_n 2, 1) := by decide +kernel
theorem dX11_reads_13 : decode cX11_reads 13 = .ok (.aload_n 0, 1) := by decide +kernel
theorem dX11_reads_14 : decode cX11_reads 14 = .ok (.iload_n 1, 1) := by decide +kernel
theorem dX11_reads_15 : decode cX11_reads 15 = .ok (.invokevirtual 221, 3) := by decide +kernel
theorem dX11_reads_18 : decode cX11_reads 18 = .ok (.if_icmp .ge 74, 3) := by decide +kernel
theorem dX11_reads_21 : decode cX11_reads 21 = .ok (.aload_n 0, 1) := by decide +kernel
theorem dX11_reads_22 : decode cX11_reads 22 = .ok (.getfield 32, 3) := by decide +kernel
theorem dX11_reads_25 : decode cX11_reads 25 = .ok (.iload_n 1, 1) := by decide +kernel
theorem dX11_reads_26 : decode cX11_reads 26 = .ok (.iaload, 1) := by decide +kernel
theorem dX11_reads_27 : decode cX11_reads 27 = .ok (.iload_n 3, 1) := by decide +kernel
theorem dX11_reads_28 : decode cX11_reads 28 = .ok (.ishr, 1) := by decide +kernel
theorem dX11_reads_29 : decode cX11_reads 29 = .ok (.iconst 1, 1) := by decide +kernel
theorem dX11_reads_30 : decode cX11_reads 30 = .ok (.iand, 1) := by decide +kernel
theorem dX11_reads_31 : decode cX11_reads 31 = .ok (.iconst 1, 1) := by decide +kernel
theorem dX11_reads_32 : decode cX11_reads 32 = .ok (.if_icmp .ne 7, 3) := by decide +kernel
theorem dX11_reads_35 : decode cX11_reads 35 = .ok (.iconst (-1), 1) := by decide +kernel
theorem dX11_reads_36 : decode cX11_reads 36 = .ok (.goto 9, 3) := by decide +kernel
theorem dX11_reads_39 : decode cX11_reads 39 = .ok (.aload_n 0, 1) := by decide +kernel
theorem dX11_reads_40 : decode cX11_reads 40 = .ok (.iload_n 1, 1) := by decide +kernel
theorem dX11_reads_41 : decode cX11_reads 41 = .ok (.iload_n 3, 1) := by decide +kernel
theorem dX11_reads_42 : decode cX11_reads 42 = .ok (.invokevirtual 263, 3) := by decide +kernel
theorem dX11_reads_45 : decode cX11_reads 45 = .ok (.istore 4, 2) := by decide +kernel
theorem dX11_reads_47 : decode cX11_reads 47 = .ok (.iload 4, 2) := by decide +kernel
theorem dX11_reads_49 : decode cX11_reads 49 = .ok (.iconst (-1), 1) := by decide +kernel
theorem dX11_reads_50 : decode cX11_reads 50 = .ok (.if_icmp .ne 6, 3) := by decide +kernel
theorem dX11_reads_53 : decode cX11_reads 53 = .ok (.goto 33, 3) := by decide +kernel
theorem dX11_reads_56 : decode cX11_reads 56 = .ok (.aload_n 0, 1) := by decide +kernel
theorem dX11_reads_57 : decode cX11_reads 57 = .ok (.getfield 26, 3) := by decide +kernel
theorem dX11_reads_60 : decode cX11_reads 60 = .ok (.iload_n 3, 1) := by decide +kernel
theorem dX11_reads_61 : decode cX11_reads 61 = .ok (.iload 4, 2) := by decide +kernel
theorem dX11_reads_63 : decode cX11_reads 63 = .ok (.iastore, 1) := by decide +kernel
theorem dX11_reads_64 : decode cX11_reads 64 = .ok (.aload_n 0, 1) := by decide +kernel
theorem dX11_reads_65 : decode cX11_reads 65 = .ok (.getfield 38, 3) := by decide +kernel
theorem dX11_reads_68 : decode cX11_reads 68 = .ok (.iload_n 3, 1) := by decide +kernel
theorem dX11_reads_69 : decode cX11_reads 69 = .ok (.iload_n 1, 1) := by decide +kernel
theorem dX11_reads_70 : decode cX11_reads 70 = .ok (.iastore, 1) := by decide +kernel
theorem dX11_reads_71 : decode cX11_reads 71 = .ok (.aload_n 0, 1) := by decide +kernel
theorem dX11_reads_72 : decode cX11_reads 72 = .ok (.dup, 1) := by decide +kernel
theorem dX11_reads_73 : decode cX11_reads 73 = .ok (.getfield 254, 3) := by decide +kernel
theorem dX11_reads_76 : decode cX11_reads 76 = .ok (.iconst 1, 1) := by decide +kernel
theorem dX11_reads_77 : decode cX11_reads 77 = .ok (.iload_n 3, 1) := by decide +kernel
theorem dX11_reads_78 : decode cX11_reads 78 = .ok (.ishl, 1) := by decide +kernel
theorem dX11_reads_79 : decode cX11_reads 79 = .ok (.ior, 1) := by decide +kernel
theorem dX11_reads_80 : decode cX11_reads 80 = .ok (.putfield 254, 3) := by decide +kernel
theorem dX11_reads_83 : decode cX11_reads 83 = .ok (.iinc 2 1, 3) := by decide +kernel
theorem dX11_reads_86 : decode cX11_reads 86 = .ok (.iinc 3 1, 3) := by decide +kernel
theorem dX11_reads_89 : decode cX11_reads 89 = .ok (.goto (-85), 3) := by decide +kernel
theorem dX11_reads_92 : decode cX11_reads 92 = .ok (.aload_n 0, 1) := by decide +kernel
theorem dX11_reads_93 : decode cX11_reads 93 = .ok (.dup, 1) := by decide +kernel
theorem dX11_reads_94 : decode cX11_reads 94 = .ok (.getfield 242, 3) := by decide +kernel
theorem dX11_reads_97 : decode cX11_reads 97 = .ok (.iload_n 2, 1) := by decide +kernel
theorem dX11_reads_98 : decode cX11_reads 98 = .ok (.iadd, 1) := by decide +kernel
theorem dX11_reads_99 : decode cX11_reads 99 = .ok (.putfield 242, 3) := by decide +kernel
theorem dX11_reads_102 : decode cX11_reads 102 = .ok (.aload_n 0, 1) := by decide +kernel
theorem dX11_reads_103 : decode cX11_reads 103 = .ok (.getfield 35, 3) := by decide +kernel
theorem dX11_reads_106 : decode cX11_reads 106 = .ok (.iload_n 1, 1) := by decide +kernel
theorem dX11_reads_107 : decode cX11_reads 107 = .ok (.dup2, 1) := by decide +kernel
theorem dX11_reads_108 : decode cX11_reads 108 = .ok (.iaload, 1) := by decide +kernel
theorem dX11_reads_109 : decode cX11_reads 109 = .ok (.iload_n 2, 1) := by decide +kernel
theorem dX11_reads_110 : decode cX11_reads 110 = .ok (.iadd, 1) := by decide +kernel
theorem dX11_reads_111 : decode cX11_reads 111 = .ok (.iastore, 1) := by decide +kernel
theorem dX11_reads_112 : decode cX11_reads 112 = .ok (.iload_n 2, 1) := by decide +kernel
theorem dX11_reads_113 : decode cX11_reads 113 = .ok (.ireturn, 1) := by decide +kernel
theorem dX11_contentOf_0 : decode cX11_contentOf 0 = .ok (.iconst 0, 1) := by decide +kernel
theorem dX11_contentOf_1 : decode cX11_contentOf 1 = .ok (.istore_n 2, 1) := by decide +kernel
theorem dX11_contentOf_2 : decode cX11_contentOf 2 = .ok (.iconst 0, 1) := by decide +kernel
theorem dX11_contentOf_3 : decode cX11_contentOf 3 = .ok (.istore_n 3, 1) := by decide +kernel
theorem dX11_contentOf_4 : decode cX11_contentOf 4 = .ok (.iload_n 3, 1) := by decide +kernel
theorem dX11_contentOf_5 : decode cX11_contentOf 5 = .ok (.aload_n 0, 1) := by decide +kernel
theorem dX11_contentOf_6 : decode cX11_contentOf 6 = .ok (.getfield 200, 3) := by decide +kernel
theorem dX11_contentOf_9 : decode cX11_contentOf 9 = .ok (.if_icmp .ge 32, 3) := by decide +kernel
theorem dX11_contentOf_12 : decode cX11_contentOf 12 = .ok (.iload_n 2, 1) := by decide +kernel
theorem dX11_contentOf_13 : decode cX11_contentOf 13 = .ok (.aload_n 0, 1) := by decide +kernel
theorem dX11_contentOf_14 : decode cX11_contentOf 14 = .ok (.getfield 26, 3) := by decide +kernel
theorem dX11_contentOf_17 : decode cX11_contentOf 17 = .ok (.iload_n 3, 1) := by decide +kernel
theorem dX11_contentOf_18 : decode cX11_contentOf 18 = .ok (.iaload, 1) := by decide +kernel
theorem dX11_contentOf_19 : decode cX11_contentOf 19 = .ok (.aload_n 0, 1) := by decide +kernel
theorem dX11_contentOf_20 : decode cX11_contentOf 20 = .ok (.iload_n 1, 1) := by decide +kernel
theorem dX11_contentOf_21 : decode cX11_contentOf 21 = .ok (.iload_n 3, 1) := by decide +kernel
theorem dX11_contentOf_22 : decode cX11_contentOf 22 = .ok (.invokevirtual 227, 3) := by decide +kernel
theorem dX11_contentOf_25 : decode cX11_contentOf 25 = .ok (.if_icmp .ne 7, 3) := by decide +kernel
theorem dX11_contentOf_28 : decode cX11_contentOf 28 = .ok (.iconst 1, 1) := by decide +kernel
theorem dX11_contentOf_29 : decode cX11_contentOf 29 = .ok (.goto 4, 3) := by decide +kernel
theorem dX11_contentOf_32 : decode cX11_contentOf 32 = .ok (.iconst 0, 1) := by decide +kernel
theorem dX11_contentOf_33 : decode cX11_contentOf 33 = .ok (.iadd, 1) := by decide +kernel
theorem dX11_contentOf_34 : decode cX11_contentOf 34 = .ok (.istore_n 2, 1) := by decide +kernel
theorem dX11_contentOf_35 : decode cX11_contentOf 35 = .ok (.iinc 3 1, 3) := by decide +kernel
theorem dX11_contentOf_38 : decode cX11_contentOf 38 = .ok (.goto (-34), 3) := by decide +kernel
theorem dX11_contentOf_41 : decode cX11_contentOf 41 = .ok (.iload_n 2, 1) := by decide +kernel
theorem dX11_contentOf_42 : decode cX11_contentOf 42 = .ok (.ireturn, 1) := by decide +kernel
theorem dX11_contentAll_0 : decode cX11_contentAll 0 = .ok (.iconst 0, 1) := by decide +kernel
theorem dX11_contentAll_1 : decode cX11_contentAll 1 = .ok (.istore_n 1, 1) := by decide +kernel
theorem dX11_contentAll_2 : decode cX11_contentAll 2 = .ok (.iconst 0, 1) := by decide +kernel
theorem dX11_contentAll_3 : decode cX11_contentAll 3 = .ok (.istore_n 2, 1) := by decide +kernel
theorem dX11_contentAll_4 : decode cX11_contentAll 4 = .ok (.iload_n 2, 1) := by decide +kernel
theorem dX11_contentAll_5 : decode cX11_contentAll 5 = .ok (.aload_n 0, 1) := by decide +kernel
theorem dX11_contentAll_6 : decode cX11_contentAll 6 = .ok (.getfield 203, 3) := by decide +kernel
theorem dX11_contentAll_9 : decode cX11_contentAll 9 = .ok (.if_icmp .ge 17, 3) := by decide +kernel
theorem dX11_contentAll_12 : decode cX11_contentAll 12 = .ok (.iload_n 1, 1) := by decide +kernel
theorem dX11_contentAll_13 : decode cX11_contentAll 13 = .ok (.aload_n 0, 1) := by decide +kernel
theorem dX11_contentAll_14 : decode cX11_contentAll 14 = .ok (.iload_n 2, 1) := by decide +kernel
theorem dX11_contentAll_15 : decode cX11_contentAll 15 = .ok (.invokevirtual 266, 3) := by decide +kernel
theorem dX11_contentAll_18 : decode cX11_contentAll 18 = .ok (.iadd, 1) := by decide +kernel
theorem dX11_contentAll_19 : decode cX11_contentAll 19 = .ok (.istore_n 1, 1) := by decide +kernel
theorem dX11_contentAll_20 : decode cX11_contentAll 20 = .ok (.iinc 2 1, 3) := by decide +kernel
theorem dX11_contentAll_23 : decode cX11_contentAll 23 = .ok (.goto (-19), 3) := by decide +kernel
theorem dX11_contentAll_26 : decode cX11_contentAll 26 = .ok (.iload_n 1, 1) := by decide +kernel
theorem dX11_contentAll_27 : decode cX11_contentAll 27 = .ok (.ireturn, 1) := by decide +kernel
theorem dX11_reading_0 : decode cX11_reading 0 = .ok (.aload_n 0, 1) := by decide +kernel
theorem dX11_reading_1 : decode cX11_reading 1 = .ok (.iload_n 1, 1) := by decide +kernel
theorem dX11_reading_2 : decode cX11_reading 2 = .ok (.invokevirtual 209, 3) := by decide +kernel
theorem dX11_reading_5 : decode cX11_reading 5 = .ok (.ifCond .eq 11, 3) := by decide +kernel
theorem dX11_reading_8 : decode cX11_reading 8 = .ok (.aload_n 0, 1) := by decide +kernel
theorem dX11_reading_9 : decode cX11_reading 9 = .ok (.iload_n 2, 1) := by decide +kernel
theorem dX11_reading_10 : decode cX11_reading 10 = .ok (.invokevirtual 218, 3) := by decide +kernel
theorem dX11_reading_13 : decode cX11_reading 13 = .ok (.ifCond .ne 6, 3) := by decide +kernel
theorem dX11_reading_16 : decode cX11_reading 16 = .ok (.bipush (-2), 2) := by decide +kernel
theorem dX11_reading_18 : decode cX11_reading 18 = .ok (.ireturn, 1) := by decide +kernel
theorem dX11_reading_19 : decode cX11_reading 19 = .ok (.aload_n 0, 1) := by decide +kernel
theorem dX11_reading_20 : decode cX11_reading 20 = .ok (.iload_n 2, 1) := by decide +kernel
theorem dX11_reading_21 : decode cX11_reading 21 = .ok (.invokevirtual 269, 3) := by decide +kernel
theorem dX11_reading_24 : decode cX11_reading 24 = .ok (.istore 4, 2) := by decide +kernel
theorem dX11_reading_26 : decode cX11_reading 26 = .ok (.iload_n 3, 1) := by decide +kernel
theorem dX11_reading_27 : decode cX11_reading 27 = .ok (.ifCond .ne 6, 3) := by decide +kernel
theorem dX11_reading_30 : decode cX11_reading 30 = .ok (.iload 4, 2) := by decide +kernel
theorem dX11_reading_32 : decode cX11_reading 32 = .ok (.ireturn, 1) := by decide +kernel
theorem dX11_reading_33 : decode cX11_reading 33 = .ok (.iload_n 3, 1) := by decide +kernel
theorem dX11_reading_34 : decode cX11_reading 34 = .ok (.iconst 1, 1) := by decide +kernel
theorem dX11_reading_35 : decode cX11_reading 35 = .ok (.if_icmp .ne 8, 3) := by decide +kernel
theorem dX11_reading_38 : decode cX11_reading 38 = .ok (.aload_n 0, 1) := by decide +kernel
theorem dX11_reading_39 : decode cX11_reading 39 = .ok (.invokevirtual 272, 3) := by decide +kernel
theorem dX11_reading_42 : decode cX11_reading 42 = .ok (.ireturn, 1) := by decide +kernel
theorem dX11_reading_43 : decode cX11_reading 43 = .ok (.iload_n 3, 1) := by decide +kernel
theorem dX11_reading_44 : decode cX11_reading 44 = .ok (.bipush 10, 2) := by decide +kernel
theorem dX11_reading_46 : decode cX11_reading 46 = .ok (.bipush 17, 2) := by decide +kernel
theorem dX11_reading_48 : decode cX11_reading 48 = .ok (.invokestatic 132, 3) := by decide +kernel
theorem dX11_reading_51 : decode cX11_reading 51 = .ok (.ifCond .eq 26, 3) := by decide +kernel
theorem dX11_reading_54 : decode cX11_reading 54 = .ok (.aload_n 0, 1) := by decide +kernel
theorem dX11_reading_55 : decode cX11_reading 55 = .ok (.iload_n 3, 1) := by decide +kernel
theorem dX11_reading_56 : decode cX11_reading 56 = .ok (.bipush 10, 2) := by decide +kernel
theorem dX11_reading_58 : decode cX11_reading 58 = .ok (.isub, 1) := by decide +kernel
theorem dX11_reading_59 : decode cX11_reading 59 = .ok (.invokevirtual 212, 3) := by decide +kernel
theorem dX11_reading_62 : decode cX11_reading 62 = .ok (.ifCond .eq 15, 3) := by decide +kernel
theorem dX11_reading_65 : decode cX11_reading 65 = .ok (.aload_n 0, 1) := by decide +kernel
theorem dX11_reading_66 : decode cX11_reading 66 = .ok (.getfield 26, 3) := by decide +kernel
theorem dX11_reading_69 : decode cX11_reading 69 = .ok (.iload_n 3, 1) := by decide +kernel
theorem dX11_reading_70 : decode cX11_reading 70 = .ok (.bipush 10, 2) := by decide +kernel
theorem dX11_reading_72 : decode cX11_reading 72 = .ok (.isub, 1) := by decide +kernel
theorem dX11_reading_73 : decode cX11_reading 73 = .ok (.iaload, 1) := by decide +kernel
theorem dX11_reading_74 : decode cX11_reading 74 = .ok (.goto 5, 3) := by decide +kernel
theorem dX11_reading_77 : decode cX11_reading 77 = .ok (.bipush (-2), 2) := by decide +kernel
theorem dX11_reading_79 : decode cX11_reading 79 = .ok (.ireturn, 1) := by decide +kernel
theorem dX11_round_0 : decode cX11_round 0 = .ok (.iconst 0, 1) := by decide +kernel
theorem dX11_round_1 : decode cX11_round 1 = .ok (.istore_n 1, 1) := by decide +kernel
theorem dX11_round_2 : decode cX11_round 2 = .ok (.iconst 0, 1) := by decide +kernel
theorem dX11_round_3 : decode cX11_round 3 = .ok (.istore_n 2, 1) := by decide +kernel
theorem dX11_round_4 : decode cX11_round 4 = .ok (.iload_n 2, 1) := by decide +kernel
theorem dX11_round_5 : decode cX11_round 5 = .ok (.aload_n 0, 1) := by decide +kernel
theorem dX11_round_6 : decode cX11_round 6 = .ok (.getfield 203, 3) := by decide +kernel
theorem dX11_round_9 : decode cX11_round 9 = .ok (.if_icmp .ge 17, 3) := by decide +kernel
theorem dX11_round_12 : decode cX11_round 12 = .ok (.iload_n 1, 1) := by decide +kernel
theorem dX11_round_13 : decode cX11_round 13 = .ok (.aload_n 0, 1) := by decide +kernel
theorem dX11_round_14 : decode cX11_round 14 = .ok (.iload_n 2, 1) := by decide +kernel
theorem dX11_round_15 : decode cX11_round 15 = .ok (.invokevirtual 269, 3) := by decide +kernel
theorem dX11_round_18 : decode cX11_round 18 = .ok (.iadd, 1) := by decide +kernel
theorem dX11_round_19 : decode cX11_round 19 = .ok (.istore_n 1, 1) := by decide +kernel
theorem dX11_round_20 : decode cX11_round 20 = .ok (.iinc 2 1, 3) := by decide +kernel
theorem dX11_round_23 : decode cX11_round 23 = .ok (.goto (-19), 3) := by decide +kernel
theorem dX11_round_26 : decode cX11_round 26 = .ok (.iload_n 1, 1) := by decide +kernel
theorem dX11_round_27 : decode cX11_round 27 = .ok (.ireturn, 1) := by decide +kernel
theorem dX11_isAsAt_0 : decode cX11_isAsAt 0 = .ok (.iconst 1, 1) := by decide +kernel
theorem dX11_isAsAt_1 : decode cX11_isAsAt 1 = .ok (.istore_n 3, 1) := by decide +kernel
theorem dX11_isAsAt_2 : decode cX11_isAsAt 2 = .ok (.iconst 0, 1) := by decide +kernel
theorem dX11_isAsAt_3 : decode cX11_isAsAt 3 = .ok (.istore 4, 2) := by decide +kernel
theorem dX11_isAsAt_5 : decode cX11_isAsAt 5 = .ok (.iload 4, 2) := by decide +kernel
theorem dX11_isAsAt_7 : decode cX11_isAsAt 7 = .ok (.aload_n 0, 1) := by decide +kernel
theorem dX11_isAsAt_8 : decode cX11_isAsAt 8 = .ok (.getfield 200, 3) := by decide +kernel
theorem dX11_isAsAt_11 : decode cX11_isAsAt 11 = .ok (.if_icmp .ge 38, 3) := by decide +kernel
theorem dX11_isAsAt_14 : decode cX11_isAsAt 14 = .ok (.iload_n 3, 1) := by decide +kernel
theorem dX11_isAsAt_15 : decode cX11_isAsAt 15 = .ok (.ifCond .eq 26, 3) := by decide +kernel
theorem dX11_isAsAt_18 : decode cX11_isAsAt 18 = .ok (.aload_n 2, 1) := by decide +kernel
theorem dX11_isAsAt_19 : decode cX11_isAsAt 19 = .ok (.bipush 8, 2) := by decide +kernel
theorem dX11_isAsAt_21 : decode cX11_isAsAt 21 = .ok (.iload_n 1, 1) := by decide +kernel
theorem dX11_isAsAt_22 : decode cX11_isAsAt 22 = .ok (.imul, 1) := by decide +kernel
theorem dX11_isAsAt_23 : decode cX11_isAsAt 23 = .ok (.iload 4, 2) := by decide +kernel
theorem dX11_isAsAt_25 : decode cX11_isAsAt 25 = .ok (.iadd, 1) := by decide +kernel
theorem dX11_isAsAt_26 : decode cX11_isAsAt 26 = .ok (.iaload, 1) := by decide +kernel
theorem dX11_isAsAt_27 : decode cX11_isAsAt 27 = .ok (.aload_n 0, 1) := by decide +kernel
theorem dX11_isAsAt_28 : decode cX11_isAsAt 28 = .ok (.getfield 26, 3) := by decide +kernel
theorem dX11_isAsAt_31 : decode cX11_isAsAt 31 = .ok (.iload 4, 2) := by decide +kernel
theorem dX11_isAsAt_33 : decode cX11_isAsAt 33 = .ok (.iaload, 1) := by decide +kernel
theorem dX11_isAsAt_34 : decode cX11_isAsAt 34 = .ok (.if_icmp .ne 7, 3) := by decide +kernel
theorem dX11_isAsAt_37 : decode cX11_isAsAt 37 = .ok (.iconst 1, 1) := by decide +kernel
theorem dX11_isAsAt_38 : decode cX11_isAsAt 38 = .ok (.goto 4, 3) := by decide +kernel
theorem dX11_isAsAt_41 : decode cX11_isAsAt 41 = .ok (.iconst 0, 1) := by decide +kernel
theorem dX11_isAsAt_42 : decode cX11_isAsAt 42 = .ok (.istore_n 3, 1) := by decide +kernel
theorem dX11_isAsAt_43 : decode cX11_isAsAt 43 = .ok (.iinc 4 1, 3) := by decide +kernel
theorem dX11_isAsAt_46 : decode cX11_isAsAt 46 = .ok (.goto (-41), 3) := by decide +kernel
theorem dX11_isAsAt_49 : decode cX11_isAsAt 49 = .ok (.iload_n 3, 1) := by decide +kernel
theorem dX11_isAsAt_50 : decode cX11_isAsAt 50 = .ok (.ireturn, 1) := by decide +kernel
theorem dX11_keeps_0 : decode cX11_keeps 0 = .ok (.iconst 0, 1) := by decide +kernel
theorem dX11_keeps_1 : decode cX11_keeps 1 = .ok (.istore_n 3, 1) := by decide +kernel
theorem dX11_keeps_2 : decode cX11_keeps 2 = .ok (.iload_n 3, 1) := by decide +kernel
theorem dX11_keeps_3 : decode cX11_keeps 3 = .ok (.bipush 8, 2) := by decide +kernel
theorem dX11_keeps_5 : decode cX11_keeps 5 = .ok (.if_icmp .ge 23, 3) := by decide +kernel
theorem dX11_keeps_8 : decode cX11_keeps 8 = .ok (.aload_n 2, 1) := by decide +kernel
theorem dX11_keeps_9 : decode cX11_keeps 9 = .ok (.bipush 8, 2) := by decide +kernel
theorem dX11_keeps_11 : decode cX11_keeps 11 = .ok (.iload_n 1, 1) := by decide +kernel
theorem dX11_keeps_12 : decode cX11_keeps 12 = .ok (.imul, 1) := by decide +kernel
theorem dX11_keeps_13 : decode cX11_keeps 13 = .ok (.iload_n 3, 1) := by decide +kernel
theorem dX11_keeps_14 : decode cX11_keeps 14 = .ok (.iadd, 1) := by decide +kernel
theorem dX11_keeps_15 : decode cX11_keeps 15 = .ok (.aload_n 0, 1) := by decide +kernel
theorem dX11_keeps_16 : decode cX11_keeps 16 = .ok (.getfield 26, 3) := by decide +kernel
theorem dX11_keeps_19 : decode cX11_keeps 19 = .ok (.iload_n 3, 1) := by decide +kernel
theorem dX11_keeps_20 : decode cX11_keeps 20 = .ok (.iaload, 1) := by decide +kernel
theorem dX11_keeps_21 : decode cX11_keeps 21 = .ok (.iastore, 1) := by decide +kernel
theorem dX11_keeps_22 : decode cX11_keeps 22 = .ok (.iinc 3 1, 3) := by decide +kernel
theorem dX11_keeps_25 : decode cX11_keeps 25 = .ok (.goto (-23), 3) := by decide +kernel
theorem dX11_keeps_28 : decode cX11_keeps 28 = .ok (.return_, 1) := by decide +kernel
theorem dX11_roundsOf_0 : decode cX11_roundsOf 0 = .ok (.aload_n 0, 1) := by decide +kernel
theorem dX11_roundsOf_1 : decode cX11_roundsOf 1 = .ok (.iconst 0, 1) := by decide +kernel
theorem dX11_roundsOf_2 : decode cX11_roundsOf 2 = .ok (.aload_n 0, 1) := by decide +kernel
theorem dX11_roundsOf_3 : decode cX11_roundsOf 3 = .ok (.getfield 41, 3) := by decide +kernel
theorem dX11_roundsOf_6 : decode cX11_roundsOf 6 = .ok (.invokevirtual 276, 3) := by decide +kernel
theorem dX11_roundsOf_9 : decode cX11_roundsOf 9 = .ok (.iconst 0, 1) := by decide +kernel
theorem dX11_roundsOf_10 : decode cX11_roundsOf 10 = .ok (.istore_n 2, 1) := by decide +kernel
theorem dX11_roundsOf_11 : decode cX11_roundsOf 11 = .ok (.iload_n 2, 1) := by decide +kernel
theorem dX11_roundsOf_12 : decode cX11_roundsOf 12 = .ok (.bipush 60, 2) := by decide +kernel
theorem dX11_roundsOf_14 : decode cX11_roundsOf 14 = .ok (.if_icmp .ge 75, 3) := by decide +kernel
theorem dX11_roundsOf_17 : decode cX11_roundsOf 17 = .ok (.aload_n 0, 1) := by decide +kernel
theorem dX11_roundsOf_18 : decode cX11_roundsOf 18 = .ok (.invokevirtual 280, 3) := by decide +kernel
theorem dX11_roundsOf_21 : decode cX11_roundsOf 21 = .ok (.ifCond .ne 13, 3) := by decide +kernel
theorem dX11_roundsOf_24 : decode cX11_roundsOf 24 = .ok (.iload_n 1, 1) := by decide +kernel
theorem dX11_roundsOf_25 : decode cX11_roundsOf 25 = .ok (.ifCond .eq 7, 3) := by decide +kernel
theorem dX11_roundsOf_28 : decode cX11_roundsOf 28 = .ok (.iconst (-1), 1) := by decide +kernel
theorem dX11_roundsOf_29 : decode cX11_roundsOf 29 = .ok (.goto 4, 3) := by decide +kernel
theorem dX11_roundsOf_32 : decode cX11_roundsOf 32 = .ok (.iload_n 2, 1) := by decide +kernel
theorem dX11_roundsOf_33 : decode cX11_roundsOf 33 = .ok (.ireturn, 1) := by decide +kernel
theorem dX11_roundsOf_34 : decode cX11_roundsOf 34 = .ok (.iload_n 2, 1) := by decide +kernel
theorem dX11_roundsOf_35 : decode cX11_roundsOf 35 = .ok (.istore_n 3, 1) := by decide +kernel
theorem dX11_roundsOf_36 : decode cX11_roundsOf 36 = .ok (.iload_n 3, 1) := by decide +kernel
theorem dX11_roundsOf_37 : decode cX11_roundsOf 37 = .ok (.ifCond .lt 35, 3) := by decide +kernel
theorem dX11_roundsOf_40 : decode cX11_roundsOf 40 = .ok (.aload_n 0, 1) := by decide +kernel
theorem dX11_roundsOf_41 : decode cX11_roundsOf 41 = .ok (.iload_n 3, 1) := by decide +kernel
theorem dX11_roundsOf_42 : decode cX11_roundsOf 42 = .ok (.aload_n 0, 1) := by decide +kernel
theorem dX11_roundsOf_43 : decode cX11_roundsOf 43 = .ok (.getfield 41, 3) := by decide +kernel
theorem dX11_roundsOf_46 : decode cX11_roundsOf 46 = .ok (.invokevirtual 283, 3) := by decide +kernel
theorem dX11_roundsOf_49 : decode cX11_roundsOf 49 = .ok (.ifCond .eq 17, 3) := by decide +kernel
theorem dX11_roundsOf_52 : decode cX11_roundsOf 52 = .ok (.iload_n 1, 1) := by decide +kernel
theorem dX11_roundsOf_53 : decode cX11_roundsOf 53 = .ok (.ifCond .eq 11, 3) := by decide +kernel
theorem dX11_roundsOf_56 : decode cX11_roundsOf 56 = .ok (.iload_n 2, 1) := by decide +kernel
theorem dX11_roundsOf_57 : decode cX11_roundsOf 57 = .ok (.iconst 1, 1) := by decide +kernel
theorem dX11_roundsOf_58 : decode cX11_roundsOf 58 = .ok (.iadd, 1) := by decide +kernel
theorem dX11_roundsOf_59 : decode cX11_roundsOf 59 = .ok (.iload_n 3, 1) := by decide +kernel
theorem dX11_roundsOf_60 : decode cX11_roundsOf 60 = .ok (.isub, 1) := by decide +kernel
theorem dX11_roundsOf_61 : decode cX11_roundsOf 61 = .ok (.goto 4, 3) := by decide +kernel
theorem dX11_roundsOf_64 : decode cX11_roundsOf 64 = .ok (.iconst (-1), 1) := by decide +kernel
theorem dX11_roundsOf_65 : decode cX11_roundsOf 65 = .ok (.ireturn, 1) := by decide +kernel
theorem dX11_roundsOf_66 : decode cX11_roundsOf 66 = .ok (.iinc 3 (-1), 3) := by decide +kernel
theorem dX11_roundsOf_69 : decode cX11_roundsOf 69 = .ok (.goto (-33), 3) := by decide +kernel
theorem dX11_roundsOf_72 : decode cX11_roundsOf 72 = .ok (.aload_n 0, 1) := by decide +kernel
theorem dX11_roundsOf_73 : decode cX11_roundsOf 73 = .ok (.iload_n 2, 1) := by decide +kernel
theorem dX11_roundsOf_74 : decode cX11_roundsOf 74 = .ok (.iconst 1, 1) := by decide +kernel
theorem dX11_roundsOf_75 : decode cX11_roundsOf 75 = .ok (.iadd, 1) := by decide +kernel
theorem dX11_roundsOf_76 : decode cX11_roundsOf 76 = .ok (.aload_n 0, 1) := by decide +kernel
theorem dX11_roundsOf_77 : decode cX11_roundsOf 77 = .ok (.getfield 41, 3) := by decide +kernel
theorem dX11_roundsOf_80 : decode cX11_roundsOf 80 = .ok (.invokevirtual 276, 3) := by decide +kernel
theorem dX11_roundsOf_83 : decode cX11_roundsOf 83 = .ok (.iinc 2 1, 3) := by decide +kernel
theorem dX11_roundsOf_86 : decode cX11_roundsOf 86 = .ok (.goto (-75), 3) := by decide +kernel
theorem dX11_roundsOf_89 : decode cX11_roundsOf 89 = .ok (.iconst (-1), 1) := by decide +kernel
theorem dX11_roundsOf_90 : decode cX11_roundsOf 90 = .ok (.ireturn, 1) := by decide +kernel
theorem dX11_rounds_0 : decode cX11_rounds 0 = .ok (.aload_n 0, 1) := by decide +kernel
theorem dX11_rounds_1 : decode cX11_rounds 1 = .ok (.iload_n 1, 1) := by decide +kernel
theorem dX11_rounds_2 : decode cX11_rounds 2 = .ok (.invokevirtual 209, 3) := by decide +kernel
theorem dX11_rounds_5 : decode cX11_rounds 5 = .ok (.ifCond .ne 6, 3) := by decide +kernel
theorem dX11_rounds_8 : decode cX11_rounds 8 = .ok (.bipush (-2), 2) := by decide +kernel
theorem dX11_rounds_10 : decode cX11_rounds 10 = .ok (.ireturn, 1) := by decide +kernel
theorem dX11_rounds_11 : decode cX11_rounds 11 = .ok (.iload_n 2, 1) := by decide +kernel
theorem dX11_rounds_12 : decode cX11_rounds 12 = .ok (.ifCond .eq 8, 3) := by decide +kernel
theorem dX11_rounds_15 : decode cX11_rounds 15 = .ok (.iload_n 2, 1) := by decide +kernel
theorem dX11_rounds_16 : decode cX11_rounds 16 = .ok (.iconst 1, 1) := by decide +kernel
theorem dX11_rounds_17 : decode cX11_rounds 17 = .ok (.if_icmp .ne 18, 3) := by decide +kernel
theorem dX11_rounds_20 : decode cX11_rounds 20 = .ok (.aload_n 0, 1) := by decide +kernel
theorem dX11_rounds_21 : decode cX11_rounds 21 = .ok (.iload_n 2, 1) := by decide +kernel
theorem dX11_rounds_22 : decode cX11_rounds 22 = .ok (.iconst 1, 1) := by decide +kernel
theorem dX11_rounds_23 : decode cX11_rounds 23 = .ok (.if_icmp .ne 7, 3) := by decide +kernel
theorem dX11_rounds_26 : decode cX11_rounds 26 = .ok (.iconst 1, 1) := by decide +kernel
theorem dX11_rounds_27 : decode cX11_rounds 27 = .ok (.goto 4, 3) := by decide +kernel
theorem dX11_rounds_30 : decode cX11_rounds 30 = .ok (.iconst 0, 1) := by decide +kernel
theorem dX11_rounds_31 : decode cX11_rounds 31 = .ok (.invokevirtual 287, 3) := by decide +kernel
theorem dX11_rounds_34 : decode cX11_rounds 34 = .ok (.ireturn, 1) := by decide +kernel
theorem dX11_rounds_35 : decode cX11_rounds 35 = .ok (.iload_n 2, 1) := by decide +kernel
theorem dX11_rounds_36 : decode cX11_rounds 36 = .ok (.bipush 10, 2) := by decide +kernel
theorem dX11_rounds_38 : decode cX11_rounds 38 = .ok (.bipush 17, 2) := by decide +kernel
theorem dX11_rounds_40 : decode cX11_rounds 40 = .ok (.invokestatic 132, 3) := by decide +kernel
theorem dX11_rounds_43 : decode cX11_rounds 43 = .ok (.ifCond .eq 14, 3) := by decide +kernel
theorem dX11_rounds_46 : decode cX11_rounds 46 = .ok (.aload_n 0, 1) := by decide +kernel
theorem dX11_rounds_47 : decode cX11_rounds 47 = .ok (.iload_n 2, 1) := by decide +kernel
theorem dX11_rounds_48 : decode cX11_rounds 48 = .ok (.bipush 10, 2) := by decide +kernel
theorem dX11_rounds_50 : decode cX11_rounds 50 = .ok (.isub, 1) := by decide +kernel
theorem dX11_rounds_51 : decode cX11_rounds 51 = .ok (.invokevirtual 212, 3) := by decide +kernel
theorem dX11_rounds_54 : decode cX11_rounds 54 = .ok (.ifCond .ne 6, 3) := by decide +kernel
theorem dX11_rounds_57 : decode cX11_rounds 57 = .ok (.bipush (-2), 2) := by decide +kernel
theorem dX11_rounds_59 : decode cX11_rounds 59 = .ok (.ireturn, 1) := by decide +kernel
theorem dX11_rounds_60 : decode cX11_rounds 60 = .ok (.aload_n 0, 1) := by decide +kernel
theorem dX11_rounds_61 : decode cX11_rounds 61 = .ok (.iconst 1, 1) := by decide +kernel
theorem dX11_rounds_62 : decode cX11_rounds 62 = .ok (.invokevirtual 287, 3) := by decide +kernel
theorem dX11_rounds_65 : decode cX11_rounds 65 = .ok (.pop, 1) := by decide +kernel
theorem dX11_rounds_66 : decode cX11_rounds 66 = .ok (.aload_n 0, 1) := by decide +kernel
theorem dX11_rounds_67 : decode cX11_rounds 67 = .ok (.getfield 26, 3) := by decide +kernel
theorem dX11_rounds_70 : decode cX11_rounds 70 = .ok (.iload_n 2, 1) := by decide +kernel
theorem dX11_rounds_71 : decode cX11_rounds 71 = .ok (.bipush 10, 2) := by decide +kernel
theorem dX11_rounds_73 : decode cX11_rounds 73 = .ok (.isub, 1) := by decide +kernel
theorem dX11_rounds_74 : decode cX11_rounds 74 = .ok (.iaload, 1) := by decide +kernel
theorem dX11_rounds_75 : decode cX11_rounds 75 = .ok (.ireturn, 1) := by decide +kernel
theorem dX11_firstRow_0 : decode cX11_firstRow 0 = .ok (.iconst 0, 1) := by decide +kernel
theorem dX11_firstRow_1 : decode cX11_firstRow 1 = .ok (.istore_n 1, 1) := by decide +kernel
theorem dX11_firstRow_2 : decode cX11_firstRow 2 = .ok (.iload_n 1, 1) := by decide +kernel
theorem dX11_firstRow_3 : decode cX11_firstRow 3 = .ok (.bipush 6, 2) := by decide +kernel
theorem dX11_firstRow_5 : decode cX11_firstRow 5 = .ok (.if_icmp .ge 16, 3) := by decide +kernel
theorem dX11_firstRow_8 : decode cX11_firstRow 8 = .ok (.aload_n 0, 1) := by decide +kernel
theorem dX11_firstRow_9 : decode cX11_firstRow 9 = .ok (.getfield 44, 3) := by decide +kernel
theorem dX11_firstRow_12 : decode cX11_firstRow 12 = .ok (.iload_n 1, 1) := by decide +kernel
theorem dX11_firstRow_13 : decode cX11_firstRow 13 = .ok (.iload_n 1, 1) := by decide +kernel
theorem dX11_firstRow_14 : decode cX11_firstRow 14 = .ok (.iastore, 1) := by decide +kernel
theorem dX11_firstRow_15 : decode cX11_firstRow 15 = .ok (.iinc 1 1, 3) := by decide +kernel
theorem dX11_firstRow_18 : decode cX11_firstRow 18 = .ok (.goto (-16), 3) := by decide +kernel
theorem dX11_firstRow_21 : decode cX11_firstRow 21 = .ok (.return_, 1) := by decide +kernel
theorem dX11_nextRow_0 : decode cX11_nextRow 0 = .ok (.aload_n 0, 1) := by decide +kernel
theorem dX11_nextRow_1 : decode cX11_nextRow 1 = .ok (.getfield 203, 3) := by decide +kernel
theorem dX11_nextRow_4 : decode cX11_nextRow 4 = .ok (.iconst 2, 1) := by decide +kernel
theorem dX11_nextRow_5 : decode cX11_nextRow 5 = .ok (.isub, 1) := by decide +kernel
theorem dX11_nextRow_6 : decode cX11_nextRow 6 = .ok (.istore_n 1, 1) := by decide +kernel
theorem dX11_nextRow_7 : decode cX11_nextRow 7 = .ok (.iload_n 1, 1) := by decide +kernel
theorem dX11_nextRow_8 : decode cX11_nextRow 8 = .ok (.ifCond .lt 26, 3) := by decide +kernel
theorem dX11_nextRow_11 : decode cX11_nextRow 11 = .ok (.aload_n 0, 1) := by decide +kernel
theorem dX11_nextRow_12 : decode cX11_nextRow 12 = .ok (.getfield 44, 3) := by decide +kernel
theorem dX11_nextRow_15 : decode cX11_nextRow 15 = .ok (.iload_n 1, 1) := by decide +kernel
theorem dX11_nextRow_16 : decode cX11_nextRow 16 = .ok (.iaload, 1) := by decide +kernel
theorem dX11_nextRow_17 : decode cX11_nextRow 17 = .ok (.aload_n 0, 1) := by decide +kernel
theorem dX11_nextRow_18 : decode cX11_nextRow 18 = .ok (.getfield 44, 3) := by decide +kernel
theorem dX11_nextRow_21 : decode cX11_nextRow 21 = .ok (.iload_n 1, 1) := by decide +kernel
theorem dX11_nextRow_22 : decode cX11_nextRow 22 = .ok (.iconst 1, 1) := by decide +kernel
theorem dX11_nextRow_23 : decode cX11_nextRow 23 = .ok (.iadd, 1) := by decide +kernel
theorem dX11_nextRow_24 : decode cX11_nextRow 24 = .ok (.iaload, 1) := by decide +kernel
theorem dX11_nextRow_25 : decode cX11_nextRow 25 = .ok (.if_icmp .le 9, 3) := by decide +kernel
theorem dX11_nextRow_28 : decode cX11_nextRow 28 = .ok (.iinc 1 (-1), 3) := by decide +kernel
theorem dX11_nextRow_31 : decode cX11_nextRow 31 = .ok (.goto (-24), 3) := by decide +kernel
theorem dX11_nextRow_34 : decode cX11_nextRow 34 = .ok (.iload_n 1, 1) := by decide +kernel
theorem dX11_nextRow_35 : decode cX11_nextRow 35 = .ok (.ifCond .ge 5, 3) := by decide +kernel
theorem dX11_nextRow_38 : decode cX11_nextRow 38 = .ok (.iconst 0, 1) := by decide +kernel
theorem dX11_nextRow_39 : decode cX11_nextRow 39 = .ok (.ireturn, 1) := by decide +kernel
theorem dX11_nextRow_40 : decode cX11_nextRow 40 = .ok (.aload_n 0, 1) := by decide +kernel
theorem dX11_nextRow_41 : decode cX11_nextRow 41 = .ok (.getfield 203, 3) := by decide +kernel
theorem dX11_nextRow_44 : decode cX11_nextRow 44 = .ok (.iconst 1, 1) := by decide +kernel
theorem dX11_nextRow_45 : decode cX11_nextRow 45 = .ok (.isub, 1) := by decide +kernel
theorem dX11_nextRow_46 : decode cX11_nextRow 46 = .ok (.istore_n 2, 1) := by decide +kernel
theorem dX11_nextRow_47 : decode cX11_nextRow 47 = .ok (.aload_n 0, 1) := by decide +kernel
theorem dX11_nextRow_48 : decode cX11_nextRow 48 = .ok (.getfield 44, 3) := by decide +kernel
theorem dX11_nextRow_51 : decode cX11_nextRow 51 = .ok (.iload_n 2, 1) := by decide +kernel
theorem dX11_nextRow_52 : decode cX11_nextRow 52 = .ok (.iaload, 1) := by decide +kernel
theorem dX11_nextRow_53 : decode cX11_nextRow 53 = .ok (.aload_n 0, 1) := by decide +kernel
theorem dX11_nextRow_54 : decode cX11_nextRow 54 = .ok (.getfield 44, 3) := by decide +kernel
theorem dX11_nextRow_57 : decode cX11_nextRow 57 = .ok (.iload_n 1, 1) := by decide +kernel
theorem dX11_nextRow_58 : decode cX11_nextRow 58 = .ok (.iaload, 1) := by decide +kernel
theorem dX11_nextRow_59 : decode cX11_nextRow 59 = .ok (.if_icmp .ge 9, 3) := by decide +kernel
theorem dX11_nextRow_62 : decode cX11_nextRow 62 = .ok (.iinc 2 (-1), 3) := by decide +kernel
theorem dX11_nextRow_65 : decode cX11_nextRow 65 = .ok (.goto (-18), 3) := by decide +kernel
theorem dX11_nextRow_68 : decode cX11_nextRow 68 = .ok (.aload_n 0, 1) := by decide +kernel
theorem dX11_nextRow_69 : decode cX11_nextRow 69 = .ok (.iload_n 1, 1) := by decide +kernel
theorem dX11_nextRow_70 : decode cX11_nextRow 70 = .ok (.iload_n 2, 1) := by decide +kernel
theorem dX11_nextRow_71 : decode cX11_nextRow 71 = .ok (.invokevirtual 291, 3) := by decide +kernel
theorem dX11_nextRow_74 : decode cX11_nextRow 74 = .ok (.iload_n 1, 1) := by decide +kernel
theorem dX11_nextRow_75 : decode cX11_nextRow 75 = .ok (.iconst 1, 1) := by decide +kernel
theorem dX11_nextRow_76 : decode cX11_nextRow 76 = .ok (.iadd, 1) := by decide +kernel
theorem dX11_nextRow_77 : decode cX11_nextRow 77 = .ok (.istore_n 3, 1) := by decide +kernel
theorem dX11_nextRow_78 : decode cX11_nextRow 78 = .ok (.aload_n 0, 1) := by decide +kernel
theorem dX11_nextRow_79 : decode cX11_nextRow 79 = .ok (.getfield 203, 3) := by decide +kernel
theorem dX11_nextRow_82 : decode cX11_nextRow 82 = .ok (.iconst 1, 1) := by decide +kernel
theorem dX11_nextRow_83 : decode cX11_nextRow 83 = .ok (.isub, 1) := by decide +kernel
theorem dX11_nextRow_84 : decode cX11_nextRow 84 = .ok (.istore 4, 2) := by decide +kernel
theorem dX11_nextRow_86 : decode cX11_nextRow 86 = .ok (.iload_n 3, 1) := by decide +kernel
theorem dX11_nextRow_87 : decode cX11_nextRow 87 = .ok (.iload 4, 2) := by decide +kernel
theorem dX11_nextRow_89 : decode cX11_nextRow 89 = .ok (.if_icmp .ge 19, 3) := by decide +kernel
theorem dX11_nextRow_92 : decode cX11_nextRow 92 = .ok (.aload_n 0, 1) := by decide +kernel
theorem dX11_nextRow_93 : decode cX11_nextRow 93 = .ok (.iload_n 3, 1) := by decide +kernel
theorem dX11_nextRow_94 : decode cX11_nextRow 94 = .ok (.iload 4, 2) := by decide +kernel
theorem dX11_nextRow_96 : decode cX11_nextRow 96 = .ok (.invokevirtual 291, 3) := by decide +kernel
theorem dX11_nextRow_99 : decode cX11_nextRow 99 = .ok (.iinc 3 1, 3) := by decide +kernel
theorem dX11_nextRow_102 : decode cX11_nextRow 102 = .ok (.iinc 4 (-1), 3) := by decide +kernel
theorem dX11_nextRow_105 : decode cX11_nextRow 105 = .ok (.goto (-19), 3) := by decide +kernel
theorem dX11_nextRow_108 : decode cX11_nextRow 108 = .ok (.iconst 1, 1) := by decide +kernel
theorem dX11_nextRow_109 : decode cX11_nextRow 109 = .ok (.ireturn, 1) := by decide +kernel
theorem dX11_changesPlaces_0 : decode cX11_changesPlaces 0 = .ok (.aload_n 0, 1) := by decide +kernel
theorem dX11_changesPlaces_1 : decode cX11_changesPlaces 1 = .ok (.getfield 44, 3) := by decide +kernel
theorem dX11_changesPlaces_4 : decode cX11_changesPlaces 4 = .ok (.iload_n 1, 1) := by decide +kernel
theorem dX11_changesPlaces_5 : decode cX11_changesPlaces 5 = .ok (.iaload, 1) := by decide +kernel
theorem dX11_changesPlaces_6 : decode cX11_changesPlaces 6 = .ok (.istore_n 3, 1) := by decide +kernel
theorem dX11_changesPlaces_7 : decode cX11_changesPlaces 7 = .ok (.aload_n 0, 1) := by decide +kernel
theorem dX11_changesPlaces_8 : decode cX11_changesPlaces 8 = .ok (.getfield 44, 3) := by decide +kernel
theorem dX11_changesPlaces_11 : decode cX11_changesPlaces 11 = .ok (.iload_n 1, 1) := by decide +kernel
theorem dX11_changesPlaces_12 : decode cX11_changesPlaces 12 = .ok (.aload_n 0, 1) := by decide +kernel
theorem dX11_changesPlaces_13 : decode cX11_changesPlaces 13 = .ok (.getfield 44, 3) := by decide +kernel
theorem dX11_changesPlaces_16 : decode cX11_changesPlaces 16 = .ok (.iload_n 2, 1) := by decide +kernel
theorem dX11_changesPlaces_17 : decode cX11_changesPlaces 17 = .ok (.iaload, 1) := by decide +kernel
theorem dX11_changesPlaces_18 : decode cX11_changesPlaces 18 = .ok (.iastore, 1) := by decide +kernel
theorem dX11_changesPlaces_19 : decode cX11_changesPlaces 19 = .ok (.aload_n 0, 1) := by decide +kernel
theorem dX11_changesPlaces_20 : decode cX11_changesPlaces 20 = .ok (.getfield 44, 3) := by decide +kernel
theorem dX11_changesPlaces_23 : decode cX11_changesPlaces 23 = .ok (.iload_n 2, 1) := by decide +kernel
theorem dX11_changesPlaces_24 : decode cX11_changesPlaces 24 = .ok (.iload_n 3, 1) := by decide +kernel
theorem dX11_changesPlaces_25 : decode cX11_changesPlaces 25 = .ok (.iastore, 1) := by decide +kernel
theorem dX11_changesPlaces_26 : decode cX11_changesPlaces 26 = .ok (.return_, 1) := by decide +kernel
theorem dX11_readsRow_0 : decode cX11_readsRow 0 = .ok (.aload_n 0, 1) := by decide +kernel
theorem dX11_readsRow_1 : decode cX11_readsRow 1 = .ok (.invokevirtual 245, 3) := by decide +kernel
theorem dX11_readsRow_4 : decode cX11_readsRow 4 = .ok (.iconst 0, 1) := by decide +kernel
theorem dX11_readsRow_5 : decode cX11_readsRow 5 = .ok (.istore_n 1, 1) := by decide +kernel
theorem dX11_readsRow_6 : decode cX11_readsRow 6 = .ok (.iload_n 1, 1) := by decide +kernel
theorem dX11_readsRow_7 : decode cX11_readsRow 7 = .ok (.aload_n 0, 1) := by decide +kernel
theorem dX11_readsRow_8 : decode cX11_readsRow 8 = .ok (.getfield 203, 3) := by decide +kernel
theorem dX11_readsRow_11 : decode cX11_readsRow 11 = .ok (.if_icmp .ge 20, 3) := by decide +kernel
theorem dX11_readsRow_14 : decode cX11_readsRow 14 = .ok (.aload_n 0, 1) := by decide +kernel
theorem dX11_readsRow_15 : decode cX11_readsRow 15 = .ok (.aload_n 0, 1) := by decide +kernel
theorem dX11_readsRow_16 : decode cX11_readsRow 16 = .ok (.getfield 44, 3) := by decide +kernel
theorem dX11_readsRow_19 : decode cX11_readsRow 19 = .ok (.iload_n 1, 1) := by decide +kernel
theorem dX11_readsRow_20 : decode cX11_readsRow 20 = .ok (.iaload, 1) := by decide +kernel
theorem dX11_readsRow_21 : decode cX11_readsRow 21 = .ok (.invokevirtual 269, 3) := by decide +kernel
theorem dX11_readsRow_24 : decode cX11_readsRow 24 = .ok (.pop, 1) := by decide +kernel
theorem dX11_readsRow_25 : decode cX11_readsRow 25 = .ok (.iinc 1 1, 3) := by decide +kernel
theorem dX11_readsRow_28 : decode cX11_readsRow 28 = .ok (.goto (-22), 3) := by decide +kernel
theorem dX11_readsRow_31 : decode cX11_readsRow 31 = .ok (.aload_n 0, 1) := by decide +kernel
theorem dX11_readsRow_32 : decode cX11_readsRow 32 = .ok (.invokevirtual 272, 3) := by decide +kernel
theorem dX11_readsRow_35 : decode cX11_readsRow 35 = .ok (.ireturn, 1) := by decide +kernel
theorem dX11_order_0 : decode cX11_order 0 = .ok (.aload_n 0, 1) := by decide +kernel
theorem dX11_order_1 : decode cX11_order 1 = .ok (.iload_n 1, 1) := by decide +kernel
theorem dX11_order_2 : decode cX11_order 2 = .ok (.invokevirtual 209, 3) := by decide +kernel
theorem dX11_order_5 : decode cX11_order 5 = .ok (.ifCond .eq 16, 3) := by decide +kernel
theorem dX11_order_8 : decode cX11_order 8 = .ok (.iload_n 2, 1) := by decide +kernel
theorem dX11_order_9 : decode cX11_order 9 = .ok (.iconst (-1), 1) := by decide +kernel
theorem dX11_order_10 : decode cX11_order 10 = .ok (.if_icmp .eq 13, 3) := by decide +kernel
theorem dX11_order_13 : decode cX11_order 13 = .ok (.aload_n 0, 1) := by decide +kernel
theorem dX11_order_14 : decode cX11_order 14 = .ok (.iload_n 2, 1) := by decide +kernel
theorem dX11_order_15 : decode cX11_order 15 = .ok (.invokevirtual 218, 3) := by decide +kernel
theorem dX11_order_18 : decode cX11_order 18 = .ok (.ifCond .ne 5, 3) := by decide +kernel
theorem dX11_order_21 : decode cX11_order 21 = .ok (.iconst (-1), 1) := by decide +kernel
theorem dX11_order_22 : decode cX11_order 22 = .ok (.ireturn, 1) := by decide +kernel
theorem dX11_order_23 : decode cX11_order 23 = .ok (.iconst (-1), 1) := by decide +kernel
theorem dX11_order_24 : decode cX11_order 24 = .ok (.istore_n 3, 1) := by decide +kernel
theorem dX11_order_25 : decode cX11_order 25 = .ok (.aload_n 0, 1) := by decide +kernel
theorem dX11_order_26 : decode cX11_order 26 = .ok (.invokevirtual 294, 3) := by decide +kernel
theorem dX11_order_29 : decode cX11_order 29 = .ok (.iconst 1, 1) := by decide +kernel
theorem dX11_order_30 : decode cX11_order 30 = .ok (.istore 4, 2) := by decide +kernel
theorem dX11_order_32 : decode cX11_order 32 = .ok (.iload 4, 2) := by decide +kernel
theorem dX11_order_34 : decode cX11_order 34 = .ok (.ifCond .eq 57, 3) := by decide +kernel
theorem dX11_order_37 : decode cX11_order 37 = .ok (.aload_n 0, 1) := by decide +kernel
theorem dX11_order_38 : decode cX11_order 38 = .ok (.invokevirtual 297, 3) := by decide +kernel
theorem dX11_order_41 : decode cX11_order 41 = .ok (.istore 5, 2) := by decide +kernel
theorem dX11_order_43 : decode cX11_order 43 = .ok (.iload 5, 2) := by decide +kernel
theorem dX11_order_45 : decode cX11_order 45 = .ok (.iload_n 3, 1) := by decide +kernel
theorem dX11_order_46 : decode cX11_order 46 = .ok (.if_icmp .le 36, 3) := by decide +kernel
theorem dX11_order_49 : decode cX11_order 49 = .ok (.iload 5, 2) := by decide +kernel
theorem dX11_order_51 : decode cX11_order 51 = .ok (.istore_n 3, 1) := by decide +kernel
theorem dX11_order_52 : decode cX11_order 52 = .ok (.iconst 0, 1) := by decide +kernel
theorem dX11_order_53 : decode cX11_order 53 = .ok (.istore 6, 2) := by decide +kernel
theorem dX11_order_55 : decode cX11_order 55 = .ok (.iload 6, 2) := by decide +kernel
theorem dX11_order_57 : decode cX11_order 57 = .ok (.bipush 6, 2) := by decide +kernel
theorem dX11_order_59 : decode cX11_order 59 = .ok (.if_icmp .ge 23, 3) := by decide +kernel
theorem dX11_order_62 : decode cX11_order 62 = .ok (.aload_n 0, 1) := by decide +kernel
theorem dX11_order_63 : decode cX11_order 63 = .ok (.getfield 47, 3) := by decide +kernel
theorem dX11_order_66 : decode cX11_order 66 = .ok (.iload 6, 2) := by decide +kernel
theorem dX11_order_68 : decode cX11_order 68 = .ok (.aload_n 0, 1) := by decide +kernel
theorem dX11_order_69 : decode cX11_order 69 = .ok (.getfield 44, 3) := by decide +kernel
theorem dX11_order_72 : decode cX11_order 72 = .ok (.iload 6, 2) := by decide +kernel
theorem dX11_order_74 : decode cX11_order 74 = .ok (.iaload, 1) := by decide +kernel
theorem dX11_order_75 : decode cX11_order 75 = .ok (.iastore, 1) := by decide +kernel
theorem dX11_order_76 : decode cX11_order 76 = .ok (.iinc 6 1, 3) := by decide +kernel
theorem dX11_order_79 : decode cX11_order 79 = .ok (.goto (-24), 3) := by decide +kernel
theorem dX11_order_82 : decode cX11_order 82 = .ok (.aload_n 0, 1) := by decide +kernel
theorem dX11_order_83 : decode cX11_order 83 = .ok (.invokevirtual 300, 3) := by decide +kernel
theorem dX11_order_86 : decode cX11_order 86 = .ok (.istore 4, 2) := by decide +kernel
theorem dX11_order_88 : decode cX11_order 88 = .ok (.goto (-56), 3) := by decide +kernel
theorem dX11_order_91 : decode cX11_order 91 = .ok (.iload_n 2, 1) := by decide +kernel
theorem dX11_order_92 : decode cX11_order 92 = .ok (.iconst (-1), 1) := by decide +kernel
theorem dX11_order_93 : decode cX11_order 93 = .ok (.if_icmp .ne 7, 3) := by decide +kernel
theorem dX11_order_96 : decode cX11_order 96 = .ok (.iload_n 3, 1) := by decide +kernel
theorem dX11_order_97 : decode cX11_order 97 = .ok (.goto 9, 3) := by decide +kernel
theorem dX11_order_100 : decode cX11_order 100 = .ok (.aload_n 0, 1) := by decide +kernel
theorem dX11_order_101 : decode cX11_order 101 = .ok (.getfield 47, 3) := by decide +kernel
theorem dX11_order_104 : decode cX11_order 104 = .ok (.iload_n 2, 1) := by decide +kernel
theorem dX11_order_105 : decode cX11_order 105 = .ok (.iaload, 1) := by decide +kernel
theorem dX11_order_106 : decode cX11_order 106 = .ok (.ireturn, 1) := by decide +kernel
theorem dX11_deskOf_0 : decode cX11_deskOf 0 = .ok (.iload_n 1, 1) := by decide +kernel
theorem dX11_deskOf_1 : decode cX11_deskOf 1 = .ok (.istore 4, 2) := by decide +kernel
theorem dX11_deskOf_3 : decode cX11_deskOf 3 = .ok (.aload_n 0, 1) := by decide +kernel
theorem dX11_deskOf_4 : decode cX11_deskOf 4 = .ok (.getfield 203, 3) := by decide +kernel
theorem dX11_deskOf_7 : decode cX11_deskOf 7 = .ok (.iconst 1, 1) := by decide +kernel
theorem dX11_deskOf_8 : decode cX11_deskOf 8 = .ok (.isub, 1) := by decide +kernel
theorem dX11_deskOf_9 : decode cX11_deskOf 9 = .ok (.istore 5, 2) := by decide +kernel
theorem dX11_deskOf_11 : decode cX11_deskOf 11 = .ok (.iload 5, 2) := by decide +kernel
theorem dX11_deskOf_13 : decode cX11_deskOf 13 = .ok (.iload_n 3, 1) := by decide +kernel
theorem dX11_deskOf_14 : decode cX11_deskOf 14 = .ok (.if_icmp .le 15, 3) := by decide +kernel
theorem dX11_deskOf_17 : decode cX11_deskOf 17 = .ok (.iload 4, 2) := by decide +kernel
theorem dX11_deskOf_19 : decode cX11_deskOf 19 = .ok (.iload_n 2, 1) := by decide +kernel
theorem dX11_deskOf_20 : decode cX11_deskOf 20 = .ok (.idiv, 1) := by decide +kernel
theorem dX11_deskOf_21 : decode cX11_deskOf 21 = .ok (.istore 4, 2) := by decide +kernel
theorem dX11_deskOf_23 : decode cX11_deskOf 23 = .ok (.iinc 5 (-1), 3) := by decide +kernel
theorem dX11_deskOf_26 : decode cX11_deskOf 26 = .ok (.goto (-15), 3) := by decide +kernel
theorem dX11_deskOf_29 : decode cX11_deskOf 29 = .ok (.iload 4, 2) := by decide +kernel
theorem dX11_deskOf_31 : decode cX11_deskOf 31 = .ok (.iload_n 2, 1) := by decide +kernel
theorem dX11_deskOf_32 : decode cX11_deskOf 32 = .ok (.irem, 1) := by decide +kernel
theorem dX11_deskOf_33 : decode cX11_deskOf 33 = .ok (.ireturn, 1) := by decide +kernel
theorem dX11_longest_0 : decode cX11_longest 0 = .ok (.iconst 0, 1) := by decide +kernel
theorem dX11_longest_1 : decode cX11_longest 1 = .ok (.istore_n 3, 1) := by decide +kernel
theorem dX11_longest_2 : decode cX11_longest 2 = .ok (.iload_n 3, 1) := by decide +kernel
theorem dX11_longest_3 : decode cX11_longest 3 = .ok (.iconst 3, 1) := by decide +kernel
theorem dX11_longest_4 : decode cX11_longest 4 = .ok (.if_icmp .ge 16, 3) := by decide +kernel
theorem dX11_longest_7 : decode cX11_longest 7 = .ok (.aload_n 0, 1) := by decide +kernel
theorem dX11_longest_8 : decode cX11_longest 8 = .ok (.getfield 50, 3) := by decide +kernel
theorem dX11_longest_11 : decode cX11_longest 11 = .ok (.iload_n 3, 1) := by decide +kernel
theorem dX11_longest_12 : decode cX11_longest 12 = .ok (.iconst 0, 1) := by decide +kernel
theorem dX11_longest_13 : decode cX11_longest 13 = .ok (.iastore, 1) := by decide +kernel
theorem dX11_longest_14 : decode cX11_longest 14 = .ok (.iinc 3 1, 3) := by decide +kernel
theorem dX11_longest_17 : decode cX11_longest 17 = .ok (.goto (-15), 3) := by decide +kernel
theorem dX11_longest_20 : decode cX11_longest 20 = .ok (.iconst 0, 1) := by decide +kernel
theorem dX11_longest_21 : decode cX11_longest 21 = .ok (.istore_n 3, 1) := by decide +kernel
theorem dX11_longest_22 : decode cX11_longest 22 = .ok (.iconst 0, 1) := by decide +kernel
theorem dX11_longest_23 : decode cX11_longest 23 = .ok (.istore 4, 2) := by decide +kernel
theorem dX11_longest_25 : decode cX11_longest 25 = .ok (.iload 4, 2) := by decide +kernel
theorem dX11_longest_27 : decode cX11_longest 27 = .ok (.aload_n 0, 1) := by decide +kernel
theorem dX11_longest_28 : decode cX11_longest 28 = .ok (.getfield 203, 3) := by decide +kernel
theorem dX11_longest_31 : decode cX11_longest 31 = .ok (.if_icmp .ge 58, 3) := by decide +kernel
theorem dX11_longest_34 : decode cX11_longest 34 = .ok (.aload_n 0, 1) := by decide +kernel
theorem dX11_longest_35 : decode cX11_longest 35 = .ok (.iload_n 1, 1) := by decide +kernel
theorem dX11_longest_36 : decode cX11_longest 36 = .ok (.iload_n 2, 1) := by decide +kernel
theorem dX11_longest_37 : decode cX11_longest 37 = .ok (.iload 4, 2) := by decide +kernel
theorem dX11_longest_39 : decode cX11_longest 39 = .ok (.invokevirtual 304, 3) := by decide +kernel
theorem dX11_longest_42 : decode cX11_longest 42 = .ok (.istore 5, 2) := by decide +kernel
theorem dX11_longest_44 : decode cX11_longest 44 = .ok (.aload_n 0, 1) := by decide +kernel
theorem dX11_longest_45 : decode cX11_longest 45 = .ok (.getfield 50, 3) := by decide +kernel
theorem dX11_longest_48 : decode cX11_longest 48 = .ok (.iload 5, 2) := by decide +kernel
theorem dX11_longest_50 : decode cX11_longest 50 = .ok (.dup2, 1) := by decide +kernel
theorem dX11_longest_51 : decode cX11_longest 51 = .ok (.iaload, 1) := by decide +kernel
theorem dX11_longest_52 : decode cX11_longest 52 = .ok (.aload_n 0, 1) := by decide +kernel
theorem dX11_longest_53 : decode cX11_longest 53 = .ok (.iload 4, 2) := by decide +kernel
theorem dX11_longest_55 : decode cX11_longest 55 = .ok (.invokevirtual 224, 3) := by decide +kernel
theorem dX11_longest_58 : decode cX11_longest 58 = .ok (.iadd, 1) := by decide +kernel
theorem dX11_longest_59 : decode cX11_longest 59 = .ok (.iastore, 1) := by decide +kernel
theorem dX11_longest_60 : decode cX11_longest 60 = .ok (.aload_n 0, 1) := by decide +kernel
theorem dX11_longest_61 : decode cX11_longest 61 = .ok (.getfield 50, 3) := by decide +kernel
theorem dX11_longest_64 : decode cX11_longest 64 = .ok (.iload 5, 2) := by decide +kernel
theorem dX11_longest_66 : decode cX11_longest 66 = .ok (.iaload, 1) := by decide +kernel
theorem dX11_longest_67 : decode cX11_longest 67 = .ok (.iload_n 3, 1) := by decide +kernel
theorem dX11_longest_68 : decode cX11_longest 68 = .ok (.if_icmp .le 13, 3) := by decide +kernel
theorem dX11_longest_71 : decode cX11_longest 71 = .ok (.aload_n 0, 1) := by decide +kernel
theorem dX11_longest_72 : decode cX11_longest 72 = .ok (.getfield 50, 3) := by decide +kernel
theorem dX11_longest_75 : decode cX11_longest 75 = .ok (.iload 5, 2) := by decide +kernel
theorem dX11_longest_77 : decode cX11_longest 77 = .ok (.iaload, 1) := by decide +kernel
theorem dX11_longest_78 : decode cX11_longest 78 = .ok (.goto 4, 3) := by decide +kernel
theorem dX11_longest_81 : decode cX11_longest 81 = .ok (.iload_n 3, 1) := by decide +kernel
theorem dX11_longest_82 : decode cX11_longest 82 = .ok (.istore_n 3, 1) := by decide +kernel
theorem dX11_longest_83 : decode cX11_longest 83 = .ok (.iinc 4 1, 3) := by decide +kernel
theorem dX11_longest_86 : decode cX11_longest 86 = .ok (.goto (-61), 3) := by decide +kernel
theorem dX11_longest_89 : decode cX11_longest 89 = .ok (.iload_n 3, 1) := by decide +kernel
theorem dX11_longest_90 : decode cX11_longest 90 = .ok (.ireturn, 1) := by decide +kernel
theorem dX11_desks_0 : decode cX11_desks 0 = .ok (.aload_n 0, 1) := by decide +kernel
theorem dX11_desks_1 : decode cX11_desks 1 = .ok (.iload_n 1, 1) := by decide +kernel
theorem dX11_desks_2 : decode cX11_desks 2 = .ok (.invokevirtual 209, 3) := by decide +kernel
theorem dX11_desks_5 : decode cX11_desks 5 = .ok (.ifCond .eq 25, 3) := by decide +kernel
theorem dX11_desks_8 : decode cX11_desks 8 = .ok (.iload_n 2, 1) := by decide +kernel
theorem dX11_desks_9 : decode cX11_desks 9 = .ok (.iconst 1, 1) := by decide +kernel
theorem dX11_desks_10 : decode cX11_desks 10 = .ok (.iconst 3, 1) := by decide +kernel
theorem dX11_desks_11 : decode cX11_desks 11 = .ok (.invokestatic 132, 3) := by decide +kernel
theorem dX11_desks_14 : decode cX11_desks 14 = .ok (.ifCond .eq 16, 3) := by decide +kernel
theorem dX11_desks_17 : decode cX11_desks 17 = .ok (.iload_n 3, 1) := by decide +kernel
theorem dX11_desks_18 : decode cX11_desks 18 = .ok (.iconst (-1), 1) := by decide +kernel
theorem dX11_desks_19 : decode cX11_desks 19 = .ok (.if_icmp .eq 13, 3) := by decide +kernel
theorem dX11_desks_22 : decode cX11_desks 22 = .ok (.aload_n 0, 1) := by decide +kernel
theorem dX11_desks_23 : decode cX11_desks 23 = .ok (.iload_n 3, 1) := by decide +kernel
theorem dX11_desks_24 : decode cX11_desks 24 = .ok (.invokevirtual 218, 3) := by decide +kernel
theorem dX11_desks_27 : decode cX11_desks 27 = .ok (.ifCond .ne 5, 3) := by decide +kernel
theorem dX11_desks_30 : decode cX11_desks 30 = .ok (.iconst (-1), 1) := by decide +kernel
theorem dX11_desks_31 : decode cX11_desks 31 = .ok (.ireturn, 1) := by decide +kernel
theorem dX11_desks_32 : decode cX11_desks 32 = .ok (.iconst 1, 1) := by decide +kernel
theorem dX11_desks_33 : decode cX11_desks 33 = .ok (.istore 4, 2) := by decide +kernel
theorem dX11_desks_35 : decode cX11_desks 35 = .ok (.iconst 0, 1) := by decide +kernel
theorem dX11_desks_36 : decode cX11_desks 36 = .ok (.istore 5, 2) := by decide +kernel
theorem dX11_desks_38 : decode cX11_desks 38 = .ok (.iload 5, 2) := by decide +kernel
theorem dX11_desks_40 : decode cX11_desks 40 = .ok (.aload_n 0, 1) := by decide +kernel
theorem dX11_desks_41 : decode cX11_desks 41 = .ok (.getfield 203, 3) := by decide +kernel
theorem dX11_desks_44 : decode cX11_desks 44 = .ok (.if_icmp .ge 15, 3) := by decide +kernel
theorem dX11_desks_47 : decode cX11_desks 47 = .ok (.iload 4, 2) := by decide +kernel
theorem dX11_desks_49 : decode cX11_desks 49 = .ok (.iload_n 2, 1) := by decide +kernel
theorem dX11_desks_50 : decode cX11_desks 50 = .ok (.imul, 1) := by decide +kernel
theorem dX11_desks_51 : decode cX11_desks 51 = .ok (.istore 4, 2) := by decide +kernel
theorem dX11_desks_53 : decode cX11_desks 53 = .ok (.iinc 5 1, 3) := by decide +kernel
theorem dX11_desks_56 : decode cX11_desks 56 = .ok (.goto (-18), 3) := by decide +kernel
theorem dX11_desks_59 : decode cX11_desks 59 = .ok (.iconst 0, 1) := by decide +kernel
theorem dX11_desks_60 : decode cX11_desks 60 = .ok (.istore 5, 2) := by decide +kernel
theorem dX11_desks_62 : decode cX11_desks 62 = .ok (.iconst 1, 1) := by decide +kernel
theorem dX11_desks_63 : decode cX11_desks 63 = .ok (.istore 6, 2) := by decide +kernel
theorem dX11_desks_65 : decode cX11_desks 65 = .ok (.iload 6, 2) := by decide +kernel
theorem dX11_desks_67 : decode cX11_desks 67 = .ok (.iload 4, 2) := by decide +kernel
theorem dX11_desks_69 : decode cX11_desks 69 = .ok (.if_icmp .ge 30, 3) := by decide +kernel
theorem dX11_desks_72 : decode cX11_desks 72 = .ok (.aload_n 0, 1) := by decide +kernel
theorem dX11_desks_73 : decode cX11_desks 73 = .ok (.iload 6, 2) := by decide +kernel
theorem dX11_desks_75 : decode cX11_desks 75 = .ok (.iload_n 2, 1) := by decide +kernel
theorem dX11_desks_76 : decode cX11_desks 76 = .ok (.invokevirtual 308, 3) := by decide +kernel
theorem dX11_desks_79 : decode cX11_desks 79 = .ok (.aload_n 0, 1) := by decide +kernel
theorem dX11_desks_80 : decode cX11_desks 80 = .ok (.iload 5, 2) := by decide +kernel
theorem dX11_desks_82 : decode cX11_desks 82 = .ok (.iload_n 2, 1) := by decide +kernel
theorem dX11_desks_83 : decode cX11_desks 83 = .ok (.invokevirtual 308, 3) := by decide +kernel
theorem dX11_desks_86 : decode cX11_desks 86 = .ok (.if_icmp .ge 7, 3) := by decide +kernel
theorem dX11_desks_89 : decode cX11_desks 89 = .ok (.iload 6, 2) := by decide +kernel
theorem dX11_desks_91 : decode cX11_desks 91 = .ok (.istore 5, 2) := by decide +kernel
theorem dX11_desks_93 : decode cX11_desks 93 = .ok (.iinc 6 1, 3) := by decide +kernel
theorem dX11_desks_96 : decode cX11_desks 96 = .ok (.goto (-31), 3) := by decide +kernel
theorem dX11_desks_99 : decode cX11_desks 99 = .ok (.iload_n 3, 1) := by decide +kernel
theorem dX11_desks_100 : decode cX11_desks 100 = .ok (.iconst (-1), 1) := by decide +kernel
theorem dX11_desks_101 : decode cX11_desks 101 = .ok (.if_icmp .ne 13, 3) := by decide +kernel
theorem dX11_desks_104 : decode cX11_desks 104 = .ok (.aload_n 0, 1) := by decide +kernel
theorem dX11_desks_105 : decode cX11_desks 105 = .ok (.iload 5, 2) := by decide +kernel
theorem dX11_desks_107 : decode cX11_desks 107 = .ok (.iload_n 2, 1) := by decide +kernel
theorem dX11_desks_108 : decode cX11_desks 108 = .ok (.invokevirtual 308, 3) := by decide +kernel
theorem dX11_desks_111 : decode cX11_desks 111 = .ok (.goto 11, 3) := by decide +kernel
theorem dX11_desks_114 : decode cX11_desks 114 = .ok (.aload_n 0, 1) := by decide +kernel
theorem dX11_desks_115 : decode cX11_desks 115 = .ok (.iload 5, 2) := by decide +kernel
theorem dX11_desks_117 : decode cX11_desks 117 = .ok (.iload_n 2, 1) := by decide +kernel
theorem dX11_desks_118 : decode cX11_desks 118 = .ok (.iload_n 3, 1) := by decide +kernel
theorem dX11_desks_119 : decode cX11_desks 119 = .ok (.invokevirtual 304, 3) := by decide +kernel
theorem dX11_desks_122 : decode cX11_desks 122 = .ok (.ireturn, 1) := by decide +kernel
theorem dX11_laysTurn_0 : decode cX11_laysTurn 0 = .ok (.aload_n 0, 1) := by decide +kernel
theorem dX11_laysTurn_1 : decode cX11_laysTurn 1 = .ok (.getfield 53, 3) := by decide +kernel
theorem dX11_laysTurn_4 : decode cX11_laysTurn 4 = .ok (.iload_n 1, 1) := by decide +kernel
theorem dX11_laysTurn_5 : decode cX11_laysTurn 5 = .ok (.iconst (-1), 1) := by decide +kernel
theorem dX11_laysTurn_6 : decode cX11_laysTurn 6 = .ok (.iastore, 1) := by decide +kernel
theorem dX11_laysTurn_7 : decode cX11_laysTurn 7 = .ok (.aload_n 0, 1) := by decide +kernel
theorem dX11_laysTurn_8 : decode cX11_laysTurn 8 = .ok (.getfield 59, 3) := by decide +kernel
theorem dX11_laysTurn_11 : decode cX11_laysTurn 11 = .ok (.iload_n 1, 1) := by decide +kernel
theorem dX11_laysTurn_12 : decode cX11_laysTurn 12 = .ok (.ldc_w 311, 3) := by decide +kernel
theorem dX11_laysTurn_15 : decode cX11_laysTurn 15 = .ok (.iastore, 1) := by decide +kernel
theorem dX11_laysTurn_16 : decode cX11_laysTurn 16 = .ok (.return_, 1) := by decide +kernel
theorem dX11_puts_0 : decode cX11_puts 0 = .ok (.aload_n 0, 1) := by decide +kernel
theorem dX11_puts_1 : decode cX11_puts 1 = .ok (.getfield 53, 3) := by decide +kernel
theorem dX11_puts_4 : decode cX11_puts 4 = .ok (.iload_n 1, 1) := by decide +kernel
theorem dX11_puts_5 : decode cX11_puts 5 = .ok (.iload_n 2, 1) := by decide +kernel
theorem dX11_puts_6 : decode cX11_puts 6 = .ok (.iastore, 1) := by decide +kernel
theorem dX11_puts_7 : decode cX11_puts 7 = .ok (.iload_n 2, 1) := by decide +kernel
theorem dX11_puts_8 : decode cX11_puts 8 = .ok (.bipush 8, 2) := by decide +kernel
theorem dX11_puts_10 : decode cX11_puts 10 = .ok (.if_icmp .ne 4, 3) := by decide +kernel
theorem dX11_puts_13 : decode cX11_puts 13 = .ok (.return_, 1) := by decide +kernel
theorem dX11_puts_14 : decode cX11_puts 14 = .ok (.aload_n 0, 1) := by decide +kernel
theorem dX11_puts_15 : decode cX11_puts 15 = .ok (.getfield 56, 3) := by decide +kernel
theorem dX11_puts_18 : decode cX11_puts 18 = .ok (.iload_n 1, 1) := by decide +kernel
theorem dX11_puts_19 : decode cX11_puts 19 = .ok (.aload_n 0, 1) := by decide +kernel
theorem dX11_puts_20 : decode cX11_puts 20 = .ok (.getfield 26, 3) := by decide +kernel
theorem dX11_puts_23 : decode cX11_puts 23 = .ok (.iload_n 2, 1) := by decide +kernel
theorem dX11_puts_24 : decode cX11_puts 24 = .ok (.iaload, 1) := by decide +kernel
theorem dX11_puts_25 : decode cX11_puts 25 = .ok (.iastore, 1) := by decide +kernel
theorem dX11_puts_26 : decode cX11_puts 26 = .ok (.aload_n 0, 1) := by decide +kernel
theorem dX11_puts_27 : decode cX11_puts 27 = .ok (.getfield 26, 3) := by decide +kernel
theorem dX11_puts_30 : decode cX11_puts 30 = .ok (.iload_n 2, 1) := by decide +kernel
theorem dX11_puts_31 : decode cX11_puts 31 = .ok (.aload_n 0, 1) := by decide +kernel
theorem dX11_puts_32 : decode cX11_puts 32 = .ok (.iload_n 3, 1) := by decide +kernel
theorem dX11_puts_33 : decode cX11_puts 33 = .ok (.iload_n 2, 1) := by decide +kernel
theorem dX11_puts_34 : decode cX11_puts 34 = .ok (.invokevirtual 263, 3) := by decide +kernel
theorem dX11_puts_37 : decode cX11_puts 37 = .ok (.iastore, 1) := by decide +kernel
theorem dX11_puts_38 : decode cX11_puts 38 = .ok (.return_, 1) := by decide +kernel
theorem dX11_comesBack_0 : decode cX11_comesBack 0 = .ok (.aload_n 0, 1) := by decide +kernel
theorem dX11_comesBack_1 : decode cX11_comesBack 1 = .ok (.getfield 53, 3) := by decide +kernel
theorem dX11_comesBack_4 : decode cX11_comesBack 4 = .ok (.iload_n 1, 1) := by decide +kernel
theorem dX11_comesBack_5 : decode cX11_comesBack 5 = .ok (.iaload, 1) := by decide +kernel
theorem dX11_comesBack_6 : decode cX11_comesBack 6 = .ok (.bipush 8, 2) := by decide +kernel
theorem dX11_comesBack_8 : decode cX11_comesBack 8 = .ok (.if_icmp .ge 20, 3) := by decide +kernel
theorem dX11_comesBack_11 : decode cX11_comesBack 11 = .ok (.aload_n 0, 1) := by decide +kernel
theorem dX11_comesBack_12 : decode cX11_comesBack 12 = .ok (.getfield 26, 3) := by decide +kernel
theorem dX11_comesBack_15 : decode cX11_comesBack 15 = .ok (.aload_n 0, 1) := by decide +kernel
theorem dX11_comesBack_16 : decode cX11_comesBack 16 = .ok (.getfield 53, 3) := by decide +kernel
theorem dX11_comesBack_19 : decode cX11_comesBack 19 = .ok (.iload_n 1, 1) := by decide +kernel
theorem dX11_comesBack_20 : decode cX11_comesBack 20 = .ok (.iaload, 1) := by decide +kernel
theorem dX11_comesBack_21 : decode cX11_comesBack 21 = .ok (.aload_n 0, 1) := by decide +kernel
theorem dX11_comesBack_22 : decode cX11_comesBack 22 = .ok (.getfield 56, 3) := by decide +kernel
theorem dX11_comesBack_25 : decode cX11_comesBack 25 = .ok (.iload_n 1, 1) := by decide +kernel
theorem dX11_comesBack_26 : decode cX11_comesBack 26 = .ok (.iaload, 1) := by decide +kernel
theorem dX11_comesBack_27 : decode cX11_comesBack 27 = .ok (.iastore, 1) := by decide +kernel
theorem dX11_comesBack_28 : decode cX11_comesBack 28 = .ok (.aload_n 0, 1) := by decide +kernel
theorem dX11_comesBack_29 : decode cX11_comesBack 29 = .ok (.getfield 59, 3) := by decide +kernel
theorem dX11_comesBack_32 : decode cX11_comesBack 32 = .ok (.iload_n 1, 1) := by decide +kernel
theorem dX11_comesBack_33 : decode cX11_comesBack 33 = .ok (.iaload, 1) := by decide +kernel
theorem dX11_comesBack_34 : decode cX11_comesBack 34 = .ok (.ldc_w 311, 3) := by decide +kernel
theorem dX11_comesBack_37 : decode cX11_comesBack 37 = .ok (.if_icmp .eq 33, 3) := by decide +kernel
theorem dX11_comesBack_40 : decode cX11_comesBack 40 = .ok (.iload_n 1, 1) := by decide +kernel
theorem dX11_comesBack_41 : decode cX11_comesBack 41 = .ok (.iconst 2, 1) := by decide +kernel
theorem dX11_comesBack_42 : decode cX11_comesBack 42 = .ok (.irem, 1) := by decide +kernel
theorem dX11_comesBack_43 : decode cX11_comesBack 43 = .ok (.ifCond .ne 16, 3) := by decide +kernel
theorem dX11_comesBack_46 : decode cX11_comesBack 46 = .ok (.iload_n 2, 1) := by decide +kernel
theorem dX11_comesBack_47 : decode cX11_comesBack 47 = .ok (.aload_n 0, 1) := by decide +kernel
theorem dX11_comesBack_48 : decode cX11_comesBack 48 = .ok (.getfield 59, 3) := by decide +kernel
theorem dX11_comesBack_51 : decode cX11_comesBack 51 = .ok (.iload_n 1, 1) := by decide +kernel
theorem dX11_comesBack_52 : decode cX11_comesBack 52 = .ok (.iaload, 1) := by decide +kernel
theorem dX11_comesBack_53 : decode cX11_comesBack 53 = .ok (.if_icmp .gt 17, 3) := by decide +kernel
theorem dX11_comesBack_56 : decode cX11_comesBack 56 = .ok (.goto 13, 3) := by decide +kernel
theorem dX11_comesBack_59 : decode cX11_comesBack 59 = .ok (.iload_n 2, 1) := by decide +kernel
theorem dX11_comesBack_60 : decode cX11_comesBack 60 = .ok (.aload_n 0, 1) := by decide +kernel
theorem dX11_comesBack_61 : decode cX11_comesBack 61 = .ok (.getfield 59, 3) := by decide +kernel
theorem dX11_comesBack_64 : decode cX11_comesBack 64 = .ok (.iload_n 1, 1) := by decide +kernel
theorem dX11_comesBack_65 : decode cX11_comesBack 65 = .ok (.iaload, 1) := by decide +kernel
theorem dX11_comesBack_66 : decode cX11_comesBack 66 = .ok (.if_icmp .lt 4, 3) := by decide +kernel
theorem dX11_comesBack_69 : decode cX11_comesBack 69 = .ok (.return_, 1) := by decide +kernel
theorem dX11_comesBack_70 : decode cX11_comesBack 70 = .ok (.aload_n 0, 1) := by decide +kernel
theorem dX11_comesBack_71 : decode cX11_comesBack 71 = .ok (.getfield 59, 3) := by decide +kernel
theorem dX11_comesBack_74 : decode cX11_comesBack 74 = .ok (.iload_n 1, 1) := by decide +kernel
theorem dX11_comesBack_75 : decode cX11_comesBack 75 = .ok (.iload_n 2, 1) := by decide +kernel
theorem dX11_comesBack_76 : decode cX11_comesBack 76 = .ok (.iastore, 1) := by decide +kernel
theorem dX11_comesBack_77 : decode cX11_comesBack 77 = .ok (.iload_n 1, 1) := by decide +kernel
theorem dX11_comesBack_78 : decode cX11_comesBack 78 = .ok (.ifCond .ne 13, 3) := by decide +kernel
theorem dX11_comesBack_81 : decode cX11_comesBack 81 = .ok (.aload_n 0, 1) := by decide +kernel
theorem dX11_comesBack_82 : decode cX11_comesBack 82 = .ok (.aload_n 0, 1) := by decide +kernel
theorem dX11_comesBack_83 : decode cX11_comesBack 83 = .ok (.getfield 53, 3) := by decide +kernel
theorem dX11_comesBack_86 : decode cX11_comesBack 86 = .ok (.iconst 0, 1) := by decide +kernel
theorem dX11_comesBack_87 : decode cX11_comesBack 87 = .ok (.iaload, 1) := by decide +kernel
theorem dX11_comesBack_88 : decode cX11_comesBack 88 = .ok (.putfield 312, 3) := by decide +kernel
theorem dX11_comesBack_91 : decode cX11_comesBack 91 = .ok (.return_, 1) := by decide +kernel
theorem dX11_quarrelOf_0 : decode cX11_quarrelOf 0 = .ok (.iconst 0, 1) := by decide +kernel
theorem dX11_quarrelOf_1 : decode cX11_quarrelOf 1 = .ok (.istore 4, 2) := by decide +kernel
theorem dX11_quarrelOf_3 : decode cX11_quarrelOf 3 = .ok (.aload_n 0, 1) := by decide +kernel
theorem dX11_quarrelOf_4 : decode cX11_quarrelOf 4 = .ok (.iconst 0, 1) := by decide +kernel
theorem dX11_quarrelOf_5 : decode cX11_quarrelOf 5 = .ok (.invokevirtual 315, 3) := by decide +kernel
theorem dX11_quarrelOf_8 : decode cX11_quarrelOf 8 = .ok (.iload 4, 2) := by decide +kernel
theorem dX11_quarrelOf_10 : decode cX11_quarrelOf 10 = .ok (.ifCond .lt 152, 3) := by decide +kernel
theorem dX11_quarrelOf_13 : decode cX11_quarrelOf 13 = .ok (.iload 4, 2) := by decide +kernel
theorem dX11_quarrelOf_15 : decode cX11_quarrelOf 15 = .ok (.iconst 2, 1) := by decide +kernel
theorem dX11_quarrelOf_16 : decode cX11_quarrelOf 16 = .ok (.irem, 1) := by decide +kernel
theorem dX11_quarrelOf_17 : decode cX11_quarrelOf 17 = .ok (.ifCond .ne 7, 3) := by decide +kernel
theorem dX11_quarrelOf_20 : decode cX11_quarrelOf 20 = .ok (.iload_n 1, 1) := by decide +kernel
theorem dX11_quarrelOf_21 : decode cX11_quarrelOf 21 = .ok (.goto 4, 3) := by decide +kernel
theorem dX11_quarrelOf_24 : decode cX11_quarrelOf 24 = .ok (.iload_n 2, 1) := by decide +kernel
theorem dX11_quarrelOf_25 : decode cX11_quarrelOf 25 = .ok (.istore 5, 2) := by decide +kernel
theorem dX11_quarrelOf_27 : decode cX11_quarrelOf 27 = .ok (.iload 4, 2) := by decide +kernel
theorem dX11_quarrelOf_29 : decode cX11_quarrelOf 29 = .ok (.iload_n 3, 1) := by decide +kernel
theorem dX11_quarrelOf_30 : decode cX11_quarrelOf 30 = .ok (.if_icmp .ne 8, 3) := by decide +kernel
theorem dX11_quarrelOf_33 : decode cX11_quarrelOf 33 = .ok (.bipush 9, 2) := by decide +kernel
theorem dX11_quarrelOf_35 : decode cX11_quarrelOf 35 = .ok (.goto 12, 3) := by decide +kernel
theorem dX11_quarrelOf_38 : decode cX11_quarrelOf 38 = .ok (.aload_n 0, 1) := by decide +kernel
theorem dX11_quarrelOf_39 : decode cX11_quarrelOf 39 = .ok (.getfield 53, 3) := by decide +kernel
theorem dX11_quarrelOf_42 : decode cX11_quarrelOf 42 = .ok (.iload 4, 2) := by decide +kernel
theorem dX11_quarrelOf_44 : decode cX11_quarrelOf 44 = .ok (.iaload, 1) := by decide +kernel
theorem dX11_quarrelOf_45 : decode cX11_quarrelOf 45 = .ok (.iconst 1, 1) := by decide +kernel
theorem dX11_quarrelOf_46 : decode cX11_quarrelOf 46 = .ok (.iadd, 1) := by decide +kernel
theorem dX11_quarrelOf_47 : decode cX11_quarrelOf 47 = .ok (.istore 6, 2) := by decide +kernel
theorem dX11_quarrelOf_49 : decode cX11_quarrelOf 49 = .ok (.iload 6, 2) := by decide +kernel
theorem dX11_quarrelOf_51 : decode cX11_quarrelOf 51 = .ok (.bipush 8, 2) := by decide +kernel
theorem dX11_quarrelOf_53 : decode cX11_quarrelOf 53 = .ok (.if_icmp .ge 30, 3) := by decide +kernel
theorem dX11_quarrelOf_56 : decode cX11_quarrelOf 56 = .ok (.aload_n 0, 1) := by decide +kernel
theorem dX11_quarrelOf_57 : decode cX11_quarrelOf 57 = .ok (.iload 6, 2) := by decide +kernel
theorem dX11_quarrelOf_59 : decode cX11_quarrelOf 59 = .ok (.invokevirtual 212, 3) := by decide +kernel
theorem dX11_quarrelOf_62 : decode cX11_quarrelOf 62 = .ok (.ifCond .eq 15, 3) := by decide +kernel
theorem dX11_quarrelOf_65 : decode cX11_quarrelOf 65 = .ok (.aload_n 0, 1) := by decide +kernel
theorem dX11_quarrelOf_66 : decode cX11_quarrelOf 66 = .ok (.iload 5, 2) := by decide +kernel
theorem dX11_quarrelOf_68 : decode cX11_quarrelOf 68 = .ok (.iload 6, 2) := by decide +kernel
theorem dX11_quarrelOf_70 : decode cX11_quarrelOf 70 = .ok (.invokevirtual 263, 3) := by decide +kernel
theorem dX11_quarrelOf_73 : decode cX11_quarrelOf 73 = .ok (.iconst (-1), 1) := by decide +kernel
theorem dX11_quarrelOf_74 : decode cX11_quarrelOf 74 = .ok (.if_icmp .ne 9, 3) := by decide +kernel
theorem dX11_quarrelOf_77 : decode cX11_quarrelOf 77 = .ok (.iinc 6 1, 3) := by decide +kernel
theorem dX11_quarrelOf_80 : decode cX11_quarrelOf 80 = .ok (.goto (-31), 3) := by decide +kernel
theorem dX11_quarrelOf_83 : decode cX11_quarrelOf 83 = .ok (.iload 6, 2) := by decide +kernel
theorem dX11_quarrelOf_85 : decode cX11_quarrelOf 85 = .ok (.bipush 8, 2) := by decide +kernel
theorem dX11_quarrelOf_87 : decode cX11_quarrelOf 87 = .ok (.if_icmp .le 53, 3) := by decide +kernel
theorem dX11_quarrelOf_90 : decode cX11_quarrelOf 90 = .ok (.iload 4, 2) := by decide +kernel
theorem dX11_quarrelOf_92 : decode cX11_quarrelOf 92 = .ok (.iload_n 3, 1) := by decide +kernel
theorem dX11_quarrelOf_93 : decode cX11_quarrelOf 93 = .ok (.if_icmp .ne 21, 3) := by decide +kernel
theorem dX11_quarrelOf_96 : decode cX11_quarrelOf 96 = .ok (.aload_n 0, 1) := by decide +kernel
theorem dX11_quarrelOf_97 : decode cX11_quarrelOf 97 = .ok (.getfield 59, 3) := by decide +kernel
theorem dX11_quarrelOf_100 : decode cX11_quarrelOf 100 = .ok (.iload 4, 2) := by decide +kernel
theorem dX11_quarrelOf_102 : decode cX11_quarrelOf 102 = .ok (.aload_n 0, 1) := by decide +kernel
theorem dX11_quarrelOf_103 : decode cX11_quarrelOf 103 = .ok (.iload_n 1, 1) := by decide +kernel
theorem dX11_quarrelOf_104 : decode cX11_quarrelOf 104 = .ok (.invokevirtual 266, 3) := by decide +kernel
theorem dX11_quarrelOf_107 : decode cX11_quarrelOf 107 = .ok (.aload_n 0, 1) := by decide +kernel
theorem dX11_quarrelOf_108 : decode cX11_quarrelOf 108 = .ok (.iload_n 2, 1) := by decide +kernel
theorem dX11_quarrelOf_109 : decode cX11_quarrelOf 109 = .ok (.invokevirtual 266, 3) := by decide +kernel
theorem dX11_quarrelOf_112 : decode cX11_quarrelOf 112 = .ok (.isub, 1) := by decide +kernel
theorem dX11_quarrelOf_113 : decode cX11_quarrelOf 113 = .ok (.iastore, 1) := by decide +kernel
theorem dX11_quarrelOf_114 : decode cX11_quarrelOf 114 = .ok (.iinc 4 (-1), 3) := by decide +kernel
theorem dX11_quarrelOf_117 : decode cX11_quarrelOf 117 = .ok (.iload 4, 2) := by decide +kernel
theorem dX11_quarrelOf_119 : decode cX11_quarrelOf 119 = .ok (.ifCond .lt (-111), 3) := by decide +kernel
theorem dX11_quarrelOf_122 : decode cX11_quarrelOf 122 = .ok (.aload_n 0, 1) := by decide +kernel
theorem dX11_quarrelOf_123 : decode cX11_quarrelOf 123 = .ok (.iload 4, 2) := by decide +kernel
theorem dX11_quarrelOf_125 : decode cX11_quarrelOf 125 = .ok (.aload_n 0, 1) := by decide +kernel
theorem dX11_quarrelOf_126 : decode cX11_quarrelOf 126 = .ok (.getfield 59, 3) := by decide +kernel
theorem dX11_quarrelOf_129 : decode cX11_quarrelOf 129 = .ok (.iload 4, 2) := by decide +kernel
theorem dX11_quarrelOf_131 : decode cX11_quarrelOf 131 = .ok (.iconst 1, 1) := by decide +kernel
theorem dX11_quarrelOf_132 : decode cX11_quarrelOf 132 = .ok (.iadd, 1) := by decide +kernel
theorem dX11_quarrelOf_133 : decode cX11_quarrelOf 133 = .ok (.iaload, 1) := by decide +kernel
theorem dX11_quarrelOf_134 : decode cX11_quarrelOf 134 = .ok (.invokevirtual 318, 3) := by decide +kernel
theorem dX11_quarrelOf_137 : decode cX11_quarrelOf 137 = .ok (.goto (-129), 3) := by decide +kernel
theorem dX11_quarrelOf_140 : decode cX11_quarrelOf 140 = .ok (.aload_n 0, 1) := by decide +kernel
theorem dX11_quarrelOf_141 : decode cX11_quarrelOf 141 = .ok (.iload 4, 2) := by decide +kernel
theorem dX11_quarrelOf_143 : decode cX11_quarrelOf 143 = .ok (.iload 6, 2) := by decide +kernel
theorem dX11_quarrelOf_145 : decode cX11_quarrelOf 145 = .ok (.iload 5, 2) := by decide +kernel
theorem dX11_quarrelOf_147 : decode cX11_quarrelOf 147 = .ok (.invokevirtual 321, 3) := by decide +kernel
theorem dX11_quarrelOf_150 : decode cX11_quarrelOf 150 = .ok (.iinc 4 1, 3) := by decide +kernel
theorem dX11_quarrelOf_153 : decode cX11_quarrelOf 153 = .ok (.aload_n 0, 1) := by decide +kernel
theorem dX11_quarrelOf_154 : decode cX11_quarrelOf 154 = .ok (.iload 4, 2) := by decide +kernel
theorem dX11_quarrelOf_156 : decode cX11_quarrelOf 156 = .ok (.invokevirtual 315, 3) := by decide +kernel
theorem dX11_quarrelOf_159 : decode cX11_quarrelOf 159 = .ok (.goto (-151), 3) := by decide +kernel
theorem dX11_quarrelOf_162 : decode cX11_quarrelOf 162 = .ok (.aload_n 0, 1) := by decide +kernel
theorem dX11_quarrelOf_163 : decode cX11_quarrelOf 163 = .ok (.getfield 59, 3) := by decide +kernel
theorem dX11_quarrelOf_166 : decode cX11_quarrelOf 166 = .ok (.iconst 0, 1) := by decide +kernel
theorem dX11_quarrelOf_167 : decode cX11_quarrelOf 167 = .ok (.iaload, 1) := by decide +kernel
theorem dX11_quarrelOf_168 : decode cX11_quarrelOf 168 = .ok (.ireturn, 1) := by decide +kernel
theorem dX11_quarrel_0 : decode cX11_quarrel 0 = .ok (.aload_n 0, 1) := by decide +kernel
theorem dX11_quarrel_1 : decode cX11_quarrel 1 = .ok (.iload_n 1, 1) := by decide +kernel
theorem dX11_quarrel_2 : decode cX11_quarrel 2 = .ok (.invokevirtual 209, 3) := by decide +kernel
theorem dX11_quarrel_5 : decode cX11_quarrel 5 = .ok (.ifCond .eq 34, 3) := by decide +kernel
theorem dX11_quarrel_8 : decode cX11_quarrel 8 = .ok (.aload_n 0, 1) := by decide +kernel
theorem dX11_quarrel_9 : decode cX11_quarrel 9 = .ok (.iload_n 2, 1) := by decide +kernel
theorem dX11_quarrel_10 : decode cX11_quarrel 10 = .ok (.invokevirtual 218, 3) := by decide +kernel
theorem dX11_quarrel_13 : decode cX11_quarrel 13 = .ok (.ifCond .eq 26, 3) := by decide +kernel
theorem dX11_quarrel_16 : decode cX11_quarrel 16 = .ok (.aload_n 0, 1) := by decide +kernel
theorem dX11_quarrel_17 : decode cX11_quarrel 17 = .ok (.iload_n 3, 1) := by decide +kernel
theorem dX11_quarrel_18 : decode cX11_quarrel 18 = .ok (.invokevirtual 218, 3) := by decide +kernel
theorem dX11_quarrel_21 : decode cX11_quarrel 21 = .ok (.ifCond .eq 18, 3) := by decide +kernel
theorem dX11_quarrel_24 : decode cX11_quarrel 24 = .ok (.iload_n 2, 1) := by decide +kernel
theorem dX11_quarrel_25 : decode cX11_quarrel 25 = .ok (.iload_n 3, 1) := by decide +kernel
theorem dX11_quarrel_26 : decode cX11_quarrel 26 = .ok (.if_icmp .eq 13, 3) := by decide +kernel
theorem dX11_quarrel_29 : decode cX11_quarrel 29 = .ok (.iload 4, 2) := by decide +kernel
theorem dX11_quarrel_31 : decode cX11_quarrel 31 = .ok (.iconst 0, 1) := by decide +kernel
theorem dX11_quarrel_32 : decode cX11_quarrel 32 = .ok (.iconst 4, 1) := by decide +kernel
theorem dX11_quarrel_33 : decode cX11_quarrel 33 = .ok (.invokestatic 132, 3) := by decide +kernel
theorem dX11_quarrel_36 : decode cX11_quarrel 36 = .ok (.ifCond .ne 6, 3) := by decide +kernel
theorem dX11_quarrel_39 : decode cX11_quarrel 39 = .ok (.bipush (-99), 2) := by decide +kernel
theorem dX11_quarrel_41 : decode cX11_quarrel 41 = .ok (.ireturn, 1) := by decide +kernel
theorem dX11_quarrel_42 : decode cX11_quarrel 42 = .ok (.aload_n 0, 1) := by decide +kernel
theorem dX11_quarrel_43 : decode cX11_quarrel 43 = .ok (.iconst (-1), 1) := by decide +kernel
theorem dX11_quarrel_44 : decode cX11_quarrel 44 = .ok (.putfield 312, 3) := by decide +kernel
theorem dX11_quarrel_47 : decode cX11_quarrel 47 = .ok (.aload_n 0, 1) := by decide +kernel
theorem dX11_quarrel_48 : decode cX11_quarrel 48 = .ok (.iload_n 2, 1) := by decide +kernel
theorem dX11_quarrel_49 : decode cX11_quarrel 49 = .ok (.iload_n 3, 1) := by decide +kernel
theorem dX11_quarrel_50 : decode cX11_quarrel 50 = .ok (.iload 4, 2) := by decide +kernel
theorem dX11_quarrel_52 : decode cX11_quarrel 52 = .ok (.invokevirtual 325, 3) := by decide +kernel
theorem dX11_quarrel_55 : decode cX11_quarrel 55 = .ok (.istore 6, 2) := by decide +kernel
theorem dX11_quarrel_57 : decode cX11_quarrel 57 = .ok (.iload 5, 2) := by decide +kernel
theorem dX11_quarrel_59 : decode cX11_quarrel 59 = .ok (.ifCond .eq 10, 3) := by decide +kernel
theorem dX11_quarrel_62 : decode cX11_quarrel 62 = .ok (.aload_n 0, 1) := by decide +kernel
theorem dX11_quarrel_63 : decode cX11_quarrel 63 = .ok (.getfield 312, 3) := by decide +kernel
theorem dX11_quarrel_66 : decode cX11_quarrel 66 = .ok (.goto 5, 3) := by decide +kernel
theorem dX11_quarrel_69 : decode cX11_quarrel 69 = .ok (.iload 6, 2) := by decide +kernel
theorem dX11_quarrel_71 : decode cX11_quarrel 71 = .ok (.ireturn, 1) := by decide +kernel
theorem dX11_bitsOf_0 : decode cX11_bitsOf 0 = .ok (.iconst 0, 1) := by decide +kernel
theorem dX11_bitsOf_1 : decode cX11_bitsOf 1 = .ok (.istore_n 1, 1) := by decide +kernel
theorem dX11_bitsOf_2 : decode cX11_bitsOf 2 = .ok (.iconst 0, 1) := by decide +kernel
theorem dX11_bitsOf_3 : decode cX11_bitsOf 3 = .ok (.istore_n 2, 1) := by decide +kernel
theorem dX11_bitsOf_4 : decode cX11_bitsOf 4 = .ok (.iload_n 2, 1) := by decide +kernel
theorem dX11_bitsOf_5 : decode cX11_bitsOf 5 = .ok (.bipush 12, 2) := by decide +kernel
theorem dX11_bitsOf_7 : decode cX11_bitsOf 7 = .ok (.if_icmp .ge 17, 3) := by decide +kernel
theorem dX11_bitsOf_10 : decode cX11_bitsOf 10 = .ok (.iload_n 1, 1) := by decide +kernel
theorem dX11_bitsOf_11 : decode cX11_bitsOf 11 = .ok (.iload_n 0, 1) := by decide +kernel
theorem dX11_bitsOf_12 : decode cX11_bitsOf 12 = .ok (.iload_n 2, 1) := by decide +kernel
theorem dX11_bitsOf_13 : decode cX11_bitsOf 13 = .ok (.ishr, 1) := by decide +kernel
theorem dX11_bitsOf_14 : decode cX11_bitsOf 14 = .ok (.iconst 1, 1) := by decide +kernel
theorem dX11_bitsOf_15 : decode cX11_bitsOf 15 = .ok (.iand, 1) := by decide +kernel
theorem dX11_bitsOf_16 : decode cX11_bitsOf 16 = .ok (.iadd, 1) := by decide +kernel
theorem dX11_bitsOf_17 : decode cX11_bitsOf 17 = .ok (.istore_n 1, 1) := by decide +kernel
theorem dX11_bitsOf_18 : decode cX11_bitsOf 18 = .ok (.iinc 2 1, 3) := by decide +kernel
theorem dX11_bitsOf_21 : decode cX11_bitsOf 21 = .ok (.goto (-17), 3) := by decide +kernel
theorem dX11_bitsOf_24 : decode cX11_bitsOf 24 = .ok (.iload_n 1, 1) := by decide +kernel
theorem dX11_bitsOf_25 : decode cX11_bitsOf 25 = .ok (.ireturn, 1) := by decide +kernel
theorem dX11_unlikeAt_0 : decode cX11_unlikeAt 0 = .ok (.iconst 0, 1) := by decide +kernel
theorem dX11_unlikeAt_1 : decode cX11_unlikeAt 1 = .ok (.istore_n 3, 1) := by decide +kernel
theorem dX11_unlikeAt_2 : decode cX11_unlikeAt 2 = .ok (.iconst 0, 1) := by decide +kernel
theorem dX11_unlikeAt_3 : decode cX11_unlikeAt 3 = .ok (.istore 4, 2) := by decide +kernel
theorem dX11_unlikeAt_5 : decode cX11_unlikeAt 5 = .ok (.iload 4, 2) := by decide +kernel
theorem dX11_unlikeAt_7 : decode cX11_unlikeAt 7 = .ok (.aload_n 0, 1) := by decide +kernel
theorem dX11_unlikeAt_8 : decode cX11_unlikeAt 8 = .ok (.getfield 200, 3) := by decide +kernel
theorem dX11_unlikeAt_11 : decode cX11_unlikeAt 11 = .ok (.if_icmp .ge 37, 3) := by decide +kernel
theorem dX11_unlikeAt_14 : decode cX11_unlikeAt 14 = .ok (.iload_n 3, 1) := by decide +kernel
theorem dX11_unlikeAt_15 : decode cX11_unlikeAt 15 = .ok (.aload_n 0, 1) := by decide +kernel
theorem dX11_unlikeAt_16 : decode cX11_unlikeAt 16 = .ok (.iload_n 1, 1) := by decide +kernel
theorem dX11_unlikeAt_17 : decode cX11_unlikeAt 17 = .ok (.iload 4, 2) := by decide +kernel
theorem dX11_unlikeAt_19 : decode cX11_unlikeAt 19 = .ok (.invokevirtual 227, 3) := by decide +kernel
theorem dX11_unlikeAt_22 : decode cX11_unlikeAt 22 = .ok (.aload_n 0, 1) := by decide +kernel
theorem dX11_unlikeAt_23 : decode cX11_unlikeAt 23 = .ok (.iload_n 2, 1) := by decide +kernel
theorem dX11_unlikeAt_24 : decode cX11_unlikeAt 24 = .ok (.iload 4, 2) := by decide +kernel
theorem dX11_unlikeAt_26 : decode cX11_unlikeAt 26 = .ok (.invokevirtual 227, 3) := by decide +kernel
theorem dX11_unlikeAt_29 : decode cX11_unlikeAt 29 = .ok (.if_icmp .ne 7, 3) := by decide +kernel
theorem dX11_unlikeAt_32 : decode cX11_unlikeAt 32 = .ok (.iconst 0, 1) := by decide +kernel
theorem dX11_unlikeAt_33 : decode cX11_unlikeAt 33 = .ok (.goto 7, 3) := by decide +kernel
theorem dX11_unlikeAt_36 : decode cX11_unlikeAt 36 = .ok (.iconst 1, 1) := by decide +kernel
theorem dX11_unlikeAt_37 : decode cX11_unlikeAt 37 = .ok (.iload 4, 2) := by decide +kernel
theorem dX11_unlikeAt_39 : decode cX11_unlikeAt 39 = .ok (.ishl, 1) := by decide +kernel
theorem dX11_unlikeAt_40 : decode cX11_unlikeAt 40 = .ok (.ior, 1) := by decide +kernel
theorem dX11_unlikeAt_41 : decode cX11_unlikeAt 41 = .ok (.istore_n 3, 1) := by decide +kernel
theorem dX11_unlikeAt_42 : decode cX11_unlikeAt 42 = .ok (.iinc 4 1, 3) := by decide +kernel
theorem dX11_unlikeAt_45 : decode cX11_unlikeAt 45 = .ok (.goto (-40), 3) := by decide +kernel
theorem dX11_unlikeAt_48 : decode cX11_unlikeAt 48 = .ok (.iload_n 3, 1) := by decide +kernel
theorem dX11_unlikeAt_49 : decode cX11_unlikeAt 49 = .ok (.ireturn, 1) := by decide +kernel
theorem dX11_areSigns_0 : decode cX11_areSigns 0 = .ok (.iconst 1, 1) := by decide +kernel
theorem dX11_areSigns_1 : decode cX11_areSigns 1 = .ok (.istore_n 2, 1) := by decide +kernel
theorem dX11_areSigns_2 : decode cX11_areSigns 2 = .ok (.iconst 0, 1) := by decide +kernel
theorem dX11_areSigns_3 : decode cX11_areSigns 3 = .ok (.istore_n 3, 1) := by decide +kernel
theorem dX11_areSigns_4 : decode cX11_areSigns 4 = .ok (.iload_n 3, 1) := by decide +kernel
theorem dX11_areSigns_5 : decode cX11_areSigns 5 = .ok (.aload_n 0, 1) := by decide +kernel
theorem dX11_areSigns_6 : decode cX11_areSigns 6 = .ok (.getfield 203, 3) := by decide +kernel
theorem dX11_areSigns_9 : decode cX11_areSigns 9 = .ok (.if_icmp .ge 46, 3) := by decide +kernel
theorem dX11_areSigns_12 : decode cX11_areSigns 12 = .ok (.iconst 0, 1) := by decide +kernel
theorem dX11_areSigns_13 : decode cX11_areSigns 13 = .ok (.istore 4, 2) := by decide +kernel
theorem dX11_areSigns_15 : decode cX11_areSigns 15 = .ok (.iload 4, 2) := by decide +kernel
theorem dX11_areSigns_17 : decode cX11_areSigns 17 = .ok (.iload_n 3, 1) := by decide +kernel
theorem dX11_areSigns_18 : decode cX11_areSigns 18 = .ok (.if_icmp .ge 31, 3) := by decide +kernel
theorem dX11_areSigns_21 : decode cX11_areSigns 21 = .ok (.iload_n 2, 1) := by decide +kernel
theorem dX11_areSigns_22 : decode cX11_areSigns 22 = .ok (.ifCond .eq 19, 3) := by decide +kernel
theorem dX11_areSigns_25 : decode cX11_areSigns 25 = .ok (.aload_n 0, 1) := by decide +kernel
theorem dX11_areSigns_26 : decode cX11_areSigns 26 = .ok (.iload_n 3, 1) := by decide +kernel
theorem dX11_areSigns_27 : decode cX11_areSigns 27 = .ok (.iload 4, 2) := by decide +kernel
theorem dX11_areSigns_29 : decode cX11_areSigns 29 = .ok (.invokevirtual 328, 3) := by decide +kernel
theorem dX11_areSigns_32 : decode cX11_areSigns 32 = .ok (.iload_n 1, 1) := by decide +kernel
theorem dX11_areSigns_33 : decode cX11_areSigns 33 = .ok (.iand, 1) := by decide +kernel
theorem dX11_areSigns_34 : decode cX11_areSigns 34 = .ok (.ifCond .eq 7, 3) := by decide +kernel
theorem dX11_areSigns_37 : decode cX11_areSigns 37 = .ok (.iconst 1, 1) := by decide +kernel
theorem dX11_areSigns_38 : decode cX11_areSigns 38 = .ok (.goto 4, 3) := by decide +kernel
theorem dX11_areSigns_41 : decode cX11_areSigns 41 = .ok (.iconst 0, 1) := by decide +kernel
theorem dX11_areSigns_42 : decode cX11_areSigns 42 = .ok (.istore_n 2, 1) := by decide +kernel
theorem dX11_areSigns_43 : decode cX11_areSigns 43 = .ok (.iinc 4 1, 3) := by decide +kernel
theorem dX11_areSigns_46 : decode cX11_areSigns 46 = .ok (.goto (-31), 3) := by decide +kernel
theorem dX11_areSigns_49 : decode cX11_areSigns 49 = .ok (.iinc 3 1, 3) := by decide +kernel
theorem dX11_areSigns_52 : decode cX11_areSigns 52 = .ok (.goto (-48), 3) := by decide +kernel
theorem dX11_areSigns_55 : decode cX11_areSigns 55 = .ok (.iload_n 2, 1) := by decide +kernel
theorem dX11_areSigns_56 : decode cX11_areSigns 56 = .ok (.ireturn, 1) := by decide +kernel
theorem dX11_signs_0 : decode cX11_signs 0 = .ok (.aload_n 0, 1) := by decide +kernel
theorem dX11_signs_1 : decode cX11_signs 1 = .ok (.iload_n 1, 1) := by decide +kernel
theorem dX11_signs_2 : decode cX11_signs 2 = .ok (.invokevirtual 209, 3) := by decide +kernel
theorem dX11_signs_5 : decode cX11_signs 5 = .ok (.ifCond .ne 5, 3) := by decide +kernel
theorem dX11_signs_8 : decode cX11_signs 8 = .ok (.iconst (-1), 1) := by decide +kernel
theorem dX11_signs_9 : decode cX11_signs 9 = .ok (.ireturn, 1) := by decide +kernel
theorem dX11_signs_10 : decode cX11_signs 10 = .ok (.iconst (-1), 1) := by decide +kernel
theorem dX11_signs_11 : decode cX11_signs 11 = .ok (.istore_n 3, 1) := by decide +kernel
theorem dX11_signs_12 : decode cX11_signs 12 = .ok (.iconst 1, 1) := by decide +kernel
theorem dX11_signs_13 : decode cX11_signs 13 = .ok (.aload_n 0, 1) := by decide +kernel
theorem dX11_signs_14 : decode cX11_signs 14 = .ok (.getfield 200, 3) := by decide +kernel
theorem dX11_signs_17 : decode cX11_signs 17 = .ok (.ishl, 1) := by decide +kernel
theorem dX11_signs_18 : decode cX11_signs 18 = .ok (.iconst 1, 1) := by decide +kernel
theorem dX11_signs_19 : decode cX11_signs 19 = .ok (.isub, 1) := by decide +kernel
theorem dX11_signs_20 : decode cX11_signs 20 = .ok (.istore 4, 2) := by decide +kernel
theorem dX11_signs_22 : decode cX11_signs 22 = .ok (.iload 4, 2) := by decide +kernel
theorem dX11_signs_24 : decode cX11_signs 24 = .ok (.ifCond .lt 38, 3) := by decide +kernel
theorem dX11_signs_27 : decode cX11_signs 27 = .ok (.aload_n 0, 1) := by decide +kernel
theorem dX11_signs_28 : decode cX11_signs 28 = .ok (.iload 4, 2) := by decide +kernel
theorem dX11_signs_30 : decode cX11_signs 30 = .ok (.invokevirtual 331, 3) := by decide +kernel
theorem dX11_signs_33 : decode cX11_signs 33 = .ok (.ifCond .eq 23, 3) := by decide +kernel
theorem dX11_signs_36 : decode cX11_signs 36 = .ok (.iload_n 3, 1) := by decide +kernel
theorem dX11_signs_37 : decode cX11_signs 37 = .ok (.iconst (-1), 1) := by decide +kernel
theorem dX11_signs_38 : decode cX11_signs 38 = .ok (.if_icmp .eq 15, 3) := by decide +kernel
theorem dX11_signs_41 : decode cX11_signs 41 = .ok (.iload 4, 2) := by decide +kernel
theorem dX11_signs_43 : decode cX11_signs 43 = .ok (.invokestatic 334, 3) := by decide +kernel
theorem dX11_signs_46 : decode cX11_signs 46 = .ok (.iload_n 3, 1) := by decide +kernel
theorem dX11_signs_47 : decode cX11_signs 47 = .ok (.invokestatic 334, 3) := by decide +kernel
theorem dX11_signs_50 : decode cX11_signs 50 = .ok (.if_icmp .gt 6, 3) := by decide +kernel
theorem dX11_signs_53 : decode cX11_signs 53 = .ok (.iload 4, 2) := by decide +kernel
theorem dX11_signs_55 : decode cX11_signs 55 = .ok (.istore_n 3, 1) := by decide +kernel
theorem dX11_signs_56 : decode cX11_signs 56 = .ok (.iinc 4 (-1), 3) := by decide +kernel
theorem dX11_signs_59 : decode cX11_signs 59 = .ok (.goto (-37), 3) := by decide +kernel
theorem dX11_signs_62 : decode cX11_signs 62 = .ok (.iload_n 3, 1) := by decide +kernel
theorem dX11_signs_63 : decode cX11_signs 63 = .ok (.iconst (-1), 1) := by decide +kernel
theorem dX11_signs_64 : decode cX11_signs 64 = .ok (.if_icmp .eq 7, 3) := by decide +kernel
theorem dX11_signs_67 : decode cX11_signs 67 = .ok (.iload_n 2, 1) := by decide +kernel
theorem dX11_signs_68 : decode cX11_signs 68 = .ok (.ifCond .eq 7, 3) := by decide +kernel
theorem dX11_signs_71 : decode cX11_signs 71 = .ok (.iload_n 3, 1) := by decide +kernel
theorem dX11_signs_72 : decode cX11_signs 72 = .ok (.goto 7, 3) := by decide +kernel
theorem dX11_signs_75 : decode cX11_signs 75 = .ok (.iload_n 3, 1) := by decide +kernel
theorem dX11_signs_76 : decode cX11_signs 76 = .ok (.invokestatic 334, 3) := by decide +kernel
theorem dX11_signs_79 : decode cX11_signs 79 = .ok (.ireturn, 1) := by decide +kernel
theorem dX11_vote_0 : decode cX11_vote 0 = .ok (.aload_n 0, 1) := by decide +kernel
theorem dX11_vote_1 : decode cX11_vote 1 = .ok (.iload_n 1, 1) := by decide +kernel
theorem dX11_vote_2 : decode cX11_vote 2 = .ok (.invokevirtual 209, 3) := by decide +kernel
theorem dX11_vote_5 : decode cX11_vote 5 = .ok (.ifCond .eq 11, 3) := by decide +kernel
theorem dX11_vote_8 : decode cX11_vote 8 = .ok (.aload_n 0, 1) := by decide +kernel
theorem dX11_vote_9 : decode cX11_vote 9 = .ok (.iload_n 2, 1) := by decide +kernel
theorem dX11_vote_10 : decode cX11_vote 10 = .ok (.invokevirtual 212, 3) := by decide +kernel
theorem dX11_vote_13 : decode cX11_vote 13 = .ok (.ifCond .ne 5, 3) := by decide +kernel
theorem dX11_vote_16 : decode cX11_vote 16 = .ok (.iconst (-1), 1) := by decide +kernel
theorem dX11_vote_17 : decode cX11_vote 17 = .ok (.ireturn, 1) := by decide +kernel
theorem dX11_vote_18 : decode cX11_vote 18 = .ok (.iconst (-1), 1) := by decide +kernel
theorem dX11_vote_19 : decode cX11_vote 19 = .ok (.istore_n 3, 1) := by decide +kernel
theorem dX11_vote_20 : decode cX11_vote 20 = .ok (.iconst 0, 1) := by decide +kernel
theorem dX11_vote_21 : decode cX11_vote 21 = .ok (.istore 4, 2) := by decide +kernel
theorem dX11_vote_23 : decode cX11_vote 23 = .ok (.iconst 0, 1) := by decide +kernel
theorem dX11_vote_24 : decode cX11_vote 24 = .ok (.istore 5, 2) := by decide +kernel
theorem dX11_vote_26 : decode cX11_vote 26 = .ok (.iload 5, 2) := by decide +kernel
theorem dX11_vote_28 : decode cX11_vote 28 = .ok (.bipush 10, 2) := by decide +kernel
theorem dX11_vote_30 : decode cX11_vote 30 = .ok (.if_icmp .ge 69, 3) := by decide +kernel
theorem dX11_vote_33 : decode cX11_vote 33 = .ok (.iconst 0, 1) := by decide +kernel
theorem dX11_vote_34 : decode cX11_vote 34 = .ok (.istore 6, 2) := by decide +kernel
theorem dX11_vote_36 : decode cX11_vote 36 = .ok (.iconst 0, 1) := by decide +kernel
theorem dX11_vote_37 : decode cX11_vote 37 = .ok (.istore 7, 2) := by decide +kernel
theorem dX11_vote_39 : decode cX11_vote 39 = .ok (.iload 7, 2) := by decide +kernel
theorem dX11_vote_41 : decode cX11_vote 41 = .ok (.aload_n 0, 1) := by decide +kernel
theorem dX11_vote_42 : decode cX11_vote 42 = .ok (.getfield 203, 3) := by decide +kernel
theorem dX11_vote_45 : decode cX11_vote 45 = .ok (.if_icmp .ge 31, 3) := by decide +kernel
theorem dX11_vote_48 : decode cX11_vote 48 = .ok (.iload 6, 2) := by decide +kernel
theorem dX11_vote_50 : decode cX11_vote 50 = .ok (.aload_n 0, 1) := by decide +kernel
theorem dX11_vote_51 : decode cX11_vote 51 = .ok (.iload 7, 2) := by decide +kernel
theorem dX11_vote_53 : decode cX11_vote 53 = .ok (.iload_n 2, 1) := by decide +kernel
theorem dX11_vote_54 : decode cX11_vote 54 = .ok (.invokevirtual 227, 3) := by decide +kernel
theorem dX11_vote_57 : decode cX11_vote 57 = .ok (.iload 5, 2) := by decide +kernel
theorem dX11_vote_59 : decode cX11_vote 59 = .ok (.if_icmp .ne 7, 3) := by decide +kernel
theorem dX11_vote_62 : decode cX11_vote 62 = .ok (.iconst 1, 1) := by decide +kernel
theorem dX11_vote_63 : decode cX11_vote 63 = .ok (.goto 4, 3) := by decide +kernel
theorem dX11_vote_66 : decode cX11_vote 66 = .ok (.iconst 0, 1) := by decide +kernel
theorem dX11_vote_67 : decode cX11_vote 67 = .ok (.iadd, 1) := by decide +kernel
theorem dX11_vote_68 : decode cX11_vote 68 = .ok (.istore 6, 2) := by decide +kernel
theorem dX11_vote_70 : decode cX11_vote 70 = .ok (.iinc 7 1, 3) := by decide +kernel
theorem dX11_vote_73 : decode cX11_vote 73 = .ok (.goto (-34), 3) := by decide +kernel
theorem dX11_vote_76 : decode cX11_vote 76 = .ok (.iload 6, 2) := by decide +kernel
theorem dX11_vote_78 : decode cX11_vote 78 = .ok (.iload 4, 2) := by decide +kernel
theorem dX11_vote_80 : decode cX11_vote 80 = .ok (.if_icmp .gt 6, 3) := by decide +kernel
theorem dX11_vote_83 : decode cX11_vote 83 = .ok (.goto 10, 3) := by decide +kernel
theorem dX11_vote_86 : decode cX11_vote 86 = .ok (.iload 5, 2) := by decide +kernel
theorem dX11_vote_88 : decode cX11_vote 88 = .ok (.istore_n 3, 1) := by decide +kernel
theorem dX11_vote_89 : decode cX11_vote 89 = .ok (.iload 6, 2) := by decide +kernel
theorem dX11_vote_91 : decode cX11_vote 91 = .ok (.istore 4, 2) := by decide +kernel
theorem dX11_vote_93 : decode cX11_vote 93 = .ok (.iinc 5 1, 3) := by decide +kernel
theorem dX11_vote_96 : decode cX11_vote 96 = .ok (.goto (-70), 3) := by decide +kernel
theorem dX11_vote_99 : decode cX11_vote 99 = .ok (.iload_n 3, 1) := by decide +kernel
theorem dX11_vote_100 : decode cX11_vote 100 = .ok (.ireturn, 1) := by decide +kernel
theorem dX11_common_0 : decode cX11_common 0 = .ok (.lload_n 0, 1) := by decide +kernel
theorem dX11_common_1 : decode cX11_common 1 = .ok (.lstore 4, 2) := by decide +kernel
theorem dX11_common_3 : decode cX11_common 3 = .ok (.lload_n 2, 1) := by decide +kernel
theorem dX11_common_4 : decode cX11_common 4 = .ok (.lstore 6, 2) := by decide +kernel
theorem dX11_common_6 : decode cX11_common 6 = .ok (.lload 6, 2) := by decide +kernel
theorem dX11_common_8 : decode cX11_common 8 = .ok (.lconst 0, 1) := by decide +kernel
theorem dX11_common_9 : decode cX11_common 9 = .ok (.lcmp, 1) := by decide +kernel
theorem dX11_common_10 : decode cX11_common 10 = .ok (.ifCond .eq 21, 3) := by decide +kernel
theorem dX11_common_13 : decode cX11_common 13 = .ok (.lload 4, 2) := by decide +kernel
theorem dX11_common_15 : decode cX11_common 15 = .ok (.lload 6, 2) := by decide +kernel
theorem dX11_common_17 : decode cX11_common 17 = .ok (.lrem, 1) := by decide +kernel
theorem dX11_common_18 : decode cX11_common 18 = .ok (.lstore 8, 2) := by decide +kernel
theorem dX11_common_20 : decode cX11_common 20 = .ok (.lload 6, 2) := by decide +kernel
theorem dX11_common_22 : decode cX11_common 22 = .ok (.lstore 4, 2) := by decide +kernel
theorem dX11_common_24 : decode cX11_common 24 = .ok (.lload 8, 2) := by decide +kernel
theorem dX11_common_26 : decode cX11_common 26 = .ok (.lstore 6, 2) := by decide +kernel
theorem dX11_common_28 : decode cX11_common 28 = .ok (.goto (-22), 3) := by decide +kernel
theorem dX11_common_31 : decode cX11_common 31 = .ok (.lload 4, 2) := by decide +kernel
theorem dX11_common_33 : decode cX11_common 33 = .ok (.lreturn, 1) := by decide +kernel
theorem dX11_parted_0 : decode cX11_parted 0 = .ok (.iload 4, 2) := by decide +kernel
theorem dX11_parted_2 : decode cX11_parted 2 = .ok (.ifCond .eq 7, 3) := by decide +kernel
theorem dX11_parted_5 : decode cX11_parted 5 = .ok (.lload_n 2, 1) := by decide +kernel
theorem dX11_parted_6 : decode cX11_parted 6 = .ok (.goto 4, 3) := by decide +kernel
theorem dX11_parted_9 : decode cX11_parted 9 = .ok (.lload_n 0, 1) := by decide +kernel
theorem dX11_parted_10 : decode cX11_parted 10 = .ok (.lload_n 0, 1) := by decide +kernel
theorem dX11_parted_11 : decode cX11_parted 11 = .ok (.lload_n 2, 1) := by decide +kernel
theorem dX11_parted_12 : decode cX11_parted 12 = .ok (.invokestatic 337, 3) := by decide +kernel
theorem dX11_parted_15 : decode cX11_parted 15 = .ok (.ldiv, 1) := by decide +kernel
theorem dX11_parted_16 : decode cX11_parted 16 = .ok (.lreturn, 1) := by decide +kernel
theorem dX11_powerOf_0 : decode cX11_powerOf 0 = .ok (.lconst 1, 1) := by decide +kernel
theorem dX11_powerOf_1 : decode cX11_powerOf 1 = .ok (.lstore_n 3, 1) := by decide +kernel
theorem dX11_powerOf_2 : decode cX11_powerOf 2 = .ok (.iconst 0, 1) := by decide +kernel
theorem dX11_powerOf_3 : decode cX11_powerOf 3 = .ok (.istore 5, 2) := by decide +kernel
theorem dX11_powerOf_5 : decode cX11_powerOf 5 = .ok (.iload 5, 2) := by decide +kernel
theorem dX11_powerOf_7 : decode cX11_powerOf 7 = .ok (.iload_n 2, 1) := by decide +kernel
theorem dX11_powerOf_8 : decode cX11_powerOf 8 = .ok (.if_icmp .ge 13, 3) := by decide +kernel
theorem dX11_powerOf_11 : decode cX11_powerOf 11 = .ok (.lload_n 3, 1) := by decide +kernel
theorem dX11_powerOf_12 : decode cX11_powerOf 12 = .ok (.lload_n 0, 1) := by decide +kernel
theorem dX11_powerOf_13 : decode cX11_powerOf 13 = .ok (.lmul, 1) := by decide +kernel
theorem dX11_powerOf_14 : decode cX11_powerOf 14 = .ok (.lstore_n 3, 1) := by decide +kernel
theorem dX11_powerOf_15 : decode cX11_powerOf 15 = .ok (.iinc 5 1, 3) := by decide +kernel
theorem dX11_powerOf_18 : decode cX11_powerOf 18 = .ok (.goto (-13), 3) := by decide +kernel
theorem dX11_powerOf_21 : decode cX11_powerOf 21 = .ok (.lload_n 3, 1) := by decide +kernel
theorem dX11_powerOf_22 : decode cX11_powerOf 22 = .ok (.lreturn, 1) := by decide +kernel
theorem dX11_come_0 : decode cX11_come 0 = .ok (.aload_n 0, 1) := by decide +kernel
theorem dX11_come_1 : decode cX11_come 1 = .ok (.iload_n 1, 1) := by decide +kernel
theorem dX11_come_2 : decode cX11_come 2 = .ok (.invokevirtual 209, 3) := by decide +kernel
theorem dX11_come_5 : decode cX11_come 5 = .ok (.ifCond .eq 22, 3) := by decide +kernel
theorem dX11_come_8 : decode cX11_come 8 = .ok (.iload_n 2, 1) := by decide +kernel
theorem dX11_come_9 : decode cX11_come 9 = .ok (.iconst 0, 1) := by decide +kernel
theorem dX11_come_10 : decode cX11_come 10 = .ok (.bipush 10, 2) := by decide +kernel
theorem dX11_come_12 : decode cX11_come 12 = .ok (.invokestatic 132, 3) := by decide +kernel
theorem dX11_come_15 : decode cX11_come 15 = .ok (.ifCond .eq 12, 3) := by decide +kernel
theorem dX11_come_18 : decode cX11_come 18 = .ok (.iload_n 3, 1) := by decide +kernel
theorem dX11_come_19 : decode cX11_come 19 = .ok (.iconst 0, 1) := by decide +kernel
theorem dX11_come_20 : decode cX11_come 20 = .ok (.iconst 3, 1) := by decide +kernel
theorem dX11_come_21 : decode cX11_come 21 = .ok (.invokestatic 132, 3) := by decide +kernel
theorem dX11_come_24 : decode cX11_come 24 = .ok (.ifCond .ne 7, 3) := by decide +kernel
theorem dX11_come_27 : decode cX11_come 27 = .ok (.ldc2_w 341, 3) := by decide +kernel
theorem dX11_come_30 : decode cX11_come 30 = .ok (.lreturn, 1) := by decide +kernel
theorem dX11_come_31 : decode cX11_come 31 = .ok (.ldc2_w 343, 3) := by decide +kernel
theorem dX11_come_34 : decode cX11_come 34 = .ok (.iload_n 3, 1) := by decide +kernel
theorem dX11_come_35 : decode cX11_come 35 = .ok (.invokestatic 345, 3) := by decide +kernel
theorem dX11_come_38 : decode cX11_come 38 = .ok (.ldc2_w 343, 3) := by decide +kernel
theorem dX11_come_41 : decode cX11_come 41 = .ok (.iload_n 2, 1) := by decide +kernel
theorem dX11_come_42 : decode cX11_come 42 = .ok (.i2l, 1) := by decide +kernel
theorem dX11_come_43 : decode cX11_come 43 = .ok (.lsub, 1) := by decide +kernel
theorem dX11_come_44 : decode cX11_come 44 = .ok (.iload_n 3, 1) := by decide +kernel
theorem dX11_come_45 : decode cX11_come 45 = .ok (.invokestatic 345, 3) := by decide +kernel
theorem dX11_come_48 : decode cX11_come 48 = .ok (.lsub, 1) := by decide +kernel
theorem dX11_come_49 : decode cX11_come 49 = .ok (.lstore 5, 2) := by decide +kernel
theorem dX11_come_51 : decode cX11_come 51 = .ok (.lload 5, 2) := by decide +kernel
theorem dX11_come_53 : decode cX11_come 53 = .ok (.aload_n 0, 1) := by decide +kernel
theorem dX11_come_54 : decode cX11_come 54 = .ok (.getfield 203, 3) := by decide +kernel
theorem dX11_come_57 : decode cX11_come 57 = .ok (.invokestatic 345, 3) := by decide +kernel
theorem dX11_come_60 : decode cX11_come 60 = .ok (.ldc2_w 343, 3) := by decide +kernel
theorem dX11_come_63 : decode cX11_come 63 = .ok (.iload_n 3, 1) := by decide +kernel
theorem dX11_come_64 : decode cX11_come 64 = .ok (.aload_n 0, 1) := by decide +kernel
theorem dX11_come_65 : decode cX11_come 65 = .ok (.getfield 203, 3) := by decide +kernel

theorem dX10_init_0 : decode cX10_init 0 = .ok (.aload_n 0, 1) := by decide +kernel
theorem dX10_init_1 : decode cX10_init 1 = .ok (.invokespecial 1, 3) := by decide +kernel
theorem dX10_init_4 : decode cX10_init 4 = .ok (.aload_n 0, 1) := by decide +kernel
theorem dX10_init_5 : decode cX10_init 5 = .ok (.new 7, 3) := by decide +kernel
theorem dX10_init_8 : decode cX10_init 8 = .ok (.dup, 1) := by decide +kernel
theorem dX10_init_9 : decode cX10_init 9 = .ok (.invokespecial 9, 3) := by decide +kernel
theorem dX10_init_12 : decode cX10_init 12 = .ok (.putfield 10, 3) := by decide +kernel
theorem dX10_init_15 : decode cX10_init 15 = .ok (.aload_n 0, 1) := by decide +kernel
theorem dX10_init_16 : decode cX10_init 16 = .ok (.iconst 3, 1) := by decide +kernel
theorem dX10_init_17 : decode cX10_init 17 = .ok (.anewarray 7, 3) := by decide +kernel
theorem dX10_init_20 : decode cX10_init 20 = .ok (.putfield 16, 3) := by decide +kernel
theorem dX10_init_23 : decode cX10_init 23 = .ok (.aload_n 0, 1) := by decide +kernel
theorem dX10_init_24 : decode cX10_init 24 = .ok (.iconst 3, 1) := by decide +kernel
theorem dX10_init_25 : decode cX10_init 25 = .ok (.newarray .boolean, 2) := by decide +kernel
theorem dX10_init_27 : decode cX10_init 27 = .ok (.putfield 20, 3) := by decide +kernel
theorem dX10_init_30 : decode cX10_init 30 = .ok (.aload_n 0, 1) := by decide +kernel
theorem dX10_init_31 : decode cX10_init 31 = .ok (.new 24, 3) := by decide +kernel
theorem dX10_init_34 : decode cX10_init 34 = .ok (.dup, 1) := by decide +kernel
theorem dX10_init_35 : decode cX10_init 35 = .ok (.invokespecial 26, 3) := by decide +kernel
theorem dX10_init_38 : decode cX10_init 38 = .ok (.putfield 27, 3) := by decide +kernel
theorem dX10_init_41 : decode cX10_init 41 = .ok (.aload_n 0, 1) := by decide +kernel
theorem dX10_init_42 : decode cX10_init 42 = .ok (.new 31, 3) := by decide +kernel
theorem dX10_init_45 : decode cX10_init 45 = .ok (.dup, 1) := by decide +kernel
theorem dX10_init_46 : decode cX10_init 46 = .ok (.invokespecial 33, 3) := by decide +kernel
theorem dX10_init_49 : decode cX10_init 49 = .ok (.putfield 34, 3) := by decide +kernel
theorem dX10_init_52 : decode cX10_init 52 = .ok (.aload_n 0, 1) := by decide +kernel
theorem dX10_init_53 : decode cX10_init 53 = .ok (.new 38, 3) := by decide +kernel
theorem dX10_init_56 : decode cX10_init 56 = .ok (.dup, 1) := by decide +kernel
theorem dX10_init_57 : decode cX10_init 57 = .ok (.invokespecial 40, 3) := by decide +kernel
theorem dX10_init_60 : decode cX10_init 60 = .ok (.putfield 41, 3) := by decide +kernel
theorem dX10_init_63 : decode cX10_init 63 = .ok (.aload_n 0, 1) := by decide +kernel
theorem dX10_init_64 : decode cX10_init 64 = .ok (.new 45, 3) := by decide +kernel
theorem dX10_init_67 : decode cX10_init 67 = .ok (.dup, 1) := by decide +kernel
theorem dX10_init_68 : decode cX10_init 68 = .ok (.invokespecial 47, 3) := by decide +kernel
theorem dX10_init_71 : decode cX10_init 71 = .ok (.putfield 48, 3) := by decide +kernel
theorem dX10_init_74 : decode cX10_init 74 = .ok (.aload_n 0, 1) := by decide +kernel
theorem dX10_init_75 : decode cX10_init 75 = .ok (.new 52, 3) := by decide +kernel
theorem dX10_init_78 : decode cX10_init 78 = .ok (.dup, 1) := by decide +kernel
theorem dX10_init_79 : decode cX10_init 79 = .ok (.invokespecial 54, 3) := by decide +kernel
theorem dX10_init_82 : decode cX10_init 82 = .ok (.putfield 55, 3) := by decide +kernel
theorem dX10_init_85 : decode cX10_init 85 = .ok (.aload_n 0, 1) := by decide +kernel
theorem dX10_init_86 : decode cX10_init 86 = .ok (.new 59, 3) := by decide +kernel
theorem dX10_init_89 : decode cX10_init 89 = .ok (.dup, 1) := by decide +kernel
theorem dX10_init_90 : decode cX10_init 90 = .ok (.invokespecial 61, 3) := by decide +kernel
theorem dX10_init_93 : decode cX10_init 93 = .ok (.putfield 62, 3) := by decide +kernel
theorem dX10_init_96 : decode cX10_init 96 = .ok (.aload_n 0, 1) := by decide +kernel
theorem dX10_init_97 : decode cX10_init 97 = .ok (.bipush 10, 2) := by decide +kernel
theorem dX10_init_99 : decode cX10_init 99 = .ok (.newarray .int, 2) := by decide +kernel
theorem dX10_init_101 : decode cX10_init 101 = .ok (.putfield 66, 3) := by decide +kernel
theorem dX10_init_104 : decode cX10_init 104 = .ok (.aload_n 0, 1) := by decide +kernel
theorem dX10_init_105 : decode cX10_init 105 = .ok (.bipush 36, 2) := by decide +kernel
theorem dX10_init_107 : decode cX10_init 107 = .ok (.newarray .int, 2) := by decide +kernel
theorem dX10_init_109 : decode cX10_init 109 = .ok (.putfield 70, 3) := by decide +kernel
theorem dX10_init_112 : decode cX10_init 112 = .ok (.iconst 0, 1) := by decide +kernel
theorem dX10_init_113 : decode cX10_init 113 = .ok (.istore_n 1, 1) := by decide +kernel
theorem dX10_init_114 : decode cX10_init 114 = .ok (.iload_n 1, 1) := by decide +kernel
theorem dX10_init_115 : decode cX10_init 115 = .ok (.iconst 3, 1) := by decide +kernel
theorem dX10_init_116 : decode cX10_init 116 = .ok (.if_icmp .ge 22, 3) := by decide +kernel
theorem dX10_init_119 : decode cX10_init 119 = .ok (.aload_n 0, 1) := by decide +kernel
theorem dX10_init_120 : decode cX10_init 120 = .ok (.getfield 16, 3) := by decide +kernel
theorem dX10_init_123 : decode cX10_init 123 = .ok (.iload_n 1, 1) := by decide +kernel
theorem dX10_init_124 : decode cX10_init 124 = .ok (.new 7, 3) := by decide +kernel
theorem dX10_init_127 : decode cX10_init 127 = .ok (.dup, 1) := by decide +kernel
theorem dX10_init_128 : decode cX10_init 128 = .ok (.invokespecial 9, 3) := by decide +kernel
theorem dX10_init_131 : decode cX10_init 131 = .ok (.aastore, 1) := by decide +kernel
theorem dX10_init_132 : decode cX10_init 132 = .ok (.iinc 1 1, 3) := by decide +kernel
theorem dX10_init_135 : decode cX10_init 135 = .ok (.goto (-21), 3) := by decide +kernel
theorem dX10_init_138 : decode cX10_init 138 = .ok (.return_, 1) := by decide +kernel
theorem dX10_feed_0 : decode cX10_feed 0 = .ok (.aload_n 0, 1) := by decide +kernel
theorem dX10_feed_1 : decode cX10_feed 1 = .ok (.getfield 10, 3) := by decide +kernel
theorem dX10_feed_4 : decode cX10_feed 4 = .ok (.getfield 73, 3) := by decide +kernel
theorem dX10_feed_7 : decode cX10_feed 7 = .ok (.bipush 20, 2) := by decide +kernel
theorem dX10_feed_9 : decode cX10_feed 9 = .ok (.iadd, 1) := by decide +kernel
theorem dX10_feed_10 : decode cX10_feed 10 = .ok (.sipush 600, 3) := by decide +kernel
theorem dX10_feed_13 : decode cX10_feed 13 = .ok (.if_icmp .le 5, 3) := by decide +kernel
theorem dX10_feed_16 : decode cX10_feed 16 = .ok (.iconst (-1), 1) := by decide +kernel
theorem dX10_feed_17 : decode cX10_feed 17 = .ok (.ireturn, 1) := by decide +kernel
theorem dX10_feed_18 : decode cX10_feed 18 = .ok (.aload_n 0, 1) := by decide +kernel
theorem dX10_feed_19 : decode cX10_feed 19 = .ok (.getfield 10, 3) := by decide +kernel
theorem dX10_feed_22 : decode cX10_feed 22 = .ok (.iload_n 1, 1) := by decide +kernel
theorem dX10_feed_23 : decode cX10_feed 23 = .ok (.invokevirtual 77, 3) := by decide +kernel
theorem dX10_feed_26 : decode cX10_feed 26 = .ok (.aload_n 0, 1) := by decide +kernel
theorem dX10_feed_27 : decode cX10_feed 27 = .ok (.getfield 10, 3) := by decide +kernel
theorem dX10_feed_30 : decode cX10_feed 30 = .ok (.iload_n 2, 1) := by decide +kernel
theorem dX10_feed_31 : decode cX10_feed 31 = .ok (.invokevirtual 77, 3) := by decide +kernel
theorem dX10_feed_34 : decode cX10_feed 34 = .ok (.aload_n 0, 1) := by decide +kernel
theorem dX10_feed_35 : decode cX10_feed 35 = .ok (.getfield 10, 3) := by decide +kernel
theorem dX10_feed_38 : decode cX10_feed 38 = .ok (.iload_n 3, 1) := by decide +kernel
theorem dX10_feed_39 : decode cX10_feed 39 = .ok (.invokevirtual 77, 3) := by decide +kernel
theorem dX10_feed_42 : decode cX10_feed 42 = .ok (.aload_n 0, 1) := by decide +kernel
theorem dX10_feed_43 : decode cX10_feed 43 = .ok (.getfield 10, 3) := by decide +kernel
theorem dX10_feed_46 : decode cX10_feed 46 = .ok (.iload 4, 2) := by decide +kernel
theorem dX10_feed_48 : decode cX10_feed 48 = .ok (.invokevirtual 77, 3) := by decide +kernel
theorem dX10_feed_51 : decode cX10_feed 51 = .ok (.aload_n 0, 1) := by decide +kernel
theorem dX10_feed_52 : decode cX10_feed 52 = .ok (.getfield 10, 3) := by decide +kernel
theorem dX10_feed_55 : decode cX10_feed 55 = .ok (.iload 5, 2) := by decide +kernel
theorem dX10_feed_57 : decode cX10_feed 57 = .ok (.invokevirtual 77, 3) := by decide +kernel
theorem dX10_feed_60 : decode cX10_feed 60 = .ok (.aload_n 0, 1) := by decide +kernel
theorem dX10_feed_61 : decode cX10_feed 61 = .ok (.getfield 10, 3) := by decide +kernel
theorem dX10_feed_64 : decode cX10_feed 64 = .ok (.getfield 73, 3) := by decide +kernel
theorem dX10_feed_67 : decode cX10_feed 67 = .ok (.ireturn, 1) := by decide +kernel
theorem dX10_end_0 : decode cX10_end 0 = .ok (.iload_n 1, 1) := by decide +kernel
theorem dX10_end_1 : decode cX10_end 1 = .ok (.ifCond .lt 14, 3) := by decide +kernel
theorem dX10_end_4 : decode cX10_end 4 = .ok (.iload_n 1, 1) := by decide +kernel
theorem dX10_end_5 : decode cX10_end 5 = .ok (.aload_n 0, 1) := by decide +kernel
theorem dX10_end_6 : decode cX10_end 6 = .ok (.getfield 10, 3) := by decide +kernel
theorem dX10_end_9 : decode cX10_end 9 = .ok (.getfield 73, 3) := by decide +kernel
theorem dX10_end_12 : decode cX10_end 12 = .ok (.if_icmp .le 5, 3) := by decide +kernel
theorem dX10_end_15 : decode cX10_end 15 = .ok (.iconst (-1), 1) := by decide +kernel
theorem dX10_end_16 : decode cX10_end 16 = .ok (.ireturn, 1) := by decide +kernel
theorem dX10_end_17 : decode cX10_end 17 = .ok (.aload_n 0, 1) := by decide +kernel
theorem dX10_end_18 : decode cX10_end 18 = .ok (.getfield 10, 3) := by decide +kernel
theorem dX10_end_21 : decode cX10_end 21 = .ok (.iload_n 1, 1) := by decide +kernel
theorem dX10_end_22 : decode cX10_end 22 = .ok (.putfield 73, 3) := by decide +kernel
theorem dX10_end_25 : decode cX10_end 25 = .ok (.iload_n 1, 1) := by decide +kernel
theorem dX10_end_26 : decode cX10_end 26 = .ok (.ireturn, 1) := by decide +kernel
theorem dX10_text_0 : decode cX10_text 0 = .ok (.aload_n 0, 1) := by decide +kernel
theorem dX10_text_1 : decode cX10_text 1 = .ok (.getfield 10, 3) := by decide +kernel
theorem dX10_text_4 : decode cX10_text 4 = .ok (.getfield 73, 3) := by decide +kernel
theorem dX10_text_7 : decode cX10_text 7 = .ok (.istore_n 3, 1) := by decide +kernel
theorem dX10_text_8 : decode cX10_text 8 = .ok (.aload_n 0, 1) := by decide +kernel
theorem dX10_text_9 : decode cX10_text 9 = .ok (.getfield 10, 3) := by decide +kernel
theorem dX10_text_12 : decode cX10_text 12 = .ok (.iconst 0, 1) := by decide +kernel
theorem dX10_text_13 : decode cX10_text 13 = .ok (.putfield 73, 3) := by decide +kernel
theorem dX10_text_16 : decode cX10_text 16 = .ok (.aload_n 0, 1) := by decide +kernel
theorem dX10_text_17 : decode cX10_text 17 = .ok (.getfield 10, 3) := by decide +kernel
theorem dX10_text_20 : decode cX10_text 20 = .ok (.iconst 0, 1) := by decide +kernel
theorem dX10_text_21 : decode cX10_text 21 = .ok (.putfield 81, 3) := by decide +kernel
theorem dX10_text_24 : decode cX10_text 24 = .ok (.aload_n 0, 1) := by decide +kernel
theorem dX10_text_25 : decode cX10_text 25 = .ok (.getfield 10, 3) := by decide +kernel
theorem dX10_text_28 : decode cX10_text 28 = .ok (.iconst (-1), 1) := by decide +kernel
theorem dX10_text_29 : decode cX10_text 29 = .ok (.putfield 84, 3) := by decide +kernel
theorem dX10_text_32 : decode cX10_text 32 = .ok (.iload_n 1, 1) := by decide +kernel
theorem dX10_text_33 : decode cX10_text 33 = .ok (.ifCond .lt 8, 3) := by decide +kernel
theorem dX10_text_36 : decode cX10_text 36 = .ok (.iload_n 1, 1) := by decide +kernel
theorem dX10_text_37 : decode cX10_text 37 = .ok (.iconst 3, 1) := by decide +kernel
theorem dX10_text_38 : decode cX10_text 38 = .ok (.if_icmp .lt 6, 3) := by decide +kernel
theorem dX10_text_41 : decode cX10_text 41 = .ok (.bipush (-2), 2) := by decide +kernel
theorem dX10_text_43 : decode cX10_text 43 = .ok (.ireturn, 1) := by decide +kernel
theorem dX10_text_44 : decode cX10_text 44 = .ok (.iload_n 2, 1) := by decide +kernel
theorem dX10_text_45 : decode cX10_text 45 = .ok (.iconst (-1), 1) := by decide +kernel
theorem dX10_text_46 : decode cX10_text 46 = .ok (.if_icmp .ne 7, 3) := by decide +kernel
theorem dX10_text_49 : decode cX10_text 49 = .ok (.iconst 1, 1) := by decide +kernel
theorem dX10_text_50 : decode cX10_text 50 = .ok (.goto 4, 3) := by decide +kernel
theorem dX10_text_53 : decode cX10_text 53 = .ok (.iconst 0, 1) := by decide +kernel
theorem dX10_text_54 : decode cX10_text 54 = .ok (.istore 4, 2) := by decide +kernel
theorem dX10_text_56 : decode cX10_text 56 = .ok (.iload 4, 2) := by decide +kernel
theorem dX10_text_58 : decode cX10_text 58 = .ok (.ifCond .eq 19, 3) := by decide +kernel
theorem dX10_text_61 : decode cX10_text 61 = .ok (.aload_n 0, 1) := by decide +kernel
theorem dX10_text_62 : decode cX10_text 62 = .ok (.getfield 10, 3) := by decide +kernel
theorem dX10_text_65 : decode cX10_text 65 = .ok (.getfield 87, 3) := by decide +kernel
theorem dX10_text_68 : decode cX10_text 68 = .ok (.iload_n 1, 1) := by decide +kernel
theorem dX10_text_69 : decode cX10_text 69 = .ok (.iaload, 1) := by decide +kernel
theorem dX10_text_70 : decode cX10_text 70 = .ok (.iconst 2, 1) := by decide +kernel
theorem dX10_text_71 : decode cX10_text 71 = .ok (.if_icmp .lt 26, 3) := by decide +kernel
theorem dX10_text_74 : decode cX10_text 74 = .ok (.goto 20, 3) := by decide +kernel
theorem dX10_text_77 : decode cX10_text 77 = .ok (.iload_n 2, 1) := by decide +kernel
theorem dX10_text_78 : decode cX10_text 78 = .ok (.ifCond .lt 16, 3) := by decide +kernel
theorem dX10_text_81 : decode cX10_text 81 = .ok (.iload_n 2, 1) := by decide +kernel
theorem dX10_text_82 : decode cX10_text 82 = .ok (.aload_n 0, 1) := by decide +kernel
theorem dX10_text_83 : decode cX10_text 83 = .ok (.getfield 10, 3) := by decide +kernel
theorem dX10_text_86 : decode cX10_text 86 = .ok (.getfield 87, 3) := by decide +kernel
theorem dX10_text_89 : decode cX10_text 89 = .ok (.iload_n 1, 1) := by decide +kernel
theorem dX10_text_90 : decode cX10_text 90 = .ok (.iaload, 1) := by decide +kernel
theorem dX10_text_91 : decode cX10_text 91 = .ok (.if_icmp .lt 6, 3) := by decide +kernel
theorem dX10_text_94 : decode cX10_text 94 = .ok (.bipush (-2), 2) := by decide +kernel
theorem dX10_text_96 : decode cX10_text 96 = .ok (.ireturn, 1) := by decide +kernel
theorem dX10_text_97 : decode cX10_text 97 = .ok (.aload_n 0, 1) := by decide +kernel
theorem dX10_text_98 : decode cX10_text 98 = .ok (.getfield 27, 3) := by decide +kernel
theorem dX10_text_101 : decode cX10_text 101 = .ok (.aload_n 0, 1) := by decide +kernel
theorem dX10_text_102 : decode cX10_text 102 = .ok (.getfield 10, 3) := by decide +kernel
theorem dX10_text_105 : decode cX10_text 105 = .ok (.getfield 90, 3) := by decide +kernel
theorem dX10_text_108 : decode cX10_text 108 = .ok (.iload_n 3, 1) := by decide +kernel
theorem dX10_text_109 : decode cX10_text 109 = .ok (.iload_n 1, 1) := by decide +kernel
theorem dX10_text_110 : decode cX10_text 110 = .ok (.invokevirtual 94, 3) := by decide +kernel
theorem dX10_text_113 : decode cX10_text 113 = .ok (.aload_n 0, 1) := by decide +kernel
theorem dX10_text_114 : decode cX10_text 114 = .ok (.getfield 10, 3) := by decide +kernel
theorem dX10_text_117 : decode cX10_text 117 = .ok (.aload_n 0, 1) := by decide +kernel
theorem dX10_text_118 : decode cX10_text 118 = .ok (.getfield 27, 3) := by decide +kernel
theorem dX10_text_121 : decode cX10_text 121 = .ok (.getfield 98, 3) := by decide +kernel
theorem dX10_text_124 : decode cX10_text 124 = .ok (.putfield 81, 3) := by decide +kernel
theorem dX10_text_127 : decode cX10_text 127 = .ok (.aload_n 0, 1) := by decide +kernel
theorem dX10_text_128 : decode cX10_text 128 = .ok (.getfield 10, 3) := by decide +kernel
theorem dX10_text_131 : decode cX10_text 131 = .ok (.aload_n 0, 1) := by decide +kernel
theorem dX10_text_132 : decode cX10_text 132 = .ok (.getfield 27, 3) := by decide +kernel
theorem dX10_text_135 : decode cX10_text 135 = .ok (.getfield 101, 3) := by decide +kernel
theorem dX10_text_138 : decode cX10_text 138 = .ok (.putfield 84, 3) := by decide +kernel
theorem dX10_text_141 : decode cX10_text 141 = .ok (.aload_n 0, 1) := by decide +kernel
theorem dX10_text_142 : decode cX10_text 142 = .ok (.getfield 27, 3) := by decide +kernel
theorem dX10_text_145 : decode cX10_text 145 = .ok (.getfield 98, 3) := by decide +kernel
theorem dX10_text_148 : decode cX10_text 148 = .ok (.ifCond .eq 5, 3) := by decide +kernel
theorem dX10_text_151 : decode cX10_text 151 = .ok (.iconst (-1), 1) := by decide +kernel
theorem dX10_text_152 : decode cX10_text 152 = .ok (.ireturn, 1) := by decide +kernel
theorem dX10_text_153 : decode cX10_text 153 = .ok (.iload 4, 2) := by decide +kernel
theorem dX10_text_155 : decode cX10_text 155 = .ok (.ifCond .eq 15, 3) := by decide +kernel
theorem dX10_text_158 : decode cX10_text 158 = .ok (.aload_n 0, 1) := by decide +kernel
theorem dX10_text_159 : decode cX10_text 159 = .ok (.getfield 10, 3) := by decide +kernel
theorem dX10_text_162 : decode cX10_text 162 = .ok (.getfield 87, 3) := by decide +kernel
theorem dX10_text_165 : decode cX10_text 165 = .ok (.iload_n 1, 1) := by decide +kernel
theorem dX10_text_166 : decode cX10_text 166 = .ok (.iaload, 1) := by decide +kernel
theorem dX10_text_167 : decode cX10_text 167 = .ok (.goto 4, 3) := by decide +kernel
theorem dX10_text_170 : decode cX10_text 170 = .ok (.iload_n 2, 1) := by decide +kernel
theorem dX10_text_171 : decode cX10_text 171 = .ok (.istore 5, 2) := by decide +kernel
theorem dX10_text_173 : decode cX10_text 173 = .ok (.aload_n 0, 1) := by decide +kernel
theorem dX10_text_174 : decode cX10_text 174 = .ok (.getfield 10, 3) := by decide +kernel
theorem dX10_text_177 : decode cX10_text 177 = .ok (.aload_n 0, 1) := by decide +kernel
theorem dX10_text_178 : decode cX10_text 178 = .ok (.getfield 27, 3) := by decide +kernel
theorem dX10_text_181 : decode cX10_text 181 = .ok (.iload_n 1, 1) := by decide +kernel
theorem dX10_text_182 : decode cX10_text 182 = .ok (.iload 5, 2) := by decide +kernel
theorem dX10_text_184 : decode cX10_text 184 = .ok (.invokevirtual 102, 3) := by decide +kernel
theorem dX10_text_187 : decode cX10_text 187 = .ok (.aload_n 0, 1) := by decide +kernel
theorem dX10_text_188 : decode cX10_text 188 = .ok (.getfield 55, 3) := by decide +kernel
theorem dX10_text_191 : decode cX10_text 191 = .ok (.invokevirtual 105, 3) := by decide +kernel
theorem dX10_text_194 : decode cX10_text 194 = .ok (.iload 5, 2) := by decide +kernel
theorem dX10_text_196 : decode cX10_text 196 = .ok (.ireturn, 1) := by decide +kernel
theorem dX10_fault_0 : decode cX10_fault 0 = .ok (.iload_n 1, 1) := by decide +kernel
theorem dX10_fault_1 : decode cX10_fault 1 = .ok (.ifCond .ne 11, 3) := by decide +kernel
theorem dX10_fault_4 : decode cX10_fault 4 = .ok (.aload_n 0, 1) := by decide +kernel
theorem dX10_fault_5 : decode cX10_fault 5 = .ok (.getfield 10, 3) := by decide +kernel
theorem dX10_fault_8 : decode cX10_fault 8 = .ok (.getfield 81, 3) := by decide +kernel
theorem dX10_fault_11 : decode cX10_fault 11 = .ok (.ireturn, 1) := by decide +kernel
theorem dX10_fault_12 : decode cX10_fault 12 = .ok (.iload_n 1, 1) := by decide +kernel
theorem dX10_fault_13 : decode cX10_fault 13 = .ok (.iconst 1, 1) := by decide +kernel
theorem dX10_fault_14 : decode cX10_fault 14 = .ok (.if_icmp .ne 13, 3) := by decide +kernel
theorem dX10_fault_17 : decode cX10_fault 17 = .ok (.aload_n 0, 1) := by decide +kernel
theorem dX10_fault_18 : decode cX10_fault 18 = .ok (.getfield 10, 3) := by decide +kernel
theorem dX10_fault_21 : decode cX10_fault 21 = .ok (.getfield 84, 3) := by decide +kernel
theorem dX10_fault_24 : decode cX10_fault 24 = .ok (.goto 4, 3) := by decide +kernel
theorem dX10_fault_27 : decode cX10_fault 27 = .ok (.iconst (-1), 1) := by decide +kernel
theorem dX10_fault_28 : decode cX10_fault 28 = .ok (.ireturn, 1) := by decide +kernel
theorem dX10_count_0 : decode cX10_count 0 = .ok (.iload_n 1, 1) := by decide +kernel
theorem dX10_count_1 : decode cX10_count 1 = .ok (.ifCond .lt 8, 3) := by decide +kernel
theorem dX10_count_4 : decode cX10_count 4 = .ok (.iload_n 1, 1) := by decide +kernel
theorem dX10_count_5 : decode cX10_count 5 = .ok (.iconst 3, 1) := by decide +kernel
theorem dX10_count_6 : decode cX10_count 6 = .ok (.if_icmp .lt 8, 3) := by decide +kernel
theorem dX10_count_9 : decode cX10_count 9 = .ok (.bipush (-2), 2) := by decide +kernel
theorem dX10_count_11 : decode cX10_count 11 = .ok (.goto 12, 3) := by decide +kernel
theorem dX10_count_14 : decode cX10_count 14 = .ok (.aload_n 0, 1) := by decide +kernel
theorem dX10_count_15 : decode cX10_count 15 = .ok (.getfield 10, 3) := by decide +kernel
theorem dX10_count_18 : decode cX10_count 18 = .ok (.getfield 87, 3) := by decide +kernel
theorem dX10_count_21 : decode cX10_count 21 = .ok (.iload_n 1, 1) := by decide +kernel
theorem dX10_count_22 : decode cX10_count 22 = .ok (.iaload, 1) := by decide +kernel
theorem dX10_count_23 : decode cX10_count 23 = .ok (.ireturn, 1) := by decide +kernel
theorem dX10_image_0 : decode cX10_image 0 = .ok (.iload_n 1, 1) := by decide +kernel
theorem dX10_image_1 : decode cX10_image 1 = .ok (.ifCond .lt 8, 3) := by decide +kernel
theorem dX10_image_4 : decode cX10_image 4 = .ok (.iload_n 1, 1) := by decide +kernel
theorem dX10_image_5 : decode cX10_image 5 = .ok (.iconst 3, 1) := by decide +kernel
theorem dX10_image_6 : decode cX10_image 6 = .ok (.if_icmp .lt 5, 3) := by decide +kernel
theorem dX10_image_9 : decode cX10_image 9 = .ok (.iconst 0, 1) := by decide +kernel
theorem dX10_image_10 : decode cX10_image 10 = .ok (.ireturn, 1) := by decide +kernel
theorem dX10_image_11 : decode cX10_image 11 = .ok (.aload_n 0, 1) := by decide +kernel
theorem dX10_image_12 : decode cX10_image 12 = .ok (.getfield 16, 3) := by decide +kernel
theorem dX10_image_15 : decode cX10_image 15 = .ok (.iload_n 1, 1) := by decide +kernel
theorem dX10_image_16 : decode cX10_image 16 = .ok (.aaload, 1) := by decide +kernel
theorem dX10_image_17 : decode cX10_image 17 = .ok (.aload_n 0, 1) := by decide +kernel
theorem dX10_image_18 : decode cX10_image 18 = .ok (.getfield 10, 3) := by decide +kernel
theorem dX10_image_21 : decode cX10_image 21 = .ok (.invokevirtual 108, 3) := by decide +kernel
theorem dX10_image_24 : decode cX10_image 24 = .ok (.aload_n 0, 1) := by decide +kernel
theorem dX10_image_25 : decode cX10_image 25 = .ok (.getfield 20, 3) := by decide +kernel
theorem dX10_image_28 : decode cX10_image 28 = .ok (.iload_n 1, 1) := by decide +kernel
theorem dX10_image_29 : decode cX10_image 29 = .ok (.iconst 1, 1) := by decide +kernel
theorem dX10_image_30 : decode cX10_image 30 = .ok (.bastore, 1) := by decide +kernel
theorem dX10_image_31 : decode cX10_image 31 = .ok (.iconst 1, 1) := by decide +kernel
theorem dX10_image_32 : decode cX10_image 32 = .ok (.ireturn, 1) := by decide +kernel
theorem dX10_again_0 : decode cX10_again 0 = .ok (.iload_n 1, 1) := by decide +kernel
theorem dX10_again_1 : decode cX10_again 1 = .ok (.ifCond .lt 17, 3) := by decide +kernel
theorem dX10_again_4 : decode cX10_again 4 = .ok (.iload_n 1, 1) := by decide +kernel
theorem dX10_again_5 : decode cX10_again 5 = .ok (.iconst 3, 1) := by decide +kernel
theorem dX10_again_6 : decode cX10_again 6 = .ok (.if_icmp .ge 12, 3) := by decide +kernel
theorem dX10_again_9 : decode cX10_again 9 = .ok (.aload_n 0, 1) := by decide +kernel
theorem dX10_again_10 : decode cX10_again 10 = .ok (.getfield 20, 3) := by decide +kernel
theorem dX10_again_13 : decode cX10_again 13 = .ok (.iload_n 1, 1) := by decide +kernel
theorem dX10_again_14 : decode cX10_again 14 = .ok (.baload, 1) := by decide +kernel
theorem dX10_again_15 : decode cX10_again 15 = .ok (.ifCond .ne 5, 3) := by decide +kernel
theorem dX10_again_18 : decode cX10_again 18 = .ok (.iconst 0, 1) := by decide +kernel
theorem dX10_again_19 : decode cX10_again 19 = .ok (.ireturn, 1) := by decide +kernel
theorem dX10_again_20 : decode cX10_again 20 = .ok (.aload_n 0, 1) := by decide +kernel
theorem dX10_again_21 : decode cX10_again 21 = .ok (.getfield 10, 3) := by decide +kernel
theorem dX10_again_24 : decode cX10_again 24 = .ok (.aload_n 0, 1) := by decide +kernel
theorem dX10_again_25 : decode cX10_again 25 = .ok (.getfield 16, 3) := by decide +kernel
theorem dX10_again_28 : decode cX10_again 28 = .ok (.iload_n 1, 1) := by decide +kernel
theorem dX10_again_29 : decode cX10_again 29 = .ok (.aaload, 1) := by decide +kernel
theorem dX10_again_30 : decode cX10_again 30 = .ok (.invokevirtual 108, 3) := by decide +kernel
theorem dX10_again_33 : decode cX10_again 33 = .ok (.aload_n 0, 1) := by decide +kernel
theorem dX10_again_34 : decode cX10_again 34 = .ok (.getfield 55, 3) := by decide +kernel
theorem dX10_again_37 : decode cX10_again 37 = .ok (.invokevirtual 105, 3) := by decide +kernel
theorem dX10_again_40 : decode cX10_again 40 = .ok (.iconst 1, 1) := by decide +kernel
theorem dX10_again_41 : decode cX10_again 41 = .ok (.ireturn, 1) := by decide +kernel
theorem dX10_paperAt_0 : decode cX10_paperAt 0 = .ok (.iload_n 1, 1) := by decide +kernel
theorem dX10_paperAt_1 : decode cX10_paperAt 1 = .ok (.ifCond .lt 16, 3) := by decide +kernel
theorem dX10_paperAt_4 : decode cX10_paperAt 4 = .ok (.iload_n 1, 1) := by decide +kernel
theorem dX10_paperAt_5 : decode cX10_paperAt 5 = .ok (.aload_n 0, 1) := by decide +kernel
theorem dX10_paperAt_6 : decode cX10_paperAt 6 = .ok (.getfield 10, 3) := by decide +kernel
theorem dX10_paperAt_9 : decode cX10_paperAt 9 = .ok (.getfield 87, 3) := by decide +kernel
theorem dX10_paperAt_12 : decode cX10_paperAt 12 = .ok (.iconst 0, 1) := by decide +kernel
theorem dX10_paperAt_13 : decode cX10_paperAt 13 = .ok (.iaload, 1) := by decide +kernel
theorem dX10_paperAt_14 : decode cX10_paperAt 14 = .ok (.if_icmp .lt 7, 3) := by decide +kernel
theorem dX10_paperAt_17 : decode cX10_paperAt 17 = .ok (.aconst_null, 1) := by decide +kernel
theorem dX10_paperAt_18 : decode cX10_paperAt 18 = .ok (.goto 12, 3) := by decide +kernel
theorem dX10_paperAt_21 : decode cX10_paperAt 21 = .ok (.aload_n 0, 1) := by decide +kernel
theorem dX10_paperAt_22 : decode cX10_paperAt 22 = .ok (.getfield 10, 3) := by decide +kernel
theorem dX10_paperAt_25 : decode cX10_paperAt 25 = .ok (.getfield 112, 3) := by decide +kernel
theorem dX10_paperAt_28 : decode cX10_paperAt 28 = .ok (.iload_n 1, 1) := by decide +kernel
theorem dX10_paperAt_29 : decode cX10_paperAt 29 = .ok (.aaload, 1) := by decide +kernel
theorem dX10_paperAt_30 : decode cX10_paperAt 30 = .ok (.areturn, 1) := by decide +kernel
theorem dX10_weekAt_0 : decode cX10_weekAt 0 = .ok (.iload_n 1, 1) := by decide +kernel
theorem dX10_weekAt_1 : decode cX10_weekAt 1 = .ok (.ifCond .lt 16, 3) := by decide +kernel
theorem dX10_weekAt_4 : decode cX10_weekAt 4 = .ok (.iload_n 1, 1) := by decide +kernel
theorem dX10_weekAt_5 : decode cX10_weekAt 5 = .ok (.aload_n 0, 1) := by decide +kernel
theorem dX10_weekAt_6 : decode cX10_weekAt 6 = .ok (.getfield 10, 3) := by decide +kernel
theorem dX10_weekAt_9 : decode cX10_weekAt 9 = .ok (.getfield 87, 3) := by decide +kernel
theorem dX10_weekAt_12 : decode cX10_weekAt 12 = .ok (.iconst 1, 1) := by decide +kernel
theorem dX10_weekAt_13 : decode cX10_weekAt 13 = .ok (.iaload, 1) := by decide +kernel
theorem dX10_weekAt_14 : decode cX10_weekAt 14 = .ok (.if_icmp .lt 7, 3) := by decide +kernel
theorem dX10_weekAt_17 : decode cX10_weekAt 17 = .ok (.aconst_null, 1) := by decide +kernel
theorem dX10_weekAt_18 : decode cX10_weekAt 18 = .ok (.goto 12, 3) := by decide +kernel
theorem dX10_weekAt_21 : decode cX10_weekAt 21 = .ok (.aload_n 0, 1) := by decide +kernel
theorem dX10_weekAt_22 : decode cX10_weekAt 22 = .ok (.getfield 10, 3) := by decide +kernel
theorem dX10_weekAt_25 : decode cX10_weekAt 25 = .ok (.getfield 116, 3) := by decide +kernel
theorem dX10_weekAt_28 : decode cX10_weekAt 28 = .ok (.iload_n 1, 1) := by decide +kernel
theorem dX10_weekAt_29 : decode cX10_weekAt 29 = .ok (.aaload, 1) := by decide +kernel
theorem dX10_weekAt_30 : decode cX10_weekAt 30 = .ok (.areturn, 1) := by decide +kernel
theorem dX10_logAt_0 : decode cX10_logAt 0 = .ok (.iload_n 1, 1) := by decide +kernel
theorem dX10_logAt_1 : decode cX10_logAt 1 = .ok (.ifCond .lt 16, 3) := by decide +kernel
theorem dX10_logAt_4 : decode cX10_logAt 4 = .ok (.iload_n 1, 1) := by decide +kernel
theorem dX10_logAt_5 : decode cX10_logAt 5 = .ok (.aload_n 0, 1) := by decide +kernel
theorem dX10_logAt_6 : decode cX10_logAt 6 = .ok (.getfield 10, 3) := by decide +kernel
theorem dX10_logAt_9 : decode cX10_logAt 9 = .ok (.getfield 87, 3) := by decide +kernel
theorem dX10_logAt_12 : decode cX10_logAt 12 = .ok (.iconst 2, 1) := by decide +kernel
theorem dX10_logAt_13 : decode cX10_logAt 13 = .ok (.iaload, 1) := by decide +kernel
theorem dX10_logAt_14 : decode cX10_logAt 14 = .ok (.if_icmp .lt 7, 3) := by decide +kernel
theorem dX10_logAt_17 : decode cX10_logAt 17 = .ok (.aconst_null, 1) := by decide +kernel
theorem dX10_logAt_18 : decode cX10_logAt 18 = .ok (.goto 12, 3) := by decide +kernel
theorem dX10_logAt_21 : decode cX10_logAt 21 = .ok (.aload_n 0, 1) := by decide +kernel
theorem dX10_logAt_22 : decode cX10_logAt 22 = .ok (.getfield 10, 3) := by decide +kernel
theorem dX10_logAt_25 : decode cX10_logAt 25 = .ok (.getfield 120, 3) := by decide +kernel
theorem dX10_logAt_28 : decode cX10_logAt 28 = .ok (.iload_n 1, 1) := by decide +kernel
theorem dX10_logAt_29 : decode cX10_logAt 29 = .ok (.aaload, 1) := by decide +kernel
theorem dX10_logAt_30 : decode cX10_logAt 30 = .ok (.areturn, 1) := by decide +kernel
theorem dX10_paper_0 : decode cX10_paper 0 = .ok (.aload_n 0, 1) := by decide +kernel
theorem dX10_paper_1 : decode cX10_paper 1 = .ok (.iload_n 1, 1) := by decide +kernel
theorem dX10_paper_2 : decode cX10_paper 2 = .ok (.invokevirtual 124, 3) := by decide +kernel
theorem dX10_paper_5 : decode cX10_paper 5 = .ok (.astore_n 3, 1) := by decide +kernel
theorem dX10_paper_6 : decode cX10_paper 6 = .ok (.aload_n 3, 1) := by decide +kernel
theorem dX10_paper_7 : decode cX10_paper 7 = .ok (.ifnonnull 7, 3) := by decide +kernel
theorem dX10_paper_10 : decode cX10_paper 10 = .ok (.iconst (-1), 1) := by decide +kernel
theorem dX10_paper_11 : decode cX10_paper 11 = .ok (.goto 8, 3) := by decide +kernel
theorem dX10_paper_14 : decode cX10_paper 14 = .ok (.aload_n 3, 1) := by decide +kernel
theorem dX10_paper_15 : decode cX10_paper 15 = .ok (.iload_n 2, 1) := by decide +kernel
theorem dX10_paper_16 : decode cX10_paper 16 = .ok (.invokevirtual 128, 3) := by decide +kernel
theorem dX10_paper_19 : decode cX10_paper 19 = .ok (.ireturn, 1) := by decide +kernel
theorem dX10_deed_0 : decode cX10_deed 0 = .ok (.aload_n 0, 1) := by decide +kernel
theorem dX10_deed_1 : decode cX10_deed 1 = .ok (.iload_n 1, 1) := by decide +kernel
theorem dX10_deed_2 : decode cX10_deed 2 = .ok (.invokevirtual 134, 3) := by decide +kernel
theorem dX10_deed_5 : decode cX10_deed 5 = .ok (.astore 4, 2) := by decide +kernel
theorem dX10_deed_7 : decode cX10_deed 7 = .ok (.aload 4, 2) := by decide +kernel
theorem dX10_deed_9 : decode cX10_deed 9 = .ok (.ifnonnull 6, 3) := by decide +kernel
theorem dX10_deed_12 : decode cX10_deed 12 = .ok (.bipush (-2), 2) := by decide +kernel
theorem dX10_deed_14 : decode cX10_deed 14 = .ok (.ireturn, 1) := by decide +kernel
theorem dX10_deed_15 : decode cX10_deed 15 = .ok (.iload_n 2, 1) := by decide +kernel
theorem dX10_deed_16 : decode cX10_deed 16 = .ok (.iconst (-1), 1) := by decide +kernel
theorem dX10_deed_17 : decode cX10_deed 17 = .ok (.if_icmp .ne 13, 3) := by decide +kernel
theorem dX10_deed_20 : decode cX10_deed 20 = .ok (.iload_n 3, 1) := by decide +kernel
theorem dX10_deed_21 : decode cX10_deed 21 = .ok (.ifCond .ne 9, 3) := by decide +kernel
theorem dX10_deed_24 : decode cX10_deed 24 = .ok (.aload 4, 2) := by decide +kernel
theorem dX10_deed_26 : decode cX10_deed 26 = .ok (.getfield 138, 3) := by decide +kernel
theorem dX10_deed_29 : decode cX10_deed 29 = .ok (.ireturn, 1) := by decide +kernel
theorem dX10_deed_30 : decode cX10_deed 30 = .ok (.iload_n 2, 1) := by decide +kernel
theorem dX10_deed_31 : decode cX10_deed 31 = .ok (.ifCond .lt 21, 3) := by decide +kernel
theorem dX10_deed_34 : decode cX10_deed 34 = .ok (.iload_n 2, 1) := by decide +kernel
theorem dX10_deed_35 : decode cX10_deed 35 = .ok (.aload 4, 2) := by decide +kernel
theorem dX10_deed_37 : decode cX10_deed 37 = .ok (.getfield 138, 3) := by decide +kernel
theorem dX10_deed_40 : decode cX10_deed 40 = .ok (.if_icmp .ge 12, 3) := by decide +kernel
theorem dX10_deed_43 : decode cX10_deed 43 = .ok (.iload_n 3, 1) := by decide +kernel
theorem dX10_deed_44 : decode cX10_deed 44 = .ok (.ifCond .lt 8, 3) := by decide +kernel
theorem dX10_deed_47 : decode cX10_deed 47 = .ok (.iload_n 3, 1) := by decide +kernel
theorem dX10_deed_48 : decode cX10_deed 48 = .ok (.iconst 2, 1) := by decide +kernel
theorem dX10_deed_49 : decode cX10_deed 49 = .ok (.if_icmp .le 6, 3) := by decide +kernel
theorem dX10_deed_52 : decode cX10_deed 52 = .ok (.bipush (-2), 2) := by decide +kernel
theorem dX10_deed_54 : decode cX10_deed 54 = .ok (.ireturn, 1) := by decide +kernel
theorem dX10_deed_55 : decode cX10_deed 55 = .ok (.iload_n 3, 1) := by decide +kernel
theorem dX10_deed_56 : decode cX10_deed 56 = .ok (.ifCond .ne 11, 3) := by decide +kernel
theorem dX10_deed_59 : decode cX10_deed 59 = .ok (.aload 4, 2) := by decide +kernel
theorem dX10_deed_61 : decode cX10_deed 61 = .ok (.getfield 143, 3) := by decide +kernel
theorem dX10_deed_64 : decode cX10_deed 64 = .ok (.iload_n 2, 1) := by decide +kernel
theorem dX10_deed_65 : decode cX10_deed 65 = .ok (.iaload, 1) := by decide +kernel
theorem dX10_deed_66 : decode cX10_deed 66 = .ok (.ireturn, 1) := by decide +kernel
theorem dX10_deed_67 : decode cX10_deed 67 = .ok (.iload_n 3, 1) := by decide +kernel
theorem dX10_deed_68 : decode cX10_deed 68 = .ok (.iconst 1, 1) := by decide +kernel
theorem dX10_deed_69 : decode cX10_deed 69 = .ok (.if_icmp .ne 13, 3) := by decide +kernel
theorem dX10_deed_72 : decode cX10_deed 72 = .ok (.aload 4, 2) := by decide +kernel
theorem dX10_deed_74 : decode cX10_deed 74 = .ok (.getfield 146, 3) := by decide +kernel
theorem dX10_deed_77 : decode cX10_deed 77 = .ok (.iload_n 2, 1) := by decide +kernel
theorem dX10_deed_78 : decode cX10_deed 78 = .ok (.iaload, 1) := by decide +kernel
theorem dX10_deed_79 : decode cX10_deed 79 = .ok (.goto 10, 3) := by decide +kernel
theorem dX10_deed_82 : decode cX10_deed 82 = .ok (.aload 4, 2) := by decide +kernel
theorem dX10_deed_84 : decode cX10_deed 84 = .ok (.getfield 149, 3) := by decide +kernel
theorem dX10_deed_87 : decode cX10_deed 87 = .ok (.iload_n 2, 1) := by decide +kernel
theorem dX10_deed_88 : decode cX10_deed 88 = .ok (.iaload, 1) := by decide +kernel
theorem dX10_deed_89 : decode cX10_deed 89 = .ok (.ireturn, 1) := by decide +kernel
theorem dX10_fact_0 : decode cX10_fact 0 = .ok (.aload_n 0, 1) := by decide +kernel
theorem dX10_fact_1 : decode cX10_fact 1 = .ok (.iload_n 1, 1) := by decide +kernel
theorem dX10_fact_2 : decode cX10_fact 2 = .ok (.invokevirtual 152, 3) := by decide +kernel
theorem dX10_fact_5 : decode cX10_fact 5 = .ok (.astore 4, 2) := by decide +kernel
theorem dX10_fact_7 : decode cX10_fact 7 = .ok (.aload 4, 2) := by decide +kernel
theorem dX10_fact_9 : decode cX10_fact 9 = .ok (.ifnonnull 6, 3) := by decide +kernel
theorem dX10_fact_12 : decode cX10_fact 12 = .ok (.bipush (-2), 2) := by decide +kernel
theorem dX10_fact_14 : decode cX10_fact 14 = .ok (.ireturn, 1) := by decide +kernel
theorem dX10_fact_15 : decode cX10_fact 15 = .ok (.iload_n 2, 1) := by decide +kernel
theorem dX10_fact_16 : decode cX10_fact 16 = .ok (.iconst (-1), 1) := by decide +kernel
theorem dX10_fact_17 : decode cX10_fact 17 = .ok (.if_icmp .ne 13, 3) := by decide +kernel
theorem dX10_fact_20 : decode cX10_fact 20 = .ok (.iload_n 3, 1) := by decide +kernel
theorem dX10_fact_21 : decode cX10_fact 21 = .ok (.ifCond .ne 9, 3) := by decide +kernel
theorem dX10_fact_24 : decode cX10_fact 24 = .ok (.aload 4, 2) := by decide +kernel
theorem dX10_fact_26 : decode cX10_fact 26 = .ok (.getfield 156, 3) := by decide +kernel
theorem dX10_fact_29 : decode cX10_fact 29 = .ok (.ireturn, 1) := by decide +kernel
theorem dX10_fact_30 : decode cX10_fact 30 = .ok (.iload_n 2, 1) := by decide +kernel
theorem dX10_fact_31 : decode cX10_fact 31 = .ok (.ifCond .lt 21, 3) := by decide +kernel
theorem dX10_fact_34 : decode cX10_fact 34 = .ok (.iload_n 2, 1) := by decide +kernel
theorem dX10_fact_35 : decode cX10_fact 35 = .ok (.aload 4, 2) := by decide +kernel
theorem dX10_fact_37 : decode cX10_fact 37 = .ok (.getfield 156, 3) := by decide +kernel
theorem dX10_fact_40 : decode cX10_fact 40 = .ok (.if_icmp .ge 12, 3) := by decide +kernel
theorem dX10_fact_43 : decode cX10_fact 43 = .ok (.iload_n 3, 1) := by decide +kernel
theorem dX10_fact_44 : decode cX10_fact 44 = .ok (.ifCond .lt 8, 3) := by decide +kernel
theorem dX10_fact_47 : decode cX10_fact 47 = .ok (.iload_n 3, 1) := by decide +kernel
theorem dX10_fact_48 : decode cX10_fact 48 = .ok (.iconst 1, 1) := by decide +kernel
theorem dX10_fact_49 : decode cX10_fact 49 = .ok (.if_icmp .le 6, 3) := by decide +kernel
theorem dX10_fact_52 : decode cX10_fact 52 = .ok (.bipush (-2), 2) := by decide +kernel
theorem dX10_fact_54 : decode cX10_fact 54 = .ok (.ireturn, 1) := by decide +kernel
theorem dX10_fact_55 : decode cX10_fact 55 = .ok (.iload_n 3, 1) := by decide +kernel
theorem dX10_fact_56 : decode cX10_fact 56 = .ok (.ifCond .ne 13, 3) := by decide +kernel
theorem dX10_fact_59 : decode cX10_fact 59 = .ok (.aload 4, 2) := by decide +kernel
theorem dX10_fact_61 : decode cX10_fact 61 = .ok (.getfield 161, 3) := by decide +kernel
theorem dX10_fact_64 : decode cX10_fact 64 = .ok (.iload_n 2, 1) := by decide +kernel
theorem dX10_fact_65 : decode cX10_fact 65 = .ok (.iaload, 1) := by decide +kernel
theorem dX10_fact_66 : decode cX10_fact 66 = .ok (.goto 10, 3) := by decide +kernel
theorem dX10_fact_69 : decode cX10_fact 69 = .ok (.aload 4, 2) := by decide +kernel
theorem dX10_fact_71 : decode cX10_fact 71 = .ok (.getfield 163, 3) := by decide +kernel
theorem dX10_fact_74 : decode cX10_fact 74 = .ok (.iload_n 2, 1) := by decide +kernel
theorem dX10_fact_75 : decode cX10_fact 75 = .ok (.iaload, 1) := by decide +kernel
theorem dX10_fact_76 : decode cX10_fact 76 = .ok (.ireturn, 1) := by decide +kernel
theorem dX10_stop_0 : decode cX10_stop 0 = .ok (.aload_n 0, 1) := by decide +kernel
theorem dX10_stop_1 : decode cX10_stop 1 = .ok (.iload_n 1, 1) := by decide +kernel
theorem dX10_stop_2 : decode cX10_stop 2 = .ok (.invokevirtual 124, 3) := by decide +kernel
theorem dX10_stop_5 : decode cX10_stop 5 = .ok (.astore_n 3, 1) := by decide +kernel
theorem dX10_stop_6 : decode cX10_stop 6 = .ok (.aload_n 0, 1) := by decide +kernel
theorem dX10_stop_7 : decode cX10_stop 7 = .ok (.iload_n 2, 1) := by decide +kernel
theorem dX10_stop_8 : decode cX10_stop 8 = .ok (.invokevirtual 134, 3) := by decide +kernel
theorem dX10_stop_11 : decode cX10_stop 11 = .ok (.astore 4, 2) := by decide +kernel
theorem dX10_stop_13 : decode cX10_stop 13 = .ok (.aload_n 3, 1) := by decide +kernel
theorem dX10_stop_14 : decode cX10_stop 14 = .ok (.ifnull 8, 3) := by decide +kernel
theorem dX10_stop_17 : decode cX10_stop 17 = .ok (.aload 4, 2) := by decide +kernel
theorem dX10_stop_19 : decode cX10_stop 19 = .ok (.ifnonnull 7, 3) := by decide +kernel
theorem dX10_stop_22 : decode cX10_stop 22 = .ok (.iconst (-1), 1) := by decide +kernel
theorem dX10_stop_23 : decode cX10_stop 23 = .ok (.goto 18, 3) := by decide +kernel
theorem dX10_stop_26 : decode cX10_stop 26 = .ok (.aload_n 0, 1) := by decide +kernel
theorem dX10_stop_27 : decode cX10_stop 27 = .ok (.getfield 34, 3) := by decide +kernel
theorem dX10_stop_30 : decode cX10_stop 30 = .ok (.aload_n 3, 1) := by decide +kernel
theorem dX10_stop_31 : decode cX10_stop 31 = .ok (.aload 4, 2) := by decide +kernel
theorem dX10_stop_33 : decode cX10_stop 33 = .ok (.aload 4, 2) := by decide +kernel
theorem dX10_stop_35 : decode cX10_stop 35 = .ok (.getfield 138, 3) := by decide +kernel
theorem dX10_stop_38 : decode cX10_stop 38 = .ok (.invokevirtual 166, 3) := by decide +kernel
theorem dX10_stop_41 : decode cX10_stop 41 = .ok (.ireturn, 1) := by decide +kernel
theorem dX10_state_0 : decode cX10_state 0 = .ok (.aload_n 0, 1) := by decide +kernel
theorem dX10_state_1 : decode cX10_state 1 = .ok (.iload_n 1, 1) := by decide +kernel
theorem dX10_state_2 : decode cX10_state 2 = .ok (.invokevirtual 124, 3) := by decide +kernel
theorem dX10_state_5 : decode cX10_state 5 = .ok (.astore 5, 2) := by decide +kernel
theorem dX10_state_7 : decode cX10_state 7 = .ok (.aload_n 0, 1) := by decide +kernel
theorem dX10_state_8 : decode cX10_state 8 = .ok (.iload_n 2, 1) := by decide +kernel
theorem dX10_state_9 : decode cX10_state 9 = .ok (.invokevirtual 134, 3) := by decide +kernel
theorem dX10_state_12 : decode cX10_state 12 = .ok (.astore 6, 2) := by decide +kernel
theorem dX10_state_14 : decode cX10_state 14 = .ok (.aload 5, 2) := by decide +kernel
theorem dX10_state_16 : decode cX10_state 16 = .ok (.ifnull 21, 3) := by decide +kernel
theorem dX10_state_19 : decode cX10_state 19 = .ok (.aload 6, 2) := by decide +kernel
theorem dX10_state_21 : decode cX10_state 21 = .ok (.ifnull 16, 3) := by decide +kernel
theorem dX10_state_24 : decode cX10_state 24 = .ok (.iload_n 3, 1) := by decide +kernel
theorem dX10_state_25 : decode cX10_state 25 = .ok (.ifCond .lt 12, 3) := by decide +kernel
theorem dX10_state_28 : decode cX10_state 28 = .ok (.iload_n 3, 1) := by decide +kernel
theorem dX10_state_29 : decode cX10_state 29 = .ok (.aload 6, 2) := by decide +kernel
theorem dX10_state_31 : decode cX10_state 31 = .ok (.getfield 138, 3) := by decide +kernel
theorem dX10_state_34 : decode cX10_state 34 = .ok (.if_icmp .le 6, 3) := by decide +kernel
theorem dX10_state_37 : decode cX10_state 37 = .ok (.bipush (-2), 2) := by decide +kernel
theorem dX10_state_39 : decode cX10_state 39 = .ok (.ireturn, 1) := by decide +kernel
theorem dX10_state_40 : decode cX10_state 40 = .ok (.aload_n 0, 1) := by decide +kernel
theorem dX10_state_41 : decode cX10_state 41 = .ok (.getfield 34, 3) := by decide +kernel
theorem dX10_state_44 : decode cX10_state 44 = .ok (.aload 5, 2) := by decide +kernel
theorem dX10_state_46 : decode cX10_state 46 = .ok (.aload 6, 2) := by decide +kernel
theorem dX10_state_48 : decode cX10_state 48 = .ok (.iload_n 3, 1) := by decide +kernel
theorem dX10_state_49 : decode cX10_state 49 = .ok (.invokevirtual 166, 3) := by decide +kernel
theorem dX10_state_52 : decode cX10_state 52 = .ok (.iload_n 3, 1) := by decide +kernel
theorem dX10_state_53 : decode cX10_state 53 = .ok (.if_icmp .ge 8, 3) := by decide +kernel
theorem dX10_state_56 : decode cX10_state 56 = .ok (.bipush (-2), 2) := by decide +kernel
theorem dX10_state_58 : decode cX10_state 58 = .ok (.goto 12, 3) := by decide +kernel
theorem dX10_state_61 : decode cX10_state 61 = .ok (.aload_n 0, 1) := by decide +kernel
theorem dX10_state_62 : decode cX10_state 62 = .ok (.getfield 34, 3) := by decide +kernel
theorem dX10_state_65 : decode cX10_state 65 = .ok (.iload 4, 2) := by decide +kernel
theorem dX10_state_67 : decode cX10_state 67 = .ok (.invokevirtual 170, 3) := by decide +kernel
theorem dX10_state_70 : decode cX10_state 70 = .ok (.ireturn, 1) := by decide +kernel
theorem dX10_after_0 : decode cX10_after 0 = .ok (.aload_n 0, 1) := by decide +kernel
theorem dX10_after_1 : decode cX10_after 1 = .ok (.iload_n 1, 1) := by decide +kernel
theorem dX10_after_2 : decode cX10_after 2 = .ok (.invokevirtual 124, 3) := by decide +kernel
theorem dX10_after_5 : decode cX10_after 5 = .ok (.astore 4, 2) := by decide +kernel
theorem dX10_after_7 : decode cX10_after 7 = .ok (.aload_n 0, 1) := by decide +kernel
theorem dX10_after_8 : decode cX10_after 8 = .ok (.iload_n 2, 1) := by decide +kernel
theorem dX10_after_9 : decode cX10_after 9 = .ok (.invokevirtual 134, 3) := by decide +kernel
theorem dX10_after_12 : decode cX10_after 12 = .ok (.astore 5, 2) := by decide +kernel
theorem dX10_after_14 : decode cX10_after 14 = .ok (.aload 4, 2) := by decide +kernel
theorem dX10_after_16 : decode cX10_after 16 = .ok (.ifnull 8, 3) := by decide +kernel
theorem dX10_after_19 : decode cX10_after 19 = .ok (.aload 5, 2) := by decide +kernel
theorem dX10_after_21 : decode cX10_after 21 = .ok (.ifnonnull 6, 3) := by decide +kernel
theorem dX10_after_24 : decode cX10_after 24 = .ok (.bipush (-2), 2) := by decide +kernel
theorem dX10_after_26 : decode cX10_after 26 = .ok (.ireturn, 1) := by decide +kernel
theorem dX10_after_27 : decode cX10_after 27 = .ok (.aload_n 0, 1) := by decide +kernel
theorem dX10_after_28 : decode cX10_after 28 = .ok (.getfield 34, 3) := by decide +kernel
theorem dX10_after_31 : decode cX10_after 31 = .ok (.aload 4, 2) := by decide +kernel
theorem dX10_after_33 : decode cX10_after 33 = .ok (.aload 5, 2) := by decide +kernel
theorem dX10_after_35 : decode cX10_after 35 = .ok (.aload 5, 2) := by decide +kernel
theorem dX10_after_37 : decode cX10_after 37 = .ok (.getfield 138, 3) := by decide +kernel
theorem dX10_after_40 : decode cX10_after 40 = .ok (.invokevirtual 166, 3) := by decide +kernel
theorem dX10_after_43 : decode cX10_after 43 = .ok (.pop, 1) := by decide +kernel
theorem dX10_after_44 : decode cX10_after 44 = .ok (.iload_n 3, 1) := by decide +kernel
theorem dX10_after_45 : decode cX10_after 45 = .ok (.tableswitch 75 0 4 #[35, 43, 51, 59, 67], 35) := by decide +kernel
theorem dX10_after_80 : decode cX10_after 80 = .ok (.aload_n 0, 1) := by decide +kernel
theorem dX10_after_81 : decode cX10_after 81 = .ok (.getfield 34, 3) := by decide +kernel
theorem dX10_after_84 : decode cX10_after 84 = .ok (.getfield 171, 3) := by decide +kernel
theorem dX10_after_87 : decode cX10_after 87 = .ok (.ireturn, 1) := by decide +kernel
theorem dX10_after_88 : decode cX10_after 88 = .ok (.aload_n 0, 1) := by decide +kernel
theorem dX10_after_89 : decode cX10_after 89 = .ok (.getfield 34, 3) := by decide +kernel
theorem dX10_after_92 : decode cX10_after 92 = .ok (.invokevirtual 174, 3) := by decide +kernel
theorem dX10_after_95 : decode cX10_after 95 = .ok (.ireturn, 1) := by decide +kernel
theorem dX10_after_96 : decode cX10_after 96 = .ok (.aload_n 0, 1) := by decide +kernel
theorem dX10_after_97 : decode cX10_after 97 = .ok (.getfield 34, 3) := by decide +kernel
theorem dX10_after_100 : decode cX10_after 100 = .ok (.getfield 178, 3) := by decide +kernel
theorem dX10_after_103 : decode cX10_after 103 = .ok (.ireturn, 1) := by decide +kernel
theorem dX10_after_104 : decode cX10_after 104 = .ok (.aload_n 0, 1) := by decide +kernel
theorem dX10_after_105 : decode cX10_after 105 = .ok (.getfield 34, 3) := by decide +kernel
theorem dX10_after_108 : decode cX10_after 108 = .ok (.getfield 181, 3) := by decide +kernel
theorem dX10_after_111 : decode cX10_after 111 = .ok (.ireturn, 1) := by decide +kernel
theorem dX10_after_112 : decode cX10_after 112 = .ok (.aload_n 0, 1) := by decide +kernel
theorem dX10_after_113 : decode cX10_after 113 = .ok (.getfield 34, 3) := by decide +kernel
theorem dX10_after_116 : decode cX10_after 116 = .ok (.getfield 184, 3) := by decide +kernel
theorem dX10_after_119 : decode cX10_after 119 = .ok (.ireturn, 1) := by decide +kernel
theorem dX10_after_120 : decode cX10_after 120 = .ok (.bipush (-2), 2) := by decide +kernel
theorem dX10_after_122 : decode cX10_after 122 = .ok (.ireturn, 1) := by decide +kernel
theorem dX10_drawn_0 : decode cX10_drawn 0 = .ok (.aload_n 0, 1) := by decide +kernel
theorem dX10_drawn_1 : decode cX10_drawn 1 = .ok (.iload_n 1, 1) := by decide +kernel
theorem dX10_drawn_2 : decode cX10_drawn 2 = .ok (.invokevirtual 124, 3) := by decide +kernel
theorem dX10_drawn_5 : decode cX10_drawn 5 = .ok (.astore 5, 2) := by decide +kernel
theorem dX10_drawn_7 : decode cX10_drawn 7 = .ok (.aload 5, 2) := by decide +kernel
theorem dX10_drawn_9 : decode cX10_drawn 9 = .ok (.ifnull 13, 3) := by decide +kernel
theorem dX10_drawn_12 : decode cX10_drawn 12 = .ok (.iload_n 3, 1) := by decide +kernel
theorem dX10_drawn_13 : decode cX10_drawn 13 = .ok (.ifCond .lt 9, 3) := by decide +kernel
theorem dX10_drawn_16 : decode cX10_drawn 16 = .ok (.iload_n 3, 1) := by decide +kernel
theorem dX10_drawn_17 : decode cX10_drawn 17 = .ok (.bipush 60, 2) := by decide +kernel
theorem dX10_drawn_19 : decode cX10_drawn 19 = .ok (.if_icmp .le 6, 3) := by decide +kernel
theorem dX10_drawn_22 : decode cX10_drawn 22 = .ok (.bipush (-2), 2) := by decide +kernel
theorem dX10_drawn_24 : decode cX10_drawn 24 = .ok (.ireturn, 1) := by decide +kernel
theorem dX10_drawn_25 : decode cX10_drawn 25 = .ok (.aload_n 0, 1) := by decide +kernel
theorem dX10_drawn_26 : decode cX10_drawn 26 = .ok (.getfield 41, 3) := by decide +kernel
theorem dX10_drawn_29 : decode cX10_drawn 29 = .ok (.aload 5, 2) := by decide +kernel
theorem dX10_drawn_31 : decode cX10_drawn 31 = .ok (.iload_n 2, 1) := by decide +kernel
theorem dX10_drawn_32 : decode cX10_drawn 32 = .ok (.iload_n 3, 1) := by decide +kernel
theorem dX10_drawn_33 : decode cX10_drawn 33 = .ok (.invokevirtual 187, 3) := by decide +kernel
theorem dX10_drawn_36 : decode cX10_drawn 36 = .ok (.aload_n 0, 1) := by decide +kernel
theorem dX10_drawn_37 : decode cX10_drawn 37 = .ok (.getfield 34, 3) := by decide +kernel
theorem dX10_drawn_40 : decode cX10_drawn 40 = .ok (.aload 5, 2) := by decide +kernel
theorem dX10_drawn_42 : decode cX10_drawn 42 = .ok (.aload_n 0, 1) := by decide +kernel
theorem dX10_drawn_43 : decode cX10_drawn 43 = .ok (.getfield 41, 3) := by decide +kernel
theorem dX10_drawn_46 : decode cX10_drawn 46 = .ok (.getfield 191, 3) := by decide +kernel
theorem dX10_drawn_49 : decode cX10_drawn 49 = .ok (.invokevirtual 195, 3) := by decide +kernel
theorem dX10_drawn_52 : decode cX10_drawn 52 = .ok (.aload_n 0, 1) := by decide +kernel
theorem dX10_drawn_53 : decode cX10_drawn 53 = .ok (.getfield 34, 3) := by decide +kernel
theorem dX10_drawn_56 : decode cX10_drawn 56 = .ok (.iload 4, 2) := by decide +kernel
theorem dX10_drawn_58 : decode cX10_drawn 58 = .ok (.invokevirtual 170, 3) := by decide +kernel
theorem dX10_drawn_61 : decode cX10_drawn 61 = .ok (.ireturn, 1) := by decide +kernel
theorem dX10_steps_0 : decode cX10_steps 0 = .ok (.aload_n 0, 1) := by decide +kernel
theorem dX10_steps_1 : decode cX10_steps 1 = .ok (.iload_n 1, 1) := by decide +kernel
theorem dX10_steps_2 : decode cX10_steps 2 = .ok (.invokevirtual 124, 3) := by decide +kernel
theorem dX10_steps_5 : decode cX10_steps 5 = .ok (.astore 4, 2) := by decide +kernel
theorem dX10_steps_7 : decode cX10_steps 7 = .ok (.aload 4, 2) := by decide +kernel
theorem dX10_steps_9 : decode cX10_steps 9 = .ok (.ifnonnull 7, 3) := by decide +kernel
theorem dX10_steps_12 : decode cX10_steps 12 = .ok (.iconst (-1), 1) := by decide +kernel
theorem dX10_steps_13 : decode cX10_steps 13 = .ok (.goto 13, 3) := by decide +kernel
theorem dX10_steps_16 : decode cX10_steps 16 = .ok (.aload 4, 2) := by decide +kernel
theorem dX10_steps_18 : decode cX10_steps 18 = .ok (.getfield 199, 3) := by decide +kernel
theorem dX10_steps_21 : decode cX10_steps 21 = .ok (.iload_n 2, 1) := by decide +kernel
theorem dX10_steps_22 : decode cX10_steps 22 = .ok (.iload_n 3, 1) := by decide +kernel
theorem dX10_steps_23 : decode cX10_steps 23 = .ok (.invokevirtual 202, 3) := by decide +kernel
theorem dX10_steps_26 : decode cX10_steps 26 = .ok (.ireturn, 1) := by decide +kernel
theorem dX10_towards_0 : decode cX10_towards 0 = .ok (.aload_n 0, 1) := by decide +kernel
theorem dX10_towards_1 : decode cX10_towards 1 = .ok (.iload_n 1, 1) := by decide +kernel
theorem dX10_towards_2 : decode cX10_towards 2 = .ok (.invokevirtual 124, 3) := by decide +kernel
theorem dX10_towards_5 : decode cX10_towards 5 = .ok (.astore 4, 2) := by decide +kernel
theorem dX10_towards_7 : decode cX10_towards 7 = .ok (.aload 4, 2) := by decide +kernel
theorem dX10_towards_9 : decode cX10_towards 9 = .ok (.ifnonnull 7, 3) := by decide +kernel
theorem dX10_towards_12 : decode cX10_towards 12 = .ok (.iconst (-1), 1) := by decide +kernel
theorem dX10_towards_13 : decode cX10_towards 13 = .ok (.goto 13, 3) := by decide +kernel
theorem dX10_towards_16 : decode cX10_towards 16 = .ok (.aload 4, 2) := by decide +kernel
theorem dX10_towards_18 : decode cX10_towards 18 = .ok (.getfield 199, 3) := by decide +kernel
theorem dX10_towards_21 : decode cX10_towards 21 = .ok (.iload_n 2, 1) := by decide +kernel
theorem dX10_towards_22 : decode cX10_towards 22 = .ok (.iload_n 3, 1) := by decide +kernel
theorem dX10_towards_23 : decode cX10_towards 23 = .ok (.invokevirtual 206, 3) := by decide +kernel
theorem dX10_towards_26 : decode cX10_towards 26 = .ok (.ireturn, 1) := by decide +kernel
theorem dX10_kin_0 : decode cX10_kin 0 = .ok (.aload_n 0, 1) := by decide +kernel
theorem dX10_kin_1 : decode cX10_kin 1 = .ok (.iload_n 1, 1) := by decide +kernel
theorem dX10_kin_2 : decode cX10_kin 2 = .ok (.invokevirtual 124, 3) := by decide +kernel
theorem dX10_kin_5 : decode cX10_kin 5 = .ok (.astore_n 3, 1) := by decide +kernel
theorem dX10_kin_6 : decode cX10_kin 6 = .ok (.aload_n 3, 1) := by decide +kernel
theorem dX10_kin_7 : decode cX10_kin 7 = .ok (.ifnonnull 6, 3) := by decide +kernel
theorem dX10_kin_10 : decode cX10_kin 10 = .ok (.bipush (-2), 2) := by decide +kernel
theorem dX10_kin_12 : decode cX10_kin 12 = .ok (.ireturn, 1) := by decide +kernel
theorem dX10_kin_13 : decode cX10_kin 13 = .ok (.iload_n 2, 1) := by decide +kernel
theorem dX10_kin_14 : decode cX10_kin 14 = .ok (.tableswitch 82 0 5 #[38, 46, 54, 62, 70, 76], 38) := by decide +kernel
theorem dX10_kin_52 : decode cX10_kin 52 = .ok (.aload_n 3, 1) := by decide +kernel
theorem dX10_kin_53 : decode cX10_kin 53 = .ok (.getfield 199, 3) := by decide +kernel
theorem dX10_kin_56 : decode cX10_kin 56 = .ok (.invokevirtual 209, 3) := by decide +kernel
theorem dX10_kin_59 : decode cX10_kin 59 = .ok (.ireturn, 1) := by decide +kernel
theorem dX10_kin_60 : decode cX10_kin 60 = .ok (.aload_n 3, 1) := by decide +kernel
theorem dX10_kin_61 : decode cX10_kin 61 = .ok (.getfield 199, 3) := by decide +kernel
theorem dX10_kin_64 : decode cX10_kin 64 = .ok (.invokevirtual 212, 3) := by decide +kernel
theorem dX10_kin_67 : decode cX10_kin 67 = .ok (.ireturn, 1) := by decide +kernel
theorem dX10_kin_68 : decode cX10_kin 68 = .ok (.aload_n 3, 1) := by decide +kernel
theorem dX10_kin_69 : decode cX10_kin 69 = .ok (.getfield 199, 3) := by decide +kernel
theorem dX10_kin_72 : decode cX10_kin 72 = .ok (.invokevirtual 215, 3) := by decide +kernel
theorem dX10_kin_75 : decode cX10_kin 75 = .ok (.ireturn, 1) := by decide +kernel
theorem dX10_kin_76 : decode cX10_kin 76 = .ok (.aload_n 3, 1) := by decide +kernel
theorem dX10_kin_77 : decode cX10_kin 77 = .ok (.getfield 199, 3) := by decide +kernel
theorem dX10_kin_80 : decode cX10_kin 80 = .ok (.invokevirtual 218, 3) := by decide +kernel
theorem dX10_kin_83 : decode cX10_kin 83 = .ok (.ireturn, 1) := by decide +kernel
theorem dX10_kin_84 : decode cX10_kin 84 = .ok (.aload_n 0, 1) := by decide +kernel
theorem dX10_kin_85 : decode cX10_kin 85 = .ok (.aload_n 3, 1) := by decide +kernel
theorem dX10_kin_86 : decode cX10_kin 86 = .ok (.invokevirtual 221, 3) := by decide +kernel
theorem dX10_kin_89 : decode cX10_kin 89 = .ok (.ireturn, 1) := by decide +kernel
theorem dX10_kin_90 : decode cX10_kin 90 = .ok (.aload_n 0, 1) := by decide +kernel
theorem dX10_kin_91 : decode cX10_kin 91 = .ok (.aload_n 3, 1) := by decide +kernel
theorem dX10_kin_92 : decode cX10_kin 92 = .ok (.invokevirtual 225, 3) := by decide +kernel
theorem dX10_kin_95 : decode cX10_kin 95 = .ok (.ireturn, 1) := by decide +kernel
theorem dX10_kin_96 : decode cX10_kin 96 = .ok (.bipush (-2), 2) := by decide +kernel
theorem dX10_kin_98 : decode cX10_kin 98 = .ok (.ireturn, 1) := by decide +kernel
theorem dX10_bridges_0 : decode cX10_bridges 0 = .ok (.iconst 0, 1) := by decide +kernel
theorem dX10_bridges_1 : decode cX10_bridges 1 = .ok (.istore_n 2, 1) := by decide +kernel
theorem dX10_bridges_2 : decode cX10_bridges 2 = .ok (.aload_n 0, 1) := by decide +kernel
theorem dX10_bridges_3 : decode cX10_bridges 3 = .ok (.getfield 62, 3) := by decide +kernel
theorem dX10_bridges_6 : decode cX10_bridges 6 = .ok (.aload_n 1, 1) := by decide +kernel
theorem dX10_bridges_7 : decode cX10_bridges 7 = .ok (.getfield 199, 3) := by decide +kernel
theorem dX10_bridges_10 : decode cX10_bridges 10 = .ok (.invokevirtual 228, 3) := by decide +kernel
theorem dX10_bridges_13 : decode cX10_bridges 13 = .ok (.iconst 0, 1) := by decide +kernel
theorem dX10_bridges_14 : decode cX10_bridges 14 = .ok (.istore_n 3, 1) := by decide +kernel
theorem dX10_bridges_15 : decode cX10_bridges 15 = .ok (.iload_n 3, 1) := by decide +kernel
theorem dX10_bridges_16 : decode cX10_bridges 16 = .ok (.bipush 10, 2) := by decide +kernel
theorem dX10_bridges_18 : decode cX10_bridges 18 = .ok (.if_icmp .ge 54, 3) := by decide +kernel
theorem dX10_bridges_21 : decode cX10_bridges 21 = .ok (.iload_n 3, 1) := by decide +kernel
theorem dX10_bridges_22 : decode cX10_bridges 22 = .ok (.iconst 1, 1) := by decide +kernel
theorem dX10_bridges_23 : decode cX10_bridges 23 = .ok (.iadd, 1) := by decide +kernel
theorem dX10_bridges_24 : decode cX10_bridges 24 = .ok (.istore 4, 2) := by decide +kernel
theorem dX10_bridges_26 : decode cX10_bridges 26 = .ok (.iload 4, 2) := by decide +kernel
theorem dX10_bridges_28 : decode cX10_bridges 28 = .ok (.bipush 10, 2) := by decide +kernel
theorem dX10_bridges_30 : decode cX10_bridges 30 = .ok (.if_icmp .ge 36, 3) := by decide +kernel
theorem dX10_bridges_33 : decode cX10_bridges 33 = .ok (.aload_n 1, 1) := by decide +kernel
theorem dX10_bridges_34 : decode cX10_bridges 34 = .ok (.getfield 199, 3) := by decide +kernel
theorem dX10_bridges_37 : decode cX10_bridges 37 = .ok (.iload_n 3, 1) := by decide +kernel
theorem dX10_bridges_38 : decode cX10_bridges 38 = .ok (.iload 4, 2) := by decide +kernel
theorem dX10_bridges_40 : decode cX10_bridges 40 = .ok (.invokevirtual 231, 3) := by decide +kernel
theorem dX10_bridges_43 : decode cX10_bridges 43 = .ok (.ifCond .eq 17, 3) := by decide +kernel
theorem dX10_bridges_46 : decode cX10_bridges 46 = .ok (.aload_n 0, 1) := by decide +kernel
theorem dX10_bridges_47 : decode cX10_bridges 47 = .ok (.iload_n 3, 1) := by decide +kernel
theorem dX10_bridges_48 : decode cX10_bridges 48 = .ok (.iload 4, 2) := by decide +kernel
theorem dX10_bridges_50 : decode cX10_bridges 50 = .ok (.invokevirtual 235, 3) := by decide +kernel
theorem dX10_bridges_53 : decode cX10_bridges 53 = .ok (.iconst (-1), 1) := by decide +kernel
theorem dX10_bridges_54 : decode cX10_bridges 54 = .ok (.if_icmp .ne 6, 3) := by decide +kernel
theorem dX10_bridges_57 : decode cX10_bridges 57 = .ok (.iinc 2 1, 3) := by decide +kernel
theorem dX10_bridges_60 : decode cX10_bridges 60 = .ok (.iinc 4 1, 3) := by decide +kernel
theorem dX10_bridges_63 : decode cX10_bridges 63 = .ok (.goto (-37), 3) := by decide +kernel
theorem dX10_bridges_66 : decode cX10_bridges 66 = .ok (.iinc 3 1, 3) := by decide +kernel
theorem dX10_bridges_69 : decode cX10_bridges 69 = .ok (.goto (-54), 3) := by decide +kernel
theorem dX10_bridges_72 : decode cX10_bridges 72 = .ok (.iload_n 2, 1) := by decide +kernel
theorem dX10_bridges_73 : decode cX10_bridges 73 = .ok (.ireturn, 1) := by decide +kernel
theorem dX10_circle_0 : decode cX10_circle 0 = .ok (.iconst (-1), 1) := by decide +kernel
theorem dX10_circle_1 : decode cX10_circle 1 = .ok (.istore_n 2, 1) := by decide +kernel
theorem dX10_circle_2 : decode cX10_circle 2 = .ok (.aload_n 0, 1) := by decide +kernel
theorem dX10_circle_3 : decode cX10_circle 3 = .ok (.getfield 62, 3) := by decide +kernel
theorem dX10_circle_6 : decode cX10_circle 6 = .ok (.aload_n 1, 1) := by decide +kernel
theorem dX10_circle_7 : decode cX10_circle 7 = .ok (.getfield 199, 3) := by decide +kernel
theorem dX10_circle_10 : decode cX10_circle 10 = .ok (.invokevirtual 228, 3) := by decide +kernel
theorem dX10_circle_13 : decode cX10_circle 13 = .ok (.iconst 0, 1) := by decide +kernel
theorem dX10_circle_14 : decode cX10_circle 14 = .ok (.istore_n 3, 1) := by decide +kernel
theorem dX10_circle_15 : decode cX10_circle 15 = .ok (.iload_n 3, 1) := by decide +kernel
theorem dX10_circle_16 : decode cX10_circle 16 = .ok (.bipush 10, 2) := by decide +kernel
theorem dX10_circle_18 : decode cX10_circle 18 = .ok (.if_icmp .ge 77, 3) := by decide +kernel
theorem dX10_circle_21 : decode cX10_circle 21 = .ok (.iload_n 3, 1) := by decide +kernel
theorem dX10_circle_22 : decode cX10_circle 22 = .ok (.iconst 1, 1) := by decide +kernel
theorem dX10_circle_23 : decode cX10_circle 23 = .ok (.iadd, 1) := by decide +kernel
theorem dX10_circle_24 : decode cX10_circle 24 = .ok (.istore 4, 2) := by decide +kernel
theorem dX10_circle_26 : decode cX10_circle 26 = .ok (.iload 4, 2) := by decide +kernel
theorem dX10_circle_28 : decode cX10_circle 28 = .ok (.bipush 10, 2) := by decide +kernel
theorem dX10_circle_30 : decode cX10_circle 30 = .ok (.if_icmp .ge 59, 3) := by decide +kernel
theorem dX10_circle_33 : decode cX10_circle 33 = .ok (.aload_n 1, 1) := by decide +kernel
theorem dX10_circle_34 : decode cX10_circle 34 = .ok (.getfield 199, 3) := by decide +kernel
theorem dX10_circle_37 : decode cX10_circle 37 = .ok (.iload_n 3, 1) := by decide +kernel
theorem dX10_circle_38 : decode cX10_circle 38 = .ok (.iload 4, 2) := by decide +kernel
theorem dX10_circle_40 : decode cX10_circle 40 = .ok (.invokevirtual 231, 3) := by decide +kernel
theorem dX10_circle_43 : decode cX10_circle 43 = .ok (.ifCond .eq 13, 3) := by decide +kernel
theorem dX10_circle_46 : decode cX10_circle 46 = .ok (.aload_n 0, 1) := by decide +kernel
theorem dX10_circle_47 : decode cX10_circle 47 = .ok (.iload_n 3, 1) := by decide +kernel
theorem dX10_circle_48 : decode cX10_circle 48 = .ok (.iload 4, 2) := by decide +kernel
theorem dX10_circle_50 : decode cX10_circle 50 = .ok (.invokevirtual 235, 3) := by decide +kernel
theorem dX10_circle_53 : decode cX10_circle 53 = .ok (.goto 4, 3) := by decide +kernel
theorem dX10_circle_56 : decode cX10_circle 56 = .ok (.iconst (-1), 1) := by decide +kernel
theorem dX10_circle_57 : decode cX10_circle 57 = .ok (.istore 5, 2) := by decide +kernel
theorem dX10_circle_59 : decode cX10_circle 59 = .ok (.iload 5, 2) := by decide +kernel
theorem dX10_circle_61 : decode cX10_circle 61 = .ok (.iconst (-1), 1) := by decide +kernel
theorem dX10_circle_62 : decode cX10_circle 62 = .ok (.if_icmp .eq 21, 3) := by decide +kernel
theorem dX10_circle_65 : decode cX10_circle 65 = .ok (.iload_n 2, 1) := by decide +kernel
theorem dX10_circle_66 : decode cX10_circle 66 = .ok (.iconst (-1), 1) := by decide +kernel
theorem dX10_circle_67 : decode cX10_circle 67 = .ok (.if_icmp .eq 11, 3) := by decide +kernel
theorem dX10_circle_70 : decode cX10_circle 70 = .ok (.iload 5, 2) := by decide +kernel
theorem dX10_circle_72 : decode cX10_circle 72 = .ok (.iconst 1, 1) := by decide +kernel
theorem dX10_circle_73 : decode cX10_circle 73 = .ok (.iadd, 1) := by decide +kernel
theorem dX10_circle_74 : decode cX10_circle 74 = .ok (.iload_n 2, 1) := by decide +kernel
theorem dX10_circle_75 : decode cX10_circle 75 = .ok (.if_icmp .ge 8, 3) := by decide +kernel
theorem dX10_circle_78 : decode cX10_circle 78 = .ok (.iload 5, 2) := by decide +kernel
theorem dX10_circle_80 : decode cX10_circle 80 = .ok (.iconst 1, 1) := by decide +kernel
theorem dX10_circle_81 : decode cX10_circle 81 = .ok (.iadd, 1) := by decide +kernel
theorem dX10_circle_82 : decode cX10_circle 82 = .ok (.istore_n 2, 1) := by decide +kernel
theorem dX10_circle_83 : decode cX10_circle 83 = .ok (.iinc 4 1, 3) := by decide +kernel
theorem dX10_circle_86 : decode cX10_circle 86 = .ok (.goto (-60), 3) := by decide +kernel
theorem dX10_circle_89 : decode cX10_circle 89 = .ok (.iinc 3 1, 3) := by decide +kernel
theorem dX10_circle_92 : decode cX10_circle 92 = .ok (.goto (-77), 3) := by decide +kernel
theorem dX10_circle_95 : decode cX10_circle 95 = .ok (.iload_n 2, 1) := by decide +kernel
theorem dX10_circle_96 : decode cX10_circle 96 = .ok (.ireturn, 1) := by decide +kernel
theorem dX10_aroundTo_0 : decode cX10_aroundTo 0 = .ok (.aload_n 0, 1) := by decide +kernel
theorem dX10_aroundTo_1 : decode cX10_aroundTo 1 = .ok (.getfield 62, 3) := by decide +kernel
theorem dX10_aroundTo_4 : decode cX10_aroundTo 4 = .ok (.iload_n 1, 1) := by decide +kernel
theorem dX10_aroundTo_5 : decode cX10_aroundTo 5 = .ok (.iload_n 2, 1) := by decide +kernel
theorem dX10_aroundTo_6 : decode cX10_aroundTo 6 = .ok (.invokevirtual 238, 3) := by decide +kernel
theorem dX10_aroundTo_9 : decode cX10_aroundTo 9 = .ok (.aload_n 0, 1) := by decide +kernel
theorem dX10_aroundTo_10 : decode cX10_aroundTo 10 = .ok (.getfield 62, 3) := by decide +kernel
theorem dX10_aroundTo_13 : decode cX10_aroundTo 13 = .ok (.iload_n 1, 1) := by decide +kernel
theorem dX10_aroundTo_14 : decode cX10_aroundTo 14 = .ok (.iload_n 2, 1) := by decide +kernel
theorem dX10_aroundTo_15 : decode cX10_aroundTo 15 = .ok (.invokevirtual 202, 3) := by decide +kernel
theorem dX10_aroundTo_18 : decode cX10_aroundTo 18 = .ok (.istore_n 3, 1) := by decide +kernel
theorem dX10_aroundTo_19 : decode cX10_aroundTo 19 = .ok (.aload_n 0, 1) := by decide +kernel
theorem dX10_aroundTo_20 : decode cX10_aroundTo 20 = .ok (.getfield 62, 3) := by decide +kernel
theorem dX10_aroundTo_23 : decode cX10_aroundTo 23 = .ok (.iload_n 1, 1) := by decide +kernel
theorem dX10_aroundTo_24 : decode cX10_aroundTo 24 = .ok (.iload_n 2, 1) := by decide +kernel
theorem dX10_aroundTo_25 : decode cX10_aroundTo 25 = .ok (.invokevirtual 242, 3) := by decide +kernel
theorem dX10_aroundTo_28 : decode cX10_aroundTo 28 = .ok (.iload_n 3, 1) := by decide +kernel
theorem dX10_aroundTo_29 : decode cX10_aroundTo 29 = .ok (.ireturn, 1) := by decide +kernel
theorem dX10_reading_0 : decode cX10_reading 0 = .ok (.aload_n 0, 1) := by decide +kernel
theorem dX10_reading_1 : decode cX10_reading 1 = .ok (.iload_n 1, 1) := by decide +kernel
theorem dX10_reading_2 : decode cX10_reading 2 = .ok (.invokevirtual 124, 3) := by decide +kernel
theorem dX10_reading_5 : decode cX10_reading 5 = .ok (.astore 4, 2) := by decide +kernel
theorem dX10_reading_7 : decode cX10_reading 7 = .ok (.aload 4, 2) := by decide +kernel
theorem dX10_reading_9 : decode cX10_reading 9 = .ok (.ifnull 16, 3) := by decide +kernel
theorem dX10_reading_12 : decode cX10_reading 12 = .ok (.iload_n 2, 1) := by decide +kernel
theorem dX10_reading_13 : decode cX10_reading 13 = .ok (.ifCond .lt 12, 3) := by decide +kernel
theorem dX10_reading_16 : decode cX10_reading 16 = .ok (.iload_n 2, 1) := by decide +kernel
theorem dX10_reading_17 : decode cX10_reading 17 = .ok (.aload 4, 2) := by decide +kernel
theorem dX10_reading_19 : decode cX10_reading 19 = .ok (.getfield 245, 3) := by decide +kernel
theorem dX10_reading_22 : decode cX10_reading 22 = .ok (.if_icmp .lt 6, 3) := by decide +kernel
theorem dX10_reading_25 : decode cX10_reading 25 = .ok (.bipush (-2), 2) := by decide +kernel
theorem dX10_reading_27 : decode cX10_reading 27 = .ok (.ireturn, 1) := by decide +kernel
theorem dX10_reading_28 : decode cX10_reading 28 = .ok (.aload 4, 2) := by decide +kernel
theorem dX10_reading_30 : decode cX10_reading 30 = .ok (.iload_n 2, 1) := by decide +kernel
theorem dX10_reading_31 : decode cX10_reading 31 = .ok (.aload 4, 2) := by decide +kernel
theorem dX10_reading_33 : decode cX10_reading 33 = .ok (.getfield 248, 3) := by decide +kernel
theorem dX10_reading_36 : decode cX10_reading 36 = .ok (.invokevirtual 251, 3) := by decide +kernel
theorem dX10_reading_39 : decode cX10_reading 39 = .ok (.istore 5, 2) := by decide +kernel
theorem dX10_reading_41 : decode cX10_reading 41 = .ok (.iload_n 3, 1) := by decide +kernel
theorem dX10_reading_42 : decode cX10_reading 42 = .ok (.ifCond .ne 17, 3) := by decide +kernel
theorem dX10_reading_45 : decode cX10_reading 45 = .ok (.aload 4, 2) := by decide +kernel
theorem dX10_reading_47 : decode cX10_reading 47 = .ok (.getfield 248, 3) := by decide +kernel
theorem dX10_reading_50 : decode cX10_reading 50 = .ok (.iload 5, 2) := by decide +kernel
theorem dX10_reading_52 : decode cX10_reading 52 = .ok (.invokestatic 254, 3) := by decide +kernel
theorem dX10_reading_55 : decode cX10_reading 55 = .ok (.invokestatic 257, 3) := by decide +kernel
theorem dX10_reading_58 : decode cX10_reading 58 = .ok (.ireturn, 1) := by decide +kernel
theorem dX10_reading_59 : decode cX10_reading 59 = .ok (.iload_n 3, 1) := by decide +kernel
theorem dX10_reading_60 : decode cX10_reading 60 = .ok (.iconst 1, 1) := by decide +kernel
theorem dX10_reading_61 : decode cX10_reading 61 = .ok (.if_icmp .ne 13, 3) := by decide +kernel
theorem dX10_reading_64 : decode cX10_reading 64 = .ok (.aload 4, 2) := by decide +kernel
theorem dX10_reading_66 : decode cX10_reading 66 = .ok (.iload 5, 2) := by decide +kernel
theorem dX10_reading_68 : decode cX10_reading 68 = .ok (.invokevirtual 262, 3) := by decide +kernel
theorem dX10_reading_71 : decode cX10_reading 71 = .ok (.goto 11, 3) := by decide +kernel
theorem dX10_reading_74 : decode cX10_reading 74 = .ok (.aload 4, 2) := by decide +kernel
theorem dX10_reading_76 : decode cX10_reading 76 = .ok (.iload 5, 2) := by decide +kernel
theorem dX10_reading_78 : decode cX10_reading 78 = .ok (.iload_n 3, 1) := by decide +kernel
theorem dX10_reading_79 : decode cX10_reading 79 = .ok (.invokestatic 265, 3) := by decide +kernel
theorem dX10_reading_82 : decode cX10_reading 82 = .ok (.ireturn, 1) := by decide +kernel
theorem dX10_standsAt_0 : decode cX10_standsAt 0 = .ok (.iload_n 2, 1) := by decide +kernel
theorem dX10_standsAt_1 : decode cX10_standsAt 1 = .ok (.bipush 10, 2) := by decide +kernel
theorem dX10_standsAt_3 : decode cX10_standsAt 3 = .ok (.isub, 1) := by decide +kernel
theorem dX10_standsAt_4 : decode cX10_standsAt 4 = .ok (.istore_n 3, 1) := by decide +kernel
theorem dX10_standsAt_5 : decode cX10_standsAt 5 = .ok (.iload_n 3, 1) := by decide +kernel
theorem dX10_standsAt_6 : decode cX10_standsAt 6 = .ok (.ifCond .lt 11, 3) := by decide +kernel
theorem dX10_standsAt_9 : decode cX10_standsAt 9 = .ok (.iload_n 3, 1) := by decide +kernel
theorem dX10_standsAt_10 : decode cX10_standsAt 10 = .ok (.aload_n 0, 1) := by decide +kernel
theorem dX10_standsAt_11 : decode cX10_standsAt 11 = .ok (.getfield 269, 3) := by decide +kernel
theorem dX10_standsAt_14 : decode cX10_standsAt 14 = .ok (.if_icmp .lt 8, 3) := by decide +kernel
theorem dX10_standsAt_17 : decode cX10_standsAt 17 = .ok (.bipush (-2), 2) := by decide +kernel
theorem dX10_standsAt_19 : decode cX10_standsAt 19 = .ok (.goto 8, 3) := by decide +kernel
theorem dX10_standsAt_22 : decode cX10_standsAt 22 = .ok (.iload_n 1, 1) := by decide +kernel
theorem dX10_standsAt_23 : decode cX10_standsAt 23 = .ok (.iload_n 3, 1) := by decide +kernel
theorem dX10_standsAt_24 : decode cX10_standsAt 24 = .ok (.invokestatic 272, 3) := by decide +kernel
theorem dX10_standsAt_27 : decode cX10_standsAt 27 = .ok (.ireturn, 1) := by decide +kernel
theorem dX10_rounds_0 : decode cX10_rounds 0 = .ok (.aload_n 0, 1) := by decide +kernel
theorem dX10_rounds_1 : decode cX10_rounds 1 = .ok (.iload_n 1, 1) := by decide +kernel
theorem dX10_rounds_2 : decode cX10_rounds 2 = .ok (.invokevirtual 124, 3) := by decide +kernel
theorem dX10_rounds_5 : decode cX10_rounds 5 = .ok (.astore_n 3, 1) := by decide +kernel
theorem dX10_rounds_6 : decode cX10_rounds 6 = .ok (.aload_n 3, 1) := by decide +kernel
theorem dX10_rounds_7 : decode cX10_rounds 7 = .ok (.ifnonnull 6, 3) := by decide +kernel
theorem dX10_rounds_10 : decode cX10_rounds 10 = .ok (.bipush (-2), 2) := by decide +kernel
theorem dX10_rounds_12 : decode cX10_rounds 12 = .ok (.ireturn, 1) := by decide +kernel
theorem dX10_rounds_13 : decode cX10_rounds 13 = .ok (.aload_n 0, 1) := by decide +kernel
theorem dX10_rounds_14 : decode cX10_rounds 14 = .ok (.getfield 48, 3) := by decide +kernel
theorem dX10_rounds_17 : decode cX10_rounds 17 = .ok (.aload_n 3, 1) := by decide +kernel
theorem dX10_rounds_18 : decode cX10_rounds 18 = .ok (.invokevirtual 275, 3) := by decide +kernel
theorem dX10_rounds_21 : decode cX10_rounds 21 = .ok (.iload_n 2, 1) := by decide +kernel
theorem dX10_rounds_22 : decode cX10_rounds 22 = .ok (.ifCond .ne 11, 3) := by decide +kernel
theorem dX10_rounds_25 : decode cX10_rounds 25 = .ok (.aload_n 0, 1) := by decide +kernel
theorem dX10_rounds_26 : decode cX10_rounds 26 = .ok (.getfield 48, 3) := by decide +kernel
theorem dX10_rounds_29 : decode cX10_rounds 29 = .ok (.getfield 278, 3) := by decide +kernel
theorem dX10_rounds_32 : decode cX10_rounds 32 = .ok (.ireturn, 1) := by decide +kernel
theorem dX10_rounds_33 : decode cX10_rounds 33 = .ok (.iload_n 2, 1) := by decide +kernel
theorem dX10_rounds_34 : decode cX10_rounds 34 = .ok (.iconst 1, 1) := by decide +kernel
theorem dX10_rounds_35 : decode cX10_rounds 35 = .ok (.if_icmp .ne 13, 3) := by decide +kernel
theorem dX10_rounds_38 : decode cX10_rounds 38 = .ok (.aload_n 0, 1) := by decide +kernel
theorem dX10_rounds_39 : decode cX10_rounds 39 = .ok (.getfield 48, 3) := by decide +kernel
theorem dX10_rounds_42 : decode cX10_rounds 42 = .ok (.getfield 281, 3) := by decide +kernel
theorem dX10_rounds_45 : decode cX10_rounds 45 = .ok (.goto 15, 3) := by decide +kernel
theorem dX10_rounds_48 : decode cX10_rounds 48 = .ok (.aload_n 3, 1) := by decide +kernel
theorem dX10_rounds_49 : decode cX10_rounds 49 = .ok (.aload_n 0, 1) := by decide +kernel
theorem dX10_rounds_50 : decode cX10_rounds 50 = .ok (.getfield 48, 3) := by decide +kernel
theorem dX10_rounds_53 : decode cX10_rounds 53 = .ok (.getfield 284, 3) := by decide +kernel
theorem dX10_rounds_56 : decode cX10_rounds 56 = .ok (.iload_n 2, 1) := by decide +kernel
theorem dX10_rounds_57 : decode cX10_rounds 57 = .ok (.invokestatic 265, 3) := by decide +kernel
theorem dX10_rounds_60 : decode cX10_rounds 60 = .ok (.ireturn, 1) := by decide +kernel
theorem dX10_distance_0 : decode cX10_distance 0 = .ok (.aload_n 0, 1) := by decide +kernel
theorem dX10_distance_1 : decode cX10_distance 1 = .ok (.iload_n 1, 1) := by decide +kernel
theorem dX10_distance_2 : decode cX10_distance 2 = .ok (.invokevirtual 124, 3) := by decide +kernel
theorem dX10_distance_5 : decode cX10_distance 5 = .ok (.astore 4, 2) := by decide +kernel
theorem dX10_distance_7 : decode cX10_distance 7 = .ok (.aload 4, 2) := by decide +kernel
theorem dX10_distance_9 : decode cX10_distance 9 = .ok (.ifnull 16, 3) := by decide +kernel
theorem dX10_distance_12 : decode cX10_distance 12 = .ok (.iload_n 2, 1) := by decide +kernel
theorem dX10_distance_13 : decode cX10_distance 13 = .ok (.ifCond .lt 12, 3) := by decide +kernel
theorem dX10_distance_16 : decode cX10_distance 16 = .ok (.iload_n 2, 1) := by decide +kernel
theorem dX10_distance_17 : decode cX10_distance 17 = .ok (.aload 4, 2) := by decide +kernel
theorem dX10_distance_19 : decode cX10_distance 19 = .ok (.getfield 245, 3) := by decide +kernel
theorem dX10_distance_22 : decode cX10_distance 22 = .ok (.if_icmp .lt 6, 3) := by decide +kernel
theorem dX10_distance_25 : decode cX10_distance 25 = .ok (.bipush (-2), 2) := by decide +kernel
theorem dX10_distance_27 : decode cX10_distance 27 = .ok (.ireturn, 1) := by decide +kernel
theorem dX10_distance_28 : decode cX10_distance 28 = .ok (.iload_n 3, 1) := by decide +kernel
theorem dX10_distance_29 : decode cX10_distance 29 = .ok (.tableswitch 48 0 2 #[27, 34, 41], 27) := by decide +kernel
theorem dX10_distance_56 : decode cX10_distance 56 = .ok (.aload 4, 2) := by decide +kernel
theorem dX10_distance_58 : decode cX10_distance 58 = .ok (.iload_n 2, 1) := by decide +kernel
theorem dX10_distance_59 : decode cX10_distance 59 = .ok (.invokevirtual 287, 3) := by decide +kernel
theorem dX10_distance_62 : decode cX10_distance 62 = .ok (.ireturn, 1) := by decide +kernel
theorem dX10_distance_63 : decode cX10_distance 63 = .ok (.aload 4, 2) := by decide +kernel
theorem dX10_distance_65 : decode cX10_distance 65 = .ok (.iload_n 2, 1) := by decide +kernel
theorem dX10_distance_66 : decode cX10_distance 66 = .ok (.invokevirtual 290, 3) := by decide +kernel
theorem dX10_distance_69 : decode cX10_distance 69 = .ok (.ireturn, 1) := by decide +kernel
theorem dX10_distance_70 : decode cX10_distance 70 = .ok (.aload 4, 2) := by decide +kernel
theorem dX10_distance_72 : decode cX10_distance 72 = .ok (.iload_n 2, 1) := by decide +kernel
theorem dX10_distance_73 : decode cX10_distance 73 = .ok (.invokevirtual 293, 3) := by decide +kernel
theorem dX10_distance_76 : decode cX10_distance 76 = .ok (.ireturn, 1) := by decide +kernel
theorem dX10_distance_77 : decode cX10_distance 77 = .ok (.bipush (-2), 2) := by decide +kernel
theorem dX10_distance_79 : decode cX10_distance 79 = .ok (.ireturn, 1) := by decide +kernel
theorem dX10_lastWord_0 : decode cX10_lastWord 0 = .ok (.aload_n 0, 1) := by decide +kernel
theorem dX10_lastWord_1 : decode cX10_lastWord 1 = .ok (.iload_n 1, 1) := by decide +kernel
theorem dX10_lastWord_2 : decode cX10_lastWord 2 = .ok (.invokevirtual 124, 3) := by decide +kernel
theorem dX10_lastWord_5 : decode cX10_lastWord 5 = .ok (.astore_n 3, 1) := by decide +kernel
theorem dX10_lastWord_6 : decode cX10_lastWord 6 = .ok (.aload_n 3, 1) := by decide +kernel
theorem dX10_lastWord_7 : decode cX10_lastWord 7 = .ok (.ifnonnull 6, 3) := by decide +kernel
theorem dX10_lastWord_10 : decode cX10_lastWord 10 = .ok (.bipush (-2), 2) := by decide +kernel
theorem dX10_lastWord_12 : decode cX10_lastWord 12 = .ok (.ireturn, 1) := by decide +kernel
theorem dX10_lastWord_13 : decode cX10_lastWord 13 = .ok (.iload_n 2, 1) := by decide +kernel
theorem dX10_lastWord_14 : decode cX10_lastWord 14 = .ok (.tableswitch 97 0 6 #[42, 47, 55, 63, 71, 79, 88], 42) := by decide +kernel
theorem dX10_lastWord_56 : decode cX10_lastWord 56 = .ok (.aload_n 3, 1) := by decide +kernel
theorem dX10_lastWord_57 : decode cX10_lastWord 57 = .ok (.invokevirtual 296, 3) := by decide +kernel
theorem dX10_lastWord_60 : decode cX10_lastWord 60 = .ok (.ireturn, 1) := by decide +kernel
theorem dX10_lastWord_61 : decode cX10_lastWord 61 = .ok (.aload_n 3, 1) := by decide +kernel
theorem dX10_lastWord_62 : decode cX10_lastWord 62 = .ok (.invokestatic 299, 3) := by decide +kernel
theorem dX10_lastWord_65 : decode cX10_lastWord 65 = .ok (.invokestatic 302, 3) := by decide +kernel
theorem dX10_lastWord_68 : decode cX10_lastWord 68 = .ok (.ireturn, 1) := by decide +kernel
theorem dX10_lastWord_69 : decode cX10_lastWord 69 = .ok (.aload_n 3, 1) := by decide +kernel
theorem dX10_lastWord_70 : decode cX10_lastWord 70 = .ok (.invokestatic 299, 3) := by decide +kernel
theorem dX10_lastWord_73 : decode cX10_lastWord 73 = .ok (.invokestatic 305, 3) := by decide +kernel
theorem dX10_lastWord_76 : decode cX10_lastWord 76 = .ok (.ireturn, 1) := by decide +kernel
theorem dX10_lastWord_77 : decode cX10_lastWord 77 = .ok (.aload_n 3, 1) := by decide +kernel
theorem dX10_lastWord_78 : decode cX10_lastWord 78 = .ok (.invokestatic 308, 3) := by decide +kernel
theorem dX10_lastWord_81 : decode cX10_lastWord 81 = .ok (.invokestatic 302, 3) := by decide +kernel
theorem dX10_lastWord_84 : decode cX10_lastWord 84 = .ok (.ireturn, 1) := by decide +kernel
theorem dX10_lastWord_85 : decode cX10_lastWord 85 = .ok (.aload_n 3, 1) := by decide +kernel
theorem dX10_lastWord_86 : decode cX10_lastWord 86 = .ok (.invokestatic 308, 3) := by decide +kernel
theorem dX10_lastWord_89 : decode cX10_lastWord 89 = .ok (.invokestatic 305, 3) := by decide +kernel
theorem dX10_lastWord_92 : decode cX10_lastWord 92 = .ok (.ireturn, 1) := by decide +kernel
theorem dX10_lastWord_93 : decode cX10_lastWord 93 = .ok (.aload_n 0, 1) := by decide +kernel
theorem dX10_lastWord_94 : decode cX10_lastWord 94 = .ok (.aload_n 3, 1) := by decide +kernel
theorem dX10_lastWord_95 : decode cX10_lastWord 95 = .ok (.invokevirtual 311, 3) := by decide +kernel
theorem dX10_lastWord_98 : decode cX10_lastWord 98 = .ok (.invokestatic 302, 3) := by decide +kernel
theorem dX10_lastWord_101 : decode cX10_lastWord 101 = .ok (.ireturn, 1) := by decide +kernel
theorem dX10_lastWord_102 : decode cX10_lastWord 102 = .ok (.aload_n 0, 1) := by decide +kernel
theorem dX10_lastWord_103 : decode cX10_lastWord 103 = .ok (.aload_n 3, 1) := by decide +kernel
theorem dX10_lastWord_104 : decode cX10_lastWord 104 = .ok (.invokevirtual 311, 3) := by decide +kernel
theorem dX10_lastWord_107 : decode cX10_lastWord 107 = .ok (.invokestatic 305, 3) := by decide +kernel
theorem dX10_lastWord_110 : decode cX10_lastWord 110 = .ok (.ireturn, 1) := by decide +kernel
theorem dX10_lastWord_111 : decode cX10_lastWord 111 = .ok (.aload_n 3, 1) := by decide +kernel
theorem dX10_lastWord_112 : decode cX10_lastWord 112 = .ok (.iload_n 2, 1) := by decide +kernel
theorem dX10_lastWord_113 : decode cX10_lastWord 113 = .ok (.bipush 10, 2) := by decide +kernel
theorem dX10_lastWord_115 : decode cX10_lastWord 115 = .ok (.isub, 1) := by decide +kernel
theorem dX10_lastWord_116 : decode cX10_lastWord 116 = .ok (.invokestatic 314, 3) := by decide +kernel
theorem dX10_lastWord_119 : decode cX10_lastWord 119 = .ok (.ireturn, 1) := by decide +kernel
theorem dX10_which_0 : decode cX10_which 0 = .ok (.iload_n 0, 1) := by decide +kernel
theorem dX10_which_1 : decode cX10_which 1 = .ok (.ifCond .ge 7, 3) := by decide +kernel
theorem dX10_which_4 : decode cX10_which 4 = .ok (.iconst (-1), 1) := by decide +kernel
theorem dX10_which_5 : decode cX10_which 5 = .ok (.goto 7, 3) := by decide +kernel
theorem dX10_which_8 : decode cX10_which 8 = .ok (.iload_n 0, 1) := by decide +kernel
theorem dX10_which_9 : decode cX10_which 9 = .ok (.bipush 100, 2) := by decide +kernel
theorem dX10_which_11 : decode cX10_which 11 = .ok (.irem, 1) := by decide +kernel
theorem dX10_which_12 : decode cX10_which 12 = .ok (.ireturn, 1) := by decide +kernel
theorem dX10_howMuch_0 : decode cX10_howMuch 0 = .ok (.iload_n 0, 1) := by decide +kernel
theorem dX10_howMuch_1 : decode cX10_howMuch 1 = .ok (.ifCond .ge 7, 3) := by decide +kernel
theorem dX10_howMuch_4 : decode cX10_howMuch 4 = .ok (.iconst 0, 1) := by decide +kernel
theorem dX10_howMuch_5 : decode cX10_howMuch 5 = .ok (.goto 7, 3) := by decide +kernel
theorem dX10_howMuch_8 : decode cX10_howMuch 8 = .ok (.iload_n 0, 1) := by decide +kernel
theorem dX10_howMuch_9 : decode cX10_howMuch 9 = .ok (.bipush 100, 2) := by decide +kernel
theorem dX10_howMuch_11 : decode cX10_howMuch 11 = .ok (.idiv, 1) := by decide +kernel
theorem dX10_howMuch_12 : decode cX10_howMuch 12 = .ok (.ireturn, 1) := by decide +kernel
theorem dX10_bestLast_0 : decode cX10_bestLast 0 = .ok (.iconst (-1), 1) := by decide +kernel
theorem dX10_bestLast_1 : decode cX10_bestLast 1 = .ok (.istore_n 1, 1) := by decide +kernel
theorem dX10_bestLast_2 : decode cX10_bestLast 2 = .ok (.iconst 0, 1) := by decide +kernel
theorem dX10_bestLast_3 : decode cX10_bestLast 3 = .ok (.istore_n 2, 1) := by decide +kernel
theorem dX10_bestLast_4 : decode cX10_bestLast 4 = .ok (.iload_n 2, 1) := by decide +kernel
theorem dX10_bestLast_5 : decode cX10_bestLast 5 = .ok (.aload_n 0, 1) := by decide +kernel
theorem dX10_bestLast_6 : decode cX10_bestLast 6 = .ok (.getfield 245, 3) := by decide +kernel
theorem dX10_bestLast_9 : decode cX10_bestLast 9 = .ok (.if_icmp .ge 66, 3) := by decide +kernel
theorem dX10_bestLast_12 : decode cX10_bestLast 12 = .ok (.aload_n 0, 1) := by decide +kernel
theorem dX10_bestLast_13 : decode cX10_bestLast 13 = .ok (.getfield 248, 3) := by decide +kernel
theorem dX10_bestLast_16 : decode cX10_bestLast 16 = .ok (.istore_n 3, 1) := by decide +kernel
theorem dX10_bestLast_17 : decode cX10_bestLast 17 = .ok (.iconst 0, 1) := by decide +kernel
theorem dX10_bestLast_18 : decode cX10_bestLast 18 = .ok (.istore 4, 2) := by decide +kernel
theorem dX10_bestLast_20 : decode cX10_bestLast 20 = .ok (.iload 4, 2) := by decide +kernel
theorem dX10_bestLast_22 : decode cX10_bestLast 22 = .ok (.aload_n 0, 1) := by decide +kernel
theorem dX10_bestLast_23 : decode cX10_bestLast 23 = .ok (.getfield 245, 3) := by decide +kernel
theorem dX10_bestLast_26 : decode cX10_bestLast 26 = .ok (.if_icmp .ge 27, 3) := by decide +kernel
theorem dX10_bestLast_29 : decode cX10_bestLast 29 = .ok (.iload 4, 2) := by decide +kernel
theorem dX10_bestLast_31 : decode cX10_bestLast 31 = .ok (.iload_n 2, 1) := by decide +kernel
theorem dX10_bestLast_32 : decode cX10_bestLast 32 = .ok (.if_icmp .ne 7, 3) := by decide +kernel
theorem dX10_bestLast_35 : decode cX10_bestLast 35 = .ok (.iload_n 3, 1) := by decide +kernel
theorem dX10_bestLast_36 : decode cX10_bestLast 36 = .ok (.goto 10, 3) := by decide +kernel
theorem dX10_bestLast_39 : decode cX10_bestLast 39 = .ok (.aload_n 0, 1) := by decide +kernel
theorem dX10_bestLast_40 : decode cX10_bestLast 40 = .ok (.iload 4, 2) := by decide +kernel
theorem dX10_bestLast_42 : decode cX10_bestLast 42 = .ok (.iload_n 3, 1) := by decide +kernel
theorem dX10_bestLast_43 : decode cX10_bestLast 43 = .ok (.invokevirtual 251, 3) := by decide +kernel
theorem dX10_bestLast_46 : decode cX10_bestLast 46 = .ok (.istore_n 3, 1) := by decide +kernel
theorem dX10_bestLast_47 : decode cX10_bestLast 47 = .ok (.iinc 4 1, 3) := by decide +kernel
theorem dX10_bestLast_50 : decode cX10_bestLast 50 = .ok (.goto (-30), 3) := by decide +kernel
theorem dX10_bestLast_53 : decode cX10_bestLast 53 = .ok (.iload_n 1, 1) := by decide +kernel
theorem dX10_bestLast_54 : decode cX10_bestLast 54 = .ok (.aload_n 0, 1) := by decide +kernel
theorem dX10_bestLast_55 : decode cX10_bestLast 55 = .ok (.aload_n 0, 1) := by decide +kernel
theorem dX10_bestLast_56 : decode cX10_bestLast 56 = .ok (.iload_n 2, 1) := by decide +kernel
theorem dX10_bestLast_57 : decode cX10_bestLast 57 = .ok (.iload_n 3, 1) := by decide +kernel
theorem dX10_bestLast_58 : decode cX10_bestLast 58 = .ok (.invokevirtual 251, 3) := by decide +kernel
theorem dX10_bestLast_61 : decode cX10_bestLast 61 = .ok (.invokevirtual 262, 3) := by decide +kernel
theorem dX10_bestLast_64 : decode cX10_bestLast 64 = .ok (.iload_n 2, 1) := by decide +kernel
theorem dX10_bestLast_65 : decode cX10_bestLast 65 = .ok (.invokestatic 318, 3) := by decide +kernel
theorem dX10_bestLast_68 : decode cX10_bestLast 68 = .ok (.istore_n 1, 1) := by decide +kernel
theorem dX10_bestLast_69 : decode cX10_bestLast 69 = .ok (.iinc 2 1, 3) := by decide +kernel
theorem dX10_bestLast_72 : decode cX10_bestLast 72 = .ok (.goto (-68), 3) := by decide +kernel
theorem dX10_bestLast_75 : decode cX10_bestLast 75 = .ok (.iload_n 1, 1) := by decide +kernel
theorem dX10_bestLast_76 : decode cX10_bestLast 76 = .ok (.ireturn, 1) := by decide +kernel
theorem dX10_bestSwap_0 : decode cX10_bestSwap 0 = .ok (.iconst (-1), 1) := by decide +kernel
theorem dX10_bestSwap_1 : decode cX10_bestSwap 1 = .ok (.istore_n 1, 1) := by decide +kernel
theorem dX10_bestSwap_2 : decode cX10_bestSwap 2 = .ok (.iconst 0, 1) := by decide +kernel
theorem dX10_bestSwap_3 : decode cX10_bestSwap 3 = .ok (.istore_n 2, 1) := by decide +kernel
theorem dX10_bestSwap_4 : decode cX10_bestSwap 4 = .ok (.iload_n 2, 1) := by decide +kernel
theorem dX10_bestSwap_5 : decode cX10_bestSwap 5 = .ok (.aload_n 0, 1) := by decide +kernel
theorem dX10_bestSwap_6 : decode cX10_bestSwap 6 = .ok (.getfield 245, 3) := by decide +kernel
theorem dX10_bestSwap_9 : decode cX10_bestSwap 9 = .ok (.if_icmp .ge 98, 3) := by decide +kernel
theorem dX10_bestSwap_12 : decode cX10_bestSwap 12 = .ok (.iload_n 2, 1) := by decide +kernel
theorem dX10_bestSwap_13 : decode cX10_bestSwap 13 = .ok (.iconst 1, 1) := by decide +kernel
theorem dX10_bestSwap_14 : decode cX10_bestSwap 14 = .ok (.iadd, 1) := by decide +kernel
theorem dX10_bestSwap_15 : decode cX10_bestSwap 15 = .ok (.istore_n 3, 1) := by decide +kernel
theorem dX10_bestSwap_16 : decode cX10_bestSwap 16 = .ok (.iload_n 3, 1) := by decide +kernel
theorem dX10_bestSwap_17 : decode cX10_bestSwap 17 = .ok (.aload_n 0, 1) := by decide +kernel
theorem dX10_bestSwap_18 : decode cX10_bestSwap 18 = .ok (.getfield 245, 3) := by decide +kernel
theorem dX10_bestSwap_21 : decode cX10_bestSwap 21 = .ok (.if_icmp .ge 80, 3) := by decide +kernel
theorem dX10_bestSwap_24 : decode cX10_bestSwap 24 = .ok (.aload_n 0, 1) := by decide +kernel
theorem dX10_bestSwap_25 : decode cX10_bestSwap 25 = .ok (.getfield 248, 3) := by decide +kernel
theorem dX10_bestSwap_28 : decode cX10_bestSwap 28 = .ok (.istore 4, 2) := by decide +kernel
theorem dX10_bestSwap_30 : decode cX10_bestSwap 30 = .ok (.iconst 0, 1) := by decide +kernel
theorem dX10_bestSwap_31 : decode cX10_bestSwap 31 = .ok (.istore 5, 2) := by decide +kernel
theorem dX10_bestSwap_33 : decode cX10_bestSwap 33 = .ok (.iload 5, 2) := by decide +kernel
theorem dX10_bestSwap_35 : decode cX10_bestSwap 35 = .ok (.aload_n 0, 1) := by decide +kernel
theorem dX10_bestSwap_36 : decode cX10_bestSwap 36 = .ok (.getfield 245, 3) := by decide +kernel
theorem dX10_bestSwap_39 : decode cX10_bestSwap 39 = .ok (.if_icmp .ge 39, 3) := by decide +kernel
theorem dX10_bestSwap_42 : decode cX10_bestSwap 42 = .ok (.aload_n 0, 1) := by decide +kernel
theorem dX10_bestSwap_43 : decode cX10_bestSwap 43 = .ok (.iload 5, 2) := by decide +kernel
theorem dX10_bestSwap_45 : decode cX10_bestSwap 45 = .ok (.iload_n 2, 1) := by decide +kernel
theorem dX10_bestSwap_46 : decode cX10_bestSwap 46 = .ok (.if_icmp .ne 7, 3) := by decide +kernel
theorem dX10_bestSwap_49 : decode cX10_bestSwap 49 = .ok (.iload_n 3, 1) := by decide +kernel
theorem dX10_bestSwap_50 : decode cX10_bestSwap 50 = .ok (.goto 15, 3) := by decide +kernel
theorem dX10_bestSwap_53 : decode cX10_bestSwap 53 = .ok (.iload 5, 2) := by decide +kernel
theorem dX10_bestSwap_55 : decode cX10_bestSwap 55 = .ok (.iload_n 3, 1) := by decide +kernel
theorem dX10_bestSwap_56 : decode cX10_bestSwap 56 = .ok (.if_icmp .ne 7, 3) := by decide +kernel
theorem dX10_bestSwap_59 : decode cX10_bestSwap 59 = .ok (.iload_n 2, 1) := by decide +kernel
theorem dX10_bestSwap_60 : decode cX10_bestSwap 60 = .ok (.goto 5, 3) := by decide +kernel
theorem dX10_bestSwap_63 : decode cX10_bestSwap 63 = .ok (.iload 5, 2) := by decide +kernel
theorem dX10_bestSwap_65 : decode cX10_bestSwap 65 = .ok (.iload 4, 2) := by decide +kernel
theorem dX10_bestSwap_67 : decode cX10_bestSwap 67 = .ok (.invokevirtual 251, 3) := by decide +kernel
theorem dX10_bestSwap_70 : decode cX10_bestSwap 70 = .ok (.istore 4, 2) := by decide +kernel
theorem dX10_bestSwap_72 : decode cX10_bestSwap 72 = .ok (.iinc 5 1, 3) := by decide +kernel
theorem dX10_bestSwap_75 : decode cX10_bestSwap 75 = .ok (.goto (-42), 3) := by decide +kernel
theorem dX10_bestSwap_78 : decode cX10_bestSwap 78 = .ok (.iload_n 1, 1) := by decide +kernel
theorem dX10_bestSwap_79 : decode cX10_bestSwap 79 = .ok (.aload_n 0, 1) := by decide +kernel
theorem dX10_bestSwap_80 : decode cX10_bestSwap 80 = .ok (.iload 4, 2) := by decide +kernel
theorem dX10_bestSwap_82 : decode cX10_bestSwap 82 = .ok (.invokevirtual 262, 3) := by decide +kernel
theorem dX10_bestSwap_85 : decode cX10_bestSwap 85 = .ok (.bipush 10, 2) := by decide +kernel
theorem dX10_bestSwap_87 : decode cX10_bestSwap 87 = .ok (.iload_n 2, 1) := by decide +kernel
theorem dX10_bestSwap_88 : decode cX10_bestSwap 88 = .ok (.imul, 1) := by decide +kernel
theorem dX10_bestSwap_89 : decode cX10_bestSwap 89 = .ok (.iload_n 3, 1) := by decide +kernel
theorem dX10_bestSwap_90 : decode cX10_bestSwap 90 = .ok (.iadd, 1) := by decide +kernel
theorem dX10_bestSwap_91 : decode cX10_bestSwap 91 = .ok (.invokestatic 318, 3) := by decide +kernel
theorem dX10_bestSwap_94 : decode cX10_bestSwap 94 = .ok (.istore_n 1, 1) := by decide +kernel
theorem dX10_bestSwap_95 : decode cX10_bestSwap 95 = .ok (.iinc 3 1, 3) := by decide +kernel
theorem dX10_bestSwap_98 : decode cX10_bestSwap 98 = .ok (.goto (-82), 3) := by decide +kernel
theorem dX10_bestSwap_101 : decode cX10_bestSwap 101 = .ok (.iinc 2 1, 3) := by decide +kernel
theorem dX10_bestSwap_104 : decode cX10_bestSwap 104 = .ok (.goto (-100), 3) := by decide +kernel
theorem dX10_bestSwap_107 : decode cX10_bestSwap 107 = .ok (.iload_n 1, 1) := by decide +kernel
theorem dX10_bestSwap_108 : decode cX10_bestSwap 108 = .ok (.ireturn, 1) := by decide +kernel
theorem dX10_bestCouple_0 : decode cX10_bestCouple 0 = .ok (.iconst (-1), 1) := by decide +kernel
theorem dX10_bestCouple_1 : decode cX10_bestCouple 1 = .ok (.istore_n 2, 1) := by decide +kernel
theorem dX10_bestCouple_2 : decode cX10_bestCouple 2 = .ok (.aload_n 0, 1) := by decide +kernel
theorem dX10_bestCouple_3 : decode cX10_bestCouple 3 = .ok (.getfield 62, 3) := by decide +kernel
theorem dX10_bestCouple_6 : decode cX10_bestCouple 6 = .ok (.aload_n 1, 1) := by decide +kernel
theorem dX10_bestCouple_7 : decode cX10_bestCouple 7 = .ok (.getfield 199, 3) := by decide +kernel
theorem dX10_bestCouple_10 : decode cX10_bestCouple 10 = .ok (.invokevirtual 228, 3) := by decide +kernel
theorem dX10_bestCouple_13 : decode cX10_bestCouple 13 = .ok (.iconst 0, 1) := by decide +kernel
theorem dX10_bestCouple_14 : decode cX10_bestCouple 14 = .ok (.istore_n 3, 1) := by decide +kernel
theorem dX10_bestCouple_15 : decode cX10_bestCouple 15 = .ok (.iload_n 3, 1) := by decide +kernel
theorem dX10_bestCouple_16 : decode cX10_bestCouple 16 = .ok (.bipush 10, 2) := by decide +kernel
theorem dX10_bestCouple_18 : decode cX10_bestCouple 18 = .ok (.if_icmp .ge 88, 3) := by decide +kernel
theorem dX10_bestCouple_21 : decode cX10_bestCouple 21 = .ok (.iload_n 3, 1) := by decide +kernel
theorem dX10_bestCouple_22 : decode cX10_bestCouple 22 = .ok (.iconst 1, 1) := by decide +kernel
theorem dX10_bestCouple_23 : decode cX10_bestCouple 23 = .ok (.iadd, 1) := by decide +kernel
theorem dX10_bestCouple_24 : decode cX10_bestCouple 24 = .ok (.istore 4, 2) := by decide +kernel
theorem dX10_bestCouple_26 : decode cX10_bestCouple 26 = .ok (.iload 4, 2) := by decide +kernel
theorem dX10_bestCouple_28 : decode cX10_bestCouple 28 = .ok (.bipush 10, 2) := by decide +kernel
theorem dX10_bestCouple_30 : decode cX10_bestCouple 30 = .ok (.if_icmp .ge 70, 3) := by decide +kernel
theorem dX10_bestCouple_33 : decode cX10_bestCouple 33 = .ok (.aload_n 1, 1) := by decide +kernel
theorem dX10_bestCouple_34 : decode cX10_bestCouple 34 = .ok (.getfield 199, 3) := by decide +kernel
theorem dX10_bestCouple_37 : decode cX10_bestCouple 37 = .ok (.iload_n 3, 1) := by decide +kernel
theorem dX10_bestCouple_38 : decode cX10_bestCouple 38 = .ok (.iload 4, 2) := by decide +kernel
theorem dX10_bestCouple_40 : decode cX10_bestCouple 40 = .ok (.invokevirtual 231, 3) := by decide +kernel
theorem dX10_bestCouple_43 : decode cX10_bestCouple 43 = .ok (.ifCond .ne 51, 3) := by decide +kernel
theorem dX10_bestCouple_46 : decode cX10_bestCouple 46 = .ok (.aload_n 0, 1) := by decide +kernel
theorem dX10_bestCouple_47 : decode cX10_bestCouple 47 = .ok (.getfield 62, 3) := by decide +kernel
theorem dX10_bestCouple_50 : decode cX10_bestCouple 50 = .ok (.iload_n 3, 1) := by decide +kernel
theorem dX10_bestCouple_51 : decode cX10_bestCouple 51 = .ok (.iload 4, 2) := by decide +kernel
theorem dX10_bestCouple_53 : decode cX10_bestCouple 53 = .ok (.invokevirtual 242, 3) := by decide +kernel
theorem dX10_bestCouple_56 : decode cX10_bestCouple 56 = .ok (.iload_n 2, 1) := by decide +kernel
theorem dX10_bestCouple_57 : decode cX10_bestCouple 57 = .ok (.aload_n 1, 1) := by decide +kernel
theorem dX10_bestCouple_58 : decode cX10_bestCouple 58 = .ok (.aload_n 1, 1) := by decide +kernel
theorem dX10_bestCouple_59 : decode cX10_bestCouple 59 = .ok (.aload_n 0, 1) := by decide +kernel
theorem dX10_bestCouple_60 : decode cX10_bestCouple 60 = .ok (.getfield 62, 3) := by decide +kernel
theorem dX10_bestCouple_63 : decode cX10_bestCouple 63 = .ok (.aload_n 1, 1) := by decide +kernel
theorem dX10_bestCouple_64 : decode cX10_bestCouple 64 = .ok (.getfield 248, 3) := by decide +kernel
theorem dX10_bestCouple_67 : decode cX10_bestCouple 67 = .ok (.invokevirtual 322, 3) := by decide +kernel
theorem dX10_bestCouple_70 : decode cX10_bestCouple 70 = .ok (.invokevirtual 262, 3) := by decide +kernel
theorem dX10_bestCouple_73 : decode cX10_bestCouple 73 = .ok (.bipush 10, 2) := by decide +kernel
theorem dX10_bestCouple_75 : decode cX10_bestCouple 75 = .ok (.iload_n 3, 1) := by decide +kernel
theorem dX10_bestCouple_76 : decode cX10_bestCouple 76 = .ok (.imul, 1) := by decide +kernel
theorem dX10_bestCouple_77 : decode cX10_bestCouple 77 = .ok (.iload 4, 2) := by decide +kernel
theorem dX10_bestCouple_79 : decode cX10_bestCouple 79 = .ok (.iadd, 1) := by decide +kernel
theorem dX10_bestCouple_80 : decode cX10_bestCouple 80 = .ok (.invokestatic 318, 3) := by decide +kernel
theorem dX10_bestCouple_83 : decode cX10_bestCouple 83 = .ok (.istore_n 2, 1) := by decide +kernel
theorem dX10_bestCouple_84 : decode cX10_bestCouple 84 = .ok (.aload_n 0, 1) := by decide +kernel
theorem dX10_bestCouple_85 : decode cX10_bestCouple 85 = .ok (.getfield 62, 3) := by decide +kernel
theorem dX10_bestCouple_88 : decode cX10_bestCouple 88 = .ok (.iload_n 3, 1) := by decide +kernel
theorem dX10_bestCouple_89 : decode cX10_bestCouple 89 = .ok (.iload 4, 2) := by decide +kernel
theorem dX10_bestCouple_91 : decode cX10_bestCouple 91 = .ok (.invokevirtual 238, 3) := by decide +kernel
theorem dX10_bestCouple_94 : decode cX10_bestCouple 94 = .ok (.iinc 4 1, 3) := by decide +kernel
theorem dX10_bestCouple_97 : decode cX10_bestCouple 97 = .ok (.goto (-71), 3) := by decide +kernel
theorem dX10_bestCouple_100 : decode cX10_bestCouple 100 = .ok (.iinc 3 1, 3) := by decide +kernel
theorem dX10_bestCouple_103 : decode cX10_bestCouple 103 = .ok (.goto (-88), 3) := by decide +kernel
theorem dX10_bestCouple_106 : decode cX10_bestCouple 106 = .ok (.iload_n 2, 1) := by decide +kernel
theorem dX10_bestCouple_107 : decode cX10_bestCouple 107 = .ok (.ireturn, 1) := by decide +kernel
theorem dX10_better_0 : decode cX10_better 0 = .ok (.iload_n 0, 1) := by decide +kernel
theorem dX10_better_1 : decode cX10_better 1 = .ok (.ifCond .lt 11, 3) := by decide +kernel
theorem dX10_better_4 : decode cX10_better 4 = .ok (.iload_n 1, 1) := by decide +kernel
theorem dX10_better_5 : decode cX10_better 5 = .ok (.iload_n 0, 1) := by decide +kernel
theorem dX10_better_6 : decode cX10_better 6 = .ok (.bipush 100, 2) := by decide +kernel
theorem dX10_better_8 : decode cX10_better 8 = .ok (.idiv, 1) := by decide +kernel
theorem dX10_better_9 : decode cX10_better 9 = .ok (.if_icmp .le 12, 3) := by decide +kernel
theorem dX10_better_12 : decode cX10_better 12 = .ok (.bipush 100, 2) := by decide +kernel
theorem dX10_better_14 : decode cX10_better 14 = .ok (.iload_n 1, 1) := by decide +kernel
theorem dX10_better_15 : decode cX10_better 15 = .ok (.imul, 1) := by decide +kernel
theorem dX10_better_16 : decode cX10_better 16 = .ok (.iload_n 2, 1) := by decide +kernel
theorem dX10_better_17 : decode cX10_better 17 = .ok (.iadd, 1) := by decide +kernel
theorem dX10_better_18 : decode cX10_better 18 = .ok (.goto 4, 3) := by decide +kernel
theorem dX10_better_21 : decode cX10_better 21 = .ok (.iload_n 0, 1) := by decide +kernel
theorem dX10_better_22 : decode cX10_better 22 = .ok (.ireturn, 1) := by decide +kernel
theorem dX10_blame_0 : decode cX10_blame 0 = .ok (.iload_n 1, 1) := by decide +kernel
theorem dX10_blame_1 : decode cX10_blame 1 = .ok (.ifCond .lt 11, 3) := by decide +kernel
theorem dX10_blame_4 : decode cX10_blame 4 = .ok (.iload_n 1, 1) := by decide +kernel
theorem dX10_blame_5 : decode cX10_blame 5 = .ok (.aload_n 0, 1) := by decide +kernel
theorem dX10_blame_6 : decode cX10_blame 6 = .ok (.getfield 269, 3) := by decide +kernel
theorem dX10_blame_9 : decode cX10_blame 9 = .ok (.if_icmp .lt 6, 3) := by decide +kernel
theorem dX10_blame_12 : decode cX10_blame 12 = .ok (.bipush (-2), 2) := by decide +kernel
theorem dX10_blame_14 : decode cX10_blame 14 = .ok (.ireturn, 1) := by decide +kernel
theorem dX10_blame_15 : decode cX10_blame 15 = .ok (.iconst (-1), 1) := by decide +kernel
theorem dX10_blame_16 : decode cX10_blame 16 = .ok (.istore_n 2, 1) := by decide +kernel
theorem dX10_blame_17 : decode cX10_blame 17 = .ok (.aload_n 0, 1) := by decide +kernel
theorem dX10_blame_18 : decode cX10_blame 18 = .ok (.getfield 248, 3) := by decide +kernel
theorem dX10_blame_21 : decode cX10_blame 21 = .ok (.istore_n 3, 1) := by decide +kernel
theorem dX10_blame_22 : decode cX10_blame 22 = .ok (.iconst 0, 1) := by decide +kernel
theorem dX10_blame_23 : decode cX10_blame 23 = .ok (.istore 4, 2) := by decide +kernel
theorem dX10_blame_25 : decode cX10_blame 25 = .ok (.iload 4, 2) := by decide +kernel
theorem dX10_blame_27 : decode cX10_blame 27 = .ok (.aload_n 0, 1) := by decide +kernel
theorem dX10_blame_28 : decode cX10_blame 28 = .ok (.getfield 245, 3) := by decide +kernel
theorem dX10_blame_31 : decode cX10_blame 31 = .ok (.if_icmp .ge 38, 3) := by decide +kernel
theorem dX10_blame_34 : decode cX10_blame 34 = .ok (.aload_n 0, 1) := by decide +kernel
theorem dX10_blame_35 : decode cX10_blame 35 = .ok (.iload 4, 2) := by decide +kernel
theorem dX10_blame_37 : decode cX10_blame 37 = .ok (.iload_n 3, 1) := by decide +kernel
theorem dX10_blame_38 : decode cX10_blame 38 = .ok (.invokevirtual 251, 3) := by decide +kernel
theorem dX10_blame_41 : decode cX10_blame 41 = .ok (.istore 5, 2) := by decide +kernel
theorem dX10_blame_43 : decode cX10_blame 43 = .ok (.iload 5, 2) := by decide +kernel
theorem dX10_blame_45 : decode cX10_blame 45 = .ok (.iload_n 1, 1) := by decide +kernel
theorem dX10_blame_46 : decode cX10_blame 46 = .ok (.invokestatic 272, 3) := by decide +kernel
theorem dX10_blame_49 : decode cX10_blame 49 = .ok (.iload_n 3, 1) := by decide +kernel
theorem dX10_blame_50 : decode cX10_blame 50 = .ok (.iload_n 1, 1) := by decide +kernel
theorem dX10_blame_51 : decode cX10_blame 51 = .ok (.invokestatic 272, 3) := by decide +kernel
theorem dX10_blame_54 : decode cX10_blame 54 = .ok (.if_icmp .eq 6, 3) := by decide +kernel
theorem dX10_blame_57 : decode cX10_blame 57 = .ok (.iload 4, 2) := by decide +kernel
theorem dX10_blame_59 : decode cX10_blame 59 = .ok (.istore_n 2, 1) := by decide +kernel
theorem dX10_blame_60 : decode cX10_blame 60 = .ok (.iload 5, 2) := by decide +kernel
theorem dX10_blame_62 : decode cX10_blame 62 = .ok (.istore_n 3, 1) := by decide +kernel
theorem dX10_blame_63 : decode cX10_blame 63 = .ok (.iinc 4 1, 3) := by decide +kernel
theorem dX10_blame_66 : decode cX10_blame 66 = .ok (.goto (-41), 3) := by decide +kernel
theorem dX10_blame_69 : decode cX10_blame 69 = .ok (.iload_n 2, 1) := by decide +kernel
theorem dX10_blame_70 : decode cX10_blame 70 = .ok (.ireturn, 1) := by decide +kernel
theorem dX10_desks_0 : decode cX10_desks 0 = .ok (.aload_n 0, 1) := by decide +kernel
theorem dX10_desks_1 : decode cX10_desks 1 = .ok (.iload_n 1, 1) := by decide +kernel
theorem dX10_desks_2 : decode cX10_desks 2 = .ok (.invokevirtual 124, 3) := by decide +kernel
theorem dX10_desks_5 : decode cX10_desks 5 = .ok (.astore 4, 2) := by decide +kernel
theorem dX10_desks_7 : decode cX10_desks 7 = .ok (.aload 4, 2) := by decide +kernel
theorem dX10_desks_9 : decode cX10_desks 9 = .ok (.ifnull 27, 3) := by decide +kernel
theorem dX10_desks_12 : decode cX10_desks 12 = .ok (.iload_n 2, 1) := by decide +kernel
theorem dX10_desks_13 : decode cX10_desks 13 = .ok (.iconst 1, 1) := by decide +kernel
theorem dX10_desks_14 : decode cX10_desks 14 = .ok (.if_icmp .lt 22, 3) := by decide +kernel
theorem dX10_desks_17 : decode cX10_desks 17 = .ok (.iload_n 2, 1) := by decide +kernel
theorem dX10_desks_18 : decode cX10_desks 18 = .ok (.iconst 3, 1) := by decide +kernel
theorem dX10_desks_19 : decode cX10_desks 19 = .ok (.if_icmp .gt 17, 3) := by decide +kernel
theorem dX10_desks_22 : decode cX10_desks 22 = .ok (.iload_n 3, 1) := by decide +kernel
theorem dX10_desks_23 : decode cX10_desks 23 = .ok (.iconst (-1), 1) := by decide +kernel
theorem dX10_desks_24 : decode cX10_desks 24 = .ok (.if_icmp .lt 12, 3) := by decide +kernel
theorem dX10_desks_27 : decode cX10_desks 27 = .ok (.iload_n 3, 1) := by decide +kernel
theorem dX10_desks_28 : decode cX10_desks 28 = .ok (.aload 4, 2) := by decide +kernel
theorem dX10_desks_30 : decode cX10_desks 30 = .ok (.getfield 245, 3) := by decide +kernel
theorem dX10_desks_33 : decode cX10_desks 33 = .ok (.if_icmp .lt 5, 3) := by decide +kernel
theorem dX10_desks_36 : decode cX10_desks 36 = .ok (.iconst (-1), 1) := by decide +kernel
theorem dX10_desks_37 : decode cX10_desks 37 = .ok (.ireturn, 1) := by decide +kernel
theorem dX10_desks_38 : decode cX10_desks 38 = .ok (.iconst 1, 1) := by decide +kernel
theorem dX10_desks_39 : decode cX10_desks 39 = .ok (.istore 5, 2) := by decide +kernel
theorem dX10_desks_41 : decode cX10_desks 41 = .ok (.iconst 0, 1) := by decide +kernel
theorem dX10_desks_42 : decode cX10_desks 42 = .ok (.istore 6, 2) := by decide +kernel
theorem dX10_desks_44 : decode cX10_desks 44 = .ok (.iload 6, 2) := by decide +kernel
theorem dX10_desks_46 : decode cX10_desks 46 = .ok (.aload 4, 2) := by decide +kernel
theorem dX10_desks_48 : decode cX10_desks 48 = .ok (.getfield 245, 3) := by decide +kernel
theorem dX10_desks_51 : decode cX10_desks 51 = .ok (.if_icmp .ge 15, 3) := by decide +kernel
theorem dX10_desks_54 : decode cX10_desks 54 = .ok (.iload 5, 2) := by decide +kernel
theorem dX10_desks_56 : decode cX10_desks 56 = .ok (.iload_n 2, 1) := by decide +kernel
theorem dX10_desks_57 : decode cX10_desks 57 = .ok (.imul, 1) := by decide +kernel
theorem dX10_desks_58 : decode cX10_desks 58 = .ok (.istore 5, 2) := by decide +kernel
theorem dX10_desks_60 : decode cX10_desks 60 = .ok (.iinc 6 1, 3) := by decide +kernel
theorem dX10_desks_63 : decode cX10_desks 63 = .ok (.goto (-19), 3) := by decide +kernel
theorem dX10_desks_66 : decode cX10_desks 66 = .ok (.iconst 0, 1) := by decide +kernel
theorem dX10_desks_67 : decode cX10_desks 67 = .ok (.istore 6, 2) := by decide +kernel
theorem dX10_desks_69 : decode cX10_desks 69 = .ok (.bipush 55, 2) := by decide +kernel
theorem dX10_desks_71 : decode cX10_desks 71 = .ok (.istore 7, 2) := by decide +kernel
theorem dX10_desks_73 : decode cX10_desks 73 = .ok (.iconst 0, 1) := by decide +kernel
theorem dX10_desks_74 : decode cX10_desks 74 = .ok (.istore 8, 2) := by decide +kernel
theorem dX10_desks_76 : decode cX10_desks 76 = .ok (.iload 8, 2) := by decide +kernel
theorem dX10_desks_78 : decode cX10_desks 78 = .ok (.iload 5, 2) := by decide +kernel
theorem dX10_desks_80 : decode cX10_desks 80 = .ok (.if_icmp .ge 35, 3) := by decide +kernel
theorem dX10_desks_83 : decode cX10_desks 83 = .ok (.aload_n 0, 1) := by decide +kernel
theorem dX10_desks_84 : decode cX10_desks 84 = .ok (.aload 4, 2) := by decide +kernel
theorem dX10_desks_86 : decode cX10_desks 86 = .ok (.iload_n 2, 1) := by decide +kernel
theorem dX10_desks_87 : decode cX10_desks 87 = .ok (.iload 8, 2) := by decide +kernel
theorem dX10_desks_89 : decode cX10_desks 89 = .ok (.invokevirtual 326, 3) := by decide +kernel
theorem dX10_desks_92 : decode cX10_desks 92 = .ok (.istore 9, 2) := by decide +kernel
theorem dX10_desks_94 : decode cX10_desks 94 = .ok (.iload 9, 2) := by decide +kernel
theorem dX10_desks_96 : decode cX10_desks 96 = .ok (.iload 7, 2) := by decide +kernel
theorem dX10_desks_98 : decode cX10_desks 98 = .ok (.if_icmp .ge 11, 3) := by decide +kernel
theorem dX10_desks_101 : decode cX10_desks 101 = .ok (.iload 9, 2) := by decide +kernel
theorem dX10_desks_103 : decode cX10_desks 103 = .ok (.istore 7, 2) := by decide +kernel
theorem dX10_desks_105 : decode cX10_desks 105 = .ok (.iload 8, 2) := by decide +kernel
theorem dX10_desks_107 : decode cX10_desks 107 = .ok (.istore 6, 2) := by decide +kernel
theorem dX10_desks_109 : decode cX10_desks 109 = .ok (.iinc 8 1, 3) := by decide +kernel
theorem dX10_desks_112 : decode cX10_desks 112 = .ok (.goto (-36), 3) := by decide +kernel
theorem dX10_desks_115 : decode cX10_desks 115 = .ok (.iload_n 3, 1) := by decide +kernel
theorem dX10_desks_116 : decode cX10_desks 116 = .ok (.iconst (-1), 1) := by decide +kernel
theorem dX10_desks_117 : decode cX10_desks 117 = .ok (.if_icmp .ne 8, 3) := by decide +kernel
theorem dX10_desks_120 : decode cX10_desks 120 = .ok (.iload 7, 2) := by decide +kernel
theorem dX10_desks_122 : decode cX10_desks 122 = .ok (.goto 12, 3) := by decide +kernel
theorem dX10_desks_125 : decode cX10_desks 125 = .ok (.aload 4, 2) := by decide +kernel
theorem dX10_desks_127 : decode cX10_desks 127 = .ok (.iload_n 2, 1) := by decide +kernel
theorem dX10_desks_128 : decode cX10_desks 128 = .ok (.iload 6, 2) := by decide +kernel
theorem dX10_desks_130 : decode cX10_desks 130 = .ok (.iload_n 3, 1) := by decide +kernel
theorem dX10_desks_131 : decode cX10_desks 131 = .ok (.invokestatic 329, 3) := by decide +kernel
theorem dX10_desks_134 : decode cX10_desks 134 = .ok (.ireturn, 1) := by decide +kernel
theorem dX10_deskOf_0 : decode cX10_deskOf 0 = .ok (.iload_n 2, 1) := by decide +kernel
theorem dX10_deskOf_1 : decode cX10_deskOf 1 = .ok (.istore 4, 2) := by decide +kernel
theorem dX10_deskOf_3 : decode cX10_deskOf 3 = .ok (.aload_n 0, 1) := by decide +kernel
theorem dX10_deskOf_4 : decode cX10_deskOf 4 = .ok (.getfield 245, 3) := by decide +kernel
theorem dX10_deskOf_7 : decode cX10_deskOf 7 = .ok (.iconst 1, 1) := by decide +kernel
theorem dX10_deskOf_8 : decode cX10_deskOf 8 = .ok (.isub, 1) := by decide +kernel
theorem dX10_deskOf_9 : decode cX10_deskOf 9 = .ok (.istore 5, 2) := by decide +kernel
theorem dX10_deskOf_11 : decode cX10_deskOf 11 = .ok (.iload 5, 2) := by decide +kernel
theorem dX10_deskOf_13 : decode cX10_deskOf 13 = .ok (.iload_n 3, 1) := by decide +kernel
theorem dX10_deskOf_14 : decode cX10_deskOf 14 = .ok (.if_icmp .le 19, 3) := by decide +kernel
theorem dX10_deskOf_17 : decode cX10_deskOf 17 = .ok (.iload_n 1, 1) := by decide +kernel
theorem dX10_deskOf_18 : decode cX10_deskOf 18 = .ok (.ifCond .le 15, 3) := by decide +kernel
theorem dX10_deskOf_21 : decode cX10_deskOf 21 = .ok (.iload 4, 2) := by decide +kernel
theorem dX10_deskOf_23 : decode cX10_deskOf 23 = .ok (.iload_n 1, 1) := by decide +kernel
theorem dX10_deskOf_24 : decode cX10_deskOf 24 = .ok (.idiv, 1) := by decide +kernel
theorem dX10_deskOf_25 : decode cX10_deskOf 25 = .ok (.istore 4, 2) := by decide +kernel
theorem dX10_deskOf_27 : decode cX10_deskOf 27 = .ok (.iinc 5 (-1), 3) := by decide +kernel
theorem dX10_deskOf_30 : decode cX10_deskOf 30 = .ok (.goto (-19), 3) := by decide +kernel
theorem dX10_deskOf_33 : decode cX10_deskOf 33 = .ok (.iload_n 1, 1) := by decide +kernel
theorem dX10_deskOf_34 : decode cX10_deskOf 34 = .ok (.ifCond .le 10, 3) := by decide +kernel
theorem dX10_deskOf_37 : decode cX10_deskOf 37 = .ok (.iload 4, 2) := by decide +kernel
theorem dX10_deskOf_39 : decode cX10_deskOf 39 = .ok (.iload_n 1, 1) := by decide +kernel
theorem dX10_deskOf_40 : decode cX10_deskOf 40 = .ok (.irem, 1) := by decide +kernel
theorem dX10_deskOf_41 : decode cX10_deskOf 41 = .ok (.goto 4, 3) := by decide +kernel
theorem dX10_deskOf_44 : decode cX10_deskOf 44 = .ok (.iconst 0, 1) := by decide +kernel
theorem dX10_deskOf_45 : decode cX10_deskOf 45 = .ok (.ireturn, 1) := by decide +kernel
theorem dX10_longestDesk_0 : decode cX10_longestDesk 0 = .ok (.aload_n 0, 1) := by decide +kernel
theorem dX10_longestDesk_1 : decode cX10_longestDesk 1 = .ok (.invokevirtual 333, 3) := by decide +kernel
theorem dX10_longestDesk_4 : decode cX10_longestDesk 4 = .ok (.iload_n 3, 1) := by decide +kernel
theorem dX10_longestDesk_5 : decode cX10_longestDesk 5 = .ok (.istore 4, 2) := by decide +kernel
theorem dX10_longestDesk_7 : decode cX10_longestDesk 7 = .ok (.iconst 0, 1) := by decide +kernel
theorem dX10_longestDesk_8 : decode cX10_longestDesk 8 = .ok (.istore 5, 2) := by decide +kernel
theorem dX10_longestDesk_10 : decode cX10_longestDesk 10 = .ok (.aload_n 1, 1) := by decide +kernel
theorem dX10_longestDesk_11 : decode cX10_longestDesk 11 = .ok (.getfield 245, 3) := by decide +kernel
theorem dX10_longestDesk_14 : decode cX10_longestDesk 14 = .ok (.iconst 1, 1) := by decide +kernel
theorem dX10_longestDesk_15 : decode cX10_longestDesk 15 = .ok (.isub, 1) := by decide +kernel
theorem dX10_longestDesk_16 : decode cX10_longestDesk 16 = .ok (.istore 6, 2) := by decide +kernel
theorem dX10_longestDesk_18 : decode cX10_longestDesk 18 = .ok (.iload 6, 2) := by decide +kernel
theorem dX10_longestDesk_20 : decode cX10_longestDesk 20 = .ok (.ifCond .lt 62, 3) := by decide +kernel
theorem dX10_longestDesk_23 : decode cX10_longestDesk 23 = .ok (.iload_n 2, 1) := by decide +kernel
theorem dX10_longestDesk_24 : decode cX10_longestDesk 24 = .ok (.ifCond .le 58, 3) := by decide +kernel
theorem dX10_longestDesk_27 : decode cX10_longestDesk 27 = .ok (.iload_n 2, 1) := by decide +kernel
theorem dX10_longestDesk_28 : decode cX10_longestDesk 28 = .ok (.bipush 10, 2) := by decide +kernel
theorem dX10_longestDesk_30 : decode cX10_longestDesk 30 = .ok (.if_icmp .gt 52, 3) := by decide +kernel
theorem dX10_longestDesk_33 : decode cX10_longestDesk 33 = .ok (.iload 4, 2) := by decide +kernel
theorem dX10_longestDesk_35 : decode cX10_longestDesk 35 = .ok (.iload_n 2, 1) := by decide +kernel
theorem dX10_longestDesk_36 : decode cX10_longestDesk 36 = .ok (.irem, 1) := by decide +kernel
theorem dX10_longestDesk_37 : decode cX10_longestDesk 37 = .ok (.istore 7, 2) := by decide +kernel
theorem dX10_longestDesk_39 : decode cX10_longestDesk 39 = .ok (.iload 4, 2) := by decide +kernel
theorem dX10_longestDesk_41 : decode cX10_longestDesk 41 = .ok (.iload_n 2, 1) := by decide +kernel
theorem dX10_longestDesk_42 : decode cX10_longestDesk 42 = .ok (.idiv, 1) := by decide +kernel
theorem dX10_longestDesk_43 : decode cX10_longestDesk 43 = .ok (.istore 4, 2) := by decide +kernel
theorem dX10_longestDesk_45 : decode cX10_longestDesk 45 = .ok (.aload_n 0, 1) := by decide +kernel
theorem dX10_longestDesk_46 : decode cX10_longestDesk 46 = .ok (.getfield 66, 3) := by decide +kernel
theorem dX10_longestDesk_49 : decode cX10_longestDesk 49 = .ok (.iload 7, 2) := by decide +kernel
theorem dX10_longestDesk_51 : decode cX10_longestDesk 51 = .ok (.dup2, 1) := by decide +kernel
theorem dX10_longestDesk_52 : decode cX10_longestDesk 52 = .ok (.iaload, 1) := by decide +kernel
theorem dX10_longestDesk_53 : decode cX10_longestDesk 53 = .ok (.aload_n 1, 1) := by decide +kernel
theorem dX10_longestDesk_54 : decode cX10_longestDesk 54 = .ok (.getfield 336, 3) := by decide +kernel
theorem dX10_longestDesk_57 : decode cX10_longestDesk 57 = .ok (.iload 6, 2) := by decide +kernel
theorem dX10_longestDesk_59 : decode cX10_longestDesk 59 = .ok (.iaload, 1) := by decide +kernel
theorem dX10_longestDesk_60 : decode cX10_longestDesk 60 = .ok (.iadd, 1) := by decide +kernel
theorem dX10_longestDesk_61 : decode cX10_longestDesk 61 = .ok (.iastore, 1) := by decide +kernel
theorem dX10_longestDesk_62 : decode cX10_longestDesk 62 = .ok (.iload 5, 2) := by decide +kernel
theorem dX10_longestDesk_64 : decode cX10_longestDesk 64 = .ok (.aload_n 0, 1) := by decide +kernel
theorem dX10_longestDesk_65 : decode cX10_longestDesk 65 = .ok (.getfield 66, 3) := by decide +kernel
theorem dX10_longestDesk_68 : decode cX10_longestDesk 68 = .ok (.iload 7, 2) := by decide +kernel
theorem dX10_longestDesk_70 : decode cX10_longestDesk 70 = .ok (.iaload, 1) := by decide +kernel
theorem dX10_longestDesk_71 : decode cX10_longestDesk 71 = .ok (.invokestatic 339, 3) := by decide +kernel
theorem dX10_longestDesk_74 : decode cX10_longestDesk 74 = .ok (.istore 5, 2) := by decide +kernel
theorem dX10_longestDesk_76 : decode cX10_longestDesk 76 = .ok (.iinc 6 (-1), 3) := by decide +kernel
theorem dX10_longestDesk_79 : decode cX10_longestDesk 79 = .ok (.goto (-61), 3) := by decide +kernel
theorem dX10_longestDesk_82 : decode cX10_longestDesk 82 = .ok (.iload 5, 2) := by decide +kernel
theorem dX10_longestDesk_84 : decode cX10_longestDesk 84 = .ok (.ireturn, 1) := by decide +kernel
theorem dX10_clearRow_0 : decode cX10_clearRow 0 = .ok (.iconst 0, 1) := by decide +kernel
theorem dX10_clearRow_1 : decode cX10_clearRow 1 = .ok (.istore_n 1, 1) := by decide +kernel
theorem dX10_clearRow_2 : decode cX10_clearRow 2 = .ok (.iload_n 1, 1) := by decide +kernel
theorem dX10_clearRow_3 : decode cX10_clearRow 3 = .ok (.bipush 10, 2) := by decide +kernel
theorem dX10_clearRow_5 : decode cX10_clearRow 5 = .ok (.if_icmp .ge 16, 3) := by decide +kernel
theorem dX10_clearRow_8 : decode cX10_clearRow 8 = .ok (.aload_n 0, 1) := by decide +kernel
theorem dX10_clearRow_9 : decode cX10_clearRow 9 = .ok (.getfield 66, 3) := by decide +kernel
theorem dX10_clearRow_12 : decode cX10_clearRow 12 = .ok (.iload_n 1, 1) := by decide +kernel
theorem dX10_clearRow_13 : decode cX10_clearRow 13 = .ok (.iconst 0, 1) := by decide +kernel
theorem dX10_clearRow_14 : decode cX10_clearRow 14 = .ok (.iastore, 1) := by decide +kernel
theorem dX10_clearRow_15 : decode cX10_clearRow 15 = .ok (.iinc 1 1, 3) := by decide +kernel
theorem dX10_clearRow_18 : decode cX10_clearRow 18 = .ok (.goto (-16), 3) := by decide +kernel
theorem dX10_clearRow_21 : decode cX10_clearRow 21 = .ok (.return_, 1) := by decide +kernel
theorem dX10_quarrel_0 : decode cX10_quarrel 0 = .ok (.aload_n 0, 1) := by decide +kernel
theorem dX10_quarrel_1 : decode cX10_quarrel 1 = .ok (.iload_n 1, 1) := by decide +kernel
theorem dX10_quarrel_2 : decode cX10_quarrel 2 = .ok (.invokevirtual 124, 3) := by decide +kernel
theorem dX10_quarrel_5 : decode cX10_quarrel 5 = .ok (.astore 6, 2) := by decide +kernel
theorem dX10_quarrel_7 : decode cX10_quarrel 7 = .ok (.aload 6, 2) := by decide +kernel
theorem dX10_quarrel_9 : decode cX10_quarrel 9 = .ok (.ifnull 45, 3) := by decide +kernel
theorem dX10_quarrel_12 : decode cX10_quarrel 12 = .ok (.iload 4, 2) := by decide +kernel
theorem dX10_quarrel_14 : decode cX10_quarrel 14 = .ok (.ifCond .lt 40, 3) := by decide +kernel
theorem dX10_quarrel_17 : decode cX10_quarrel 17 = .ok (.iload 4, 2) := by decide +kernel
theorem dX10_quarrel_19 : decode cX10_quarrel 19 = .ok (.iconst 4, 1) := by decide +kernel
theorem dX10_quarrel_20 : decode cX10_quarrel 20 = .ok (.if_icmp .gt 34, 3) := by decide +kernel
theorem dX10_quarrel_23 : decode cX10_quarrel 23 = .ok (.iload_n 2, 1) := by decide +kernel
theorem dX10_quarrel_24 : decode cX10_quarrel 24 = .ok (.iload_n 3, 1) := by decide +kernel
theorem dX10_quarrel_25 : decode cX10_quarrel 25 = .ok (.if_icmp .eq 29, 3) := by decide +kernel
theorem dX10_quarrel_28 : decode cX10_quarrel 28 = .ok (.iload_n 2, 1) := by decide +kernel
theorem dX10_quarrel_29 : decode cX10_quarrel 29 = .ok (.ifCond .lt 25, 3) := by decide +kernel
theorem dX10_quarrel_32 : decode cX10_quarrel 32 = .ok (.iload_n 3, 1) := by decide +kernel
theorem dX10_quarrel_33 : decode cX10_quarrel 33 = .ok (.ifCond .lt 21, 3) := by decide +kernel
theorem dX10_quarrel_36 : decode cX10_quarrel 36 = .ok (.iload_n 2, 1) := by decide +kernel
theorem dX10_quarrel_37 : decode cX10_quarrel 37 = .ok (.aload 6, 2) := by decide +kernel
theorem dX10_quarrel_39 : decode cX10_quarrel 39 = .ok (.getfield 245, 3) := by decide +kernel
theorem dX10_quarrel_42 : decode cX10_quarrel 42 = .ok (.if_icmp .ge 12, 3) := by decide +kernel
theorem dX10_quarrel_45 : decode cX10_quarrel 45 = .ok (.iload_n 3, 1) := by decide +kernel
theorem dX10_quarrel_46 : decode cX10_quarrel 46 = .ok (.aload 6, 2) := by decide +kernel
theorem dX10_quarrel_48 : decode cX10_quarrel 48 = .ok (.getfield 245, 3) := by decide +kernel
theorem dX10_quarrel_51 : decode cX10_quarrel 51 = .ok (.if_icmp .lt 6, 3) := by decide +kernel
theorem dX10_quarrel_54 : decode cX10_quarrel 54 = .ok (.bipush (-99), 2) := by decide +kernel
theorem dX10_quarrel_56 : decode cX10_quarrel 56 = .ok (.ireturn, 1) := by decide +kernel
theorem dX10_quarrel_57 : decode cX10_quarrel 57 = .ok (.aload 6, 2) := by decide +kernel
theorem dX10_quarrel_59 : decode cX10_quarrel 59 = .ok (.iload_n 2, 1) := by decide +kernel
theorem dX10_quarrel_60 : decode cX10_quarrel 60 = .ok (.aload 6, 2) := by decide +kernel
theorem dX10_quarrel_62 : decode cX10_quarrel 62 = .ok (.getfield 248, 3) := by decide +kernel
theorem dX10_quarrel_65 : decode cX10_quarrel 65 = .ok (.invokevirtual 344, 3) := by decide +kernel
theorem dX10_quarrel_68 : decode cX10_quarrel 68 = .ok (.aload 6, 2) := by decide +kernel
theorem dX10_quarrel_70 : decode cX10_quarrel 70 = .ok (.iload_n 3, 1) := by decide +kernel
theorem dX10_quarrel_71 : decode cX10_quarrel 71 = .ok (.aload 6, 2) := by decide +kernel
theorem dX10_quarrel_73 : decode cX10_quarrel 73 = .ok (.getfield 248, 3) := by decide +kernel
theorem dX10_quarrel_76 : decode cX10_quarrel 76 = .ok (.invokevirtual 344, 3) := by decide +kernel
theorem dX10_quarrel_79 : decode cX10_quarrel 79 = .ok (.isub, 1) := by decide +kernel
theorem dX10_quarrel_80 : decode cX10_quarrel 80 = .ok (.istore 7, 2) := by decide +kernel
theorem dX10_quarrel_82 : decode cX10_quarrel 82 = .ok (.iload 5, 2) := by decide +kernel
theorem dX10_quarrel_84 : decode cX10_quarrel 84 = .ok (.ifCond .ne 20, 3) := by decide +kernel
theorem dX10_quarrel_87 : decode cX10_quarrel 87 = .ok (.aload 6, 2) := by decide +kernel
theorem dX10_quarrel_89 : decode cX10_quarrel 89 = .ok (.iload_n 2, 1) := by decide +kernel
theorem dX10_quarrel_90 : decode cX10_quarrel 90 = .ok (.iload_n 3, 1) := by decide +kernel
theorem dX10_quarrel_91 : decode cX10_quarrel 91 = .ok (.iload 4, 2) := by decide +kernel
theorem dX10_quarrel_93 : decode cX10_quarrel 93 = .ok (.aload 6, 2) := by decide +kernel
theorem dX10_quarrel_95 : decode cX10_quarrel 95 = .ok (.getfield 248, 3) := by decide +kernel
theorem dX10_quarrel_98 : decode cX10_quarrel 98 = .ok (.iload 7, 2) := by decide +kernel
theorem dX10_quarrel_100 : decode cX10_quarrel 100 = .ok (.invokestatic 347, 3) := by decide +kernel
theorem dX10_quarrel_103 : decode cX10_quarrel 103 = .ok (.ireturn, 1) := by decide +kernel
theorem dX10_quarrel_104 : decode cX10_quarrel 104 = .ok (.iload 4, 2) := by decide +kernel
theorem dX10_quarrel_106 : decode cX10_quarrel 106 = .ok (.ifCond .ne 7, 3) := by decide +kernel
theorem dX10_quarrel_109 : decode cX10_quarrel 109 = .ok (.iconst (-1), 1) := by decide +kernel
theorem dX10_quarrel_110 : decode cX10_quarrel 110 = .ok (.goto 14, 3) := by decide +kernel
theorem dX10_quarrel_113 : decode cX10_quarrel 113 = .ok (.aload 6, 2) := by decide +kernel
theorem dX10_quarrel_115 : decode cX10_quarrel 115 = .ok (.iload_n 2, 1) := by decide +kernel
theorem dX10_quarrel_116 : decode cX10_quarrel 116 = .ok (.iload_n 3, 1) := by decide +kernel
theorem dX10_quarrel_117 : decode cX10_quarrel 117 = .ok (.iload 4, 2) := by decide +kernel
theorem dX10_quarrel_119 : decode cX10_quarrel 119 = .ok (.iload 7, 2) := by decide +kernel
theorem dX10_quarrel_121 : decode cX10_quarrel 121 = .ok (.invokestatic 351, 3) := by decide +kernel
theorem dX10_quarrel_124 : decode cX10_quarrel 124 = .ok (.ireturn, 1) := by decide +kernel
theorem dX10_bestPlace_0 : decode cX10_bestPlace 0 = .ok (.bipush 8, 2) := by decide +kernel
theorem dX10_bestPlace_2 : decode cX10_bestPlace 2 = .ok (.istore 5, 2) := by decide +kernel
theorem dX10_bestPlace_4 : decode cX10_bestPlace 4 = .ok (.aload_n 0, 1) := by decide +kernel
theorem dX10_bestPlace_5 : decode cX10_bestPlace 5 = .ok (.iload_n 2, 1) := by decide +kernel
theorem dX10_bestPlace_6 : decode cX10_bestPlace 6 = .ok (.iload_n 1, 1) := by decide +kernel
theorem dX10_bestPlace_7 : decode cX10_bestPlace 7 = .ok (.iload_n 3, 1) := by decide +kernel
theorem dX10_bestPlace_8 : decode cX10_bestPlace 8 = .ok (.iconst 1, 1) := by decide +kernel
theorem dX10_bestPlace_9 : decode cX10_bestPlace 9 = .ok (.isub, 1) := by decide +kernel
theorem dX10_bestPlace_10 : decode cX10_bestPlace 10 = .ok (.aload_n 0, 1) := by decide +kernel
theorem dX10_bestPlace_11 : decode cX10_bestPlace 11 = .ok (.getfield 248, 3) := by decide +kernel
theorem dX10_bestPlace_14 : decode cX10_bestPlace 14 = .ok (.iload 4, 2) := by decide +kernel
theorem dX10_bestPlace_16 : decode cX10_bestPlace 16 = .ok (.ineg, 1) := by decide +kernel
theorem dX10_bestPlace_17 : decode cX10_bestPlace 17 = .ok (.invokestatic 347, 3) := by decide +kernel
theorem dX10_bestPlace_20 : decode cX10_bestPlace 20 = .ok (.ineg, 1) := by decide +kernel
theorem dX10_bestPlace_21 : decode cX10_bestPlace 21 = .ok (.istore 6, 2) := by decide +kernel
theorem dX10_bestPlace_23 : decode cX10_bestPlace 23 = .ok (.aload_n 0, 1) := by decide +kernel
theorem dX10_bestPlace_24 : decode cX10_bestPlace 24 = .ok (.getfield 269, 3) := by decide +kernel
theorem dX10_bestPlace_27 : decode cX10_bestPlace 27 = .ok (.iconst 1, 1) := by decide +kernel
theorem dX10_bestPlace_28 : decode cX10_bestPlace 28 = .ok (.isub, 1) := by decide +kernel
theorem dX10_bestPlace_29 : decode cX10_bestPlace 29 = .ok (.istore 7, 2) := by decide +kernel
theorem dX10_bestPlace_31 : decode cX10_bestPlace 31 = .ok (.iload 7, 2) := by decide +kernel
theorem dX10_bestPlace_33 : decode cX10_bestPlace 33 = .ok (.ifCond .lt 100, 3) := by decide +kernel
theorem dX10_bestPlace_36 : decode cX10_bestPlace 36 = .ok (.aload_n 0, 1) := by decide +kernel
theorem dX10_bestPlace_37 : decode cX10_bestPlace 37 = .ok (.getfield 199, 3) := by decide +kernel
theorem dX10_bestPlace_40 : decode cX10_bestPlace 40 = .ok (.aload_n 0, 1) := by decide +kernel
theorem dX10_bestPlace_41 : decode cX10_bestPlace 41 = .ok (.getfield 248, 3) := by decide +kernel
theorem dX10_bestPlace_44 : decode cX10_bestPlace 44 = .ok (.iload 7, 2) := by decide +kernel
theorem dX10_bestPlace_46 : decode cX10_bestPlace 46 = .ok (.invokestatic 272, 3) := by decide +kernel
theorem dX10_bestPlace_49 : decode cX10_bestPlace 49 = .ok (.aload_n 0, 1) := by decide +kernel
theorem dX10_bestPlace_50 : decode cX10_bestPlace 50 = .ok (.iload_n 1, 1) := by decide +kernel
theorem dX10_bestPlace_51 : decode cX10_bestPlace 51 = .ok (.iload 7, 2) := by decide +kernel
theorem dX10_bestPlace_53 : decode cX10_bestPlace 53 = .ok (.invokevirtual 355, 3) := by decide +kernel
theorem dX10_bestPlace_56 : decode cX10_bestPlace 56 = .ok (.invokevirtual 206, 3) := by decide +kernel
theorem dX10_bestPlace_59 : decode cX10_bestPlace 59 = .ok (.istore 8, 2) := by decide +kernel
theorem dX10_bestPlace_61 : decode cX10_bestPlace 61 = .ok (.iload 8, 2) := by decide +kernel
theorem dX10_bestPlace_63 : decode cX10_bestPlace 63 = .ok (.iconst (-1), 1) := by decide +kernel
theorem dX10_bestPlace_64 : decode cX10_bestPlace 64 = .ok (.if_icmp .eq 63, 3) := by decide +kernel
theorem dX10_bestPlace_67 : decode cX10_bestPlace 67 = .ok (.iload 4, 2) := by decide +kernel
theorem dX10_bestPlace_69 : decode cX10_bestPlace 69 = .ok (.aload_n 0, 1) := by decide +kernel
theorem dX10_bestPlace_70 : decode cX10_bestPlace 70 = .ok (.iload_n 1, 1) := by decide +kernel
theorem dX10_bestPlace_71 : decode cX10_bestPlace 71 = .ok (.iload_n 2, 1) := by decide +kernel
theorem dX10_bestPlace_72 : decode cX10_bestPlace 72 = .ok (.iload 7, 2) := by decide +kernel
theorem dX10_bestPlace_74 : decode cX10_bestPlace 74 = .ok (.aload_n 0, 1) := by decide +kernel
theorem dX10_bestPlace_75 : decode cX10_bestPlace 75 = .ok (.getfield 248, 3) := by decide +kernel
theorem dX10_bestPlace_78 : decode cX10_bestPlace 78 = .ok (.iload 8, 2) := by decide +kernel
theorem dX10_bestPlace_80 : decode cX10_bestPlace 80 = .ok (.invokevirtual 358, 3) := by decide +kernel
theorem dX10_bestPlace_83 : decode cX10_bestPlace 83 = .ok (.iadd, 1) := by decide +kernel
theorem dX10_bestPlace_84 : decode cX10_bestPlace 84 = .ok (.istore 9, 2) := by decide +kernel
theorem dX10_bestPlace_86 : decode cX10_bestPlace 86 = .ok (.aload_n 0, 1) := by decide +kernel
theorem dX10_bestPlace_87 : decode cX10_bestPlace 87 = .ok (.iload_n 2, 1) := by decide +kernel
theorem dX10_bestPlace_88 : decode cX10_bestPlace 88 = .ok (.iload_n 1, 1) := by decide +kernel
theorem dX10_bestPlace_89 : decode cX10_bestPlace 89 = .ok (.iload_n 3, 1) := by decide +kernel
theorem dX10_bestPlace_90 : decode cX10_bestPlace 90 = .ok (.iconst 1, 1) := by decide +kernel
theorem dX10_bestPlace_91 : decode cX10_bestPlace 91 = .ok (.isub, 1) := by decide +kernel
theorem dX10_bestPlace_92 : decode cX10_bestPlace 92 = .ok (.aload_n 0, 1) := by decide +kernel
theorem dX10_bestPlace_93 : decode cX10_bestPlace 93 = .ok (.getfield 248, 3) := by decide +kernel
theorem dX10_bestPlace_96 : decode cX10_bestPlace 96 = .ok (.iload 7, 2) := by decide +kernel
theorem dX10_bestPlace_98 : decode cX10_bestPlace 98 = .ok (.iload 8, 2) := by decide +kernel
theorem dX10_bestPlace_100 : decode cX10_bestPlace 100 = .ok (.invokestatic 362, 3) := by decide +kernel
theorem dX10_bestPlace_103 : decode cX10_bestPlace 103 = .ok (.iload 9, 2) := by decide +kernel
theorem dX10_bestPlace_105 : decode cX10_bestPlace 105 = .ok (.ineg, 1) := by decide +kernel
theorem dX10_bestPlace_106 : decode cX10_bestPlace 106 = .ok (.invokestatic 347, 3) := by decide +kernel
theorem dX10_bestPlace_109 : decode cX10_bestPlace 109 = .ok (.ineg, 1) := by decide +kernel
theorem dX10_bestPlace_110 : decode cX10_bestPlace 110 = .ok (.istore 10, 2) := by decide +kernel
theorem dX10_bestPlace_112 : decode cX10_bestPlace 112 = .ok (.iload 10, 2) := by decide +kernel
theorem dX10_bestPlace_114 : decode cX10_bestPlace 114 = .ok (.iload 6, 2) := by decide +kernel
theorem dX10_bestPlace_116 : decode cX10_bestPlace 116 = .ok (.if_icmp .lt 11, 3) := by decide +kernel
theorem dX10_bestPlace_119 : decode cX10_bestPlace 119 = .ok (.iload 10, 2) := by decide +kernel
theorem dX10_bestPlace_121 : decode cX10_bestPlace 121 = .ok (.istore 6, 2) := by decide +kernel
theorem dX10_bestPlace_123 : decode cX10_bestPlace 123 = .ok (.iload 7, 2) := by decide +kernel
theorem dX10_bestPlace_125 : decode cX10_bestPlace 125 = .ok (.istore 5, 2) := by decide +kernel
theorem dX10_bestPlace_127 : decode cX10_bestPlace 127 = .ok (.iinc 7 (-1), 3) := by decide +kernel
theorem dX10_bestPlace_130 : decode cX10_bestPlace 130 = .ok (.goto (-99), 3) := by decide +kernel
theorem dX10_bestPlace_133 : decode cX10_bestPlace 133 = .ok (.iload 5, 2) := by decide +kernel
theorem dX10_bestPlace_135 : decode cX10_bestPlace 135 = .ok (.ireturn, 1) := by decide +kernel
theorem dX10_bestLead_0 : decode cX10_bestLead 0 = .ok (.iload_n 3, 1) := by decide +kernel
theorem dX10_bestLead_1 : decode cX10_bestLead 1 = .ok (.ifCond .gt 6, 3) := by decide +kernel
theorem dX10_bestLead_4 : decode cX10_bestLead 4 = .ok (.iload 5, 2) := by decide +kernel
theorem dX10_bestLead_6 : decode cX10_bestLead 6 = .ok (.ireturn, 1) := by decide +kernel
theorem dX10_bestLead_7 : decode cX10_bestLead 7 = .ok (.aload_n 0, 1) := by decide +kernel
theorem dX10_bestLead_8 : decode cX10_bestLead 8 = .ok (.iload_n 2, 1) := by decide +kernel
theorem dX10_bestLead_9 : decode cX10_bestLead 9 = .ok (.iload_n 1, 1) := by decide +kernel
theorem dX10_bestLead_10 : decode cX10_bestLead 10 = .ok (.iload_n 3, 1) := by decide +kernel
theorem dX10_bestLead_11 : decode cX10_bestLead 11 = .ok (.iconst 1, 1) := by decide +kernel
theorem dX10_bestLead_12 : decode cX10_bestLead 12 = .ok (.isub, 1) := by decide +kernel
theorem dX10_bestLead_13 : decode cX10_bestLead 13 = .ok (.iload 4, 2) := by decide +kernel
theorem dX10_bestLead_15 : decode cX10_bestLead 15 = .ok (.iload 5, 2) := by decide +kernel
theorem dX10_bestLead_17 : decode cX10_bestLead 17 = .ok (.ineg, 1) := by decide +kernel
theorem dX10_bestLead_18 : decode cX10_bestLead 18 = .ok (.invokestatic 347, 3) := by decide +kernel
theorem dX10_bestLead_21 : decode cX10_bestLead 21 = .ok (.ineg, 1) := by decide +kernel
theorem dX10_bestLead_22 : decode cX10_bestLead 22 = .ok (.istore 6, 2) := by decide +kernel
theorem dX10_bestLead_24 : decode cX10_bestLead 24 = .ok (.iconst 0, 1) := by decide +kernel
theorem dX10_bestLead_25 : decode cX10_bestLead 25 = .ok (.istore 7, 2) := by decide +kernel
theorem dX10_bestLead_27 : decode cX10_bestLead 27 = .ok (.iload 7, 2) := by decide +kernel
theorem dX10_bestLead_29 : decode cX10_bestLead 29 = .ok (.aload_n 0, 1) := by decide +kernel
theorem dX10_bestLead_30 : decode cX10_bestLead 30 = .ok (.getfield 269, 3) := by decide +kernel
theorem dX10_bestLead_33 : decode cX10_bestLead 33 = .ok (.if_icmp .ge 84, 3) := by decide +kernel
theorem dX10_bestLead_36 : decode cX10_bestLead 36 = .ok (.aload_n 0, 1) := by decide +kernel
theorem dX10_bestLead_37 : decode cX10_bestLead 37 = .ok (.getfield 199, 3) := by decide +kernel
theorem dX10_bestLead_40 : decode cX10_bestLead 40 = .ok (.iload 4, 2) := by decide +kernel
theorem dX10_bestLead_42 : decode cX10_bestLead 42 = .ok (.iload 7, 2) := by decide +kernel
theorem dX10_bestLead_44 : decode cX10_bestLead 44 = .ok (.invokestatic 272, 3) := by decide +kernel
theorem dX10_bestLead_47 : decode cX10_bestLead 47 = .ok (.aload_n 0, 1) := by decide +kernel
theorem dX10_bestLead_48 : decode cX10_bestLead 48 = .ok (.iload_n 1, 1) := by decide +kernel
theorem dX10_bestLead_49 : decode cX10_bestLead 49 = .ok (.iload 7, 2) := by decide +kernel
theorem dX10_bestLead_51 : decode cX10_bestLead 51 = .ok (.invokevirtual 355, 3) := by decide +kernel
theorem dX10_bestLead_54 : decode cX10_bestLead 54 = .ok (.invokevirtual 206, 3) := by decide +kernel
theorem dX10_bestLead_57 : decode cX10_bestLead 57 = .ok (.istore 8, 2) := by decide +kernel
theorem dX10_bestLead_59 : decode cX10_bestLead 59 = .ok (.iload 8, 2) := by decide +kernel
theorem dX10_bestLead_61 : decode cX10_bestLead 61 = .ok (.iconst (-1), 1) := by decide +kernel
theorem dX10_bestLead_62 : decode cX10_bestLead 62 = .ok (.if_icmp .eq 49, 3) := by decide +kernel
theorem dX10_bestLead_65 : decode cX10_bestLead 65 = .ok (.iload 5, 2) := by decide +kernel
theorem dX10_bestLead_67 : decode cX10_bestLead 67 = .ok (.aload_n 0, 1) := by decide +kernel
theorem dX10_bestLead_68 : decode cX10_bestLead 68 = .ok (.iload_n 1, 1) := by decide +kernel
theorem dX10_bestLead_69 : decode cX10_bestLead 69 = .ok (.iload_n 2, 1) := by decide +kernel
theorem dX10_bestLead_70 : decode cX10_bestLead 70 = .ok (.iload 7, 2) := by decide +kernel
theorem dX10_bestLead_72 : decode cX10_bestLead 72 = .ok (.iload 4, 2) := by decide +kernel
theorem dX10_bestLead_74 : decode cX10_bestLead 74 = .ok (.iload 8, 2) := by decide +kernel
theorem dX10_bestLead_76 : decode cX10_bestLead 76 = .ok (.invokevirtual 358, 3) := by decide +kernel
theorem dX10_bestLead_79 : decode cX10_bestLead 79 = .ok (.iadd, 1) := by decide +kernel
theorem dX10_bestLead_80 : decode cX10_bestLead 80 = .ok (.istore 9, 2) := by decide +kernel
theorem dX10_bestLead_82 : decode cX10_bestLead 82 = .ok (.iload 6, 2) := by decide +kernel
theorem dX10_bestLead_84 : decode cX10_bestLead 84 = .ok (.aload_n 0, 1) := by decide +kernel
theorem dX10_bestLead_85 : decode cX10_bestLead 85 = .ok (.iload_n 2, 1) := by decide +kernel
theorem dX10_bestLead_86 : decode cX10_bestLead 86 = .ok (.iload_n 1, 1) := by decide +kernel
theorem dX10_bestLead_87 : decode cX10_bestLead 87 = .ok (.iload_n 3, 1) := by decide +kernel
theorem dX10_bestLead_88 : decode cX10_bestLead 88 = .ok (.iconst 1, 1) := by decide +kernel
theorem dX10_bestLead_89 : decode cX10_bestLead 89 = .ok (.isub, 1) := by decide +kernel
theorem dX10_bestLead_90 : decode cX10_bestLead 90 = .ok (.iload 4, 2) := by decide +kernel
theorem dX10_bestLead_92 : decode cX10_bestLead 92 = .ok (.iload 7, 2) := by decide +kernel
theorem dX10_bestLead_94 : decode cX10_bestLead 94 = .ok (.iload 8, 2) := by decide +kernel
theorem dX10_bestLead_96 : decode cX10_bestLead 96 = .ok (.invokestatic 362, 3) := by decide +kernel
theorem dX10_bestLead_99 : decode cX10_bestLead 99 = .ok (.iload 9, 2) := by decide +kernel
theorem dX10_bestLead_101 : decode cX10_bestLead 101 = .ok (.ineg, 1) := by decide +kernel
theorem dX10_bestLead_102 : decode cX10_bestLead 102 = .ok (.invokestatic 347, 3) := by decide +kernel
theorem dX10_bestLead_105 : decode cX10_bestLead 105 = .ok (.ineg, 1) := by decide +kernel
theorem dX10_bestLead_106 : decode cX10_bestLead 106 = .ok (.invokestatic 339, 3) := by decide +kernel
theorem dX10_bestLead_109 : decode cX10_bestLead 109 = .ok (.istore 6, 2) := by decide +kernel
theorem dX10_bestLead_111 : decode cX10_bestLead 111 = .ok (.iinc 7 1, 3) := by decide +kernel
theorem dX10_bestLead_114 : decode cX10_bestLead 114 = .ok (.goto (-87), 3) := by decide +kernel
theorem dX10_bestLead_117 : decode cX10_bestLead 117 = .ok (.iload 6, 2) := by decide +kernel
theorem dX10_bestLead_119 : decode cX10_bestLead 119 = .ok (.ireturn, 1) := by decide +kernel
theorem dX10_signs_0 : decode cX10_signs 0 = .ok (.aload_n 0, 1) := by decide +kernel
theorem dX10_signs_1 : decode cX10_signs 1 = .ok (.iload_n 1, 1) := by decide +kernel
theorem dX10_signs_2 : decode cX10_signs 2 = .ok (.invokevirtual 124, 3) := by decide +kernel
theorem dX10_signs_5 : decode cX10_signs 5 = .ok (.astore_n 3, 1) := by decide +kernel
theorem dX10_signs_6 : decode cX10_signs 6 = .ok (.aload_n 3, 1) := by decide +kernel
theorem dX10_signs_7 : decode cX10_signs 7 = .ok (.ifnonnull 5, 3) := by decide +kernel
theorem dX10_signs_10 : decode cX10_signs 10 = .ok (.iconst (-1), 1) := by decide +kernel
theorem dX10_signs_11 : decode cX10_signs 11 = .ok (.ireturn, 1) := by decide +kernel
theorem dX10_signs_12 : decode cX10_signs 12 = .ok (.iconst 0, 1) := by decide +kernel
theorem dX10_signs_13 : decode cX10_signs 13 = .ok (.istore 4, 2) := by decide +kernel
theorem dX10_signs_15 : decode cX10_signs 15 = .ok (.iconst 0, 1) := by decide +kernel
theorem dX10_signs_16 : decode cX10_signs 16 = .ok (.istore 5, 2) := by decide +kernel
theorem dX10_signs_18 : decode cX10_signs 18 = .ok (.iload 5, 2) := by decide +kernel
theorem dX10_signs_20 : decode cX10_signs 20 = .ok (.aload_n 3, 1) := by decide +kernel
theorem dX10_signs_21 : decode cX10_signs 21 = .ok (.getfield 245, 3) := by decide +kernel
theorem dX10_signs_24 : decode cX10_signs 24 = .ok (.if_icmp .ge 48, 3) := by decide +kernel
theorem dX10_signs_27 : decode cX10_signs 27 = .ok (.iload 5, 2) := by decide +kernel
theorem dX10_signs_29 : decode cX10_signs 29 = .ok (.iconst 1, 1) := by decide +kernel
theorem dX10_signs_30 : decode cX10_signs 30 = .ok (.iadd, 1) := by decide +kernel
theorem dX10_signs_31 : decode cX10_signs 31 = .ok (.istore 6, 2) := by decide +kernel
theorem dX10_signs_33 : decode cX10_signs 33 = .ok (.iload 6, 2) := by decide +kernel
theorem dX10_signs_35 : decode cX10_signs 35 = .ok (.aload_n 3, 1) := by decide +kernel
theorem dX10_signs_36 : decode cX10_signs 36 = .ok (.getfield 245, 3) := by decide +kernel
theorem dX10_signs_39 : decode cX10_signs 39 = .ok (.if_icmp .ge 27, 3) := by decide +kernel
theorem dX10_signs_42 : decode cX10_signs 42 = .ok (.aload_n 0, 1) := by decide +kernel
theorem dX10_signs_43 : decode cX10_signs 43 = .ok (.getfield 70, 3) := by decide +kernel
theorem dX10_signs_46 : decode cX10_signs 46 = .ok (.iload 4, 2) := by decide +kernel
theorem dX10_signs_48 : decode cX10_signs 48 = .ok (.iinc 4 1, 3) := by decide +kernel
theorem dX10_signs_51 : decode cX10_signs 51 = .ok (.aload_n 3, 1) := by decide +kernel
theorem dX10_signs_52 : decode cX10_signs 52 = .ok (.iload 5, 2) := by decide +kernel
theorem dX10_signs_54 : decode cX10_signs 54 = .ok (.iload 6, 2) := by decide +kernel
theorem dX10_signs_56 : decode cX10_signs 56 = .ok (.invokevirtual 365, 3) := by decide +kernel
theorem dX10_signs_59 : decode cX10_signs 59 = .ok (.iastore, 1) := by decide +kernel
theorem dX10_signs_60 : decode cX10_signs 60 = .ok (.iinc 6 1, 3) := by decide +kernel
theorem dX10_signs_63 : decode cX10_signs 63 = .ok (.goto (-30), 3) := by decide +kernel
theorem dX10_signs_66 : decode cX10_signs 66 = .ok (.iinc 5 1, 3) := by decide +kernel
theorem dX10_signs_69 : decode cX10_signs 69 = .ok (.goto (-51), 3) := by decide +kernel
theorem dX10_signs_72 : decode cX10_signs 72 = .ok (.iconst (-1), 1) := by decide +kernel
theorem dX10_signs_73 : decode cX10_signs 73 = .ok (.istore 5, 2) := by decide +kernel
theorem dX10_signs_75 : decode cX10_signs 75 = .ok (.iconst 0, 1) := by decide +kernel
theorem dX10_signs_76 : decode cX10_signs 76 = .ok (.istore 6, 2) := by decide +kernel
theorem dX10_signs_78 : decode cX10_signs 78 = .ok (.iload 6, 2) := by decide +kernel
theorem dX10_signs_80 : decode cX10_signs 80 = .ok (.iconst 1, 1) := by decide +kernel
theorem dX10_signs_81 : decode cX10_signs 81 = .ok (.aload_n 3, 1) := by decide +kernel
theorem dX10_signs_82 : decode cX10_signs 82 = .ok (.getfield 269, 3) := by decide +kernel
theorem dX10_signs_85 : decode cX10_signs 85 = .ok (.ishl, 1) := by decide +kernel
theorem dX10_signs_86 : decode cX10_signs 86 = .ok (.if_icmp .ge 43, 3) := by decide +kernel
theorem dX10_signs_89 : decode cX10_signs 89 = .ok (.aload_n 0, 1) := by decide +kernel
theorem dX10_signs_90 : decode cX10_signs 90 = .ok (.iload 6, 2) := by decide +kernel
theorem dX10_signs_92 : decode cX10_signs 92 = .ok (.iload 4, 2) := by decide +kernel
theorem dX10_signs_94 : decode cX10_signs 94 = .ok (.invokevirtual 368, 3) := by decide +kernel
theorem dX10_signs_97 : decode cX10_signs 97 = .ok (.ifCond .eq 26, 3) := by decide +kernel
theorem dX10_signs_100 : decode cX10_signs 100 = .ok (.iload 5, 2) := by decide +kernel
theorem dX10_signs_102 : decode cX10_signs 102 = .ok (.iconst (-1), 1) := by decide +kernel
theorem dX10_signs_103 : decode cX10_signs 103 = .ok (.if_icmp .eq 16, 3) := by decide +kernel
theorem dX10_signs_106 : decode cX10_signs 106 = .ok (.iload 6, 2) := by decide +kernel
theorem dX10_signs_108 : decode cX10_signs 108 = .ok (.invokestatic 257, 3) := by decide +kernel
theorem dX10_signs_111 : decode cX10_signs 111 = .ok (.iload 5, 2) := by decide +kernel
theorem dX10_signs_113 : decode cX10_signs 113 = .ok (.invokestatic 257, 3) := by decide +kernel
theorem dX10_signs_116 : decode cX10_signs 116 = .ok (.if_icmp .ge 7, 3) := by decide +kernel
theorem dX10_signs_119 : decode cX10_signs 119 = .ok (.iload 6, 2) := by decide +kernel
theorem dX10_signs_121 : decode cX10_signs 121 = .ok (.istore 5, 2) := by decide +kernel
theorem dX10_signs_123 : decode cX10_signs 123 = .ok (.iinc 6 1, 3) := by decide +kernel
theorem dX10_signs_126 : decode cX10_signs 126 = .ok (.goto (-48), 3) := by decide +kernel
theorem dX10_signs_129 : decode cX10_signs 129 = .ok (.iload 5, 2) := by decide +kernel
theorem dX10_signs_131 : decode cX10_signs 131 = .ok (.iconst (-1), 1) := by decide +kernel
theorem dX10_signs_132 : decode cX10_signs 132 = .ok (.if_icmp .eq 7, 3) := by decide +kernel
theorem dX10_signs_135 : decode cX10_signs 135 = .ok (.iload_n 2, 1) := by decide +kernel
theorem dX10_signs_136 : decode cX10_signs 136 = .ok (.ifCond .eq 8, 3) := by decide +kernel
theorem dX10_signs_139 : decode cX10_signs 139 = .ok (.iload 5, 2) := by decide +kernel
theorem dX10_signs_141 : decode cX10_signs 141 = .ok (.goto 8, 3) := by decide +kernel
theorem dX10_signs_144 : decode cX10_signs 144 = .ok (.iload 5, 2) := by decide +kernel
theorem dX10_signs_146 : decode cX10_signs 146 = .ok (.invokestatic 257, 3) := by decide +kernel
theorem dX10_signs_149 : decode cX10_signs 149 = .ok (.ireturn, 1) := by decide +kernel
theorem dX10_tellsApart_0 : decode cX10_tellsApart 0 = .ok (.iconst 0, 1) := by decide +kernel
theorem dX10_tellsApart_1 : decode cX10_tellsApart 1 = .ok (.istore_n 3, 1) := by decide +kernel
theorem dX10_tellsApart_2 : decode cX10_tellsApart 2 = .ok (.iload_n 3, 1) := by decide +kernel
theorem dX10_tellsApart_3 : decode cX10_tellsApart 3 = .ok (.iload_n 2, 1) := by decide +kernel
theorem dX10_tellsApart_4 : decode cX10_tellsApart 4 = .ok (.if_icmp .ge 22, 3) := by decide +kernel
theorem dX10_tellsApart_7 : decode cX10_tellsApart 7 = .ok (.aload_n 0, 1) := by decide +kernel
theorem dX10_tellsApart_8 : decode cX10_tellsApart 8 = .ok (.getfield 70, 3) := by decide +kernel
theorem dX10_tellsApart_11 : decode cX10_tellsApart 11 = .ok (.iload_n 3, 1) := by decide +kernel
theorem dX10_tellsApart_12 : decode cX10_tellsApart 12 = .ok (.iaload, 1) := by decide +kernel
theorem dX10_tellsApart_13 : decode cX10_tellsApart 13 = .ok (.iload_n 1, 1) := by decide +kernel
theorem dX10_tellsApart_14 : decode cX10_tellsApart 14 = .ok (.iand, 1) := by decide +kernel
theorem dX10_tellsApart_15 : decode cX10_tellsApart 15 = .ok (.ifCond .ne 5, 3) := by decide +kernel
theorem dX10_tellsApart_18 : decode cX10_tellsApart 18 = .ok (.iconst 0, 1) := by decide +kernel
theorem dX10_tellsApart_19 : decode cX10_tellsApart 19 = .ok (.ireturn, 1) := by decide +kernel
theorem dX10_tellsApart_20 : decode cX10_tellsApart 20 = .ok (.iinc 3 1, 3) := by decide +kernel
theorem dX10_tellsApart_23 : decode cX10_tellsApart 23 = .ok (.goto (-21), 3) := by decide +kernel
theorem dX10_tellsApart_26 : decode cX10_tellsApart 26 = .ok (.iconst 1, 1) := by decide +kernel
theorem dX10_tellsApart_27 : decode cX10_tellsApart 27 = .ok (.ireturn, 1) := by decide +kernel
theorem dX10_vote_0 : decode cX10_vote 0 = .ok (.aload_n 0, 1) := by decide +kernel
theorem dX10_vote_1 : decode cX10_vote 1 = .ok (.iload_n 1, 1) := by decide +kernel
theorem dX10_vote_2 : decode cX10_vote 2 = .ok (.invokevirtual 124, 3) := by decide +kernel
theorem dX10_vote_5 : decode cX10_vote 5 = .ok (.astore_n 3, 1) := by decide +kernel
theorem dX10_vote_6 : decode cX10_vote 6 = .ok (.aload_n 3, 1) := by decide +kernel
theorem dX10_vote_7 : decode cX10_vote 7 = .ok (.ifnull 15, 3) := by decide +kernel
theorem dX10_vote_10 : decode cX10_vote 10 = .ok (.iload_n 2, 1) := by decide +kernel
theorem dX10_vote_11 : decode cX10_vote 11 = .ok (.ifCond .lt 11, 3) := by decide +kernel
theorem dX10_vote_14 : decode cX10_vote 14 = .ok (.iload_n 2, 1) := by decide +kernel
theorem dX10_vote_15 : decode cX10_vote 15 = .ok (.aload_n 3, 1) := by decide +kernel
theorem dX10_vote_16 : decode cX10_vote 16 = .ok (.getfield 269, 3) := by decide +kernel
theorem dX10_vote_19 : decode cX10_vote 19 = .ok (.if_icmp .lt 5, 3) := by decide +kernel
theorem dX10_vote_22 : decode cX10_vote 22 = .ok (.iconst (-1), 1) := by decide +kernel
theorem dX10_vote_23 : decode cX10_vote 23 = .ok (.ireturn, 1) := by decide +kernel
theorem dX10_vote_24 : decode cX10_vote 24 = .ok (.aload_n 0, 1) := by decide +kernel
theorem dX10_vote_25 : decode cX10_vote 25 = .ok (.invokevirtual 333, 3) := by decide +kernel
theorem dX10_vote_28 : decode cX10_vote 28 = .ok (.iconst 0, 1) := by decide +kernel
theorem dX10_vote_29 : decode cX10_vote 29 = .ok (.istore 4, 2) := by decide +kernel
theorem dX10_vote_31 : decode cX10_vote 31 = .ok (.iload 4, 2) := by decide +kernel
theorem dX10_vote_33 : decode cX10_vote 33 = .ok (.aload_n 3, 1) := by decide +kernel
theorem dX10_vote_34 : decode cX10_vote 34 = .ok (.getfield 245, 3) := by decide +kernel
theorem dX10_vote_37 : decode cX10_vote 37 = .ok (.if_icmp .ge 36, 3) := by decide +kernel
theorem dX10_vote_40 : decode cX10_vote 40 = .ok (.aload_n 3, 1) := by decide +kernel
theorem dX10_vote_41 : decode cX10_vote 41 = .ok (.iload 4, 2) := by decide +kernel
theorem dX10_vote_43 : decode cX10_vote 43 = .ok (.iload_n 2, 1) := by decide +kernel
theorem dX10_vote_44 : decode cX10_vote 44 = .ok (.invokevirtual 355, 3) := by decide +kernel
theorem dX10_vote_47 : decode cX10_vote 47 = .ok (.istore 5, 2) := by decide +kernel
theorem dX10_vote_49 : decode cX10_vote 49 = .ok (.iload 5, 2) := by decide +kernel
theorem dX10_vote_51 : decode cX10_vote 51 = .ok (.bipush 10, 2) := by decide +kernel
theorem dX10_vote_53 : decode cX10_vote 53 = .ok (.if_icmp .ge 14, 3) := by decide +kernel
theorem dX10_vote_56 : decode cX10_vote 56 = .ok (.aload_n 0, 1) := by decide +kernel
theorem dX10_vote_57 : decode cX10_vote 57 = .ok (.getfield 66, 3) := by decide +kernel
theorem dX10_vote_60 : decode cX10_vote 60 = .ok (.iload 5, 2) := by decide +kernel
theorem dX10_vote_62 : decode cX10_vote 62 = .ok (.dup2, 1) := by decide +kernel
theorem dX10_vote_63 : decode cX10_vote 63 = .ok (.iaload, 1) := by decide +kernel
theorem dX10_vote_64 : decode cX10_vote 64 = .ok (.iconst 1, 1) := by decide +kernel
theorem dX10_vote_65 : decode cX10_vote 65 = .ok (.iadd, 1) := by decide +kernel
theorem dX10_vote_66 : decode cX10_vote 66 = .ok (.iastore, 1) := by decide +kernel
theorem dX10_vote_67 : decode cX10_vote 67 = .ok (.iinc 4 1, 3) := by decide +kernel
theorem dX10_vote_70 : decode cX10_vote 70 = .ok (.goto (-39), 3) := by decide +kernel
theorem dX10_vote_73 : decode cX10_vote 73 = .ok (.aload_n 0, 1) := by decide +kernel
theorem dX10_vote_74 : decode cX10_vote 74 = .ok (.invokevirtual 371, 3) := by decide +kernel
theorem dX10_vote_77 : decode cX10_vote 77 = .ok (.ireturn, 1) := by decide +kernel
theorem dX10_mostOfRow_0 : decode cX10_mostOfRow 0 = .ok (.iconst (-1), 1) := by decide +kernel
theorem dX10_mostOfRow_1 : decode cX10_mostOfRow 1 = .ok (.istore_n 1, 1) := by decide +kernel
theorem dX10_mostOfRow_2 : decode cX10_mostOfRow 2 = .ok (.iconst 0, 1) := by decide +kernel
theorem dX10_mostOfRow_3 : decode cX10_mostOfRow 3 = .ok (.istore_n 2, 1) := by decide +kernel
theorem dX10_mostOfRow_4 : decode cX10_mostOfRow 4 = .ok (.iload_n 2, 1) := by decide +kernel
theorem dX10_mostOfRow_5 : decode cX10_mostOfRow 5 = .ok (.bipush 10, 2) := by decide +kernel
theorem dX10_mostOfRow_7 : decode cX10_mostOfRow 7 = .ok (.if_icmp .ge 40, 3) := by decide +kernel
theorem dX10_mostOfRow_10 : decode cX10_mostOfRow 10 = .ok (.aload_n 0, 1) := by decide +kernel
theorem dX10_mostOfRow_11 : decode cX10_mostOfRow 11 = .ok (.getfield 66, 3) := by decide +kernel
theorem dX10_mostOfRow_14 : decode cX10_mostOfRow 14 = .ok (.iload_n 2, 1) := by decide +kernel
theorem dX10_mostOfRow_15 : decode cX10_mostOfRow 15 = .ok (.iaload, 1) := by decide +kernel
theorem dX10_mostOfRow_16 : decode cX10_mostOfRow 16 = .ok (.ifCond .le 25, 3) := by decide +kernel
theorem dX10_mostOfRow_19 : decode cX10_mostOfRow 19 = .ok (.iload_n 1, 1) := by decide +kernel
theorem dX10_mostOfRow_20 : decode cX10_mostOfRow 20 = .ok (.iconst (-1), 1) := by decide +kernel
theorem dX10_mostOfRow_21 : decode cX10_mostOfRow 21 = .ok (.if_icmp .eq 18, 3) := by decide +kernel
theorem dX10_mostOfRow_24 : decode cX10_mostOfRow 24 = .ok (.aload_n 0, 1) := by decide +kernel
theorem dX10_mostOfRow_25 : decode cX10_mostOfRow 25 = .ok (.getfield 66, 3) := by decide +kernel
theorem dX10_mostOfRow_28 : decode cX10_mostOfRow 28 = .ok (.iload_n 2, 1) := by decide +kernel
theorem dX10_mostOfRow_29 : decode cX10_mostOfRow 29 = .ok (.iaload, 1) := by decide +kernel
theorem dX10_mostOfRow_30 : decode cX10_mostOfRow 30 = .ok (.aload_n 0, 1) := by decide +kernel
theorem dX10_mostOfRow_31 : decode cX10_mostOfRow 31 = .ok (.getfield 66, 3) := by decide +kernel
theorem dX10_mostOfRow_34 : decode cX10_mostOfRow 34 = .ok (.iload_n 1, 1) := by decide +kernel
theorem dX10_mostOfRow_35 : decode cX10_mostOfRow 35 = .ok (.iaload, 1) := by decide +kernel
theorem dX10_mostOfRow_36 : decode cX10_mostOfRow 36 = .ok (.if_icmp .le 5, 3) := by decide +kernel
theorem dX10_mostOfRow_39 : decode cX10_mostOfRow 39 = .ok (.iload_n 2, 1) := by decide +kernel
theorem dX10_mostOfRow_40 : decode cX10_mostOfRow 40 = .ok (.istore_n 1, 1) := by decide +kernel
theorem dX10_mostOfRow_41 : decode cX10_mostOfRow 41 = .ok (.iinc 2 1, 3) := by decide +kernel
theorem dX10_mostOfRow_44 : decode cX10_mostOfRow 44 = .ok (.goto (-40), 3) := by decide +kernel
theorem dX10_mostOfRow_47 : decode cX10_mostOfRow 47 = .ok (.iload_n 1, 1) := by decide +kernel
theorem dX10_mostOfRow_48 : decode cX10_mostOfRow 48 = .ok (.ireturn, 1) := by decide +kernel
theorem dX10_peace_0 : decode cX10_peace 0 = .ok (.aload_n 0, 1) := by decide +kernel
theorem dX10_peace_1 : decode cX10_peace 1 = .ok (.iload_n 1, 1) := by decide +kernel
theorem dX10_peace_2 : decode cX10_peace 2 = .ok (.invokevirtual 124, 3) := by decide +kernel
theorem dX10_peace_5 : decode cX10_peace 5 = .ok (.astore_n 3, 1) := by decide +kernel
theorem dX10_peace_6 : decode cX10_peace 6 = .ok (.aload_n 3, 1) := by decide +kernel
theorem dX10_peace_7 : decode cX10_peace 7 = .ok (.ifnonnull 5, 3) := by decide +kernel
theorem dX10_peace_10 : decode cX10_peace 10 = .ok (.iconst (-1), 1) := by decide +kernel
theorem dX10_peace_11 : decode cX10_peace 11 = .ok (.ireturn, 1) := by decide +kernel
theorem dX10_peace_12 : decode cX10_peace 12 = .ok (.iconst 0, 1) := by decide +kernel
theorem dX10_peace_13 : decode cX10_peace 13 = .ok (.istore 4, 2) := by decide +kernel
theorem dX10_peace_15 : decode cX10_peace 15 = .ok (.iload 4, 2) := by decide +kernel
theorem dX10_peace_17 : decode cX10_peace 17 = .ok (.aload_n 3, 1) := by decide +kernel
theorem dX10_peace_18 : decode cX10_peace 18 = .ok (.getfield 245, 3) := by decide +kernel
theorem dX10_peace_21 : decode cX10_peace 21 = .ok (.if_icmp .ge 22, 3) := by decide +kernel
theorem dX10_peace_24 : decode cX10_peace 24 = .ok (.aload_n 0, 1) := by decide +kernel
theorem dX10_peace_25 : decode cX10_peace 25 = .ok (.getfield 70, 3) := by decide +kernel
theorem dX10_peace_28 : decode cX10_peace 28 = .ok (.iload 4, 2) := by decide +kernel
theorem dX10_peace_30 : decode cX10_peace 30 = .ok (.aload_n 3, 1) := by decide +kernel
theorem dX10_peace_31 : decode cX10_peace 31 = .ok (.iload 4, 2) := by decide +kernel
theorem dX10_peace_33 : decode cX10_peace 33 = .ok (.invokevirtual 293, 3) := by decide +kernel
theorem dX10_peace_36 : decode cX10_peace 36 = .ok (.iastore, 1) := by decide +kernel
theorem dX10_peace_37 : decode cX10_peace 37 = .ok (.iinc 4 1, 3) := by decide +kernel
theorem dX10_peace_40 : decode cX10_peace 40 = .ok (.goto (-25), 3) := by decide +kernel
theorem dX10_peace_43 : decode cX10_peace 43 = .ok (.iconst 0, 1) := by decide +kernel
theorem dX10_peace_44 : decode cX10_peace 44 = .ok (.istore 4, 2) := by decide +kernel
theorem dX10_peace_46 : decode cX10_peace 46 = .ok (.iconst 1, 1) := by decide +kernel
theorem dX10_peace_47 : decode cX10_peace 47 = .ok (.istore 5, 2) := by decide +kernel
theorem dX10_peace_49 : decode cX10_peace 49 = .ok (.iload 5, 2) := by decide +kernel
theorem dX10_peace_51 : decode cX10_peace 51 = .ok (.iconst 1, 1) := by decide +kernel
theorem dX10_peace_52 : decode cX10_peace 52 = .ok (.aload_n 3, 1) := by decide +kernel
theorem dX10_peace_53 : decode cX10_peace 53 = .ok (.getfield 245, 3) := by decide +kernel
theorem dX10_peace_56 : decode cX10_peace 56 = .ok (.ishl, 1) := by decide +kernel
theorem dX10_peace_57 : decode cX10_peace 57 = .ok (.if_icmp .ge 39, 3) := by decide +kernel
theorem dX10_peace_60 : decode cX10_peace 60 = .ok (.iload 5, 2) := by decide +kernel
theorem dX10_peace_62 : decode cX10_peace 62 = .ok (.invokestatic 257, 3) := by decide +kernel
theorem dX10_peace_65 : decode cX10_peace 65 = .ok (.iload 4, 2) := by decide +kernel
theorem dX10_peace_67 : decode cX10_peace 67 = .ok (.invokestatic 257, 3) := by decide +kernel
theorem dX10_peace_70 : decode cX10_peace 70 = .ok (.if_icmp .le 20, 3) := by decide +kernel
theorem dX10_peace_73 : decode cX10_peace 73 = .ok (.aload_n 0, 1) := by decide +kernel
theorem dX10_peace_74 : decode cX10_peace 74 = .ok (.iload 5, 2) := by decide +kernel
theorem dX10_peace_76 : decode cX10_peace 76 = .ok (.aload_n 3, 1) := by decide +kernel
theorem dX10_peace_77 : decode cX10_peace 77 = .ok (.getfield 245, 3) := by decide +kernel
theorem dX10_peace_80 : decode cX10_peace 80 = .ok (.invokevirtual 374, 3) := by decide +kernel
theorem dX10_peace_83 : decode cX10_peace 83 = .ok (.ifCond .eq 7, 3) := by decide +kernel
theorem dX10_peace_86 : decode cX10_peace 86 = .ok (.iload 5, 2) := by decide +kernel
theorem dX10_peace_88 : decode cX10_peace 88 = .ok (.istore 4, 2) := by decide +kernel
theorem dX10_peace_90 : decode cX10_peace 90 = .ok (.iinc 5 1, 3) := by decide +kernel
theorem dX10_peace_93 : decode cX10_peace 93 = .ok (.goto (-44), 3) := by decide +kernel
theorem dX10_peace_96 : decode cX10_peace 96 = .ok (.iload_n 2, 1) := by decide +kernel
theorem dX10_peace_97 : decode cX10_peace 97 = .ok (.ifCond .eq 8, 3) := by decide +kernel
theorem dX10_peace_100 : decode cX10_peace 100 = .ok (.iload 4, 2) := by decide +kernel
theorem dX10_peace_102 : decode cX10_peace 102 = .ok (.goto 8, 3) := by decide +kernel
theorem dX10_peace_105 : decode cX10_peace 105 = .ok (.iload 4, 2) := by decide +kernel
theorem dX10_peace_107 : decode cX10_peace 107 = .ok (.invokestatic 257, 3) := by decide +kernel
theorem dX10_peace_110 : decode cX10_peace 110 = .ok (.ireturn, 1) := by decide +kernel
theorem dX10_atPeace_0 : decode cX10_atPeace 0 = .ok (.iconst 0, 1) := by decide +kernel
theorem dX10_atPeace_1 : decode cX10_atPeace 1 = .ok (.istore_n 3, 1) := by decide +kernel
theorem dX10_atPeace_2 : decode cX10_atPeace 2 = .ok (.iload_n 3, 1) := by decide +kernel
theorem dX10_atPeace_3 : decode cX10_atPeace 3 = .ok (.iload_n 2, 1) := by decide +kernel
theorem dX10_atPeace_4 : decode cX10_atPeace 4 = .ok (.if_icmp .ge 30, 3) := by decide +kernel
theorem dX10_atPeace_7 : decode cX10_atPeace 7 = .ok (.iload_n 1, 1) := by decide +kernel
theorem dX10_atPeace_8 : decode cX10_atPeace 8 = .ok (.iload_n 3, 1) := by decide +kernel
theorem dX10_atPeace_9 : decode cX10_atPeace 9 = .ok (.ishr, 1) := by decide +kernel
theorem dX10_atPeace_10 : decode cX10_atPeace 10 = .ok (.iconst 1, 1) := by decide +kernel
theorem dX10_atPeace_11 : decode cX10_atPeace 11 = .ok (.iand, 1) := by decide +kernel
theorem dX10_atPeace_12 : decode cX10_atPeace 12 = .ok (.ifCond .eq 16, 3) := by decide +kernel
theorem dX10_atPeace_15 : decode cX10_atPeace 15 = .ok (.iload_n 1, 1) := by decide +kernel
theorem dX10_atPeace_16 : decode cX10_atPeace 16 = .ok (.aload_n 0, 1) := by decide +kernel
theorem dX10_atPeace_17 : decode cX10_atPeace 17 = .ok (.getfield 70, 3) := by decide +kernel
theorem dX10_atPeace_20 : decode cX10_atPeace 20 = .ok (.iload_n 3, 1) := by decide +kernel
theorem dX10_atPeace_21 : decode cX10_atPeace 21 = .ok (.iaload, 1) := by decide +kernel
theorem dX10_atPeace_22 : decode cX10_atPeace 22 = .ok (.iand, 1) := by decide +kernel
theorem dX10_atPeace_23 : decode cX10_atPeace 23 = .ok (.ifCond .eq 5, 3) := by decide +kernel
theorem dX10_atPeace_26 : decode cX10_atPeace 26 = .ok (.iconst 0, 1) := by decide +kernel
theorem dX10_atPeace_27 : decode cX10_atPeace 27 = .ok (.ireturn, 1) := by decide +kernel
theorem dX10_atPeace_28 : decode cX10_atPeace 28 = .ok (.iinc 3 1, 3) := by decide +kernel
theorem dX10_atPeace_31 : decode cX10_atPeace 31 = .ok (.goto (-29), 3) := by decide +kernel
theorem dX10_atPeace_34 : decode cX10_atPeace 34 = .ok (.iconst 1, 1) := by decide +kernel
theorem dX10_atPeace_35 : decode cX10_atPeace 35 = .ok (.ireturn, 1) := by decide +kernel
theorem dX10_median_0 : decode cX10_median 0 = .ok (.aload_n 0, 1) := by decide +kernel
theorem dX10_median_1 : decode cX10_median 1 = .ok (.iload_n 1, 1) := by decide +kernel
theorem dX10_median_2 : decode cX10_median 2 = .ok (.invokevirtual 124, 3) := by decide +kernel
theorem dX10_median_5 : decode cX10_median 5 = .ok (.astore 4, 2) := by decide +kernel
theorem dX10_median_7 : decode cX10_median 7 = .ok (.aload 4, 2) := by decide +kernel
theorem dX10_median_9 : decode cX10_median 9 = .ok (.ifnull 16, 3) := by decide +kernel
theorem dX10_median_12 : decode cX10_median 12 = .ok (.iload_n 2, 1) := by decide +kernel
theorem dX10_median_13 : decode cX10_median 13 = .ok (.ifCond .lt 12, 3) := by decide +kernel
theorem dX10_median_16 : decode cX10_median 16 = .ok (.iload_n 2, 1) := by decide +kernel
theorem dX10_median_17 : decode cX10_median 17 = .ok (.aload 4, 2) := by decide +kernel
theorem dX10_median_19 : decode cX10_median 19 = .ok (.getfield 269, 3) := by decide +kernel
theorem dX10_median_22 : decode cX10_median 22 = .ok (.if_icmp .lt 5, 3) := by decide +kernel
theorem dX10_median_25 : decode cX10_median 25 = .ok (.iconst (-1), 1) := by decide +kernel
theorem dX10_median_26 : decode cX10_median 26 = .ok (.ireturn, 1) := by decide +kernel
theorem dX10_median_27 : decode cX10_median 27 = .ok (.iconst 0, 1) := by decide +kernel
theorem dX10_median_28 : decode cX10_median 28 = .ok (.istore 5, 2) := by decide +kernel
theorem dX10_median_30 : decode cX10_median 30 = .ok (.aload 4, 2) := by decide +kernel
theorem dX10_median_32 : decode cX10_median 32 = .ok (.iconst 0, 1) := by decide +kernel
theorem dX10_median_33 : decode cX10_median 33 = .ok (.iload_n 2, 1) := by decide +kernel
theorem dX10_median_34 : decode cX10_median 34 = .ok (.invokevirtual 377, 3) := by decide +kernel
theorem dX10_median_37 : decode cX10_median 37 = .ok (.istore 6, 2) := by decide +kernel
theorem dX10_median_39 : decode cX10_median 39 = .ok (.iconst 1, 1) := by decide +kernel
theorem dX10_median_40 : decode cX10_median 40 = .ok (.istore 7, 2) := by decide +kernel
theorem dX10_median_42 : decode cX10_median 42 = .ok (.iload 7, 2) := by decide +kernel
theorem dX10_median_44 : decode cX10_median 44 = .ok (.bipush 10, 2) := by decide +kernel
theorem dX10_median_46 : decode cX10_median 46 = .ok (.if_icmp .ge 34, 3) := by decide +kernel
theorem dX10_median_49 : decode cX10_median 49 = .ok (.aload 4, 2) := by decide +kernel
theorem dX10_median_51 : decode cX10_median 51 = .ok (.iload 7, 2) := by decide +kernel
theorem dX10_median_53 : decode cX10_median 53 = .ok (.iload_n 2, 1) := by decide +kernel
theorem dX10_median_54 : decode cX10_median 54 = .ok (.invokevirtual 377, 3) := by decide +kernel
theorem dX10_median_57 : decode cX10_median 57 = .ok (.istore 8, 2) := by decide +kernel
theorem dX10_median_59 : decode cX10_median 59 = .ok (.iload 8, 2) := by decide +kernel
theorem dX10_median_61 : decode cX10_median 61 = .ok (.iload 6, 2) := by decide +kernel
theorem dX10_median_63 : decode cX10_median 63 = .ok (.if_icmp .ge 11, 3) := by decide +kernel
theorem dX10_median_66 : decode cX10_median 66 = .ok (.iload 8, 2) := by decide +kernel
theorem dX10_median_68 : decode cX10_median 68 = .ok (.istore 6, 2) := by decide +kernel
theorem dX10_median_70 : decode cX10_median 70 = .ok (.iload 7, 2) := by decide +kernel
theorem dX10_median_72 : decode cX10_median 72 = .ok (.istore 5, 2) := by decide +kernel
theorem dX10_median_74 : decode cX10_median 74 = .ok (.iinc 7 1, 3) := by decide +kernel
theorem dX10_median_77 : decode cX10_median 77 = .ok (.goto (-35), 3) := by decide +kernel
theorem dX10_median_80 : decode cX10_median 80 = .ok (.iload_n 3, 1) := by decide +kernel
theorem dX10_median_81 : decode cX10_median 81 = .ok (.ifCond .eq 8, 3) := by decide +kernel
theorem dX10_median_84 : decode cX10_median 84 = .ok (.iload 6, 2) := by decide +kernel
theorem dX10_median_86 : decode cX10_median 86 = .ok (.goto 5, 3) := by decide +kernel
theorem dX10_median_89 : decode cX10_median 89 = .ok (.iload 5, 2) := by decide +kernel
theorem dX10_median_91 : decode cX10_median 91 = .ok (.ireturn, 1) := by decide +kernel
theorem dX10_rise_0 : decode cX10_rise 0 = .ok (.aload_n 0, 1) := by decide +kernel
theorem dX10_rise_1 : decode cX10_rise 1 = .ok (.iload_n 1, 1) := by decide +kernel
theorem dX10_rise_2 : decode cX10_rise 2 = .ok (.invokevirtual 124, 3) := by decide +kernel
theorem dX10_rise_5 : decode cX10_rise 5 = .ok (.astore_n 3, 1) := by decide +kernel
theorem dX10_rise_6 : decode cX10_rise 6 = .ok (.aload_n 3, 1) := by decide +kernel
theorem dX10_rise_7 : decode cX10_rise 7 = .ok (.ifnonnull 6, 3) := by decide +kernel
theorem dX10_rise_10 : decode cX10_rise 10 = .ok (.bipush (-2), 2) := by decide +kernel
theorem dX10_rise_12 : decode cX10_rise 12 = .ok (.ireturn, 1) := by decide +kernel
theorem dX10_rise_13 : decode cX10_rise 13 = .ok (.iload_n 2, 1) := by decide +kernel
theorem dX10_rise_14 : decode cX10_rise 14 = .ok (.tableswitch 62 0 4 #[34, 40, 45, 50, 56], 34) := by decide +kernel
theorem dX10_rise_48 : decode cX10_rise 48 = .ok (.aload_n 0, 1) := by decide +kernel
theorem dX10_rise_49 : decode cX10_rise 49 = .ok (.aload_n 3, 1) := by decide +kernel
theorem dX10_rise_50 : decode cX10_rise 50 = .ok (.invokevirtual 380, 3) := by decide +kernel
theorem dX10_rise_53 : decode cX10_rise 53 = .ok (.ireturn, 1) := by decide +kernel
theorem dX10_rise_54 : decode cX10_rise 54 = .ok (.aload_n 3, 1) := by decide +kernel
theorem dX10_rise_55 : decode cX10_rise 55 = .ok (.invokevirtual 383, 3) := by decide +kernel
theorem dX10_rise_58 : decode cX10_rise 58 = .ok (.ireturn, 1) := by decide +kernel
theorem dX10_rise_59 : decode cX10_rise 59 = .ok (.aload_n 3, 1) := by decide +kernel
theorem dX10_rise_60 : decode cX10_rise 60 = .ok (.invokevirtual 386, 3) := by decide +kernel
theorem dX10_rise_63 : decode cX10_rise 63 = .ok (.ireturn, 1) := by decide +kernel
theorem dX10_rise_64 : decode cX10_rise 64 = .ok (.aload_n 0, 1) := by decide +kernel
theorem dX10_rise_65 : decode cX10_rise 65 = .ok (.aload_n 3, 1) := by decide +kernel
theorem dX10_rise_66 : decode cX10_rise 66 = .ok (.invokevirtual 389, 3) := by decide +kernel
theorem dX10_rise_69 : decode cX10_rise 69 = .ok (.ireturn, 1) := by decide +kernel
theorem dX10_rise_70 : decode cX10_rise 70 = .ok (.aload_n 0, 1) := by decide +kernel
theorem dX10_rise_71 : decode cX10_rise 71 = .ok (.aload_n 3, 1) := by decide +kernel
theorem dX10_rise_72 : decode cX10_rise 72 = .ok (.invokevirtual 392, 3) := by decide +kernel
theorem dX10_rise_75 : decode cX10_rise 75 = .ok (.ireturn, 1) := by decide +kernel
theorem dX10_rise_76 : decode cX10_rise 76 = .ok (.aload_n 0, 1) := by decide +kernel
theorem dX10_rise_77 : decode cX10_rise 77 = .ok (.aload_n 3, 1) := by decide +kernel
theorem dX10_rise_78 : decode cX10_rise 78 = .ok (.iload_n 2, 1) := by decide +kernel
theorem dX10_rise_79 : decode cX10_rise 79 = .ok (.bipush 10, 2) := by decide +kernel
theorem dX10_rise_81 : decode cX10_rise 81 = .ok (.isub, 1) := by decide +kernel
theorem dX10_rise_82 : decode cX10_rise 82 = .ok (.invokevirtual 395, 3) := by decide +kernel
theorem dX10_rise_85 : decode cX10_rise 85 = .ok (.ireturn, 1) := by decide +kernel
theorem dX10_countWords_0 : decode cX10_countWords 0 = .ok (.aload_n 0, 1) := by decide +kernel
theorem dX10_countWords_1 : decode cX10_countWords 1 = .ok (.invokevirtual 333, 3) := by decide +kernel
theorem dX10_countWords_4 : decode cX10_countWords 4 = .ok (.iconst 0, 1) := by decide +kernel
theorem dX10_countWords_5 : decode cX10_countWords 5 = .ok (.istore_n 2, 1) := by decide +kernel
theorem dX10_countWords_6 : decode cX10_countWords 6 = .ok (.iload_n 2, 1) := by decide +kernel
theorem dX10_countWords_7 : decode cX10_countWords 7 = .ok (.aload_n 1, 1) := by decide +kernel
theorem dX10_countWords_8 : decode cX10_countWords 8 = .ok (.getfield 269, 3) := by decide +kernel
theorem dX10_countWords_11 : decode cX10_countWords 11 = .ok (.if_icmp .ge 34, 3) := by decide +kernel
theorem dX10_countWords_14 : decode cX10_countWords 14 = .ok (.aload_n 1, 1) := by decide +kernel
theorem dX10_countWords_15 : decode cX10_countWords 15 = .ok (.getfield 248, 3) := by decide +kernel
theorem dX10_countWords_18 : decode cX10_countWords 18 = .ok (.iload_n 2, 1) := by decide +kernel
theorem dX10_countWords_19 : decode cX10_countWords 19 = .ok (.invokestatic 272, 3) := by decide +kernel
theorem dX10_countWords_22 : decode cX10_countWords 22 = .ok (.istore_n 3, 1) := by decide +kernel
theorem dX10_countWords_23 : decode cX10_countWords 23 = .ok (.iload_n 3, 1) := by decide +kernel
theorem dX10_countWords_24 : decode cX10_countWords 24 = .ok (.bipush 10, 2) := by decide +kernel
theorem dX10_countWords_26 : decode cX10_countWords 26 = .ok (.if_icmp .ge 13, 3) := by decide +kernel
theorem dX10_countWords_29 : decode cX10_countWords 29 = .ok (.aload_n 0, 1) := by decide +kernel
theorem dX10_countWords_30 : decode cX10_countWords 30 = .ok (.getfield 66, 3) := by decide +kernel
theorem dX10_countWords_33 : decode cX10_countWords 33 = .ok (.iload_n 3, 1) := by decide +kernel
theorem dX10_countWords_34 : decode cX10_countWords 34 = .ok (.dup2, 1) := by decide +kernel
theorem dX10_countWords_35 : decode cX10_countWords 35 = .ok (.iaload, 1) := by decide +kernel
theorem dX10_countWords_36 : decode cX10_countWords 36 = .ok (.iconst 1, 1) := by decide +kernel
theorem dX10_countWords_37 : decode cX10_countWords 37 = .ok (.iadd, 1) := by decide +kernel
theorem dX10_countWords_38 : decode cX10_countWords 38 = .ok (.iastore, 1) := by decide +kernel
theorem dX10_countWords_39 : decode cX10_countWords 39 = .ok (.iinc 2 1, 3) := by decide +kernel
theorem dX10_countWords_42 : decode cX10_countWords 42 = .ok (.goto (-36), 3) := by decide +kernel
theorem dX10_countWords_45 : decode cX10_countWords 45 = .ok (.return_, 1) := by decide +kernel
theorem dX10_unlikeWords_0 : decode cX10_unlikeWords 0 = .ok (.aload_n 0, 1) := by decide +kernel
theorem dX10_unlikeWords_1 : decode cX10_unlikeWords 1 = .ok (.aload_n 1, 1) := by decide +kernel
theorem dX10_unlikeWords_2 : decode cX10_unlikeWords 2 = .ok (.invokevirtual 398, 3) := by decide +kernel
theorem dX10_unlikeWords_5 : decode cX10_unlikeWords 5 = .ok (.iconst 0, 1) := by decide +kernel
theorem dX10_unlikeWords_6 : decode cX10_unlikeWords 6 = .ok (.istore_n 2, 1) := by decide +kernel
theorem dX10_unlikeWords_7 : decode cX10_unlikeWords 7 = .ok (.iconst 0, 1) := by decide +kernel
theorem dX10_unlikeWords_8 : decode cX10_unlikeWords 8 = .ok (.istore_n 3, 1) := by decide +kernel
theorem dX10_unlikeWords_9 : decode cX10_unlikeWords 9 = .ok (.iload_n 3, 1) := by decide +kernel
theorem dX10_unlikeWords_10 : decode cX10_unlikeWords 10 = .ok (.bipush 10, 2) := by decide +kernel
theorem dX10_unlikeWords_12 : decode cX10_unlikeWords 12 = .ok (.if_icmp .ge 26, 3) := by decide +kernel
theorem dX10_unlikeWords_15 : decode cX10_unlikeWords 15 = .ok (.iload_n 2, 1) := by decide +kernel
theorem dX10_unlikeWords_16 : decode cX10_unlikeWords 16 = .ok (.aload_n 0, 1) := by decide +kernel
theorem dX10_unlikeWords_17 : decode cX10_unlikeWords 17 = .ok (.getfield 66, 3) := by decide +kernel
theorem dX10_unlikeWords_20 : decode cX10_unlikeWords 20 = .ok (.iload_n 3, 1) := by decide +kernel
theorem dX10_unlikeWords_21 : decode cX10_unlikeWords 21 = .ok (.iaload, 1) := by decide +kernel
theorem dX10_unlikeWords_22 : decode cX10_unlikeWords 22 = .ok (.ifCond .le 7, 3) := by decide +kernel
theorem dX10_unlikeWords_25 : decode cX10_unlikeWords 25 = .ok (.iconst 1, 1) := by decide +kernel
theorem dX10_unlikeWords_26 : decode cX10_unlikeWords 26 = .ok (.goto 4, 3) := by decide +kernel
theorem dX10_unlikeWords_29 : decode cX10_unlikeWords 29 = .ok (.iconst 0, 1) := by decide +kernel
theorem dX10_unlikeWords_30 : decode cX10_unlikeWords 30 = .ok (.iadd, 1) := by decide +kernel
theorem dX10_unlikeWords_31 : decode cX10_unlikeWords 31 = .ok (.istore_n 2, 1) := by decide +kernel
theorem dX10_unlikeWords_32 : decode cX10_unlikeWords 32 = .ok (.iinc 3 1, 3) := by decide +kernel
theorem dX10_unlikeWords_35 : decode cX10_unlikeWords 35 = .ok (.goto (-26), 3) := by decide +kernel
theorem dX10_unlikeWords_38 : decode cX10_unlikeWords 38 = .ok (.iload_n 2, 1) := by decide +kernel
theorem dX10_unlikeWords_39 : decode cX10_unlikeWords 39 = .ok (.ireturn, 1) := by decide +kernel
theorem dX10_commonWord_0 : decode cX10_commonWord 0 = .ok (.aload_n 0, 1) := by decide +kernel
theorem dX10_commonWord_1 : decode cX10_commonWord 1 = .ok (.aload_n 1, 1) := by decide +kernel
theorem dX10_commonWord_2 : decode cX10_commonWord 2 = .ok (.invokevirtual 398, 3) := by decide +kernel
theorem dX10_commonWord_5 : decode cX10_commonWord 5 = .ok (.aload_n 0, 1) := by decide +kernel
theorem dX10_commonWord_6 : decode cX10_commonWord 6 = .ok (.invokevirtual 371, 3) := by decide +kernel
theorem dX10_commonWord_9 : decode cX10_commonWord 9 = .ok (.ireturn, 1) := by decide +kernel
theorem dX10_longestRise_0 : decode cX10_longestRise 0 = .ok (.aload_n 0, 1) := by decide +kernel
theorem dX10_longestRise_1 : decode cX10_longestRise 1 = .ok (.invokevirtual 333, 3) := by decide +kernel
theorem dX10_longestRise_4 : decode cX10_longestRise 4 = .ok (.iconst 0, 1) := by decide +kernel
theorem dX10_longestRise_5 : decode cX10_longestRise 5 = .ok (.istore_n 2, 1) := by decide +kernel
theorem dX10_longestRise_6 : decode cX10_longestRise 6 = .ok (.aload_n 1, 1) := by decide +kernel
theorem dX10_longestRise_7 : decode cX10_longestRise 7 = .ok (.getfield 269, 3) := by decide +kernel
theorem dX10_longestRise_10 : decode cX10_longestRise 10 = .ok (.iconst 1, 1) := by decide +kernel
theorem dX10_longestRise_11 : decode cX10_longestRise 11 = .ok (.isub, 1) := by decide +kernel
theorem dX10_longestRise_12 : decode cX10_longestRise 12 = .ok (.istore_n 3, 1) := by decide +kernel
theorem dX10_longestRise_13 : decode cX10_longestRise 13 = .ok (.iload_n 3, 1) := by decide +kernel
theorem dX10_longestRise_14 : decode cX10_longestRise 14 = .ok (.ifCond .lt 87, 3) := by decide +kernel
theorem dX10_longestRise_17 : decode cX10_longestRise 17 = .ok (.iconst 0, 1) := by decide +kernel
theorem dX10_longestRise_18 : decode cX10_longestRise 18 = .ok (.istore 4, 2) := by decide +kernel
theorem dX10_longestRise_20 : decode cX10_longestRise 20 = .ok (.iload_n 3, 1) := by decide +kernel
theorem dX10_longestRise_21 : decode cX10_longestRise 21 = .ok (.iconst 1, 1) := by decide +kernel
theorem dX10_longestRise_22 : decode cX10_longestRise 22 = .ok (.iadd, 1) := by decide +kernel
theorem dX10_longestRise_23 : decode cX10_longestRise 23 = .ok (.istore 5, 2) := by decide +kernel
theorem dX10_longestRise_25 : decode cX10_longestRise 25 = .ok (.iload 5, 2) := by decide +kernel
theorem dX10_longestRise_27 : decode cX10_longestRise 27 = .ok (.aload_n 1, 1) := by decide +kernel
theorem dX10_longestRise_28 : decode cX10_longestRise 28 = .ok (.getfield 269, 3) := by decide +kernel
theorem dX10_longestRise_31 : decode cX10_longestRise 31 = .ok (.if_icmp .ge 43, 3) := by decide +kernel
theorem dX10_longestRise_34 : decode cX10_longestRise 34 = .ok (.aload_n 1, 1) := by decide +kernel
theorem dX10_longestRise_35 : decode cX10_longestRise 35 = .ok (.getfield 248, 3) := by decide +kernel
theorem dX10_longestRise_38 : decode cX10_longestRise 38 = .ok (.iload 5, 2) := by decide +kernel
theorem dX10_longestRise_40 : decode cX10_longestRise 40 = .ok (.invokestatic 272, 3) := by decide +kernel
theorem dX10_longestRise_43 : decode cX10_longestRise 43 = .ok (.aload_n 1, 1) := by decide +kernel
theorem dX10_longestRise_44 : decode cX10_longestRise 44 = .ok (.getfield 248, 3) := by decide +kernel
theorem dX10_longestRise_47 : decode cX10_longestRise 47 = .ok (.iload_n 3, 1) := by decide +kernel
theorem dX10_longestRise_48 : decode cX10_longestRise 48 = .ok (.invokestatic 272, 3) := by decide +kernel
theorem dX10_longestRise_51 : decode cX10_longestRise 51 = .ok (.if_icmp .le 17, 3) := by decide +kernel
theorem dX10_longestRise_54 : decode cX10_longestRise 54 = .ok (.iload 4, 2) := by decide +kernel
theorem dX10_longestRise_56 : decode cX10_longestRise 56 = .ok (.aload_n 0, 1) := by decide +kernel
theorem dX10_longestRise_57 : decode cX10_longestRise 57 = .ok (.getfield 66, 3) := by decide +kernel
theorem dX10_longestRise_60 : decode cX10_longestRise 60 = .ok (.iload 5, 2) := by decide +kernel
theorem dX10_longestRise_62 : decode cX10_longestRise 62 = .ok (.iaload, 1) := by decide +kernel
theorem dX10_longestRise_63 : decode cX10_longestRise 63 = .ok (.invokestatic 339, 3) := by decide +kernel
theorem dX10_longestRise_66 : decode cX10_longestRise 66 = .ok (.istore 4, 2) := by decide +kernel
theorem dX10_longestRise_68 : decode cX10_longestRise 68 = .ok (.iinc 5 1, 3) := by decide +kernel
theorem dX10_longestRise_71 : decode cX10_longestRise 71 = .ok (.goto (-46), 3) := by decide +kernel
theorem dX10_longestRise_74 : decode cX10_longestRise 74 = .ok (.aload_n 0, 1) := by decide +kernel
theorem dX10_longestRise_75 : decode cX10_longestRise 75 = .ok (.getfield 66, 3) := by decide +kernel
theorem dX10_longestRise_78 : decode cX10_longestRise 78 = .ok (.iload_n 3, 1) := by decide +kernel
theorem dX10_longestRise_79 : decode cX10_longestRise 79 = .ok (.iload 4, 2) := by decide +kernel
theorem dX10_longestRise_81 : decode cX10_longestRise 81 = .ok (.iconst 1, 1) := by decide +kernel
theorem dX10_longestRise_82 : decode cX10_longestRise 82 = .ok (.iadd, 1) := by decide +kernel
theorem dX10_longestRise_83 : decode cX10_longestRise 83 = .ok (.iastore, 1) := by decide +kernel
theorem dX10_longestRise_84 : decode cX10_longestRise 84 = .ok (.iload_n 2, 1) := by decide +kernel
theorem dX10_longestRise_85 : decode cX10_longestRise 85 = .ok (.aload_n 0, 1) := by decide +kernel
theorem dX10_longestRise_86 : decode cX10_longestRise 86 = .ok (.getfield 66, 3) := by decide +kernel
theorem dX10_longestRise_89 : decode cX10_longestRise 89 = .ok (.iload_n 3, 1) := by decide +kernel
theorem dX10_longestRise_90 : decode cX10_longestRise 90 = .ok (.iaload, 1) := by decide +kernel
theorem dX10_longestRise_91 : decode cX10_longestRise 91 = .ok (.invokestatic 339, 3) := by decide +kernel
theorem dX10_longestRise_94 : decode cX10_longestRise 94 = .ok (.istore_n 2, 1) := by decide +kernel
theorem dX10_longestRise_95 : decode cX10_longestRise 95 = .ok (.iinc 3 (-1), 3) := by decide +kernel
theorem dX10_longestRise_98 : decode cX10_longestRise 98 = .ok (.goto (-85), 3) := by decide +kernel
theorem dX10_longestRise_101 : decode cX10_longestRise 101 = .ok (.iload_n 2, 1) := by decide +kernel
theorem dX10_longestRise_102 : decode cX10_longestRise 102 = .ok (.ireturn, 1) := by decide +kernel
theorem dX10_riseAt_0 : decode cX10_riseAt 0 = .ok (.aload_n 0, 1) := by decide +kernel
theorem dX10_riseAt_1 : decode cX10_riseAt 1 = .ok (.aload_n 1, 1) := by decide +kernel
theorem dX10_riseAt_2 : decode cX10_riseAt 2 = .ok (.invokevirtual 380, 3) := by decide +kernel
theorem dX10_riseAt_5 : decode cX10_riseAt 5 = .ok (.istore_n 3, 1) := by decide +kernel
theorem dX10_riseAt_6 : decode cX10_riseAt 6 = .ok (.iload_n 2, 1) := by decide +kernel
theorem dX10_riseAt_7 : decode cX10_riseAt 7 = .ok (.ifCond .lt 8, 3) := by decide +kernel
theorem dX10_riseAt_10 : decode cX10_riseAt 10 = .ok (.iload_n 2, 1) := by decide +kernel
theorem dX10_riseAt_11 : decode cX10_riseAt 11 = .ok (.iload_n 3, 1) := by decide +kernel
theorem dX10_riseAt_12 : decode cX10_riseAt 12 = .ok (.if_icmp .lt 6, 3) := by decide +kernel
theorem dX10_riseAt_15 : decode cX10_riseAt 15 = .ok (.bipush (-2), 2) := by decide +kernel
theorem dX10_riseAt_17 : decode cX10_riseAt 17 = .ok (.ireturn, 1) := by decide +kernel
theorem dX10_riseAt_18 : decode cX10_riseAt 18 = .ok (.iconst 0, 1) := by decide +kernel
theorem dX10_riseAt_19 : decode cX10_riseAt 19 = .ok (.istore 4, 2) := by decide +kernel
theorem dX10_riseAt_21 : decode cX10_riseAt 21 = .ok (.iconst (-1), 1) := by decide +kernel
theorem dX10_riseAt_22 : decode cX10_riseAt 22 = .ok (.istore 5, 2) := by decide +kernel
theorem dX10_riseAt_24 : decode cX10_riseAt 24 = .ok (.iconst (-1), 1) := by decide +kernel
theorem dX10_riseAt_25 : decode cX10_riseAt 25 = .ok (.istore 6, 2) := by decide +kernel
theorem dX10_riseAt_27 : decode cX10_riseAt 27 = .ok (.iconst 0, 1) := by decide +kernel
theorem dX10_riseAt_28 : decode cX10_riseAt 28 = .ok (.istore 7, 2) := by decide +kernel
theorem dX10_riseAt_30 : decode cX10_riseAt 30 = .ok (.iload 7, 2) := by decide +kernel
theorem dX10_riseAt_32 : decode cX10_riseAt 32 = .ok (.aload_n 1, 1) := by decide +kernel
theorem dX10_riseAt_33 : decode cX10_riseAt 33 = .ok (.getfield 269, 3) := by decide +kernel
theorem dX10_riseAt_36 : decode cX10_riseAt 36 = .ok (.if_icmp .ge 58, 3) := by decide +kernel
theorem dX10_riseAt_39 : decode cX10_riseAt 39 = .ok (.aload_n 1, 1) := by decide +kernel
theorem dX10_riseAt_40 : decode cX10_riseAt 40 = .ok (.getfield 248, 3) := by decide +kernel
theorem dX10_riseAt_43 : decode cX10_riseAt 43 = .ok (.iload 7, 2) := by decide +kernel
theorem dX10_riseAt_45 : decode cX10_riseAt 45 = .ok (.invokestatic 272, 3) := by decide +kernel
theorem dX10_riseAt_48 : decode cX10_riseAt 48 = .ok (.istore 8, 2) := by decide +kernel
theorem dX10_riseAt_50 : decode cX10_riseAt 50 = .ok (.iload 4, 2) := by decide +kernel
theorem dX10_riseAt_52 : decode cX10_riseAt 52 = .ok (.iload_n 2, 1) := by decide +kernel
theorem dX10_riseAt_53 : decode cX10_riseAt 53 = .ok (.if_icmp .gt 35, 3) := by decide +kernel
theorem dX10_riseAt_56 : decode cX10_riseAt 56 = .ok (.iload 8, 2) := by decide +kernel
theorem dX10_riseAt_58 : decode cX10_riseAt 58 = .ok (.iload 5, 2) := by decide +kernel
theorem dX10_riseAt_60 : decode cX10_riseAt 60 = .ok (.if_icmp .le 28, 3) := by decide +kernel
theorem dX10_riseAt_63 : decode cX10_riseAt 63 = .ok (.aload_n 0, 1) := by decide +kernel
theorem dX10_riseAt_64 : decode cX10_riseAt 64 = .ok (.getfield 66, 3) := by decide +kernel
theorem dX10_riseAt_67 : decode cX10_riseAt 67 = .ok (.iload 7, 2) := by decide +kernel
theorem dX10_riseAt_69 : decode cX10_riseAt 69 = .ok (.iaload, 1) := by decide +kernel
theorem dX10_riseAt_70 : decode cX10_riseAt 70 = .ok (.iload_n 3, 1) := by decide +kernel
theorem dX10_riseAt_71 : decode cX10_riseAt 71 = .ok (.iload 4, 2) := by decide +kernel
theorem dX10_riseAt_73 : decode cX10_riseAt 73 = .ok (.isub, 1) := by decide +kernel
theorem dX10_riseAt_74 : decode cX10_riseAt 74 = .ok (.if_icmp .ne 14, 3) := by decide +kernel
theorem dX10_riseAt_77 : decode cX10_riseAt 77 = .ok (.iload 8, 2) := by decide +kernel
theorem dX10_riseAt_79 : decode cX10_riseAt 79 = .ok (.istore 5, 2) := by decide +kernel
theorem dX10_riseAt_81 : decode cX10_riseAt 81 = .ok (.iload 7, 2) := by decide +kernel
theorem dX10_riseAt_83 : decode cX10_riseAt 83 = .ok (.istore 6, 2) := by decide +kernel
theorem dX10_riseAt_85 : decode cX10_riseAt 85 = .ok (.iinc 4 1, 3) := by decide +kernel
theorem dX10_riseAt_88 : decode cX10_riseAt 88 = .ok (.iinc 7 1, 3) := by decide +kernel
theorem dX10_riseAt_91 : decode cX10_riseAt 91 = .ok (.goto (-61), 3) := by decide +kernel
theorem dX10_riseAt_94 : decode cX10_riseAt 94 = .ok (.iload 6, 2) := by decide +kernel
theorem dX10_riseAt_96 : decode cX10_riseAt 96 = .ok (.ireturn, 1) := by decide +kernel
theorem dX10_order_0 : decode cX10_order 0 = .ok (.aload_n 0, 1) := by decide +kernel
theorem dX10_order_1 : decode cX10_order 1 = .ok (.iload_n 1, 1) := by decide +kernel
theorem dX10_order_2 : decode cX10_order 2 = .ok (.invokevirtual 124, 3) := by decide +kernel
theorem dX10_order_5 : decode cX10_order 5 = .ok (.astore_n 3, 1) := by decide +kernel
theorem dX10_order_6 : decode cX10_order 6 = .ok (.aload_n 3, 1) := by decide +kernel
theorem dX10_order_7 : decode cX10_order 7 = .ok (.ifnull 16, 3) := by decide +kernel
theorem dX10_order_10 : decode cX10_order 10 = .ok (.iload_n 2, 1) := by decide +kernel
theorem dX10_order_11 : decode cX10_order 11 = .ok (.iconst (-1), 1) := by decide +kernel
theorem dX10_order_12 : decode cX10_order 12 = .ok (.if_icmp .lt 11, 3) := by decide +kernel
theorem dX10_order_15 : decode cX10_order 15 = .ok (.iload_n 2, 1) := by decide +kernel
theorem dX10_order_16 : decode cX10_order 16 = .ok (.aload_n 3, 1) := by decide +kernel
theorem dX10_order_17 : decode cX10_order 17 = .ok (.getfield 245, 3) := by decide +kernel
theorem dX10_order_20 : decode cX10_order 20 = .ok (.if_icmp .lt 5, 3) := by decide +kernel
theorem dX10_order_23 : decode cX10_order 23 = .ok (.iconst (-1), 1) := by decide +kernel
theorem dX10_order_24 : decode cX10_order 24 = .ok (.ireturn, 1) := by decide +kernel
theorem dX10_order_25 : decode cX10_order 25 = .ok (.aload_n 0, 1) := by decide +kernel
theorem dX10_order_26 : decode cX10_order 26 = .ok (.getfield 55, 3) := by decide +kernel
theorem dX10_order_29 : decode cX10_order 29 = .ok (.iload_n 1, 1) := by decide +kernel
theorem dX10_order_30 : decode cX10_order 30 = .ok (.aload_n 3, 1) := by decide +kernel
theorem dX10_order_31 : decode cX10_order 31 = .ok (.invokevirtual 401, 3) := by decide +kernel
theorem dX10_order_34 : decode cX10_order 34 = .ok (.aload_n 0, 1) := by decide +kernel
theorem dX10_order_35 : decode cX10_order 35 = .ok (.getfield 55, 3) := by decide +kernel
theorem dX10_order_38 : decode cX10_order 38 = .ok (.invokevirtual 405, 3) := by decide +kernel
theorem dX10_order_41 : decode cX10_order 41 = .ok (.istore 4, 2) := by decide +kernel
theorem dX10_order_43 : decode cX10_order 43 = .ok (.iload_n 2, 1) := by decide +kernel
theorem dX10_order_44 : decode cX10_order 44 = .ok (.iconst (-1), 1) := by decide +kernel
theorem dX10_order_45 : decode cX10_order 45 = .ok (.if_icmp .ne 16, 3) := by decide +kernel
theorem dX10_order_48 : decode cX10_order 48 = .ok (.aload_n 0, 1) := by decide +kernel
theorem dX10_order_49 : decode cX10_order 49 = .ok (.getfield 55, 3) := by decide +kernel
theorem dX10_order_52 : decode cX10_order 52 = .ok (.getfield 408, 3) := by decide +kernel
theorem dX10_order_55 : decode cX10_order 55 = .ok (.iload 4, 2) := by decide +kernel
theorem dX10_order_57 : decode cX10_order 57 = .ok (.iaload, 1) := by decide +kernel
theorem dX10_order_58 : decode cX10_order 58 = .ok (.goto 13, 3) := by decide +kernel
theorem dX10_order_61 : decode cX10_order 61 = .ok (.aload_n 0, 1) := by decide +kernel
theorem dX10_order_62 : decode cX10_order 62 = .ok (.getfield 55, 3) := by decide +kernel
theorem dX10_order_65 : decode cX10_order 65 = .ok (.iload 4, 2) := by decide +kernel
theorem dX10_order_67 : decode cX10_order 67 = .ok (.iload_n 2, 1) := by decide +kernel
theorem dX10_order_68 : decode cX10_order 68 = .ok (.invokevirtual 410, 3) := by decide +kernel
theorem dX10_order_71 : decode cX10_order 71 = .ok (.ireturn, 1) := by decide +kernel
theorem dX10_fits_0 : decode cX10_fits 0 = .ok (.aload_n 0, 1) := by decide +kernel
theorem dX10_fits_1 : decode cX10_fits 1 = .ok (.iload_n 1, 1) := by decide +kernel
theorem dX10_fits_2 : decode cX10_fits 2 = .ok (.invokevirtual 124, 3) := by decide +kernel
theorem dX10_fits_5 : decode cX10_fits 5 = .ok (.astore 4, 2) := by decide +kernel
theorem dX10_fits_7 : decode cX10_fits 7 = .ok (.aload_n 0, 1) := by decide +kernel
theorem dX10_fits_8 : decode cX10_fits 8 = .ok (.iload_n 2, 1) := by decide +kernel
theorem dX10_fits_9 : decode cX10_fits 9 = .ok (.invokevirtual 152, 3) := by decide +kernel
theorem dX10_fits_12 : decode cX10_fits 12 = .ok (.astore 5, 2) := by decide +kernel
theorem dX10_fits_14 : decode cX10_fits 14 = .ok (.aload 4, 2) := by decide +kernel
theorem dX10_fits_16 : decode cX10_fits 16 = .ok (.ifnull 8, 3) := by decide +kernel
theorem dX10_fits_19 : decode cX10_fits 19 = .ok (.aload 5, 2) := by decide +kernel
theorem dX10_fits_21 : decode cX10_fits 21 = .ok (.ifnonnull 6, 3) := by decide +kernel
theorem dX10_fits_24 : decode cX10_fits 24 = .ok (.bipush (-2), 2) := by decide +kernel
theorem dX10_fits_26 : decode cX10_fits 26 = .ok (.ireturn, 1) := by decide +kernel
theorem dX10_fits_27 : decode cX10_fits 27 = .ok (.aload_n 0, 1) := by decide +kernel
theorem dX10_fits_28 : decode cX10_fits 28 = .ok (.getfield 55, 3) := by decide +kernel
theorem dX10_fits_31 : decode cX10_fits 31 = .ok (.iload_n 1, 1) := by decide +kernel
theorem dX10_fits_32 : decode cX10_fits 32 = .ok (.aload 4, 2) := by decide +kernel
theorem dX10_fits_34 : decode cX10_fits 34 = .ok (.invokevirtual 401, 3) := by decide +kernel
theorem dX10_fits_37 : decode cX10_fits 37 = .ok (.aload_n 0, 1) := by decide +kernel
theorem dX10_fits_38 : decode cX10_fits 38 = .ok (.getfield 55, 3) := by decide +kernel
theorem dX10_fits_41 : decode cX10_fits 41 = .ok (.aload 5, 2) := by decide +kernel
theorem dX10_fits_43 : decode cX10_fits 43 = .ok (.invokevirtual 413, 3) := by decide +kernel
theorem dX10_fits_46 : decode cX10_fits 46 = .ok (.iload_n 3, 1) := by decide +kernel
theorem dX10_fits_47 : decode cX10_fits 47 = .ok (.ifCond .ne 11, 3) := by decide +kernel
theorem dX10_fits_50 : decode cX10_fits 50 = .ok (.aload_n 0, 1) := by decide +kernel
theorem dX10_fits_51 : decode cX10_fits 51 = .ok (.getfield 55, 3) := by decide +kernel
theorem dX10_fits_54 : decode cX10_fits 54 = .ok (.getfield 417, 3) := by decide +kernel
theorem dX10_fits_57 : decode cX10_fits 57 = .ok (.ireturn, 1) := by decide +kernel
theorem dX10_fits_58 : decode cX10_fits 58 = .ok (.iload_n 3, 1) := by decide +kernel
theorem dX10_fits_59 : decode cX10_fits 59 = .ok (.iconst 1, 1) := by decide +kernel
theorem dX10_fits_60 : decode cX10_fits 60 = .ok (.if_icmp .ne 15, 3) := by decide +kernel
theorem dX10_fits_63 : decode cX10_fits 63 = .ok (.aload_n 0, 1) := by decide +kernel
theorem dX10_fits_64 : decode cX10_fits 64 = .ok (.getfield 55, 3) := by decide +kernel
theorem dX10_fits_67 : decode cX10_fits 67 = .ok (.aload_n 0, 1) := by decide +kernel
theorem dX10_fits_68 : decode cX10_fits 68 = .ok (.getfield 66, 3) := by decide +kernel
theorem dX10_fits_71 : decode cX10_fits 71 = .ok (.invokevirtual 420, 3) := by decide +kernel
theorem dX10_fits_74 : decode cX10_fits 74 = .ok (.ireturn, 1) := by decide +kernel
theorem dX10_fits_75 : decode cX10_fits 75 = .ok (.iload_n 3, 1) := by decide +kernel
theorem dX10_fits_76 : decode cX10_fits 76 = .ok (.iconst 2, 1) := by decide +kernel
theorem dX10_fits_77 : decode cX10_fits 77 = .ok (.if_icmp .lt 20, 3) := by decide +kernel
theorem dX10_fits_80 : decode cX10_fits 80 = .ok (.iload_n 3, 1) := by decide +kernel
theorem dX10_fits_81 : decode cX10_fits 81 = .ok (.bipush 8, 2) := by decide +kernel
theorem dX10_fits_83 : decode cX10_fits 83 = .ok (.if_icmp .ge 14, 3) := by decide +kernel
theorem dX10_fits_86 : decode cX10_fits 86 = .ok (.aload_n 0, 1) := by decide +kernel
theorem dX10_fits_87 : decode cX10_fits 87 = .ok (.getfield 55, 3) := by decide +kernel
theorem dX10_fits_90 : decode cX10_fits 90 = .ok (.iload_n 3, 1) := by decide +kernel
theorem dX10_fits_91 : decode cX10_fits 91 = .ok (.iconst 2, 1) := by decide +kernel
theorem dX10_fits_92 : decode cX10_fits 92 = .ok (.isub, 1) := by decide +kernel
theorem dX10_fits_93 : decode cX10_fits 93 = .ok (.invokevirtual 424, 3) := by decide +kernel
theorem dX10_fits_96 : decode cX10_fits 96 = .ok (.ireturn, 1) := by decide +kernel
theorem dX10_fits_97 : decode cX10_fits 97 = .ok (.iload_n 3, 1) := by decide +kernel
theorem dX10_fits_98 : decode cX10_fits 98 = .ok (.bipush 10, 2) := by decide +kernel
theorem dX10_fits_100 : decode cX10_fits 100 = .ok (.isub, 1) := by decide +kernel
theorem dX10_fits_101 : decode cX10_fits 101 = .ok (.istore 6, 2) := by decide +kernel
theorem dX10_fits_103 : decode cX10_fits 103 = .ok (.iload 6, 2) := by decide +kernel
theorem dX10_fits_105 : decode cX10_fits 105 = .ok (.ifCond .lt 15, 3) := by decide +kernel
theorem dX10_fits_108 : decode cX10_fits 108 = .ok (.iload 6, 2) := by decide +kernel
theorem dX10_fits_110 : decode cX10_fits 110 = .ok (.aload_n 0, 1) := by decide +kernel
theorem dX10_fits_111 : decode cX10_fits 111 = .ok (.getfield 55, 3) := by decide +kernel
theorem dX10_fits_114 : decode cX10_fits 114 = .ok (.getfield 417, 3) := by decide +kernel
theorem dX10_fits_117 : decode cX10_fits 117 = .ok (.if_icmp .lt 8, 3) := by decide +kernel
theorem dX10_fits_120 : decode cX10_fits 120 = .ok (.bipush (-2), 2) := by decide +kernel
theorem dX10_fits_122 : decode cX10_fits 122 = .ok (.goto 21, 3) := by decide +kernel
theorem dX10_fits_125 : decode cX10_fits 125 = .ok (.aload_n 0, 1) := by decide +kernel
theorem dX10_fits_126 : decode cX10_fits 126 = .ok (.getfield 55, 3) := by decide +kernel
theorem dX10_fits_129 : decode cX10_fits 129 = .ok (.getfield 427, 3) := by decide +kernel
theorem dX10_fits_132 : decode cX10_fits 132 = .ok (.aload_n 0, 1) := by decide +kernel
theorem dX10_fits_133 : decode cX10_fits 133 = .ok (.getfield 55, 3) := by decide +kernel
theorem dX10_fits_136 : decode cX10_fits 136 = .ok (.getfield 430, 3) := by decide +kernel
theorem dX10_fits_139 : decode cX10_fits 139 = .ok (.iload 6, 2) := by decide +kernel
theorem dX10_fits_141 : decode cX10_fits 141 = .ok (.iaload, 1) := by decide +kernel
theorem dX10_fits_142 : decode cX10_fits 142 = .ok (.iaload, 1) := by decide +kernel
theorem dX10_fits_143 : decode cX10_fits 143 = .ok (.ireturn, 1) := by decide +kernel
theorem dX10_ahead_0 : decode cX10_ahead 0 = .ok (.aload_n 0, 1) := by decide +kernel
theorem dX10_ahead_1 : decode cX10_ahead 1 = .ok (.iload_n 1, 1) := by decide +kernel
theorem dX10_ahead_2 : decode cX10_ahead 2 = .ok (.invokevirtual 124, 3) := by decide +kernel
theorem dX10_ahead_5 : decode cX10_ahead 5 = .ok (.astore 6, 2) := by decide +kernel
theorem dX10_ahead_7 : decode cX10_ahead 7 = .ok (.aload_n 0, 1) := by decide +kernel
theorem dX10_ahead_8 : decode cX10_ahead 8 = .ok (.iload_n 2, 1) := by decide +kernel
theorem dX10_ahead_9 : decode cX10_ahead 9 = .ok (.invokevirtual 152, 3) := by decide +kernel
theorem dX10_ahead_12 : decode cX10_ahead 12 = .ok (.astore 7, 2) := by decide +kernel
theorem dX10_ahead_14 : decode cX10_ahead 14 = .ok (.aload 6, 2) := by decide +kernel
theorem dX10_ahead_16 : decode cX10_ahead 16 = .ok (.ifnull 42, 3) := by decide +kernel
theorem dX10_ahead_19 : decode cX10_ahead 19 = .ok (.aload 7, 2) := by decide +kernel
theorem dX10_ahead_21 : decode cX10_ahead 21 = .ok (.ifnull 37, 3) := by decide +kernel
theorem dX10_ahead_24 : decode cX10_ahead 24 = .ok (.iload_n 3, 1) := by decide +kernel
theorem dX10_ahead_25 : decode cX10_ahead 25 = .ok (.iload 4, 2) := by decide +kernel
theorem dX10_ahead_27 : decode cX10_ahead 27 = .ok (.if_icmp .eq 31, 3) := by decide +kernel
theorem dX10_ahead_30 : decode cX10_ahead 30 = .ok (.iload_n 3, 1) := by decide +kernel
theorem dX10_ahead_31 : decode cX10_ahead 31 = .ok (.ifCond .lt 27, 3) := by decide +kernel
theorem dX10_ahead_34 : decode cX10_ahead 34 = .ok (.iload 4, 2) := by decide +kernel
theorem dX10_ahead_36 : decode cX10_ahead 36 = .ok (.ifCond .lt 22, 3) := by decide +kernel
theorem dX10_ahead_39 : decode cX10_ahead 39 = .ok (.iload_n 3, 1) := by decide +kernel
theorem dX10_ahead_40 : decode cX10_ahead 40 = .ok (.aload 6, 2) := by decide +kernel
theorem dX10_ahead_42 : decode cX10_ahead 42 = .ok (.getfield 245, 3) := by decide +kernel
theorem dX10_ahead_45 : decode cX10_ahead 45 = .ok (.if_icmp .ge 13, 3) := by decide +kernel
theorem dX10_ahead_48 : decode cX10_ahead 48 = .ok (.iload 4, 2) := by decide +kernel
theorem dX10_ahead_50 : decode cX10_ahead 50 = .ok (.aload 6, 2) := by decide +kernel
theorem dX10_ahead_52 : decode cX10_ahead 52 = .ok (.getfield 245, 3) := by decide +kernel
theorem dX10_ahead_55 : decode cX10_ahead 55 = .ok (.if_icmp .lt 5, 3) := by decide +kernel
theorem dX10_ahead_58 : decode cX10_ahead 58 = .ok (.iconst (-1), 1) := by decide +kernel
theorem dX10_ahead_59 : decode cX10_ahead 59 = .ok (.ireturn, 1) := by decide +kernel
theorem dX10_ahead_60 : decode cX10_ahead 60 = .ok (.aload_n 0, 1) := by decide +kernel
theorem dX10_ahead_61 : decode cX10_ahead 61 = .ok (.getfield 55, 3) := by decide +kernel
theorem dX10_ahead_64 : decode cX10_ahead 64 = .ok (.iload_n 1, 1) := by decide +kernel
theorem dX10_ahead_65 : decode cX10_ahead 65 = .ok (.aload 6, 2) := by decide +kernel
theorem dX10_ahead_67 : decode cX10_ahead 67 = .ok (.invokevirtual 401, 3) := by decide +kernel
theorem dX10_ahead_70 : decode cX10_ahead 70 = .ok (.aload_n 0, 1) := by decide +kernel
theorem dX10_ahead_71 : decode cX10_ahead 71 = .ok (.getfield 55, 3) := by decide +kernel
theorem dX10_ahead_74 : decode cX10_ahead 74 = .ok (.aload 7, 2) := by decide +kernel
theorem dX10_ahead_76 : decode cX10_ahead 76 = .ok (.invokevirtual 413, 3) := by decide +kernel
theorem dX10_ahead_79 : decode cX10_ahead 79 = .ok (.aload_n 0, 1) := by decide +kernel
theorem dX10_ahead_80 : decode cX10_ahead 80 = .ok (.getfield 55, 3) := by decide +kernel
theorem dX10_ahead_83 : decode cX10_ahead 83 = .ok (.getfield 417, 3) := by decide +kernel
theorem dX10_ahead_86 : decode cX10_ahead 86 = .ok (.ifCond .ne 5, 3) := by decide +kernel
theorem dX10_ahead_89 : decode cX10_ahead 89 = .ok (.iconst (-1), 1) := by decide +kernel
theorem dX10_ahead_90 : decode cX10_ahead 90 = .ok (.ireturn, 1) := by decide +kernel
theorem dX10_ahead_91 : decode cX10_ahead 91 = .ok (.aload_n 0, 1) := by decide +kernel
theorem dX10_ahead_92 : decode cX10_ahead 92 = .ok (.getfield 55, 3) := by decide +kernel
theorem dX10_ahead_95 : decode cX10_ahead 95 = .ok (.iload_n 3, 1) := by decide +kernel
theorem dX10_ahead_96 : decode cX10_ahead 96 = .ok (.iload 4, 2) := by decide +kernel
theorem dX10_ahead_98 : decode cX10_ahead 98 = .ok (.invokevirtual 433, 3) := by decide +kernel
theorem dX10_ahead_101 : decode cX10_ahead 101 = .ok (.i2l, 1) := by decide +kernel
theorem dX10_ahead_102 : decode cX10_ahead 102 = .ok (.aload_n 0, 1) := by decide +kernel
theorem dX10_ahead_103 : decode cX10_ahead 103 = .ok (.getfield 55, 3) := by decide +kernel
theorem dX10_ahead_106 : decode cX10_ahead 106 = .ok (.getfield 417, 3) := by decide +kernel
theorem dX10_ahead_109 : decode cX10_ahead 109 = .ok (.i2l, 1) := by decide +kernel
theorem dX10_ahead_110 : decode cX10_ahead 110 = .ok (.iload 5, 2) := by decide +kernel
theorem dX10_ahead_112 : decode cX10_ahead 112 = .ok (.invokestatic 436, 3) := by decide +kernel
theorem dX10_ahead_115 : decode cX10_ahead 115 = .ok (.l2i, 1) := by decide +kernel
theorem dX10_ahead_116 : decode cX10_ahead 116 = .ok (.ireturn, 1) := by decide +kernel
theorem dX10_firsts_0 : decode cX10_firsts 0 = .ok (.aload_n 0, 1) := by decide +kernel
theorem dX10_firsts_1 : decode cX10_firsts 1 = .ok (.iload_n 1, 1) := by decide +kernel
theorem dX10_firsts_2 : decode cX10_firsts 2 = .ok (.invokevirtual 124, 3) := by decide +kernel
theorem dX10_firsts_5 : decode cX10_firsts 5 = .ok (.astore 4, 2) := by decide +kernel
theorem dX10_firsts_7 : decode cX10_firsts 7 = .ok (.aload_n 0, 1) := by decide +kernel
theorem dX10_firsts_8 : decode cX10_firsts 8 = .ok (.iload_n 2, 1) := by decide +kernel
theorem dX10_firsts_9 : decode cX10_firsts 9 = .ok (.invokevirtual 152, 3) := by decide +kernel
theorem dX10_firsts_12 : decode cX10_firsts 12 = .ok (.astore 5, 2) := by decide +kernel
theorem dX10_firsts_14 : decode cX10_firsts 14 = .ok (.aload 4, 2) := by decide +kernel
theorem dX10_firsts_16 : decode cX10_firsts 16 = .ok (.ifnull 8, 3) := by decide +kernel
theorem dX10_firsts_19 : decode cX10_firsts 19 = .ok (.aload 5, 2) := by decide +kernel
theorem dX10_firsts_21 : decode cX10_firsts 21 = .ok (.ifnonnull 6, 3) := by decide +kernel
theorem dX10_firsts_24 : decode cX10_firsts 24 = .ok (.bipush (-2), 2) := by decide +kernel
theorem dX10_firsts_26 : decode cX10_firsts 26 = .ok (.ireturn, 1) := by decide +kernel
theorem dX10_firsts_27 : decode cX10_firsts 27 = .ok (.aload_n 0, 1) := by decide +kernel
theorem dX10_firsts_28 : decode cX10_firsts 28 = .ok (.getfield 55, 3) := by decide +kernel
theorem dX10_firsts_31 : decode cX10_firsts 31 = .ok (.iload_n 1, 1) := by decide +kernel
theorem dX10_firsts_32 : decode cX10_firsts 32 = .ok (.aload 4, 2) := by decide +kernel
theorem dX10_firsts_34 : decode cX10_firsts 34 = .ok (.invokevirtual 401, 3) := by decide +kernel
theorem dX10_firsts_37 : decode cX10_firsts 37 = .ok (.aload_n 0, 1) := by decide +kernel
theorem dX10_firsts_38 : decode cX10_firsts 38 = .ok (.getfield 55, 3) := by decide +kernel
theorem dX10_firsts_41 : decode cX10_firsts 41 = .ok (.aload 5, 2) := by decide +kernel
theorem dX10_firsts_43 : decode cX10_firsts 43 = .ok (.invokevirtual 413, 3) := by decide +kernel
theorem dX10_firsts_46 : decode cX10_firsts 46 = .ok (.iload_n 3, 1) := by decide +kernel
theorem dX10_firsts_47 : decode cX10_firsts 47 = .ok (.tableswitch 69 0 3 #[29, 38, 53, 61], 29) := by decide +kernel
theorem dX10_firsts_76 : decode cX10_firsts 76 = .ok (.aload_n 0, 1) := by decide +kernel
theorem dX10_firsts_77 : decode cX10_firsts 77 = .ok (.getfield 55, 3) := by decide +kernel
theorem dX10_firsts_80 : decode cX10_firsts 80 = .ok (.iconst 0, 1) := by decide +kernel
theorem dX10_firsts_81 : decode cX10_firsts 81 = .ok (.invokevirtual 440, 3) := by decide +kernel
theorem dX10_firsts_84 : decode cX10_firsts 84 = .ok (.ireturn, 1) := by decide +kernel
theorem dX10_firsts_85 : decode cX10_firsts 85 = .ok (.aload_n 0, 1) := by decide +kernel
theorem dX10_firsts_86 : decode cX10_firsts 86 = .ok (.getfield 55, 3) := by decide +kernel
theorem dX10_firsts_89 : decode cX10_firsts 89 = .ok (.aload 4, 2) := by decide +kernel
theorem dX10_firsts_91 : decode cX10_firsts 91 = .ok (.getfield 245, 3) := by decide +kernel
theorem dX10_firsts_94 : decode cX10_firsts 94 = .ok (.iconst 1, 1) := by decide +kernel
theorem dX10_firsts_95 : decode cX10_firsts 95 = .ok (.isub, 1) := by decide +kernel
theorem dX10_firsts_96 : decode cX10_firsts 96 = .ok (.invokevirtual 440, 3) := by decide +kernel
theorem dX10_firsts_99 : decode cX10_firsts 99 = .ok (.ireturn, 1) := by decide +kernel
theorem dX10_firsts_100 : decode cX10_firsts 100 = .ok (.aload_n 0, 1) := by decide +kernel
theorem dX10_firsts_101 : decode cX10_firsts 101 = .ok (.getfield 55, 3) := by decide +kernel
theorem dX10_firsts_104 : decode cX10_firsts 104 = .ok (.invokevirtual 443, 3) := by decide +kernel
theorem dX10_firsts_107 : decode cX10_firsts 107 = .ok (.ireturn, 1) := by decide +kernel
theorem dX10_firsts_108 : decode cX10_firsts 108 = .ok (.aload_n 0, 1) := by decide +kernel
theorem dX10_firsts_109 : decode cX10_firsts 109 = .ok (.getfield 55, 3) := by decide +kernel
theorem dX10_firsts_112 : decode cX10_firsts 112 = .ok (.invokevirtual 446, 3) := by decide +kernel
theorem dX10_firsts_115 : decode cX10_firsts 115 = .ok (.ireturn, 1) := by decide +kernel
theorem dX10_firsts_116 : decode cX10_firsts 116 = .ok (.bipush (-2), 2) := by decide +kernel
theorem dX10_firsts_118 : decode cX10_firsts 118 = .ok (.ireturn, 1) := by decide +kernel
theorem dX10_come_0 : decode cX10_come 0 = .ok (.aload_n 0, 1) := by decide +kernel
theorem dX10_come_1 : decode cX10_come 1 = .ok (.iload_n 1, 1) := by decide +kernel
theorem dX10_come_2 : decode cX10_come 2 = .ok (.invokevirtual 124, 3) := by decide +kernel
theorem dX10_come_5 : decode cX10_come 5 = .ok (.astore 5, 2) := by decide +kernel
theorem dX10_come_7 : decode cX10_come 7 = .ok (.aload 5, 2) := by decide +kernel
theorem dX10_come_9 : decode cX10_come 9 = .ok (.ifnull 22, 3) := by decide +kernel
theorem dX10_come_12 : decode cX10_come 12 = .ok (.iload_n 2, 1) := by decide +kernel
theorem dX10_come_13 : decode cX10_come 13 = .ok (.ifCond .lt 18, 3) := by decide +kernel
theorem dX10_come_16 : decode cX10_come 16 = .ok (.iload_n 2, 1) := by decide +kernel
theorem dX10_come_17 : decode cX10_come 17 = .ok (.bipush 10, 2) := by decide +kernel
theorem dX10_come_19 : decode cX10_come 19 = .ok (.if_icmp .gt 12, 3) := by decide +kernel
theorem dX10_come_22 : decode cX10_come 22 = .ok (.iload_n 3, 1) := by decide +kernel
theorem dX10_come_23 : decode cX10_come 23 = .ok (.ifCond .lt 8, 3) := by decide +kernel
theorem dX10_come_26 : decode cX10_come 26 = .ok (.iload_n 3, 1) := by decide +kernel
theorem dX10_come_27 : decode cX10_come 27 = .ok (.iconst 3, 1) := by decide +kernel
theorem dX10_come_28 : decode cX10_come 28 = .ok (.if_icmp .le 7, 3) := by decide +kernel
theorem dX10_come_31 : decode cX10_come 31 = .ok (.ldc2_w 449, 3) := by decide +kernel
theorem dX10_come_34 : decode cX10_come 34 = .ok (.lreturn, 1) := by decide +kernel
theorem dX10_come_35 : decode cX10_come 35 = .ok (.lconst 1, 1) := by decide +kernel
theorem dX10_come_36 : decode cX10_come 36 = .ok (.lstore 6, 2) := by decide +kernel
theorem dX10_come_38 : decode cX10_come 38 = .ok (.lconst 1, 1) := by decide +kernel
theorem dX10_come_39 : decode cX10_come 39 = .ok (.lstore 8, 2) := by decide +kernel
theorem dX10_come_41 : decode cX10_come 41 = .ok (.iconst 0, 1) := by decide +kernel
theorem dX10_come_42 : decode cX10_come 42 = .ok (.istore 10, 2) := by decide +kernel
theorem dX10_come_44 : decode cX10_come 44 = .ok (.iload 10, 2) := by decide +kernel
theorem dX10_come_46 : decode cX10_come 46 = .ok (.iload_n 3, 1) := by decide +kernel
theorem dX10_come_47 : decode cX10_come 47 = .ok (.if_icmp .ge 27, 3) := by decide +kernel
theorem dX10_come_50 : decode cX10_come 50 = .ok (.lload 6, 2) := by decide +kernel
theorem dX10_come_52 : decode cX10_come 52 = .ok (.ldc2_w 451, 3) := by decide +kernel
theorem dX10_come_55 : decode cX10_come 55 = .ok (.lmul, 1) := by decide +kernel
theorem dX10_come_56 : decode cX10_come 56 = .ok (.lstore 6, 2) := by decide +kernel
theorem dX10_come_58 : decode cX10_come 58 = .ok (.lload 8, 2) := by decide +kernel
theorem dX10_come_60 : decode cX10_come 60 = .ok (.bipush 10, 2) := by decide +kernel
theorem dX10_come_62 : decode cX10_come 62 = .ok (.iload_n 2, 1) := by decide +kernel
theorem dX10_come_63 : decode cX10_come 63 = .ok (.isub, 1) := by decide +kernel
theorem dX10_come_64 : decode cX10_come 64 = .ok (.i2l, 1) := by decide +kernel
theorem dX10_come_65 : decode cX10_come 65 = .ok (.lmul, 1) := by decide +kernel
theorem dX10_come_66 : decode cX10_come 66 = .ok (.lstore 8, 2) := by decide +kernel
theorem dX10_come_68 : decode cX10_come 68 = .ok (.iinc 10 1, 3) := by decide +kernel
theorem dX10_come_71 : decode cX10_come 71 = .ok (.goto (-27), 3) := by decide +kernel
theorem dX10_come_74 : decode cX10_come 74 = .ok (.lload 6, 2) := by decide +kernel
theorem dX10_come_76 : decode cX10_come 76 = .ok (.lload 8, 2) := by decide +kernel
theorem dX10_come_78 : decode cX10_come 78 = .ok (.lsub, 1) := by decide +kernel
theorem dX10_come_79 : decode cX10_come 79 = .ok (.lload 6, 2) := by decide +kernel
theorem dX10_come_81 : decode cX10_come 81 = .ok (.iload 4, 2) := by decide +kernel
theorem dX10_come_83 : decode cX10_come 83 = .ok (.invokestatic 436, 3) := by decide +kernel
theorem dX10_come_86 : decode cX10_come 86 = .ok (.lstore 10, 2) := by decide +kernel
theorem dX10_come_88 : decode cX10_come 88 = .ok (.lconst 1, 1) := by decide +kernel
theorem dX10_come_89 : decode cX10_come 89 = .ok (.lstore 12, 2) := by decide +kernel
theorem dX10_come_91 : decode cX10_come 91 = .ok (.iconst 0, 1) := by decide +kernel
theorem dX10_come_92 : decode cX10_come 92 = .ok (.istore 14, 2) := by decide +kernel
theorem dX10_come_94 : decode cX10_come 94 = .ok (.iload 14, 2) := by decide +kernel
theorem dX10_come_96 : decode cX10_come 96 = .ok (.aload 5, 2) := by decide +kernel
theorem dX10_come_98 : decode cX10_come 98 = .ok (.getfield 245, 3) := by decide +kernel
theorem dX10_come_101 : decode cX10_come 101 = .ok (.if_icmp .ge 16, 3) := by decide +kernel
theorem dX10_come_104 : decode cX10_come 104 = .ok (.lload 12, 2) := by decide +kernel
theorem dX10_come_106 : decode cX10_come 106 = .ok (.lload 10, 2) := by decide +kernel
theorem dX10_come_108 : decode cX10_come 108 = .ok (.lmul, 1) := by decide +kernel
theorem dX10_come_109 : decode cX10_come 109 = .ok (.lstore 12, 2) := by decide +kernel
theorem dX10_come_111 : decode cX10_come 111 = .ok (.iinc 14 1, 3) := by decide +kernel
theorem dX10_come_114 : decode cX10_come 114 = .ok (.goto (-20), 3) := by decide +kernel
theorem dX10_come_117 : decode cX10_come 117 = .ok (.lload 12, 2) := by decide +kernel
theorem dX10_come_119 : decode cX10_come 119 = .ok (.lreturn, 1) := by decide +kernel
theorem dX10_inLeast_0 : decode cX10_inLeast 0 = .ok (.lload_n 2, 1) := by decide +kernel
theorem dX10_inLeast_1 : decode cX10_inLeast 1 = .ok (.lstore 5, 2) := by decide +kernel
theorem dX10_inLeast_3 : decode cX10_inLeast 3 = .ok (.lload_n 0, 1) := by decide +kernel
theorem dX10_inLeast_4 : decode cX10_inLeast 4 = .ok (.lstore 7, 2) := by decide +kernel
theorem dX10_inLeast_6 : decode cX10_inLeast 6 = .ok (.iconst 0, 1) := by decide +kernel
theorem dX10_inLeast_7 : decode cX10_inLeast 7 = .ok (.istore 9, 2) := by decide +kernel
theorem dX10_inLeast_9 : decode cX10_inLeast 9 = .ok (.iload 9, 2) := by decide +kernel
theorem dX10_inLeast_11 : decode cX10_inLeast 11 = .ok (.bipush 100, 2) := by decide +kernel
theorem dX10_inLeast_13 : decode cX10_inLeast 13 = .ok (.if_icmp .ge 31, 3) := by decide +kernel
theorem dX10_inLeast_16 : decode cX10_inLeast 16 = .ok (.lload 7, 2) := by decide +kernel
theorem dX10_inLeast_18 : decode cX10_inLeast 18 = .ok (.lconst 0, 1) := by decide +kernel
theorem dX10_inLeast_19 : decode cX10_inLeast 19 = .ok (.lcmp, 1) := by decide +kernel
theorem dX10_inLeast_20 : decode cX10_inLeast 20 = .ok (.ifCond .eq 24, 3) := by decide +kernel
theorem dX10_inLeast_23 : decode cX10_inLeast 23 = .ok (.lload 5, 2) := by decide +kernel
theorem dX10_inLeast_25 : decode cX10_inLeast 25 = .ok (.lload 7, 2) := by decide +kernel
theorem dX10_inLeast_27 : decode cX10_inLeast 27 = .ok (.lrem, 1) := by decide +kernel
theorem dX10_inLeast_28 : decode cX10_inLeast 28 = .ok (.lstore 10, 2) := by decide +kernel
theorem dX10_inLeast_30 : decode cX10_inLeast 30 = .ok (.lload 7, 2) := by decide +kernel
theorem dX10_inLeast_32 : decode cX10_inLeast 32 = .ok (.lstore 5, 2) := by decide +kernel
theorem dX10_inLeast_34 : decode cX10_inLeast 34 = .ok (.lload 10, 2) := by decide +kernel
theorem dX10_inLeast_36 : decode cX10_inLeast 36 = .ok (.lstore 7, 2) := by decide +kernel
theorem dX10_inLeast_38 : decode cX10_inLeast 38 = .ok (.iinc 9 1, 3) := by decide +kernel
theorem dX10_inLeast_41 : decode cX10_inLeast 41 = .ok (.goto (-32), 3) := by decide +kernel
theorem dX10_inLeast_44 : decode cX10_inLeast 44 = .ok (.iload 4, 2) := by decide +kernel
theorem dX10_inLeast_46 : decode cX10_inLeast 46 = .ok (.ifCond .eq 7, 3) := by decide +kernel
theorem dX10_inLeast_49 : decode cX10_inLeast 49 = .ok (.lload_n 2, 1) := by decide +kernel
theorem dX10_inLeast_50 : decode cX10_inLeast 50 = .ok (.goto 4, 3) := by decide +kernel
theorem dX10_inLeast_53 : decode cX10_inLeast 53 = .ok (.lload_n 0, 1) := by decide +kernel
theorem dX10_inLeast_54 : decode cX10_inLeast 54 = .ok (.lstore 9, 2) := by decide +kernel
theorem dX10_inLeast_56 : decode cX10_inLeast 56 = .ok (.lload 5, 2) := by decide +kernel
theorem dX10_inLeast_58 : decode cX10_inLeast 58 = .ok (.lconst 0, 1) := by decide +kernel
theorem dX10_inLeast_59 : decode cX10_inLeast 59 = .ok (.lcmp, 1) := by decide +kernel
theorem dX10_inLeast_60 : decode cX10_inLeast 60 = .ok (.ifCond .le 11, 3) := by decide +kernel
theorem dX10_inLeast_63 : decode cX10_inLeast 63 = .ok (.lload 9, 2) := by decide +kernel
theorem dX10_inLeast_65 : decode cX10_inLeast 65 = .ok (.lload 5, 2) := by decide +kernel
theorem dX10_inLeast_67 : decode cX10_inLeast 67 = .ok (.ldiv, 1) := by decide +kernel
theorem dX10_inLeast_68 : decode cX10_inLeast 68 = .ok (.goto 5, 3) := by decide +kernel
theorem dX10_inLeast_71 : decode cX10_inLeast 71 = .ok (.lload 9, 2) := by decide +kernel
theorem dX10_inLeast_73 : decode cX10_inLeast 73 = .ok (.lreturn, 1) := by decide +kernel
theorem dX10_wordAt_0 : decode cX10_wordAt 0 = .ok (.iload_n 0, 1) := by decide +kernel
theorem dX10_wordAt_1 : decode cX10_wordAt 1 = .ok (.iconst 4, 1) := by decide +kernel
theorem dX10_wordAt_2 : decode cX10_wordAt 2 = .ok (.iload_n 1, 1) := by decide +kernel
theorem dX10_wordAt_3 : decode cX10_wordAt 3 = .ok (.imul, 1) := by decide +kernel
theorem dX10_wordAt_4 : decode cX10_wordAt 4 = .ok (.iushr, 1) := by decide +kernel
theorem dX10_wordAt_5 : decode cX10_wordAt 5 = .ok (.bipush 15, 2) := by decide +kernel
theorem dX10_wordAt_7 : decode cX10_wordAt 7 = .ok (.iand, 1) := by decide +kernel
theorem dX10_wordAt_8 : decode cX10_wordAt 8 = .ok (.ireturn, 1) := by decide +kernel
theorem dX10_put_0 : decode cX10_put 0 = .ok (.iload_n 0, 1) := by decide +kernel
theorem dX10_put_1 : decode cX10_put 1 = .ok (.bipush 15, 2) := by decide +kernel
theorem dX10_put_3 : decode cX10_put 3 = .ok (.iconst 4, 1) := by decide +kernel
theorem dX10_put_4 : decode cX10_put 4 = .ok (.iload_n 1, 1) := by decide +kernel
theorem dX10_put_5 : decode cX10_put 5 = .ok (.imul, 1) := by decide +kernel
theorem dX10_put_6 : decode cX10_put 6 = .ok (.ishl, 1) := by decide +kernel
theorem dX10_put_7 : decode cX10_put 7 = .ok (.iconst (-1), 1) := by decide +kernel
theorem dX10_put_8 : decode cX10_put 8 = .ok (.ixor, 1) := by decide +kernel
theorem dX10_put_9 : decode cX10_put 9 = .ok (.iand, 1) := by decide +kernel
theorem dX10_put_10 : decode cX10_put 10 = .ok (.iload_n 2, 1) := by decide +kernel
theorem dX10_put_11 : decode cX10_put 11 = .ok (.bipush 15, 2) := by decide +kernel
theorem dX10_put_13 : decode cX10_put 13 = .ok (.iand, 1) := by decide +kernel
theorem dX10_put_14 : decode cX10_put 14 = .ok (.iconst 4, 1) := by decide +kernel
theorem dX10_put_15 : decode cX10_put 15 = .ok (.iload_n 1, 1) := by decide +kernel
theorem dX10_put_16 : decode cX10_put 16 = .ok (.imul, 1) := by decide +kernel
theorem dX10_put_17 : decode cX10_put 17 = .ok (.ishl, 1) := by decide +kernel
theorem dX10_put_18 : decode cX10_put 18 = .ok (.ior, 1) := by decide +kernel
theorem dX10_put_19 : decode cX10_put 19 = .ok (.ireturn, 1) := by decide +kernel
theorem dX10_unlikePlaces_0 : decode cX10_unlikePlaces 0 = .ok (.iconst 0, 1) := by decide +kernel
theorem dX10_unlikePlaces_1 : decode cX10_unlikePlaces 1 = .ok (.istore_n 2, 1) := by decide +kernel
theorem dX10_unlikePlaces_2 : decode cX10_unlikePlaces 2 = .ok (.iconst 0, 1) := by decide +kernel
theorem dX10_unlikePlaces_3 : decode cX10_unlikePlaces 3 = .ok (.istore_n 3, 1) := by decide +kernel
theorem dX10_unlikePlaces_4 : decode cX10_unlikePlaces 4 = .ok (.iload_n 3, 1) := by decide +kernel
theorem dX10_unlikePlaces_5 : decode cX10_unlikePlaces 5 = .ok (.bipush 8, 2) := by decide +kernel
theorem dX10_unlikePlaces_7 : decode cX10_unlikePlaces 7 = .ok (.if_icmp .ge 28, 3) := by decide +kernel
theorem dX10_unlikePlaces_10 : decode cX10_unlikePlaces 10 = .ok (.iload_n 0, 1) := by decide +kernel
theorem dX10_unlikePlaces_11 : decode cX10_unlikePlaces 11 = .ok (.iload_n 3, 1) := by decide +kernel
theorem dX10_unlikePlaces_12 : decode cX10_unlikePlaces 12 = .ok (.invokestatic 272, 3) := by decide +kernel
theorem dX10_unlikePlaces_15 : decode cX10_unlikePlaces 15 = .ok (.iload_n 1, 1) := by decide +kernel
theorem dX10_unlikePlaces_16 : decode cX10_unlikePlaces 16 = .ok (.iload_n 3, 1) := by decide +kernel
theorem dX10_unlikePlaces_17 : decode cX10_unlikePlaces 17 = .ok (.invokestatic 272, 3) := by decide +kernel
theorem dX10_unlikePlaces_20 : decode cX10_unlikePlaces 20 = .ok (.if_icmp .eq 9, 3) := by decide +kernel
theorem dX10_unlikePlaces_23 : decode cX10_unlikePlaces 23 = .ok (.iload_n 2, 1) := by decide +kernel
theorem dX10_unlikePlaces_24 : decode cX10_unlikePlaces 24 = .ok (.iconst 1, 1) := by decide +kernel
theorem dX10_unlikePlaces_25 : decode cX10_unlikePlaces 25 = .ok (.iload_n 3, 1) := by decide +kernel
theorem dX10_unlikePlaces_26 : decode cX10_unlikePlaces 26 = .ok (.ishl, 1) := by decide +kernel
theorem dX10_unlikePlaces_27 : decode cX10_unlikePlaces 27 = .ok (.ior, 1) := by decide +kernel
theorem dX10_unlikePlaces_28 : decode cX10_unlikePlaces 28 = .ok (.istore_n 2, 1) := by decide +kernel
theorem dX10_unlikePlaces_29 : decode cX10_unlikePlaces 29 = .ok (.iinc 3 1, 3) := by decide +kernel
theorem dX10_unlikePlaces_32 : decode cX10_unlikePlaces 32 = .ok (.goto (-28), 3) := by decide +kernel
theorem dX10_unlikePlaces_35 : decode cX10_unlikePlaces 35 = .ok (.iload_n 2, 1) := by decide +kernel
theorem dX10_unlikePlaces_36 : decode cX10_unlikePlaces 36 = .ok (.ireturn, 1) := by decide +kernel
theorem dX10_isWord_0 : decode cX10_isWord 0 = .ok (.iload_n 0, 1) := by decide +kernel
theorem dX10_isWord_1 : decode cX10_isWord 1 = .ok (.ifCond .lt 13, 3) := by decide +kernel
theorem dX10_isWord_4 : decode cX10_isWord 4 = .ok (.iload_n 0, 1) := by decide +kernel
theorem dX10_isWord_5 : decode cX10_isWord 5 = .ok (.bipush 10, 2) := by decide +kernel
theorem dX10_isWord_7 : decode cX10_isWord 7 = .ok (.if_icmp .ge 7, 3) := by decide +kernel
theorem dX10_isWord_10 : decode cX10_isWord 10 = .ok (.iconst 1, 1) := by decide +kernel
theorem dX10_isWord_11 : decode cX10_isWord 11 = .ok (.goto 4, 3) := by decide +kernel
theorem dX10_isWord_14 : decode cX10_isWord 14 = .ok (.iconst 0, 1) := by decide +kernel
theorem dX10_isWord_15 : decode cX10_isWord 15 = .ok (.ireturn, 1) := by decide +kernel
theorem dX10_copyRow_0 : decode cX10_copyRow 0 = .ok (.aload_n 0, 1) := by decide +kernel
theorem dX10_copyRow_1 : decode cX10_copyRow 1 = .ok (.iconst 0, 1) := by decide +kernel
theorem dX10_copyRow_2 : decode cX10_copyRow 2 = .ok (.aload_n 1, 1) := by decide +kernel
theorem dX10_copyRow_3 : decode cX10_copyRow 3 = .ok (.iconst 0, 1) := by decide +kernel
theorem dX10_copyRow_4 : decode cX10_copyRow 4 = .ok (.aload_n 0, 1) := by decide +kernel
theorem dX10_copyRow_5 : decode cX10_copyRow 5 = .ok (.arraylength, 1) := by decide +kernel
theorem dX10_copyRow_6 : decode cX10_copyRow 6 = .ok (.aload_n 1, 1) := by decide +kernel
theorem dX10_copyRow_7 : decode cX10_copyRow 7 = .ok (.arraylength, 1) := by decide +kernel
theorem dX10_copyRow_8 : decode cX10_copyRow 8 = .ok (.invokestatic 453, 3) := by decide +kernel
theorem dX10_copyRow_11 : decode cX10_copyRow 11 = .ok (.invokestatic 456, 3) := by decide +kernel
theorem dX10_copyRow_14 : decode cX10_copyRow 14 = .ok (.return_, 1) := by decide +kernel

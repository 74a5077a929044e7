theorem dX7_begin_58 : decode cX7_begin 58 = .ok (.iconst 0, 1) := by decide +kernel
theorem dX7_begin_59 : decode cX7_begin 59 = .ok (.putfield 48, 3) := by decide +kernel
theorem dX7_begin_62 : decode cX7_begin 62 = .ok (.aload_n 0, 1) := by decide +kernel
theorem dX7_begin_63 : decode cX7_begin 63 = .ok (.iconst 0, 1) := by decide +kernel
theorem dX7_begin_64 : decode cX7_begin 64 = .ok (.putfield 51, 3) := by decide +kernel
theorem dX7_begin_67 : decode cX7_begin 67 = .ok (.aload_n 0, 1) := by decide +kernel
theorem dX7_begin_68 : decode cX7_begin 68 = .ok (.iconst (-1), 1) := by decide +kernel
theorem dX7_begin_69 : decode cX7_begin 69 = .ok (.putfield 54, 3) := by decide +kernel
theorem dX7_begin_72 : decode cX7_begin 72 = .ok (.aload_n 0, 1) := by decide +kernel
theorem dX7_begin_73 : decode cX7_begin 73 = .ok (.iconst 0, 1) := by decide +kernel
theorem dX7_begin_74 : decode cX7_begin 74 = .ok (.putfield 57, 3) := by decide +kernel
theorem dX7_begin_77 : decode cX7_begin 77 = .ok (.aload_n 0, 1) := by decide +kernel
theorem dX7_begin_78 : decode cX7_begin 78 = .ok (.iconst 0, 1) := by decide +kernel
theorem dX7_begin_79 : decode cX7_begin 79 = .ok (.putfield 60, 3) := by decide +kernel
theorem dX7_begin_82 : decode cX7_begin 82 = .ok (.aload_n 0, 1) := by decide +kernel
theorem dX7_begin_83 : decode cX7_begin 83 = .ok (.iconst 0, 1) := by decide +kernel
theorem dX7_begin_84 : decode cX7_begin 84 = .ok (.putfield 63, 3) := by decide +kernel
theorem dX7_begin_87 : decode cX7_begin 87 = .ok (.return_, 1) := by decide +kernel
theorem dX7_run_0 : decode cX7_run 0 = .ok (.aload_n 0, 1) := by decide +kernel
theorem dX7_run_1 : decode cX7_run 1 = .ok (.aload_n 1, 1) := by decide +kernel
theorem dX7_run_2 : decode cX7_run 2 = .ok (.invokevirtual 66, 3) := by decide +kernel
theorem dX7_run_5 : decode cX7_run 5 = .ok (.iconst 0, 1) := by decide +kernel
theorem dX7_run_6 : decode cX7_run 6 = .ok (.istore 4, 2) := by decide +kernel
theorem dX7_run_8 : decode cX7_run 8 = .ok (.iload 4, 2) := by decide +kernel
theorem dX7_run_10 : decode cX7_run 10 = .ok (.iload_n 3, 1) := by decide +kernel
theorem dX7_run_11 : decode cX7_run 11 = .ok (.if_icmp .ge 70, 3) := by decide +kernel
theorem dX7_run_14 : decode cX7_run 14 = .ok (.iload 4, 2) := by decide +kernel
theorem dX7_run_16 : decode cX7_run 16 = .ok (.aload_n 2, 1) := by decide +kernel
theorem dX7_run_17 : decode cX7_run 17 = .ok (.getfield 70, 3) := by decide +kernel
theorem dX7_run_20 : decode cX7_run 20 = .ok (.if_icmp .ge 61, 3) := by decide +kernel
theorem dX7_run_23 : decode cX7_run 23 = .ok (.aload_n 0, 1) := by decide +kernel
theorem dX7_run_24 : decode cX7_run 24 = .ok (.aload_n 2, 1) := by decide +kernel
theorem dX7_run_25 : decode cX7_run 25 = .ok (.getfield 75, 3) := by decide +kernel
theorem dX7_run_28 : decode cX7_run 28 = .ok (.iload 4, 2) := by decide +kernel
theorem dX7_run_30 : decode cX7_run 30 = .ok (.iaload, 1) := by decide +kernel
theorem dX7_run_31 : decode cX7_run 31 = .ok (.aload_n 2, 1) := by decide +kernel
theorem dX7_run_32 : decode cX7_run 32 = .ok (.getfield 78, 3) := by decide +kernel
theorem dX7_run_35 : decode cX7_run 35 = .ok (.iload 4, 2) := by decide +kernel
theorem dX7_run_37 : decode cX7_run 37 = .ok (.iaload, 1) := by decide +kernel
theorem dX7_run_38 : decode cX7_run 38 = .ok (.aload_n 2, 1) := by decide +kernel
theorem dX7_run_39 : decode cX7_run 39 = .ok (.getfield 81, 3) := by decide +kernel
theorem dX7_run_42 : decode cX7_run 42 = .ok (.iload 4, 2) := by decide +kernel
theorem dX7_run_44 : decode cX7_run 44 = .ok (.iaload, 1) := by decide +kernel
theorem dX7_run_45 : decode cX7_run 45 = .ok (.invokevirtual 84, 3) := by decide +kernel
theorem dX7_run_48 : decode cX7_run 48 = .ok (.ifCond .ne 6, 3) := by decide +kernel
theorem dX7_run_51 : decode cX7_run 51 = .ok (.iload 4, 2) := by decide +kernel
theorem dX7_run_53 : decode cX7_run 53 = .ok (.ireturn, 1) := by decide +kernel
theorem dX7_run_54 : decode cX7_run 54 = .ok (.aload_n 0, 1) := by decide +kernel
theorem dX7_run_55 : decode cX7_run 55 = .ok (.getfield 45, 3) := by decide +kernel
theorem dX7_run_58 : decode cX7_run 58 = .ok (.ifCond .le 17, 3) := by decide +kernel
theorem dX7_run_61 : decode cX7_run 61 = .ok (.aload_n 0, 1) := by decide +kernel
theorem dX7_run_62 : decode cX7_run 62 = .ok (.getfield 54, 3) := by decide +kernel
theorem dX7_run_65 : decode cX7_run 65 = .ok (.iconst (-1), 1) := by decide +kernel
theorem dX7_run_66 : decode cX7_run 66 = .ok (.if_icmp .ne 9, 3) := by decide +kernel
theorem dX7_run_69 : decode cX7_run 69 = .ok (.aload_n 0, 1) := by decide +kernel
theorem dX7_run_70 : decode cX7_run 70 = .ok (.iload 4, 2) := by decide +kernel
theorem dX7_run_72 : decode cX7_run 72 = .ok (.putfield 54, 3) := by decide +kernel
theorem dX7_run_75 : decode cX7_run 75 = .ok (.iinc 4 1, 3) := by decide +kernel
theorem dX7_run_78 : decode cX7_run 78 = .ok (.goto (-70), 3) := by decide +kernel
theorem dX7_run_81 : decode cX7_run 81 = .ok (.iload_n 3, 1) := by decide +kernel
theorem dX7_run_82 : decode cX7_run 82 = .ok (.aload_n 2, 1) := by decide +kernel
theorem dX7_run_83 : decode cX7_run 83 = .ok (.getfield 70, 3) := by decide +kernel
theorem dX7_run_86 : decode cX7_run 86 = .ok (.invokestatic 88, 3) := by decide +kernel
theorem dX7_run_89 : decode cX7_run 89 = .ok (.ireturn, 1) := by decide +kernel
theorem dX7_runWhatMay_0 : decode cX7_runWhatMay 0 = .ok (.aload_n 0, 1) := by decide +kernel
theorem dX7_runWhatMay_1 : decode cX7_runWhatMay 1 = .ok (.aload_n 1, 1) := by decide +kernel
theorem dX7_runWhatMay_2 : decode cX7_runWhatMay 2 = .ok (.invokevirtual 66, 3) := by decide +kernel
theorem dX7_runWhatMay_5 : decode cX7_runWhatMay 5 = .ok (.iconst 0, 1) := by decide +kernel
theorem dX7_runWhatMay_6 : decode cX7_runWhatMay 6 = .ok (.istore_n 3, 1) := by decide +kernel
theorem dX7_runWhatMay_7 : decode cX7_runWhatMay 7 = .ok (.iload_n 3, 1) := by decide +kernel
theorem dX7_runWhatMay_8 : decode cX7_runWhatMay 8 = .ok (.aload_n 2, 1) := by decide +kernel
theorem dX7_runWhatMay_9 : decode cX7_runWhatMay 9 = .ok (.getfield 70, 3) := by decide +kernel
theorem dX7_runWhatMay_12 : decode cX7_runWhatMay 12 = .ok (.if_icmp .ge 32, 3) := by decide +kernel
theorem dX7_runWhatMay_15 : decode cX7_runWhatMay 15 = .ok (.aload_n 0, 1) := by decide +kernel
theorem dX7_runWhatMay_16 : decode cX7_runWhatMay 16 = .ok (.aload_n 2, 1) := by decide +kernel
theorem dX7_runWhatMay_17 : decode cX7_runWhatMay 17 = .ok (.getfield 75, 3) := by decide +kernel
theorem dX7_runWhatMay_20 : decode cX7_runWhatMay 20 = .ok (.iload_n 3, 1) := by decide +kernel
theorem dX7_runWhatMay_21 : decode cX7_runWhatMay 21 = .ok (.iaload, 1) := by decide +kernel
theorem dX7_runWhatMay_22 : decode cX7_runWhatMay 22 = .ok (.aload_n 2, 1) := by decide +kernel
theorem dX7_runWhatMay_23 : decode cX7_runWhatMay 23 = .ok (.getfield 78, 3) := by decide +kernel
theorem dX7_runWhatMay_26 : decode cX7_runWhatMay 26 = .ok (.iload_n 3, 1) := by decide +kernel
theorem dX7_runWhatMay_27 : decode cX7_runWhatMay 27 = .ok (.iaload, 1) := by decide +kernel
theorem dX7_runWhatMay_28 : decode cX7_runWhatMay 28 = .ok (.aload_n 2, 1) := by decide +kernel
theorem dX7_runWhatMay_29 : decode cX7_runWhatMay 29 = .ok (.getfield 81, 3) := by decide +kernel
theorem dX7_runWhatMay_32 : decode cX7_runWhatMay 32 = .ok (.iload_n 3, 1) := by decide +kernel
theorem dX7_runWhatMay_33 : decode cX7_runWhatMay 33 = .ok (.iaload, 1) := by decide +kernel
theorem dX7_runWhatMay_34 : decode cX7_runWhatMay 34 = .ok (.invokevirtual 84, 3) := by decide +kernel
theorem dX7_runWhatMay_37 : decode cX7_runWhatMay 37 = .ok (.pop, 1) := by decide +kernel
theorem dX7_runWhatMay_38 : decode cX7_runWhatMay 38 = .ok (.iinc 3 1, 3) := by decide +kernel
theorem dX7_runWhatMay_41 : decode cX7_runWhatMay 41 = .ok (.goto (-34), 3) := by decide +kernel
theorem dX7_runWhatMay_44 : decode cX7_runWhatMay 44 = .ok (.return_, 1) := by decide +kernel
theorem dX7_can_0 : decode cX7_can 0 = .ok (.iload_n 2, 1) := by decide +kernel
theorem dX7_can_1 : decode cX7_can 1 = .ok (.ifCond .lt 18, 3) := by decide +kernel
theorem dX7_can_4 : decode cX7_can 4 = .ok (.iload_n 2, 1) := by decide +kernel
theorem dX7_can_5 : decode cX7_can 5 = .ok (.aload_n 0, 1) := by decide +kernel
theorem dX7_can_6 : decode cX7_can 6 = .ok (.getfield 12, 3) := by decide +kernel
theorem dX7_can_9 : decode cX7_can 9 = .ok (.getfield 94, 3) := by decide +kernel
theorem dX7_can_12 : decode cX7_can 12 = .ok (.if_icmp .ge 7, 3) := by decide +kernel
theorem dX7_can_15 : decode cX7_can 15 = .ok (.iconst 1, 1) := by decide +kernel
theorem dX7_can_16 : decode cX7_can 16 = .ok (.goto 4, 3) := by decide +kernel
theorem dX7_can_19 : decode cX7_can 19 = .ok (.iconst 0, 1) := by decide +kernel
theorem dX7_can_20 : decode cX7_can 20 = .ok (.istore 4, 2) := by decide +kernel
theorem dX7_can_22 : decode cX7_can 22 = .ok (.iload_n 1, 1) := by decide +kernel
theorem dX7_can_23 : decode cX7_can 23 = .ok (.tableswitch 141 0 4 #[33, 36, 69, 108, 131], 33) := by decide +kernel
theorem dX7_can_56 : decode cX7_can 56 = .ok (.iload 4, 2) := by decide +kernel
theorem dX7_can_58 : decode cX7_can 58 = .ok (.ireturn, 1) := by decide +kernel
theorem dX7_can_59 : decode cX7_can 59 = .ok (.iload_n 2, 1) := by decide +kernel
theorem dX7_can_60 : decode cX7_can 60 = .ok (.ifCond .lt 30, 3) := by decide +kernel
theorem dX7_can_63 : decode cX7_can 63 = .ok (.iload_n 2, 1) := by decide +kernel
theorem dX7_can_64 : decode cX7_can 64 = .ok (.aload_n 0, 1) := by decide +kernel
theorem dX7_can_65 : decode cX7_can 65 = .ok (.getfield 12, 3) := by decide +kernel
theorem dX7_can_68 : decode cX7_can 68 = .ok (.getfield 97, 3) := by decide +kernel
theorem dX7_can_71 : decode cX7_can 71 = .ok (.if_icmp .ge 19, 3) := by decide +kernel
theorem dX7_can_74 : decode cX7_can 74 = .ok (.aload_n 0, 1) := by decide +kernel
theorem dX7_can_75 : decode cX7_can 75 = .ok (.getfield 44, 3) := by decide +kernel
theorem dX7_can_78 : decode cX7_can 78 = .ok (.iload_n 2, 1) := by decide +kernel
theorem dX7_can_79 : decode cX7_can 79 = .ok (.invokestatic 100, 3) := by decide +kernel
theorem dX7_can_82 : decode cX7_can 82 = .ok (.iload_n 3, 1) := by decide +kernel
theorem dX7_can_83 : decode cX7_can 83 = .ok (.if_icmp .eq 7, 3) := by decide +kernel
theorem dX7_can_86 : decode cX7_can 86 = .ok (.iconst 1, 1) := by decide +kernel
theorem dX7_can_87 : decode cX7_can 87 = .ok (.goto 4, 3) := by decide +kernel
theorem dX7_can_90 : decode cX7_can 90 = .ok (.iconst 0, 1) := by decide +kernel
theorem dX7_can_91 : decode cX7_can 91 = .ok (.ireturn, 1) := by decide +kernel
theorem dX7_can_92 : decode cX7_can 92 = .ok (.iload 4, 2) := by decide +kernel
theorem dX7_can_94 : decode cX7_can 94 = .ok (.ifCond .eq 35, 3) := by decide +kernel
theorem dX7_can_97 : decode cX7_can 97 = .ok (.iload_n 3, 1) := by decide +kernel
theorem dX7_can_98 : decode cX7_can 98 = .ok (.ifCond .lt 31, 3) := by decide +kernel
theorem dX7_can_101 : decode cX7_can 101 = .ok (.iload_n 3, 1) := by decide +kernel
theorem dX7_can_102 : decode cX7_can 102 = .ok (.aload_n 0, 1) := by decide +kernel
theorem dX7_can_103 : decode cX7_can 103 = .ok (.getfield 12, 3) := by decide +kernel
theorem dX7_can_106 : decode cX7_can 106 = .ok (.getfield 97, 3) := by decide +kernel
theorem dX7_can_109 : decode cX7_can 109 = .ok (.if_icmp .ge 20, 3) := by decide +kernel
theorem dX7_can_112 : decode cX7_can 112 = .ok (.aload_n 0, 1) := by decide +kernel
theorem dX7_can_113 : decode cX7_can 113 = .ok (.getfield 25, 3) := by decide +kernel
theorem dX7_can_116 : decode cX7_can 116 = .ok (.iload_n 2, 1) := by decide +kernel
theorem dX7_can_117 : decode cX7_can 117 = .ok (.iaload, 1) := by decide +kernel
theorem dX7_can_118 : decode cX7_can 118 = .ok (.iload_n 3, 1) := by decide +kernel
theorem dX7_can_119 : decode cX7_can 119 = .ok (.ishr, 1) := by decide +kernel
theorem dX7_can_120 : decode cX7_can 120 = .ok (.iconst 1, 1) := by decide +kernel
theorem dX7_can_121 : decode cX7_can 121 = .ok (.iand, 1) := by decide +kernel
theorem dX7_can_122 : decode cX7_can 122 = .ok (.ifCond .ne 7, 3) := by decide +kernel
theorem dX7_can_125 : decode cX7_can 125 = .ok (.iconst 1, 1) := by decide +kernel
theorem dX7_can_126 : decode cX7_can 126 = .ok (.goto 4, 3) := by decide +kernel
theorem dX7_can_129 : decode cX7_can 129 = .ok (.iconst 0, 1) := by decide +kernel
theorem dX7_can_130 : decode cX7_can 130 = .ok (.ireturn, 1) := by decide +kernel
theorem dX7_can_131 : decode cX7_can 131 = .ok (.iload_n 2, 1) := by decide +kernel
theorem dX7_can_132 : decode cX7_can 132 = .ok (.iload_n 3, 1) := by decide +kernel
theorem dX7_can_133 : decode cX7_can 133 = .ok (.if_icmp .eq 19, 3) := by decide +kernel
theorem dX7_can_136 : decode cX7_can 136 = .ok (.aload_n 0, 1) := by decide +kernel
theorem dX7_can_137 : decode cX7_can 137 = .ok (.getfield 21, 3) := by decide +kernel
theorem dX7_can_140 : decode cX7_can 140 = .ok (.iload_n 2, 1) := by decide +kernel
theorem dX7_can_141 : decode cX7_can 141 = .ok (.iload_n 3, 1) := by decide +kernel
theorem dX7_can_142 : decode cX7_can 142 = .ok (.invokevirtual 103, 3) := by decide +kernel
theorem dX7_can_145 : decode cX7_can 145 = .ok (.ifCond .ne 7, 3) := by decide +kernel
theorem dX7_can_148 : decode cX7_can 148 = .ok (.iconst 1, 1) := by decide +kernel
theorem dX7_can_149 : decode cX7_can 149 = .ok (.goto 4, 3) := by decide +kernel
theorem dX7_can_152 : decode cX7_can 152 = .ok (.iconst 0, 1) := by decide +kernel
theorem dX7_can_153 : decode cX7_can 153 = .ok (.ireturn, 1) := by decide +kernel
theorem dX7_can_154 : decode cX7_can 154 = .ok (.aload_n 0, 1) := by decide +kernel
theorem dX7_can_155 : decode cX7_can 155 = .ok (.getfield 21, 3) := by decide +kernel
theorem dX7_can_158 : decode cX7_can 158 = .ok (.iload_n 2, 1) := by decide +kernel
theorem dX7_can_159 : decode cX7_can 159 = .ok (.iload_n 3, 1) := by decide +kernel
theorem dX7_can_160 : decode cX7_can 160 = .ok (.invokevirtual 103, 3) := by decide +kernel
theorem dX7_can_163 : decode cX7_can 163 = .ok (.ireturn, 1) := by decide +kernel
theorem dX7_can_164 : decode cX7_can 164 = .ok (.iconst 1, 1) := by decide +kernel
theorem dX7_can_165 : decode cX7_can 165 = .ok (.ireturn, 1) := by decide +kernel
theorem dX7_does_0 : decode cX7_does 0 = .ok (.aload_n 0, 1) := by decide +kernel
theorem dX7_does_1 : decode cX7_does 1 = .ok (.iload_n 1, 1) := by decide +kernel
theorem dX7_does_2 : decode cX7_does 2 = .ok (.iload_n 2, 1) := by decide +kernel
theorem dX7_does_3 : decode cX7_does 3 = .ok (.iload_n 3, 1) := by decide +kernel
theorem dX7_does_4 : decode cX7_does 4 = .ok (.invokevirtual 107, 3) := by decide +kernel
theorem dX7_does_7 : decode cX7_does 7 = .ok (.ifCond .ne 5, 3) := by decide +kernel
theorem dX7_does_10 : decode cX7_does 10 = .ok (.iconst 0, 1) := by decide +kernel
theorem dX7_does_11 : decode cX7_does 11 = .ok (.ireturn, 1) := by decide +kernel
theorem dX7_does_12 : decode cX7_does 12 = .ok (.iload_n 1, 1) := by decide +kernel
theorem dX7_does_13 : decode cX7_does 13 = .ok (.tableswitch 120 0 4 #[35, 43, 81, 96, 108], 35) := by decide +kernel
theorem dX7_does_48 : decode cX7_does 48 = .ok (.aload_n 0, 1) := by decide +kernel
theorem dX7_does_49 : decode cX7_does 49 = .ok (.iload_n 2, 1) := by decide +kernel
theorem dX7_does_50 : decode cX7_does 50 = .ok (.invokevirtual 110, 3) := by decide +kernel
theorem dX7_does_53 : decode cX7_does 53 = .ok (.goto 84, 3) := by decide +kernel
theorem dX7_does_56 : decode cX7_does 56 = .ok (.aload_n 0, 1) := by decide +kernel
theorem dX7_does_57 : decode cX7_does 57 = .ok (.aload_n 0, 1) := by decide +kernel
theorem dX7_does_58 : decode cX7_does 58 = .ok (.getfield 44, 3) := by decide +kernel
theorem dX7_does_61 : decode cX7_does 61 = .ok (.iload_n 2, 1) := by decide +kernel
theorem dX7_does_62 : decode cX7_does 62 = .ok (.iload_n 3, 1) := by decide +kernel
theorem dX7_does_63 : decode cX7_does 63 = .ok (.invokestatic 114, 3) := by decide +kernel
theorem dX7_does_66 : decode cX7_does 66 = .ok (.putfield 44, 3) := by decide +kernel
theorem dX7_does_69 : decode cX7_does 69 = .ok (.aload_n 0, 1) := by decide +kernel
theorem dX7_does_70 : decode cX7_does 70 = .ok (.dup, 1) := by decide +kernel
theorem dX7_does_71 : decode cX7_does 71 = .ok (.getfield 57, 3) := by decide +kernel
theorem dX7_does_74 : decode cX7_does 74 = .ok (.iconst 1, 1) := by decide +kernel
theorem dX7_does_75 : decode cX7_does 75 = .ok (.iadd, 1) := by decide +kernel
theorem dX7_does_76 : decode cX7_does 76 = .ok (.putfield 57, 3) := by decide +kernel
theorem dX7_does_79 : decode cX7_does 79 = .ok (.aload_n 0, 1) := by decide +kernel
theorem dX7_does_80 : decode cX7_does 80 = .ok (.dup, 1) := by decide +kernel
theorem dX7_does_81 : decode cX7_does 81 = .ok (.getfield 60, 3) := by decide +kernel
theorem dX7_does_84 : decode cX7_does 84 = .ok (.iconst 1, 1) := by decide +kernel
theorem dX7_does_85 : decode cX7_does 85 = .ok (.iload_n 2, 1) := by decide +kernel
theorem dX7_does_86 : decode cX7_does 86 = .ok (.ishl, 1) := by decide +kernel
theorem dX7_does_87 : decode cX7_does 87 = .ok (.ior, 1) := by decide +kernel
theorem dX7_does_88 : decode cX7_does 88 = .ok (.putfield 60, 3) := by decide +kernel
theorem dX7_does_91 : decode cX7_does 91 = .ok (.goto 46, 3) := by decide +kernel
theorem dX7_does_94 : decode cX7_does 94 = .ok (.aload_n 0, 1) := by decide +kernel
theorem dX7_does_95 : decode cX7_does 95 = .ok (.getfield 25, 3) := by decide +kernel
theorem dX7_does_98 : decode cX7_does 98 = .ok (.iload_n 2, 1) := by decide +kernel
theorem dX7_does_99 : decode cX7_does 99 = .ok (.dup2, 1) := by decide +kernel
theorem dX7_does_100 : decode cX7_does 100 = .ok (.iaload, 1) := by decide +kernel
theorem dX7_does_101 : decode cX7_does 101 = .ok (.iconst 1, 1) := by decide +kernel
theorem dX7_does_102 : decode cX7_does 102 = .ok (.iload_n 3, 1) := by decide +kernel
theorem dX7_does_103 : decode cX7_does 103 = .ok (.ishl, 1) := by decide +kernel
theorem dX7_does_104 : decode cX7_does 104 = .ok (.ior, 1) := by decide +kernel
theorem dX7_does_105 : decode cX7_does 105 = .ok (.iastore, 1) := by decide +kernel
theorem dX7_does_106 : decode cX7_does 106 = .ok (.goto 31, 3) := by decide +kernel
theorem dX7_does_109 : decode cX7_does 109 = .ok (.aload_n 0, 1) := by decide +kernel
theorem dX7_does_110 : decode cX7_does 110 = .ok (.getfield 21, 3) := by decide +kernel
theorem dX7_does_113 : decode cX7_does 113 = .ok (.iload_n 2, 1) := by decide +kernel
theorem dX7_does_114 : decode cX7_does 114 = .ok (.iload_n 3, 1) := by decide +kernel
theorem dX7_does_115 : decode cX7_does 115 = .ok (.invokevirtual 118, 3) := by decide +kernel
theorem dX7_does_118 : decode cX7_does 118 = .ok (.goto 19, 3) := by decide +kernel
theorem dX7_does_121 : decode cX7_does 121 = .ok (.aload_n 0, 1) := by decide +kernel
theorem dX7_does_122 : decode cX7_does 122 = .ok (.getfield 21, 3) := by decide +kernel
theorem dX7_does_125 : decode cX7_does 125 = .ok (.iload_n 2, 1) := by decide +kernel
theorem dX7_does_126 : decode cX7_does 126 = .ok (.iload_n 3, 1) := by decide +kernel
theorem dX7_does_127 : decode cX7_does 127 = .ok (.invokevirtual 122, 3) := by decide +kernel
theorem dX7_does_130 : decode cX7_does 130 = .ok (.goto 7, 3) := by decide +kernel
theorem dX7_does_133 : decode cX7_does 133 = .ok (.aload_n 0, 1) := by decide +kernel
theorem dX7_does_134 : decode cX7_does 134 = .ok (.invokevirtual 125, 3) := by decide +kernel
theorem dX7_does_137 : decode cX7_does 137 = .ok (.iconst 1, 1) := by decide +kernel
theorem dX7_does_138 : decode cX7_does 138 = .ok (.ireturn, 1) := by decide +kernel
theorem dX7_read_0 : decode cX7_read 0 = .ok (.aload_n 0, 1) := by decide +kernel
theorem dX7_read_1 : decode cX7_read 1 = .ok (.getfield 12, 3) := by decide +kernel
theorem dX7_read_4 : decode cX7_read 4 = .ok (.aload_n 0, 1) := by decide +kernel
theorem dX7_read_5 : decode cX7_read 5 = .ok (.getfield 21, 3) := by decide +kernel
theorem dX7_read_8 : decode cX7_read 8 = .ok (.iload_n 1, 1) := by decide +kernel
theorem dX7_read_9 : decode cX7_read 9 = .ok (.aload_n 0, 1) := by decide +kernel
theorem dX7_read_10 : decode cX7_read 10 = .ok (.getfield 44, 3) := by decide +kernel
theorem dX7_read_13 : decode cX7_read 13 = .ok (.aload_n 0, 1) := by decide +kernel
theorem dX7_read_14 : decode cX7_read 14 = .ok (.getfield 25, 3) := by decide +kernel
theorem dX7_read_17 : decode cX7_read 17 = .ok (.iload_n 1, 1) := by decide +kernel
theorem dX7_read_18 : decode cX7_read 18 = .ok (.iaload, 1) := by decide +kernel
theorem dX7_read_19 : decode cX7_read 19 = .ok (.invokevirtual 128, 3) := by decide +kernel
theorem dX7_read_22 : decode cX7_read 22 = .ok (.istore_n 2, 1) := by decide +kernel
theorem dX7_read_23 : decode cX7_read 23 = .ok (.aload_n 0, 1) := by decide +kernel
theorem dX7_read_24 : decode cX7_read 24 = .ok (.getfield 44, 3) := by decide +kernel
theorem dX7_read_27 : decode cX7_read 27 = .ok (.iload_n 2, 1) := by decide +kernel
theorem dX7_read_28 : decode cX7_read 28 = .ok (.invokestatic 132, 3) := by decide +kernel
theorem dX7_read_31 : decode cX7_read 31 = .ok (.istore_n 3, 1) := by decide +kernel
theorem dX7_read_32 : decode cX7_read 32 = .ok (.iload_n 3, 1) := by decide +kernel
theorem dX7_read_33 : decode cX7_read 33 = .ok (.invokestatic 135, 3) := by decide +kernel
theorem dX7_read_36 : decode cX7_read 36 = .ok (.istore 4, 2) := by decide +kernel
theorem dX7_read_38 : decode cX7_read 38 = .ok (.aload_n 0, 1) := by decide +kernel
theorem dX7_read_39 : decode cX7_read 39 = .ok (.iload_n 2, 1) := by decide +kernel
theorem dX7_read_40 : decode cX7_read 40 = .ok (.putfield 44, 3) := by decide +kernel
theorem dX7_read_43 : decode cX7_read 43 = .ok (.aload_n 0, 1) := by decide +kernel
theorem dX7_read_44 : decode cX7_read 44 = .ok (.dup, 1) := by decide +kernel
theorem dX7_read_45 : decode cX7_read 45 = .ok (.getfield 45, 3) := by decide +kernel
theorem dX7_read_48 : decode cX7_read 48 = .ok (.iload 4, 2) := by decide +kernel
theorem dX7_read_50 : decode cX7_read 50 = .ok (.iadd, 1) := by decide +kernel
theorem dX7_read_51 : decode cX7_read 51 = .ok (.putfield 45, 3) := by decide +kernel
theorem dX7_read_54 : decode cX7_read 54 = .ok (.aload_n 0, 1) := by decide +kernel
theorem dX7_read_55 : decode cX7_read 55 = .ok (.getfield 29, 3) := by decide +kernel
theorem dX7_read_58 : decode cX7_read 58 = .ok (.iload_n 1, 1) := by decide +kernel
theorem dX7_read_59 : decode cX7_read 59 = .ok (.dup2, 1) := by decide +kernel
theorem dX7_read_60 : decode cX7_read 60 = .ok (.iaload, 1) := by decide +kernel
theorem dX7_read_61 : decode cX7_read 61 = .ok (.iload 4, 2) := by decide +kernel
theorem dX7_read_63 : decode cX7_read 63 = .ok (.iadd, 1) := by decide +kernel
theorem dX7_read_64 : decode cX7_read 64 = .ok (.iastore, 1) := by decide +kernel
theorem dX7_read_65 : decode cX7_read 65 = .ok (.aload_n 0, 1) := by decide +kernel
theorem dX7_read_66 : decode cX7_read 66 = .ok (.dup, 1) := by decide +kernel
theorem dX7_read_67 : decode cX7_read 67 = .ok (.getfield 60, 3) := by decide +kernel
theorem dX7_read_70 : decode cX7_read 70 = .ok (.iload_n 3, 1) := by decide +kernel
theorem dX7_read_71 : decode cX7_read 71 = .ok (.ior, 1) := by decide +kernel
theorem dX7_read_72 : decode cX7_read 72 = .ok (.putfield 60, 3) := by decide +kernel
theorem dX7_read_75 : decode cX7_read 75 = .ok (.return_, 1) := by decide +kernel
theorem dX7_print_0 : decode cX7_print 0 = .ok (.aload_n 0, 1) := by decide +kernel
theorem dX7_print_1 : decode cX7_print 1 = .ok (.dup, 1) := by decide +kernel
theorem dX7_print_2 : decode cX7_print 2 = .ok (.getfield 48, 3) := by decide +kernel
theorem dX7_print_5 : decode cX7_print 5 = .ok (.iconst 1, 1) := by decide +kernel
theorem dX7_print_6 : decode cX7_print 6 = .ok (.iadd, 1) := by decide +kernel
theorem dX7_print_7 : decode cX7_print 7 = .ok (.putfield 48, 3) := by decide +kernel
theorem dX7_print_10 : decode cX7_print 10 = .ok (.aload_n 0, 1) := by decide +kernel
theorem dX7_print_11 : decode cX7_print 11 = .ok (.aload_n 0, 1) := by decide +kernel
theorem dX7_print_12 : decode cX7_print 12 = .ok (.getfield 44, 3) := by decide +kernel
theorem dX7_print_15 : decode cX7_print 15 = .ok (.putfield 51, 3) := by decide +kernel
theorem dX7_print_18 : decode cX7_print 18 = .ok (.iconst 0, 1) := by decide +kernel
theorem dX7_print_19 : decode cX7_print 19 = .ok (.istore_n 1, 1) := by decide +kernel
theorem dX7_print_20 : decode cX7_print 20 = .ok (.iload_n 1, 1) := by decide +kernel
theorem dX7_print_21 : decode cX7_print 21 = .ok (.aload_n 0, 1) := by decide +kernel
theorem dX7_print_22 : decode cX7_print 22 = .ok (.getfield 63, 3) := by decide +kernel
theorem dX7_print_25 : decode cX7_print 25 = .ok (.if_icmp .ge 23, 3) := by decide +kernel
theorem dX7_print_28 : decode cX7_print 28 = .ok (.aload_n 0, 1) := by decide +kernel
theorem dX7_print_29 : decode cX7_print 29 = .ok (.getfield 32, 3) := by decide +kernel
theorem dX7_print_32 : decode cX7_print 32 = .ok (.iload_n 1, 1) := by decide +kernel
theorem dX7_print_33 : decode cX7_print 33 = .ok (.iaload, 1) := by decide +kernel
theorem dX7_print_34 : decode cX7_print 34 = .ok (.aload_n 0, 1) := by decide +kernel
theorem dX7_print_35 : decode cX7_print 35 = .ok (.getfield 44, 3) := by decide +kernel
theorem dX7_print_38 : decode cX7_print 38 = .ok (.if_icmp .ne 4, 3) := by decide +kernel
theorem dX7_print_41 : decode cX7_print 41 = .ok (.return_, 1) := by decide +kernel
theorem dX7_print_42 : decode cX7_print 42 = .ok (.iinc 1 1, 3) := by decide +kernel
theorem dX7_print_45 : decode cX7_print 45 = .ok (.goto (-25), 3) := by decide +kernel
theorem dX7_print_48 : decode cX7_print 48 = .ok (.aload_n 0, 1) := by decide +kernel
theorem dX7_print_49 : decode cX7_print 49 = .ok (.getfield 63, 3) := by decide +kernel
theorem dX7_print_52 : decode cX7_print 52 = .ok (.aload_n 0, 1) := by decide +kernel
theorem dX7_print_53 : decode cX7_print 53 = .ok (.getfield 32, 3) := by decide +kernel
theorem dX7_print_56 : decode cX7_print 56 = .ok (.arraylength, 1) := by decide +kernel
theorem dX7_print_57 : decode cX7_print 57 = .ok (.if_icmp .ge 26, 3) := by decide +kernel
theorem dX7_print_60 : decode cX7_print 60 = .ok (.aload_n 0, 1) := by decide +kernel
theorem dX7_print_61 : decode cX7_print 61 = .ok (.getfield 32, 3) := by decide +kernel
theorem dX7_print_64 : decode cX7_print 64 = .ok (.aload_n 0, 1) := by decide +kernel
theorem dX7_print_65 : decode cX7_print 65 = .ok (.getfield 63, 3) := by decide +kernel
theorem dX7_print_68 : decode cX7_print 68 = .ok (.aload_n 0, 1) := by decide +kernel
theorem dX7_print_69 : decode cX7_print 69 = .ok (.getfield 44, 3) := by decide +kernel
theorem dX7_print_72 : decode cX7_print 72 = .ok (.iastore, 1) := by decide +kernel
theorem dX7_print_73 : decode cX7_print 73 = .ok (.aload_n 0, 1) := by decide +kernel
theorem dX7_print_74 : decode cX7_print 74 = .ok (.dup, 1) := by decide +kernel
theorem dX7_print_75 : decode cX7_print 75 = .ok (.getfield 63, 3) := by decide +kernel
theorem dX7_print_78 : decode cX7_print 78 = .ok (.iconst 1, 1) := by decide +kernel
theorem dX7_print_79 : decode cX7_print 79 = .ok (.iadd, 1) := by decide +kernel
theorem dX7_print_80 : decode cX7_print 80 = .ok (.putfield 63, 3) := by decide +kernel
theorem dX7_print_83 : decode cX7_print 83 = .ok (.return_, 1) := by decide +kernel
theorem dX7_busiest_0 : decode cX7_busiest 0 = .ok (.iconst (-1), 1) := by decide +kernel
theorem dX7_busiest_1 : decode cX7_busiest 1 = .ok (.istore_n 1, 1) := by decide +kernel
theorem dX7_busiest_2 : decode cX7_busiest 2 = .ok (.iconst 0, 1) := by decide +kernel
theorem dX7_busiest_3 : decode cX7_busiest 3 = .ok (.istore_n 2, 1) := by decide +kernel
theorem dX7_busiest_4 : decode cX7_busiest 4 = .ok (.iload_n 2, 1) := by decide +kernel
theorem dX7_busiest_5 : decode cX7_busiest 5 = .ok (.aload_n 0, 1) := by decide +kernel
theorem dX7_busiest_6 : decode cX7_busiest 6 = .ok (.getfield 12, 3) := by decide +kernel
theorem dX7_busiest_9 : decode cX7_busiest 9 = .ok (.getfield 94, 3) := by decide +kernel
theorem dX7_busiest_12 : decode cX7_busiest 12 = .ok (.if_icmp .ge 40, 3) := by decide +kernel
theorem dX7_busiest_15 : decode cX7_busiest 15 = .ok (.aload_n 0, 1) := by decide +kernel
theorem dX7_busiest_16 : decode cX7_busiest 16 = .ok (.getfield 29, 3) := by decide +kernel
theorem dX7_busiest_19 : decode cX7_busiest 19 = .ok (.iload_n 2, 1) := by decide +kernel
theorem dX7_busiest_20 : decode cX7_busiest 20 = .ok (.iaload, 1) := by decide +kernel
theorem dX7_busiest_21 : decode cX7_busiest 21 = .ok (.ifCond .le 25, 3) := by decide +kernel
theorem dX7_busiest_24 : decode cX7_busiest 24 = .ok (.iload_n 1, 1) := by decide +kernel
theorem dX7_busiest_25 : decode cX7_busiest 25 = .ok (.iconst (-1), 1) := by decide +kernel
theorem dX7_busiest_26 : decode cX7_busiest 26 = .ok (.if_icmp .eq 18, 3) := by decide +kernel
theorem dX7_busiest_29 : decode cX7_busiest 29 = .ok (.aload_n 0, 1) := by decide +kernel
theorem dX7_busiest_30 : decode cX7_busiest 30 = .ok (.getfield 29, 3) := by decide +kernel
theorem dX7_busiest_33 : decode cX7_busiest 33 = .ok (.iload_n 2, 1) := by decide +kernel
theorem dX7_busiest_34 : decode cX7_busiest 34 = .ok (.iaload, 1) := by decide +kernel
theorem dX7_busiest_35 : decode cX7_busiest 35 = .ok (.aload_n 0, 1) := by decide +kernel
theorem dX7_busiest_36 : decode cX7_busiest 36 = .ok (.getfield 29, 3) := by decide +kernel
theorem dX7_busiest_39 : decode cX7_busiest 39 = .ok (.iload_n 1, 1) := by decide +kernel
theorem dX7_busiest_40 : decode cX7_busiest 40 = .ok (.iaload, 1) := by decide +kernel
theorem dX7_busiest_41 : decode cX7_busiest 41 = .ok (.if_icmp .le 5, 3) := by decide +kernel
theorem dX7_busiest_44 : decode cX7_busiest 44 = .ok (.iload_n 2, 1) := by decide +kernel
theorem dX7_busiest_45 : decode cX7_busiest 45 = .ok (.istore_n 1, 1) := by decide +kernel
theorem dX7_busiest_46 : decode cX7_busiest 46 = .ok (.iinc 2 1, 3) := by decide +kernel
theorem dX7_busiest_49 : decode cX7_busiest 49 = .ok (.goto (-45), 3) := by decide +kernel
theorem dX7_busiest_52 : decode cX7_busiest 52 = .ok (.iload_n 1, 1) := by decide +kernel
theorem dX7_busiest_53 : decode cX7_busiest 53 = .ok (.ireturn, 1) := by decide +kernel
theorem dX7_tell_0 : decode cX7_tell 0 = .ok (.iload_n 1, 1) := by decide +kernel
theorem dX7_tell_1 : decode cX7_tell 1 = .ok (.ifCond .ge 6, 3) := by decide +kernel
theorem dX7_tell_4 : decode cX7_tell 4 = .ok (.bipush (-2), 2) := by decide +kernel
theorem dX7_tell_6 : decode cX7_tell 6 = .ok (.ireturn, 1) := by decide +kernel
theorem dX7_tell_7 : decode cX7_tell 7 = .ok (.iload_n 1, 1) := by decide +kernel
theorem dX7_tell_8 : decode cX7_tell 8 = .ok (.bipush 10, 2) := by decide +kernel
theorem dX7_tell_10 : decode cX7_tell 10 = .ok (.irem, 1) := by decide +kernel
theorem dX7_tell_11 : decode cX7_tell 11 = .ok (.istore_n 2, 1) := by decide +kernel
theorem dX7_tell_12 : decode cX7_tell 12 = .ok (.iload_n 1, 1) := by decide +kernel
theorem dX7_tell_13 : decode cX7_tell 13 = .ok (.bipush 10, 2) := by decide +kernel
theorem dX7_tell_15 : decode cX7_tell 15 = .ok (.idiv, 1) := by decide +kernel
theorem dX7_tell_16 : decode cX7_tell 16 = .ok (.tableswitch 190 0 5 #[40, 66, 91, 128, 157, 180], 40) := by decide +kernel
theorem dX7_tell_56 : decode cX7_tell 56 = .ok (.iload_n 2, 1) := by decide +kernel
theorem dX7_tell_57 : decode cX7_tell 57 = .ok (.ifCond .ne 10, 3) := by decide +kernel
theorem dX7_tell_60 : decode cX7_tell 60 = .ok (.aload_n 0, 1) := by decide +kernel
theorem dX7_tell_61 : decode cX7_tell 61 = .ok (.getfield 45, 3) := by decide +kernel
theorem dX7_tell_64 : decode cX7_tell 64 = .ok (.goto 17, 3) := by decide +kernel
theorem dX7_tell_67 : decode cX7_tell 67 = .ok (.iload_n 2, 1) := by decide +kernel
theorem dX7_tell_68 : decode cX7_tell 68 = .ok (.iconst 1, 1) := by decide +kernel
theorem dX7_tell_69 : decode cX7_tell 69 = .ok (.if_icmp .ne 10, 3) := by decide +kernel
theorem dX7_tell_72 : decode cX7_tell 72 = .ok (.aload_n 0, 1) := by decide +kernel
theorem dX7_tell_73 : decode cX7_tell 73 = .ok (.getfield 48, 3) := by decide +kernel
theorem dX7_tell_76 : decode cX7_tell 76 = .ok (.goto 5, 3) := by decide +kernel
theorem dX7_tell_79 : decode cX7_tell 79 = .ok (.bipush (-2), 2) := by decide +kernel
theorem dX7_tell_81 : decode cX7_tell 81 = .ok (.ireturn, 1) := by decide +kernel
theorem dX7_tell_82 : decode cX7_tell 82 = .ok (.iload_n 2, 1) := by decide +kernel
theorem dX7_tell_83 : decode cX7_tell 83 = .ok (.aload_n 0, 1) := by decide +kernel
theorem dX7_tell_84 : decode cX7_tell 84 = .ok (.getfield 12, 3) := by decide +kernel
theorem dX7_tell_87 : decode cX7_tell 87 = .ok (.getfield 97, 3) := by decide +kernel
theorem dX7_tell_90 : decode cX7_tell 90 = .ok (.if_icmp .ge 14, 3) := by decide +kernel
theorem dX7_tell_93 : decode cX7_tell 93 = .ok (.aload_n 0, 1) := by decide +kernel
theorem dX7_tell_94 : decode cX7_tell 94 = .ok (.getfield 44, 3) := by decide +kernel
theorem dX7_tell_97 : decode cX7_tell 97 = .ok (.iload_n 2, 1) := by decide +kernel
theorem dX7_tell_98 : decode cX7_tell 98 = .ok (.invokestatic 100, 3) := by decide +kernel
theorem dX7_tell_101 : decode cX7_tell 101 = .ok (.goto 5, 3) := by decide +kernel
theorem dX7_tell_104 : decode cX7_tell 104 = .ok (.bipush (-2), 2) := by decide +kernel
theorem dX7_tell_106 : decode cX7_tell 106 = .ok (.ireturn, 1) := by decide +kernel
theorem dX7_tell_107 : decode cX7_tell 107 = .ok (.iload_n 2, 1) := by decide +kernel
theorem dX7_tell_108 : decode cX7_tell 108 = .ok (.aload_n 0, 1) := by decide +kernel
theorem dX7_tell_109 : decode cX7_tell 109 = .ok (.getfield 12, 3) := by decide +kernel
theorem dX7_tell_112 : decode cX7_tell 112 = .ok (.getfield 97, 3) := by decide +kernel
theorem dX7_tell_115 : decode cX7_tell 115 = .ok (.if_icmp .lt 8, 3) := by decide +kernel
theorem dX7_tell_118 : decode cX7_tell 118 = .ok (.bipush (-2), 2) := by decide +kernel
theorem dX7_tell_120 : decode cX7_tell 120 = .ok (.goto 23, 3) := by decide +kernel
theorem dX7_tell_123 : decode cX7_tell 123 = .ok (.aload_n 0, 1) := by decide +kernel
theorem dX7_tell_124 : decode cX7_tell 124 = .ok (.getfield 48, 3) := by decide +kernel
theorem dX7_tell_127 : decode cX7_tell 127 = .ok (.ifCond .ne 8, 3) := by decide +kernel
theorem dX7_tell_130 : decode cX7_tell 130 = .ok (.bipush 10, 2) := by decide +kernel
theorem dX7_tell_132 : decode cX7_tell 132 = .ok (.goto 11, 3) := by decide +kernel
theorem dX7_tell_135 : decode cX7_tell 135 = .ok (.aload_n 0, 1) := by decide +kernel
theorem dX7_tell_136 : decode cX7_tell 136 = .ok (.getfield 51, 3) := by decide +kernel
theorem dX7_tell_139 : decode cX7_tell 139 = .ok (.iload_n 2, 1) := by decide +kernel
theorem dX7_tell_140 : decode cX7_tell 140 = .ok (.invokestatic 100, 3) := by decide +kernel
theorem dX7_tell_143 : decode cX7_tell 143 = .ok (.ireturn, 1) := by decide +kernel
theorem dX7_tell_144 : decode cX7_tell 144 = .ok (.iload_n 2, 1) := by decide +kernel
theorem dX7_tell_145 : decode cX7_tell 145 = .ok (.aload_n 0, 1) := by decide +kernel
theorem dX7_tell_146 : decode cX7_tell 146 = .ok (.getfield 12, 3) := by decide +kernel
theorem dX7_tell_149 : decode cX7_tell 149 = .ok (.getfield 94, 3) := by decide +kernel
theorem dX7_tell_152 : decode cX7_tell 152 = .ok (.if_icmp .ge 18, 3) := by decide +kernel
theorem dX7_tell_155 : decode cX7_tell 155 = .ok (.aload_n 0, 1) := by decide +kernel
theorem dX7_tell_156 : decode cX7_tell 156 = .ok (.getfield 12, 3) := by decide +kernel
theorem dX7_tell_159 : decode cX7_tell 159 = .ok (.iload_n 2, 1) := by decide +kernel
theorem dX7_tell_160 : decode cX7_tell 160 = .ok (.aload_n 0, 1) := by decide +kernel
theorem dX7_tell_161 : decode cX7_tell 161 = .ok (.getfield 44, 3) := by decide +kernel
theorem dX7_tell_164 : decode cX7_tell 164 = .ok (.invokevirtual 141, 3) := by decide +kernel
theorem dX7_tell_167 : decode cX7_tell 167 = .ok (.goto 5, 3) := by decide +kernel
theorem dX7_tell_170 : decode cX7_tell 170 = .ok (.bipush (-2), 2) := by decide +kernel
theorem dX7_tell_172 : decode cX7_tell 172 = .ok (.ireturn, 1) := by decide +kernel
theorem dX7_tell_173 : decode cX7_tell 173 = .ok (.iload_n 2, 1) := by decide +kernel
theorem dX7_tell_174 : decode cX7_tell 174 = .ok (.aload_n 0, 1) := by decide +kernel
theorem dX7_tell_175 : decode cX7_tell 175 = .ok (.getfield 12, 3) := by decide +kernel
theorem dX7_tell_178 : decode cX7_tell 178 = .ok (.getfield 94, 3) := by decide +kernel
theorem dX7_tell_181 : decode cX7_tell 181 = .ok (.if_icmp .ge 12, 3) := by decide +kernel
theorem dX7_tell_184 : decode cX7_tell 184 = .ok (.aload_n 0, 1) := by decide +kernel
theorem dX7_tell_185 : decode cX7_tell 185 = .ok (.getfield 25, 3) := by decide +kernel
theorem dX7_tell_188 : decode cX7_tell 188 = .ok (.iload_n 2, 1) := by decide +kernel
theorem dX7_tell_189 : decode cX7_tell 189 = .ok (.iaload, 1) := by decide +kernel
theorem dX7_tell_190 : decode cX7_tell 190 = .ok (.goto 5, 3) := by decide +kernel
theorem dX7_tell_193 : decode cX7_tell 193 = .ok (.bipush (-2), 2) := by decide +kernel
theorem dX7_tell_195 : decode cX7_tell 195 = .ok (.ireturn, 1) := by decide +kernel
theorem dX7_tell_196 : decode cX7_tell 196 = .ok (.aload_n 0, 1) := by decide +kernel
theorem dX7_tell_197 : decode cX7_tell 197 = .ok (.getfield 21, 3) := by decide +kernel
theorem dX7_tell_200 : decode cX7_tell 200 = .ok (.getfield 144, 3) := by decide +kernel
theorem dX7_tell_203 : decode cX7_tell 203 = .ok (.iload_n 2, 1) := by decide +kernel
theorem dX7_tell_204 : decode cX7_tell 204 = .ok (.iaload, 1) := by decide +kernel
theorem dX7_tell_205 : decode cX7_tell 205 = .ok (.ireturn, 1) := by decide +kernel
theorem dX7_tell_206 : decode cX7_tell 206 = .ok (.bipush (-2), 2) := by decide +kernel
theorem dX7_tell_208 : decode cX7_tell 208 = .ok (.ireturn, 1) := by decide +kernel
theorem dX8_init_0 : decode cX8_init 0 = .ok (.aload_n 0, 1) := by decide +kernel
theorem dX8_init_1 : decode cX8_init 1 = .ok (.invokespecial 3, 3) := by decide +kernel
theorem dX8_init_4 : decode cX8_init 4 = .ok (.aload_n 0, 1) := by decide +kernel
theorem dX8_init_5 : decode cX8_init 5 = .ok (.sipush 600, 3) := by decide +kernel
theorem dX8_init_8 : decode cX8_init 8 = .ok (.newarray .byte, 2) := by decide +kernel
theorem dX8_init_10 : decode cX8_init 10 = .ok (.putfield 9, 3) := by decide +kernel
theorem dX8_init_13 : decode cX8_init 13 = .ok (.aload_n 0, 1) := by decide +kernel
theorem dX8_init_14 : decode cX8_init 14 = .ok (.iconst (-1), 1) := by decide +kernel
theorem dX8_init_15 : decode cX8_init 15 = .ok (.putfield 15, 3) := by decide +kernel
theorem dX8_init_18 : decode cX8_init 18 = .ok (.aload_n 0, 1) := by decide +kernel
theorem dX8_init_19 : decode cX8_init 19 = .ok (.iconst 3, 1) := by decide +kernel
theorem dX8_init_20 : decode cX8_init 20 = .ok (.newarray .int, 2) := by decide +kernel
theorem dX8_init_22 : decode cX8_init 22 = .ok (.putfield 19, 3) := by decide +kernel
theorem dX8_init_25 : decode cX8_init 25 = .ok (.aload_n 0, 1) := by decide +kernel
theorem dX8_init_26 : decode cX8_init 26 = .ok (.iconst 2, 1) := by decide +kernel
theorem dX8_init_27 : decode cX8_init 27 = .ok (.anewarray 23, 3) := by decide +kernel
theorem dX8_init_30 : decode cX8_init 30 = .ok (.putfield 25, 3) := by decide +kernel
theorem dX8_init_33 : decode cX8_init 33 = .ok (.aload_n 0, 1) := by decide +kernel
theorem dX8_init_34 : decode cX8_init 34 = .ok (.iconst 2, 1) := by decide +kernel
theorem dX8_init_35 : decode cX8_init 35 = .ok (.anewarray 29, 3) := by decide +kernel
theorem dX8_init_38 : decode cX8_init 38 = .ok (.putfield 31, 3) := by decide +kernel
theorem dX8_init_41 : decode cX8_init 41 = .ok (.aload_n 0, 1) := by decide +kernel
theorem dX8_init_42 : decode cX8_init 42 = .ok (.iconst 2, 1) := by decide +kernel
theorem dX8_init_43 : decode cX8_init 43 = .ok (.anewarray 35, 3) := by decide +kernel
theorem dX8_init_46 : decode cX8_init 46 = .ok (.putfield 37, 3) := by decide +kernel
theorem dX8_init_49 : decode cX8_init 49 = .ok (.iconst 0, 1) := by decide +kernel
theorem dX8_init_50 : decode cX8_init 50 = .ok (.istore_n 1, 1) := by decide +kernel
theorem dX8_init_51 : decode cX8_init 51 = .ok (.iload_n 1, 1) := by decide +kernel
theorem dX8_init_52 : decode cX8_init 52 = .ok (.iconst 2, 1) := by decide +kernel
theorem dX8_init_53 : decode cX8_init 53 = .ok (.if_icmp .ge 48, 3) := by decide +kernel
theorem dX8_init_56 : decode cX8_init 56 = .ok (.aload_n 0, 1) := by decide +kernel
theorem dX8_init_57 : decode cX8_init 57 = .ok (.getfield 25, 3) := by decide +kernel
theorem dX8_init_60 : decode cX8_init 60 = .ok (.iload_n 1, 1) := by decide +kernel
theorem dX8_init_61 : decode cX8_init 61 = .ok (.new 23, 3) := by decide +kernel
theorem dX8_init_64 : decode cX8_init 64 = .ok (.dup, 1) := by decide +kernel
theorem dX8_init_65 : decode cX8_init 65 = .ok (.invokespecial 41, 3) := by decide +kernel
theorem dX8_init_68 : decode cX8_init 68 = .ok (.aastore, 1) := by decide +kernel
theorem dX8_init_69 : decode cX8_init 69 = .ok (.aload_n 0, 1) := by decide +kernel
theorem dX8_init_70 : decode cX8_init 70 = .ok (.getfield 31, 3) := by decide +kernel
theorem dX8_init_73 : decode cX8_init 73 = .ok (.iload_n 1, 1) := by decide +kernel
theorem dX8_init_74 : decode cX8_init 74 = .ok (.new 29, 3) := by decide +kernel
theorem dX8_init_77 : decode cX8_init 77 = .ok (.dup, 1) := by decide +kernel
theorem dX8_init_78 : decode cX8_init 78 = .ok (.invokespecial 42, 3) := by decide +kernel
theorem dX8_init_81 : decode cX8_init 81 = .ok (.aastore, 1) := by decide +kernel
theorem dX8_init_82 : decode cX8_init 82 = .ok (.aload_n 0, 1) := by decide +kernel
theorem dX8_init_83 : decode cX8_init 83 = .ok (.getfield 37, 3) := by decide +kernel
theorem dX8_init_86 : decode cX8_init 86 = .ok (.iload_n 1, 1) := by decide +kernel
theorem dX8_init_87 : decode cX8_init 87 = .ok (.new 35, 3) := by decide +kernel
theorem dX8_init_90 : decode cX8_init 90 = .ok (.dup, 1) := by decide +kernel
theorem dX8_init_91 : decode cX8_init 91 = .ok (.invokespecial 43, 3) := by decide +kernel
theorem dX8_init_94 : decode cX8_init 94 = .ok (.aastore, 1) := by decide +kernel
theorem dX8_init_95 : decode cX8_init 95 = .ok (.iinc 1 1, 3) := by decide +kernel
theorem dX8_init_98 : decode cX8_init 98 = .ok (.goto (-47), 3) := by decide +kernel
theorem dX8_init_101 : decode cX8_init 101 = .ok (.return_, 1) := by decide +kernel
theorem dX8_append_0 : decode cX8_append 0 = .ok (.bipush 24, 2) := by decide +kernel
theorem dX8_append_2 : decode cX8_append 2 = .ok (.istore_n 2, 1) := by decide +kernel
theorem dX8_append_3 : decode cX8_append 3 = .ok (.iload_n 2, 1) := by decide +kernel
theorem dX8_append_4 : decode cX8_append 4 = .ok (.ifCond .lt 42, 3) := by decide +kernel
theorem dX8_append_7 : decode cX8_append 7 = .ok (.aload_n 0, 1) := by decide +kernel
theorem dX8_append_8 : decode cX8_append 8 = .ok (.getfield 44, 3) := by decide +kernel
theorem dX8_append_11 : decode cX8_append 11 = .ok (.sipush 600, 3) := by decide +kernel
theorem dX8_append_14 : decode cX8_append 14 = .ok (.if_icmp .ge 32, 3) := by decide +kernel
theorem dX8_append_17 : decode cX8_append 17 = .ok (.aload_n 0, 1) := by decide +kernel
theorem dX8_append_18 : decode cX8_append 18 = .ok (.getfield 9, 3) := by decide +kernel
theorem dX8_append_21 : decode cX8_append 21 = .ok (.aload_n 0, 1) := by decide +kernel
theorem dX8_append_22 : decode cX8_append 22 = .ok (.getfield 44, 3) := by decide +kernel
theorem dX8_append_25 : decode cX8_append 25 = .ok (.iload_n 1, 1) := by decide +kernel
theorem dX8_append_26 : decode cX8_append 26 = .ok (.iload_n 2, 1) := by decide +kernel
theorem dX8_append_27 : decode cX8_append 27 = .ok (.iushr, 1) := by decide +kernel
theorem dX8_append_28 : decode cX8_append 28 = .ok (.i2b, 1) := by decide +kernel
theorem dX8_append_29 : decode cX8_append 29 = .ok (.bastore, 1) := by decide +kernel
theorem dX8_append_30 : decode cX8_append 30 = .ok (.aload_n 0, 1) := by decide +kernel
theorem dX8_append_31 : decode cX8_append 31 = .ok (.dup, 1) := by decide +kernel
theorem dX8_append_32 : decode cX8_append 32 = .ok (.getfield 44, 3) := by decide +kernel
theorem dX8_append_35 : decode cX8_append 35 = .ok (.iconst 1, 1) := by decide +kernel
theorem dX8_append_36 : decode cX8_append 36 = .ok (.iadd, 1) := by decide +kernel
theorem dX8_append_37 : decode cX8_append 37 = .ok (.putfield 44, 3) := by decide +kernel
theorem dX8_append_40 : decode cX8_append 40 = .ok (.iinc 2 (-8), 3) := by decide +kernel
theorem dX8_append_43 : decode cX8_append 43 = .ok (.goto (-40), 3) := by decide +kernel
theorem dX8_append_46 : decode cX8_append 46 = .ok (.return_, 1) := by decide +kernel
theorem dX8_take_0 : decode cX8_take 0 = .ok (.iload_n 2, 1) := by decide +kernel
theorem dX8_take_1 : decode cX8_take 1 = .ok (.ifCond .lt 17, 3) := by decide +kernel
theorem dX8_take_4 : decode cX8_take 4 = .ok (.iload_n 2, 1) := by decide +kernel
theorem dX8_take_5 : decode cX8_take 5 = .ok (.iconst 3, 1) := by decide +kernel
theorem dX8_take_6 : decode cX8_take 6 = .ok (.if_icmp .ge 12, 3) := by decide +kernel
theorem dX8_take_9 : decode cX8_take 9 = .ok (.iload_n 3, 1) := by decide +kernel
theorem dX8_take_10 : decode cX8_take 10 = .ok (.ifCond .lt 8, 3) := by decide +kernel
theorem dX8_take_13 : decode cX8_take 13 = .ok (.iload_n 3, 1) := by decide +kernel
theorem dX8_take_14 : decode cX8_take 14 = .ok (.iconst 2, 1) := by decide +kernel
theorem dX8_take_15 : decode cX8_take 15 = .ok (.if_icmp .lt 4, 3) := by decide +kernel
theorem dX8_take_18 : decode cX8_take 18 = .ok (.return_, 1) := by decide +kernel
theorem dX8_take_19 : decode cX8_take 19 = .ok (.iload_n 2, 1) := by decide +kernel
theorem dX8_take_20 : decode cX8_take 20 = .ok (.ifCond .ne 19, 3) := by decide +kernel
theorem dX8_take_23 : decode cX8_take 23 = .ok (.aload_n 0, 1) := by decide +kernel
theorem dX8_take_24 : decode cX8_take 24 = .ok (.getfield 25, 3) := by decide +kernel
theorem dX8_take_27 : decode cX8_take 27 = .ok (.iload_n 3, 1) := by decide +kernel
theorem dX8_take_28 : decode cX8_take 28 = .ok (.aaload, 1) := by decide +kernel
theorem dX8_take_29 : decode cX8_take 29 = .ok (.aload_n 1, 1) := by decide +kernel
theorem dX8_take_30 : decode cX8_take 30 = .ok (.getfield 47, 3) := by decide +kernel
theorem dX8_take_33 : decode cX8_take 33 = .ok (.invokevirtual 53, 3) := by decide +kernel
theorem dX8_take_36 : decode cX8_take 36 = .ok (.goto 37, 3) := by decide +kernel
theorem dX8_take_39 : decode cX8_take 39 = .ok (.iload_n 2, 1) := by decide +kernel
theorem dX8_take_40 : decode cX8_take 40 = .ok (.iconst 1, 1) := by decide +kernel
theorem dX8_take_41 : decode cX8_take 41 = .ok (.if_icmp .ne 19, 3) := by decide +kernel
theorem dX8_take_44 : decode cX8_take 44 = .ok (.aload_n 0, 1) := by decide +kernel
theorem dX8_take_45 : decode cX8_take 45 = .ok (.getfield 31, 3) := by decide +kernel
theorem dX8_take_48 : decode cX8_take 48 = .ok (.iload_n 3, 1) := by decide +kernel
theorem dX8_take_49 : decode cX8_take 49 = .ok (.aaload, 1) := by decide +kernel
theorem dX8_take_50 : decode cX8_take 50 = .ok (.aload_n 1, 1) := by decide +kernel
theorem dX8_take_51 : decode cX8_take 51 = .ok (.getfield 57, 3) := by decide +kernel
theorem dX8_take_54 : decode cX8_take 54 = .ok (.invokevirtual 61, 3) := by decide +kernel
theorem dX8_take_57 : decode cX8_take 57 = .ok (.goto 16, 3) := by decide +kernel
theorem dX8_take_60 : decode cX8_take 60 = .ok (.aload_n 0, 1) := by decide +kernel
theorem dX8_take_61 : decode cX8_take 61 = .ok (.getfield 37, 3) := by decide +kernel
theorem dX8_take_64 : decode cX8_take 64 = .ok (.iload_n 3, 1) := by decide +kernel
theorem dX8_take_65 : decode cX8_take 65 = .ok (.aaload, 1) := by decide +kernel
theorem dX8_take_66 : decode cX8_take 66 = .ok (.aload_n 1, 1) := by decide +kernel
theorem dX8_take_67 : decode cX8_take 67 = .ok (.getfield 64, 3) := by decide +kernel
theorem dX8_take_70 : decode cX8_take 70 = .ok (.invokevirtual 68, 3) := by decide +kernel
theorem dX8_take_73 : decode cX8_take 73 = .ok (.aload_n 0, 1) := by decide +kernel
theorem dX8_take_74 : decode cX8_take 74 = .ok (.getfield 19, 3) := by decide +kernel
theorem dX8_take_77 : decode cX8_take 77 = .ok (.iload_n 2, 1) := by decide +kernel
theorem dX8_take_78 : decode cX8_take 78 = .ok (.aload_n 0, 1) := by decide +kernel
theorem dX8_take_79 : decode cX8_take 79 = .ok (.getfield 19, 3) := by decide +kernel
theorem dX8_take_82 : decode cX8_take 82 = .ok (.iload_n 2, 1) := by decide +kernel
theorem dX8_take_83 : decode cX8_take 83 = .ok (.iaload, 1) := by decide +kernel
theorem dX8_take_84 : decode cX8_take 84 = .ok (.iload_n 3, 1) := by decide +kernel
theorem dX8_take_85 : decode cX8_take 85 = .ok (.iconst 1, 1) := by decide +kernel
theorem dX8_take_86 : decode cX8_take 86 = .ok (.iadd, 1) := by decide +kernel
theorem dX8_take_87 : decode cX8_take 87 = .ok (.invokestatic 71, 3) := by decide +kernel
theorem dX8_take_90 : decode cX8_take 90 = .ok (.iastore, 1) := by decide +kernel
theorem dX8_take_91 : decode cX8_take 91 = .ok (.return_, 1) := by decide +kernel
theorem dX8_copy_0 : decode cX8_copy 0 = .ok (.aload_n 1, 1) := by decide +kernel
theorem dX8_copy_1 : decode cX8_copy 1 = .ok (.getfield 9, 3) := by decide +kernel
theorem dX8_copy_4 : decode cX8_copy 4 = .ok (.iconst 0, 1) := by decide +kernel
theorem dX8_copy_5 : decode cX8_copy 5 = .ok (.aload_n 0, 1) := by decide +kernel
theorem dX8_copy_6 : decode cX8_copy 6 = .ok (.getfield 9, 3) := by decide +kernel
theorem dX8_copy_9 : decode cX8_copy 9 = .ok (.iconst 0, 1) := by decide +kernel
theorem dX8_copy_10 : decode cX8_copy 10 = .ok (.sipush 600, 3) := by decide +kernel
theorem dX8_copy_13 : decode cX8_copy 13 = .ok (.invokestatic 77, 3) := by decide +kernel
theorem dX8_copy_16 : decode cX8_copy 16 = .ok (.aload_n 0, 1) := by decide +kernel
theorem dX8_copy_17 : decode cX8_copy 17 = .ok (.aload_n 1, 1) := by decide +kernel
theorem dX8_copy_18 : decode cX8_copy 18 = .ok (.getfield 44, 3) := by decide +kernel
theorem dX8_copy_21 : decode cX8_copy 21 = .ok (.putfield 44, 3) := by decide +kernel
theorem dX8_copy_24 : decode cX8_copy 24 = .ok (.aload_n 0, 1) := by decide +kernel
theorem dX8_copy_25 : decode cX8_copy 25 = .ok (.aload_n 1, 1) := by decide +kernel
theorem dX8_copy_26 : decode cX8_copy 26 = .ok (.getfield 83, 3) := by decide +kernel
theorem dX8_copy_29 : decode cX8_copy 29 = .ok (.putfield 83, 3) := by decide +kernel
theorem dX8_copy_32 : decode cX8_copy 32 = .ok (.aload_n 0, 1) := by decide +kernel
theorem dX8_copy_33 : decode cX8_copy 33 = .ok (.aload_n 1, 1) := by decide +kernel
theorem dX8_copy_34 : decode cX8_copy 34 = .ok (.getfield 15, 3) := by decide +kernel
theorem dX8_copy_37 : decode cX8_copy 37 = .ok (.putfield 15, 3) := by decide +kernel
theorem dX8_copy_40 : decode cX8_copy 40 = .ok (.aload_n 1, 1) := by decide +kernel
theorem dX8_copy_41 : decode cX8_copy 41 = .ok (.getfield 19, 3) := by decide +kernel
theorem dX8_copy_44 : decode cX8_copy 44 = .ok (.aload_n 0, 1) := by decide +kernel
theorem dX8_copy_45 : decode cX8_copy 45 = .ok (.getfield 19, 3) := by decide +kernel
theorem dX8_copy_48 : decode cX8_copy 48 = .ok (.invokestatic 86, 3) := by decide +kernel
theorem dX8_copy_51 : decode cX8_copy 51 = .ok (.iconst 0, 1) := by decide +kernel
theorem dX8_copy_52 : decode cX8_copy 52 = .ok (.istore_n 2, 1) := by decide +kernel
theorem dX8_copy_53 : decode cX8_copy 53 = .ok (.iload_n 2, 1) := by decide +kernel
theorem dX8_copy_54 : decode cX8_copy 54 = .ok (.iconst 2, 1) := by decide +kernel
theorem dX8_copy_55 : decode cX8_copy 55 = .ok (.if_icmp .ge 54, 3) := by decide +kernel
theorem dX8_copy_58 : decode cX8_copy 58 = .ok (.aload_n 0, 1) := by decide +kernel
theorem dX8_copy_59 : decode cX8_copy 59 = .ok (.getfield 25, 3) := by decide +kernel
theorem dX8_copy_62 : decode cX8_copy 62 = .ok (.iload_n 2, 1) := by decide +kernel
theorem dX8_copy_63 : decode cX8_copy 63 = .ok (.aaload, 1) := by decide +kernel
theorem dX8_copy_64 : decode cX8_copy 64 = .ok (.aload_n 1, 1) := by decide +kernel
theorem dX8_copy_65 : decode cX8_copy 65 = .ok (.getfield 25, 3) := by decide +kernel
theorem dX8_copy_68 : decode cX8_copy 68 = .ok (.iload_n 2, 1) := by decide +kernel
theorem dX8_copy_69 : decode cX8_copy 69 = .ok (.aaload, 1) := by decide +kernel
theorem dX8_copy_70 : decode cX8_copy 70 = .ok (.invokevirtual 53, 3) := by decide +kernel
theorem dX8_copy_73 : decode cX8_copy 73 = .ok (.aload_n 0, 1) := by decide +kernel
theorem dX8_copy_74 : decode cX8_copy 74 = .ok (.getfield 31, 3) := by decide +kernel
theorem dX8_copy_77 : decode cX8_copy 77 = .ok (.iload_n 2, 1) := by decide +kernel
theorem dX8_copy_78 : decode cX8_copy 78 = .ok (.aaload, 1) := by decide +kernel
theorem dX8_copy_79 : decode cX8_copy 79 = .ok (.aload_n 1, 1) := by decide +kernel
theorem dX8_copy_80 : decode cX8_copy 80 = .ok (.getfield 31, 3) := by decide +kernel
theorem dX8_copy_83 : decode cX8_copy 83 = .ok (.iload_n 2, 1) := by decide +kernel
theorem dX8_copy_84 : decode cX8_copy 84 = .ok (.aaload, 1) := by decide +kernel
theorem dX8_copy_85 : decode cX8_copy 85 = .ok (.invokevirtual 61, 3) := by decide +kernel
theorem dX8_copy_88 : decode cX8_copy 88 = .ok (.aload_n 0, 1) := by decide +kernel
theorem dX8_copy_89 : decode cX8_copy 89 = .ok (.getfield 37, 3) := by decide +kernel
theorem dX8_copy_92 : decode cX8_copy 92 = .ok (.iload_n 2, 1) := by decide +kernel
theorem dX8_copy_93 : decode cX8_copy 93 = .ok (.aaload, 1) := by decide +kernel
theorem dX8_copy_94 : decode cX8_copy 94 = .ok (.aload_n 1, 1) := by decide +kernel
theorem dX8_copy_95 : decode cX8_copy 95 = .ok (.getfield 37, 3) := by decide +kernel
theorem dX8_copy_98 : decode cX8_copy 98 = .ok (.iload_n 2, 1) := by decide +kernel
theorem dX8_copy_99 : decode cX8_copy 99 = .ok (.aaload, 1) := by decide +kernel
theorem dX8_copy_100 : decode cX8_copy 100 = .ok (.invokevirtual 68, 3) := by decide +kernel
theorem dX8_copy_103 : decode cX8_copy 103 = .ok (.iinc 2 1, 3) := by decide +kernel
theorem dX8_copy_106 : decode cX8_copy 106 = .ok (.goto (-53), 3) := by decide +kernel
theorem dX8_copy_109 : decode cX8_copy 109 = .ok (.return_, 1) := by decide +kernel
theorem dX9_init_0 : decode cX9_init 0 = .ok (.aload_n 0, 1) := by decide +kernel
theorem dX9_init_1 : decode cX9_init 1 = .ok (.invokespecial 3, 3) := by decide +kernel
theorem dX9_init_4 : decode cX9_init 4 = .ok (.aload_n 0, 1) := by decide +kernel
theorem dX9_init_5 : decode cX9_init 5 = .ok (.bipush 60, 2) := by decide +kernel
theorem dX9_init_7 : decode cX9_init 7 = .ok (.newarray .int, 2) := by decide +kernel
theorem dX9_init_9 : decode cX9_init 9 = .ok (.putfield 9, 3) := by decide +kernel
theorem dX9_init_12 : decode cX9_init 12 = .ok (.aload_n 0, 1) := by decide +kernel
theorem dX9_init_13 : decode cX9_init 13 = .ok (.bipush 60, 2) := by decide +kernel
theorem dX9_init_15 : decode cX9_init 15 = .ok (.newarray .int, 2) := by decide +kernel
theorem dX9_init_17 : decode cX9_init 17 = .ok (.putfield 15, 3) := by decide +kernel
theorem dX9_init_20 : decode cX9_init 20 = .ok (.aload_n 0, 1) := by decide +kernel
theorem dX9_init_21 : decode cX9_init 21 = .ok (.bipush 60, 2) := by decide +kernel
theorem dX9_init_23 : decode cX9_init 23 = .ok (.newarray .int, 2) := by decide +kernel
theorem dX9_init_25 : decode cX9_init 25 = .ok (.putfield 18, 3) := by decide +kernel
theorem dX9_init_28 : decode cX9_init 28 = .ok (.return_, 1) := by decide +kernel
theorem dX9_copy_0 : decode cX9_copy 0 = .ok (.aload_n 0, 1) := by decide +kernel
theorem dX9_copy_1 : decode cX9_copy 1 = .ok (.aload_n 1, 1) := by decide +kernel
theorem dX9_copy_2 : decode cX9_copy 2 = .ok (.getfield 21, 3) := by decide +kernel
theorem dX9_copy_5 : decode cX9_copy 5 = .ok (.putfield 21, 3) := by decide +kernel
theorem dX9_copy_8 : decode cX9_copy 8 = .ok (.aload_n 1, 1) := by decide +kernel
theorem dX9_copy_9 : decode cX9_copy 9 = .ok (.getfield 9, 3) := by decide +kernel
theorem dX9_copy_12 : decode cX9_copy 12 = .ok (.aload_n 0, 1) := by decide +kernel
theorem dX9_copy_13 : decode cX9_copy 13 = .ok (.getfield 9, 3) := by decide +kernel
theorem dX9_copy_16 : decode cX9_copy 16 = .ok (.invokestatic 25, 3) := by decide +kernel
theorem dX9_copy_19 : decode cX9_copy 19 = .ok (.aload_n 1, 1) := by decide +kernel
theorem dX9_copy_20 : decode cX9_copy 20 = .ok (.getfield 15, 3) := by decide +kernel
theorem dX9_copy_23 : decode cX9_copy 23 = .ok (.aload_n 0, 1) := by decide +kernel
theorem dX9_copy_24 : decode cX9_copy 24 = .ok (.getfield 15, 3) := by decide +kernel
theorem dX9_copy_27 : decode cX9_copy 27 = .ok (.invokestatic 25, 3) := by decide +kernel
theorem dX9_copy_30 : decode cX9_copy 30 = .ok (.aload_n 1, 1) := by decide +kernel
theorem dX9_copy_31 : decode cX9_copy 31 = .ok (.getfield 18, 3) := by decide +kernel
theorem dX9_copy_34 : decode cX9_copy 34 = .ok (.aload_n 0, 1) := by decide +kernel
theorem dX9_copy_35 : decode cX9_copy 35 = .ok (.getfield 18, 3) := by decide +kernel
theorem dX9_copy_38 : decode cX9_copy 38 = .ok (.invokestatic 25, 3) := by decide +kernel
theorem dX9_copy_41 : decode cX9_copy 41 = .ok (.return_, 1) := by decide +kernel
theorem dX9_add_0 : decode cX9_add 0 = .ok (.aload_n 0, 1) := by decide +kernel
theorem dX9_add_1 : decode cX9_add 1 = .ok (.getfield 21, 3) := by decide +kernel
theorem dX9_add_4 : decode cX9_add 4 = .ok (.bipush 60, 2) := by decide +kernel
theorem dX9_add_6 : decode cX9_add 6 = .ok (.if_icmp .ge 43, 3) := by decide +kernel
theorem dX9_add_9 : decode cX9_add 9 = .ok (.aload_n 0, 1) := by decide +kernel
theorem dX9_add_10 : decode cX9_add 10 = .ok (.getfield 9, 3) := by decide +kernel
theorem dX9_add_13 : decode cX9_add 13 = .ok (.aload_n 0, 1) := by decide +kernel
theorem dX9_add_14 : decode cX9_add 14 = .ok (.getfield 21, 3) := by decide +kernel
theorem dX9_add_17 : decode cX9_add 17 = .ok (.iload_n 1, 1) := by decide +kernel
theorem dX9_add_18 : decode cX9_add 18 = .ok (.iastore, 1) := by decide +kernel
theorem dX9_add_19 : decode cX9_add 19 = .ok (.aload_n 0, 1) := by decide +kernel
theorem dX9_add_20 : decode cX9_add 20 = .ok (.getfield 15, 3) := by decide +kernel
theorem dX9_add_23 : decode cX9_add 23 = .ok (.aload_n 0, 1) := by decide +kernel
theorem dX9_add_24 : decode cX9_add 24 = .ok (.getfield 21, 3) := by decide +kernel
theorem dX9_add_27 : decode cX9_add 27 = .ok (.iload_n 2, 1) := by decide +kernel
theorem dX9_add_28 : decode cX9_add 28 = .ok (.iastore, 1) := by decide +kernel
theorem dX9_add_29 : decode cX9_add 29 = .ok (.aload_n 0, 1) := by decide +kernel
theorem dX9_add_30 : decode cX9_add 30 = .ok (.getfield 18, 3) := by decide +kernel
theorem dX9_add_33 : decode cX9_add 33 = .ok (.aload_n 0, 1) := by decide +kernel
theorem dX9_add_34 : decode cX9_add 34 = .ok (.getfield 21, 3) := by decide +kernel
theorem dX9_add_37 : decode cX9_add 37 = .ok (.iload_n 3, 1) := by decide +kernel
theorem dX9_add_38 : decode cX9_add 38 = .ok (.iastore, 1) := by decide +kernel
theorem dX9_add_39 : decode cX9_add 39 = .ok (.aload_n 0, 1) := by decide +kernel
theorem dX9_add_40 : decode cX9_add 40 = .ok (.dup, 1) := by decide +kernel
theorem dX9_add_41 : decode cX9_add 41 = .ok (.getfield 21, 3) := by decide +kernel
theorem dX9_add_44 : decode cX9_add 44 = .ok (.iconst 1, 1) := by decide +kernel
theorem dX9_add_45 : decode cX9_add 45 = .ok (.iadd, 1) := by decide +kernel
theorem dX9_add_46 : decode cX9_add 46 = .ok (.putfield 21, 3) := by decide +kernel
theorem dX9_add_49 : decode cX9_add 49 = .ok (.return_, 1) := by decide +kernel

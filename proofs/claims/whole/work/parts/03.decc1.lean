theorem dX11_come_68 : decode cX11_come 68 = .ok (.imul, 1) := by decide +kernel
theorem dX11_come_69 : decode cX11_come 69 = .ok (.invokestatic 345, 3) := by decide +kernel
theorem dX11_come_72 : decode cX11_come 72 = .ok (.iload 4, 2) := by decide +kernel
theorem dX11_come_74 : decode cX11_come 74 = .ok (.invokestatic 349, 3) := by decide +kernel
theorem dX11_come_77 : decode cX11_come 77 = .ok (.lreturn, 1) := by decide +kernel
theorem dX11_kinOf_0 : decode cX11_kinOf 0 = .ok (.iconst 0, 1) := by decide +kernel
theorem dX11_kinOf_1 : decode cX11_kinOf 1 = .ok (.istore_n 2, 1) := by decide +kernel
theorem dX11_kinOf_2 : decode cX11_kinOf 2 = .ok (.iconst 0, 1) := by decide +kernel
theorem dX11_kinOf_3 : decode cX11_kinOf 3 = .ok (.istore_n 3, 1) := by decide +kernel
theorem dX11_kinOf_4 : decode cX11_kinOf 4 = .ok (.iload_n 3, 1) := by decide +kernel
theorem dX11_kinOf_5 : decode cX11_kinOf 5 = .ok (.bipush 10, 2) := by decide +kernel
theorem dX11_kinOf_7 : decode cX11_kinOf 7 = .ok (.if_icmp .ge 34, 3) := by decide +kernel
theorem dX11_kinOf_10 : decode cX11_kinOf 10 = .ok (.iload_n 2, 1) := by decide +kernel
theorem dX11_kinOf_11 : decode cX11_kinOf 11 = .ok (.aload_n 0, 1) := by decide +kernel
theorem dX11_kinOf_12 : decode cX11_kinOf 12 = .ok (.getfield 23, 3) := by decide +kernel
theorem dX11_kinOf_15 : decode cX11_kinOf 15 = .ok (.bipush 10, 2) := by decide +kernel
theorem dX11_kinOf_17 : decode cX11_kinOf 17 = .ok (.iload_n 1, 1) := by decide +kernel
theorem dX11_kinOf_18 : decode cX11_kinOf 18 = .ok (.imul, 1) := by decide +kernel
theorem dX11_kinOf_19 : decode cX11_kinOf 19 = .ok (.iload_n 3, 1) := by decide +kernel
theorem dX11_kinOf_20 : decode cX11_kinOf 20 = .ok (.iadd, 1) := by decide +kernel
theorem dX11_kinOf_21 : decode cX11_kinOf 21 = .ok (.iaload, 1) := by decide +kernel
theorem dX11_kinOf_22 : decode cX11_kinOf 22 = .ok (.iconst (-1), 1) := by decide +kernel
theorem dX11_kinOf_23 : decode cX11_kinOf 23 = .ok (.if_icmp .ne 7, 3) := by decide +kernel
theorem dX11_kinOf_26 : decode cX11_kinOf 26 = .ok (.iconst 0, 1) := by decide +kernel
theorem dX11_kinOf_27 : decode cX11_kinOf 27 = .ok (.goto 6, 3) := by decide +kernel
theorem dX11_kinOf_30 : decode cX11_kinOf 30 = .ok (.iconst 1, 1) := by decide +kernel
theorem dX11_kinOf_31 : decode cX11_kinOf 31 = .ok (.iload_n 3, 1) := by decide +kernel
theorem dX11_kinOf_32 : decode cX11_kinOf 32 = .ok (.ishl, 1) := by decide +kernel
theorem dX11_kinOf_33 : decode cX11_kinOf 33 = .ok (.ior, 1) := by decide +kernel
theorem dX11_kinOf_34 : decode cX11_kinOf 34 = .ok (.istore_n 2, 1) := by decide +kernel
theorem dX11_kinOf_35 : decode cX11_kinOf 35 = .ok (.iinc 3 1, 3) := by decide +kernel
theorem dX11_kinOf_38 : decode cX11_kinOf 38 = .ok (.goto (-34), 3) := by decide +kernel
theorem dX11_kinOf_41 : decode cX11_kinOf 41 = .ok (.iload_n 2, 1) := by decide +kernel
theorem dX11_kinOf_42 : decode cX11_kinOf 42 = .ok (.ireturn, 1) := by decide +kernel
theorem dX11_kinAll_0 : decode cX11_kinAll 0 = .ok (.iconst 0, 1) := by decide +kernel
theorem dX11_kinAll_1 : decode cX11_kinAll 1 = .ok (.istore_n 2, 1) := by decide +kernel
theorem dX11_kinAll_2 : decode cX11_kinAll 2 = .ok (.iconst 0, 1) := by decide +kernel
theorem dX11_kinAll_3 : decode cX11_kinAll 3 = .ok (.istore_n 3, 1) := by decide +kernel
theorem dX11_kinAll_4 : decode cX11_kinAll 4 = .ok (.iconst 0, 1) := by decide +kernel
theorem dX11_kinAll_5 : decode cX11_kinAll 5 = .ok (.istore 4, 2) := by decide +kernel
theorem dX11_kinAll_7 : decode cX11_kinAll 7 = .ok (.iload 4, 2) := by decide +kernel
theorem dX11_kinAll_9 : decode cX11_kinAll 9 = .ok (.bipush 10, 2) := by decide +kernel
theorem dX11_kinAll_11 : decode cX11_kinAll 11 = .ok (.if_icmp .ge 60, 3) := by decide +kernel
theorem dX11_kinAll_14 : decode cX11_kinAll 14 = .ok (.iload_n 2, 1) := by decide +kernel
theorem dX11_kinAll_15 : decode cX11_kinAll 15 = .ok (.aload_n 0, 1) := by decide +kernel
theorem dX11_kinAll_16 : decode cX11_kinAll 16 = .ok (.iload 4, 2) := by decide +kernel
theorem dX11_kinAll_18 : decode cX11_kinAll 18 = .ok (.invokevirtual 353, 3) := by decide +kernel
theorem dX11_kinAll_21 : decode cX11_kinAll 21 = .ok (.iconst 1, 1) := by decide +kernel
theorem dX11_kinAll_22 : decode cX11_kinAll 22 = .ok (.iload 4, 2) := by decide +kernel
theorem dX11_kinAll_24 : decode cX11_kinAll 24 = .ok (.ishl, 1) := by decide +kernel
theorem dX11_kinAll_25 : decode cX11_kinAll 25 = .ok (.iconst 1, 1) := by decide +kernel
theorem dX11_kinAll_26 : decode cX11_kinAll 26 = .ok (.isub, 1) := by decide +kernel
theorem dX11_kinAll_27 : decode cX11_kinAll 27 = .ok (.iand, 1) := by decide +kernel
theorem dX11_kinAll_28 : decode cX11_kinAll 28 = .ok (.ifCond .ne 7, 3) := by decide +kernel
theorem dX11_kinAll_31 : decode cX11_kinAll 31 = .ok (.iconst 1, 1) := by decide +kernel
theorem dX11_kinAll_32 : decode cX11_kinAll 32 = .ok (.goto 4, 3) := by decide +kernel
theorem dX11_kinAll_35 : decode cX11_kinAll 35 = .ok (.iconst 0, 1) := by decide +kernel
theorem dX11_kinAll_36 : decode cX11_kinAll 36 = .ok (.iadd, 1) := by decide +kernel
theorem dX11_kinAll_37 : decode cX11_kinAll 37 = .ok (.istore_n 2, 1) := by decide +kernel
theorem dX11_kinAll_38 : decode cX11_kinAll 38 = .ok (.aload_n 0, 1) := by decide +kernel
theorem dX11_kinAll_39 : decode cX11_kinAll 39 = .ok (.iload 4, 2) := by decide +kernel
theorem dX11_kinAll_41 : decode cX11_kinAll 41 = .ok (.invokevirtual 353, 3) := by decide +kernel
theorem dX11_kinAll_44 : decode cX11_kinAll 44 = .ok (.invokestatic 334, 3) := by decide +kernel
theorem dX11_kinAll_47 : decode cX11_kinAll 47 = .ok (.iload_n 3, 1) := by decide +kernel
theorem dX11_kinAll_48 : decode cX11_kinAll 48 = .ok (.if_icmp .le 15, 3) := by decide +kernel
theorem dX11_kinAll_51 : decode cX11_kinAll 51 = .ok (.aload_n 0, 1) := by decide +kernel
theorem dX11_kinAll_52 : decode cX11_kinAll 52 = .ok (.iload 4, 2) := by decide +kernel
theorem dX11_kinAll_54 : decode cX11_kinAll 54 = .ok (.invokevirtual 353, 3) := by decide +kernel
theorem dX11_kinAll_57 : decode cX11_kinAll 57 = .ok (.invokestatic 334, 3) := by decide +kernel
theorem dX11_kinAll_60 : decode cX11_kinAll 60 = .ok (.goto 4, 3) := by decide +kernel
theorem dX11_kinAll_63 : decode cX11_kinAll 63 = .ok (.iload_n 3, 1) := by decide +kernel
theorem dX11_kinAll_64 : decode cX11_kinAll 64 = .ok (.istore_n 3, 1) := by decide +kernel
theorem dX11_kinAll_65 : decode cX11_kinAll 65 = .ok (.iinc 4 1, 3) := by decide +kernel
theorem dX11_kinAll_68 : decode cX11_kinAll 68 = .ok (.goto (-61), 3) := by decide +kernel
theorem dX11_kinAll_71 : decode cX11_kinAll 71 = .ok (.iload_n 1, 1) := by decide +kernel
theorem dX11_kinAll_72 : decode cX11_kinAll 72 = .ok (.ifCond .eq 7, 3) := by decide +kernel
theorem dX11_kinAll_75 : decode cX11_kinAll 75 = .ok (.iload_n 3, 1) := by decide +kernel
theorem dX11_kinAll_76 : decode cX11_kinAll 76 = .ok (.goto 4, 3) := by decide +kernel
theorem dX11_kinAll_79 : decode cX11_kinAll 79 = .ok (.iload_n 2, 1) := by decide +kernel
theorem dX11_kinAll_80 : decode cX11_kinAll 80 = .ok (.ireturn, 1) := by decide +kernel
theorem dX11_widest_0 : decode cX11_widest 0 = .ok (.iconst 0, 1) := by decide +kernel
theorem dX11_widest_1 : decode cX11_widest 1 = .ok (.istore_n 1, 1) := by decide +kernel
theorem dX11_widest_2 : decode cX11_widest 2 = .ok (.iconst 0, 1) := by decide +kernel
theorem dX11_widest_3 : decode cX11_widest 3 = .ok (.istore_n 2, 1) := by decide +kernel
theorem dX11_widest_4 : decode cX11_widest 4 = .ok (.iload_n 2, 1) := by decide +kernel
theorem dX11_widest_5 : decode cX11_widest 5 = .ok (.bipush 100, 2) := by decide +kernel
theorem dX11_widest_7 : decode cX11_widest 7 = .ok (.if_icmp .ge 30, 3) := by decide +kernel
theorem dX11_widest_10 : decode cX11_widest 10 = .ok (.aload_n 0, 1) := by decide +kernel
theorem dX11_widest_11 : decode cX11_widest 11 = .ok (.getfield 23, 3) := by decide +kernel
theorem dX11_widest_14 : decode cX11_widest 14 = .ok (.iload_n 2, 1) := by decide +kernel
theorem dX11_widest_15 : decode cX11_widest 15 = .ok (.iaload, 1) := by decide +kernel
theorem dX11_widest_16 : decode cX11_widest 16 = .ok (.iload_n 1, 1) := by decide +kernel
theorem dX11_widest_17 : decode cX11_widest 17 = .ok (.if_icmp .le 12, 3) := by decide +kernel
theorem dX11_widest_20 : decode cX11_widest 20 = .ok (.aload_n 0, 1) := by decide +kernel
theorem dX11_widest_21 : decode cX11_widest 21 = .ok (.getfield 23, 3) := by decide +kernel
theorem dX11_widest_24 : decode cX11_widest 24 = .ok (.iload_n 2, 1) := by decide +kernel
theorem dX11_widest_25 : decode cX11_widest 25 = .ok (.iaload, 1) := by decide +kernel
theorem dX11_widest_26 : decode cX11_widest 26 = .ok (.goto 4, 3) := by decide +kernel
theorem dX11_widest_29 : decode cX11_widest 29 = .ok (.iload_n 1, 1) := by decide +kernel
theorem dX11_widest_30 : decode cX11_widest 30 = .ok (.istore_n 1, 1) := by decide +kernel
theorem dX11_widest_31 : decode cX11_widest 31 = .ok (.iinc 2 1, 3) := by decide +kernel
theorem dX11_widest_34 : decode cX11_widest 34 = .ok (.goto (-30), 3) := by decide +kernel
theorem dX11_widest_37 : decode cX11_widest 37 = .ok (.iload_n 1, 1) := by decide +kernel
theorem dX11_widest_38 : decode cX11_widest 38 = .ok (.ireturn, 1) := by decide +kernel
theorem dX11_lone_0 : decode cX11_lone 0 = .ok (.iconst 0, 1) := by decide +kernel
theorem dX11_lone_1 : decode cX11_lone 1 = .ok (.istore_n 1, 1) := by decide +kernel
theorem dX11_lone_2 : decode cX11_lone 2 = .ok (.iconst 0, 1) := by decide +kernel
theorem dX11_lone_3 : decode cX11_lone 3 = .ok (.istore_n 2, 1) := by decide +kernel
theorem dX11_lone_4 : decode cX11_lone 4 = .ok (.iload_n 2, 1) := by decide +kernel
theorem dX11_lone_5 : decode cX11_lone 5 = .ok (.bipush 10, 2) := by decide +kernel
theorem dX11_lone_7 : decode cX11_lone 7 = .ok (.if_icmp .ge 28, 3) := by decide +kernel
theorem dX11_lone_10 : decode cX11_lone 10 = .ok (.iload_n 1, 1) := by decide +kernel
theorem dX11_lone_11 : decode cX11_lone 11 = .ok (.aload_n 0, 1) := by decide +kernel
theorem dX11_lone_12 : decode cX11_lone 12 = .ok (.getfield 20, 3) := by decide +kernel
theorem dX11_lone_15 : decode cX11_lone 15 = .ok (.iload_n 2, 1) := by decide +kernel
theorem dX11_lone_16 : decode cX11_lone 16 = .ok (.iaload, 1) := by decide +kernel
theorem dX11_lone_17 : decode cX11_lone 17 = .ok (.ifCond .ne 9, 3) := by decide +kernel
theorem dX11_lone_20 : decode cX11_lone 20 = .ok (.iconst 1, 1) := by decide +kernel
theorem dX11_lone_21 : decode cX11_lone 21 = .ok (.iload_n 2, 1) := by decide +kernel
theorem dX11_lone_22 : decode cX11_lone 22 = .ok (.ishl, 1) := by decide +kernel
theorem dX11_lone_23 : decode cX11_lone 23 = .ok (.goto 4, 3) := by decide +kernel
theorem dX11_lone_26 : decode cX11_lone 26 = .ok (.iconst 0, 1) := by decide +kernel
theorem dX11_lone_27 : decode cX11_lone 27 = .ok (.ior, 1) := by decide +kernel
theorem dX11_lone_28 : decode cX11_lone 28 = .ok (.istore_n 1, 1) := by decide +kernel
theorem dX11_lone_29 : decode cX11_lone 29 = .ok (.iinc 2 1, 3) := by decide +kernel
theorem dX11_lone_32 : decode cX11_lone 32 = .ok (.goto (-28), 3) := by decide +kernel
theorem dX11_lone_35 : decode cX11_lone 35 = .ok (.iload_n 1, 1) := by decide +kernel
theorem dX11_lone_36 : decode cX11_lone 36 = .ok (.ireturn, 1) := by decide +kernel
theorem dX11_parting_0 : decode cX11_parting 0 = .ok (.iconst 0, 1) := by decide +kernel
theorem dX11_parting_1 : decode cX11_parting 1 = .ok (.istore_n 2, 1) := by decide +kernel
theorem dX11_parting_2 : decode cX11_parting 2 = .ok (.ldc_w 311, 3) := by decide +kernel
theorem dX11_parting_5 : decode cX11_parting 5 = .ok (.istore_n 3, 1) := by decide +kernel
theorem dX11_parting_6 : decode cX11_parting 6 = .ok (.iconst 0, 1) := by decide +kernel
theorem dX11_parting_7 : decode cX11_parting 7 = .ok (.istore 4, 2) := by decide +kernel
theorem dX11_parting_9 : decode cX11_parting 9 = .ok (.iload 4, 2) := by decide +kernel
theorem dX11_parting_11 : decode cX11_parting 11 = .ok (.bipush 10, 2) := by decide +kernel
theorem dX11_parting_13 : decode cX11_parting 13 = .ok (.if_icmp .ge 109, 3) := by decide +kernel
theorem dX11_parting_16 : decode cX11_parting 16 = .ok (.iconst 0, 1) := by decide +kernel
theorem dX11_parting_17 : decode cX11_parting 17 = .ok (.istore 5, 2) := by decide +kernel
theorem dX11_parting_19 : decode cX11_parting 19 = .ok (.iload 5, 2) := by decide +kernel
theorem dX11_parting_21 : decode cX11_parting 21 = .ok (.iload 4, 2) := by decide +kernel
theorem dX11_parting_23 : decode cX11_parting 23 = .ok (.if_icmp .ge 93, 3) := by decide +kernel
theorem dX11_parting_26 : decode cX11_parting 26 = .ok (.aload_n 0, 1) := by decide +kernel
theorem dX11_parting_27 : decode cX11_parting 27 = .ok (.iload 4, 2) := by decide +kernel
theorem dX11_parting_29 : decode cX11_parting 29 = .ok (.iload 5, 2) := by decide +kernel
theorem dX11_parting_31 : decode cX11_parting 31 = .ok (.invokevirtual 233, 3) := by decide +kernel
theorem dX11_parting_34 : decode cX11_parting 34 = .ok (.ifCond .ne 6, 3) := by decide +kernel
theorem dX11_parting_37 : decode cX11_parting 37 = .ok (.goto 73, 3) := by decide +kernel
theorem dX11_parting_40 : decode cX11_parting 40 = .ok (.aload_n 0, 1) := by decide +kernel
theorem dX11_parting_41 : decode cX11_parting 41 = .ok (.iload 4, 2) := by decide +kernel
theorem dX11_parting_43 : decode cX11_parting 43 = .ok (.iload 5, 2) := by decide +kernel
theorem dX11_parting_45 : decode cX11_parting 45 = .ok (.iconst 0, 1) := by decide +kernel
theorem dX11_parting_46 : decode cX11_parting 46 = .ok (.invokevirtual 356, 3) := by decide +kernel
theorem dX11_parting_49 : decode cX11_parting 49 = .ok (.aload_n 0, 1) := by decide +kernel
theorem dX11_parting_50 : decode cX11_parting 50 = .ok (.getfield 23, 3) := by decide +kernel
theorem dX11_parting_53 : decode cX11_parting 53 = .ok (.bipush 10, 2) := by decide +kernel
theorem dX11_parting_55 : decode cX11_parting 55 = .ok (.iload 4, 2) := by decide +kernel
theorem dX11_parting_57 : decode cX11_parting 57 = .ok (.imul, 1) := by decide +kernel
theorem dX11_parting_58 : decode cX11_parting 58 = .ok (.iload 5, 2) := by decide +kernel
theorem dX11_parting_60 : decode cX11_parting 60 = .ok (.iadd, 1) := by decide +kernel
theorem dX11_parting_61 : decode cX11_parting 61 = .ok (.iaload, 1) := by decide +kernel
theorem dX11_parting_62 : decode cX11_parting 62 = .ok (.istore 6, 2) := by decide +kernel
theorem dX11_parting_64 : decode cX11_parting 64 = .ok (.iload_n 2, 1) := by decide +kernel
theorem dX11_parting_65 : decode cX11_parting 65 = .ok (.iload 6, 2) := by decide +kernel
theorem dX11_parting_67 : decode cX11_parting 67 = .ok (.iconst (-1), 1) := by decide +kernel
theorem dX11_parting_68 : decode cX11_parting 68 = .ok (.if_icmp .ne 7, 3) := by decide +kernel
theorem dX11_parting_71 : decode cX11_parting 71 = .ok (.iconst 1, 1) := by decide +kernel
theorem dX11_parting_72 : decode cX11_parting 72 = .ok (.goto 4, 3) := by decide +kernel
theorem dX11_parting_75 : decode cX11_parting 75 = .ok (.iconst 0, 1) := by decide +kernel
theorem dX11_parting_76 : decode cX11_parting 76 = .ok (.iadd, 1) := by decide +kernel
theorem dX11_parting_77 : decode cX11_parting 77 = .ok (.istore_n 2, 1) := by decide +kernel
theorem dX11_parting_78 : decode cX11_parting 78 = .ok (.iload 6, 2) := by decide +kernel
theorem dX11_parting_80 : decode cX11_parting 80 = .ok (.iconst (-1), 1) := by decide +kernel
theorem dX11_parting_81 : decode cX11_parting 81 = .ok (.if_icmp .eq 18, 3) := by decide +kernel
theorem dX11_parting_84 : decode cX11_parting 84 = .ok (.iload 6, 2) := by decide +kernel
theorem dX11_parting_86 : decode cX11_parting 86 = .ok (.iconst 1, 1) := by decide +kernel
theorem dX11_parting_87 : decode cX11_parting 87 = .ok (.iadd, 1) := by decide +kernel
theorem dX11_parting_88 : decode cX11_parting 88 = .ok (.iload_n 3, 1) := by decide +kernel
theorem dX11_parting_89 : decode cX11_parting 89 = .ok (.if_icmp .ge 10, 3) := by decide +kernel
theorem dX11_parting_92 : decode cX11_parting 92 = .ok (.iload 6, 2) := by decide +kernel
theorem dX11_parting_94 : decode cX11_parting 94 = .ok (.iconst 1, 1) := by decide +kernel
theorem dX11_parting_95 : decode cX11_parting 95 = .ok (.iadd, 1) := by decide +kernel
theorem dX11_parting_96 : decode cX11_parting 96 = .ok (.goto 4, 3) := by decide +kernel
theorem dX11_parting_99 : decode cX11_parting 99 = .ok (.iload_n 3, 1) := by decide +kernel
theorem dX11_parting_100 : decode cX11_parting 100 = .ok (.istore_n 3, 1) := by decide +kernel
theorem dX11_parting_101 : decode cX11_parting 101 = .ok (.aload_n 0, 1) := by decide +kernel
theorem dX11_parting_102 : decode cX11_parting 102 = .ok (.iload 4, 2) := by decide +kernel
theorem dX11_parting_104 : decode cX11_parting 104 = .ok (.iload 5, 2) := by decide +kernel
theorem dX11_parting_106 : decode cX11_parting 106 = .ok (.iconst 1, 1) := by decide +kernel
theorem dX11_parting_107 : decode cX11_parting 107 = .ok (.invokevirtual 356, 3) := by decide +kernel
theorem dX11_parting_110 : decode cX11_parting 110 = .ok (.iinc 5 1, 3) := by decide +kernel
theorem dX11_parting_113 : decode cX11_parting 113 = .ok (.goto (-94), 3) := by decide +kernel
theorem dX11_parting_116 : decode cX11_parting 116 = .ok (.iinc 4 1, 3) := by decide +kernel
theorem dX11_parting_119 : decode cX11_parting 119 = .ok (.goto (-110), 3) := by decide +kernel
theorem dX11_parting_122 : decode cX11_parting 122 = .ok (.iload_n 1, 1) := by decide +kernel
theorem dX11_parting_123 : decode cX11_parting 123 = .ok (.ifCond .ne 7, 3) := by decide +kernel
theorem dX11_parting_126 : decode cX11_parting 126 = .ok (.iload_n 2, 1) := by decide +kernel
theorem dX11_parting_127 : decode cX11_parting 127 = .ok (.goto 15, 3) := by decide +kernel
theorem dX11_parting_130 : decode cX11_parting 130 = .ok (.iload_n 3, 1) := by decide +kernel
theorem dX11_parting_131 : decode cX11_parting 131 = .ok (.ldc_w 311, 3) := by decide +kernel
theorem dX11_parting_134 : decode cX11_parting 134 = .ok (.if_icmp .ne 7, 3) := by decide +kernel
theorem dX11_parting_137 : decode cX11_parting 137 = .ok (.iconst (-1), 1) := by decide +kernel
theorem dX11_parting_138 : decode cX11_parting 138 = .ok (.goto 4, 3) := by decide +kernel
theorem dX11_parting_141 : decode cX11_parting 141 = .ok (.iload_n 3, 1) := by decide +kernel
theorem dX11_parting_142 : decode cX11_parting 142 = .ok (.ireturn, 1) := by decide +kernel
theorem dX11_kin_0 : decode cX11_kin 0 = .ok (.aload_n 0, 1) := by decide +kernel
theorem dX11_kin_1 : decode cX11_kin 1 = .ok (.iload_n 1, 1) := by decide +kernel
theorem dX11_kin_2 : decode cX11_kin 2 = .ok (.invokevirtual 209, 3) := by decide +kernel
theorem dX11_kin_5 : decode cX11_kin 5 = .ok (.ifCond .ne 6, 3) := by decide +kernel
theorem dX11_kin_8 : decode cX11_kin 8 = .ok (.bipush (-2), 2) := by decide +kernel
theorem dX11_kin_10 : decode cX11_kin 10 = .ok (.ireturn, 1) := by decide +kernel
theorem dX11_kin_11 : decode cX11_kin 11 = .ok (.iload_n 2, 1) := by decide +kernel
theorem dX11_kin_12 : decode cX11_kin 12 = .ok (.tableswitch 80 0 5 #[40, 40, 55, 60, 65, 65], 40) := by decide +kernel
theorem dX11_kin_52 : decode cX11_kin 52 = .ok (.aload_n 0, 1) := by decide +kernel
theorem dX11_kin_53 : decode cX11_kin 53 = .ok (.iload_n 2, 1) := by decide +kernel
theorem dX11_kin_54 : decode cX11_kin 54 = .ok (.iconst 1, 1) := by decide +kernel
theorem dX11_kin_55 : decode cX11_kin 55 = .ok (.if_icmp .ne 7, 3) := by decide +kernel
theorem dX11_kin_58 : decode cX11_kin 58 = .ok (.iconst 1, 1) := by decide +kernel
theorem dX11_kin_59 : decode cX11_kin 59 = .ok (.goto 4, 3) := by decide +kernel
theorem dX11_kin_62 : decode cX11_kin 62 = .ok (.iconst 0, 1) := by decide +kernel
theorem dX11_kin_63 : decode cX11_kin 63 = .ok (.invokevirtual 360, 3) := by decide +kernel
theorem dX11_kin_66 : decode cX11_kin 66 = .ok (.ireturn, 1) := by decide +kernel
theorem dX11_kin_67 : decode cX11_kin 67 = .ok (.aload_n 0, 1) := by decide +kernel
theorem dX11_kin_68 : decode cX11_kin 68 = .ok (.invokevirtual 363, 3) := by decide +kernel
theorem dX11_kin_71 : decode cX11_kin 71 = .ok (.ireturn, 1) := by decide +kernel
theorem dX11_kin_72 : decode cX11_kin 72 = .ok (.aload_n 0, 1) := by decide +kernel
theorem dX11_kin_73 : decode cX11_kin 73 = .ok (.invokevirtual 366, 3) := by decide +kernel
theorem dX11_kin_76 : decode cX11_kin 76 = .ok (.ireturn, 1) := by decide +kernel
theorem dX11_kin_77 : decode cX11_kin 77 = .ok (.aload_n 0, 1) := by decide +kernel
theorem dX11_kin_78 : decode cX11_kin 78 = .ok (.iload_n 2, 1) := by decide +kernel
theorem dX11_kin_79 : decode cX11_kin 79 = .ok (.iconst 5, 1) := by decide +kernel
theorem dX11_kin_80 : decode cX11_kin 80 = .ok (.if_icmp .ne 7, 3) := by decide +kernel
theorem dX11_kin_83 : decode cX11_kin 83 = .ok (.iconst 1, 1) := by decide +kernel
theorem dX11_kin_84 : decode cX11_kin 84 = .ok (.goto 4, 3) := by decide +kernel
theorem dX11_kin_87 : decode cX11_kin 87 = .ok (.iconst 0, 1) := by decide +kernel
theorem dX11_kin_88 : decode cX11_kin 88 = .ok (.invokevirtual 369, 3) := by decide +kernel
theorem dX11_kin_91 : decode cX11_kin 91 = .ok (.ireturn, 1) := by decide +kernel
theorem dX11_kin_92 : decode cX11_kin 92 = .ok (.bipush (-2), 2) := by decide +kernel
theorem dX11_kin_94 : decode cX11_kin 94 = .ok (.ireturn, 1) := by decide +kernel
theorem dX11_distanceOf_0 : decode cX11_distanceOf 0 = .ok (.iconst 0, 1) := by decide +kernel
theorem dX11_distanceOf_1 : decode cX11_distanceOf 1 = .ok (.istore_n 2, 1) := by decide +kernel
theorem dX11_distanceOf_2 : decode cX11_distanceOf 2 = .ok (.iconst 0, 1) := by decide +kernel
theorem dX11_distanceOf_3 : decode cX11_distanceOf 3 = .ok (.istore_n 3, 1) := by decide +kernel
theorem dX11_distanceOf_4 : decode cX11_distanceOf 4 = .ok (.iload_n 3, 1) := by decide +kernel
theorem dX11_distanceOf_5 : decode cX11_distanceOf 5 = .ok (.aload_n 0, 1) := by decide +kernel
theorem dX11_distanceOf_6 : decode cX11_distanceOf 6 = .ok (.getfield 200, 3) := by decide +kernel
theorem dX11_distanceOf_9 : decode cX11_distanceOf 9 = .ok (.if_icmp .ge 61, 3) := by decide +kernel
theorem dX11_distanceOf_12 : decode cX11_distanceOf 12 = .ok (.aload_n 0, 1) := by decide +kernel
theorem dX11_distanceOf_13 : decode cX11_distanceOf 13 = .ok (.iload_n 1, 1) := by decide +kernel
theorem dX11_distanceOf_14 : decode cX11_distanceOf 14 = .ok (.iload_n 3, 1) := by decide +kernel
theorem dX11_distanceOf_15 : decode cX11_distanceOf 15 = .ok (.invokevirtual 227, 3) := by decide +kernel
theorem dX11_distanceOf_18 : decode cX11_distanceOf 18 = .ok (.bipush 10, 2) := by decide +kernel
theorem dX11_distanceOf_20 : decode cX11_distanceOf 20 = .ok (.if_icmp .ne 7, 3) := by decide +kernel
theorem dX11_distanceOf_23 : decode cX11_distanceOf 23 = .ok (.iconst 0, 1) := by decide +kernel
theorem dX11_distanceOf_24 : decode cX11_distanceOf 24 = .ok (.goto 24, 3) := by decide +kernel
theorem dX11_distanceOf_27 : decode cX11_distanceOf 27 = .ok (.aload_n 0, 1) := by decide +kernel
theorem dX11_distanceOf_28 : decode cX11_distanceOf 28 = .ok (.getfield 23, 3) := by decide +kernel
theorem dX11_distanceOf_31 : decode cX11_distanceOf 31 = .ok (.bipush 10, 2) := by decide +kernel
theorem dX11_distanceOf_33 : decode cX11_distanceOf 33 = .ok (.aload_n 0, 1) := by decide +kernel
theorem dX11_distanceOf_34 : decode cX11_distanceOf 34 = .ok (.getfield 26, 3) := by decide +kernel
theorem dX11_distanceOf_37 : decode cX11_distanceOf 37 = .ok (.iload_n 3, 1) := by decide +kernel
theorem dX11_distanceOf_38 : decode cX11_distanceOf 38 = .ok (.iaload, 1) := by decide +kernel
theorem dX11_distanceOf_39 : decode cX11_distanceOf 39 = .ok (.imul, 1) := by decide +kernel
theorem dX11_distanceOf_40 : decode cX11_distanceOf 40 = .ok (.aload_n 0, 1) := by decide +kernel
theorem dX11_distanceOf_41 : decode cX11_distanceOf 41 = .ok (.iload_n 1, 1) := by decide +kernel
theorem dX11_distanceOf_42 : decode cX11_distanceOf 42 = .ok (.iload_n 3, 1) := by decide +kernel
theorem dX11_distanceOf_43 : decode cX11_distanceOf 43 = .ok (.invokevirtual 227, 3) := by decide +kernel
theorem dX11_distanceOf_46 : decode cX11_distanceOf 46 = .ok (.iadd, 1) := by decide +kernel
theorem dX11_distanceOf_47 : decode cX11_distanceOf 47 = .ok (.iaload, 1) := by decide +kernel
theorem dX11_distanceOf_48 : decode cX11_distanceOf 48 = .ok (.istore 4, 2) := by decide +kernel
theorem dX11_distanceOf_50 : decode cX11_distanceOf 50 = .ok (.iload_n 2, 1) := by decide +kernel
theorem dX11_distanceOf_51 : decode cX11_distanceOf 51 = .ok (.iload 4, 2) := by decide +kernel
theorem dX11_distanceOf_53 : decode cX11_distanceOf 53 = .ok (.ifCond .le 8, 3) := by decide +kernel
theorem dX11_distanceOf_56 : decode cX11_distanceOf 56 = .ok (.iload 4, 2) := by decide +kernel
theorem dX11_distanceOf_58 : decode cX11_distanceOf 58 = .ok (.goto 4, 3) := by decide +kernel
theorem dX11_distanceOf_61 : decode cX11_distanceOf 61 = .ok (.iconst 0, 1) := by decide +kernel
theorem dX11_distanceOf_62 : decode cX11_distanceOf 62 = .ok (.iadd, 1) := by decide +kernel
theorem dX11_distanceOf_63 : decode cX11_distanceOf 63 = .ok (.istore_n 2, 1) := by decide +kernel
theorem dX11_distanceOf_64 : decode cX11_distanceOf 64 = .ok (.iinc 3 1, 3) := by decide +kernel
theorem dX11_distanceOf_67 : decode cX11_distanceOf 67 = .ok (.goto (-63), 3) := by decide +kernel
theorem dX11_distanceOf_70 : decode cX11_distanceOf 70 = .ok (.iload_n 2, 1) := by decide +kernel
theorem dX11_distanceOf_71 : decode cX11_distanceOf 71 = .ok (.ireturn, 1) := by decide +kernel
theorem dX11_aloneOf_0 : decode cX11_aloneOf 0 = .ok (.iconst 0, 1) := by decide +kernel
theorem dX11_aloneOf_1 : decode cX11_aloneOf 1 = .ok (.istore_n 2, 1) := by decide +kernel
theorem dX11_aloneOf_2 : decode cX11_aloneOf 2 = .ok (.aload_n 0, 1) := by decide +kernel
theorem dX11_aloneOf_3 : decode cX11_aloneOf 3 = .ok (.iload_n 1, 1) := by decide +kernel
theorem dX11_aloneOf_4 : decode cX11_aloneOf 4 = .ok (.invokevirtual 269, 3) := by decide +kernel
theorem dX11_aloneOf_7 : decode cX11_aloneOf 7 = .ok (.ifCond .le 9, 3) := by decide +kernel
theorem dX11_aloneOf_10 : decode cX11_aloneOf 10 = .ok (.iinc 2 1, 3) := by decide +kernel
theorem dX11_aloneOf_13 : decode cX11_aloneOf 13 = .ok (.goto (-11), 3) := by decide +kernel
theorem dX11_aloneOf_16 : decode cX11_aloneOf 16 = .ok (.iload_n 2, 1) := by decide +kernel
theorem dX11_aloneOf_17 : decode cX11_aloneOf 17 = .ok (.ireturn, 1) := by decide +kernel
theorem dX11_rivalsOf_0 : decode cX11_rivalsOf 0 = .ok (.iconst 0, 1) := by decide +kernel
theorem dX11_rivalsOf_1 : decode cX11_rivalsOf 1 = .ok (.istore_n 2, 1) := by decide +kernel
theorem dX11_rivalsOf_2 : decode cX11_rivalsOf 2 = .ok (.iconst 0, 1) := by decide +kernel
theorem dX11_rivalsOf_3 : decode cX11_rivalsOf 3 = .ok (.istore_n 3, 1) := by decide +kernel
theorem dX11_rivalsOf_4 : decode cX11_rivalsOf 4 = .ok (.iload_n 3, 1) := by decide +kernel
theorem dX11_rivalsOf_5 : decode cX11_rivalsOf 5 = .ok (.aload_n 0, 1) := by decide +kernel
theorem dX11_rivalsOf_6 : decode cX11_rivalsOf 6 = .ok (.getfield 203, 3) := by decide +kernel
theorem dX11_rivalsOf_9 : decode cX11_rivalsOf 9 = .ok (.if_icmp .ge 74, 3) := by decide +kernel
theorem dX11_rivalsOf_12 : decode cX11_rivalsOf 12 = .ok (.iconst 0, 1) := by decide +kernel
theorem dX11_rivalsOf_13 : decode cX11_rivalsOf 13 = .ok (.istore 4, 2) := by decide +kernel
theorem dX11_rivalsOf_15 : decode cX11_rivalsOf 15 = .ok (.iload 4, 2) := by decide +kernel
theorem dX11_rivalsOf_17 : decode cX11_rivalsOf 17 = .ok (.aload_n 0, 1) := by decide +kernel
theorem dX11_rivalsOf_18 : decode cX11_rivalsOf 18 = .ok (.getfield 200, 3) := by decide +kernel
theorem dX11_rivalsOf_21 : decode cX11_rivalsOf 21 = .ok (.if_icmp .ge 56, 3) := by decide +kernel
theorem dX11_rivalsOf_24 : decode cX11_rivalsOf 24 = .ok (.aload_n 0, 1) := by decide +kernel
theorem dX11_rivalsOf_25 : decode cX11_rivalsOf 25 = .ok (.iload_n 1, 1) := by decide +kernel
theorem dX11_rivalsOf_26 : decode cX11_rivalsOf 26 = .ok (.iload 4, 2) := by decide +kernel
theorem dX11_rivalsOf_28 : decode cX11_rivalsOf 28 = .ok (.invokevirtual 227, 3) := by decide +kernel
theorem dX11_rivalsOf_31 : decode cX11_rivalsOf 31 = .ok (.bipush 10, 2) := by decide +kernel
theorem dX11_rivalsOf_33 : decode cX11_rivalsOf 33 = .ok (.if_icmp .eq 38, 3) := by decide +kernel
theorem dX11_rivalsOf_36 : decode cX11_rivalsOf 36 = .ok (.aload_n 0, 1) := by decide +kernel
theorem dX11_rivalsOf_37 : decode cX11_rivalsOf 37 = .ok (.iload_n 3, 1) := by decide +kernel
theorem dX11_rivalsOf_38 : decode cX11_rivalsOf 38 = .ok (.iload 4, 2) := by decide +kernel
theorem dX11_rivalsOf_40 : decode cX11_rivalsOf 40 = .ok (.invokevirtual 227, 3) := by decide +kernel
theorem dX11_rivalsOf_43 : decode cX11_rivalsOf 43 = .ok (.bipush 10, 2) := by decide +kernel
theorem dX11_rivalsOf_45 : decode cX11_rivalsOf 45 = .ok (.if_icmp .eq 26, 3) := by decide +kernel
theorem dX11_rivalsOf_48 : decode cX11_rivalsOf 48 = .ok (.aload_n 0, 1) := by decide +kernel
theorem dX11_rivalsOf_49 : decode cX11_rivalsOf 49 = .ok (.iload_n 1, 1) := by decide +kernel
theorem dX11_rivalsOf_50 : decode cX11_rivalsOf 50 = .ok (.iload 4, 2) := by decide +kernel
theorem dX11_rivalsOf_52 : decode cX11_rivalsOf 52 = .ok (.invokevirtual 227, 3) := by decide +kernel
theorem dX11_rivalsOf_55 : decode cX11_rivalsOf 55 = .ok (.aload_n 0, 1) := by decide +kernel
theorem dX11_rivalsOf_56 : decode cX11_rivalsOf 56 = .ok (.iload_n 3, 1) := by decide +kernel
theorem dX11_rivalsOf_57 : decode cX11_rivalsOf 57 = .ok (.iload 4, 2) := by decide +kernel
theorem dX11_rivalsOf_59 : decode cX11_rivalsOf 59 = .ok (.invokevirtual 227, 3) := by decide +kernel
theorem dX11_rivalsOf_62 : decode cX11_rivalsOf 62 = .ok (.if_icmp .eq 9, 3) := by decide +kernel
theorem dX11_rivalsOf_65 : decode cX11_rivalsOf 65 = .ok (.iload_n 2, 1) := by decide +kernel
theorem dX11_rivalsOf_66 : decode cX11_rivalsOf 66 = .ok (.iconst 1, 1) := by decide +kernel
theorem dX11_rivalsOf_67 : decode cX11_rivalsOf 67 = .ok (.iload_n 3, 1) := by decide +kernel
theorem dX11_rivalsOf_68 : decode cX11_rivalsOf 68 = .ok (.ishl, 1) := by decide +kernel
theorem dX11_rivalsOf_69 : decode cX11_rivalsOf 69 = .ok (.ior, 1) := by decide +kernel
theorem dX11_rivalsOf_70 : decode cX11_rivalsOf 70 = .ok (.istore_n 2, 1) := by decide +kernel
theorem dX11_rivalsOf_71 : decode cX11_rivalsOf 71 = .ok (.iinc 4 1, 3) := by decide +kernel
theorem dX11_rivalsOf_74 : decode cX11_rivalsOf 74 = .ok (.goto (-59), 3) := by decide +kernel
theorem dX11_rivalsOf_77 : decode cX11_rivalsOf 77 = .ok (.iinc 3 1, 3) := by decide +kernel
theorem dX11_rivalsOf_80 : decode cX11_rivalsOf 80 = .ok (.goto (-76), 3) := by decide +kernel
theorem dX11_rivalsOf_83 : decode cX11_rivalsOf 83 = .ok (.iload_n 2, 1) := by decide +kernel
theorem dX11_rivalsOf_84 : decode cX11_rivalsOf 84 = .ok (.ireturn, 1) := by decide +kernel
theorem dX11_distance_0 : decode cX11_distance 0 = .ok (.aload_n 0, 1) := by decide +kernel
theorem dX11_distance_1 : decode cX11_distance 1 = .ok (.iload_n 1, 1) := by decide +kernel
theorem dX11_distance_2 : decode cX11_distance 2 = .ok (.invokevirtual 209, 3) := by decide +kernel
theorem dX11_distance_5 : decode cX11_distance 5 = .ok (.ifCond .eq 11, 3) := by decide +kernel
theorem dX11_distance_8 : decode cX11_distance 8 = .ok (.aload_n 0, 1) := by decide +kernel
theorem dX11_distance_9 : decode cX11_distance 9 = .ok (.iload_n 2, 1) := by decide +kernel
theorem dX11_distance_10 : decode cX11_distance 10 = .ok (.invokevirtual 218, 3) := by decide +kernel
theorem dX11_distance_13 : decode cX11_distance 13 = .ok (.ifCond .ne 6, 3) := by decide +kernel
theorem dX11_distance_16 : decode cX11_distance 16 = .ok (.bipush (-2), 2) := by decide +kernel
theorem dX11_distance_18 : decode cX11_distance 18 = .ok (.ireturn, 1) := by decide +kernel
theorem dX11_distance_19 : decode cX11_distance 19 = .ok (.iload_n 3, 1) := by decide +kernel
theorem dX11_distance_20 : decode cX11_distance 20 = .ok (.tableswitch 46 0 2 #[28, 34, 40], 28) := by decide +kernel
theorem dX11_distance_48 : decode cX11_distance 48 = .ok (.aload_n 0, 1) := by decide +kernel
theorem dX11_distance_49 : decode cX11_distance 49 = .ok (.iload_n 2, 1) := by decide +kernel
theorem dX11_distance_50 : decode cX11_distance 50 = .ok (.invokevirtual 372, 3) := by decide +kernel
theorem dX11_distance_53 : decode cX11_distance 53 = .ok (.ireturn, 1) := by decide +kernel
theorem dX11_distance_54 : decode cX11_distance 54 = .ok (.aload_n 0, 1) := by decide +kernel
theorem dX11_distance_55 : decode cX11_distance 55 = .ok (.iload_n 2, 1) := by decide +kernel
theorem dX11_distance_56 : decode cX11_distance 56 = .ok (.invokevirtual 375, 3) := by decide +kernel
theorem dX11_distance_59 : decode cX11_distance 59 = .ok (.ireturn, 1) := by decide +kernel
theorem dX11_distance_60 : decode cX11_distance 60 = .ok (.aload_n 0, 1) := by decide +kernel
theorem dX11_distance_61 : decode cX11_distance 61 = .ok (.iload_n 2, 1) := by decide +kernel
theorem dX11_distance_62 : decode cX11_distance 62 = .ok (.invokevirtual 378, 3) := by decide +kernel
theorem dX11_distance_65 : decode cX11_distance 65 = .ok (.ireturn, 1) := by decide +kernel
theorem dX11_distance_66 : decode cX11_distance 66 = .ok (.bipush (-2), 2) := by decide +kernel
theorem dX11_distance_68 : decode cX11_distance 68 = .ok (.ireturn, 1) := by decide +kernel
theorem dX11_isPeace_0 : decode cX11_isPeace 0 = .ok (.iconst 1, 1) := by decide +kernel
theorem dX11_isPeace_1 : decode cX11_isPeace 1 = .ok (.istore_n 2, 1) := by decide +kernel
theorem dX11_isPeace_2 : decode cX11_isPeace 2 = .ok (.iconst 0, 1) := by decide +kernel
theorem dX11_isPeace_3 : decode cX11_isPeace 3 = .ok (.istore_n 3, 1) := by decide +kernel
theorem dX11_isPeace_4 : decode cX11_isPeace 4 = .ok (.iload_n 3, 1) := by decide +kernel
theorem dX11_isPeace_5 : decode cX11_isPeace 5 = .ok (.aload_n 0, 1) := by decide +kernel
theorem dX11_isPeace_6 : decode cX11_isPeace 6 = .ok (.getfield 203, 3) := by decide +kernel
theorem dX11_isPeace_9 : decode cX11_isPeace 9 = .ok (.if_icmp .ge 37, 3) := by decide +kernel
theorem dX11_isPeace_12 : decode cX11_isPeace 12 = .ok (.iload_n 2, 1) := by decide +kernel
theorem dX11_isPeace_13 : decode cX11_isPeace 13 = .ok (.ifCond .eq 25, 3) := by decide +kernel
theorem dX11_isPeace_16 : decode cX11_isPeace 16 = .ok (.iload_n 1, 1) := by decide +kernel
theorem dX11_isPeace_17 : decode cX11_isPeace 17 = .ok (.iload_n 3, 1) := by decide +kernel
theorem dX11_isPeace_18 : decode cX11_isPeace 18 = .ok (.ishr, 1) := by decide +kernel
theorem dX11_isPeace_19 : decode cX11_isPeace 19 = .ok (.iconst 1, 1) := by decide +kernel
theorem dX11_isPeace_20 : decode cX11_isPeace 20 = .ok (.iand, 1) := by decide +kernel
theorem dX11_isPeace_21 : decode cX11_isPeace 21 = .ok (.ifCond .eq 13, 3) := by decide +kernel
theorem dX11_isPeace_24 : decode cX11_isPeace 24 = .ok (.aload_n 0, 1) := by decide +kernel
theorem dX11_isPeace_25 : decode cX11_isPeace 25 = .ok (.iload_n 3, 1) := by decide +kernel
theorem dX11_isPeace_26 : decode cX11_isPeace 26 = .ok (.invokevirtual 378, 3) := by decide +kernel
theorem dX11_isPeace_29 : decode cX11_isPeace 29 = .ok (.iload_n 1, 1) := by decide +kernel
theorem dX11_isPeace_30 : decode cX11_isPeace 30 = .ok (.iand, 1) := by decide +kernel
theorem dX11_isPeace_31 : decode cX11_isPeace 31 = .ok (.ifCond .ne 7, 3) := by decide +kernel
theorem dX11_isPeace_34 : decode cX11_isPeace 34 = .ok (.iconst 1, 1) := by decide +kernel
theorem dX11_isPeace_35 : decode cX11_isPeace 35 = .ok (.goto 4, 3) := by decide +kernel
theorem dX11_isPeace_38 : decode cX11_isPeace 38 = .ok (.iconst 0, 1) := by decide +kernel
theorem dX11_isPeace_39 : decode cX11_isPeace 39 = .ok (.istore_n 2, 1) := by decide +kernel
theorem dX11_isPeace_40 : decode cX11_isPeace 40 = .ok (.iinc 3 1, 3) := by decide +kernel
theorem dX11_isPeace_43 : decode cX11_isPeace 43 = .ok (.goto (-39), 3) := by decide +kernel
theorem dX11_isPeace_46 : decode cX11_isPeace 46 = .ok (.iload_n 2, 1) := by decide +kernel
theorem dX11_isPeace_47 : decode cX11_isPeace 47 = .ok (.ireturn, 1) := by decide +kernel
theorem dX11_peace_0 : decode cX11_peace 0 = .ok (.aload_n 0, 1) := by decide +kernel
theorem dX11_peace_1 : decode cX11_peace 1 = .ok (.iload_n 1, 1) := by decide +kernel
theorem dX11_peace_2 : decode cX11_peace 2 = .ok (.invokevirtual 209, 3) := by decide +kernel
theorem dX11_peace_5 : decode cX11_peace 5 = .ok (.ifCond .ne 5, 3) := by decide +kernel
theorem dX11_peace_8 : decode cX11_peace 8 = .ok (.iconst (-1), 1) := by decide +kernel
theorem dX11_peace_9 : decode cX11_peace 9 = .ok (.ireturn, 1) := by decide +kernel
theorem dX11_peace_10 : decode cX11_peace 10 = .ok (.iconst 0, 1) := by decide +kernel
theorem dX11_peace_11 : decode cX11_peace 11 = .ok (.istore_n 3, 1) := by decide +kernel
theorem dX11_peace_12 : decode cX11_peace 12 = .ok (.iconst 1, 1) := by decide +kernel
theorem dX11_peace_13 : decode cX11_peace 13 = .ok (.istore 4, 2) := by decide +kernel
theorem dX11_peace_15 : decode cX11_peace 15 = .ok (.iload 4, 2) := by decide +kernel
theorem dX11_peace_17 : decode cX11_peace 17 = .ok (.iconst 1, 1) := by decide +kernel
theorem dX11_peace_18 : decode cX11_peace 18 = .ok (.aload_n 0, 1) := by decide +kernel
theorem dX11_peace_19 : decode cX11_peace 19 = .ok (.getfield 203, 3) := by decide +kernel
theorem dX11_peace_22 : decode cX11_peace 22 = .ok (.ishl, 1) := by decide +kernel
theorem dX11_peace_23 : decode cX11_peace 23 = .ok (.if_icmp .ge 33, 3) := by decide +kernel
theorem dX11_peace_26 : decode cX11_peace 26 = .ok (.iload 4, 2) := by decide +kernel
theorem dX11_peace_28 : decode cX11_peace 28 = .ok (.invokestatic 334, 3) := by decide +kernel
theorem dX11_peace_31 : decode cX11_peace 31 = .ok (.iload_n 3, 1) := by decide +kernel
theorem dX11_peace_32 : decode cX11_peace 32 = .ok (.invokestatic 334, 3) := by decide +kernel
theorem dX11_peace_35 : decode cX11_peace 35 = .ok (.if_icmp .le 15, 3) := by decide +kernel
theorem dX11_peace_38 : decode cX11_peace 38 = .ok (.aload_n 0, 1) := by decide +kernel
theorem dX11_peace_39 : decode cX11_peace 39 = .ok (.iload 4, 2) := by decide +kernel
theorem dX11_peace_41 : decode cX11_peace 41 = .ok (.invokevirtual 381, 3) := by decide +kernel
theorem dX11_peace_44 : decode cX11_peace 44 = .ok (.ifCond .eq 6, 3) := by decide +kernel
theorem dX11_peace_47 : decode cX11_peace 47 = .ok (.iload 4, 2) := by decide +kernel
theorem dX11_peace_49 : decode cX11_peace 49 = .ok (.istore_n 3, 1) := by decide +kernel
theorem dX11_peace_50 : decode cX11_peace 50 = .ok (.iinc 4 1, 3) := by decide +kernel
theorem dX11_peace_53 : decode cX11_peace 53 = .ok (.goto (-38), 3) := by decide +kernel
theorem dX11_peace_56 : decode cX11_peace 56 = .ok (.iload_n 2, 1) := by decide +kernel
theorem dX11_peace_57 : decode cX11_peace 57 = .ok (.ifCond .eq 7, 3) := by decide +kernel
theorem dX11_peace_60 : decode cX11_peace 60 = .ok (.iload_n 3, 1) := by decide +kernel
theorem dX11_peace_61 : decode cX11_peace 61 = .ok (.goto 7, 3) := by decide +kernel
theorem dX11_peace_64 : decode cX11_peace 64 = .ok (.iload_n 3, 1) := by decide +kernel
theorem dX11_peace_65 : decode cX11_peace 65 = .ok (.invokestatic 334, 3) := by decide +kernel
theorem dX11_peace_68 : decode cX11_peace 68 = .ok (.ireturn, 1) := by decide +kernel
theorem dX11_togetherFrom_0 : decode cX11_togetherFrom 0 = .ok (.iconst 0, 1) := by decide +kernel
theorem dX11_togetherFrom_1 : decode cX11_togetherFrom 1 = .ok (.istore_n 3, 1) := by decide +kernel
theorem dX11_togetherFrom_2 : decode cX11_togetherFrom 2 = .ok (.iconst 0, 1) := by decide +kernel
theorem dX11_togetherFrom_3 : decode cX11_togetherFrom 3 = .ok (.istore 4, 2) := by decide +kernel
theorem dX11_togetherFrom_5 : decode cX11_togetherFrom 5 = .ok (.iload 4, 2) := by decide +kernel
theorem dX11_togetherFrom_7 : decode cX11_togetherFrom 7 = .ok (.aload_n 0, 1) := by decide +kernel
theorem dX11_togetherFrom_8 : decode cX11_togetherFrom 8 = .ok (.getfield 203, 3) := by decide +kernel
theorem dX11_togetherFrom_11 : decode cX11_togetherFrom 11 = .ok (.if_icmp .ge 59, 3) := by decide +kernel
theorem dX11_togetherFrom_14 : decode cX11_togetherFrom 14 = .ok (.aload_n 0, 1) := by decide +kernel
theorem dX11_togetherFrom_15 : decode cX11_togetherFrom 15 = .ok (.iload 4, 2) := by decide +kernel
theorem dX11_togetherFrom_17 : decode cX11_togetherFrom 17 = .ok (.iload_n 2, 1) := by decide +kernel
theorem dX11_togetherFrom_18 : decode cX11_togetherFrom 18 = .ok (.invokevirtual 227, 3) := by decide +kernel
theorem dX11_togetherFrom_21 : decode cX11_togetherFrom 21 = .ok (.bipush 10, 2) := by decide +kernel
theorem dX11_togetherFrom_23 : decode cX11_togetherFrom 23 = .ok (.if_icmp .ne 6, 3) := by decide +kernel
theorem dX11_togetherFrom_26 : decode cX11_togetherFrom 26 = .ok (.goto 38, 3) := by decide +kernel
theorem dX11_togetherFrom_29 : decode cX11_togetherFrom 29 = .ok (.aload_n 0, 1) := by decide +kernel
theorem dX11_togetherFrom_30 : decode cX11_togetherFrom 30 = .ok (.getfield 23, 3) := by decide +kernel
theorem dX11_togetherFrom_33 : decode cX11_togetherFrom 33 = .ok (.bipush 10, 2) := by decide +kernel
theorem dX11_togetherFrom_35 : decode cX11_togetherFrom 35 = .ok (.iload_n 1, 1) := by decide +kernel
theorem dX11_togetherFrom_36 : decode cX11_togetherFrom 36 = .ok (.imul, 1) := by decide +kernel
theorem dX11_togetherFrom_37 : decode cX11_togetherFrom 37 = .ok (.aload_n 0, 1) := by decide +kernel
theorem dX11_togetherFrom_38 : decode cX11_togetherFrom 38 = .ok (.iload 4, 2) := by decide +kernel
theorem dX11_togetherFrom_40 : decode cX11_togetherFrom 40 = .ok (.iload_n 2, 1) := by decide +kernel
theorem dX11_togetherFrom_41 : decode cX11_togetherFrom 41 = .ok (.invokevirtual 227, 3) := by decide +kernel
theorem dX11_togetherFrom_44 : decode cX11_togetherFrom 44 = .ok (.iadd, 1) := by decide +kernel
theorem dX11_togetherFrom_45 : decode cX11_togetherFrom 45 = .ok (.iaload, 1) := by decide +kernel
theorem dX11_togetherFrom_46 : decode cX11_togetherFrom 46 = .ok (.istore 5, 2) := by decide +kernel
theorem dX11_togetherFrom_48 : decode cX11_togetherFrom 48 = .ok (.iload_n 3, 1) := by decide +kernel
theorem dX11_togetherFrom_49 : decode cX11_togetherFrom 49 = .ok (.iload 5, 2) := by decide +kernel
theorem dX11_togetherFrom_51 : decode cX11_togetherFrom 51 = .ok (.iconst (-1), 1) := by decide +kernel
theorem dX11_togetherFrom_52 : decode cX11_togetherFrom 52 = .ok (.if_icmp .ne 8, 3) := by decide +kernel
theorem dX11_togetherFrom_55 : decode cX11_togetherFrom 55 = .ok (.bipush 10, 2) := by decide +kernel
theorem dX11_togetherFrom_57 : decode cX11_togetherFrom 57 = .ok (.goto 5, 3) := by decide +kernel
theorem dX11_togetherFrom_60 : decode cX11_togetherFrom 60 = .ok (.iload 5, 2) := by decide +kernel
theorem dX11_togetherFrom_62 : decode cX11_togetherFrom 62 = .ok (.iadd, 1) := by decide +kernel
theorem dX11_togetherFrom_63 : decode cX11_togetherFrom 63 = .ok (.istore_n 3, 1) := by decide +kernel
theorem dX11_togetherFrom_64 : decode cX11_togetherFrom 64 = .ok (.iinc 4 1, 3) := by decide +kernel
theorem dX11_togetherFrom_67 : decode cX11_togetherFrom 67 = .ok (.goto (-62), 3) := by decide +kernel
theorem dX11_togetherFrom_70 : decode cX11_togetherFrom 70 = .ok (.iload_n 3, 1) := by decide +kernel
theorem dX11_togetherFrom_71 : decode cX11_togetherFrom 71 = .ok (.ireturn, 1) := by decide +kernel
theorem dX11_median_0 : decode cX11_median 0 = .ok (.aload_n 0, 1) := by decide +kernel
theorem dX11_median_1 : decode cX11_median 1 = .ok (.iload_n 1, 1) := by decide +kernel
theorem dX11_median_2 : decode cX11_median 2 = .ok (.invokevirtual 209, 3) := by decide +kernel
theorem dX11_median_5 : decode cX11_median 5 = .ok (.ifCond .eq 11, 3) := by decide +kernel
theorem dX11_median_8 : decode cX11_median 8 = .ok (.aload_n 0, 1) := by decide +kernel
theorem dX11_median_9 : decode cX11_median 9 = .ok (.iload_n 2, 1) := by decide +kernel
theorem dX11_median_10 : decode cX11_median 10 = .ok (.invokevirtual 212, 3) := by decide +kernel
theorem dX11_median_13 : decode cX11_median 13 = .ok (.ifCond .ne 5, 3) := by decide +kernel
theorem dX11_median_16 : decode cX11_median 16 = .ok (.iconst (-1), 1) := by decide +kernel
theorem dX11_median_17 : decode cX11_median 17 = .ok (.ireturn, 1) := by decide +kernel
theorem dX11_median_18 : decode cX11_median 18 = .ok (.iconst 0, 1) := by decide +kernel
theorem dX11_median_19 : decode cX11_median 19 = .ok (.istore 4, 2) := by decide +kernel
theorem dX11_median_21 : decode cX11_median 21 = .ok (.iconst 1, 1) := by decide +kernel
theorem dX11_median_22 : decode cX11_median 22 = .ok (.istore 5, 2) := by decide +kernel
theorem dX11_median_24 : decode cX11_median 24 = .ok (.iload 5, 2) := by decide +kernel
theorem dX11_median_26 : decode cX11_median 26 = .ok (.bipush 10, 2) := by decide +kernel
theorem dX11_median_28 : decode cX11_median 28 = .ok (.if_icmp .ge 35, 3) := by decide +kernel
theorem dX11_median_31 : decode cX11_median 31 = .ok (.aload_n 0, 1) := by decide +kernel
theorem dX11_median_32 : decode cX11_median 32 = .ok (.iload 5, 2) := by decide +kernel
theorem dX11_median_34 : decode cX11_median 34 = .ok (.iload_n 2, 1) := by decide +kernel
theorem dX11_median_35 : decode cX11_median 35 = .ok (.invokevirtual 384, 3) := by decide +kernel
theorem dX11_median_38 : decode cX11_median 38 = .ok (.aload_n 0, 1) := by decide +kernel
theorem dX11_median_39 : decode cX11_median 39 = .ok (.iload 4, 2) := by decide +kernel
theorem dX11_median_41 : decode cX11_median 41 = .ok (.iload_n 2, 1) := by decide +kernel
theorem dX11_median_42 : decode cX11_median 42 = .ok (.invokevirtual 384, 3) := by decide +kernel
theorem dX11_median_45 : decode cX11_median 45 = .ok (.if_icmp .ge 8, 3) := by decide +kernel
theorem dX11_median_48 : decode cX11_median 48 = .ok (.iload 5, 2) := by decide +kernel
theorem dX11_median_50 : decode cX11_median 50 = .ok (.goto 5, 3) := by decide +kernel
theorem dX11_median_53 : decode cX11_median 53 = .ok (.iload 4, 2) := by decide +kernel
theorem dX11_median_55 : decode cX11_median 55 = .ok (.istore 4, 2) := by decide +kernel
theorem dX11_median_57 : decode cX11_median 57 = .ok (.iinc 5 1, 3) := by decide +kernel
theorem dX11_median_60 : decode cX11_median 60 = .ok (.goto (-36), 3) := by decide +kernel
theorem dX11_median_63 : decode cX11_median 63 = .ok (.iload_n 3, 1) := by decide +kernel
theorem dX11_median_64 : decode cX11_median 64 = .ok (.ifCond .eq 13, 3) := by decide +kernel
theorem dX11_median_67 : decode cX11_median 67 = .ok (.aload_n 0, 1) := by decide +kernel
theorem dX11_median_68 : decode cX11_median 68 = .ok (.iload 4, 2) := by decide +kernel
theorem dX11_median_70 : decode cX11_median 70 = .ok (.iload_n 2, 1) := by decide +kernel
theorem dX11_median_71 : decode cX11_median 71 = .ok (.invokevirtual 384, 3) := by decide +kernel
theorem dX11_median_74 : decode cX11_median 74 = .ok (.goto 5, 3) := by decide +kernel
theorem dX11_median_77 : decode cX11_median 77 = .ok (.iload 4, 2) := by decide +kernel
theorem dX11_median_79 : decode cX11_median 79 = .ok (.ireturn, 1) := by decide +kernel
theorem dX11_laysRise_0 : decode cX11_laysRise 0 = .ok (.iconst 0, 1) := by decide +kernel
theorem dX11_laysRise_1 : decode cX11_laysRise 1 = .ok (.istore_n 1, 1) := by decide +kernel
theorem dX11_laysRise_2 : decode cX11_laysRise 2 = .ok (.aload_n 0, 1) := by decide +kernel
theorem dX11_laysRise_3 : decode cX11_laysRise 3 = .ok (.getfield 200, 3) := by decide +kernel
theorem dX11_laysRise_6 : decode cX11_laysRise 6 = .ok (.iconst 1, 1) := by decide +kernel
theorem dX11_laysRise_7 : decode cX11_laysRise 7 = .ok (.isub, 1) := by decide +kernel
theorem dX11_laysRise_8 : decode cX11_laysRise 8 = .ok (.istore_n 2, 1) := by decide +kernel
theorem dX11_laysRise_9 : decode cX11_laysRise 9 = .ok (.iload_n 2, 1) := by decide +kernel
theorem dX11_laysRise_10 : decode cX11_laysRise 10 = .ok (.ifCond .lt 99, 3) := by decide +kernel
theorem dX11_laysRise_13 : decode cX11_laysRise 13 = .ok (.aload_n 0, 1) := by decide +kernel
theorem dX11_laysRise_14 : decode cX11_laysRise 14 = .ok (.getfield 62, 3) := by decide +kernel
theorem dX11_laysRise_17 : decode cX11_laysRise 17 = .ok (.iload_n 2, 1) := by decide +kernel
theorem dX11_laysRise_18 : decode cX11_laysRise 18 = .ok (.iconst 1, 1) := by decide +kernel
theorem dX11_laysRise_19 : decode cX11_laysRise 19 = .ok (.iastore, 1) := by decide +kernel
theorem dX11_laysRise_20 : decode cX11_laysRise 20 = .ok (.iload_n 2, 1) := by decide +kernel
theorem dX11_laysRise_21 : decode cX11_laysRise 21 = .ok (.iconst 1, 1) := by decide +kernel
theorem dX11_laysRise_22 : decode cX11_laysRise 22 = .ok (.iadd, 1) := by decide +kernel
theorem dX11_laysRise_23 : decode cX11_laysRise 23 = .ok (.istore_n 3, 1) := by decide +kernel
theorem dX11_laysRise_24 : decode cX11_laysRise 24 = .ok (.iload_n 3, 1) := by decide +kernel
theorem dX11_laysRise_25 : decode cX11_laysRise 25 = .ok (.aload_n 0, 1) := by decide +kernel
theorem dX11_laysRise_26 : decode cX11_laysRise 26 = .ok (.getfield 200, 3) := by decide +kernel
theorem dX11_laysRise_29 : decode cX11_laysRise 29 = .ok (.if_icmp .ge 53, 3) := by decide +kernel
theorem dX11_laysRise_32 : decode cX11_laysRise 32 = .ok (.aload_n 0, 1) := by decide +kernel
theorem dX11_laysRise_33 : decode cX11_laysRise 33 = .ok (.getfield 26, 3) := by decide +kernel
theorem dX11_laysRise_36 : decode cX11_laysRise 36 = .ok (.iload_n 3, 1) := by decide +kernel
theorem dX11_laysRise_37 : decode cX11_laysRise 37 = .ok (.iaload, 1) := by decide +kernel
theorem dX11_laysRise_38 : decode cX11_laysRise 38 = .ok (.aload_n 0, 1) := by decide +kernel
theorem dX11_laysRise_39 : decode cX11_laysRise 39 = .ok (.getfield 26, 3) := by decide +kernel
theorem dX11_laysRise_42 : decode cX11_laysRise 42 = .ok (.iload_n 2, 1) := by decide +kernel
theorem dX11_laysRise_43 : decode cX11_laysRise 43 = .ok (.iaload, 1) := by decide +kernel
theorem dX11_laysRise_44 : decode cX11_laysRise 44 = .ok (.if_icmp .le 32, 3) := by decide +kernel
theorem dX11_laysRise_47 : decode cX11_laysRise 47 = .ok (.aload_n 0, 1) := by decide +kernel
theorem dX11_laysRise_48 : decode cX11_laysRise 48 = .ok (.getfield 62, 3) := by decide +kernel
theorem dX11_laysRise_51 : decode cX11_laysRise 51 = .ok (.iload_n 3, 1) := by decide +kernel
theorem dX11_laysRise_52 : decode cX11_laysRise 52 = .ok (.iaload, 1) := by decide +kernel
theorem dX11_laysRise_53 : decode cX11_laysRise 53 = .ok (.aload_n 0, 1) := by decide +kernel
theorem dX11_laysRise_54 : decode cX11_laysRise 54 = .ok (.getfield 62, 3) := by decide +kernel
theorem dX11_laysRise_57 : decode cX11_laysRise 57 = .ok (.iload_n 2, 1) := by decide +kernel
theorem dX11_laysRise_58 : decode cX11_laysRise 58 = .ok (.iaload, 1) := by decide +kernel
theorem dX11_laysRise_59 : decode cX11_laysRise 59 = .ok (.if_icmp .lt 17, 3) := by decide +kernel
theorem dX11_laysRise_62 : decode cX11_laysRise 62 = .ok (.aload_n 0, 1) := by decide +kernel
theorem dX11_laysRise_63 : decode cX11_laysRise 63 = .ok (.getfield 62, 3) := by decide +kernel
theorem dX11_laysRise_66 : decode cX11_laysRise 66 = .ok (.iload_n 2, 1) := by decide +kernel
theorem dX11_laysRise_67 : decode cX11_laysRise 67 = .ok (.aload_n 0, 1) := by decide +kernel
theorem dX11_laysRise_68 : decode cX11_laysRise 68 = .ok (.getfield 62, 3) := by decide +kernel
theorem dX11_laysRise_71 : decode cX11_laysRise 71 = .ok (.iload_n 3, 1) := by decide +kernel
theorem dX11_laysRise_72 : decode cX11_laysRise 72 = .ok (.iaload, 1) := by decide +kernel
theorem dX11_laysRise_73 : decode cX11_laysRise 73 = .ok (.iconst 1, 1) := by decide +kernel
theorem dX11_laysRise_74 : decode cX11_laysRise 74 = .ok (.iadd, 1) := by decide +kernel
theorem dX11_laysRise_75 : decode cX11_laysRise 75 = .ok (.iastore, 1) := by decide +kernel
theorem dX11_laysRise_76 : decode cX11_laysRise 76 = .ok (.iinc 3 1, 3) := by decide +kernel
theorem dX11_laysRise_79 : decode cX11_laysRise 79 = .ok (.goto (-55), 3) := by decide +kernel
theorem dX11_laysRise_82 : decode cX11_laysRise 82 = .ok (.aload_n 0, 1) := by decide +kernel
theorem dX11_laysRise_83 : decode cX11_laysRise 83 = .ok (.getfield 62, 3) := by decide +kernel
theorem dX11_laysRise_86 : decode cX11_laysRise 86 = .ok (.iload_n 2, 1) := by decide +kernel
theorem dX11_laysRise_87 : decode cX11_laysRise 87 = .ok (.iaload, 1) := by decide +kernel
theorem dX11_laysRise_88 : decode cX11_laysRise 88 = .ok (.iload_n 1, 1) := by decide +kernel
theorem dX11_laysRise_89 : decode cX11_laysRise 89 = .ok (.if_icmp .le 12, 3) := by decide +kernel
theorem dX11_laysRise_92 : decode cX11_laysRise 92 = .ok (.aload_n 0, 1) := by decide +kernel
theorem dX11_laysRise_93 : decode cX11_laysRise 93 = .ok (.getfield 62, 3) := by decide +kernel
theorem dX11_laysRise_96 : decode cX11_laysRise 96 = .ok (.iload_n 2, 1) := by decide +kernel
theorem dX11_laysRise_97 : decode cX11_laysRise 97 = .ok (.iaload, 1) := by decide +kernel
theorem dX11_laysRise_98 : decode cX11_laysRise 98 = .ok (.goto 4, 3) := by decide +kernel
theorem dX11_laysRise_101 : decode cX11_laysRise 101 = .ok (.iload_n 1, 1) := by decide +kernel
theorem dX11_laysRise_102 : decode cX11_laysRise 102 = .ok (.istore_n 1, 1) := by decide +kernel
theorem dX11_laysRise_103 : decode cX11_laysRise 103 = .ok (.iinc 2 (-1), 3) := by decide +kernel
theorem dX11_laysRise_106 : decode cX11_laysRise 106 = .ok (.goto (-97), 3) := by decide +kernel
theorem dX11_laysRise_109 : decode cX11_laysRise 109 = .ok (.iload_n 1, 1) := by decide +kernel
theorem dX11_laysRise_110 : decode cX11_laysRise 110 = .ok (.ireturn, 1) := by decide +kernel
theorem dX11_riseAt_0 : decode cX11_riseAt 0 = .ok (.aload_n 0, 1) := by decide +kernel
theorem dX11_riseAt_1 : decode cX11_riseAt 1 = .ok (.invokevirtual 387, 3) := by decide +kernel
theorem dX11_riseAt_4 : decode cX11_riseAt 4 = .ok (.istore_n 2, 1) := by decide +kernel
theorem dX11_riseAt_5 : decode cX11_riseAt 5 = .ok (.iload_n 1, 1) := by decide +kernel
theorem dX11_riseAt_6 : decode cX11_riseAt 6 = .ok (.iload_n 2, 1) := by decide +kernel
theorem dX11_riseAt_7 : decode cX11_riseAt 7 = .ok (.if_icmp .lt 6, 3) := by decide +kernel
theorem dX11_riseAt_10 : decode cX11_riseAt 10 = .ok (.bipush (-2), 2) := by decide +kernel
theorem dX11_riseAt_12 : decode cX11_riseAt 12 = .ok (.ireturn, 1) := by decide +kernel
theorem dX11_riseAt_13 : decode cX11_riseAt 13 = .ok (.iconst (-1), 1) := by decide +kernel
theorem dX11_riseAt_14 : decode cX11_riseAt 14 = .ok (.istore_n 3, 1) := by decide +kernel
theorem dX11_riseAt_15 : decode cX11_riseAt 15 = .ok (.iconst 0, 1) := by decide +kernel
theorem dX11_riseAt_16 : decode cX11_riseAt 16 = .ok (.istore 4, 2) := by decide +kernel
theorem dX11_riseAt_18 : decode cX11_riseAt 18 = .ok (.iload 4, 2) := by decide +kernel
theorem dX11_riseAt_20 : decode cX11_riseAt 20 = .ok (.iload_n 1, 1) := by decide +kernel
theorem dX11_riseAt_21 : decode cX11_riseAt 21 = .ok (.if_icmp .gt 58, 3) := by decide +kernel
theorem dX11_riseAt_24 : decode cX11_riseAt 24 = .ok (.iload_n 3, 1) := by decide +kernel
theorem dX11_riseAt_25 : decode cX11_riseAt 25 = .ok (.iconst 1, 1) := by decide +kernel
theorem dX11_riseAt_26 : decode cX11_riseAt 26 = .ok (.iadd, 1) := by decide +kernel
theorem dX11_riseAt_27 : decode cX11_riseAt 27 = .ok (.istore 5, 2) := by decide +kernel
theorem dX11_riseAt_29 : decode cX11_riseAt 29 = .ok (.aload_n 0, 1) := by decide +kernel
theorem dX11_riseAt_30 : decode cX11_riseAt 30 = .ok (.getfield 62, 3) := by decide +kernel
theorem dX11_riseAt_33 : decode cX11_riseAt 33 = .ok (.iload 5, 2) := by decide +kernel
theorem dX11_riseAt_35 : decode cX11_riseAt 35 = .ok (.iaload, 1) := by decide +kernel
theorem dX11_riseAt_36 : decode cX11_riseAt 36 = .ok (.iload_n 2, 1) := by decide +kernel
theorem dX11_riseAt_37 : decode cX11_riseAt 37 = .ok (.iload 4, 2) := by decide +kernel
theorem dX11_riseAt_39 : decode cX11_riseAt 39 = .ok (.isub, 1) := by decide +kernel
theorem dX11_riseAt_40 : decode cX11_riseAt 40 = .ok (.if_icmp .ne 24, 3) := by decide +kernel
theorem dX11_riseAt_43 : decode cX11_riseAt 43 = .ok (.iload_n 3, 1) := by decide +kernel
theorem dX11_riseAt_44 : decode cX11_riseAt 44 = .ok (.iconst (-1), 1) := by decide +kernel
theorem dX11_riseAt_45 : decode cX11_riseAt 45 = .ok (.if_icmp .eq 25, 3) := by decide +kernel
theorem dX11_riseAt_48 : decode cX11_riseAt 48 = .ok (.aload_n 0, 1) := by decide +kernel
theorem dX11_riseAt_49 : decode cX11_riseAt 49 = .ok (.getfield 26, 3) := by decide +kernel
theorem dX11_riseAt_52 : decode cX11_riseAt 52 = .ok (.iload 5, 2) := by decide +kernel
theorem dX11_riseAt_54 : decode cX11_riseAt 54 = .ok (.iaload, 1) := by decide +kernel
theorem dX11_riseAt_55 : decode cX11_riseAt 55 = .ok (.aload_n 0, 1) := by decide +kernel
theorem dX11_riseAt_56 : decode cX11_riseAt 56 = .ok (.getfield 26, 3) := by decide +kernel
theorem dX11_riseAt_59 : decode cX11_riseAt 59 = .ok (.iload_n 3, 1) := by decide +kernel
theorem dX11_riseAt_60 : decode cX11_riseAt 60 = .ok (.iaload, 1) := by decide +kernel
theorem dX11_riseAt_61 : decode cX11_riseAt 61 = .ok (.if_icmp .gt 9, 3) := by decide +kernel
theorem dX11_riseAt_64 : decode cX11_riseAt 64 = .ok (.iinc 5 1, 3) := by decide +kernel
theorem dX11_riseAt_67 : decode cX11_riseAt 67 = .ok (.goto (-38), 3) := by decide +kernel
theorem dX11_riseAt_70 : decode cX11_riseAt 70 = .ok (.iload 5, 2) := by decide +kernel
theorem dX11_riseAt_72 : decode cX11_riseAt 72 = .ok (.istore_n 3, 1) := by decide +kernel
theorem dX11_riseAt_73 : decode cX11_riseAt 73 = .ok (.iinc 4 1, 3) := by decide +kernel
theorem dX11_riseAt_76 : decode cX11_riseAt 76 = .ok (.goto (-58), 3) := by decide +kernel
theorem dX11_riseAt_79 : decode cX11_riseAt 79 = .ok (.iload_n 3, 1) := by decide +kernel
theorem dX11_riseAt_80 : decode cX11_riseAt 80 = .ok (.ireturn, 1) := by decide +kernel
theorem dX11_bendOf_0 : decode cX11_bendOf 0 = .ok (.iconst 0, 1) := by decide +kernel
theorem dX11_bendOf_1 : decode cX11_bendOf 1 = .ok (.istore_n 1, 1) := by decide +kernel
theorem dX11_bendOf_2 : decode cX11_bendOf 2 = .ok (.iconst 0, 1) := by decide +kernel
theorem dX11_bendOf_3 : decode cX11_bendOf 3 = .ok (.istore_n 2, 1) := by decide +kernel
theorem dX11_bendOf_4 : decode cX11_bendOf 4 = .ok (.iload_n 2, 1) := by decide +kernel
theorem dX11_bendOf_5 : decode cX11_bendOf 5 = .ok (.aload_n 0, 1) := by decide +kernel
theorem dX11_bendOf_6 : decode cX11_bendOf 6 = .ok (.getfield 200, 3) := by decide +kernel
theorem dX11_bendOf_9 : decode cX11_bendOf 9 = .ok (.iconst 2, 1) := by decide +kernel
theorem dX11_bendOf_10 : decode cX11_bendOf 10 = .ok (.idiv, 1) := by decide +kernel
theorem dX11_bendOf_11 : decode cX11_bendOf 11 = .ok (.if_icmp .ge 39, 3) := by decide +kernel
theorem dX11_bendOf_14 : decode cX11_bendOf 14 = .ok (.iload_n 1, 1) := by decide +kernel
theorem dX11_bendOf_15 : decode cX11_bendOf 15 = .ok (.aload_n 0, 1) := by decide +kernel
theorem dX11_bendOf_16 : decode cX11_bendOf 16 = .ok (.getfield 26, 3) := by decide +kernel
theorem dX11_bendOf_19 : decode cX11_bendOf 19 = .ok (.iload_n 2, 1) := by decide +kernel
theorem dX11_bendOf_20 : decode cX11_bendOf 20 = .ok (.iaload, 1) := by decide +kernel
theorem dX11_bendOf_21 : decode cX11_bendOf 21 = .ok (.aload_n 0, 1) := by decide +kernel
theorem dX11_bendOf_22 : decode cX11_bendOf 22 = .ok (.getfield 26, 3) := by decide +kernel
theorem dX11_bendOf_25 : decode cX11_bendOf 25 = .ok (.aload_n 0, 1) := by decide +kernel
theorem dX11_bendOf_26 : decode cX11_bendOf 26 = .ok (.getfield 200, 3) := by decide +kernel
theorem dX11_bendOf_29 : decode cX11_bendOf 29 = .ok (.iconst 1, 1) := by decide +kernel
theorem dX11_bendOf_30 : decode cX11_bendOf 30 = .ok (.isub, 1) := by decide +kernel
theorem dX11_bendOf_31 : decode cX11_bendOf 31 = .ok (.iload_n 2, 1) := by decide +kernel
theorem dX11_bendOf_32 : decode cX11_bendOf 32 = .ok (.isub, 1) := by decide +kernel
theorem dX11_bendOf_33 : decode cX11_bendOf 33 = .ok (.iaload, 1) := by decide +kernel
theorem dX11_bendOf_34 : decode cX11_bendOf 34 = .ok (.if_icmp .ne 7, 3) := by decide +kernel
theorem dX11_bendOf_37 : decode cX11_bendOf 37 = .ok (.iconst 0, 1) := by decide +kernel
theorem dX11_bendOf_38 : decode cX11_bendOf 38 = .ok (.goto 4, 3) := by decide +kernel
theorem dX11_bendOf_41 : decode cX11_bendOf 41 = .ok (.iconst 1, 1) := by decide +kernel
theorem dX11_bendOf_42 : decode cX11_bendOf 42 = .ok (.iadd, 1) := by decide +kernel
theorem dX11_bendOf_43 : decode cX11_bendOf 43 = .ok (.istore_n 1, 1) := by decide +kernel
theorem dX11_bendOf_44 : decode cX11_bendOf 44 = .ok (.iinc 2 1, 3) := by decide +kernel
theorem dX11_bendOf_47 : decode cX11_bendOf 47 = .ok (.goto (-43), 3) := by decide +kernel
theorem dX11_bendOf_50 : decode cX11_bendOf 50 = .ok (.iload_n 1, 1) := by decide +kernel
theorem dX11_bendOf_51 : decode cX11_bendOf 51 = .ok (.ireturn, 1) := by decide +kernel
theorem dX11_twiceOf_0 : decode cX11_twiceOf 0 = .ok (.iconst 0, 1) := by decide +kernel
theorem dX11_twiceOf_1 : decode cX11_twiceOf 1 = .ok (.istore_n 1, 1) := by decide +kernel
theorem dX11_twiceOf_2 : decode cX11_twiceOf 2 = .ok (.iconst 0, 1) := by decide +kernel
theorem dX11_twiceOf_3 : decode cX11_twiceOf 3 = .ok (.istore_n 2, 1) := by decide +kernel
theorem dX11_twiceOf_4 : decode cX11_twiceOf 4 = .ok (.iload_n 2, 1) := by decide +kernel
theorem dX11_twiceOf_5 : decode cX11_twiceOf 5 = .ok (.aload_n 0, 1) := by decide +kernel
theorem dX11_twiceOf_6 : decode cX11_twiceOf 6 = .ok (.getfield 200, 3) := by decide +kernel
theorem dX11_twiceOf_9 : decode cX11_twiceOf 9 = .ok (.if_icmp .ge 81, 3) := by decide +kernel
theorem dX11_twiceOf_12 : decode cX11_twiceOf 12 = .ok (.iload_n 2, 1) := by decide +kernel
theorem dX11_twiceOf_13 : decode cX11_twiceOf 13 = .ok (.iconst 1, 1) := by decide +kernel
theorem dX11_twiceOf_14 : decode cX11_twiceOf 14 = .ok (.iadd, 1) := by decide +kernel
theorem dX11_twiceOf_15 : decode cX11_twiceOf 15 = .ok (.istore_n 3, 1) := by decide +kernel
theorem dX11_twiceOf_16 : decode cX11_twiceOf 16 = .ok (.iload_n 3, 1) := by decide +kernel
theorem dX11_twiceOf_17 : decode cX11_twiceOf 17 = .ok (.aload_n 0, 1) := by decide +kernel
theorem dX11_twiceOf_18 : decode cX11_twiceOf 18 = .ok (.getfield 200, 3) := by decide +kernel
theorem dX11_twiceOf_21 : decode cX11_twiceOf 21 = .ok (.if_icmp .ge 63, 3) := by decide +kernel
theorem dX11_twiceOf_24 : decode cX11_twiceOf 24 = .ok (.iconst 0, 1) := by decide +kernel
theorem dX11_twiceOf_25 : decode cX11_twiceOf 25 = .ok (.istore 4, 2) := by decide +kernel
theorem dX11_twiceOf_27 : decode cX11_twiceOf 27 = .ok (.iload_n 3, 1) := by decide +kernel
theorem dX11_twiceOf_28 : decode cX11_twiceOf 28 = .ok (.iload 4, 2) := by decide +kernel
theorem dX11_twiceOf_30 : decode cX11_twiceOf 30 = .ok (.iadd, 1) := by decide +kernel
theorem dX11_twiceOf_31 : decode cX11_twiceOf 31 = .ok (.aload_n 0, 1) := by decide +kernel
theorem dX11_twiceOf_32 : decode cX11_twiceOf 32 = .ok (.getfield 200, 3) := by decide +kernel
theorem dX11_twiceOf_35 : decode cX11_twiceOf 35 = .ok (.if_icmp .ge 30, 3) := by decide +kernel
theorem dX11_twiceOf_38 : decode cX11_twiceOf 38 = .ok (.aload_n 0, 1) := by decide +kernel
theorem dX11_twiceOf_39 : decode cX11_twiceOf 39 = .ok (.getfield 26, 3) := by decide +kernel
theorem dX11_twiceOf_42 : decode cX11_twiceOf 42 = .ok (.iload_n 2, 1) := by decide +kernel
theorem dX11_twiceOf_43 : decode cX11_twiceOf 43 = .ok (.iload 4, 2) := by decide +kernel
theorem dX11_twiceOf_45 : decode cX11_twiceOf 45 = .ok (.iadd, 1) := by decide +kernel
theorem dX11_twiceOf_46 : decode cX11_twiceOf 46 = .ok (.iaload, 1) := by decide +kernel
theorem dX11_twiceOf_47 : decode cX11_twiceOf 47 = .ok (.aload_n 0, 1) := by decide +kernel
theorem dX11_twiceOf_48 : decode cX11_twiceOf 48 = .ok (.getfield 26, 3) := by decide +kernel
theorem dX11_twiceOf_51 : decode cX11_twiceOf 51 = .ok (.iload_n 3, 1) := by decide +kernel
theorem dX11_twiceOf_52 : decode cX11_twiceOf 52 = .ok (.iload 4, 2) := by decide +kernel
theorem dX11_twiceOf_54 : decode cX11_twiceOf 54 = .ok (.iadd, 1) := by decide +kernel
theorem dX11_twiceOf_55 : decode cX11_twiceOf 55 = .ok (.iaload, 1) := by decide +kernel
theorem dX11_twiceOf_56 : decode cX11_twiceOf 56 = .ok (.if_icmp .ne 9, 3) := by decide +kernel
theorem dX11_twiceOf_59 : decode cX11_twiceOf 59 = .ok (.iinc 4 1, 3) := by decide +kernel
theorem dX11_twiceOf_62 : decode cX11_twiceOf 62 = .ok (.goto (-35), 3) := by decide +kernel
theorem dX11_twiceOf_65 : decode cX11_twiceOf 65 = .ok (.iload 4, 2) := by decide +kernel
theorem dX11_twiceOf_67 : decode cX11_twiceOf 67 = .ok (.iload_n 1, 1) := by decide +kernel
theorem dX11_twiceOf_68 : decode cX11_twiceOf 68 = .ok (.if_icmp .le 8, 3) := by decide +kernel
theorem dX11_twiceOf_71 : decode cX11_twiceOf 71 = .ok (.iload 4, 2) := by decide +kernel
theorem dX11_twiceOf_73 : decode cX11_twiceOf 73 = .ok (.goto 4, 3) := by decide +kernel
theorem dX11_twiceOf_76 : decode cX11_twiceOf 76 = .ok (.iload_n 1, 1) := by decide +kernel
theorem dX11_twiceOf_77 : decode cX11_twiceOf 77 = .ok (.istore_n 1, 1) := by decide +kernel
theorem dX11_twiceOf_78 : decode cX11_twiceOf 78 = .ok (.iinc 3 1, 3) := by decide +kernel
theorem dX11_twiceOf_81 : decode cX11_twiceOf 81 = .ok (.goto (-65), 3) := by decide +kernel
theorem dX11_twiceOf_84 : decode cX11_twiceOf 84 = .ok (.iinc 2 1, 3) := by decide +kernel
theorem dX11_twiceOf_87 : decode cX11_twiceOf 87 = .ok (.goto (-83), 3) := by decide +kernel
theorem dX11_twiceOf_90 : decode cX11_twiceOf 90 = .ok (.iload_n 1, 1) := by decide +kernel
theorem dX11_twiceOf_91 : decode cX11_twiceOf 91 = .ok (.ireturn, 1) := by decide +kernel
theorem dX11_standsAt_0 : decode cX11_standsAt 0 = .ok (.iconst 0, 1) := by decide +kernel
theorem dX11_standsAt_1 : decode cX11_standsAt 1 = .ok (.istore_n 2, 1) := by decide +kernel
theorem dX11_standsAt_2 : decode cX11_standsAt 2 = .ok (.iconst 0, 1) := by decide +kernel
theorem dX11_standsAt_3 : decode cX11_standsAt 3 = .ok (.istore_n 3, 1) := by decide +kernel
theorem dX11_standsAt_4 : decode cX11_standsAt 4 = .ok (.iload_n 3, 1) := by decide +kernel
theorem dX11_standsAt_5 : decode cX11_standsAt 5 = .ok (.aload_n 0, 1) := by decide +kernel
theorem dX11_standsAt_6 : decode cX11_standsAt 6 = .ok (.getfield 200, 3) := by decide +kernel
theorem dX11_standsAt_9 : decode cX11_standsAt 9 = .ok (.if_icmp .ge 27, 3) := by decide +kernel
theorem dX11_standsAt_12 : decode cX11_standsAt 12 = .ok (.iload_n 2, 1) := by decide +kernel
theorem dX11_standsAt_13 : decode cX11_standsAt 13 = .ok (.aload_n 0, 1) := by decide +kernel
theorem dX11_standsAt_14 : decode cX11_standsAt 14 = .ok (.getfield 26, 3) := by decide +kernel
theorem dX11_standsAt_17 : decode cX11_standsAt 17 = .ok (.iload_n 3, 1) := by decide +kernel
theorem dX11_standsAt_18 : decode cX11_standsAt 18 = .ok (.iaload, 1) := by decide +kernel
theorem dX11_standsAt_19 : decode cX11_standsAt 19 = .ok (.iload_n 1, 1) := by decide +kernel
theorem dX11_standsAt_20 : decode cX11_standsAt 20 = .ok (.if_icmp .ne 7, 3) := by decide +kernel
theorem dX11_standsAt_23 : decode cX11_standsAt 23 = .ok (.iconst 1, 1) := by decide +kernel
theorem dX11_standsAt_24 : decode cX11_standsAt 24 = .ok (.goto 4, 3) := by decide +kernel
theorem dX11_standsAt_27 : decode cX11_standsAt 27 = .ok (.iconst 0, 1) := by decide +kernel
theorem dX11_standsAt_28 : decode cX11_standsAt 28 = .ok (.iadd, 1) := by decide +kernel
theorem dX11_standsAt_29 : decode cX11_standsAt 29 = .ok (.istore_n 2, 1) := by decide +kernel
theorem dX11_standsAt_30 : decode cX11_standsAt 30 = .ok (.iinc 3 1, 3) := by decide +kernel
theorem dX11_standsAt_33 : decode cX11_standsAt 33 = .ok (.goto (-29), 3) := by decide +kernel
theorem dX11_standsAt_36 : decode cX11_standsAt 36 = .ok (.iload_n 2, 1) := by decide +kernel
theorem dX11_standsAt_37 : decode cX11_standsAt 37 = .ok (.ireturn, 1) := by decide +kernel
theorem dX11_wordsOf_0 : decode cX11_wordsOf 0 = .ok (.iconst 0, 1) := by decide +kernel
theorem dX11_wordsOf_1 : decode cX11_wordsOf 1 = .ok (.istore_n 2, 1) := by decide +kernel
theorem dX11_wordsOf_2 : decode cX11_wordsOf 2 = .ok (.iconst (-1), 1) := by decide +kernel
theorem dX11_wordsOf_3 : decode cX11_wordsOf 3 = .ok (.istore_n 3, 1) := by decide +kernel
theorem dX11_wordsOf_4 : decode cX11_wordsOf 4 = .ok (.iconst 0, 1) := by decide +kernel
theorem dX11_wordsOf_5 : decode cX11_wordsOf 5 = .ok (.istore 4, 2) := by decide +kernel
theorem dX11_wordsOf_7 : decode cX11_wordsOf 7 = .ok (.iload 4, 2) := by decide +kernel
theorem dX11_wordsOf_9 : decode cX11_wordsOf 9 = .ok (.bipush 10, 2) := by decide +kernel
theorem dX11_wordsOf_11 : decode cX11_wordsOf 11 = .ok (.if_icmp .ge 52, 3) := by decide +kernel
theorem dX11_wordsOf_14 : decode cX11_wordsOf 14 = .ok (.iload_n 2, 1) := by decide +kernel
theorem dX11_wordsOf_15 : decode cX11_wordsOf 15 = .ok (.aload_n 0, 1) := by decide +kernel
theorem dX11_wordsOf_16 : decode cX11_wordsOf 16 = .ok (.iload 4, 2) := by decide +kernel
theorem dX11_wordsOf_18 : decode cX11_wordsOf 18 = .ok (.invokevirtual 390, 3) := by decide +kernel
theorem dX11_wordsOf_21 : decode cX11_wordsOf 21 = .ok (.ifCond .le 7, 3) := by decide +kernel
theorem dX11_wordsOf_24 : decode cX11_wordsOf 24 = .ok (.iconst 1, 1) := by decide +kernel
theorem dX11_wordsOf_25 : decode cX11_wordsOf 25 = .ok (.goto 4, 3) := by decide +kernel
theorem dX11_wordsOf_28 : decode cX11_wordsOf 28 = .ok (.iconst 0, 1) := by decide +kernel
theorem dX11_wordsOf_29 : decode cX11_wordsOf 29 = .ok (.iadd, 1) := by decide +kernel
theorem dX11_wordsOf_30 : decode cX11_wordsOf 30 = .ok (.istore_n 2, 1) := by decide +kernel
theorem dX11_wordsOf_31 : decode cX11_wordsOf 31 = .ok (.aload_n 0, 1) := by decide +kernel
theorem dX11_wordsOf_32 : decode cX11_wordsOf 32 = .ok (.iload 4, 2) := by decide +kernel
theorem dX11_wordsOf_34 : decode cX11_wordsOf 34 = .ok (.invokevirtual 390, 3) := by decide +kernel
theorem dX11_wordsOf_37 : decode cX11_wordsOf 37 = .ok (.iload_n 3, 1) := by decide +kernel
theorem dX11_wordsOf_38 : decode cX11_wordsOf 38 = .ok (.iconst (-1), 1) := by decide +kernel
theorem dX11_wordsOf_39 : decode cX11_wordsOf 39 = .ok (.if_icmp .ne 7, 3) := by decide +kernel
theorem dX11_wordsOf_42 : decode cX11_wordsOf 42 = .ok (.iconst 0, 1) := by decide +kernel
theorem dX11_wordsOf_43 : decode cX11_wordsOf 43 = .ok (.goto 8, 3) := by decide +kernel
theorem dX11_wordsOf_46 : decode cX11_wordsOf 46 = .ok (.aload_n 0, 1) := by decide +kernel
theorem dX11_wordsOf_47 : decode cX11_wordsOf 47 = .ok (.iload_n 3, 1) := by decide +kernel
theorem dX11_wordsOf_48 : decode cX11_wordsOf 48 = .ok (.invokevirtual 390, 3) := by decide +kernel
theorem dX11_wordsOf_51 : decode cX11_wordsOf 51 = .ok (.if_icmp .le 6, 3) := by decide +kernel
theorem dX11_wordsOf_54 : decode cX11_wordsOf 54 = .ok (.iload 4, 2) := by decide +kernel
theorem dX11_wordsOf_56 : decode cX11_wordsOf 56 = .ok (.istore_n 3, 1) := by decide +kernel
theorem dX11_wordsOf_57 : decode cX11_wordsOf 57 = .ok (.iinc 4 1, 3) := by decide +kernel
theorem dX11_wordsOf_60 : decode cX11_wordsOf 60 = .ok (.goto (-53), 3) := by decide +kernel
theorem dX11_wordsOf_63 : decode cX11_wordsOf 63 = .ok (.iload_n 1, 1) := by decide +kernel
theorem dX11_wordsOf_64 : decode cX11_wordsOf 64 = .ok (.ifCond .eq 7, 3) := by decide +kernel
theorem dX11_wordsOf_67 : decode cX11_wordsOf 67 = .ok (.iload_n 3, 1) := by decide +kernel
theorem dX11_wordsOf_68 : decode cX11_wordsOf 68 = .ok (.goto 4, 3) := by decide +kernel
theorem dX11_wordsOf_71 : decode cX11_wordsOf 71 = .ok (.iload_n 2, 1) := by decide +kernel
theorem dX11_wordsOf_72 : decode cX11_wordsOf 72 = .ok (.ireturn, 1) := by decide +kernel
theorem dX11_rise_0 : decode cX11_rise 0 = .ok (.aload_n 0, 1) := by decide +kernel
theorem dX11_rise_1 : decode cX11_rise 1 = .ok (.iload_n 1, 1) := by decide +kernel
theorem dX11_rise_2 : decode cX11_rise 2 = .ok (.invokevirtual 209, 3) := by decide +kernel
theorem dX11_rise_5 : decode cX11_rise 5 = .ok (.ifCond .ne 6, 3) := by decide +kernel
theorem dX11_rise_8 : decode cX11_rise 8 = .ok (.bipush (-2), 2) := by decide +kernel
theorem dX11_rise_10 : decode cX11_rise 10 = .ok (.ireturn, 1) := by decide +kernel
theorem dX11_rise_11 : decode cX11_rise 11 = .ok (.iload_n 2, 1) := by decide +kernel
theorem dX11_rise_12 : decode cX11_rise 12 = .ok (.tableswitch 66 0 4 #[36, 41, 46, 51, 51], 36) := by decide +kernel
theorem dX11_rise_48 : decode cX11_rise 48 = .ok (.aload_n 0, 1) := by decide +kernel
theorem dX11_rise_49 : decode cX11_rise 49 = .ok (.invokevirtual 387, 3) := by decide +kernel
theorem dX11_rise_52 : decode cX11_rise 52 = .ok (.ireturn, 1) := by decide +kernel
theorem dX11_rise_53 : decode cX11_rise 53 = .ok (.aload_n 0, 1) := by decide +kernel
theorem dX11_rise_54 : decode cX11_rise 54 = .ok (.invokevirtual 393, 3) := by decide +kernel
theorem dX11_rise_57 : decode cX11_rise 57 = .ok (.ireturn, 1) := by decide +kernel
theorem dX11_rise_58 : decode cX11_rise 58 = .ok (.aload_n 0, 1) := by decide +kernel
theorem dX11_rise_59 : decode cX11_rise 59 = .ok (.invokevirtual 396, 3) := by decide +kernel
theorem dX11_rise_62 : decode cX11_rise 62 = .ok (.ireturn, 1) := by decide +kernel
theorem dX11_rise_63 : decode cX11_rise 63 = .ok (.aload_n 0, 1) := by decide +kernel
theorem dX11_rise_64 : decode cX11_rise 64 = .ok (.iload_n 2, 1) := by decide +kernel
theorem dX11_rise_65 : decode cX11_rise 65 = .ok (.iconst 4, 1) := by decide +kernel
theorem dX11_rise_66 : decode cX11_rise 66 = .ok (.if_icmp .ne 7, 3) := by decide +kernel
theorem dX11_rise_69 : decode cX11_rise 69 = .ok (.iconst 1, 1) := by decide +kernel
theorem dX11_rise_70 : decode cX11_rise 70 = .ok (.goto 4, 3) := by decide +kernel
theorem dX11_rise_73 : decode cX11_rise 73 = .ok (.iconst 0, 1) := by decide +kernel
theorem dX11_rise_74 : decode cX11_rise 74 = .ok (.invokevirtual 399, 3) := by decide +kernel
theorem dX11_rise_77 : decode cX11_rise 77 = .ok (.ireturn, 1) := by decide +kernel
theorem dX11_rise_78 : decode cX11_rise 78 = .ok (.iload_n 2, 1) := by decide +kernel
theorem dX11_rise_79 : decode cX11_rise 79 = .ok (.bipush 10, 2) := by decide +kernel
theorem dX11_rise_81 : decode cX11_rise 81 = .ok (.if_icmp .ge 8, 3) := by decide +kernel
theorem dX11_rise_84 : decode cX11_rise 84 = .ok (.bipush (-2), 2) := by decide +kernel
theorem dX11_rise_86 : decode cX11_rise 86 = .ok (.goto 11, 3) := by decide +kernel
theorem dX11_rise_89 : decode cX11_rise 89 = .ok (.aload_n 0, 1) := by decide +kernel
theorem dX11_rise_90 : decode cX11_rise 90 = .ok (.iload_n 2, 1) := by decide +kernel
theorem dX11_rise_91 : decode cX11_rise 91 = .ok (.bipush 10, 2) := by decide +kernel
theorem dX11_rise_93 : decode cX11_rise 93 = .ok (.isub, 1) := by decide +kernel
theorem dX11_rise_94 : decode cX11_rise 94 = .ok (.invokevirtual 402, 3) := by decide +kernel
theorem dX11_rise_97 : decode cX11_rise 97 = .ok (.ireturn, 1) := by decide +kernel
theorem dX11_idleOf_0 : decode cX11_idleOf 0 = .ok (.iconst 0, 1) := by decide +kernel
theorem dX11_idleOf_1 : decode cX11_idleOf 1 = .ok (.istore_n 1, 1) := by decide +kernel
theorem dX11_idleOf_2 : decode cX11_idleOf 2 = .ok (.iconst 0, 1) := by decide +kernel
theorem dX11_idleOf_3 : decode cX11_idleOf 3 = .ok (.istore_n 2, 1) := by decide +kernel
theorem dX11_idleOf_4 : decode cX11_idleOf 4 = .ok (.iload_n 2, 1) := by decide +kernel
theorem dX11_idleOf_5 : decode cX11_idleOf 5 = .ok (.aload_n 0, 1) := by decide +kernel
theorem dX11_idleOf_6 : decode cX11_idleOf 6 = .ok (.getfield 203, 3) := by decide +kernel
theorem dX11_idleOf_9 : decode cX11_idleOf 9 = .ok (.if_icmp .ge 31, 3) := by decide +kernel
theorem dX11_idleOf_12 : decode cX11_idleOf 12 = .ok (.aload_n 0, 1) := by decide +kernel
theorem dX11_idleOf_13 : decode cX11_idleOf 13 = .ok (.invokevirtual 245, 3) := by decide +kernel
theorem dX11_idleOf_16 : decode cX11_idleOf 16 = .ok (.iload_n 1, 1) := by decide +kernel
theorem dX11_idleOf_17 : decode cX11_idleOf 17 = .ok (.aload_n 0, 1) := by decide +kernel
theorem dX11_idleOf_18 : decode cX11_idleOf 18 = .ok (.iload_n 2, 1) := by decide +kernel
theorem dX11_idleOf_19 : decode cX11_idleOf 19 = .ok (.invokevirtual 269, 3) := by decide +kernel
theorem dX11_idleOf_22 : decode cX11_idleOf 22 = .ok (.ifCond .ne 9, 3) := by decide +kernel
theorem dX11_idleOf_25 : decode cX11_idleOf 25 = .ok (.iconst 1, 1) := by decide +kernel
theorem dX11_idleOf_26 : decode cX11_idleOf 26 = .ok (.iload_n 2, 1) := by decide +kernel
theorem dX11_idleOf_27 : decode cX11_idleOf 27 = .ok (.ishl, 1) := by decide +kernel
theorem dX11_idleOf_28 : decode cX11_idleOf 28 = .ok (.goto 4, 3) := by decide +kernel
theorem dX11_idleOf_31 : decode cX11_idleOf 31 = .ok (.iconst 0, 1) := by decide +kernel
theorem dX11_idleOf_32 : decode cX11_idleOf 32 = .ok (.ior, 1) := by decide +kernel
theorem dX11_idleOf_33 : decode cX11_idleOf 33 = .ok (.istore_n 1, 1) := by decide +kernel
theorem dX11_idleOf_34 : decode cX11_idleOf 34 = .ok (.iinc 2 1, 3) := by decide +kernel
theorem dX11_idleOf_37 : decode cX11_idleOf 37 = .ok (.goto (-33), 3) := by decide +kernel
theorem dX11_idleOf_40 : decode cX11_idleOf 40 = .ok (.iload_n 1, 1) := by decide +kernel
theorem dX11_idleOf_41 : decode cX11_idleOf 41 = .ok (.ireturn, 1) := by decide +kernel
theorem dX11_lastWordOf_0 : decode cX11_lastWordOf 0 = .ok (.iconst (-1), 1) := by decide +kernel
theorem dX11_lastWordOf_1 : decode cX11_lastWordOf 1 = .ok (.istore_n 2, 1) := by decide +kernel
theorem dX11_lastWordOf_2 : decode cX11_lastWordOf 2 = .ok (.iconst 0, 1) := by decide +kernel
theorem dX11_lastWordOf_3 : decode cX11_lastWordOf 3 = .ok (.istore_n 3, 1) := by decide +kernel
theorem dX11_lastWordOf_4 : decode cX11_lastWordOf 4 = .ok (.iconst 0, 1) := by decide +kernel
theorem dX11_lastWordOf_5 : decode cX11_lastWordOf 5 = .ok (.istore 4, 2) := by decide +kernel
theorem dX11_lastWordOf_7 : decode cX11_lastWordOf 7 = .ok (.iload 4, 2) := by decide +kernel
theorem dX11_lastWordOf_9 : decode cX11_lastWordOf 9 = .ok (.aload_n 0, 1) := by decide +kernel
theorem dX11_lastWordOf_10 : decode cX11_lastWordOf 10 = .ok (.getfield 203, 3) := by decide +kernel
theorem dX11_lastWordOf_13 : decode cX11_lastWordOf 13 = .ok (.if_icmp .ge 88, 3) := by decide +kernel
theorem dX11_lastWordOf_16 : decode cX11_lastWordOf 16 = .ok (.iconst 0, 1) := by decide +kernel
theorem dX11_lastWordOf_17 : decode cX11_lastWordOf 17 = .ok (.istore 5, 2) := by decide +kernel
theorem dX11_lastWordOf_19 : decode cX11_lastWordOf 19 = .ok (.iconst 0, 1) := by decide +kernel
theorem dX11_lastWordOf_20 : decode cX11_lastWordOf 20 = .ok (.istore 6, 2) := by decide +kernel
theorem dX11_lastWordOf_22 : decode cX11_lastWordOf 22 = .ok (.iload 6, 2) := by decide +kernel
theorem dX11_lastWordOf_24 : decode cX11_lastWordOf 24 = .ok (.aload_n 0, 1) := by decide +kernel
theorem dX11_lastWordOf_25 : decode cX11_lastWordOf 25 = .ok (.getfield 203, 3) := by decide +kernel
theorem dX11_lastWordOf_28 : decode cX11_lastWordOf 28 = .ok (.if_icmp .ge 28, 3) := by decide +kernel
theorem dX11_lastWordOf_31 : decode cX11_lastWordOf 31 = .ok (.iload 6, 2) := by decide +kernel
theorem dX11_lastWordOf_33 : decode cX11_lastWordOf 33 = .ok (.iload 4, 2) := by decide +kernel
theorem dX11_lastWordOf_35 : decode cX11_lastWordOf 35 = .ok (.if_icmp .eq 15, 3) := by decide +kernel
theorem dX11_lastWordOf_38 : decode cX11_lastWordOf 38 = .ok (.aload_n 0, 1) := by decide +kernel
theorem dX11_lastWordOf_39 : decode cX11_lastWordOf 39 = .ok (.getfield 44, 3) := by decide +kernel
theorem dX11_lastWordOf_42 : decode cX11_lastWordOf 42 = .ok (.iload 5, 2) := by decide +kernel
theorem dX11_lastWordOf_44 : decode cX11_lastWordOf 44 = .ok (.iinc 5 1, 3) := by decide +kernel
theorem dX11_lastWordOf_47 : decode cX11_lastWordOf 47 = .ok (.iload 6, 2) := by decide +kernel
theorem dX11_lastWordOf_49 : decode cX11_lastWordOf 49 = .ok (.iastore, 1) := by decide +kernel
theorem dX11_lastWordOf_50 : decode cX11_lastWordOf 50 = .ok (.iinc 6 1, 3) := by decide +kernel
theorem dX11_lastWordOf_53 : decode cX11_lastWordOf 53 = .ok (.goto (-31), 3) := by decide +kernel
theorem dX11_lastWordOf_56 : decode cX11_lastWordOf 56 = .ok (.aload_n 0, 1) := by decide +kernel
theorem dX11_lastWordOf_57 : decode cX11_lastWordOf 57 = .ok (.getfield 44, 3) := by decide +kernel
theorem dX11_lastWordOf_60 : decode cX11_lastWordOf 60 = .ok (.aload_n 0, 1) := by decide +kernel
theorem dX11_lastWordOf_61 : decode cX11_lastWordOf 61 = .ok (.getfield 203, 3) := by decide +kernel
theorem dX11_lastWordOf_64 : decode cX11_lastWordOf 64 = .ok (.iconst 1, 1) := by decide +kernel
theorem dX11_lastWordOf_65 : decode cX11_lastWordOf 65 = .ok (.isub, 1) := by decide +kernel
theorem dX11_lastWordOf_66 : decode cX11_lastWordOf 66 = .ok (.iload 4, 2) := by decide +kernel
theorem dX11_lastWordOf_68 : decode cX11_lastWordOf 68 = .ok (.iastore, 1) := by decide +kernel
theorem dX11_lastWordOf_69 : decode cX11_lastWordOf 69 = .ok (.aload_n 0, 1) := by decide +kernel
theorem dX11_lastWordOf_70 : decode cX11_lastWordOf 70 = .ok (.invokevirtual 297, 3) := by decide +kernel
theorem dX11_lastWordOf_73 : decode cX11_lastWordOf 73 = .ok (.istore 6, 2) := by decide +kernel
theorem dX11_lastWordOf_75 : decode cX11_lastWordOf 75 = .ok (.iload_n 2, 1) := by decide +kernel
theorem dX11_lastWordOf_76 : decode cX11_lastWordOf 76 = .ok (.iconst (-1), 1) := by decide +kernel
theorem dX11_lastWordOf_77 : decode cX11_lastWordOf 77 = .ok (.if_icmp .eq 12, 3) := by decide +kernel
theorem dX11_lastWordOf_80 : decode cX11_lastWordOf 80 = .ok (.iload 6, 2) := by decide +kernel
theorem dX11_lastWordOf_82 : decode cX11_lastWordOf 82 = .ok (.iload_n 3, 1) := by decide +kernel
theorem dX11_lastWordOf_83 : decode cX11_lastWordOf 83 = .ok (.if_icmp .gt 6, 3) := by decide +kernel
theorem dX11_lastWordOf_86 : decode cX11_lastWordOf 86 = .ok (.goto 9, 3) := by decide +kernel
theorem dX11_lastWordOf_89 : decode cX11_lastWordOf 89 = .ok (.iload 4, 2) := by decide +kernel
theorem dX11_lastWordOf_91 : decode cX11_lastWordOf 91 = .ok (.istore_n 2, 1) := by decide +kernel
theorem dX11_lastWordOf_92 : decode cX11_lastWordOf 92 = .ok (.iload 6, 2) := by decide +kernel
theorem dX11_lastWordOf_94 : decode cX11_lastWordOf 94 = .ok (.istore_n 3, 1) := by decide +kernel
theorem dX11_lastWordOf_95 : decode cX11_lastWordOf 95 = .ok (.iinc 4 1, 3) := by decide +kernel
theorem dX11_lastWordOf_98 : decode cX11_lastWordOf 98 = .ok (.goto (-91), 3) := by decide +kernel
theorem dX11_lastWordOf_101 : decode cX11_lastWordOf 101 = .ok (.iload_n 1, 1) := by decide +kernel
theorem dX11_lastWordOf_102 : decode cX11_lastWordOf 102 = .ok (.ifCond .eq 7, 3) := by decide +kernel
theorem dX11_lastWordOf_105 : decode cX11_lastWordOf 105 = .ok (.iload_n 3, 1) := by decide +kernel
theorem dX11_lastWordOf_106 : decode cX11_lastWordOf 106 = .ok (.goto 4, 3) := by decide +kernel
theorem dX11_lastWordOf_109 : decode cX11_lastWordOf 109 = .ok (.iload_n 2, 1) := by decide +kernel
theorem dX11_lastWordOf_110 : decode cX11_lastWordOf 110 = .ok (.ireturn, 1) := by decide +kernel
theorem dX11_swapOf_0 : decode cX11_swapOf 0 = .ok (.iconst (-1), 1) := by decide +kernel
theorem dX11_swapOf_1 : decode cX11_swapOf 1 = .ok (.istore_n 2, 1) := by decide +kernel
theorem dX11_swapOf_2 : decode cX11_swapOf 2 = .ok (.iconst 0, 1) := by decide +kernel
theorem dX11_swapOf_3 : decode cX11_swapOf 3 = .ok (.istore_n 3, 1) := by decide +kernel
theorem dX11_swapOf_4 : decode cX11_swapOf 4 = .ok (.iconst 0, 1) := by decide +kernel
theorem dX11_swapOf_5 : decode cX11_swapOf 5 = .ok (.istore 4, 2) := by decide +kernel
theorem dX11_swapOf_7 : decode cX11_swapOf 7 = .ok (.iload 4, 2) := by decide +kernel
theorem dX11_swapOf_9 : decode cX11_swapOf 9 = .ok (.aload_n 0, 1) := by decide +kernel
theorem dX11_swapOf_10 : decode cX11_swapOf 10 = .ok (.getfield 203, 3) := by decide +kernel
theorem dX11_swapOf_13 : decode cX11_swapOf 13 = .ok (.if_icmp .ge 74, 3) := by decide +kernel
theorem dX11_swapOf_16 : decode cX11_swapOf 16 = .ok (.iload 4, 2) := by decide +kernel
theorem dX11_swapOf_18 : decode cX11_swapOf 18 = .ok (.iconst 1, 1) := by decide +kernel
theorem dX11_swapOf_19 : decode cX11_swapOf 19 = .ok (.iadd, 1) := by decide +kernel
theorem dX11_swapOf_20 : decode cX11_swapOf 20 = .ok (.istore 5, 2) := by decide +kernel
theorem dX11_swapOf_22 : decode cX11_swapOf 22 = .ok (.iload 5, 2) := by decide +kernel
theorem dX11_swapOf_24 : decode cX11_swapOf 24 = .ok (.aload_n 0, 1) := by decide +kernel
theorem dX11_swapOf_25 : decode cX11_swapOf 25 = .ok (.getfield 203, 3) := by decide +kernel
theorem dX11_swapOf_28 : decode cX11_swapOf 28 = .ok (.if_icmp .ge 53, 3) := by decide +kernel
theorem dX11_swapOf_31 : decode cX11_swapOf 31 = .ok (.aload_n 0, 1) := by decide +kernel
theorem dX11_swapOf_32 : decode cX11_swapOf 32 = .ok (.invokevirtual 294, 3) := by decide +kernel
theorem dX11_swapOf_35 : decode cX11_swapOf 35 = .ok (.aload_n 0, 1) := by decide +kernel
theorem dX11_swapOf_36 : decode cX11_swapOf 36 = .ok (.iload 4, 2) := by decide +kernel
theorem dX11_swapOf_38 : decode cX11_swapOf 38 = .ok (.iload 5, 2) := by decide +kernel
theorem dX11_swapOf_40 : decode cX11_swapOf 40 = .ok (.invokevirtual 291, 3) := by decide +kernel
theorem dX11_swapOf_43 : decode cX11_swapOf 43 = .ok (.aload_n 0, 1) := by decide +kernel
theorem dX11_swapOf_44 : decode cX11_swapOf 44 = .ok (.invokevirtual 297, 3) := by decide +kernel
theorem dX11_swapOf_47 : decode cX11_swapOf 47 = .ok (.istore 6, 2) := by decide +kernel
theorem dX11_swapOf_49 : decode cX11_swapOf 49 = .ok (.iload_n 2, 1) := by decide +kernel
theorem dX11_swapOf_50 : decode cX11_swapOf 50 = .ok (.iconst (-1), 1) := by decide +kernel
theorem dX11_swapOf_51 : decode cX11_swapOf 51 = .ok (.if_icmp .eq 12, 3) := by decide +kernel
theorem dX11_swapOf_54 : decode cX11_swapOf 54 = .ok (.iload 6, 2) := by decide +kernel
theorem dX11_swapOf_56 : decode cX11_swapOf 56 = .ok (.iload_n 3, 1) := by decide +kernel
theorem dX11_swapOf_57 : decode cX11_swapOf 57 = .ok (.if_icmp .gt 6, 3) := by decide +kernel
theorem dX11_swapOf_60 : decode cX11_swapOf 60 = .ok (.goto 15, 3) := by decide +kernel
theorem dX11_swapOf_63 : decode cX11_swapOf 63 = .ok (.bipush 10, 2) := by decide +kernel
theorem dX11_swapOf_65 : decode cX11_swapOf 65 = .ok (.iload 4, 2) := by decide +kernel
theorem dX11_swapOf_67 : decode cX11_swapOf 67 = .ok (.imul, 1) := by decide +kernel
theorem dX11_swapOf_68 : decode cX11_swapOf 68 = .ok (.iload 5, 2) := by decide +kernel
theorem dX11_swapOf_70 : decode cX11_swapOf 70 = .ok (.iadd, 1) := by decide +kernel
theorem dX11_swapOf_71 : decode cX11_swapOf 71 = .ok (.istore_n 2, 1) := by decide +kernel
theorem dX11_swapOf_72 : decode cX11_swapOf 72 = .ok (.iload 6, 2) := by decide +kernel
theorem dX11_swapOf_74 : decode cX11_swapOf 74 = .ok (.istore_n 3, 1) := by decide +kernel
theorem dX11_swapOf_75 : decode cX11_swapOf 75 = .ok (.iinc 5 1, 3) := by decide +kernel
theorem dX11_swapOf_78 : decode cX11_swapOf 78 = .ok (.goto (-56), 3) := by decide +kernel
theorem dX11_swapOf_81 : decode cX11_swapOf 81 = .ok (.iinc 4 1, 3) := by decide +kernel
theorem dX11_swapOf_84 : decode cX11_swapOf 84 = .ok (.goto (-77), 3) := by decide +kernel
theorem dX11_swapOf_87 : decode cX11_swapOf 87 = .ok (.iload_n 1, 1) := by decide +kernel
theorem dX11_swapOf_88 : decode cX11_swapOf 88 = .ok (.ifCond .eq 7, 3) := by decide +kernel
theorem dX11_swapOf_91 : decode cX11_swapOf 91 = .ok (.iload_n 3, 1) := by decide +kernel
theorem dX11_swapOf_92 : decode cX11_swapOf 92 = .ok (.goto 4, 3) := by decide +kernel
theorem dX11_swapOf_95 : decode cX11_swapOf 95 = .ok (.iload_n 2, 1) := by decide +kernel
theorem dX11_swapOf_96 : decode cX11_swapOf 96 = .ok (.ireturn, 1) := by decide +kernel
theorem dX11_teachOf_0 : decode cX11_teachOf 0 = .ok (.iconst (-1), 1) := by decide +kernel
theorem dX11_teachOf_1 : decode cX11_teachOf 1 = .ok (.istore_n 2, 1) := by decide +kernel
theorem dX11_teachOf_2 : decode cX11_teachOf 2 = .ok (.iconst 0, 1) := by decide +kernel
theorem dX11_teachOf_3 : decode cX11_teachOf 3 = .ok (.istore_n 3, 1) := by decide +kernel
theorem dX11_teachOf_4 : decode cX11_teachOf 4 = .ok (.aload_n 0, 1) := by decide +kernel
theorem dX11_teachOf_5 : decode cX11_teachOf 5 = .ok (.invokevirtual 294, 3) := by decide +kernel
theorem dX11_teachOf_8 : decode cX11_teachOf 8 = .ok (.iconst 0, 1) := by decide +kernel
theorem dX11_teachOf_9 : decode cX11_teachOf 9 = .ok (.istore 4, 2) := by decide +kernel
theorem dX11_teachOf_11 : decode cX11_teachOf 11 = .ok (.iload 4, 2) := by decide +kernel
theorem dX11_teachOf_13 : decode cX11_teachOf 13 = .ok (.bipush 10, 2) := by decide +kernel
theorem dX11_teachOf_15 : decode cX11_teachOf 15 = .ok (.if_icmp .ge 92, 3) := by decide +kernel
theorem dX11_teachOf_18 : decode cX11_teachOf 18 = .ok (.iload 4, 2) := by decide +kernel
theorem dX11_teachOf_20 : decode cX11_teachOf 20 = .ok (.iconst 1, 1) := by decide +kernel
theorem dX11_teachOf_21 : decode cX11_teachOf 21 = .ok (.iadd, 1) := by decide +kernel
theorem dX11_teachOf_22 : decode cX11_teachOf 22 = .ok (.istore 5, 2) := by decide +kernel
theorem dX11_teachOf_24 : decode cX11_teachOf 24 = .ok (.iload 5, 2) := by decide +kernel
theorem dX11_teachOf_26 : decode cX11_teachOf 26 = .ok (.bipush 10, 2) := by decide +kernel
theorem dX11_teachOf_28 : decode cX11_teachOf 28 = .ok (.if_icmp .ge 73, 3) := by decide +kernel
theorem dX11_teachOf_31 : decode cX11_teachOf 31 = .ok (.aload_n 0, 1) := by decide +kernel
theorem dX11_teachOf_32 : decode cX11_teachOf 32 = .ok (.iload 4, 2) := by decide +kernel
theorem dX11_teachOf_34 : decode cX11_teachOf 34 = .ok (.iload 5, 2) := by decide +kernel
theorem dX11_teachOf_36 : decode cX11_teachOf 36 = .ok (.invokevirtual 233, 3) := by decide +kernel
theorem dX11_teachOf_39 : decode cX11_teachOf 39 = .ok (.ifCond .eq 6, 3) := by decide +kernel
theorem dX11_teachOf_42 : decode cX11_teachOf 42 = .ok (.goto 53, 3) := by decide +kernel
theorem dX11_teachOf_45 : decode cX11_teachOf 45 = .ok (.aload_n 0, 1) := by decide +kernel
theorem dX11_teachOf_46 : decode cX11_teachOf 46 = .ok (.iload 4, 2) := by decide +kernel
theorem dX11_teachOf_48 : decode cX11_teachOf 48 = .ok (.iload 5, 2) := by decide +kernel
theorem dX11_teachOf_50 : decode cX11_teachOf 50 = .ok (.iconst 1, 1) := by decide +kernel
theorem dX11_teachOf_51 : decode cX11_teachOf 51 = .ok (.invokevirtual 356, 3) := by decide +kernel
theorem dX11_teachOf_54 : decode cX11_teachOf 54 = .ok (.aload_n 0, 1) := by decide +kernel
theorem dX11_teachOf_55 : decode cX11_teachOf 55 = .ok (.invokevirtual 297, 3) := by decide +kernel
theorem dX11_teachOf_58 : decode cX11_teachOf 58 = .ok (.istore 6, 2) := by decide +kernel
theorem dX11_teachOf_60 : decode cX11_teachOf 60 = .ok (.aload_n 0, 1) := by decide +kernel
theorem dX11_teachOf_61 : decode cX11_teachOf 61 = .ok (.iload 4, 2) := by decide +kernel
theorem dX11_teachOf_63 : decode cX11_teachOf 63 = .ok (.iload 5, 2) := by decide +kernel
theorem dX11_teachOf_65 : decode cX11_teachOf 65 = .ok (.iconst 0, 1) := by decide +kernel
theorem dX11_teachOf_66 : decode cX11_teachOf 66 = .ok (.invokevirtual 356, 3) := by decide +kernel
theorem dX11_teachOf_69 : decode cX11_teachOf 69 = .ok (.iload_n 2, 1) := by decide +kernel
theorem dX11_teachOf_70 : decode cX11_teachOf 70 = .ok (.iconst (-1), 1) := by decide +kernel
theorem dX11_teachOf_71 : decode cX11_teachOf 71 = .ok (.if_icmp .eq 12, 3) := by decide +kernel
theorem dX11_teachOf_74 : decode cX11_teachOf 74 = .ok (.iload 6, 2) := by decide +kernel
theorem dX11_teachOf_76 : decode cX11_teachOf 76 = .ok (.iload_n 3, 1) := by decide +kernel
theorem dX11_teachOf_77 : decode cX11_teachOf 77 = .ok (.if_icmp .gt 6, 3) := by decide +kernel
theorem dX11_teachOf_80 : decode cX11_teachOf 80 = .ok (.goto 15, 3) := by decide +kernel
theorem dX11_teachOf_83 : decode cX11_teachOf 83 = .ok (.bipush 10, 2) := by decide +kernel
theorem dX11_teachOf_85 : decode cX11_teachOf 85 = .ok (.iload 4, 2) := by decide +kernel
theorem dX11_teachOf_87 : decode cX11_teachOf 87 = .ok (.imul, 1) := by decide +kernel
theorem dX11_teachOf_88 : decode cX11_teachOf 88 = .ok (.iload 5, 2) := by decide +kernel
theorem dX11_teachOf_90 : decode cX11_teachOf 90 = .ok (.iadd, 1) := by decide +kernel
theorem dX11_teachOf_91 : decode cX11_teachOf 91 = .ok (.istore_n 2, 1) := by decide +kernel
theorem dX11_teachOf_92 : decode cX11_teachOf 92 = .ok (.iload 6, 2) := by decide +kernel
theorem dX11_teachOf_94 : decode cX11_teachOf 94 = .ok (.istore_n 3, 1) := by decide +kernel
theorem dX11_teachOf_95 : decode cX11_teachOf 95 = .ok (.iinc 5 1, 3) := by decide +kernel
theorem dX11_teachOf_98 : decode cX11_teachOf 98 = .ok (.goto (-74), 3) := by decide +kernel
theorem dX11_teachOf_101 : decode cX11_teachOf 101 = .ok (.iinc 4 1, 3) := by decide +kernel
theorem dX11_teachOf_104 : decode cX11_teachOf 104 = .ok (.goto (-93), 3) := by decide +kernel
theorem dX11_teachOf_107 : decode cX11_teachOf 107 = .ok (.iload_n 1, 1) := by decide +kernel
theorem dX11_teachOf_108 : decode cX11_teachOf 108 = .ok (.ifCond .eq 7, 3) := by decide +kernel
theorem dX11_teachOf_111 : decode cX11_teachOf 111 = .ok (.iload_n 3, 1) := by decide +kernel
theorem dX11_teachOf_112 : decode cX11_teachOf 112 = .ok (.goto 4, 3) := by decide +kernel
theorem dX11_teachOf_115 : decode cX11_teachOf 115 = .ok (.iload_n 2, 1) := by decide +kernel
theorem dX11_teachOf_116 : decode cX11_teachOf 116 = .ok (.ireturn, 1) := by decide +kernel
theorem dX11_lastWord_0 : decode cX11_lastWord 0 = .ok (.aload_n 0, 1) := by decide +kernel
theorem dX11_lastWord_1 : decode cX11_lastWord 1 = .ok (.iload_n 1, 1) := by decide +kernel
theorem dX11_lastWord_2 : decode cX11_lastWord 2 = .ok (.invokevirtual 209, 3) := by decide +kernel
theorem dX11_lastWord_5 : decode cX11_lastWord 5 = .ok (.ifCond .ne 6, 3) := by decide +kernel
theorem dX11_lastWord_8 : decode cX11_lastWord 8 = .ok (.bipush (-2), 2) := by decide +kernel
theorem dX11_lastWord_10 : decode cX11_lastWord 10 = .ok (.ireturn, 1) := by decide +kernel
theorem dX11_lastWord_11 : decode cX11_lastWord 11 = .ok (.iload_n 2, 1) := by decide +kernel
theorem dX11_lastWord_12 : decode cX11_lastWord 12 = .ok (.tableswitch 95 0 6 #[44, 49, 49, 64, 64, 79, 79], 44) := by decide +kernel
theorem dX11_lastWord_56 : decode cX11_lastWord 56 = .ok (.aload_n 0, 1) := by decide +kernel
theorem dX11_lastWord_57 : decode cX11_lastWord 57 = .ok (.invokevirtual 405, 3) := by decide +kernel
theorem dX11_lastWord_60 : decode cX11_lastWord 60 = .ok (.ireturn, 1) := by decide +kernel
theorem dX11_lastWord_61 : decode cX11_lastWord 61 = .ok (.aload_n 0, 1) := by decide +kernel
theorem dX11_lastWord_62 : decode cX11_lastWord 62 = .ok (.iload_n 2, 1) := by decide +kernel
theorem dX11_lastWord_63 : decode cX11_lastWord 63 = .ok (.iconst 2, 1) := by decide +kernel
theorem dX11_lastWord_64 : decode cX11_lastWord 64 = .ok (.if_icmp .ne 7, 3) := by decide +kernel
theorem dX11_lastWord_67 : decode cX11_lastWord 67 = .ok (.iconst 1, 1) := by decide +kernel
theorem dX11_lastWord_68 : decode cX11_lastWord 68 = .ok (.goto 4, 3) := by decide +kernel
theorem dX11_lastWord_71 : decode cX11_lastWord 71 = .ok (.iconst 0, 1) := by decide +kernel
theorem dX11_lastWord_72 : decode cX11_lastWord 72 = .ok (.invokevirtual 408, 3) := by decide +kernel
theorem dX11_lastWord_75 : decode cX11_lastWord 75 = .ok (.ireturn, 1) := by decide +kernel
theorem dX11_lastWord_76 : decode cX11_lastWord 76 = .ok (.aload_n 0, 1) := by decide +kernel
theorem dX11_lastWord_77 : decode cX11_lastWord 77 = .ok (.iload_n 2, 1) := by decide +kernel
theorem dX11_lastWord_78 : decode cX11_lastWord 78 = .ok (.iconst 4, 1) := by decide +kernel
theorem dX11_lastWord_79 : decode cX11_lastWord 79 = .ok (.if_icmp .ne 7, 3) := by decide +kernel
theorem dX11_lastWord_82 : decode cX11_lastWord 82 = .ok (.iconst 1, 1) := by decide +kernel
theorem dX11_lastWord_83 : decode cX11_lastWord 83 = .ok (.goto 4, 3) := by decide +kernel
theorem dX11_lastWord_86 : decode cX11_lastWord 86 = .ok (.iconst 0, 1) := by decide +kernel
theorem dX11_lastWord_87 : decode cX11_lastWord 87 = .ok (.invokevirtual 411, 3) := by decide +kernel
theorem dX11_lastWord_90 : decode cX11_lastWord 90 = .ok (.ireturn, 1) := by decide +kernel
theorem dX11_lastWord_91 : decode cX11_lastWord 91 = .ok (.aload_n 0, 1) := by decide +kernel
theorem dX11_lastWord_92 : decode cX11_lastWord 92 = .ok (.iload_n 2, 1) := by decide +kernel
theorem dX11_lastWord_93 : decode cX11_lastWord 93 = .ok (.bipush 6, 2) := by decide +kernel
theorem dX11_lastWord_95 : decode cX11_lastWord 95 = .ok (.if_icmp .ne 7, 3) := by decide +kernel
theorem dX11_lastWord_98 : decode cX11_lastWord 98 = .ok (.iconst 1, 1) := by decide +kernel
theorem dX11_lastWord_99 : decode cX11_lastWord 99 = .ok (.goto 4, 3) := by decide +kernel
theorem dX11_lastWord_102 : decode cX11_lastWord 102 = .ok (.iconst 0, 1) := by decide +kernel
theorem dX11_lastWord_103 : decode cX11_lastWord 103 = .ok (.invokevirtual 414, 3) := by decide +kernel
theorem dX11_lastWord_106 : decode cX11_lastWord 106 = .ok (.ireturn, 1) := by decide +kernel
theorem dX11_lastWord_107 : decode cX11_lastWord 107 = .ok (.iload_n 2, 1) := by decide +kernel
theorem dX11_lastWord_108 : decode cX11_lastWord 108 = .ok (.bipush 10, 2) := by decide +kernel
theorem dX11_lastWord_110 : decode cX11_lastWord 110 = .ok (.bipush 17, 2) := by decide +kernel
theorem dX11_lastWord_112 : decode cX11_lastWord 112 = .ok (.invokestatic 132, 3) := by decide +kernel
theorem dX11_lastWord_115 : decode cX11_lastWord 115 = .ok (.ifCond .eq 14, 3) := by decide +kernel
theorem dX11_lastWord_118 : decode cX11_lastWord 118 = .ok (.aload_n 0, 1) := by decide +kernel
theorem dX11_lastWord_119 : decode cX11_lastWord 119 = .ok (.iload_n 2, 1) := by decide +kernel
theorem dX11_lastWord_120 : decode cX11_lastWord 120 = .ok (.bipush 10, 2) := by decide +kernel
theorem dX11_lastWord_122 : decode cX11_lastWord 122 = .ok (.isub, 1) := by decide +kernel
theorem dX11_lastWord_123 : decode cX11_lastWord 123 = .ok (.invokevirtual 212, 3) := by decide +kernel
theorem dX11_lastWord_126 : decode cX11_lastWord 126 = .ok (.ifCond .ne 6, 3) := by decide +kernel
theorem dX11_lastWord_129 : decode cX11_lastWord 129 = .ok (.bipush (-2), 2) := by decide +kernel
theorem dX11_lastWord_131 : decode cX11_lastWord 131 = .ok (.ireturn, 1) := by decide +kernel
theorem dX11_lastWord_132 : decode cX11_lastWord 132 = .ok (.aload_n 0, 1) := by decide +kernel
theorem dX11_lastWord_133 : decode cX11_lastWord 133 = .ok (.invokevirtual 280, 3) := by decide +kernel
theorem dX11_lastWord_136 : decode cX11_lastWord 136 = .ok (.pop, 1) := by decide +kernel
theorem dX11_lastWord_137 : decode cX11_lastWord 137 = .ok (.aload_n 0, 1) := by decide +kernel
theorem dX11_lastWord_138 : decode cX11_lastWord 138 = .ok (.getfield 38, 3) := by decide +kernel
theorem dX11_lastWord_141 : decode cX11_lastWord 141 = .ok (.iload_n 2, 1) := by decide +kernel
theorem dX11_lastWord_142 : decode cX11_lastWord 142 = .ok (.bipush 10, 2) := by decide +kernel
theorem dX11_lastWord_144 : decode cX11_lastWord 144 = .ok (.isub, 1) := by decide +kernel
theorem dX11_lastWord_145 : decode cX11_lastWord 145 = .ok (.iaload, 1) := by decide +kernel
theorem dX11_lastWord_146 : decode cX11_lastWord 146 = .ok (.ireturn, 1) := by decide +kernel
theorem dX11_isWeek_0 : decode cX11_isWeek 0 = .ok (.aload_n 0, 1) := by decide +kernel
theorem dX11_isWeek_1 : decode cX11_isWeek 1 = .ok (.iconst 1, 1) := by decide +kernel
theorem dX11_isWeek_2 : decode cX11_isWeek 2 = .ok (.iload_n 1, 1) := by decide +kernel
theorem dX11_isWeek_3 : decode cX11_isWeek 3 = .ok (.invokevirtual 175, 3) := by decide +kernel
theorem dX11_isWeek_6 : decode cX11_isWeek 6 = .ok (.ifCond .ne 5, 3) := by decide +kernel
theorem dX11_isWeek_9 : decode cX11_isWeek 9 = .ok (.iconst 0, 1) := by decide +kernel
theorem dX11_isWeek_10 : decode cX11_isWeek 10 = .ok (.ireturn, 1) := by decide +kernel
theorem dX11_isWeek_11 : decode cX11_isWeek 11 = .ok (.aload_n 0, 1) := by decide +kernel
theorem dX11_isWeek_12 : decode cX11_isWeek 12 = .ok (.iconst 1, 1) := by decide +kernel
theorem dX11_isWeek_13 : decode cX11_isWeek 13 = .ok (.iload_n 1, 1) := by decide +kernel
theorem dX11_isWeek_14 : decode cX11_isWeek 14 = .ok (.invokestatic 194, 3) := by decide +kernel
theorem dX11_isWeek_17 : decode cX11_isWeek 17 = .ok (.putfield 417, 3) := by decide +kernel
theorem dX11_isWeek_20 : decode cX11_isWeek 20 = .ok (.iconst 1, 1) := by decide +kernel
theorem dX11_isWeek_21 : decode cX11_isWeek 21 = .ok (.ireturn, 1) := by decide +kernel
theorem dX11_deed_0 : decode cX11_deed 0 = .ok (.aload_n 0, 1) := by decide +kernel
theorem dX11_deed_1 : decode cX11_deed 1 = .ok (.iload_n 1, 1) := by decide +kernel
theorem dX11_deed_2 : decode cX11_deed 2 = .ok (.invokevirtual 420, 3) := by decide +kernel
theorem dX11_deed_5 : decode cX11_deed 5 = .ok (.ifCond .ne 6, 3) := by decide +kernel
theorem dX11_deed_8 : decode cX11_deed 8 = .ok (.bipush (-2), 2) := by decide +kernel
theorem dX11_deed_10 : decode cX11_deed 10 = .ok (.ireturn, 1) := by decide +kernel
theorem dX11_deed_11 : decode cX11_deed 11 = .ok (.iload_n 2, 1) := by decide +kernel
theorem dX11_deed_12 : decode cX11_deed 12 = .ok (.iconst (-1), 1) := by decide +kernel
theorem dX11_deed_13 : decode cX11_deed 13 = .ok (.if_icmp .ne 22, 3) := by decide +kernel
theorem dX11_deed_16 : decode cX11_deed 16 = .ok (.iload_n 3, 1) := by decide +kernel
theorem dX11_deed_17 : decode cX11_deed 17 = .ok (.ifCond .ne 15, 3) := by decide +kernel
theorem dX11_deed_20 : decode cX11_deed 20 = .ok (.aload_n 0, 1) := by decide +kernel
theorem dX11_deed_21 : decode cX11_deed 21 = .ok (.getfield 7, 3) := by decide +kernel
theorem dX11_deed_24 : decode cX11_deed 24 = .ok (.aload_n 0, 1) := by decide +kernel
theorem dX11_deed_25 : decode cX11_deed 25 = .ok (.getfield 417, 3) := by decide +kernel
theorem dX11_deed_28 : decode cX11_deed 28 = .ok (.iaload, 1) := by decide +kernel
theorem dX11_deed_29 : decode cX11_deed 29 = .ok (.goto 5, 3) := by decide +kernel
theorem dX11_deed_32 : decode cX11_deed 32 = .ok (.bipush (-2), 2) := by decide +kernel
theorem dX11_deed_34 : decode cX11_deed 34 = .ok (.ireturn, 1) := by decide +kernel
theorem dX11_deed_35 : decode cX11_deed 35 = .ok (.iload_n 2, 1) := by decide +kernel
theorem dX11_deed_36 : decode cX11_deed 36 = .ok (.iconst 0, 1) := by decide +kernel
theorem dX11_deed_37 : decode cX11_deed 37 = .ok (.aload_n 0, 1) := by decide +kernel
theorem dX11_deed_38 : decode cX11_deed 38 = .ok (.getfield 7, 3) := by decide +kernel
theorem dX11_deed_41 : decode cX11_deed 41 = .ok (.aload_n 0, 1) := by decide +kernel
theorem dX11_deed_42 : decode cX11_deed 42 = .ok (.getfield 417, 3) := by decide +kernel
theorem dX11_deed_45 : decode cX11_deed 45 = .ok (.iaload, 1) := by decide +kernel
theorem dX11_deed_46 : decode cX11_deed 46 = .ok (.iconst 1, 1) := by decide +kernel
theorem dX11_deed_47 : decode cX11_deed 47 = .ok (.isub, 1) := by decide +kernel
theorem dX11_deed_48 : decode cX11_deed 48 = .ok (.invokestatic 132, 3) := by decide +kernel
theorem dX11_deed_51 : decode cX11_deed 51 = .ok (.ifCond .eq 32, 3) := by decide +kernel
theorem dX11_deed_54 : decode cX11_deed 54 = .ok (.iload_n 3, 1) := by decide +kernel
theorem dX11_deed_55 : decode cX11_deed 55 = .ok (.iconst 0, 1) := by decide +kernel
theorem dX11_deed_56 : decode cX11_deed 56 = .ok (.iconst 2, 1) := by decide +kernel
theorem dX11_deed_57 : decode cX11_deed 57 = .ok (.invokestatic 132, 3) := by decide +kernel
theorem dX11_deed_60 : decode cX11_deed 60 = .ok (.ifCond .eq 23, 3) := by decide +kernel
theorem dX11_deed_63 : decode cX11_deed 63 = .ok (.aload_n 0, 1) := by decide +kernel
theorem dX11_deed_64 : decode cX11_deed 64 = .ok (.getfield 7, 3) := by decide +kernel
theorem dX11_deed_67 : decode cX11_deed 67 = .ok (.aload_n 0, 1) := by decide +kernel
theorem dX11_deed_68 : decode cX11_deed 68 = .ok (.getfield 417, 3) := by decide +kernel
theorem dX11_deed_71 : decode cX11_deed 71 = .ok (.iconst 1, 1) := by decide +kernel
theorem dX11_deed_72 : decode cX11_deed 72 = .ok (.iadd, 1) := by decide +kernel
theorem dX11_deed_73 : decode cX11_deed 73 = .ok (.iconst 3, 1) := by decide +kernel
theorem dX11_deed_74 : decode cX11_deed 74 = .ok (.iload_n 2, 1) := by decide +kernel
theorem dX11_deed_75 : decode cX11_deed 75 = .ok (.imul, 1) := by decide +kernel
theorem dX11_deed_76 : decode cX11_deed 76 = .ok (.iadd, 1) := by decide +kernel
theorem dX11_deed_77 : decode cX11_deed 77 = .ok (.iload_n 3, 1) := by decide +kernel
theorem dX11_deed_78 : decode cX11_deed 78 = .ok (.iadd, 1) := by decide +kernel
theorem dX11_deed_79 : decode cX11_deed 79 = .ok (.iaload, 1) := by decide +kernel
theorem dX11_deed_80 : decode cX11_deed 80 = .ok (.goto 5, 3) := by decide +kernel
theorem dX11_deed_83 : decode cX11_deed 83 = .ok (.bipush (-2), 2) := by decide +kernel
theorem dX11_deed_85 : decode cX11_deed 85 = .ok (.ireturn, 1) := by decide +kernel
theorem dX11_readsDeed_0 : decode cX11_readsDeed 0 = .ok (.aload_n 0, 1) := by decide +kernel
theorem dX11_readsDeed_1 : decode cX11_readsDeed 1 = .ok (.iload_n 1, 1) := by decide +kernel
theorem dX11_readsDeed_2 : decode cX11_readsDeed 2 = .ok (.invokevirtual 218, 3) := by decide +kernel
theorem dX11_readsDeed_5 : decode cX11_readsDeed 5 = .ok (.ifCond .ne 5, 3) := by decide +kernel
theorem dX11_readsDeed_8 : decode cX11_readsDeed 8 = .ok (.iconst 0, 1) := by decide +kernel
theorem dX11_readsDeed_9 : decode cX11_readsDeed 9 = .ok (.ireturn, 1) := by decide +kernel
theorem dX11_readsDeed_10 : decode cX11_readsDeed 10 = .ok (.aload_n 0, 1) := by decide +kernel
theorem dX11_readsDeed_11 : decode cX11_readsDeed 11 = .ok (.iload_n 1, 1) := by decide +kernel
theorem dX11_readsDeed_12 : decode cX11_readsDeed 12 = .ok (.invokevirtual 269, 3) := by decide +kernel
theorem dX11_readsDeed_15 : decode cX11_readsDeed 15 = .ok (.istore_n 2, 1) := by decide +kernel
theorem dX11_readsDeed_16 : decode cX11_readsDeed 16 = .ok (.iload_n 2, 1) := by decide +kernel
theorem dX11_readsDeed_17 : decode cX11_readsDeed 17 = .ok (.ifCond .le 19, 3) := by decide +kernel
theorem dX11_readsDeed_20 : decode cX11_readsDeed 20 = .ok (.aload_n 0, 1) := by decide +kernel
theorem dX11_readsDeed_21 : decode cX11_readsDeed 21 = .ok (.getfield 260, 3) := by decide +kernel
theorem dX11_readsDeed_24 : decode cX11_readsDeed 24 = .ok (.iconst (-1), 1) := by decide +kernel
theorem dX11_readsDeed_25 : decode cX11_readsDeed 25 = .ok (.if_icmp .ne 11, 3) := by decide +kernel
theorem dX11_readsDeed_28 : decode cX11_readsDeed 28 = .ok (.aload_n 0, 1) := by decide +kernel
theorem dX11_readsDeed_29 : decode cX11_readsDeed 29 = .ok (.aload_n 0, 1) := by decide +kernel
theorem dX11_readsDeed_30 : decode cX11_readsDeed 30 = .ok (.getfield 257, 3) := by decide +kernel
theorem dX11_readsDeed_33 : decode cX11_readsDeed 33 = .ok (.putfield 260, 3) := by decide +kernel
theorem dX11_readsDeed_36 : decode cX11_readsDeed 36 = .ok (.iconst 1, 1) := by decide +kernel
theorem dX11_readsDeed_37 : decode cX11_readsDeed 37 = .ok (.ireturn, 1) := by decide +kernel
theorem dX11_setsWord_0 : decode cX11_setsWord 0 = .ok (.aload_n 0, 1) := by decide +kernel
theorem dX11_setsWord_1 : decode cX11_setsWord 1 = .ok (.iload_n 1, 1) := by decide +kernel
theorem dX11_setsWord_2 : decode cX11_setsWord 2 = .ok (.invokevirtual 212, 3) := by decide +kernel
theorem dX11_setsWord_5 : decode cX11_setsWord 5 = .ok (.ifCond .eq 13, 3) := by decide +kernel
theorem dX11_setsWord_8 : decode cX11_setsWord 8 = .ok (.aload_n 0, 1) := by decide +kernel
theorem dX11_setsWord_9 : decode cX11_setsWord 9 = .ok (.getfield 26, 3) := by decide +kernel
theorem dX11_setsWord_12 : decode cX11_setsWord 12 = .ok (.iload_n 1, 1) := by decide +kernel
theorem dX11_setsWord_13 : decode cX11_setsWord 13 = .ok (.iaload, 1) := by decide +kernel
theorem dX11_setsWord_14 : decode cX11_setsWord 14 = .ok (.iload_n 2, 1) := by decide +kernel
theorem dX11_setsWord_15 : decode cX11_setsWord 15 = .ok (.if_icmp .ne 5, 3) := by decide +kernel
theorem dX11_setsWord_18 : decode cX11_setsWord 18 = .ok (.iconst 0, 1) := by decide +kernel
theorem dX11_setsWord_19 : decode cX11_setsWord 19 = .ok (.ireturn, 1) := by decide +kernel
theorem dX11_setsWord_20 : decode cX11_setsWord 20 = .ok (.aload_n 0, 1) := by decide +kernel
theorem dX11_setsWord_21 : decode cX11_setsWord 21 = .ok (.getfield 26, 3) := by decide +kernel
theorem dX11_setsWord_24 : decode cX11_setsWord 24 = .ok (.iload_n 1, 1) := by decide +kernel
theorem dX11_setsWord_25 : decode cX11_setsWord 25 = .ok (.iload_n 2, 1) := by decide +kernel
theorem dX11_setsWord_26 : decode cX11_setsWord 26 = .ok (.iastore, 1) := by decide +kernel
theorem dX11_setsWord_27 : decode cX11_setsWord 27 = .ok (.aload_n 0, 1) := by decide +kernel
theorem dX11_setsWord_28 : decode cX11_setsWord 28 = .ok (.dup, 1) := by decide +kernel
theorem dX11_setsWord_29 : decode cX11_setsWord 29 = .ok (.getfield 254, 3) := by decide +kernel
theorem dX11_setsWord_32 : decode cX11_setsWord 32 = .ok (.iconst 1, 1) := by decide +kernel
theorem dX11_setsWord_33 : decode cX11_setsWord 33 = .ok (.iload_n 1, 1) := by decide +kernel
theorem dX11_setsWord_34 : decode cX11_setsWord 34 = .ok (.ishl, 1) := by decide +kernel
theorem dX11_setsWord_35 : decode cX11_setsWord 35 = .ok (.ior, 1) := by decide +kernel
theorem dX11_setsWord_36 : decode cX11_setsWord 36 = .ok (.putfield 254, 3) := by decide +kernel
theorem dX11_setsWord_39 : decode cX11_setsWord 39 = .ok (.aload_n 0, 1) := by decide +kernel
theorem dX11_setsWord_40 : decode cX11_setsWord 40 = .ok (.dup, 1) := by decide +kernel
theorem dX11_setsWord_41 : decode cX11_setsWord 41 = .ok (.getfield 251, 3) := by decide +kernel
theorem dX11_setsWord_44 : decode cX11_setsWord 44 = .ok (.iconst 1, 1) := by decide +kernel
theorem dX11_setsWord_45 : decode cX11_setsWord 45 = .ok (.iadd, 1) := by decide +kernel
theorem dX11_setsWord_46 : decode cX11_setsWord 46 = .ok (.putfield 251, 3) := by decide +kernel
theorem dX11_setsWord_49 : decode cX11_setsWord 49 = .ok (.iconst 1, 1) := by decide +kernel
theorem dX11_setsWord_50 : decode cX11_setsWord 50 = .ok (.ireturn, 1) := by decide +kernel
theorem dX11_stets_0 : decode cX11_stets 0 = .ok (.aload_n 0, 1) := by decide +kernel
theorem dX11_stets_1 : decode cX11_stets 1 = .ok (.iload_n 1, 1) := by decide +kernel
theorem dX11_stets_2 : decode cX11_stets 2 = .ok (.invokevirtual 218, 3) := by decide +kernel
theorem dX11_stets_5 : decode cX11_stets 5 = .ok (.ifCond .eq 25, 3) := by decide +kernel
theorem dX11_stets_8 : decode cX11_stets 8 = .ok (.aload_n 0, 1) := by decide +kernel
theorem dX11_stets_9 : decode cX11_stets 9 = .ok (.iload_n 2, 1) := by decide +kernel
theorem dX11_stets_10 : decode cX11_stets 10 = .ok (.invokevirtual 212, 3) := by decide +kernel
theorem dX11_stets_13 : decode cX11_stets 13 = .ok (.ifCond .eq 17, 3) := by decide +kernel
theorem dX11_stets_16 : decode cX11_stets 16 = .ok (.aload_n 0, 1) := by decide +kernel
theorem dX11_stets_17 : decode cX11_stets 17 = .ok (.getfield 32, 3) := by decide +kernel
theorem dX11_stets_20 : decode cX11_stets 20 = .ok (.iload_n 1, 1) := by decide +kernel
theorem dX11_stets_21 : decode cX11_stets 21 = .ok (.iaload, 1) := by decide +kernel
theorem dX11_stets_22 : decode cX11_stets 22 = .ok (.iload_n 2, 1) := by decide +kernel
theorem dX11_stets_23 : decode cX11_stets 23 = .ok (.ishr, 1) := by decide +kernel
theorem dX11_stets_24 : decode cX11_stets 24 = .ok (.iconst 1, 1) := by decide +kernel
theorem dX11_stets_25 : decode cX11_stets 25 = .ok (.iand, 1) := by decide +kernel
theorem dX11_stets_26 : decode cX11_stets 26 = .ok (.iconst 1, 1) := by decide +kernel
theorem dX11_stets_27 : decode cX11_stets 27 = .ok (.if_icmp .ne 5, 3) := by decide +kernel
theorem dX11_stets_30 : decode cX11_stets 30 = .ok (.iconst 0, 1) := by decide +kernel
theorem dX11_stets_31 : decode cX11_stets 31 = .ok (.ireturn, 1) := by decide +kernel
theorem dX11_stets_32 : decode cX11_stets 32 = .ok (.aload_n 0, 1) := by decide +kernel
theorem dX11_stets_33 : decode cX11_stets 33 = .ok (.getfield 32, 3) := by decide +kernel
theorem dX11_stets_36 : decode cX11_stets 36 = .ok (.iload_n 1, 1) := by decide +kernel
theorem dX11_stets_37 : decode cX11_stets 37 = .ok (.dup2, 1) := by decide +kernel
theorem dX11_stets_38 : decode cX11_stets 38 = .ok (.iaload, 1) := by decide +kernel
theorem dX11_stets_39 : decode cX11_stets 39 = .ok (.iconst 1, 1) := by decide +kernel
theorem dX11_stets_40 : decode cX11_stets 40 = .ok (.iload_n 2, 1) := by decide +kernel
theorem dX11_stets_41 : decode cX11_stets 41 = .ok (.ishl, 1) := by decide +kernel
theorem dX11_stets_42 : decode cX11_stets 42 = .ok (.ior, 1) := by decide +kernel
theorem dX11_stets_43 : decode cX11_stets 43 = .ok (.iastore, 1) := by decide +kernel
theorem dX11_stets_44 : decode cX11_stets 44 = .ok (.iconst 1, 1) := by decide +kernel
theorem dX11_stets_45 : decode cX11_stets 45 = .ok (.ireturn, 1) := by decide +kernel
theorem dX11_joinsWords_0 : decode cX11_joinsWords 0 = .ok (.aload_n 0, 1) := by decide +kernel
theorem dX11_joinsWords_1 : decode cX11_joinsWords 1 = .ok (.iload_n 1, 1) := by decide +kernel
theorem dX11_joinsWords_2 : decode cX11_joinsWords 2 = .ok (.iload_n 2, 1) := by decide +kernel
theorem dX11_joinsWords_3 : decode cX11_joinsWords 3 = .ok (.invokevirtual 233, 3) := by decide +kernel
theorem dX11_joinsWords_6 : decode cX11_joinsWords 6 = .ok (.iload_n 3, 1) := by decide +kernel
theorem dX11_joinsWords_7 : decode cX11_joinsWords 7 = .ok (.if_icmp .ne 5, 3) := by decide +kernel
theorem dX11_joinsWords_10 : decode cX11_joinsWords 10 = .ok (.iconst 0, 1) := by decide +kernel
theorem dX11_joinsWords_11 : decode cX11_joinsWords 11 = .ok (.ireturn, 1) := by decide +kernel
theorem dX11_joinsWords_12 : decode cX11_joinsWords 12 = .ok (.aload_n 0, 1) := by decide +kernel
theorem dX11_joinsWords_13 : decode cX11_joinsWords 13 = .ok (.iload_n 1, 1) := by decide +kernel
theorem dX11_joinsWords_14 : decode cX11_joinsWords 14 = .ok (.iload_n 2, 1) := by decide +kernel
theorem dX11_joinsWords_15 : decode cX11_joinsWords 15 = .ok (.iload_n 3, 1) := by decide +kernel
theorem dX11_joinsWords_16 : decode cX11_joinsWords 16 = .ok (.invokevirtual 356, 3) := by decide +kernel
theorem dX11_joinsWords_19 : decode cX11_joinsWords 19 = .ok (.iconst 1, 1) := by decide +kernel
theorem dX11_joinsWords_20 : decode cX11_joinsWords 20 = .ok (.ireturn, 1) := by decide +kernel
theorem dX11_printsAll_0 : decode cX11_printsAll 0 = .ok (.aload_n 0, 1) := by decide +kernel
theorem dX11_printsAll_1 : decode cX11_printsAll 1 = .ok (.aload_n 0, 1) := by decide +kernel
theorem dX11_printsAll_2 : decode cX11_printsAll 2 = .ok (.getfield 248, 3) := by decide +kernel
theorem dX11_printsAll_5 : decode cX11_printsAll 5 = .ok (.aload_n 0, 1) := by decide +kernel
theorem dX11_printsAll_6 : decode cX11_printsAll 6 = .ok (.getfield 65, 3) := by decide +kernel
theorem dX11_printsAll_9 : decode cX11_printsAll 9 = .ok (.invokevirtual 276, 3) := by decide +kernel
theorem dX11_printsAll_12 : decode cX11_printsAll 12 = .ok (.aload_n 0, 1) := by decide +kernel
theorem dX11_printsAll_13 : decode cX11_printsAll 13 = .ok (.dup, 1) := by decide +kernel
theorem dX11_printsAll_14 : decode cX11_printsAll 14 = .ok (.getfield 248, 3) := by decide +kernel
theorem dX11_printsAll_17 : decode cX11_printsAll 17 = .ok (.iconst 1, 1) := by decide +kernel
theorem dX11_printsAll_18 : decode cX11_printsAll 18 = .ok (.iadd, 1) := by decide +kernel
theorem dX11_printsAll_19 : decode cX11_printsAll 19 = .ok (.putfield 248, 3) := by decide +kernel
theorem dX11_printsAll_22 : decode cX11_printsAll 22 = .ok (.iconst 0, 1) := by decide +kernel
theorem dX11_printsAll_23 : decode cX11_printsAll 23 = .ok (.istore_n 1, 1) := by decide +kernel
theorem dX11_printsAll_24 : decode cX11_printsAll 24 = .ok (.iload_n 1, 1) := by decide +kernel
theorem dX11_printsAll_25 : decode cX11_printsAll 25 = .ok (.aload_n 0, 1) := by decide +kernel
theorem dX11_printsAll_26 : decode cX11_printsAll 26 = .ok (.getfield 200, 3) := by decide +kernel
theorem dX11_printsAll_29 : decode cX11_printsAll 29 = .ok (.if_icmp .ge 21, 3) := by decide +kernel
theorem dX11_printsAll_32 : decode cX11_printsAll 32 = .ok (.aload_n 0, 1) := by decide +kernel
theorem dX11_printsAll_33 : decode cX11_printsAll 33 = .ok (.getfield 29, 3) := by decide +kernel
theorem dX11_printsAll_36 : decode cX11_printsAll 36 = .ok (.iload_n 1, 1) := by decide +kernel
theorem dX11_printsAll_37 : decode cX11_printsAll 37 = .ok (.aload_n 0, 1) := by decide +kernel
theorem dX11_printsAll_38 : decode cX11_printsAll 38 = .ok (.getfield 26, 3) := by decide +kernel
theorem dX11_printsAll_41 : decode cX11_printsAll 41 = .ok (.iload_n 1, 1) := by decide +kernel
theorem dX11_printsAll_42 : decode cX11_printsAll 42 = .ok (.iaload, 1) := by decide +kernel
theorem dX11_printsAll_43 : decode cX11_printsAll 43 = .ok (.iastore, 1) := by decide +kernel
theorem dX11_printsAll_44 : decode cX11_printsAll 44 = .ok (.iinc 1 1, 3) := by decide +kernel
theorem dX11_printsAll_47 : decode cX11_printsAll 47 = .ok (.goto (-23), 3) := by decide +kernel
theorem dX11_printsAll_50 : decode cX11_printsAll 50 = .ok (.iconst 1, 1) := by decide +kernel
theorem dX11_printsAll_51 : decode cX11_printsAll 51 = .ok (.ireturn, 1) := by decide +kernel
theorem dX11_does_0 : decode cX11_does 0 = .ok (.iload_n 1, 1) := by decide +kernel
theorem dX11_does_1 : decode cX11_does 1 = .ok (.tableswitch 72 0 4 #[35, 41, 48, 55, 55], 35) := by decide +kernel
theorem dX11_does_36 : decode cX11_does 36 = .ok (.aload_n 0, 1) := by decide +kernel
theorem dX11_does_37 : decode cX11_does 37 = .ok (.iload_n 2, 1) := by decide +kernel
theorem dX11_does_38 : decode cX11_does 38 = .ok (.invokevirtual 423, 3) := by decide +kernel
theorem dX11_does_41 : decode cX11_does 41 = .ok (.ireturn, 1) := by decide +kernel
theorem dX11_does_42 : decode cX11_does 42 = .ok (.aload_n 0, 1) := by decide +kernel
theorem dX11_does_43 : decode cX11_does 43 = .ok (.iload_n 2, 1) := by decide +kernel
theorem dX11_does_44 : decode cX11_does 44 = .ok (.iload_n 3, 1) := by decide +kernel
theorem dX11_does_45 : decode cX11_does 45 = .ok (.invokevirtual 426, 3) := by decide +kernel
theorem dX11_does_48 : decode cX11_does 48 = .ok (.ireturn, 1) := by decide +kernel
theorem dX11_does_49 : decode cX11_does 49 = .ok (.aload_n 0, 1) := by decide +kernel
theorem dX11_does_50 : decode cX11_does 50 = .ok (.iload_n 2, 1) := by decide +kernel
theorem dX11_does_51 : decode cX11_does 51 = .ok (.iload_n 3, 1) := by decide +kernel
theorem dX11_does_52 : decode cX11_does 52 = .ok (.invokevirtual 429, 3) := by decide +kernel
theorem dX11_does_55 : decode cX11_does 55 = .ok (.ireturn, 1) := by decide +kernel
theorem dX11_does_56 : decode cX11_does 56 = .ok (.aload_n 0, 1) := by decide +kernel
theorem dX11_does_57 : decode cX11_does 57 = .ok (.iload_n 2, 1) := by decide +kernel
theorem dX11_does_58 : decode cX11_does 58 = .ok (.iload_n 3, 1) := by decide +kernel
theorem dX11_does_59 : decode cX11_does 59 = .ok (.iload_n 1, 1) := by decide +kernel
theorem dX11_does_60 : decode cX11_does 60 = .ok (.iconst 3, 1) := by decide +kernel
theorem dX11_does_61 : decode cX11_does 61 = .ok (.if_icmp .ne 7, 3) := by decide +kernel
theorem dX11_does_64 : decode cX11_does 64 = .ok (.iconst 1, 1) := by decide +kernel
theorem dX11_does_65 : decode cX11_does 65 = .ok (.goto 4, 3) := by decide +kernel
theorem dX11_does_68 : decode cX11_does 68 = .ok (.iconst 0, 1) := by decide +kernel
theorem dX11_does_69 : decode cX11_does 69 = .ok (.invokevirtual 432, 3) := by decide +kernel
theorem dX11_does_72 : decode cX11_does 72 = .ok (.ireturn, 1) := by decide +kernel
theorem dX11_does_73 : decode cX11_does 73 = .ok (.aload_n 0, 1) := by decide +kernel
theorem dX11_does_74 : decode cX11_does 74 = .ok (.invokevirtual 436, 3) := by decide +kernel
theorem dX11_does_77 : decode cX11_does 77 = .ok (.ireturn, 1) := by decide +kernel
theorem dX11_runs_0 : decode cX11_runs 0 = .ok (.aload_n 0, 1) := by decide +kernel
theorem dX11_runs_1 : decode cX11_runs 1 = .ok (.getfield 257, 3) := by decide +kernel
theorem dX11_runs_4 : decode cX11_runs 4 = .ok (.iload_n 1, 1) := by decide +kernel
theorem dX11_runs_5 : decode cX11_runs 5 = .ok (.if_icmp .ge 93, 3) := by decide +kernel
theorem dX11_runs_8 : decode cX11_runs 8 = .ok (.aload_n 0, 1) := by decide +kernel
theorem dX11_runs_9 : decode cX11_runs 9 = .ok (.getfield 257, 3) := by decide +kernel
theorem dX11_runs_12 : decode cX11_runs 12 = .ok (.aload_n 0, 1) := by decide +kernel
theorem dX11_runs_13 : decode cX11_runs 13 = .ok (.getfield 7, 3) := by decide +kernel
theorem dX11_runs_16 : decode cX11_runs 16 = .ok (.aload_n 0, 1) := by decide +kernel
theorem dX11_runs_17 : decode cX11_runs 17 = .ok (.getfield 417, 3) := by decide +kernel
theorem dX11_runs_20 : decode cX11_runs 20 = .ok (.iaload, 1) := by decide +kernel
theorem dX11_runs_21 : decode cX11_runs 21 = .ok (.if_icmp .ge 77, 3) := by decide +kernel
theorem dX11_runs_24 : decode cX11_runs 24 = .ok (.aload_n 0, 1) := by decide +kernel
theorem dX11_runs_25 : decode cX11_runs 25 = .ok (.aload_n 0, 1) := by decide +kernel
theorem dX11_runs_26 : decode cX11_runs 26 = .ok (.getfield 7, 3) := by decide +kernel
theorem dX11_runs_29 : decode cX11_runs 29 = .ok (.aload_n 0, 1) := by decide +kernel
theorem dX11_runs_30 : decode cX11_runs 30 = .ok (.getfield 417, 3) := by decide +kernel
theorem dX11_runs_33 : decode cX11_runs 33 = .ok (.iconst 1, 1) := by decide +kernel
theorem dX11_runs_34 : decode cX11_runs 34 = .ok (.iadd, 1) := by decide +kernel
theorem dX11_runs_35 : decode cX11_runs 35 = .ok (.iconst 3, 1) := by decide +kernel
theorem dX11_runs_36 : decode cX11_runs 36 = .ok (.aload_n 0, 1) := by decide +kernel
theorem dX11_runs_37 : decode cX11_runs 37 = .ok (.getfield 257, 3) := by decide +kernel
theorem dX11_runs_40 : decode cX11_runs 40 = .ok (.imul, 1) := by decide +kernel
theorem dX11_runs_41 : decode cX11_runs 41 = .ok (.iadd, 1) := by decide +kernel
theorem dX11_runs_42 : decode cX11_runs 42 = .ok (.iaload, 1) := by decide +kernel
theorem dX11_runs_43 : decode cX11_runs 43 = .ok (.aload_n 0, 1) := by decide +kernel
theorem dX11_runs_44 : decode cX11_runs 44 = .ok (.getfield 7, 3) := by decide +kernel
theorem dX11_runs_47 : decode cX11_runs 47 = .ok (.aload_n 0, 1) := by decide +kernel
theorem dX11_runs_48 : decode cX11_runs 48 = .ok (.getfield 417, 3) := by decide +kernel
theorem dX11_runs_51 : decode cX11_runs 51 = .ok (.iconst 2, 1) := by decide +kernel
theorem dX11_runs_52 : decode cX11_runs 52 = .ok (.iadd, 1) := by decide +kernel
theorem dX11_runs_53 : decode cX11_runs 53 = .ok (.iconst 3, 1) := by decide +kernel
theorem dX11_runs_54 : decode cX11_runs 54 = .ok (.aload_n 0, 1) := by decide +kernel
theorem dX11_runs_55 : decode cX11_runs 55 = .ok (.getfield 257, 3) := by decide +kernel
theorem dX11_runs_58 : decode cX11_runs 58 = .ok (.imul, 1) := by decide +kernel
theorem dX11_runs_59 : decode cX11_runs 59 = .ok (.iadd, 1) := by decide +kernel
theorem dX11_runs_60 : decode cX11_runs 60 = .ok (.iaload, 1) := by decide +kernel
theorem dX11_runs_61 : decode cX11_runs 61 = .ok (.aload_n 0, 1) := by decide +kernel
theorem dX11_runs_62 : decode cX11_runs 62 = .ok (.getfield 7, 3) := by decide +kernel
theorem dX11_runs_65 : decode cX11_runs 65 = .ok (.aload_n 0, 1) := by decide +kernel
theorem dX11_runs_66 : decode cX11_runs 66 = .ok (.getfield 417, 3) := by decide +kernel
theorem dX11_runs_69 : decode cX11_runs 69 = .ok (.iconst 3, 1) := by decide +kernel
theorem dX11_runs_70 : decode cX11_runs 70 = .ok (.iadd, 1) := by decide +kernel
theorem dX11_runs_71 : decode cX11_runs 71 = .ok (.iconst 3, 1) := by decide +kernel
theorem dX11_runs_72 : decode cX11_runs 72 = .ok (.aload_n 0, 1) := by decide +kernel
theorem dX11_runs_73 : decode cX11_runs 73 = .ok (.getfield 257, 3) := by decide +kernel
theorem dX11_runs_76 : decode cX11_runs 76 = .ok (.imul, 1) := by decide +kernel
theorem dX11_runs_77 : decode cX11_runs 77 = .ok (.iadd, 1) := by decide +kernel
theorem dX11_runs_78 : decode cX11_runs 78 = .ok (.iaload, 1) := by decide +kernel
theorem dX11_runs_79 : decode cX11_runs 79 = .ok (.invokevirtual 439, 3) := by decide +kernel
theorem dX11_runs_82 : decode cX11_runs 82 = .ok (.ifCond .eq 16, 3) := by decide +kernel
theorem dX11_runs_85 : decode cX11_runs 85 = .ok (.aload_n 0, 1) := by decide +kernel
theorem dX11_runs_86 : decode cX11_runs 86 = .ok (.dup, 1) := by decide +kernel
theorem dX11_runs_87 : decode cX11_runs 87 = .ok (.getfield 257, 3) := by decide +kernel
theorem dX11_runs_90 : decode cX11_runs 90 = .ok (.iconst 1, 1) := by decide +kernel
theorem dX11_runs_91 : decode cX11_runs 91 = .ok (.iadd, 1) := by decide +kernel
theorem dX11_runs_92 : decode cX11_runs 92 = .ok (.putfield 257, 3) := by decide +kernel
theorem dX11_runs_95 : decode cX11_runs 95 = .ok (.goto (-95), 3) := by decide +kernel
theorem dX11_runs_98 : decode cX11_runs 98 = .ok (.return_, 1) := by decide +kernel
theorem dX11_stop_0 : decode cX11_stop 0 = .ok (.aload_n 0, 1) := by decide +kernel
theorem dX11_stop_1 : decode cX11_stop 1 = .ok (.iload_n 1, 1) := by decide +kernel
theorem dX11_stop_2 : decode cX11_stop 2 = .ok (.invokevirtual 209, 3) := by decide +kernel
theorem dX11_stop_5 : decode cX11_stop 5 = .ok (.ifCond .eq 11, 3) := by decide +kernel
theorem dX11_stop_8 : decode cX11_stop 8 = .ok (.aload_n 0, 1) := by decide +kernel
theorem dX11_stop_9 : decode cX11_stop 9 = .ok (.iload_n 2, 1) := by decide +kernel
theorem dX11_stop_10 : decode cX11_stop 10 = .ok (.invokevirtual 420, 3) := by decide +kernel
theorem dX11_stop_13 : decode cX11_stop 13 = .ok (.ifCond .ne 5, 3) := by decide +kernel
theorem dX11_stop_16 : decode cX11_stop 16 = .ok (.iconst (-1), 1) := by decide +kernel
theorem dX11_stop_17 : decode cX11_stop 17 = .ok (.ireturn, 1) := by decide +kernel
theorem dX11_stop_18 : decode cX11_stop 18 = .ok (.aload_n 0, 1) := by decide +kernel
theorem dX11_stop_19 : decode cX11_stop 19 = .ok (.bipush 40, 2) := by decide +kernel
theorem dX11_stop_21 : decode cX11_stop 21 = .ok (.invokevirtual 442, 3) := by decide +kernel
theorem dX11_stop_24 : decode cX11_stop 24 = .ok (.aload_n 0, 1) := by decide +kernel
theorem dX11_stop_25 : decode cX11_stop 25 = .ok (.getfield 257, 3) := by decide +kernel
theorem dX11_stop_28 : decode cX11_stop 28 = .ok (.ireturn, 1) := by decide +kernel
theorem dX11_nowOf_0 : decode cX11_nowOf 0 = .ok (.iload_n 1, 1) := by decide +kernel
theorem dX11_nowOf_1 : decode cX11_nowOf 1 = .ok (.ifCond .ge 6, 3) := by decide +kernel
theorem dX11_nowOf_4 : decode cX11_nowOf 4 = .ok (.bipush (-2), 2) := by decide +kernel
theorem dX11_nowOf_6 : decode cX11_nowOf 6 = .ok (.ireturn, 1) := by decide +kernel
theorem dX11_nowOf_7 : decode cX11_nowOf 7 = .ok (.iload_n 1, 1) := by decide +kernel
theorem dX11_nowOf_8 : decode cX11_nowOf 8 = .ok (.iconst 2, 1) := by decide +kernel
theorem dX11_nowOf_9 : decode cX11_nowOf 9 = .ok (.if_icmp .ge 19, 3) := by decide +kernel
theorem dX11_nowOf_12 : decode cX11_nowOf 12 = .ok (.iload_n 1, 1) := by decide +kernel
theorem dX11_nowOf_13 : decode cX11_nowOf 13 = .ok (.ifCond .ne 10, 3) := by decide +kernel
theorem dX11_nowOf_16 : decode cX11_nowOf 16 = .ok (.aload_n 0, 1) := by decide +kernel
theorem dX11_nowOf_17 : decode cX11_nowOf 17 = .ok (.getfield 242, 3) := by decide +kernel
theorem dX11_nowOf_20 : decode cX11_nowOf 20 = .ok (.goto 7, 3) := by decide +kernel
theorem dX11_nowOf_23 : decode cX11_nowOf 23 = .ok (.aload_n 0, 1) := by decide +kernel
theorem dX11_nowOf_24 : decode cX11_nowOf 24 = .ok (.getfield 248, 3) := by decide +kernel
theorem dX11_nowOf_27 : decode cX11_nowOf 27 = .ok (.ireturn, 1) := by decide +kernel
theorem dX11_nowOf_28 : decode cX11_nowOf 28 = .ok (.iload_n 1, 1) := by decide +kernel
theorem dX11_nowOf_29 : decode cX11_nowOf 29 = .ok (.bipush 10, 2) := by decide +kernel
theorem dX11_nowOf_31 : decode cX11_nowOf 31 = .ok (.irem, 1) := by decide +kernel
theorem dX11_nowOf_32 : decode cX11_nowOf 32 = .ok (.istore_n 2, 1) := by decide +kernel
theorem dX11_nowOf_33 : decode cX11_nowOf 33 = .ok (.iload_n 1, 1) := by decide +kernel
theorem dX11_nowOf_34 : decode cX11_nowOf 34 = .ok (.bipush 10, 2) := by decide +kernel
theorem dX11_nowOf_36 : decode cX11_nowOf 36 = .ok (.idiv, 1) := by decide +kernel
theorem dX11_nowOf_37 : decode cX11_nowOf 37 = .ok (.tableswitch 121 1 5 #[35, 55, 75, 94, 114], 35) := by decide +kernel
theorem dX11_nowOf_72 : decode cX11_nowOf 72 = .ok (.aload_n 0, 1) := by decide +kernel
theorem dX11_nowOf_73 : decode cX11_nowOf 73 = .ok (.iload_n 2, 1) := by decide +kernel
theorem dX11_nowOf_74 : decode cX11_nowOf 74 = .ok (.invokevirtual 212, 3) := by decide +kernel
theorem dX11_nowOf_77 : decode cX11_nowOf 77 = .ok (.ifCond .eq 12, 3) := by decide +kernel
theorem dX11_nowOf_80 : decode cX11_nowOf 80 = .ok (.aload_n 0, 1) := by decide +kernel
theorem dX11_nowOf_81 : decode cX11_nowOf 81 = .ok (.getfield 26, 3) := by decide +kernel
theorem dX11_nowOf_84 : decode cX11_nowOf 84 = .ok (.iload_n 2, 1) := by decide +kernel
theorem dX11_nowOf_85 : decode cX11_nowOf 85 = .ok (.iaload, 1) := by decide +kernel
theorem dX11_nowOf_86 : decode cX11_nowOf 86 = .ok (.goto 5, 3) := by decide +kernel
theorem dX11_nowOf_89 : decode cX11_nowOf 89 = .ok (.bipush (-2), 2) := by decide +kernel
theorem dX11_nowOf_91 : decode cX11_nowOf 91 = .ok (.ireturn, 1) := by decide +kernel
theorem dX11_nowOf_92 : decode cX11_nowOf 92 = .ok (.aload_n 0, 1) := by decide +kernel
theorem dX11_nowOf_93 : decode cX11_nowOf 93 = .ok (.iload_n 2, 1) := by decide +kernel
theorem dX11_nowOf_94 : decode cX11_nowOf 94 = .ok (.invokevirtual 212, 3) := by decide +kernel
theorem dX11_nowOf_97 : decode cX11_nowOf 97 = .ok (.ifCond .eq 12, 3) := by decide +kernel
theorem dX11_nowOf_100 : decode cX11_nowOf 100 = .ok (.aload_n 0, 1) := by decide +kernel
theorem dX11_nowOf_101 : decode cX11_nowOf 101 = .ok (.getfield 29, 3) := by decide +kernel
theorem dX11_nowOf_104 : decode cX11_nowOf 104 = .ok (.iload_n 2, 1) := by decide +kernel
theorem dX11_nowOf_105 : decode cX11_nowOf 105 = .ok (.iaload, 1) := by decide +kernel
theorem dX11_nowOf_106 : decode cX11_nowOf 106 = .ok (.goto 5, 3) := by decide +kernel
theorem dX11_nowOf_109 : decode cX11_nowOf 109 = .ok (.bipush (-2), 2) := by decide +kernel
theorem dX11_nowOf_111 : decode cX11_nowOf 111 = .ok (.ireturn, 1) := by decide +kernel
theorem dX11_nowOf_112 : decode cX11_nowOf 112 = .ok (.aload_n 0, 1) := by decide +kernel
theorem dX11_nowOf_113 : decode cX11_nowOf 113 = .ok (.iload_n 2, 1) := by decide +kernel
theorem dX11_nowOf_114 : decode cX11_nowOf 114 = .ok (.invokevirtual 218, 3) := by decide +kernel
theorem dX11_nowOf_117 : decode cX11_nowOf 117 = .ok (.ifCond .eq 11, 3) := by decide +kernel
theorem dX11_nowOf_120 : decode cX11_nowOf 120 = .ok (.aload_n 0, 1) := by decide +kernel
theorem dX11_nowOf_121 : decode cX11_nowOf 121 = .ok (.iload_n 2, 1) := by decide +kernel
theorem dX11_nowOf_122 : decode cX11_nowOf 122 = .ok (.invokevirtual 266, 3) := by decide +kernel
theorem dX11_nowOf_125 : decode cX11_nowOf 125 = .ok (.goto 5, 3) := by decide +kernel
theorem dX11_nowOf_128 : decode cX11_nowOf 128 = .ok (.bipush (-2), 2) := by decide +kernel
theorem dX11_nowOf_130 : decode cX11_nowOf 130 = .ok (.ireturn, 1) := by decide +kernel
theorem dX11_nowOf_131 : decode cX11_nowOf 131 = .ok (.aload_n 0, 1) := by decide +kernel
theorem dX11_nowOf_132 : decode cX11_nowOf 132 = .ok (.iload_n 2, 1) := by decide +kernel
theorem dX11_nowOf_133 : decode cX11_nowOf 133 = .ok (.invokevirtual 218, 3) := by decide +kernel
theorem dX11_nowOf_136 : decode cX11_nowOf 136 = .ok (.ifCond .eq 12, 3) := by decide +kernel
theorem dX11_nowOf_139 : decode cX11_nowOf 139 = .ok (.aload_n 0, 1) := by decide +kernel
theorem dX11_nowOf_140 : decode cX11_nowOf 140 = .ok (.getfield 32, 3) := by decide +kernel
theorem dX11_nowOf_143 : decode cX11_nowOf 143 = .ok (.iload_n 2, 1) := by decide +kernel
theorem dX11_nowOf_144 : decode cX11_nowOf 144 = .ok (.iaload, 1) := by decide +kernel
theorem dX11_nowOf_145 : decode cX11_nowOf 145 = .ok (.goto 5, 3) := by decide +kernel
theorem dX11_nowOf_148 : decode cX11_nowOf 148 = .ok (.bipush (-2), 2) := by decide +kernel
theorem dX11_nowOf_150 : decode cX11_nowOf 150 = .ok (.ireturn, 1) := by decide +kernel
theorem dX11_nowOf_151 : decode cX11_nowOf 151 = .ok (.aload_n 0, 1) := by decide +kernel
theorem dX11_nowOf_152 : decode cX11_nowOf 152 = .ok (.getfield 20, 3) := by decide +kernel
theorem dX11_nowOf_155 : decode cX11_nowOf 155 = .ok (.iload_n 2, 1) := by decide +kernel
theorem dX11_nowOf_156 : decode cX11_nowOf 156 = .ok (.iaload, 1) := by decide +kernel
theorem dX11_nowOf_157 : decode cX11_nowOf 157 = .ok (.ireturn, 1) := by decide +kernel
theorem dX11_nowOf_158 : decode cX11_nowOf 158 = .ok (.bipush (-2), 2) := by decide +kernel
theorem dX11_nowOf_160 : decode cX11_nowOf 160 = .ok (.ireturn, 1) := by decide +kernel
theorem dX11_state_0 : decode cX11_state 0 = .ok (.aload_n 0, 1) := by decide +kernel
theorem dX11_state_1 : decode cX11_state 1 = .ok (.iload_n 1, 1) := by decide +kernel
theorem dX11_state_2 : decode cX11_state 2 = .ok (.invokevirtual 209, 3) := by decide +kernel
theorem dX11_state_5 : decode cX11_state 5 = .ok (.ifCond .eq 15, 3) := by decide +kernel
theorem dX11_state_8 : decode cX11_state 8 = .ok (.aload_n 0, 1) := by decide +kernel
theorem dX11_state_9 : decode cX11_state 9 = .ok (.iload_n 2, 1) := by decide +kernel
theorem dX11_state_10 : decode cX11_state 10 = .ok (.invokevirtual 420, 3) := by decide +kernel
theorem dX11_state_13 : decode cX11_state 13 = .ok (.ifCond .eq 7, 3) := by decide +kernel
theorem dX11_state_16 : decode cX11_state 16 = .ok (.iload_n 3, 1) := by decide +kernel
theorem dX11_state_17 : decode cX11_state 17 = .ok (.ifCond .ge 6, 3) := by decide +kernel
theorem dX11_state_20 : decode cX11_state 20 = .ok (.bipush (-2), 2) := by decide +kernel
theorem dX11_state_22 : decode cX11_state 22 = .ok (.ireturn, 1) := by decide +kernel
theorem dX11_state_23 : decode cX11_state 23 = .ok (.aload_n 0, 1) := by decide +kernel
theorem dX11_state_24 : decode cX11_state 24 = .ok (.iload_n 3, 1) := by decide +kernel
theorem dX11_state_25 : decode cX11_state 25 = .ok (.invokevirtual 442, 3) := by decide +kernel
theorem dX11_state_28 : decode cX11_state 28 = .ok (.aload_n 0, 1) := by decide +kernel
theorem dX11_state_29 : decode cX11_state 29 = .ok (.getfield 257, 3) := by decide +kernel
theorem dX11_state_32 : decode cX11_state 32 = .ok (.iload_n 3, 1) := by decide +kernel
theorem dX11_state_33 : decode cX11_state 33 = .ok (.if_icmp .ne 12, 3) := by decide +kernel
theorem dX11_state_36 : decode cX11_state 36 = .ok (.aload_n 0, 1) := by decide +kernel
theorem dX11_state_37 : decode cX11_state 37 = .ok (.iload 4, 2) := by decide +kernel
theorem dX11_state_39 : decode cX11_state 39 = .ok (.invokevirtual 445, 3) := by decide +kernel
theorem dX11_state_42 : decode cX11_state 42 = .ok (.goto 5, 3) := by decide +kernel
theorem dX11_state_45 : decode cX11_state 45 = .ok (.bipush (-2), 2) := by decide +kernel
theorem dX11_state_47 : decode cX11_state 47 = .ok (.ireturn, 1) := by decide +kernel
theorem dX11_editionsOf_0 : decode cX11_editionsOf 0 = .ok (.iconst 0, 1) := by decide +kernel
theorem dX11_editionsOf_1 : decode cX11_editionsOf 1 = .ok (.istore_n 1, 1) := by decide +kernel
theorem dX11_editionsOf_2 : decode cX11_editionsOf 2 = .ok (.iconst 0, 1) := by decide +kernel
theorem dX11_editionsOf_3 : decode cX11_editionsOf 3 = .ok (.istore_n 2, 1) := by decide +kernel
theorem dX11_editionsOf_4 : decode cX11_editionsOf 4 = .ok (.iload_n 2, 1) := by decide +kernel
theorem dX11_editionsOf_5 : decode cX11_editionsOf 5 = .ok (.aload_n 0, 1) := by decide +kernel
theorem dX11_editionsOf_6 : decode cX11_editionsOf 6 = .ok (.getfield 248, 3) := by decide +kernel
theorem dX11_editionsOf_9 : decode cX11_editionsOf 9 = .ok (.if_icmp .ge 114, 3) := by decide +kernel
theorem dX11_editionsOf_12 : decode cX11_editionsOf 12 = .ok (.iconst 0, 1) := by decide +kernel
theorem dX11_editionsOf_13 : decode cX11_editionsOf 13 = .ok (.istore_n 3, 1) := by decide +kernel
theorem dX11_editionsOf_14 : decode cX11_editionsOf 14 = .ok (.iconst 0, 1) := by decide +kernel
theorem dX11_editionsOf_15 : decode cX11_editionsOf 15 = .ok (.istore 4, 2) := by decide +kernel
theorem dX11_editionsOf_17 : decode cX11_editionsOf 17 = .ok (.iload 4, 2) := by decide +kernel
theorem dX11_editionsOf_19 : decode cX11_editionsOf 19 = .ok (.iload_n 2, 1) := by decide +kernel
theorem dX11_editionsOf_20 : decode cX11_editionsOf 20 = .ok (.if_icmp .ge 85, 3) := by decide +kernel
theorem dX11_editionsOf_23 : decode cX11_editionsOf 23 = .ok (.iconst 1, 1) := by decide +kernel
theorem dX11_editionsOf_24 : decode cX11_editionsOf 24 = .ok (.istore 5, 2) := by decide +kernel
theorem dX11_editionsOf_26 : decode cX11_editionsOf 26 = .ok (.iconst 0, 1) := by decide +kernel
theorem dX11_editionsOf_27 : decode cX11_editionsOf 27 = .ok (.istore 6, 2) := by decide +kernel
theorem dX11_editionsOf_29 : decode cX11_editionsOf 29 = .ok (.iload 6, 2) := by decide +kernel
theorem dX11_editionsOf_31 : decode cX11_editionsOf 31 = .ok (.aload_n 0, 1) := by decide +kernel
theorem dX11_editionsOf_32 : decode cX11_editionsOf 32 = .ok (.getfield 200, 3) := by decide +kernel
theorem dX11_editionsOf_35 : decode cX11_editionsOf 35 = .ok (.if_icmp .ge 49, 3) := by decide +kernel
theorem dX11_editionsOf_38 : decode cX11_editionsOf 38 = .ok (.iload 5, 2) := by decide +kernel
theorem dX11_editionsOf_40 : decode cX11_editionsOf 40 = .ok (.ifCond .eq 35, 3) := by decide +kernel
theorem dX11_editionsOf_43 : decode cX11_editionsOf 43 = .ok (.aload_n 0, 1) := by decide +kernel
theorem dX11_editionsOf_44 : decode cX11_editionsOf 44 = .ok (.getfield 65, 3) := by decide +kernel
theorem dX11_editionsOf_47 : decode cX11_editionsOf 47 = .ok (.bipush 8, 2) := by decide +kernel
theorem dX11_editionsOf_49 : decode cX11_editionsOf 49 = .ok (.iload_n 2, 1) := by decide +kernel
theorem dX11_editionsOf_50 : decode cX11_editionsOf 50 = .ok (.imul, 1) := by decide +kernel
theorem dX11_editionsOf_51 : decode cX11_editionsOf 51 = .ok (.iload 6, 2) := by decide +kernel
theorem dX11_editionsOf_53 : decode cX11_editionsOf 53 = .ok (.iadd, 1) := by decide +kernel
theorem dX11_editionsOf_54 : decode cX11_editionsOf 54 = .ok (.iaload, 1) := by decide +kernel
theorem dX11_editionsOf_55 : decode cX11_editionsOf 55 = .ok (.aload_n 0, 1) := by decide +kernel
theorem dX11_editionsOf_56 : decode cX11_editionsOf 56 = .ok (.getfield 65, 3) := by decide +kernel
theorem dX11_editionsOf_59 : decode cX11_editionsOf 59 = .ok (.bipush 8, 2) := by decide +kernel
theorem dX11_editionsOf_61 : decode cX11_editionsOf 61 = .ok (.iload 4, 2) := by decide +kernel
theorem dX11_editionsOf_63 : decode cX11_editionsOf 63 = .ok (.imul, 1) := by decide +kernel
theorem dX11_editionsOf_64 : decode cX11_editionsOf 64 = .ok (.iload 6, 2) := by decide +kernel
theorem dX11_editionsOf_66 : decode cX11_editionsOf 66 = .ok (.iadd, 1) := by decide +kernel
theorem dX11_editionsOf_67 : decode cX11_editionsOf 67 = .ok (.iaload, 1) := by decide +kernel
theorem dX11_editionsOf_68 : decode cX11_editionsOf 68 = .ok (.if_icmp .ne 7, 3) := by decide +kernel
theorem dX11_editionsOf_71 : decode cX11_editionsOf 71 = .ok (.iconst 1, 1) := by decide +kernel
theorem dX11_editionsOf_72 : decode cX11_editionsOf 72 = .ok (.goto 4, 3) := by decide +kernel
theorem dX11_editionsOf_75 : decode cX11_editionsOf 75 = .ok (.iconst 0, 1) := by decide +kernel
theorem dX11_editionsOf_76 : decode cX11_editionsOf 76 = .ok (.istore 5, 2) := by decide +kernel
theorem dX11_editionsOf_78 : decode cX11_editionsOf 78 = .ok (.iinc 6 1, 3) := by decide +kernel
theorem dX11_editionsOf_81 : decode cX11_editionsOf 81 = .ok (.goto (-52), 3) := by decide +kernel
theorem dX11_editionsOf_84 : decode cX11_editionsOf 84 = .ok (.iload_n 3, 1) := by decide +kernel
theorem dX11_editionsOf_85 : decode cX11_editionsOf 85 = .ok (.ifCond .ne 8, 3) := by decide +kernel
theorem dX11_editionsOf_88 : decode cX11_editionsOf 88 = .ok (.iload 5, 2) := by decide +kernel
theorem dX11_editionsOf_90 : decode cX11_editionsOf 90 = .ok (.ifCond .eq 7, 3) := by decide +kernel
theorem dX11_editionsOf_93 : decode cX11_editionsOf 93 = .ok (.iconst 1, 1) := by decide +kernel
theorem dX11_editionsOf_94 : decode cX11_editionsOf 94 = .ok (.goto 4, 3) := by decide +kernel
theorem dX11_editionsOf_97 : decode cX11_editionsOf 97 = .ok (.iconst 0, 1) := by decide +kernel
theorem dX11_editionsOf_98 : decode cX11_editionsOf 98 = .ok (.istore_n 3, 1) := by decide +kernel
theorem dX11_editionsOf_99 : decode cX11_editionsOf 99 = .ok (.iinc 4 1, 3) := by decide +kernel
theorem dX11_editionsOf_102 : decode cX11_editionsOf 102 = .ok (.goto (-85), 3) := by decide +kernel
theorem dX11_editionsOf_105 : decode cX11_editionsOf 105 = .ok (.iload_n 1, 1) := by decide +kernel
theorem dX11_editionsOf_106 : decode cX11_editionsOf 106 = .ok (.iload_n 3, 1) := by decide +kernel
theorem dX11_editionsOf_107 : decode cX11_editionsOf 107 = .ok (.ifCond .eq 7, 3) := by decide +kernel
theorem dX11_editionsOf_110 : decode cX11_editionsOf 110 = .ok (.iconst 0, 1) := by decide +kernel
theorem dX11_editionsOf_111 : decode cX11_editionsOf 111 = .ok (.goto 4, 3) := by decide +kernel
theorem dX11_editionsOf_114 : decode cX11_editionsOf 114 = .ok (.iconst 1, 1) := by decide +kernel
theorem dX11_editionsOf_115 : decode cX11_editionsOf 115 = .ok (.iadd, 1) := by decide +kernel
theorem dX11_editionsOf_116 : decode cX11_editionsOf 116 = .ok (.istore_n 1, 1) := by decide +kernel
theorem dX11_editionsOf_117 : decode cX11_editionsOf 117 = .ok (.iinc 2 1, 3) := by decide +kernel
theorem dX11_editionsOf_120 : decode cX11_editionsOf 120 = .ok (.goto (-116), 3) := by decide +kernel
theorem dX11_editionsOf_123 : decode cX11_editionsOf 123 = .ok (.iload_n 1, 1) := by decide +kernel
theorem dX11_editionsOf_124 : decode cX11_editionsOf 124 = .ok (.ireturn, 1) := by decide +kernel
theorem dX11_busiestOf_0 : decode cX11_busiestOf 0 = .ok (.iconst (-1), 1) := by decide +kernel
theorem dX11_busiestOf_1 : decode cX11_busiestOf 1 = .ok (.istore_n 1, 1) := by decide +kernel
theorem dX11_busiestOf_2 : decode cX11_busiestOf 2 = .ok (.iconst 0, 1) := by decide +kernel
theorem dX11_busiestOf_3 : decode cX11_busiestOf 3 = .ok (.istore_n 2, 1) := by decide +kernel
theorem dX11_busiestOf_4 : decode cX11_busiestOf 4 = .ok (.iload_n 2, 1) := by decide +kernel
theorem dX11_busiestOf_5 : decode cX11_busiestOf 5 = .ok (.aload_n 0, 1) := by decide +kernel
theorem dX11_busiestOf_6 : decode cX11_busiestOf 6 = .ok (.getfield 203, 3) := by decide +kernel
theorem dX11_busiestOf_9 : decode cX11_busiestOf 9 = .ok (.if_icmp .ge 35, 3) := by decide +kernel
theorem dX11_busiestOf_12 : decode cX11_busiestOf 12 = .ok (.aload_n 0, 1) := by decide +kernel
theorem dX11_busiestOf_13 : decode cX11_busiestOf 13 = .ok (.getfield 35, 3) := by decide +kernel
theorem dX11_busiestOf_16 : decode cX11_busiestOf 16 = .ok (.iload_n 2, 1) := by decide +kernel
theorem dX11_busiestOf_17 : decode cX11_busiestOf 17 = .ok (.iaload, 1) := by decide +kernel
theorem dX11_busiestOf_18 : decode cX11_busiestOf 18 = .ok (.iload_n 1, 1) := by decide +kernel
theorem dX11_busiestOf_19 : decode cX11_busiestOf 19 = .ok (.iconst (-1), 1) := by decide +kernel
theorem dX11_busiestOf_20 : decode cX11_busiestOf 20 = .ok (.if_icmp .ne 7, 3) := by decide +kernel
theorem dX11_busiestOf_23 : decode cX11_busiestOf 23 = .ok (.iconst 0, 1) := by decide +kernel
theorem dX11_busiestOf_24 : decode cX11_busiestOf 24 = .ok (.goto 9, 3) := by decide +kernel
theorem dX11_busiestOf_27 : decode cX11_busiestOf 27 = .ok (.aload_n 0, 1) := by decide +kernel
theorem dX11_busiestOf_28 : decode cX11_busiestOf 28 = .ok (.getfield 35, 3) := by decide +kernel
theorem dX11_busiestOf_31 : decode cX11_busiestOf 31 = .ok (.iload_n 1, 1) := by decide +kernel
theorem dX11_busiestOf_32 : decode cX11_busiestOf 32 = .ok (.iaload, 1) := by decide +kernel
theorem dX11_busiestOf_33 : decode cX11_busiestOf 33 = .ok (.if_icmp .le 5, 3) := by decide +kernel
theorem dX11_busiestOf_36 : decode cX11_busiestOf 36 = .ok (.iload_n 2, 1) := by decide +kernel
theorem dX11_busiestOf_37 : decode cX11_busiestOf 37 = .ok (.istore_n 1, 1) := by decide +kernel
theorem dX11_busiestOf_38 : decode cX11_busiestOf 38 = .ok (.iinc 2 1, 3) := by decide +kernel
theorem dX11_busiestOf_41 : decode cX11_busiestOf 41 = .ok (.goto (-37), 3) := by decide +kernel
theorem dX11_busiestOf_44 : decode cX11_busiestOf 44 = .ok (.iload_n 1, 1) := by decide +kernel
theorem dX11_busiestOf_45 : decode cX11_busiestOf 45 = .ok (.ireturn, 1) := by decide +kernel
theorem dX11_after_0 : decode cX11_after 0 = .ok (.aload_n 0, 1) := by decide +kernel
theorem dX11_after_1 : decode cX11_after 1 = .ok (.iload_n 1, 1) := by decide +kernel
theorem dX11_after_2 : decode cX11_after 2 = .ok (.invokevirtual 209, 3) := by decide +kernel
theorem dX11_after_5 : decode cX11_after 5 = .ok (.ifCond .eq 11, 3) := by decide +kernel
theorem dX11_after_8 : decode cX11_after 8 = .ok (.aload_n 0, 1) := by decide +kernel
theorem dX11_after_9 : decode cX11_after 9 = .ok (.iload_n 2, 1) := by decide +kernel
theorem dX11_after_10 : decode cX11_after 10 = .ok (.invokevirtual 420, 3) := by decide +kernel
theorem dX11_after_13 : decode cX11_after 13 = .ok (.ifCond .ne 6, 3) := by decide +kernel
theorem dX11_after_16 : decode cX11_after 16 = .ok (.bipush (-2), 2) := by decide +kernel
theorem dX11_after_18 : decode cX11_after 18 = .ok (.ireturn, 1) := by decide +kernel
theorem dX11_after_19 : decode cX11_after 19 = .ok (.aload_n 0, 1) := by decide +kernel
theorem dX11_after_20 : decode cX11_after 20 = .ok (.bipush 40, 2) := by decide +kernel
theorem dX11_after_22 : decode cX11_after 22 = .ok (.invokevirtual 442, 3) := by decide +kernel
theorem dX11_after_25 : decode cX11_after 25 = .ok (.iload_n 3, 1) := by decide +kernel
theorem dX11_after_26 : decode cX11_after 26 = .ok (.tableswitch 59 0 4 #[34, 39, 44, 49, 54], 34) := by decide +kernel
theorem dX11_after_60 : decode cX11_after 60 = .ok (.aload_n 0, 1) := by decide +kernel
theorem dX11_after_61 : decode cX11_after 61 = .ok (.getfield 260, 3) := by decide +kernel
theorem dX11_after_64 : decode cX11_after 64 = .ok (.ireturn, 1) := by decide +kernel
theorem dX11_after_65 : decode cX11_after 65 = .ok (.aload_n 0, 1) := by decide +kernel
theorem dX11_after_66 : decode cX11_after 66 = .ok (.invokevirtual 448, 3) := by decide +kernel
theorem dX11_after_69 : decode cX11_after 69 = .ok (.ireturn, 1) := by decide +kernel
theorem dX11_after_70 : decode cX11_after 70 = .ok (.aload_n 0, 1) := by decide +kernel
theorem dX11_after_71 : decode cX11_after 71 = .ok (.getfield 251, 3) := by decide +kernel
theorem dX11_after_74 : decode cX11_after 74 = .ok (.ireturn, 1) := by decide +kernel
theorem dX11_after_75 : decode cX11_after 75 = .ok (.aload_n 0, 1) := by decide +kernel
theorem dX11_after_76 : decode cX11_after 76 = .ok (.getfield 254, 3) := by decide +kernel
theorem dX11_after_79 : decode cX11_after 79 = .ok (.ireturn, 1) := by decide +kernel
theorem dX11_after_80 : decode cX11_after 80 = .ok (.aload_n 0, 1) := by decide +kernel
theorem dX11_after_81 : decode cX11_after 81 = .ok (.invokevirtual 451, 3) := by decide +kernel
theorem dX11_after_84 : decode cX11_after 84 = .ok (.ireturn, 1) := by decide +kernel
theorem dX11_after_85 : decode cX11_after 85 = .ok (.bipush (-2), 2) := by decide +kernel
theorem dX11_after_87 : decode cX11_after 87 = .ok (.ireturn, 1) := by decide +kernel
theorem dX11_isLog_0 : decode cX11_isLog 0 = .ok (.aload_n 0, 1) := by decide +kernel
theorem dX11_isLog_1 : decode cX11_isLog 1 = .ok (.iconst 2, 1) := by decide +kernel
theorem dX11_isLog_2 : decode cX11_isLog 2 = .ok (.iload_n 1, 1) := by decide +kernel
theorem dX11_isLog_3 : decode cX11_isLog 3 = .ok (.invokevirtual 175, 3) := by decide +kernel
theorem dX11_isLog_6 : decode cX11_isLog 6 = .ok (.ifCond .ne 5, 3) := by decide +kernel
theorem dX11_isLog_9 : decode cX11_isLog 9 = .ok (.iconst 0, 1) := by decide +kernel
theorem dX11_isLog_10 : decode cX11_isLog 10 = .ok (.ireturn, 1) := by decide +kernel
theorem dX11_isLog_11 : decode cX11_isLog 11 = .ok (.aload_n 0, 1) := by decide +kernel
theorem dX11_isLog_12 : decode cX11_isLog 12 = .ok (.iconst 2, 1) := by decide +kernel
theorem dX11_isLog_13 : decode cX11_isLog 13 = .ok (.iload_n 1, 1) := by decide +kernel
theorem dX11_isLog_14 : decode cX11_isLog 14 = .ok (.invokestatic 194, 3) := by decide +kernel
theorem dX11_isLog_17 : decode cX11_isLog 17 = .ok (.putfield 454, 3) := by decide +kernel
theorem dX11_isLog_20 : decode cX11_isLog 20 = .ok (.iconst 1, 1) := by decide +kernel
theorem dX11_isLog_21 : decode cX11_isLog 21 = .ok (.ireturn, 1) := by decide +kernel
theorem dX11_fact_0 : decode cX11_fact 0 = .ok (.aload_n 0, 1) := by decide +kernel
theorem dX11_fact_1 : decode cX11_fact 1 = .ok (.iload_n 1, 1) := by decide +kernel
theorem dX11_fact_2 : decode cX11_fact 2 = .ok (.invokevirtual 457, 3) := by decide +kernel
theorem dX11_fact_5 : decode cX11_fact 5 = .ok (.ifCond .ne 6, 3) := by decide +kernel
theorem dX11_fact_8 : decode cX11_fact 8 = .ok (.bipush (-2), 2) := by decide +kernel
theorem dX11_fact_10 : decode cX11_fact 10 = .ok (.ireturn, 1) := by decide +kernel
theorem dX11_fact_11 : decode cX11_fact 11 = .ok (.iload_n 2, 1) := by decide +kernel
theorem dX11_fact_12 : decode cX11_fact 12 = .ok (.iconst (-1), 1) := by decide +kernel
theorem dX11_fact_13 : decode cX11_fact 13 = .ok (.if_icmp .ne 22, 3) := by decide +kernel
theorem dX11_fact_16 : decode cX11_fact 16 = .ok (.iload_n 3, 1) := by decide +kernel
theorem dX11_fact_17 : decode cX11_fact 17 = .ok (.ifCond .ne 15, 3) := by decide +kernel
theorem dX11_fact_20 : decode cX11_fact 20 = .ok (.aload_n 0, 1) := by decide +kernel
theorem dX11_fact_21 : decode cX11_fact 21 = .ok (.getfield 7, 3) := by decide +kernel
theorem dX11_fact_24 : decode cX11_fact 24 = .ok (.aload_n 0, 1) := by decide +kernel
theorem dX11_fact_25 : decode cX11_fact 25 = .ok (.getfield 454, 3) := by decide +kernel
theorem dX11_fact_28 : decode cX11_fact 28 = .ok (.iaload, 1) := by decide +kernel
theorem dX11_fact_29 : decode cX11_fact 29 = .ok (.goto 5, 3) := by decide +kernel
theorem dX11_fact_32 : decode cX11_fact 32 = .ok (.bipush (-2), 2) := by decide +kernel
theorem dX11_fact_34 : decode cX11_fact 34 = .ok (.ireturn, 1) := by decide +kernel
theorem dX11_fact_35 : decode cX11_fact 35 = .ok (.iload_n 2, 1) := by decide +kernel
theorem dX11_fact_36 : decode cX11_fact 36 = .ok (.iconst 0, 1) := by decide +kernel
theorem dX11_fact_37 : decode cX11_fact 37 = .ok (.aload_n 0, 1) := by decide +kernel
theorem dX11_fact_38 : decode cX11_fact 38 = .ok (.getfield 7, 3) := by decide +kernel
theorem dX11_fact_41 : decode cX11_fact 41 = .ok (.aload_n 0, 1) := by decide +kernel
theorem dX11_fact_42 : decode cX11_fact 42 = .ok (.getfield 454, 3) := by decide +kernel
theorem dX11_fact_45 : decode cX11_fact 45 = .ok (.iaload, 1) := by decide +kernel
theorem dX11_fact_46 : decode cX11_fact 46 = .ok (.iconst 1, 1) := by decide +kernel
theorem dX11_fact_47 : decode cX11_fact 47 = .ok (.isub, 1) := by decide +kernel
theorem dX11_fact_48 : decode cX11_fact 48 = .ok (.invokestatic 132, 3) := by decide +kernel
theorem dX11_fact_51 : decode cX11_fact 51 = .ok (.ifCond .eq 32, 3) := by decide +kernel
theorem dX11_fact_54 : decode cX11_fact 54 = .ok (.iload_n 3, 1) := by decide +kernel
theorem dX11_fact_55 : decode cX11_fact 55 = .ok (.iconst 0, 1) := by decide +kernel
theorem dX11_fact_56 : decode cX11_fact 56 = .ok (.iconst 1, 1) := by decide +kernel
theorem dX11_fact_57 : decode cX11_fact 57 = .ok (.invokestatic 132, 3) := by decide +kernel
theorem dX11_fact_60 : decode cX11_fact 60 = .ok (.ifCond .eq 23, 3) := by decide +kernel
theorem dX11_fact_63 : decode cX11_fact 63 = .ok (.aload_n 0, 1) := by decide +kernel
theorem dX11_fact_64 : decode cX11_fact 64 = .ok (.getfield 7, 3) := by decide +kernel
theorem dX11_fact_67 : decode cX11_fact 67 = .ok (.aload_n 0, 1) := by decide +kernel
theorem dX11_fact_68 : decode cX11_fact 68 = .ok (.getfield 454, 3) := by decide +kernel
theorem dX11_fact_71 : decode cX11_fact 71 = .ok (.iconst 1, 1) := by decide +kernel
theorem dX11_fact_72 : decode cX11_fact 72 = .ok (.iadd, 1) := by decide +kernel
theorem dX11_fact_73 : decode cX11_fact 73 = .ok (.iconst 2, 1) := by decide +kernel
theorem dX11_fact_74 : decode cX11_fact 74 = .ok (.iload_n 2, 1) := by decide +kernel
theorem dX11_fact_75 : decode cX11_fact 75 = .ok (.imul, 1) := by decide +kernel
theorem dX11_fact_76 : decode cX11_fact 76 = .ok (.iadd, 1) := by decide +kernel
theorem dX11_fact_77 : decode cX11_fact 77 = .ok (.iload_n 3, 1) := by decide +kernel
theorem dX11_fact_78 : decode cX11_fact 78 = .ok (.iadd, 1) := by decide +kernel
theorem dX11_fact_79 : decode cX11_fact 79 = .ok (.iaload, 1) := by decide +kernel
theorem dX11_fact_80 : decode cX11_fact 80 = .ok (.goto 5, 3) := by decide +kernel
theorem dX11_fact_83 : decode cX11_fact 83 = .ok (.bipush (-2), 2) := by decide +kernel
theorem dX11_fact_85 : decode cX11_fact 85 = .ok (.ireturn, 1) := by decide +kernel
theorem dX11_isSo_0 : decode cX11_isSo 0 = .ok (.iconst 1, 1) := by decide +kernel
theorem dX11_isSo_1 : decode cX11_isSo 1 = .ok (.istore_n 1, 1) := by decide +kernel
theorem dX11_isSo_2 : decode cX11_isSo 2 = .ok (.iconst 0, 1) := by decide +kernel
theorem dX11_isSo_3 : decode cX11_isSo 3 = .ok (.istore_n 2, 1) := by decide +kernel
theorem dX11_isSo_4 : decode cX11_isSo 4 = .ok (.iload_n 2, 1) := by decide +kernel
theorem dX11_isSo_5 : decode cX11_isSo 5 = .ok (.aload_n 0, 1) := by decide +kernel
theorem dX11_isSo_6 : decode cX11_isSo 6 = .ok (.getfield 7, 3) := by decide +kernel
theorem dX11_isSo_9 : decode cX11_isSo 9 = .ok (.aload_n 0, 1) := by decide +kernel
theorem dX11_isSo_10 : decode cX11_isSo 10 = .ok (.getfield 454, 3) := by decide +kernel
theorem dX11_isSo_13 : decode cX11_isSo 13 = .ok (.iaload, 1) := by decide +kernel
theorem dX11_isSo_14 : decode cX11_isSo 14 = .ok (.if_icmp .ge 79, 3) := by decide +kernel
theorem dX11_isSo_17 : decode cX11_isSo 17 = .ok (.iload_n 1, 1) := by decide +kernel
theorem dX11_isSo_18 : decode cX11_isSo 18 = .ok (.ifCond .eq 67, 3) := by decide +kernel
theorem dX11_isSo_21 : decode cX11_isSo 21 = .ok (.aload_n 0, 1) := by decide +kernel
theorem dX11_isSo_22 : decode cX11_isSo 22 = .ok (.aload_n 0, 1) := by decide +kernel
theorem dX11_isSo_23 : decode cX11_isSo 23 = .ok (.getfield 7, 3) := by decide +kernel
theorem dX11_isSo_26 : decode cX11_isSo 26 = .ok (.aload_n 0, 1) := by decide +kernel
theorem dX11_isSo_27 : decode cX11_isSo 27 = .ok (.getfield 454, 3) := by decide +kernel
theorem dX11_isSo_30 : decode cX11_isSo 30 = .ok (.iconst 1, 1) := by decide +kernel
theorem dX11_isSo_31 : decode cX11_isSo 31 = .ok (.iadd, 1) := by decide +kernel
theorem dX11_isSo_32 : decode cX11_isSo 32 = .ok (.iconst 2, 1) := by decide +kernel
theorem dX11_isSo_33 : decode cX11_isSo 33 = .ok (.iload_n 2, 1) := by decide +kernel
theorem dX11_isSo_34 : decode cX11_isSo 34 = .ok (.imul, 1) := by decide +kernel
theorem dX11_isSo_35 : decode cX11_isSo 35 = .ok (.iadd, 1) := by decide +kernel
theorem dX11_isSo_36 : decode cX11_isSo 36 = .ok (.iaload, 1) := by decide +kernel
theorem dX11_isSo_37 : decode cX11_isSo 37 = .ok (.invokevirtual 212, 3) := by decide +kernel
theorem dX11_isSo_40 : decode cX11_isSo 40 = .ok (.ifCond .eq 45, 3) := by decide +kernel
theorem dX11_isSo_43 : decode cX11_isSo 43 = .ok (.aload_n 0, 1) := by decide +kernel
theorem dX11_isSo_44 : decode cX11_isSo 44 = .ok (.getfield 26, 3) := by decide +kernel
theorem dX11_isSo_47 : decode cX11_isSo 47 = .ok (.aload_n 0, 1) := by decide +kernel
theorem dX11_isSo_48 : decode cX11_isSo 48 = .ok (.getfield 7, 3) := by decide +kernel
theorem dX11_isSo_51 : decode cX11_isSo 51 = .ok (.aload_n 0, 1) := by decide +kernel
theorem dX11_isSo_52 : decode cX11_isSo 52 = .ok (.getfield 454, 3) := by decide +kernel
theorem dX11_isSo_55 : decode cX11_isSo 55 = .ok (.iconst 1, 1) := by decide +kernel
theorem dX11_isSo_56 : decode cX11_isSo 56 = .ok (.iadd, 1) := by decide +kernel
theorem dX11_isSo_57 : decode cX11_isSo 57 = .ok (.iconst 2, 1) := by decide +kernel
theorem dX11_isSo_58 : decode cX11_isSo 58 = .ok (.iload_n 2, 1) := by decide +kernel
theorem dX11_isSo_59 : decode cX11_isSo 59 = .ok (.imul, 1) := by decide +kernel
theorem dX11_isSo_60 : decode cX11_isSo 60 = .ok (.iadd, 1) := by decide +kernel
theorem dX11_isSo_61 : decode cX11_isSo 61 = .ok (.iaload, 1) := by decide +kernel
theorem dX11_isSo_62 : decode cX11_isSo 62 = .ok (.iaload, 1) := by decide +kernel
theorem dX11_isSo_63 : decode cX11_isSo 63 = .ok (.aload_n 0, 1) := by decide +kernel
theorem dX11_isSo_64 : decode cX11_isSo 64 = .ok (.getfield 7, 3) := by decide +kernel
theorem dX11_isSo_67 : decode cX11_isSo 67 = .ok (.aload_n 0, 1) := by decide +kernel
theorem dX11_isSo_68 : decode cX11_isSo 68 = .ok (.getfield 454, 3) := by decide +kernel
theorem dX11_isSo_71 : decode cX11_isSo 71 = .ok (.iconst 2, 1) := by decide +kernel
theorem dX11_isSo_72 : decode cX11_isSo 72 = .ok (.iadd, 1) := by decide +kernel
theorem dX11_isSo_73 : decode cX11_isSo 73 = .ok (.iconst 2, 1) := by decide +kernel
theorem dX11_isSo_74 : decode cX11_isSo 74 = .ok (.iload_n 2, 1) := by decide +kernel
theorem dX11_isSo_75 : decode cX11_isSo 75 = .ok (.imul, 1) := by decide +kernel
theorem dX11_isSo_76 : decode cX11_isSo 76 = .ok (.iadd, 1) := by decide +kernel
theorem dX11_isSo_77 : decode cX11_isSo 77 = .ok (.iaload, 1) := by decide +kernel
theorem dX11_isSo_78 : decode cX11_isSo 78 = .ok (.if_icmp .ne 7, 3) := by decide +kernel
theorem dX11_isSo_81 : decode cX11_isSo 81 = .ok (.iconst 1, 1) := by decide +kernel
theorem dX11_isSo_82 : decode cX11_isSo 82 = .ok (.goto 4, 3) := by decide +kernel
theorem dX11_isSo_85 : decode cX11_isSo 85 = .ok (.iconst 0, 1) := by decide +kernel
theorem dX11_isSo_86 : decode cX11_isSo 86 = .ok (.istore_n 1, 1) := by decide +kernel
theorem dX11_isSo_87 : decode cX11_isSo 87 = .ok (.iinc 2 1, 3) := by decide +kernel
theorem dX11_isSo_90 : decode cX11_isSo 90 = .ok (.goto (-86), 3) := by decide +kernel
theorem dX11_isSo_93 : decode cX11_isSo 93 = .ok (.iload_n 1, 1) := by decide +kernel
theorem dX11_isSo_94 : decode cX11_isSo 94 = .ok (.ireturn, 1) := by decide +kernel
theorem dX11_laysNoFits_0 : decode cX11_laysNoFits 0 = .ok (.aload_n 0, 1) := by decide +kernel
theorem dX11_laysNoFits_1 : decode cX11_laysNoFits 1 = .ok (.iconst 0, 1) := by decide +kernel
theorem dX11_laysNoFits_2 : decode cX11_laysNoFits 2 = .ok (.putfield 460, 3) := by decide +kernel
theorem dX11_laysNoFits_5 : decode cX11_laysNoFits 5 = .ok (.aload_n 0, 1) := by decide +kernel
theorem dX11_laysNoFits_6 : decode cX11_laysNoFits 6 = .ok (.iconst (-1), 1) := by decide +kernel
theorem dX11_laysNoFits_7 : decode cX11_laysNoFits 7 = .ok (.putfield 463, 3) := by decide +kernel
theorem dX11_laysNoFits_10 : decode cX11_laysNoFits 10 = .ok (.aload_n 0, 1) := by decide +kernel
theorem dX11_laysNoFits_11 : decode cX11_laysNoFits 11 = .ok (.iconst (-1), 1) := by decide +kernel
theorem dX11_laysNoFits_12 : decode cX11_laysNoFits 12 = .ok (.putfield 466, 3) := by decide +kernel
theorem dX11_laysNoFits_15 : decode cX11_laysNoFits 15 = .ok (.iconst 0, 1) := by decide +kernel
theorem dX11_laysNoFits_16 : decode cX11_laysNoFits 16 = .ok (.istore_n 1, 1) := by decide +kernel
theorem dX11_laysNoFits_17 : decode cX11_laysNoFits 17 = .ok (.iload_n 1, 1) := by decide +kernel
theorem dX11_laysNoFits_18 : decode cX11_laysNoFits 18 = .ok (.bipush 6, 2) := by decide +kernel
theorem dX11_laysNoFits_20 : decode cX11_laysNoFits 20 = .ok (.if_icmp .ge 16, 3) := by decide +kernel
theorem dX11_laysNoFits_23 : decode cX11_laysNoFits 23 = .ok (.aload_n 0, 1) := by decide +kernel
theorem dX11_laysNoFits_24 : decode cX11_laysNoFits 24 = .ok (.getfield 68, 3) := by decide +kernel
theorem dX11_laysNoFits_27 : decode cX11_laysNoFits 27 = .ok (.iload_n 1, 1) := by decide +kernel
theorem dX11_laysNoFits_28 : decode cX11_laysNoFits 28 = .ok (.iconst 0, 1) := by decide +kernel
theorem dX11_laysNoFits_29 : decode cX11_laysNoFits 29 = .ok (.iastore, 1) := by decide +kernel
theorem dX11_laysNoFits_30 : decode cX11_laysNoFits 30 = .ok (.iinc 1 1, 3) := by decide +kernel
theorem dX11_laysNoFits_33 : decode cX11_laysNoFits 33 = .ok (.goto (-16), 3) := by decide +kernel
theorem dX11_laysNoFits_36 : decode cX11_laysNoFits 36 = .ok (.iconst 0, 1) := by decide +kernel
theorem dX11_laysNoFits_37 : decode cX11_laysNoFits 37 = .ok (.istore_n 1, 1) := by decide +kernel
theorem dX11_laysNoFits_38 : decode cX11_laysNoFits 38 = .ok (.iload_n 1, 1) := by decide +kernel
theorem dX11_laysNoFits_39 : decode cX11_laysNoFits 39 = .ok (.bipush 80, 2) := by decide +kernel
theorem dX11_laysNoFits_41 : decode cX11_laysNoFits 41 = .ok (.if_icmp .ge 16, 3) := by decide +kernel
theorem dX11_laysNoFits_44 : decode cX11_laysNoFits 44 = .ok (.aload_n 0, 1) := by decide +kernel
theorem dX11_laysNoFits_45 : decode cX11_laysNoFits 45 = .ok (.getfield 71, 3) := by decide +kernel
theorem dX11_laysNoFits_48 : decode cX11_laysNoFits 48 = .ok (.iload_n 1, 1) := by decide +kernel
theorem dX11_laysNoFits_49 : decode cX11_laysNoFits 49 = .ok (.iconst 0, 1) := by decide +kernel
theorem dX11_laysNoFits_50 : decode cX11_laysNoFits 50 = .ok (.iastore, 1) := by decide +kernel
theorem dX11_laysNoFits_51 : decode cX11_laysNoFits 51 = .ok (.iinc 1 1, 3) := by decide +kernel
theorem dX11_laysNoFits_54 : decode cX11_laysNoFits 54 = .ok (.goto (-16), 3) := by decide +kernel
theorem dX11_laysNoFits_57 : decode cX11_laysNoFits 57 = .ok (.iconst 0, 1) := by decide +kernel
theorem dX11_laysNoFits_58 : decode cX11_laysNoFits 58 = .ok (.istore_n 1, 1) := by decide +kernel
theorem dX11_laysNoFits_59 : decode cX11_laysNoFits 59 = .ok (.iload_n 1, 1) := by decide +kernel
theorem dX11_laysNoFits_60 : decode cX11_laysNoFits 60 = .ok (.bipush 36, 2) := by decide +kernel
theorem dX11_laysNoFits_62 : decode cX11_laysNoFits 62 = .ok (.if_icmp .ge 16, 3) := by decide +kernel
theorem dX11_laysNoFits_65 : decode cX11_laysNoFits 65 = .ok (.aload_n 0, 1) := by decide +kernel
theorem dX11_laysNoFits_66 : decode cX11_laysNoFits 66 = .ok (.getfield 74, 3) := by decide +kernel
theorem dX11_laysNoFits_69 : decode cX11_laysNoFits 69 = .ok (.iload_n 1, 1) := by decide +kernel
theorem dX11_laysNoFits_70 : decode cX11_laysNoFits 70 = .ok (.iconst 0, 1) := by decide +kernel
theorem dX11_laysNoFits_71 : decode cX11_laysNoFits 71 = .ok (.iastore, 1) := by decide +kernel
theorem dX11_laysNoFits_72 : decode cX11_laysNoFits 72 = .ok (.iinc 1 1, 3) := by decide +kernel
theorem dX11_laysNoFits_75 : decode cX11_laysNoFits 75 = .ok (.goto (-16), 3) := by decide +kernel
theorem dX11_laysNoFits_78 : decode cX11_laysNoFits 78 = .ok (.return_, 1) := by decide +kernel
theorem dX11_laysFit_0 : decode cX11_laysFit 0 = .ok (.aload_n 0, 1) := by decide +kernel
theorem dX11_laysFit_1 : decode cX11_laysFit 1 = .ok (.iload_n 1, 1) := by decide +kernel
theorem dX11_laysFit_2 : decode cX11_laysFit 2 = .ok (.aload_n 0, 1) := by decide +kernel
theorem dX11_laysFit_3 : decode cX11_laysFit 3 = .ok (.getfield 463, 3) := by decide +kernel
theorem dX11_laysFit_6 : decode cX11_laysFit 6 = .ok (.if_icmp .le 7, 3) := by decide +kernel
theorem dX11_laysFit_9 : decode cX11_laysFit 9 = .ok (.iload_n 1, 1) := by decide +kernel
theorem dX11_laysFit_10 : decode cX11_laysFit 10 = .ok (.goto 7, 3) := by decide +kernel
theorem dX11_laysFit_13 : decode cX11_laysFit 13 = .ok (.aload_n 0, 1) := by decide +kernel
theorem dX11_laysFit_14 : decode cX11_laysFit 14 = .ok (.getfield 463, 3) := by decide +kernel
theorem dX11_laysFit_17 : decode cX11_laysFit 17 = .ok (.putfield 463, 3) := by decide +kernel
theorem dX11_laysFit_20 : decode cX11_laysFit 20 = .ok (.aload_n 0, 1) := by decide +kernel
theorem dX11_laysFit_21 : decode cX11_laysFit 21 = .ok (.aload_n 0, 1) := by decide +kernel
theorem dX11_laysFit_22 : decode cX11_laysFit 22 = .ok (.getfield 460, 3) := by decide +kernel
theorem dX11_laysFit_25 : decode cX11_laysFit 25 = .ok (.ifCond .eq 11, 3) := by decide +kernel
theorem dX11_laysFit_28 : decode cX11_laysFit 28 = .ok (.iload_n 1, 1) := by decide +kernel
theorem dX11_laysFit_29 : decode cX11_laysFit 29 = .ok (.aload_n 0, 1) := by decide +kernel
theorem dX11_laysFit_30 : decode cX11_laysFit 30 = .ok (.getfield 466, 3) := by decide +kernel
theorem dX11_laysFit_33 : decode cX11_laysFit 33 = .ok (.if_icmp .ge 7, 3) := by decide +kernel
theorem dX11_laysFit_36 : decode cX11_laysFit 36 = .ok (.iload_n 1, 1) := by decide +kernel
theorem dX11_laysFit_37 : decode cX11_laysFit 37 = .ok (.goto 7, 3) := by decide +kernel
theorem dX11_laysFit_40 : decode cX11_laysFit 40 = .ok (.aload_n 0, 1) := by decide +kernel
theorem dX11_laysFit_41 : decode cX11_laysFit 41 = .ok (.getfield 466, 3) := by decide +kernel
theorem dX11_laysFit_44 : decode cX11_laysFit 44 = .ok (.putfield 466, 3) := by decide +kernel
theorem dX11_laysFit_47 : decode cX11_laysFit 47 = .ok (.aload_n 0, 1) := by decide +kernel
theorem dX11_laysFit_48 : decode cX11_laysFit 48 = .ok (.dup, 1) := by decide +kernel
theorem dX11_laysFit_49 : decode cX11_laysFit 49 = .ok (.getfield 460, 3) := by decide +kernel
theorem dX11_laysFit_52 : decode cX11_laysFit 52 = .ok (.iconst 1, 1) := by decide +kernel
theorem dX11_laysFit_53 : decode cX11_laysFit 53 = .ok (.iadd, 1) := by decide +kernel
theorem dX11_laysFit_54 : decode cX11_laysFit 54 = .ok (.putfield 460, 3) := by decide +kernel
theorem dX11_laysFit_57 : decode cX11_laysFit 57 = .ok (.iconst 0, 1) := by decide +kernel
theorem dX11_laysFit_58 : decode cX11_laysFit 58 = .ok (.istore_n 2, 1) := by decide +kernel
theorem dX11_laysFit_59 : decode cX11_laysFit 59 = .ok (.iload_n 2, 1) := by decide +kernel
theorem dX11_laysFit_60 : decode cX11_laysFit 60 = .ok (.aload_n 0, 1) := by decide +kernel
theorem dX11_laysFit_61 : decode cX11_laysFit 61 = .ok (.getfield 200, 3) := by decide +kernel
theorem dX11_laysFit_64 : decode cX11_laysFit 64 = .ok (.if_icmp .ge 29, 3) := by decide +kernel
theorem dX11_laysFit_67 : decode cX11_laysFit 67 = .ok (.aload_n 0, 1) := by decide +kernel
theorem dX11_laysFit_68 : decode cX11_laysFit 68 = .ok (.getfield 71, 3) := by decide +kernel
theorem dX11_laysFit_71 : decode cX11_laysFit 71 = .ok (.bipush 10, 2) := by decide +kernel
theorem dX11_laysFit_73 : decode cX11_laysFit 73 = .ok (.iload_n 2, 1) := by decide +kernel
theorem dX11_laysFit_74 : decode cX11_laysFit 74 = .ok (.imul, 1) := by decide +kernel
theorem dX11_laysFit_75 : decode cX11_laysFit 75 = .ok (.aload_n 0, 1) := by decide +kernel
theorem dX11_laysFit_76 : decode cX11_laysFit 76 = .ok (.getfield 26, 3) := by decide +kernel
theorem dX11_laysFit_79 : decode cX11_laysFit 79 = .ok (.iload_n 2, 1) := by decide +kernel
theorem dX11_laysFit_80 : decode cX11_laysFit 80 = .ok (.iaload, 1) := by decide +kernel
theorem dX11_laysFit_81 : decode cX11_laysFit 81 = .ok (.iadd, 1) := by decide +kernel
theorem dX11_laysFit_82 : decode cX11_laysFit 82 = .ok (.dup2, 1) := by decide +kernel
theorem dX11_laysFit_83 : decode cX11_laysFit 83 = .ok (.iaload, 1) := by decide +kernel
theorem dX11_laysFit_84 : decode cX11_laysFit 84 = .ok (.iconst 1, 1) := by decide +kernel
theorem dX11_laysFit_85 : decode cX11_laysFit 85 = .ok (.iadd, 1) := by decide +kernel
theorem dX11_laysFit_86 : decode cX11_laysFit 86 = .ok (.iastore, 1) := by decide +kernel
theorem dX11_laysFit_87 : decode cX11_laysFit 87 = .ok (.iinc 2 1, 3) := by decide +kernel
theorem dX11_laysFit_90 : decode cX11_laysFit 90 = .ok (.goto (-31), 3) := by decide +kernel
theorem dX11_laysFit_93 : decode cX11_laysFit 93 = .ok (.iconst 0, 1) := by decide +kernel
theorem dX11_laysFit_94 : decode cX11_laysFit 94 = .ok (.istore_n 2, 1) := by decide +kernel
theorem dX11_laysFit_95 : decode cX11_laysFit 95 = .ok (.iload_n 2, 1) := by decide +kernel
theorem dX11_laysFit_96 : decode cX11_laysFit 96 = .ok (.aload_n 0, 1) := by decide +kernel
theorem dX11_laysFit_97 : decode cX11_laysFit 97 = .ok (.getfield 203, 3) := by decide +kernel
theorem dX11_laysFit_100 : decode cX11_laysFit 100 = .ok (.if_icmp .ge 69, 3) := by decide +kernel
theorem dX11_laysFit_103 : decode cX11_laysFit 103 = .ok (.aload_n 0, 1) := by decide +kernel
theorem dX11_laysFit_104 : decode cX11_laysFit 104 = .ok (.getfield 68, 3) := by decide +kernel
theorem dX11_laysFit_107 : decode cX11_laysFit 107 = .ok (.iload_n 2, 1) := by decide +kernel
theorem dX11_laysFit_108 : decode cX11_laysFit 108 = .ok (.dup2, 1) := by decide +kernel
theorem dX11_laysFit_109 : decode cX11_laysFit 109 = .ok (.iaload, 1) := by decide +kernel
theorem dX11_laysFit_110 : decode cX11_laysFit 110 = .ok (.iconst 1, 1) := by decide +kernel
theorem dX11_laysFit_111 : decode cX11_laysFit 111 = .ok (.aload_n 0, 1) := by decide +kernel
theorem dX11_laysFit_112 : decode cX11_laysFit 112 = .ok (.getfield 44, 3) := by decide +kernel
theorem dX11_laysFit_115 : decode cX11_laysFit 115 = .ok (.iload_n 2, 1) := by decide +kernel
theorem dX11_laysFit_116 : decode cX11_laysFit 116 = .ok (.iaload, 1) := by decide +kernel
theorem dX11_laysFit_117 : decode cX11_laysFit 117 = .ok (.ishl, 1) := by decide +kernel
theorem dX11_laysFit_118 : decode cX11_laysFit 118 = .ok (.ior, 1) := by decide +kernel
theorem dX11_laysFit_119 : decode cX11_laysFit 119 = .ok (.iastore, 1) := by decide +kernel
theorem dX11_laysFit_120 : decode cX11_laysFit 120 = .ok (.iload_n 2, 1) := by decide +kernel
theorem dX11_laysFit_121 : decode cX11_laysFit 121 = .ok (.iconst 1, 1) := by decide +kernel
theorem dX11_laysFit_122 : decode cX11_laysFit 122 = .ok (.iadd, 1) := by decide +kernel
theorem dX11_laysFit_123 : decode cX11_laysFit 123 = .ok (.istore_n 3, 1) := by decide +kernel
theorem dX11_laysFit_124 : decode cX11_laysFit 124 = .ok (.iload_n 3, 1) := by decide +kernel
theorem dX11_laysFit_125 : decode cX11_laysFit 125 = .ok (.aload_n 0, 1) := by decide +kernel
theorem dX11_laysFit_126 : decode cX11_laysFit 126 = .ok (.getfield 203, 3) := by decide +kernel
theorem dX11_laysFit_129 : decode cX11_laysFit 129 = .ok (.if_icmp .ge 34, 3) := by decide +kernel
theorem dX11_laysFit_132 : decode cX11_laysFit 132 = .ok (.aload_n 0, 1) := by decide +kernel
theorem dX11_laysFit_133 : decode cX11_laysFit 133 = .ok (.getfield 74, 3) := by decide +kernel
theorem dX11_laysFit_136 : decode cX11_laysFit 136 = .ok (.bipush 6, 2) := by decide +kernel
theorem dX11_laysFit_138 : decode cX11_laysFit 138 = .ok (.aload_n 0, 1) := by decide +kernel
theorem dX11_laysFit_139 : decode cX11_laysFit 139 = .ok (.getfield 44, 3) := by decide +kernel
theorem dX11_laysFit_142 : decode cX11_laysFit 142 = .ok (.iload_n 2, 1) := by decide +kernel
theorem dX11_laysFit_143 : decode cX11_laysFit 143 = .ok (.iaload, 1) := by decide +kernel
theorem dX11_laysFit_144 : decode cX11_laysFit 144 = .ok (.imul, 1) := by decide +kernel
theorem dX11_laysFit_145 : decode cX11_laysFit 145 = .ok (.aload_n 0, 1) := by decide +kernel
theorem dX11_laysFit_146 : decode cX11_laysFit 146 = .ok (.getfield 44, 3) := by decide +kernel
theorem dX11_laysFit_149 : decode cX11_laysFit 149 = .ok (.iload_n 3, 1) := by decide +kernel
theorem dX11_laysFit_150 : decode cX11_laysFit 150 = .ok (.iaload, 1) := by decide +kernel
theorem dX11_laysFit_151 : decode cX11_laysFit 151 = .ok (.iadd, 1) := by decide +kernel
theorem dX11_laysFit_152 : decode cX11_laysFit 152 = .ok (.dup2, 1) := by decide +kernel
theorem dX11_laysFit_153 : decode cX11_laysFit 153 = .ok (.iaload, 1) := by decide +kernel
theorem dX11_laysFit_154 : decode cX11_laysFit 154 = .ok (.iconst 1, 1) := by decide +kernel
theorem dX11_laysFit_155 : decode cX11_laysFit 155 = .ok (.iadd, 1) := by decide +kernel
theorem dX11_laysFit_156 : decode cX11_laysFit 156 = .ok (.iastore, 1) := by decide +kernel
theorem dX11_laysFit_157 : decode cX11_laysFit 157 = .ok (.iinc 3 1, 3) := by decide +kernel
theorem dX11_laysFit_160 : decode cX11_laysFit 160 = .ok (.goto (-36), 3) := by decide +kernel
theorem dX11_laysFit_163 : decode cX11_laysFit 163 = .ok (.iinc 2 1, 3) := by decide +kernel
theorem dX11_laysFit_166 : decode cX11_laysFit 166 = .ok (.goto (-71), 3) := by decide +kernel
theorem dX11_laysFit_169 : decode cX11_laysFit 169 = .ok (.return_, 1) := by decide +kernel
theorem dX11_laysFits_0 : decode cX11_laysFits 0 = .ok (.aload_n 0, 1) := by decide +kernel
theorem dX11_laysFits_1 : decode cX11_laysFits 1 = .ok (.invokevirtual 469, 3) := by decide +kernel
theorem dX11_laysFits_4 : decode cX11_laysFits 4 = .ok (.aload_n 0, 1) := by decide +kernel
theorem dX11_laysFits_5 : decode cX11_laysFits 5 = .ok (.invokevirtual 294, 3) := by decide +kernel
theorem dX11_laysFits_8 : decode cX11_laysFits 8 = .ok (.bipush (-2), 2) := by decide +kernel
theorem dX11_laysFits_10 : decode cX11_laysFits 10 = .ok (.istore_n 2, 1) := by decide +kernel
theorem dX11_laysFits_11 : decode cX11_laysFits 11 = .ok (.iconst 1, 1) := by decide +kernel
theorem dX11_laysFits_12 : decode cX11_laysFits 12 = .ok (.istore_n 3, 1) := by decide +kernel
theorem dX11_laysFits_13 : decode cX11_laysFits 13 = .ok (.iload_n 3, 1) := by decide +kernel
theorem dX11_laysFits_14 : decode cX11_laysFits 14 = .ok (.ifCond .eq 43, 3) := by decide +kernel
theorem dX11_laysFits_17 : decode cX11_laysFits 17 = .ok (.aload_n 0, 1) := by decide +kernel
theorem dX11_laysFits_18 : decode cX11_laysFits 18 = .ok (.invokevirtual 297, 3) := by decide +kernel
theorem dX11_laysFits_21 : decode cX11_laysFits 21 = .ok (.istore 4, 2) := by decide +kernel
theorem dX11_laysFits_23 : decode cX11_laysFits 23 = .ok (.aload_n 0, 1) := by decide +kernel
theorem dX11_laysFits_24 : decode cX11_laysFits 24 = .ok (.invokevirtual 472, 3) := by decide +kernel
theorem dX11_laysFits_27 : decode cX11_laysFits 27 = .ok (.ifCond .eq 22, 3) := by decide +kernel
theorem dX11_laysFits_30 : decode cX11_laysFits 30 = .ok (.aload_n 0, 1) := by decide +kernel
theorem dX11_laysFits_31 : decode cX11_laysFits 31 = .ok (.getfield 460, 3) := by decide +kernel
theorem dX11_laysFits_34 : decode cX11_laysFits 34 = .ok (.iload_n 1, 1) := by decide +kernel
theorem dX11_laysFits_35 : decode cX11_laysFits 35 = .ok (.if_icmp .ne 8, 3) := by decide +kernel
theorem dX11_laysFits_38 : decode cX11_laysFits 38 = .ok (.aload_n 0, 1) := by decide +kernel
theorem dX11_laysFits_39 : decode cX11_laysFits 39 = .ok (.invokevirtual 475, 3) := by decide +kernel
theorem dX11_laysFits_42 : decode cX11_laysFits 42 = .ok (.istore_n 2, 1) := by decide +kernel
theorem dX11_laysFits_43 : decode cX11_laysFits 43 = .ok (.aload_n 0, 1) := by decide +kernel
theorem dX11_laysFits_44 : decode cX11_laysFits 44 = .ok (.iload 4, 2) := by decide +kernel
theorem dX11_laysFits_46 : decode cX11_laysFits 46 = .ok (.invokevirtual 478, 3) := by decide +kernel
theorem dX11_laysFits_49 : decode cX11_laysFits 49 = .ok (.aload_n 0, 1) := by decide +kernel
theorem dX11_laysFits_50 : decode cX11_laysFits 50 = .ok (.invokevirtual 300, 3) := by decide +kernel
theorem dX11_laysFits_53 : decode cX11_laysFits 53 = .ok (.istore_n 3, 1) := by decide +kernel
theorem dX11_laysFits_54 : decode cX11_laysFits 54 = .ok (.goto (-41), 3) := by decide +kernel
theorem dX11_laysFits_57 : decode cX11_laysFits 57 = .ok (.iload_n 2, 1) := by decide +kernel
theorem dX11_laysFits_58 : decode cX11_laysFits 58 = .ok (.ireturn, 1) := by decide +kernel
theorem dX11_numberOf_0 : decode cX11_numberOf 0 = .ok (.iconst 1, 1) := by decide +kernel
theorem dX11_numberOf_1 : decode cX11_numberOf 1 = .ok (.istore_n 1, 1) := by decide +kernel
theorem dX11_numberOf_2 : decode cX11_numberOf 2 = .ok (.iconst 0, 1) := by decide +kernel
theorem dX11_numberOf_3 : decode cX11_numberOf 3 = .ok (.istore_n 2, 1) := by decide +kernel
theorem dX11_numberOf_4 : decode cX11_numberOf 4 = .ok (.iload_n 2, 1) := by decide +kernel
theorem dX11_numberOf_5 : decode cX11_numberOf 5 = .ok (.aload_n 0, 1) := by decide +kernel
theorem dX11_numberOf_6 : decode cX11_numberOf 6 = .ok (.getfield 203, 3) := by decide +kernel
theorem dX11_numberOf_9 : decode cX11_numberOf 9 = .ok (.if_icmp .ge 21, 3) := by decide +kernel
theorem dX11_numberOf_12 : decode cX11_numberOf 12 = .ok (.bipush 10, 2) := by decide +kernel
theorem dX11_numberOf_14 : decode cX11_numberOf 14 = .ok (.iload_n 1, 1) := by decide +kernel
theorem dX11_numberOf_15 : decode cX11_numberOf 15 = .ok (.imul, 1) := by decide +kernel
theorem dX11_numberOf_16 : decode cX11_numberOf 16 = .ok (.aload_n 0, 1) := by decide +kernel
theorem dX11_numberOf_17 : decode cX11_numberOf 17 = .ok (.getfield 44, 3) := by decide +kernel
theorem dX11_numberOf_20 : decode cX11_numberOf 20 = .ok (.iload_n 2, 1) := by decide +kernel
theorem dX11_numberOf_21 : decode cX11_numberOf 21 = .ok (.iaload, 1) := by decide +kernel
theorem dX11_numberOf_22 : decode cX11_numberOf 22 = .ok (.iadd, 1) := by decide +kernel
theorem dX11_numberOf_23 : decode cX11_numberOf 23 = .ok (.istore_n 1, 1) := by decide +kernel
theorem dX11_numberOf_24 : decode cX11_numberOf 24 = .ok (.iinc 2 1, 3) := by decide +kernel
theorem dX11_numberOf_27 : decode cX11_numberOf 27 = .ok (.goto (-23), 3) := by decide +kernel
theorem dX11_numberOf_30 : decode cX11_numberOf 30 = .ok (.iload_n 1, 1) := by decide +kernel
theorem dX11_numberOf_31 : decode cX11_numberOf 31 = .ok (.ireturn, 1) := by decide +kernel
theorem dX11_askOf_0 : decode cX11_askOf 0 = .ok (.iconst (-1), 1) := by decide +kernel
theorem dX11_askOf_1 : decode cX11_askOf 1 = .ok (.istore_n 1, 1) := by decide +kernel
theorem dX11_askOf_2 : decode cX11_askOf 2 = .ok (.ldc_w 311, 3) := by decide +kernel
theorem dX11_askOf_5 : decode cX11_askOf 5 = .ok (.istore_n 2, 1) := by decide +kernel
theorem dX11_askOf_6 : decode cX11_askOf 6 = .ok (.iconst 0, 1) := by decide +kernel
theorem dX11_askOf_7 : decode cX11_askOf 7 = .ok (.istore_n 3, 1) := by decide +kernel
theorem dX11_askOf_8 : decode cX11_askOf 8 = .ok (.iload_n 3, 1) := by decide +kernel
theorem dX11_askOf_9 : decode cX11_askOf 9 = .ok (.aload_n 0, 1) := by decide +kernel
theorem dX11_askOf_10 : decode cX11_askOf 10 = .ok (.getfield 200, 3) := by decide +kernel
theorem dX11_askOf_13 : decode cX11_askOf 13 = .ok (.if_icmp .ge 85, 3) := by decide +kernel
theorem dX11_askOf_16 : decode cX11_askOf 16 = .ok (.aload_n 0, 1) := by decide +kernel
theorem dX11_askOf_17 : decode cX11_askOf 17 = .ok (.getfield 460, 3) := by decide +kernel
theorem dX11_askOf_20 : decode cX11_askOf 20 = .ok (.ifCond .le 78, 3) := by decide +kernel
theorem dX11_askOf_23 : decode cX11_askOf 23 = .ok (.iconst 0, 1) := by decide +kernel
theorem dX11_askOf_24 : decode cX11_askOf 24 = .ok (.istore 4, 2) := by decide +kernel
theorem dX11_askOf_26 : decode cX11_askOf 26 = .ok (.iconst 0, 1) := by decide +kernel
theorem dX11_askOf_27 : decode cX11_askOf 27 = .ok (.istore 5, 2) := by decide +kernel
theorem dX11_askOf_29 : decode cX11_askOf 29 = .ok (.iload 5, 2) := by decide +kernel
theorem dX11_askOf_31 : decode cX11_askOf 31 = .ok (.bipush 10, 2) := by decide +kernel
theorem dX11_askOf_33 : decode cX11_askOf 33 = .ok (.if_icmp .ge 45, 3) := by decide +kernel
theorem dX11_askOf_36 : decode cX11_askOf 36 = .ok (.aload_n 0, 1) := by decide +kernel
theorem dX11_askOf_37 : decode cX11_askOf 37 = .ok (.getfield 71, 3) := by decide +kernel
theorem dX11_askOf_40 : decode cX11_askOf 40 = .ok (.bipush 10, 2) := by decide +kernel
theorem dX11_askOf_42 : decode cX11_askOf 42 = .ok (.iload_n 3, 1) := by decide +kernel
theorem dX11_askOf_43 : decode cX11_askOf 43 = .ok (.imul, 1) := by decide +kernel
theorem dX11_askOf_44 : decode cX11_askOf 44 = .ok (.iload 5, 2) := by decide +kernel
theorem dX11_askOf_46 : decode cX11_askOf 46 = .ok (.iadd, 1) := by decide +kernel
theorem dX11_askOf_47 : decode cX11_askOf 47 = .ok (.iaload, 1) := by decide +kernel
theorem dX11_askOf_48 : decode cX11_askOf 48 = .ok (.iload 4, 2) := by decide +kernel
theorem dX11_askOf_50 : decode cX11_askOf 50 = .ok (.if_icmp .le 18, 3) := by decide +kernel
theorem dX11_askOf_53 : decode cX11_askOf 53 = .ok (.aload_n 0, 1) := by decide +kernel
theorem dX11_askOf_54 : decode cX11_askOf 54 = .ok (.getfield 71, 3) := by decide +kernel
theorem dX11_askOf_57 : decode cX11_askOf 57 = .ok (.bipush 10, 2) := by decide +kernel
theorem dX11_askOf_59 : decode cX11_askOf 59 = .ok (.iload_n 3, 1) := by decide +kernel
theorem dX11_askOf_60 : decode cX11_askOf 60 = .ok (.imul, 1) := by decide +kernel
theorem dX11_askOf_61 : decode cX11_askOf 61 = .ok (.iload 5, 2) := by decide +kernel
theorem dX11_askOf_63 : decode cX11_askOf 63 = .ok (.iadd, 1) := by decide +kernel
theorem dX11_askOf_64 : decode cX11_askOf 64 = .ok (.iaload, 1) := by decide +kernel
theorem dX11_askOf_65 : decode cX11_askOf 65 = .ok (.goto 5, 3) := by decide +kernel
theorem dX11_askOf_68 : decode cX11_askOf 68 = .ok (.iload 4, 2) := by decide +kernel
theorem dX11_askOf_70 : decode cX11_askOf 70 = .ok (.istore 4, 2) := by decide +kernel
theorem dX11_askOf_72 : decode cX11_askOf 72 = .ok (.iinc 5 1, 3) := by decide +kernel
theorem dX11_askOf_75 : decode cX11_askOf 75 = .ok (.goto (-46), 3) := by decide +kernel
theorem dX11_askOf_78 : decode cX11_askOf 78 = .ok (.iload 4, 2) := by decide +kernel
theorem dX11_askOf_80 : decode cX11_askOf 80 = .ok (.iload_n 2, 1) := by decide +kernel
theorem dX11_askOf_81 : decode cX11_askOf 81 = .ok (.if_icmp .lt 6, 3) := by decide +kernel
theorem dX11_askOf_84 : decode cX11_askOf 84 = .ok (.goto 8, 3) := by decide +kernel
theorem dX11_askOf_87 : decode cX11_askOf 87 = .ok (.iload_n 3, 1) := by decide +kernel
theorem dX11_askOf_88 : decode cX11_askOf 88 = .ok (.istore_n 1, 1) := by decide +kernel
theorem dX11_askOf_89 : decode cX11_askOf 89 = .ok (.iload 4, 2) := by decide +kernel
theorem dX11_askOf_91 : decode cX11_askOf 91 = .ok (.istore_n 2, 1) := by decide +kernel
theorem dX11_askOf_92 : decode cX11_askOf 92 = .ok (.iinc 3 1, 3) := by decide +kernel
theorem dX11_askOf_95 : decode cX11_askOf 95 = .ok (.goto (-87), 3) := by decide +kernel
theorem dX11_askOf_98 : decode cX11_askOf 98 = .ok (.iload_n 1, 1) := by decide +kernel
theorem dX11_askOf_99 : decode cX11_askOf 99 = .ok (.ireturn, 1) := by decide +kernel
theorem dX11_sureOf_0 : decode cX11_sureOf 0 = .ok (.iload_n 1, 1) := by decide +kernel
theorem dX11_sureOf_1 : decode cX11_sureOf 1 = .ok (.aload_n 0, 1) := by decide +kernel
theorem dX11_sureOf_2 : decode cX11_sureOf 2 = .ok (.getfield 203, 3) := by decide +kernel
theorem dX11_sureOf_5 : decode cX11_sureOf 5 = .ok (.if_icmp .ge 23, 3) := by decide +kernel
theorem dX11_sureOf_8 : decode cX11_sureOf 8 = .ok (.aload_n 0, 1) := by decide +kernel
theorem dX11_sureOf_9 : decode cX11_sureOf 9 = .ok (.getfield 460, 3) := by decide +kernel
theorem dX11_sureOf_12 : decode cX11_sureOf 12 = .ok (.ifCond .eq 16, 3) := by decide +kernel
theorem dX11_sureOf_15 : decode cX11_sureOf 15 = .ok (.aload_n 0, 1) := by decide +kernel
theorem dX11_sureOf_16 : decode cX11_sureOf 16 = .ok (.getfield 68, 3) := by decide +kernel
theorem dX11_sureOf_19 : decode cX11_sureOf 19 = .ok (.iload_n 1, 1) := by decide +kernel
theorem dX11_sureOf_20 : decode cX11_sureOf 20 = .ok (.iaload, 1) := by decide +kernel
theorem dX11_sureOf_21 : decode cX11_sureOf 21 = .ok (.invokestatic 334, 3) := by decide +kernel
theorem dX11_sureOf_24 : decode cX11_sureOf 24 = .ok (.iconst 1, 1) := by decide +kernel
theorem dX11_sureOf_25 : decode cX11_sureOf 25 = .ok (.if_icmp .eq 5, 3) := by decide +kernel
theorem dX11_sureOf_28 : decode cX11_sureOf 28 = .ok (.iconst (-1), 1) := by decide +kernel
theorem dX11_sureOf_29 : decode cX11_sureOf 29 = .ok (.ireturn, 1) := by decide +kernel
theorem dX11_sureOf_30 : decode cX11_sureOf 30 = .ok (.iconst 0, 1) := by decide +kernel
theorem dX11_sureOf_31 : decode cX11_sureOf 31 = .ok (.istore_n 2, 1) := by decide +kernel
theorem dX11_sureOf_32 : decode cX11_sureOf 32 = .ok (.aload_n 0, 1) := by decide +kernel
theorem dX11_sureOf_33 : decode cX11_sureOf 33 = .ok (.getfield 68, 3) := by decide +kernel
theorem dX11_sureOf_36 : decode cX11_sureOf 36 = .ok (.iload_n 1, 1) := by decide +kernel
theorem dX11_sureOf_37 : decode cX11_sureOf 37 = .ok (.iaload, 1) := by decide +kernel
theorem dX11_sureOf_38 : decode cX11_sureOf 38 = .ok (.iload_n 2, 1) := by decide +kernel
theorem dX11_sureOf_39 : decode cX11_sureOf 39 = .ok (.ishr, 1) := by decide +kernel
theorem dX11_sureOf_40 : decode cX11_sureOf 40 = .ok (.iconst 1, 1) := by decide +kernel
theorem dX11_sureOf_41 : decode cX11_sureOf 41 = .ok (.if_icmp .eq 9, 3) := by decide +kernel
theorem dX11_sureOf_44 : decode cX11_sureOf 44 = .ok (.iinc 2 1, 3) := by decide +kernel
theorem dX11_sureOf_47 : decode cX11_sureOf 47 = .ok (.goto (-15), 3) := by decide +kernel
theorem dX11_sureOf_50 : decode cX11_sureOf 50 = .ok (.iload_n 2, 1) := by decide +kernel
theorem dX11_sureOf_51 : decode cX11_sureOf 51 = .ok (.ireturn, 1) := by decide +kernel
theorem dX11_fits_0 : decode cX11_fits 0 = .ok (.aload_n 0, 1) := by decide +kernel
theorem dX11_fits_1 : decode cX11_fits 1 = .ok (.iload_n 1, 1) := by decide +kernel
theorem dX11_fits_2 : decode cX11_fits 2 = .ok (.invokevirtual 209, 3) := by decide +kernel
theorem dX11_fits_5 : decode cX11_fits 5 = .ok (.ifCond .eq 26, 3) := by decide +kernel
theorem dX11_fits_8 : decode cX11_fits 8 = .ok (.aload_n 0, 1) := by decide +kernel
theorem dX11_fits_9 : decode cX11_fits 9 = .ok (.iload_n 2, 1) := by decide +kernel
theorem dX11_fits_10 : decode cX11_fits 10 = .ok (.invokevirtual 457, 3) := by decide +kernel
theorem dX11_fits_13 : decode cX11_fits 13 = .ok (.ifCond .eq 18, 3) := by decide +kernel
theorem dX11_fits_16 : decode cX11_fits 16 = .ok (.iload_n 3, 1) := by decide +kernel
theorem dX11_fits_17 : decode cX11_fits 17 = .ok (.ifCond .lt 14, 3) := by decide +kernel
theorem dX11_fits_20 : decode cX11_fits 20 = .ok (.iload_n 3, 1) := by decide +kernel
theorem dX11_fits_21 : decode cX11_fits 21 = .ok (.bipush 8, 2) := by decide +kernel
theorem dX11_fits_23 : decode cX11_fits 23 = .ok (.bipush 9, 2) := by decide +kernel
theorem dX11_fits_25 : decode cX11_fits 25 = .ok (.invokestatic 132, 3) := by decide +kernel
theorem dX11_fits_28 : decode cX11_fits 28 = .ok (.ifCond .eq 6, 3) := by decide +kernel
theorem dX11_fits_31 : decode cX11_fits 31 = .ok (.bipush (-2), 2) := by decide +kernel
theorem dX11_fits_33 : decode cX11_fits 33 = .ok (.ireturn, 1) := by decide +kernel
theorem dX11_fits_34 : decode cX11_fits 34 = .ok (.aload_n 0, 1) := by decide +kernel
theorem dX11_fits_35 : decode cX11_fits 35 = .ok (.iload_n 3, 1) := by decide +kernel
theorem dX11_fits_36 : decode cX11_fits 36 = .ok (.bipush 10, 2) := by decide +kernel
theorem dX11_fits_38 : decode cX11_fits 38 = .ok (.isub, 1) := by decide +kernel
theorem dX11_fits_39 : decode cX11_fits 39 = .ok (.invokevirtual 481, 3) := by decide +kernel
theorem dX11_fits_42 : decode cX11_fits 42 = .ok (.istore 4, 2) := by decide +kernel
theorem dX11_fits_44 : decode cX11_fits 44 = .ok (.iload_n 3, 1) := by decide +kernel
theorem dX11_fits_45 : decode cX11_fits 45 = .ok (.ifCond .ne 8, 3) := by decide +kernel
theorem dX11_fits_48 : decode cX11_fits 48 = .ok (.aload_n 0, 1) := by decide +kernel
theorem dX11_fits_49 : decode cX11_fits 49 = .ok (.getfield 460, 3) := by decide +kernel
theorem dX11_fits_52 : decode cX11_fits 52 = .ok (.ireturn, 1) := by decide +kernel
theorem dX11_fits_53 : decode cX11_fits 53 = .ok (.iload_n 3, 1) := by decide +kernel
theorem dX11_fits_54 : decode cX11_fits 54 = .ok (.iconst 1, 1) := by decide +kernel
theorem dX11_fits_55 : decode cX11_fits 55 = .ok (.if_icmp .ne 8, 3) := by decide +kernel
theorem dX11_fits_58 : decode cX11_fits 58 = .ok (.aload_n 0, 1) := by decide +kernel
theorem dX11_fits_59 : decode cX11_fits 59 = .ok (.invokevirtual 484, 3) := by decide +kernel
theorem dX11_fits_62 : decode cX11_fits 62 = .ok (.ireturn, 1) := by decide +kernel
theorem dX11_fits_63 : decode cX11_fits 63 = .ok (.iload_n 3, 1) := by decide +kernel
theorem dX11_fits_64 : decode cX11_fits 64 = .ok (.bipush 8, 2) := by decide +kernel
theorem dX11_fits_66 : decode cX11_fits 66 = .ok (.if_icmp .ge 13, 3) := by decide +kernel
theorem dX11_fits_69 : decode cX11_fits 69 = .ok (.aload_n 0, 1) := by decide +kernel
theorem dX11_fits_70 : decode cX11_fits 70 = .ok (.iload_n 3, 1) := by decide +kernel
theorem dX11_fits_71 : decode cX11_fits 71 = .ok (.iconst 2, 1) := by decide +kernel
theorem dX11_fits_72 : decode cX11_fits 72 = .ok (.isub, 1) := by decide +kernel
theorem dX11_fits_73 : decode cX11_fits 73 = .ok (.invokevirtual 487, 3) := by decide +kernel
theorem dX11_fits_76 : decode cX11_fits 76 = .ok (.goto 5, 3) := by decide +kernel
theorem dX11_fits_79 : decode cX11_fits 79 = .ok (.iload 4, 2) := by decide +kernel
theorem dX11_fits_81 : decode cX11_fits 81 = .ok (.ireturn, 1) := by decide +kernel
theorem dX11_ahead_0 : decode cX11_ahead 0 = .ok (.aload_n 0, 1) := by decide +kernel
theorem dX11_ahead_1 : decode cX11_ahead 1 = .ok (.iload_n 1, 1) := by decide +kernel
theorem dX11_ahead_2 : decode cX11_ahead 2 = .ok (.invokevirtual 209, 3) := by decide +kernel
theorem dX11_ahead_5 : decode cX11_ahead 5 = .ok (.ifCond .eq 34, 3) := by decide +kernel
theorem dX11_ahead_8 : decode cX11_ahead 8 = .ok (.aload_n 0, 1) := by decide +kernel
theorem dX11_ahead_9 : decode cX11_ahead 9 = .ok (.iload_n 2, 1) := by decide +kernel
theorem dX11_ahead_10 : decode cX11_ahead 10 = .ok (.invokevirtual 457, 3) := by decide +kernel
theorem dX11_ahead_13 : decode cX11_ahead 13 = .ok (.ifCond .eq 26, 3) := by decide +kernel
theorem dX11_ahead_16 : decode cX11_ahead 16 = .ok (.aload_n 0, 1) := by decide +kernel
theorem dX11_ahead_17 : decode cX11_ahead 17 = .ok (.iload_n 3, 1) := by decide +kernel
theorem dX11_ahead_18 : decode cX11_ahead 18 = .ok (.invokevirtual 218, 3) := by decide +kernel
theorem dX11_ahead_21 : decode cX11_ahead 21 = .ok (.ifCond .eq 18, 3) := by decide +kernel
theorem dX11_ahead_24 : decode cX11_ahead 24 = .ok (.aload_n 0, 1) := by decide +kernel
theorem dX11_ahead_25 : decode cX11_ahead 25 = .ok (.iload 4, 2) := by decide +kernel
theorem dX11_ahead_27 : decode cX11_ahead 27 = .ok (.invokevirtual 218, 3) := by decide +kernel
theorem dX11_ahead_30 : decode cX11_ahead 30 = .ok (.ifCond .eq 9, 3) := by decide +kernel
theorem dX11_ahead_33 : decode cX11_ahead 33 = .ok (.iload_n 3, 1) := by decide +kernel
theorem dX11_ahead_34 : decode cX11_ahead 34 = .ok (.iload 4, 2) := by decide +kernel
theorem dX11_ahead_36 : decode cX11_ahead 36 = .ok (.if_icmp .ne 5, 3) := by decide +kernel
theorem dX11_ahead_39 : decode cX11_ahead 39 = .ok (.iconst (-1), 1) := by decide +kernel
theorem dX11_ahead_40 : decode cX11_ahead 40 = .ok (.ireturn, 1) := by decide +kernel
theorem dX11_ahead_41 : decode cX11_ahead 41 = .ok (.aload_n 0, 1) := by decide +kernel
theorem dX11_ahead_42 : decode cX11_ahead 42 = .ok (.iconst (-1), 1) := by decide +kernel
theorem dX11_ahead_43 : decode cX11_ahead 43 = .ok (.invokevirtual 481, 3) := by decide +kernel
theorem dX11_ahead_46 : decode cX11_ahead 46 = .ok (.pop, 1) := by decide +kernel
theorem dX11_ahead_47 : decode cX11_ahead 47 = .ok (.aload_n 0, 1) := by decide +kernel
theorem dX11_ahead_48 : decode cX11_ahead 48 = .ok (.getfield 460, 3) := by decide +kernel
theorem dX11_ahead_51 : decode cX11_ahead 51 = .ok (.ifCond .ne 7, 3) := by decide +kernel
theorem dX11_ahead_54 : decode cX11_ahead 54 = .ok (.iconst (-1), 1) := by decide +kernel
theorem dX11_ahead_55 : decode cX11_ahead 55 = .ok (.goto 27, 3) := by decide +kernel
theorem dX11_ahead_58 : decode cX11_ahead 58 = .ok (.aload_n 0, 1) := by decide +kernel
theorem dX11_ahead_59 : decode cX11_ahead 59 = .ok (.getfield 74, 3) := by decide +kernel
theorem dX11_ahead_62 : decode cX11_ahead 62 = .ok (.bipush 6, 2) := by decide +kernel
theorem dX11_ahead_64 : decode cX11_ahead 64 = .ok (.iload_n 3, 1) := by decide +kernel
theorem dX11_ahead_65 : decode cX11_ahead 65 = .ok (.imul, 1) := by decide +kernel
theorem dX11_ahead_66 : decode cX11_ahead 66 = .ok (.iload 4, 2) := by decide +kernel
theorem dX11_ahead_68 : decode cX11_ahead 68 = .ok (.iadd, 1) := by decide +kernel
theorem dX11_ahead_69 : decode cX11_ahead 69 = .ok (.iaload, 1) := by decide +kernel
theorem dX11_ahead_70 : decode cX11_ahead 70 = .ok (.i2l, 1) := by decide +kernel
theorem dX11_ahead_71 : decode cX11_ahead 71 = .ok (.aload_n 0, 1) := by decide +kernel
theorem dX11_ahead_72 : decode cX11_ahead 72 = .ok (.getfield 460, 3) := by decide +kernel
theorem dX11_ahead_75 : decode cX11_ahead 75 = .ok (.i2l, 1) := by decide +kernel
theorem dX11_ahead_76 : decode cX11_ahead 76 = .ok (.iload 5, 2) := by decide +kernel
theorem dX11_ahead_78 : decode cX11_ahead 78 = .ok (.invokestatic 349, 3) := by decide +kernel
theorem dX11_ahead_81 : decode cX11_ahead 81 = .ok (.l2i, 1) := by decide +kernel
theorem dX11_ahead_82 : decode cX11_ahead 82 = .ok (.ireturn, 1) := by decide +kernel
theorem dX11_firsts_0 : decode cX11_firsts 0 = .ok (.aload_n 0, 1) := by decide +kernel
theorem dX11_firsts_1 : decode cX11_firsts 1 = .ok (.iload_n 1, 1) := by decide +kernel
theorem dX11_firsts_2 : decode cX11_firsts 2 = .ok (.invokevirtual 209, 3) := by decide +kernel
theorem dX11_firsts_5 : decode cX11_firsts 5 = .ok (.ifCond .eq 11, 3) := by decide +kernel
theorem dX11_firsts_8 : decode cX11_firsts 8 = .ok (.aload_n 0, 1) := by decide +kernel
theorem dX11_firsts_9 : decode cX11_firsts 9 = .ok (.iload_n 2, 1) := by decide +kernel
theorem dX11_firsts_10 : decode cX11_firsts 10 = .ok (.invokevirtual 457, 3) := by decide +kernel
theorem dX11_firsts_13 : decode cX11_firsts 13 = .ok (.ifCond .ne 6, 3) := by decide +kernel
theorem dX11_firsts_16 : decode cX11_firsts 16 = .ok (.bipush (-2), 2) := by decide +kernel
theorem dX11_firsts_18 : decode cX11_firsts 18 = .ok (.ireturn, 1) := by decide +kernel
theorem dX11_firsts_19 : decode cX11_firsts 19 = .ok (.aload_n 0, 1) := by decide +kernel
theorem dX11_firsts_20 : decode cX11_firsts 20 = .ok (.iconst (-1), 1) := by decide +kernel
theorem dX11_firsts_21 : decode cX11_firsts 21 = .ok (.invokevirtual 481, 3) := by decide +kernel
theorem dX11_firsts_24 : decode cX11_firsts 24 = .ok (.pop, 1) := by decide +kernel
theorem dX11_firsts_25 : decode cX11_firsts 25 = .ok (.iload_n 3, 1) := by decide +kernel
theorem dX11_firsts_26 : decode cX11_firsts 26 = .ok (.tableswitch 70 0 3 #[30, 37, 60, 65], 30) := by decide +kernel
theorem dX11_firsts_56 : decode cX11_firsts 56 = .ok (.aload_n 0, 1) := by decide +kernel
theorem dX11_firsts_57 : decode cX11_firsts 57 = .ok (.getfield 68, 3) := by decide +kernel
theorem dX11_firsts_60 : decode cX11_firsts 60 = .ok (.iconst 0, 1) := by decide +kernel
theorem dX11_firsts_61 : decode cX11_firsts 61 = .ok (.iaload, 1) := by decide +kernel
theorem dX11_firsts_62 : decode cX11_firsts 62 = .ok (.ireturn, 1) := by decide +kernel
theorem dX11_firsts_63 : decode cX11_firsts 63 = .ok (.aload_n 0, 1) := by decide +kernel
theorem dX11_firsts_64 : decode cX11_firsts 64 = .ok (.getfield 203, 3) := by decide +kernel
theorem dX11_firsts_67 : decode cX11_firsts 67 = .ok (.ifCond .ne 7, 3) := by decide +kernel
theorem dX11_firsts_70 : decode cX11_firsts 70 = .ok (.iconst 0, 1) := by decide +kernel
theorem dX11_firsts_71 : decode cX11_firsts 71 = .ok (.goto 14, 3) := by decide +kernel
theorem dX11_firsts_74 : decode cX11_firsts 74 = .ok (.aload_n 0, 1) := by decide +kernel
theorem dX11_firsts_75 : decode cX11_firsts 75 = .ok (.getfield 68, 3) := by decide +kernel
theorem dX11_firsts_78 : decode cX11_firsts 78 = .ok (.aload_n 0, 1) := by decide +kernel
theorem dX11_firsts_79 : decode cX11_firsts 79 = .ok (.getfield 203, 3) := by decide +kernel
theorem dX11_firsts_82 : decode cX11_firsts 82 = .ok (.iconst 1, 1) := by decide +kernel
theorem dX11_firsts_83 : decode cX11_firsts 83 = .ok (.isub, 1) := by decide +kernel
theorem dX11_firsts_84 : decode cX11_firsts 84 = .ok (.iaload, 1) := by decide +kernel
theorem dX11_firsts_85 : decode cX11_firsts 85 = .ok (.ireturn, 1) := by decide +kernel
theorem dX11_firsts_86 : decode cX11_firsts 86 = .ok (.aload_n 0, 1) := by decide +kernel
theorem dX11_firsts_87 : decode cX11_firsts 87 = .ok (.getfield 463, 3) := by decide +kernel
theorem dX11_firsts_90 : decode cX11_firsts 90 = .ok (.ireturn, 1) := by decide +kernel
theorem dX11_firsts_91 : decode cX11_firsts 91 = .ok (.aload_n 0, 1) := by decide +kernel
theorem dX11_firsts_92 : decode cX11_firsts 92 = .ok (.getfield 466, 3) := by decide +kernel
theorem dX11_firsts_95 : decode cX11_firsts 95 = .ok (.ireturn, 1) := by decide +kernel
theorem dX11_firsts_96 : decode cX11_firsts 96 = .ok (.bipush (-2), 2) := by decide +kernel
theorem dX11_firsts_98 : decode cX11_firsts 98 = .ok (.ireturn, 1) := by decide +kernel
theorem dX11_below_0 : decode cX11_below 0 = .ok (.aload_n 0, 1) := by decide +kernel
theorem dX11_below_1 : decode cX11_below 1 = .ok (.aload_n 0, 1) := by decide +kernel
theorem dX11_below_2 : decode cX11_below 2 = .ok (.getfield 490, 3) := by decide +kernel
theorem dX11_below_5 : decode cX11_below 5 = .ok (.ldc_w 493, 3) := by decide +kernel
theorem dX11_below_8 : decode cX11_below 8 = .ok (.imul, 1) := by decide +kernel
theorem dX11_below_9 : decode cX11_below 9 = .ok (.sipush 12345, 3) := by decide +kernel
theorem dX11_below_12 : decode cX11_below 12 = .ok (.iadd, 1) := by decide +kernel
theorem dX11_below_13 : decode cX11_below 13 = .ok (.putfield 490, 3) := by decide +kernel
theorem dX11_below_16 : decode cX11_below 16 = .ok (.aload_n 0, 1) := by decide +kernel
theorem dX11_below_17 : decode cX11_below 17 = .ok (.getfield 490, 3) := by decide +kernel
theorem dX11_below_20 : decode cX11_below 20 = .ok (.bipush 16, 2) := by decide +kernel
theorem dX11_below_22 : decode cX11_below 22 = .ok (.iushr, 1) := by decide +kernel
theorem dX11_below_23 : decode cX11_below 23 = .ok (.iload_n 1, 1) := by decide +kernel
theorem dX11_below_24 : decode cX11_below 24 = .ok (.irem, 1) := by decide +kernel
theorem dX11_below_25 : decode cX11_below 25 = .ok (.ireturn, 1) := by decide +kernel
theorem dX11_draws_0 : decode cX11_draws 0 = .ok (.aload_n 0, 1) := by decide +kernel
theorem dX11_draws_1 : decode cX11_draws 1 = .ok (.bipush 10, 2) := by decide +kernel
theorem dX11_draws_3 : decode cX11_draws 3 = .ok (.invokevirtual 494, 3) := by decide +kernel
theorem dX11_draws_6 : decode cX11_draws 6 = .ok (.istore_n 1, 1) := by decide +kernel
theorem dX11_draws_7 : decode cX11_draws 7 = .ok (.iload_n 1, 1) := by decide +kernel
theorem dX11_draws_8 : decode cX11_draws 8 = .ok (.iconst 4, 1) := by decide +kernel
theorem dX11_draws_9 : decode cX11_draws 9 = .ok (.if_icmp .ge 7, 3) := by decide +kernel
theorem dX11_draws_12 : decode cX11_draws 12 = .ok (.iconst 0, 1) := by decide +kernel
theorem dX11_draws_13 : decode cX11_draws 13 = .ok (.goto 16, 3) := by decide +kernel
theorem dX11_draws_16 : decode cX11_draws 16 = .ok (.iload_n 1, 1) := by decide +kernel
theorem dX11_draws_17 : decode cX11_draws 17 = .ok (.bipush 6, 2) := by decide +kernel
theorem dX11_draws_19 : decode cX11_draws 19 = .ok (.if_icmp .ge 7, 3) := by decide +kernel
theorem dX11_draws_22 : decode cX11_draws 22 = .ok (.iconst 1, 1) := by decide +kernel
theorem dX11_draws_23 : decode cX11_draws 23 = .ok (.goto 6, 3) := by decide +kernel
theorem dX11_draws_26 : decode cX11_draws 26 = .ok (.iload_n 1, 1) := by decide +kernel
theorem dX11_draws_27 : decode cX11_draws 27 = .ok (.iconst 4, 1) := by decide +kernel
theorem dX11_draws_28 : decode cX11_draws 28 = .ok (.isub, 1) := by decide +kernel
theorem dX11_draws_29 : decode cX11_draws 29 = .ok (.istore_n 2, 1) := by decide +kernel
theorem dX11_draws_30 : decode cX11_draws 30 = .ok (.iload_n 2, 1) := by decide +kernel
theorem dX11_draws_31 : decode cX11_draws 31 = .ok (.ifCond .eq 8, 3) := by decide +kernel
theorem dX11_draws_34 : decode cX11_draws 34 = .ok (.iload_n 2, 1) := by decide +kernel
theorem dX11_draws_35 : decode cX11_draws 35 = .ok (.iconst 2, 1) := by decide +kernel
theorem dX11_draws_36 : decode cX11_draws 36 = .ok (.if_icmp .ne 10, 3) := by decide +kernel
theorem dX11_draws_39 : decode cX11_draws 39 = .ok (.aload_n 0, 1) := by decide +kernel
theorem dX11_draws_40 : decode cX11_draws 40 = .ok (.getfield 203, 3) := by decide +kernel
theorem dX11_draws_43 : decode cX11_draws 43 = .ok (.ifCond .eq 20, 3) := by decide +kernel
theorem dX11_draws_46 : decode cX11_draws 46 = .ok (.iload_n 2, 1) := by decide +kernel
theorem dX11_draws_47 : decode cX11_draws 47 = .ok (.iconst 1, 1) := by decide +kernel
theorem dX11_draws_48 : decode cX11_draws 48 = .ok (.if_icmp .eq 8, 3) := by decide +kernel
theorem dX11_draws_51 : decode cX11_draws 51 = .ok (.iload_n 2, 1) := by decide +kernel
theorem dX11_draws_52 : decode cX11_draws 52 = .ok (.iconst 2, 1) := by decide +kernel
theorem dX11_draws_53 : decode cX11_draws 53 = .ok (.if_icmp .ne 11, 3) := by decide +kernel
theorem dX11_draws_56 : decode cX11_draws 56 = .ok (.aload_n 0, 1) := by decide +kernel
theorem dX11_draws_57 : decode cX11_draws 57 = .ok (.getfield 200, 3) := by decide +kernel
theorem dX11_draws_60 : decode cX11_draws 60 = .ok (.ifCond .ne 4, 3) := by decide +kernel
theorem dX11_draws_63 : decode cX11_draws 63 = .ok (.return_, 1) := by decide +kernel
theorem dX11_draws_64 : decode cX11_draws 64 = .ok (.iload_n 2, 1) := by decide +kernel
theorem dX11_draws_65 : decode cX11_draws 65 = .ok (.iconst 5, 1) := by decide +kernel
theorem dX11_draws_66 : decode cX11_draws 66 = .ok (.if_icmp .ne 7, 3) := by decide +kernel
theorem dX11_draws_69 : decode cX11_draws 69 = .ok (.iconst (-1), 1) := by decide +kernel
theorem dX11_draws_70 : decode cX11_draws 70 = .ok (.goto 33, 3) := by decide +kernel
theorem dX11_draws_73 : decode cX11_draws 73 = .ok (.aload_n 0, 1) := by decide +kernel
theorem dX11_draws_74 : decode cX11_draws 74 = .ok (.iload_n 2, 1) := by decide +kernel
theorem dX11_draws_75 : decode cX11_draws 75 = .ok (.iconst 1, 1) := by decide +kernel
theorem dX11_draws_76 : decode cX11_draws 76 = .ok (.if_icmp .ne 10, 3) := by decide +kernel
theorem dX11_draws_79 : decode cX11_draws 79 = .ok (.aload_n 0, 1) := by decide +kernel
theorem dX11_draws_80 : decode cX11_draws 80 = .ok (.getfield 200, 3) := by decide +kernel
theorem dX11_draws_83 : decode cX11_draws 83 = .ok (.goto 17, 3) := by decide +kernel
theorem dX11_draws_86 : decode cX11_draws 86 = .ok (.iload_n 2, 1) := by decide +kernel
theorem dX11_draws_87 : decode cX11_draws 87 = .ok (.iconst 3, 1) := by decide +kernel
theorem dX11_draws_88 : decode cX11_draws 88 = .ok (.if_icmp .ge 10, 3) := by decide +kernel
theorem dX11_draws_91 : decode cX11_draws 91 = .ok (.aload_n 0, 1) := by decide +kernel
theorem dX11_draws_92 : decode cX11_draws 92 = .ok (.getfield 203, 3) := by decide +kernel
theorem dX11_draws_95 : decode cX11_draws 95 = .ok (.goto 5, 3) := by decide +kernel
theorem dX11_draws_98 : decode cX11_draws 98 = .ok (.bipush 10, 2) := by decide +kernel
theorem dX11_draws_100 : decode cX11_draws 100 = .ok (.invokevirtual 494, 3) := by decide +kernel
theorem dX11_draws_103 : decode cX11_draws 103 = .ok (.istore_n 3, 1) := by decide +kernel
theorem dX11_draws_104 : decode cX11_draws 104 = .ok (.iconst (-1), 1) := by decide +kernel
theorem dX11_draws_105 : decode cX11_draws 105 = .ok (.istore 4, 2) := by decide +kernel
theorem dX11_draws_107 : decode cX11_draws 107 = .ok (.iload_n 2, 1) := by decide +kernel
theorem dX11_draws_108 : decode cX11_draws 108 = .ok (.tableswitch 74 1 4 #[32, 43, 56, 56], 32) := by decide +kernel
theorem dX11_draws_140 : decode cX11_draws 140 = .ok (.aload_n 0, 1) := by decide +kernel
theorem dX11_draws_141 : decode cX11_draws 141 = .ok (.bipush 10, 2) := by decide +kernel
theorem dX11_draws_143 : decode cX11_draws 143 = .ok (.invokevirtual 494, 3) := by decide +kernel
theorem dX11_draws_146 : decode cX11_draws 146 = .ok (.istore 4, 2) := by decide +kernel
theorem dX11_draws_148 : decode cX11_draws 148 = .ok (.goto 34, 3) := by decide +kernel
theorem dX11_draws_151 : decode cX11_draws 151 = .ok (.aload_n 0, 1) := by decide +kernel
theorem dX11_draws_152 : decode cX11_draws 152 = .ok (.aload_n 0, 1) := by decide +kernel
theorem dX11_draws_153 : decode cX11_draws 153 = .ok (.getfield 200, 3) := by decide +kernel
theorem dX11_draws_156 : decode cX11_draws 156 = .ok (.invokevirtual 494, 3) := by decide +kernel
theorem dX11_draws_159 : decode cX11_draws 159 = .ok (.istore 4, 2) := by decide +kernel
theorem dX11_draws_161 : decode cX11_draws 161 = .ok (.goto 21, 3) := by decide +kernel
theorem dX11_draws_164 : decode cX11_draws 164 = .ok (.iload_n 3, 1) := by decide +kernel
theorem dX11_draws_165 : decode cX11_draws 165 = .ok (.iconst 1, 1) := by decide +kernel
theorem dX11_draws_166 : decode cX11_draws 166 = .ok (.iadd, 1) := by decide +kernel
theorem dX11_draws_167 : decode cX11_draws 167 = .ok (.aload_n 0, 1) := by decide +kernel
theorem dX11_draws_168 : decode cX11_draws 168 = .ok (.bipush 9, 2) := by decide +kernel
theorem dX11_draws_170 : decode cX11_draws 170 = .ok (.invokevirtual 494, 3) := by decide +kernel
theorem dX11_draws_173 : decode cX11_draws 173 = .ok (.iadd, 1) := by decide +kernel
theorem dX11_draws_174 : decode cX11_draws 174 = .ok (.bipush 10, 2) := by decide +kernel
theorem dX11_draws_176 : decode cX11_draws 176 = .ok (.irem, 1) := by decide +kernel
theorem dX11_draws_177 : decode cX11_draws 177 = .ok (.istore 4, 2) := by decide +kernel
theorem dX11_draws_179 : decode cX11_draws 179 = .ok (.goto 3, 3) := by decide +kernel
theorem dX11_draws_182 : decode cX11_draws 182 = .ok (.aload_n 0, 1) := by decide +kernel
theorem dX11_draws_183 : decode cX11_draws 183 = .ok (.iload_n 2, 1) := by decide +kernel
theorem dX11_draws_184 : decode cX11_draws 184 = .ok (.iload_n 3, 1) := by decide +kernel
theorem dX11_draws_185 : decode cX11_draws 185 = .ok (.iload 4, 2) := by decide +kernel
theorem dX11_draws_187 : decode cX11_draws 187 = .ok (.invokevirtual 439, 3) := by decide +kernel
theorem dX11_draws_190 : decode cX11_draws 190 = .ok (.pop, 1) := by decide +kernel
theorem dX11_draws_191 : decode cX11_draws 191 = .ok (.return_, 1) := by decide +kernel
theorem dX11_drawn_0 : decode cX11_drawn 0 = .ok (.aload_n 0, 1) := by decide +kernel
theorem dX11_drawn_1 : decode cX11_drawn 1 = .ok (.iload_n 1, 1) := by decide +kernel
theorem dX11_drawn_2 : decode cX11_drawn 2 = .ok (.invokevirtual 209, 3) := by decide +kernel
theorem dX11_drawn_5 : decode cX11_drawn 5 = .ok (.ifCond .eq 13, 3) := by decide +kernel
theorem dX11_drawn_8 : decode cX11_drawn 8 = .ok (.iload_n 3, 1) := by decide +kernel
theorem dX11_drawn_9 : decode cX11_drawn 9 = .ok (.iconst 0, 1) := by decide +kernel
theorem dX11_drawn_10 : decode cX11_drawn 10 = .ok (.bipush 60, 2) := by decide +kernel
theorem dX11_drawn_12 : decode cX11_drawn 12 = .ok (.invokestatic 132, 3) := by decide +kernel
theorem dX11_drawn_15 : decode cX11_drawn 15 = .ok (.ifCond .ne 6, 3) := by decide +kernel
theorem dX11_drawn_18 : decode cX11_drawn 18 = .ok (.bipush (-2), 2) := by decide +kernel
theorem dX11_drawn_20 : decode cX11_drawn 20 = .ok (.ireturn, 1) := by decide +kernel
theorem dX11_drawn_21 : decode cX11_drawn 21 = .ok (.aload_n 0, 1) := by decide +kernel
theorem dX11_drawn_22 : decode cX11_drawn 22 = .ok (.iload_n 2, 1) := by decide +kernel
theorem dX11_drawn_23 : decode cX11_drawn 23 = .ok (.putfield 490, 3) := by decide +kernel
theorem dX11_drawn_26 : decode cX11_drawn 26 = .ok (.iconst 0, 1) := by decide +kernel
theorem dX11_drawn_27 : decode cX11_drawn 27 = .ok (.istore 5, 2) := by decide +kernel
theorem dX11_drawn_29 : decode cX11_drawn 29 = .ok (.iload 5, 2) := by decide +kernel
theorem dX11_drawn_31 : decode cX11_drawn 31 = .ok (.iload_n 3, 1) := by decide +kernel
theorem dX11_drawn_32 : decode cX11_drawn 32 = .ok (.if_icmp .ge 13, 3) := by decide +kernel
theorem dX11_drawn_35 : decode cX11_drawn 35 = .ok (.aload_n 0, 1) := by decide +kernel
theorem dX11_drawn_36 : decode cX11_drawn 36 = .ok (.invokevirtual 497, 3) := by decide +kernel
theorem dX11_drawn_39 : decode cX11_drawn 39 = .ok (.iinc 5 1, 3) := by decide +kernel
theorem dX11_drawn_42 : decode cX11_drawn 42 = .ok (.goto (-13), 3) := by decide +kernel
theorem dX11_drawn_45 : decode cX11_drawn 45 = .ok (.aload_n 0, 1) := by decide +kernel
theorem dX11_drawn_46 : decode cX11_drawn 46 = .ok (.iload 4, 2) := by decide +kernel
theorem dX11_drawn_48 : decode cX11_drawn 48 = .ok (.invokevirtual 445, 3) := by decide +kernel
theorem dX11_drawn_51 : decode cX11_drawn 51 = .ok (.ireturn, 1) := by decide +kernel
theorem dX11_count_0 : decode cX11_count 0 = .ok (.iload_n 1, 1) := by decide +kernel
theorem dX11_count_1 : decode cX11_count 1 = .ok (.iconst 0, 1) := by decide +kernel
theorem dX11_count_2 : decode cX11_count 2 = .ok (.iconst 2, 1) := by decide +kernel
theorem dX11_count_3 : decode cX11_count 3 = .ok (.invokestatic 132, 3) := by decide +kernel
theorem dX11_count_6 : decode cX11_count 6 = .ok (.ifCond .eq 12, 3) := by decide +kernel
theorem dX11_count_9 : decode cX11_count 9 = .ok (.aload_n 0, 1) := by decide +kernel
theorem dX11_count_10 : decode cX11_count 10 = .ok (.getfield 7, 3) := by decide +kernel
theorem dX11_count_13 : decode cX11_count 13 = .ok (.iload_n 1, 1) := by decide +kernel
theorem dX11_count_14 : decode cX11_count 14 = .ok (.iaload, 1) := by decide +kernel
theorem dX11_count_15 : decode cX11_count 15 = .ok (.goto 5, 3) := by decide +kernel
theorem dX11_count_18 : decode cX11_count 18 = .ok (.bipush (-2), 2) := by decide +kernel
theorem dX11_count_20 : decode cX11_count 20 = .ok (.ireturn, 1) := by decide +kernel
theorem dX11_image_0 : decode cX11_image 0 = .ok (.iload_n 1, 1) := by decide +kernel
theorem dX11_image_1 : decode cX11_image 1 = .ok (.iconst 0, 1) := by decide +kernel
theorem dX11_image_2 : decode cX11_image 2 = .ok (.iconst 2, 1) := by decide +kernel
theorem dX11_image_3 : decode cX11_image 3 = .ok (.invokestatic 132, 3) := by decide +kernel
theorem dX11_image_6 : decode cX11_image 6 = .ok (.ifCond .ne 5, 3) := by decide +kernel
theorem dX11_image_9 : decode cX11_image 9 = .ok (.iconst 0, 1) := by decide +kernel
theorem dX11_image_10 : decode cX11_image 10 = .ok (.ireturn, 1) := by decide +kernel
theorem dX11_image_11 : decode cX11_image 11 = .ok (.aload_n 0, 1) := by decide +kernel
theorem dX11_image_12 : decode cX11_image 12 = .ok (.getfield 13, 3) := by decide +kernel
theorem dX11_image_15 : decode cX11_image 15 = .ok (.iload_n 1, 1) := by decide +kernel
theorem dX11_image_16 : decode cX11_image 16 = .ok (.iconst 1, 1) := by decide +kernel
theorem dX11_image_17 : decode cX11_image 17 = .ok (.bastore, 1) := by decide +kernel
theorem dX11_image_18 : decode cX11_image 18 = .ok (.iconst 0, 1) := by decide +kernel
theorem dX11_image_19 : decode cX11_image 19 = .ok (.istore_n 2, 1) := by decide +kernel
theorem dX11_image_20 : decode cX11_image 20 = .ok (.iload_n 2, 1) := by decide +kernel
theorem dX11_image_21 : decode cX11_image 21 = .ok (.sipush 1046, 3) := by decide +kernel
theorem dX11_image_24 : decode cX11_image 24 = .ok (.if_icmp .ge 29, 3) := by decide +kernel
theorem dX11_image_27 : decode cX11_image 27 = .ok (.aload_n 0, 1) := by decide +kernel
theorem dX11_image_28 : decode cX11_image 28 = .ok (.getfield 7, 3) := by decide +kernel
theorem dX11_image_31 : decode cX11_image 31 = .ok (.sipush 1046, 3) := by decide +kernel
theorem dX11_image_34 : decode cX11_image 34 = .ok (.iload_n 1, 1) := by decide +kernel
theorem dX11_image_35 : decode cX11_image 35 = .ok (.iconst 1, 1) := by decide +kernel
theorem dX11_image_36 : decode cX11_image 36 = .ok (.iadd, 1) := by decide +kernel
theorem dX11_image_37 : decode cX11_image 37 = .ok (.imul, 1) := by decide +kernel
theorem dX11_image_38 : decode cX11_image 38 = .ok (.iload_n 2, 1) := by decide +kernel
theorem dX11_image_39 : decode cX11_image 39 = .ok (.iadd, 1) := by decide +kernel
theorem dX11_image_40 : decode cX11_image 40 = .ok (.aload_n 0, 1) := by decide +kernel
theorem dX11_image_41 : decode cX11_image 41 = .ok (.getfield 7, 3) := by decide +kernel
theorem dX11_image_44 : decode cX11_image 44 = .ok (.iload_n 2, 1) := by decide +kernel
theorem dX11_image_45 : decode cX11_image 45 = .ok (.iaload, 1) := by decide +kernel
theorem dX11_image_46 : decode cX11_image 46 = .ok (.iastore, 1) := by decide +kernel
theorem dX11_image_47 : decode cX11_image 47 = .ok (.iinc 2 1, 3) := by decide +kernel
theorem dX11_image_50 : decode cX11_image 50 = .ok (.goto (-30), 3) := by decide +kernel
theorem dX11_image_53 : decode cX11_image 53 = .ok (.iconst 1, 1) := by decide +kernel
theorem dX11_image_54 : decode cX11_image 54 = .ok (.ireturn, 1) := by decide +kernel
theorem dX11_again_0 : decode cX11_again 0 = .ok (.iload_n 1, 1) := by decide +kernel
theorem dX11_again_1 : decode cX11_again 1 = .ok (.iconst 0, 1) := by decide +kernel
theorem dX11_again_2 : decode cX11_again 2 = .ok (.iconst 2, 1) := by decide +kernel
theorem dX11_again_3 : decode cX11_again 3 = .ok (.invokestatic 132, 3) := by decide +kernel
theorem dX11_again_6 : decode cX11_again 6 = .ok (.ifCond .eq 12, 3) := by decide +kernel
theorem dX11_again_9 : decode cX11_again 9 = .ok (.aload_n 0, 1) := by decide +kernel
theorem dX11_again_10 : decode cX11_again 10 = .ok (.getfield 13, 3) := by decide +kernel
theorem dX11_again_13 : decode cX11_again 13 = .ok (.iload_n 1, 1) := by decide +kernel
theorem dX11_again_14 : decode cX11_again 14 = .ok (.baload, 1) := by decide +kernel
theorem dX11_again_15 : decode cX11_again 15 = .ok (.ifCond .ne 5, 3) := by decide +kernel
theorem dX11_again_18 : decode cX11_again 18 = .ok (.iconst 0, 1) := by decide +kernel
theorem dX11_again_19 : decode cX11_again 19 = .ok (.ireturn, 1) := by decide +kernel
theorem dX11_again_20 : decode cX11_again 20 = .ok (.iconst 0, 1) := by decide +kernel
theorem dX11_again_21 : decode cX11_again 21 = .ok (.istore_n 2, 1) := by decide +kernel
theorem dX11_again_22 : decode cX11_again 22 = .ok (.iload_n 2, 1) := by decide +kernel
theorem dX11_again_23 : decode cX11_again 23 = .ok (.sipush 1046, 3) := by decide +kernel
theorem dX11_again_26 : decode cX11_again 26 = .ok (.if_icmp .ge 29, 3) := by decide +kernel
theorem dX11_again_29 : decode cX11_again 29 = .ok (.aload_n 0, 1) := by decide +kernel
theorem dX11_again_30 : decode cX11_again 30 = .ok (.getfield 7, 3) := by decide +kernel
theorem dX11_again_33 : decode cX11_again 33 = .ok (.iload_n 2, 1) := by decide +kernel
theorem dX11_again_34 : decode cX11_again 34 = .ok (.aload_n 0, 1) := by decide +kernel
theorem dX11_again_35 : decode cX11_again 35 = .ok (.getfield 7, 3) := by decide +kernel
theorem dX11_again_38 : decode cX11_again 38 = .ok (.sipush 1046, 3) := by decide +kernel
theorem dX11_again_41 : decode cX11_again 41 = .ok (.iload_n 1, 1) := by decide +kernel
theorem dX11_again_42 : decode cX11_again 42 = .ok (.iconst 1, 1) := by decide +kernel
theorem dX11_again_43 : decode cX11_again 43 = .ok (.iadd, 1) := by decide +kernel
theorem dX11_again_44 : decode cX11_again 44 = .ok (.imul, 1) := by decide +kernel
theorem dX11_again_45 : decode cX11_again 45 = .ok (.iload_n 2, 1) := by decide +kernel
theorem dX11_again_46 : decode cX11_again 46 = .ok (.iadd, 1) := by decide +kernel
theorem dX11_again_47 : decode cX11_again 47 = .ok (.iaload, 1) := by decide +kernel
theorem dX11_again_48 : decode cX11_again 48 = .ok (.iastore, 1) := by decide +kernel
theorem dX11_again_49 : decode cX11_again 49 = .ok (.iinc 2 1, 3) := by decide +kernel
theorem dX11_again_52 : decode cX11_again 52 = .ok (.goto (-30), 3) := by decide +kernel
theorem dX11_again_55 : decode cX11_again 55 = .ok (.iconst 1, 1) := by decide +kernel
theorem dX11_again_56 : decode cX11_again 56 = .ok (.ireturn, 1) := by decide +kernel

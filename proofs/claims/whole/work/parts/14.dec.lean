theorem dX10_right_0 : decode cX10_right 0 = .ok (.aload_n 0, 1) := by decide +kernel
theorem dX10_right_1 : decode cX10_right 1 = .ok (.getfield 122, 3) := by decide +kernel
theorem dX10_right_4 : decode cX10_right 4 = .ok (.ifCond .ne 12, 3) := by decide +kernel
theorem dX10_right_7 : decode cX10_right 7 = .ok (.iload_n 1, 1) := by decide +kernel
theorem dX10_right_8 : decode cX10_right 8 = .ok (.ifCond .ne 8, 3) := by decide +kernel
theorem dX10_right_11 : decode cX10_right 11 = .ok (.aload_n 0, 1) := by decide +kernel
theorem dX10_right_12 : decode cX10_right 12 = .ok (.iload_n 2, 1) := by decide +kernel
theorem dX10_right_13 : decode cX10_right 13 = .ok (.putfield 122, 3) := by decide +kernel
theorem dX10_right_16 : decode cX10_right 16 = .ok (.aload_n 0, 1) := by decide +kernel
theorem dX10_right_17 : decode cX10_right 17 = .ok (.getfield 122, 3) := by decide +kernel
theorem dX10_right_20 : decode cX10_right 20 = .ok (.ifCond .ne 7, 3) := by decide +kernel
theorem dX10_right_23 : decode cX10_right 23 = .ok (.iconst 1, 1) := by decide +kernel
theorem dX10_right_24 : decode cX10_right 24 = .ok (.goto 4, 3) := by decide +kernel
theorem dX10_right_27 : decode cX10_right 27 = .ok (.iconst 0, 1) := by decide +kernel
theorem dX10_right_28 : decode cX10_right 28 = .ok (.ireturn, 1) := by decide +kernel
theorem dX10_adds_0 : decode cX10_adds 0 = .ok (.aload_n 0, 1) := by decide +kernel
theorem dX10_adds_1 : decode cX10_adds 1 = .ok (.getfield 77, 3) := by decide +kernel
theorem dX10_adds_4 : decode cX10_adds 4 = .ok (.aload_n 0, 1) := by decide +kernel
theorem dX10_adds_5 : decode cX10_adds 5 = .ok (.getfield 305, 3) := by decide +kernel
theorem dX10_adds_8 : decode cX10_adds 8 = .ok (.iload_n 1, 1) := by decide +kernel
theorem dX10_adds_9 : decode cX10_adds 9 = .ok (.iastore, 1) := by decide +kernel
theorem dX10_adds_10 : decode cX10_adds 10 = .ok (.aload_n 0, 1) := by decide +kernel
theorem dX10_adds_11 : decode cX10_adds 11 = .ok (.dup, 1) := by decide +kernel
theorem dX10_adds_12 : decode cX10_adds 12 = .ok (.getfield 305, 3) := by decide +kernel
theorem dX10_adds_15 : decode cX10_adds 15 = .ok (.iconst 1, 1) := by decide +kernel
theorem dX10_adds_16 : decode cX10_adds 16 = .ok (.iadd, 1) := by decide +kernel
theorem dX10_adds_17 : decode cX10_adds 17 = .ok (.putfield 305, 3) := by decide +kernel
theorem dX10_adds_20 : decode cX10_adds 20 = .ok (.return_, 1) := by decide +kernel
theorem dX10_ends_0 : decode cX10_ends 0 = .ok (.aload_n 0, 1) := by decide +kernel
theorem dX10_ends_1 : decode cX10_ends 1 = .ok (.getfield 20, 3) := by decide +kernel
theorem dX10_ends_4 : decode cX10_ends 4 = .ok (.bipush 27, 2) := by decide +kernel
theorem dX10_ends_6 : decode cX10_ends 6 = .ok (.iload_n 2, 1) := by decide +kernel
theorem dX10_ends_7 : decode cX10_ends 7 = .ok (.imul, 1) := by decide +kernel
theorem dX10_ends_8 : decode cX10_ends 8 = .ok (.iaload, 1) := by decide +kernel
theorem dX10_ends_9 : decode cX10_ends 9 = .ok (.istore_n 3, 1) := by decide +kernel
theorem dX10_ends_10 : decode cX10_ends 10 = .ok (.aload_n 0, 1) := by decide +kernel
theorem dX10_ends_11 : decode cX10_ends 11 = .ok (.getfield 13, 3) := by decide +kernel
theorem dX10_ends_14 : decode cX10_ends 14 = .ok (.bipush 9, 2) := by decide +kernel
theorem dX10_ends_16 : decode cX10_ends 16 = .ok (.iload_n 1, 1) := by decide +kernel
theorem dX10_ends_17 : decode cX10_ends 17 = .ok (.imul, 1) := by decide +kernel
theorem dX10_ends_18 : decode cX10_ends 18 = .ok (.iaload, 1) := by decide +kernel
theorem dX10_ends_19 : decode cX10_ends 19 = .ok (.istore 4, 2) := by decide +kernel
theorem dX10_ends_21 : decode cX10_ends 21 = .ok (.iload_n 3, 1) := by decide +kernel
theorem dX10_ends_22 : decode cX10_ends 22 = .ok (.iload 4, 2) := by decide +kernel
theorem dX10_ends_24 : decode cX10_ends 24 = .ok (.if_icmp .le 5, 3) := by decide +kernel
theorem dX10_ends_27 : decode cX10_ends 27 = .ok (.iconst 0, 1) := by decide +kernel
theorem dX10_ends_28 : decode cX10_ends 28 = .ok (.ireturn, 1) := by decide +kernel
theorem dX10_ends_29 : decode cX10_ends 29 = .ok (.iconst 0, 1) := by decide +kernel
theorem dX10_ends_30 : decode cX10_ends 30 = .ok (.istore 5, 2) := by decide +kernel
theorem dX10_ends_32 : decode cX10_ends 32 = .ok (.iload 5, 2) := by decide +kernel
theorem dX10_ends_34 : decode cX10_ends 34 = .ok (.iload_n 3, 1) := by decide +kernel
theorem dX10_ends_35 : decode cX10_ends 35 = .ok (.if_icmp .ge 47, 3) := by decide +kernel
theorem dX10_ends_38 : decode cX10_ends 38 = .ok (.aload_n 0, 1) := by decide +kernel
theorem dX10_ends_39 : decode cX10_ends 39 = .ok (.getfield 13, 3) := by decide +kernel
theorem dX10_ends_42 : decode cX10_ends 42 = .ok (.bipush 9, 2) := by decide +kernel
theorem dX10_ends_44 : decode cX10_ends 44 = .ok (.iload_n 1, 1) := by decide +kernel
theorem dX10_ends_45 : decode cX10_ends 45 = .ok (.imul, 1) := by decide +kernel
theorem dX10_ends_46 : decode cX10_ends 46 = .ok (.iconst 1, 1) := by decide +kernel
theorem dX10_ends_47 : decode cX10_ends 47 = .ok (.iadd, 1) := by decide +kernel
theorem dX10_ends_48 : decode cX10_ends 48 = .ok (.iload 4, 2) := by decide +kernel
theorem dX10_ends_50 : decode cX10_ends 50 = .ok (.iadd, 1) := by decide +kernel
theorem dX10_ends_51 : decode cX10_ends 51 = .ok (.iload_n 3, 1) := by decide +kernel
theorem dX10_ends_52 : decode cX10_ends 52 = .ok (.isub, 1) := by decide +kernel
theorem dX10_ends_53 : decode cX10_ends 53 = .ok (.iload 5, 2) := by decide +kernel
theorem dX10_ends_55 : decode cX10_ends 55 = .ok (.iadd, 1) := by decide +kernel
theorem dX10_ends_56 : decode cX10_ends 56 = .ok (.iaload, 1) := by decide +kernel
theorem dX10_ends_57 : decode cX10_ends 57 = .ok (.aload_n 0, 1) := by decide +kernel
theorem dX10_ends_58 : decode cX10_ends 58 = .ok (.getfield 20, 3) := by decide +kernel
theorem dX10_ends_61 : decode cX10_ends 61 = .ok (.bipush 27, 2) := by decide +kernel
theorem dX10_ends_63 : decode cX10_ends 63 = .ok (.iload_n 2, 1) := by decide +kernel
theorem dX10_ends_64 : decode cX10_ends 64 = .ok (.imul, 1) := by decide +kernel
theorem dX10_ends_65 : decode cX10_ends 65 = .ok (.iconst 1, 1) := by decide +kernel
theorem dX10_ends_66 : decode cX10_ends 66 = .ok (.iadd, 1) := by decide +kernel
theorem dX10_ends_67 : decode cX10_ends 67 = .ok (.iload 5, 2) := by decide +kernel
theorem dX10_ends_69 : decode cX10_ends 69 = .ok (.iadd, 1) := by decide +kernel
theorem dX10_ends_70 : decode cX10_ends 70 = .ok (.iaload, 1) := by decide +kernel
theorem dX10_ends_71 : decode cX10_ends 71 = .ok (.if_icmp .eq 5, 3) := by decide +kernel
theorem dX10_ends_74 : decode cX10_ends 74 = .ok (.iconst 0, 1) := by decide +kernel
theorem dX10_ends_75 : decode cX10_ends 75 = .ok (.ireturn, 1) := by decide +kernel
theorem dX10_ends_76 : decode cX10_ends 76 = .ok (.iinc 5 1, 3) := by decide +kernel
theorem dX10_ends_79 : decode cX10_ends 79 = .ok (.goto (-47), 3) := by decide +kernel
theorem dX10_ends_82 : decode cX10_ends 82 = .ok (.iconst 1, 1) := by decide +kernel
theorem dX10_ends_83 : decode cX10_ends 83 = .ok (.ireturn, 1) := by decide +kernel
theorem dX10_begins_0 : decode cX10_begins 0 = .ok (.aload_n 0, 1) := by decide +kernel
theorem dX10_begins_1 : decode cX10_begins 1 = .ok (.getfield 20, 3) := by decide +kernel
theorem dX10_begins_4 : decode cX10_begins 4 = .ok (.bipush 27, 2) := by decide +kernel
theorem dX10_begins_6 : decode cX10_begins 6 = .ok (.iload_n 2, 1) := by decide +kernel
theorem dX10_begins_7 : decode cX10_begins 7 = .ok (.imul, 1) := by decide +kernel
theorem dX10_begins_8 : decode cX10_begins 8 = .ok (.bipush 9, 2) := by decide +kernel
theorem dX10_begins_10 : decode cX10_begins 10 = .ok (.iadd, 1) := by decide +kernel
theorem dX10_begins_11 : decode cX10_begins 11 = .ok (.iaload, 1) := by decide +kernel
theorem dX10_begins_12 : decode cX10_begins 12 = .ok (.istore_n 3, 1) := by decide +kernel
theorem dX10_begins_13 : decode cX10_begins 13 = .ok (.iload_n 3, 1) := by decide +kernel
theorem dX10_begins_14 : decode cX10_begins 14 = .ok (.aload_n 0, 1) := by decide +kernel
theorem dX10_begins_15 : decode cX10_begins 15 = .ok (.getfield 17, 3) := by decide +kernel
theorem dX10_begins_18 : decode cX10_begins 18 = .ok (.bipush 9, 2) := by decide +kernel
theorem dX10_begins_20 : decode cX10_begins 20 = .ok (.iload_n 1, 1) := by decide +kernel
theorem dX10_begins_21 : decode cX10_begins 21 = .ok (.imul, 1) := by decide +kernel
theorem dX10_begins_22 : decode cX10_begins 22 = .ok (.iaload, 1) := by decide +kernel
theorem dX10_begins_23 : decode cX10_begins 23 = .ok (.if_icmp .le 5, 3) := by decide +kernel
theorem dX10_begins_26 : decode cX10_begins 26 = .ok (.iconst 0, 1) := by decide +kernel
theorem dX10_begins_27 : decode cX10_begins 27 = .ok (.ireturn, 1) := by decide +kernel
theorem dX10_begins_28 : decode cX10_begins 28 = .ok (.iconst 0, 1) := by decide +kernel
theorem dX10_begins_29 : decode cX10_begins 29 = .ok (.istore 4, 2) := by decide +kernel
theorem dX10_begins_31 : decode cX10_begins 31 = .ok (.iload 4, 2) := by decide +kernel
theorem dX10_begins_33 : decode cX10_begins 33 = .ok (.iload_n 3, 1) := by decide +kernel
theorem dX10_begins_34 : decode cX10_begins 34 = .ok (.if_icmp .ge 43, 3) := by decide +kernel
theorem dX10_begins_37 : decode cX10_begins 37 = .ok (.aload_n 0, 1) := by decide +kernel
theorem dX10_begins_38 : decode cX10_begins 38 = .ok (.getfield 17, 3) := by decide +kernel
theorem dX10_begins_41 : decode cX10_begins 41 = .ok (.bipush 9, 2) := by decide +kernel
theorem dX10_begins_43 : decode cX10_begins 43 = .ok (.iload_n 1, 1) := by decide +kernel
theorem dX10_begins_44 : decode cX10_begins 44 = .ok (.imul, 1) := by decide +kernel
theorem dX10_begins_45 : decode cX10_begins 45 = .ok (.iconst 1, 1) := by decide +kernel
theorem dX10_begins_46 : decode cX10_begins 46 = .ok (.iadd, 1) := by decide +kernel
theorem dX10_begins_47 : decode cX10_begins 47 = .ok (.iload 4, 2) := by decide +kernel
theorem dX10_begins_49 : decode cX10_begins 49 = .ok (.iadd, 1) := by decide +kernel
theorem dX10_begins_50 : decode cX10_begins 50 = .ok (.iaload, 1) := by decide +kernel
theorem dX10_begins_51 : decode cX10_begins 51 = .ok (.aload_n 0, 1) := by decide +kernel
theorem dX10_begins_52 : decode cX10_begins 52 = .ok (.getfield 20, 3) := by decide +kernel
theorem dX10_begins_55 : decode cX10_begins 55 = .ok (.bipush 27, 2) := by decide +kernel
theorem dX10_begins_57 : decode cX10_begins 57 = .ok (.iload_n 2, 1) := by decide +kernel
theorem dX10_begins_58 : decode cX10_begins 58 = .ok (.imul, 1) := by decide +kernel
theorem dX10_begins_59 : decode cX10_begins 59 = .ok (.bipush 10, 2) := by decide +kernel
theorem dX10_begins_61 : decode cX10_begins 61 = .ok (.iadd, 1) := by decide +kernel
theorem dX10_begins_62 : decode cX10_begins 62 = .ok (.iload 4, 2) := by decide +kernel
theorem dX10_begins_64 : decode cX10_begins 64 = .ok (.iadd, 1) := by decide +kernel
theorem dX10_begins_65 : decode cX10_begins 65 = .ok (.iaload, 1) := by decide +kernel
theorem dX10_begins_66 : decode cX10_begins 66 = .ok (.if_icmp .eq 5, 3) := by decide +kernel
theorem dX10_begins_69 : decode cX10_begins 69 = .ok (.iconst 0, 1) := by decide +kernel
theorem dX10_begins_70 : decode cX10_begins 70 = .ok (.ireturn, 1) := by decide +kernel
theorem dX10_begins_71 : decode cX10_begins 71 = .ok (.iinc 4 1, 3) := by decide +kernel
theorem dX10_begins_74 : decode cX10_begins 74 = .ok (.goto (-43), 3) := by decide +kernel
theorem dX10_begins_77 : decode cX10_begins 77 = .ok (.iconst 1, 1) := by decide +kernel
theorem dX10_begins_78 : decode cX10_begins 78 = .ok (.ireturn, 1) := by decide +kernel
theorem dX10_speaks_0 : decode cX10_speaks 0 = .ok (.aload_n 0, 1) := by decide +kernel
theorem dX10_speaks_1 : decode cX10_speaks 1 = .ok (.iconst 0, 1) := by decide +kernel
theorem dX10_speaks_2 : decode cX10_speaks 2 = .ok (.putfield 305, 3) := by decide +kernel
theorem dX10_speaks_5 : decode cX10_speaks 5 = .ok (.aload_n 0, 1) := by decide +kernel
theorem dX10_speaks_6 : decode cX10_speaks 6 = .ok (.getfield 17, 3) := by decide +kernel
theorem dX10_speaks_9 : decode cX10_speaks 9 = .ok (.bipush 9, 2) := by decide +kernel
theorem dX10_speaks_11 : decode cX10_speaks 11 = .ok (.iload_n 2, 1) := by decide +kernel
theorem dX10_speaks_12 : decode cX10_speaks 12 = .ok (.imul, 1) := by decide +kernel
theorem dX10_speaks_13 : decode cX10_speaks 13 = .ok (.iaload, 1) := by decide +kernel
theorem dX10_speaks_14 : decode cX10_speaks 14 = .ok (.ifCond .ne 4, 3) := by decide +kernel
theorem dX10_speaks_17 : decode cX10_speaks 17 = .ok (.return_, 1) := by decide +kernel
theorem dX10_speaks_18 : decode cX10_speaks 18 = .ok (.iconst 0, 1) := by decide +kernel
theorem dX10_speaks_19 : decode cX10_speaks 19 = .ok (.istore_n 3, 1) := by decide +kernel
theorem dX10_speaks_20 : decode cX10_speaks 20 = .ok (.iload_n 3, 1) := by decide +kernel
theorem dX10_speaks_21 : decode cX10_speaks 21 = .ok (.aload_n 0, 1) := by decide +kernel
theorem dX10_speaks_22 : decode cX10_speaks 22 = .ok (.getfield 263, 3) := by decide +kernel
theorem dX10_speaks_25 : decode cX10_speaks 25 = .ok (.if_icmp .ge 27, 3) := by decide +kernel
theorem dX10_speaks_28 : decode cX10_speaks 28 = .ok (.aload_n 0, 1) := by decide +kernel
theorem dX10_speaks_29 : decode cX10_speaks 29 = .ok (.iload_n 1, 1) := by decide +kernel
theorem dX10_speaks_30 : decode cX10_speaks 30 = .ok (.iload_n 3, 1) := by decide +kernel
theorem dX10_speaks_31 : decode cX10_speaks 31 = .ok (.invokevirtual 308, 3) := by decide +kernel
theorem dX10_speaks_34 : decode cX10_speaks 34 = .ok (.ifCond .eq 12, 3) := by decide +kernel
theorem dX10_speaks_37 : decode cX10_speaks 37 = .ok (.aload_n 0, 1) := by decide +kernel
theorem dX10_speaks_38 : decode cX10_speaks 38 = .ok (.iload_n 2, 1) := by decide +kernel
theorem dX10_speaks_39 : decode cX10_speaks 39 = .ok (.iload_n 3, 1) := by decide +kernel
theorem dX10_speaks_40 : decode cX10_speaks 40 = .ok (.invokevirtual 311, 3) := by decide +kernel
theorem dX10_speaks_43 : decode cX10_speaks 43 = .ok (.ifCond .ne 9, 3) := by decide +kernel
theorem dX10_speaks_46 : decode cX10_speaks 46 = .ok (.iinc 3 1, 3) := by decide +kernel
theorem dX10_speaks_49 : decode cX10_speaks 49 = .ok (.goto (-29), 3) := by decide +kernel
theorem dX10_speaks_52 : decode cX10_speaks 52 = .ok (.iload_n 3, 1) := by decide +kernel
theorem dX10_speaks_53 : decode cX10_speaks 53 = .ok (.aload_n 0, 1) := by decide +kernel
theorem dX10_speaks_54 : decode cX10_speaks 54 = .ok (.getfield 263, 3) := by decide +kernel
theorem dX10_speaks_57 : decode cX10_speaks 57 = .ok (.if_icmp .ne 7, 3) := by decide +kernel
theorem dX10_speaks_60 : decode cX10_speaks 60 = .ok (.iconst 0, 1) := by decide +kernel
theorem dX10_speaks_61 : decode cX10_speaks 61 = .ok (.goto 12, 3) := by decide +kernel
theorem dX10_speaks_64 : decode cX10_speaks 64 = .ok (.aload_n 0, 1) := by decide +kernel
theorem dX10_speaks_65 : decode cX10_speaks 65 = .ok (.getfield 20, 3) := by decide +kernel
theorem dX10_speaks_68 : decode cX10_speaks 68 = .ok (.bipush 27, 2) := by decide +kernel
theorem dX10_speaks_70 : decode cX10_speaks 70 = .ok (.iload_n 3, 1) := by decide +kernel
theorem dX10_speaks_71 : decode cX10_speaks 71 = .ok (.imul, 1) := by decide +kernel
theorem dX10_speaks_72 : decode cX10_speaks 72 = .ok (.iaload, 1) := by decide +kernel
theorem dX10_speaks_73 : decode cX10_speaks 73 = .ok (.istore 4, 2) := by decide +kernel
theorem dX10_speaks_75 : decode cX10_speaks 75 = .ok (.iload_n 3, 1) := by decide +kernel
theorem dX10_speaks_76 : decode cX10_speaks 76 = .ok (.aload_n 0, 1) := by decide +kernel
theorem dX10_speaks_77 : decode cX10_speaks 77 = .ok (.getfield 263, 3) := by decide +kernel
theorem dX10_speaks_80 : decode cX10_speaks 80 = .ok (.if_icmp .ne 7, 3) := by decide +kernel
theorem dX10_speaks_83 : decode cX10_speaks 83 = .ok (.iconst 0, 1) := by decide +kernel
theorem dX10_speaks_84 : decode cX10_speaks 84 = .ok (.goto 15, 3) := by decide +kernel
theorem dX10_speaks_87 : decode cX10_speaks 87 = .ok (.aload_n 0, 1) := by decide +kernel
theorem dX10_speaks_88 : decode cX10_speaks 88 = .ok (.getfield 20, 3) := by decide +kernel
theorem dX10_speaks_91 : decode cX10_speaks 91 = .ok (.bipush 27, 2) := by decide +kernel
theorem dX10_speaks_93 : decode cX10_speaks 93 = .ok (.iload_n 3, 1) := by decide +kernel
theorem dX10_speaks_94 : decode cX10_speaks 94 = .ok (.imul, 1) := by decide +kernel
theorem dX10_speaks_95 : decode cX10_speaks 95 = .ok (.bipush 9, 2) := by decide +kernel
theorem dX10_speaks_97 : decode cX10_speaks 97 = .ok (.iadd, 1) := by decide +kernel
theorem dX10_speaks_98 : decode cX10_speaks 98 = .ok (.iaload, 1) := by decide +kernel
theorem dX10_speaks_99 : decode cX10_speaks 99 = .ok (.istore 5, 2) := by decide +kernel
theorem dX10_speaks_101 : decode cX10_speaks 101 = .ok (.iconst 0, 1) := by decide +kernel
theorem dX10_speaks_102 : decode cX10_speaks 102 = .ok (.istore 6, 2) := by decide +kernel
theorem dX10_speaks_104 : decode cX10_speaks 104 = .ok (.iload 6, 2) := by decide +kernel
theorem dX10_speaks_106 : decode cX10_speaks 106 = .ok (.aload_n 0, 1) := by decide +kernel
theorem dX10_speaks_107 : decode cX10_speaks 107 = .ok (.getfield 13, 3) := by decide +kernel
theorem dX10_speaks_110 : decode cX10_speaks 110 = .ok (.bipush 9, 2) := by decide +kernel
theorem dX10_speaks_112 : decode cX10_speaks 112 = .ok (.iload_n 1, 1) := by decide +kernel
theorem dX10_speaks_113 : decode cX10_speaks 113 = .ok (.imul, 1) := by decide +kernel
theorem dX10_speaks_114 : decode cX10_speaks 114 = .ok (.iaload, 1) := by decide +kernel
theorem dX10_speaks_115 : decode cX10_speaks 115 = .ok (.iload 4, 2) := by decide +kernel
theorem dX10_speaks_117 : decode cX10_speaks 117 = .ok (.isub, 1) := by decide +kernel
theorem dX10_speaks_118 : decode cX10_speaks 118 = .ok (.if_icmp .ge 27, 3) := by decide +kernel
theorem dX10_speaks_121 : decode cX10_speaks 121 = .ok (.aload_n 0, 1) := by decide +kernel
theorem dX10_speaks_122 : decode cX10_speaks 122 = .ok (.aload_n 0, 1) := by decide +kernel
theorem dX10_speaks_123 : decode cX10_speaks 123 = .ok (.getfield 13, 3) := by decide +kernel
theorem dX10_speaks_126 : decode cX10_speaks 126 = .ok (.bipush 9, 2) := by decide +kernel
theorem dX10_speaks_128 : decode cX10_speaks 128 = .ok (.iload_n 1, 1) := by decide +kernel
theorem dX10_speaks_129 : decode cX10_speaks 129 = .ok (.imul, 1) := by decide +kernel
theorem dX10_speaks_130 : decode cX10_speaks 130 = .ok (.iconst 1, 1) := by decide +kernel
theorem dX10_speaks_131 : decode cX10_speaks 131 = .ok (.iadd, 1) := by decide +kernel
theorem dX10_speaks_132 : decode cX10_speaks 132 = .ok (.iload 6, 2) := by decide +kernel
theorem dX10_speaks_134 : decode cX10_speaks 134 = .ok (.iadd, 1) := by decide +kernel
theorem dX10_speaks_135 : decode cX10_speaks 135 = .ok (.iaload, 1) := by decide +kernel
theorem dX10_speaks_136 : decode cX10_speaks 136 = .ok (.invokevirtual 314, 3) := by decide +kernel
theorem dX10_speaks_139 : decode cX10_speaks 139 = .ok (.iinc 6 1, 3) := by decide +kernel
theorem dX10_speaks_142 : decode cX10_speaks 142 = .ok (.goto (-38), 3) := by decide +kernel
theorem dX10_speaks_145 : decode cX10_speaks 145 = .ok (.iconst 0, 1) := by decide +kernel
theorem dX10_speaks_146 : decode cX10_speaks 146 = .ok (.istore 6, 2) := by decide +kernel
theorem dX10_speaks_148 : decode cX10_speaks 148 = .ok (.iload_n 3, 1) := by decide +kernel
theorem dX10_speaks_149 : decode cX10_speaks 149 = .ok (.aload_n 0, 1) := by decide +kernel
theorem dX10_speaks_150 : decode cX10_speaks 150 = .ok (.getfield 263, 3) := by decide +kernel
theorem dX10_speaks_153 : decode cX10_speaks 153 = .ok (.if_icmp .ge 45, 3) := by decide +kernel
theorem dX10_speaks_156 : decode cX10_speaks 156 = .ok (.iload 6, 2) := by decide +kernel
theorem dX10_speaks_158 : decode cX10_speaks 158 = .ok (.aload_n 0, 1) := by decide +kernel
theorem dX10_speaks_159 : decode cX10_speaks 159 = .ok (.getfield 20, 3) := by decide +kernel
theorem dX10_speaks_162 : decode cX10_speaks 162 = .ok (.bipush 27, 2) := by decide +kernel
theorem dX10_speaks_164 : decode cX10_speaks 164 = .ok (.iload_n 3, 1) := by decide +kernel
theorem dX10_speaks_165 : decode cX10_speaks 165 = .ok (.imul, 1) := by decide +kernel
theorem dX10_speaks_166 : decode cX10_speaks 166 = .ok (.bipush 18, 2) := by decide +kernel
theorem dX10_speaks_168 : decode cX10_speaks 168 = .ok (.iadd, 1) := by decide +kernel
theorem dX10_speaks_169 : decode cX10_speaks 169 = .ok (.iaload, 1) := by decide +kernel
theorem dX10_speaks_170 : decode cX10_speaks 170 = .ok (.if_icmp .ge 28, 3) := by decide +kernel
theorem dX10_speaks_173 : decode cX10_speaks 173 = .ok (.aload_n 0, 1) := by decide +kernel
theorem dX10_speaks_174 : decode cX10_speaks 174 = .ok (.aload_n 0, 1) := by decide +kernel
theorem dX10_speaks_175 : decode cX10_speaks 175 = .ok (.getfield 20, 3) := by decide +kernel
theorem dX10_speaks_178 : decode cX10_speaks 178 = .ok (.bipush 27, 2) := by decide +kernel
theorem dX10_speaks_180 : decode cX10_speaks 180 = .ok (.iload_n 3, 1) := by decide +kernel
theorem dX10_speaks_181 : decode cX10_speaks 181 = .ok (.imul, 1) := by decide +kernel
theorem dX10_speaks_182 : decode cX10_speaks 182 = .ok (.bipush 19, 2) := by decide +kernel
theorem dX10_speaks_184 : decode cX10_speaks 184 = .ok (.iadd, 1) := by decide +kernel
theorem dX10_speaks_185 : decode cX10_speaks 185 = .ok (.iload 6, 2) := by decide +kernel
theorem dX10_speaks_187 : decode cX10_speaks 187 = .ok (.iadd, 1) := by decide +kernel
theorem dX10_speaks_188 : decode cX10_speaks 188 = .ok (.iaload, 1) := by decide +kernel
theorem dX10_speaks_189 : decode cX10_speaks 189 = .ok (.invokevirtual 314, 3) := by decide +kernel
theorem dX10_speaks_192 : decode cX10_speaks 192 = .ok (.iinc 6 1, 3) := by decide +kernel
theorem dX10_speaks_195 : decode cX10_speaks 195 = .ok (.goto (-47), 3) := by decide +kernel
theorem dX10_speaks_198 : decode cX10_speaks 198 = .ok (.iload 5, 2) := by decide +kernel
theorem dX10_speaks_200 : decode cX10_speaks 200 = .ok (.istore 6, 2) := by decide +kernel
theorem dX10_speaks_202 : decode cX10_speaks 202 = .ok (.iload 6, 2) := by decide +kernel
theorem dX10_speaks_204 : decode cX10_speaks 204 = .ok (.aload_n 0, 1) := by decide +kernel
theorem dX10_speaks_205 : decode cX10_speaks 205 = .ok (.getfield 17, 3) := by decide +kernel
theorem dX10_speaks_208 : decode cX10_speaks 208 = .ok (.bipush 9, 2) := by decide +kernel
theorem dX10_speaks_210 : decode cX10_speaks 210 = .ok (.iload_n 2, 1) := by decide +kernel
theorem dX10_speaks_211 : decode cX10_speaks 211 = .ok (.imul, 1) := by decide +kernel
theorem dX10_speaks_212 : decode cX10_speaks 212 = .ok (.iaload, 1) := by decide +kernel
theorem dX10_speaks_213 : decode cX10_speaks 213 = .ok (.if_icmp .ge 27, 3) := by decide +kernel
theorem dX10_speaks_216 : decode cX10_speaks 216 = .ok (.aload_n 0, 1) := by decide +kernel
theorem dX10_speaks_217 : decode cX10_speaks 217 = .ok (.aload_n 0, 1) := by decide +kernel
theorem dX10_speaks_218 : decode cX10_speaks 218 = .ok (.getfield 17, 3) := by decide +kernel
theorem dX10_speaks_221 : decode cX10_speaks 221 = .ok (.bipush 9, 2) := by decide +kernel
theorem dX10_speaks_223 : decode cX10_speaks 223 = .ok (.iload_n 2, 1) := by decide +kernel
theorem dX10_speaks_224 : decode cX10_speaks 224 = .ok (.imul, 1) := by decide +kernel
theorem dX10_speaks_225 : decode cX10_speaks 225 = .ok (.iconst 1, 1) := by decide +kernel
theorem dX10_speaks_226 : decode cX10_speaks 226 = .ok (.iadd, 1) := by decide +kernel
theorem dX10_speaks_227 : decode cX10_speaks 227 = .ok (.iload 6, 2) := by decide +kernel
theorem dX10_speaks_229 : decode cX10_speaks 229 = .ok (.iadd, 1) := by decide +kernel
theorem dX10_speaks_230 : decode cX10_speaks 230 = .ok (.iaload, 1) := by decide +kernel
theorem dX10_speaks_231 : decode cX10_speaks 231 = .ok (.invokevirtual 314, 3) := by decide +kernel
theorem dX10_speaks_234 : decode cX10_speaks 234 = .ok (.iinc 6 1, 3) := by decide +kernel
theorem dX10_speaks_237 : decode cX10_speaks 237 = .ok (.goto (-35), 3) := by decide +kernel
theorem dX10_speaks_240 : decode cX10_speaks 240 = .ok (.return_, 1) := by decide +kernel
theorem dX10_finds_0 : decode cX10_finds 0 = .ok (.aload_n 0, 1) := by decide +kernel
theorem dX10_finds_1 : decode cX10_finds 1 = .ok (.iconst 0, 1) := by decide +kernel
theorem dX10_finds_2 : decode cX10_finds 2 = .ok (.putfield 321, 3) := by decide +kernel
theorem dX10_finds_5 : decode cX10_finds 5 = .ok (.iconst 0, 1) := by decide +kernel
theorem dX10_finds_6 : decode cX10_finds 6 = .ok (.istore_n 3, 1) := by decide +kernel
theorem dX10_finds_7 : decode cX10_finds 7 = .ok (.iload_n 3, 1) := by decide +kernel
theorem dX10_finds_8 : decode cX10_finds 8 = .ok (.bipush 15, 2) := by decide +kernel
theorem dX10_finds_10 : decode cX10_finds 10 = .ok (.aload_n 0, 1) := by decide +kernel
theorem dX10_finds_11 : decode cX10_finds 11 = .ok (.getfield 260, 3) := by decide +kernel
theorem dX10_finds_14 : decode cX10_finds 14 = .ok (.imul, 1) := by decide +kernel
theorem dX10_finds_15 : decode cX10_finds 15 = .ok (.if_icmp .ge 122, 3) := by decide +kernel
theorem dX10_finds_18 : decode cX10_finds 18 = .ok (.aload_n 0, 1) := by decide +kernel
theorem dX10_finds_19 : decode cX10_finds 19 = .ok (.iload_n 3, 1) := by decide +kernel
theorem dX10_finds_20 : decode cX10_finds 20 = .ok (.bipush 15, 2) := by decide +kernel
theorem dX10_finds_22 : decode cX10_finds 22 = .ok (.idiv, 1) := by decide +kernel
theorem dX10_finds_23 : decode cX10_finds 23 = .ok (.iload_n 3, 1) := by decide +kernel
theorem dX10_finds_24 : decode cX10_finds 24 = .ok (.bipush 15, 2) := by decide +kernel
theorem dX10_finds_26 : decode cX10_finds 26 = .ok (.irem, 1) := by decide +kernel
theorem dX10_finds_27 : decode cX10_finds 27 = .ok (.invokevirtual 317, 3) := by decide +kernel
theorem dX10_finds_30 : decode cX10_finds 30 = .ok (.aload_n 0, 1) := by decide +kernel
theorem dX10_finds_31 : decode cX10_finds 31 = .ok (.getfield 305, 3) := by decide +kernel
theorem dX10_finds_34 : decode cX10_finds 34 = .ok (.ifCond .le 17, 3) := by decide +kernel
theorem dX10_finds_37 : decode cX10_finds 37 = .ok (.aload_n 0, 1) := by decide +kernel
theorem dX10_finds_38 : decode cX10_finds 38 = .ok (.getfield 305, 3) := by decide +kernel
theorem dX10_finds_41 : decode cX10_finds 41 = .ok (.iload_n 2, 1) := by decide +kernel
theorem dX10_finds_42 : decode cX10_finds 42 = .ok (.iload_n 1, 1) := by decide +kernel
theorem dX10_finds_43 : decode cX10_finds 43 = .ok (.isub, 1) := by decide +kernel
theorem dX10_finds_44 : decode cX10_finds 44 = .ok (.if_icmp .ne 7, 3) := by decide +kernel
theorem dX10_finds_47 : decode cX10_finds 47 = .ok (.iconst 1, 1) := by decide +kernel
theorem dX10_finds_48 : decode cX10_finds 48 = .ok (.goto 4, 3) := by decide +kernel
theorem dX10_finds_51 : decode cX10_finds 51 = .ok (.iconst 0, 1) := by decide +kernel
theorem dX10_finds_52 : decode cX10_finds 52 = .ok (.istore 4, 2) := by decide +kernel
theorem dX10_finds_54 : decode cX10_finds 54 = .ok (.iconst 0, 1) := by decide +kernel
theorem dX10_finds_55 : decode cX10_finds 55 = .ok (.istore 5, 2) := by decide +kernel
theorem dX10_finds_57 : decode cX10_finds 57 = .ok (.iload 4, 2) := by decide +kernel
theorem dX10_finds_59 : decode cX10_finds 59 = .ok (.ifCond .eq 44, 3) := by decide +kernel
theorem dX10_finds_62 : decode cX10_finds 62 = .ok (.iload 5, 2) := by decide +kernel
theorem dX10_finds_64 : decode cX10_finds 64 = .ok (.aload_n 0, 1) := by decide +kernel
theorem dX10_finds_65 : decode cX10_finds 65 = .ok (.getfield 305, 3) := by decide +kernel
theorem dX10_finds_68 : decode cX10_finds 68 = .ok (.if_icmp .ge 35, 3) := by decide +kernel
theorem dX10_finds_71 : decode cX10_finds 71 = .ok (.aload_n 0, 1) := by decide +kernel
theorem dX10_finds_72 : decode cX10_finds 72 = .ok (.getfield 77, 3) := by decide +kernel
theorem dX10_finds_75 : decode cX10_finds 75 = .ok (.iload 5, 2) := by decide +kernel
theorem dX10_finds_77 : decode cX10_finds 77 = .ok (.iaload, 1) := by decide +kernel
theorem dX10_finds_78 : decode cX10_finds 78 = .ok (.aload_n 0, 1) := by decide +kernel
theorem dX10_finds_79 : decode cX10_finds 79 = .ok (.getfield 41, 3) := by decide +kernel
theorem dX10_finds_82 : decode cX10_finds 82 = .ok (.iload_n 1, 1) := by decide +kernel
theorem dX10_finds_83 : decode cX10_finds 83 = .ok (.iload 5, 2) := by decide +kernel
theorem dX10_finds_85 : decode cX10_finds 85 = .ok (.iadd, 1) := by decide +kernel
theorem dX10_finds_86 : decode cX10_finds 86 = .ok (.iaload, 1) := by decide +kernel
theorem dX10_finds_87 : decode cX10_finds 87 = .ok (.if_icmp .ne 7, 3) := by decide +kernel
theorem dX10_finds_90 : decode cX10_finds 90 = .ok (.iconst 1, 1) := by decide +kernel
theorem dX10_finds_91 : decode cX10_finds 91 = .ok (.goto 4, 3) := by decide +kernel
theorem dX10_finds_94 : decode cX10_finds 94 = .ok (.iconst 0, 1) := by decide +kernel
theorem dX10_finds_95 : decode cX10_finds 95 = .ok (.istore 4, 2) := by decide +kernel
theorem dX10_finds_97 : decode cX10_finds 97 = .ok (.iinc 5 1, 3) := by decide +kernel
theorem dX10_finds_100 : decode cX10_finds 100 = .ok (.goto (-43), 3) := by decide +kernel
theorem dX10_finds_103 : decode cX10_finds 103 = .ok (.iload 4, 2) := by decide +kernel
theorem dX10_finds_105 : decode cX10_finds 105 = .ok (.ifCond .ne 6, 3) := by decide +kernel
theorem dX10_finds_108 : decode cX10_finds 108 = .ok (.goto 23, 3) := by decide +kernel
theorem dX10_finds_111 : decode cX10_finds 111 = .ok (.aload_n 0, 1) := by decide +kernel
theorem dX10_finds_112 : decode cX10_finds 112 = .ok (.getfield 80, 3) := by decide +kernel
theorem dX10_finds_115 : decode cX10_finds 115 = .ok (.aload_n 0, 1) := by decide +kernel
theorem dX10_finds_116 : decode cX10_finds 116 = .ok (.getfield 321, 3) := by decide +kernel
theorem dX10_finds_119 : decode cX10_finds 119 = .ok (.iload_n 3, 1) := by decide +kernel
theorem dX10_finds_120 : decode cX10_finds 120 = .ok (.iastore, 1) := by decide +kernel
theorem dX10_finds_121 : decode cX10_finds 121 = .ok (.aload_n 0, 1) := by decide +kernel
theorem dX10_finds_122 : decode cX10_finds 122 = .ok (.dup, 1) := by decide +kernel
theorem dX10_finds_123 : decode cX10_finds 123 = .ok (.getfield 321, 3) := by decide +kernel
theorem dX10_finds_126 : decode cX10_finds 126 = .ok (.iconst 1, 1) := by decide +kernel
theorem dX10_finds_127 : decode cX10_finds 127 = .ok (.iadd, 1) := by decide +kernel
theorem dX10_finds_128 : decode cX10_finds 128 = .ok (.putfield 321, 3) := by decide +kernel
theorem dX10_finds_131 : decode cX10_finds 131 = .ok (.iinc 3 1, 3) := by decide +kernel
theorem dX10_finds_134 : decode cX10_finds 134 = .ok (.goto (-127), 3) := by decide +kernel
theorem dX10_finds_137 : decode cX10_finds 137 = .ok (.return_, 1) := by decide +kernel
theorem dX10_apart_0 : decode cX10_apart 0 = .ok (.aload_n 0, 1) := by decide +kernel
theorem dX10_apart_1 : decode cX10_apart 1 = .ok (.iconst 0, 1) := by decide +kernel
theorem dX10_apart_2 : decode cX10_apart 2 = .ok (.putfield 122, 3) := by decide +kernel
theorem dX10_apart_5 : decode cX10_apart 5 = .ok (.aload_n 0, 1) := by decide +kernel
theorem dX10_apart_6 : decode cX10_apart 6 = .ok (.iload_n 1, 1) := by decide +kernel
theorem dX10_apart_7 : decode cX10_apart 7 = .ok (.ifCond .lt 15, 3) := by decide +kernel
theorem dX10_apart_10 : decode cX10_apart 10 = .ok (.iload_n 1, 1) := by decide +kernel
theorem dX10_apart_11 : decode cX10_apart 11 = .ok (.aload_n 0, 1) := by decide +kernel
theorem dX10_apart_12 : decode cX10_apart 12 = .ok (.getfield 125, 3) := by decide +kernel
theorem dX10_apart_15 : decode cX10_apart 15 = .ok (.if_icmp .gt 7, 3) := by decide +kernel
theorem dX10_apart_18 : decode cX10_apart 18 = .ok (.iconst 1, 1) := by decide +kernel
theorem dX10_apart_19 : decode cX10_apart 19 = .ok (.goto 4, 3) := by decide +kernel
theorem dX10_apart_22 : decode cX10_apart 22 = .ok (.iconst 0, 1) := by decide +kernel
theorem dX10_apart_23 : decode cX10_apart 23 = .ok (.iconst 1, 1) := by decide +kernel
theorem dX10_apart_24 : decode cX10_apart 24 = .ok (.invokevirtual 250, 3) := by decide +kernel
theorem dX10_apart_27 : decode cX10_apart 27 = .ok (.ifCond .ne 5, 3) := by decide +kernel
theorem dX10_apart_30 : decode cX10_apart 30 = .ok (.iconst 0, 1) := by decide +kernel
theorem dX10_apart_31 : decode cX10_apart 31 = .ok (.ireturn, 1) := by decide +kernel
theorem dX10_apart_32 : decode cX10_apart 32 = .ok (.aload_n 0, 1) := by decide +kernel
theorem dX10_apart_33 : decode cX10_apart 33 = .ok (.iconst 0, 1) := by decide +kernel
theorem dX10_apart_34 : decode cX10_apart 34 = .ok (.putfield 125, 3) := by decide +kernel
theorem dX10_apart_37 : decode cX10_apart 37 = .ok (.aload_n 0, 1) := by decide +kernel
theorem dX10_apart_38 : decode cX10_apart 38 = .ok (.iconst 0, 1) := by decide +kernel
theorem dX10_apart_39 : decode cX10_apart 39 = .ok (.iload_n 1, 1) := by decide +kernel
theorem dX10_apart_40 : decode cX10_apart 40 = .ok (.invokevirtual 324, 3) := by decide +kernel
theorem dX10_apart_43 : decode cX10_apart 43 = .ok (.aload_n 0, 1) := by decide +kernel
theorem dX10_apart_44 : decode cX10_apart 44 = .ok (.getfield 321, 3) := by decide +kernel
theorem dX10_apart_47 : decode cX10_apart 47 = .ok (.ireturn, 1) := by decide +kernel
theorem dX10_within_0 : decode cX10_within 0 = .ok (.iload_n 0, 1) := by decide +kernel
theorem dX10_within_1 : decode cX10_within 1 = .ok (.iload_n 1, 1) := by decide +kernel
theorem dX10_within_2 : decode cX10_within 2 = .ok (.if_icmp .lt 12, 3) := by decide +kernel
theorem dX10_within_5 : decode cX10_within 5 = .ok (.iload_n 0, 1) := by decide +kernel
theorem dX10_within_6 : decode cX10_within 6 = .ok (.iload_n 2, 1) := by decide +kernel
theorem dX10_within_7 : decode cX10_within 7 = .ok (.if_icmp .gt 7, 3) := by decide +kernel
theorem dX10_within_10 : decode cX10_within 10 = .ok (.iconst 1, 1) := by decide +kernel
theorem dX10_within_11 : decode cX10_within 11 = .ok (.goto 4, 3) := by decide +kernel
theorem dX10_within_14 : decode cX10_within 14 = .ok (.iconst 0, 1) := by decide +kernel
theorem dX10_within_15 : decode cX10_within 15 = .ok (.ireturn, 1) := by decide +kernel
theorem dX10_isWho_0 : decode cX10_isWho 0 = .ok (.aload_n 0, 1) := by decide +kernel
theorem dX10_isWho_1 : decode cX10_isWho 1 = .ok (.iload_n 1, 1) := by decide +kernel
theorem dX10_isWho_2 : decode cX10_isWho 2 = .ok (.ifCond .lt 25, 3) := by decide +kernel
theorem dX10_isWho_5 : decode cX10_isWho 5 = .ok (.iload_n 1, 1) := by decide +kernel
theorem dX10_isWho_6 : decode cX10_isWho 6 = .ok (.aload_n 0, 1) := by decide +kernel
theorem dX10_isWho_7 : decode cX10_isWho 7 = .ok (.getfield 266, 3) := by decide +kernel
theorem dX10_isWho_10 : decode cX10_isWho 10 = .ok (.if_icmp .ge 17, 3) := by decide +kernel
theorem dX10_isWho_13 : decode cX10_isWho 13 = .ok (.iload_n 2, 1) := by decide +kernel
theorem dX10_isWho_14 : decode cX10_isWho 14 = .ok (.iconst 0, 1) := by decide +kernel
theorem dX10_isWho_15 : decode cX10_isWho 15 = .ok (.bipush 23, 2) := by decide +kernel
theorem dX10_isWho_17 : decode cX10_isWho 17 = .ok (.invokestatic 291, 3) := by decide +kernel
theorem dX10_isWho_20 : decode cX10_isWho 20 = .ok (.ifCond .eq 7, 3) := by decide +kernel
theorem dX10_isWho_23 : decode cX10_isWho 23 = .ok (.iconst 1, 1) := by decide +kernel
theorem dX10_isWho_24 : decode cX10_isWho 24 = .ok (.goto 4, 3) := by decide +kernel
theorem dX10_isWho_27 : decode cX10_isWho 27 = .ok (.iconst 0, 1) := by decide +kernel
theorem dX10_isWho_28 : decode cX10_isWho 28 = .ok (.iconst 1, 1) := by decide +kernel
theorem dX10_isWho_29 : decode cX10_isWho 29 = .ok (.invokevirtual 250, 3) := by decide +kernel
theorem dX10_isWho_32 : decode cX10_isWho 32 = .ok (.ireturn, 1) := by decide +kernel
theorem dX10_isThing_0 : decode cX10_isThing 0 = .ok (.aload_n 0, 1) := by decide +kernel
theorem dX10_isThing_1 : decode cX10_isThing 1 = .ok (.iload_n 1, 1) := by decide +kernel
theorem dX10_isThing_2 : decode cX10_isThing 2 = .ok (.ifCond .lt 15, 3) := by decide +kernel
theorem dX10_isThing_5 : decode cX10_isThing 5 = .ok (.iload_n 1, 1) := by decide +kernel
theorem dX10_isThing_6 : decode cX10_isThing 6 = .ok (.aload_n 0, 1) := by decide +kernel
theorem dX10_isThing_7 : decode cX10_isThing 7 = .ok (.getfield 269, 3) := by decide +kernel
theorem dX10_isThing_10 : decode cX10_isThing 10 = .ok (.if_icmp .ge 7, 3) := by decide +kernel
theorem dX10_isThing_13 : decode cX10_isThing 13 = .ok (.iconst 1, 1) := by decide +kernel
theorem dX10_isThing_14 : decode cX10_isThing 14 = .ok (.goto 4, 3) := by decide +kernel
theorem dX10_isThing_17 : decode cX10_isThing 17 = .ok (.iconst 0, 1) := by decide +kernel
theorem dX10_isThing_18 : decode cX10_isThing 18 = .ok (.iconst 1, 1) := by decide +kernel
theorem dX10_isThing_19 : decode cX10_isThing 19 = .ok (.invokevirtual 250, 3) := by decide +kernel
theorem dX10_isThing_22 : decode cX10_isThing 22 = .ok (.ireturn, 1) := by decide +kernel
theorem dX10_pairAt_0 : decode cX10_pairAt 0 = .ok (.iconst 0, 1) := by decide +kernel
theorem dX10_pairAt_1 : decode cX10_pairAt 1 = .ok (.istore_n 3, 1) := by decide +kernel
theorem dX10_pairAt_2 : decode cX10_pairAt 2 = .ok (.iload_n 3, 1) := by decide +kernel
theorem dX10_pairAt_3 : decode cX10_pairAt 3 = .ok (.aload_n 0, 1) := by decide +kernel
theorem dX10_pairAt_4 : decode cX10_pairAt 4 = .ok (.getfield 343, 3) := by decide +kernel
theorem dX10_pairAt_7 : decode cX10_pairAt 7 = .ok (.if_icmp .ge 31, 3) := by decide +kernel
theorem dX10_pairAt_10 : decode cX10_pairAt 10 = .ok (.aload_n 0, 1) := by decide +kernel
theorem dX10_pairAt_11 : decode cX10_pairAt 11 = .ok (.getfield 95, 3) := by decide +kernel
theorem dX10_pairAt_14 : decode cX10_pairAt 14 = .ok (.iload_n 3, 1) := by decide +kernel
theorem dX10_pairAt_15 : decode cX10_pairAt 15 = .ok (.iaload, 1) := by decide +kernel
theorem dX10_pairAt_16 : decode cX10_pairAt 16 = .ok (.iload_n 1, 1) := by decide +kernel
theorem dX10_pairAt_17 : decode cX10_pairAt 17 = .ok (.if_icmp .ne 15, 3) := by decide +kernel
theorem dX10_pairAt_20 : decode cX10_pairAt 20 = .ok (.aload_n 0, 1) := by decide +kernel
theorem dX10_pairAt_21 : decode cX10_pairAt 21 = .ok (.getfield 98, 3) := by decide +kernel
theorem dX10_pairAt_24 : decode cX10_pairAt 24 = .ok (.iload_n 3, 1) := by decide +kernel
theorem dX10_pairAt_25 : decode cX10_pairAt 25 = .ok (.iaload, 1) := by decide +kernel
theorem dX10_pairAt_26 : decode cX10_pairAt 26 = .ok (.iload_n 2, 1) := by decide +kernel
theorem dX10_pairAt_27 : decode cX10_pairAt 27 = .ok (.if_icmp .ne 5, 3) := by decide +kernel
theorem dX10_pairAt_30 : decode cX10_pairAt 30 = .ok (.iload_n 3, 1) := by decide +kernel
theorem dX10_pairAt_31 : decode cX10_pairAt 31 = .ok (.ireturn, 1) := by decide +kernel
theorem dX10_pairAt_32 : decode cX10_pairAt 32 = .ok (.iinc 3 1, 3) := by decide +kernel
theorem dX10_pairAt_35 : decode cX10_pairAt 35 = .ok (.goto (-33), 3) := by decide +kernel
theorem dX10_pairAt_38 : decode cX10_pairAt 38 = .ok (.aload_n 0, 1) := by decide +kernel
theorem dX10_pairAt_39 : decode cX10_pairAt 39 = .ok (.getfield 95, 3) := by decide +kernel
theorem dX10_pairAt_42 : decode cX10_pairAt 42 = .ok (.aload_n 0, 1) := by decide +kernel
theorem dX10_pairAt_43 : decode cX10_pairAt 43 = .ok (.getfield 343, 3) := by decide +kernel
theorem dX10_pairAt_46 : decode cX10_pairAt 46 = .ok (.iload_n 1, 1) := by decide +kernel
theorem dX10_pairAt_47 : decode cX10_pairAt 47 = .ok (.iastore, 1) := by decide +kernel
theorem dX10_pairAt_48 : decode cX10_pairAt 48 = .ok (.aload_n 0, 1) := by decide +kernel
theorem dX10_pairAt_49 : decode cX10_pairAt 49 = .ok (.getfield 98, 3) := by decide +kernel
theorem dX10_pairAt_52 : decode cX10_pairAt 52 = .ok (.aload_n 0, 1) := by decide +kernel
theorem dX10_pairAt_53 : decode cX10_pairAt 53 = .ok (.getfield 343, 3) := by decide +kernel
theorem dX10_pairAt_56 : decode cX10_pairAt 56 = .ok (.iload_n 2, 1) := by decide +kernel
theorem dX10_pairAt_57 : decode cX10_pairAt 57 = .ok (.iastore, 1) := by decide +kernel
theorem dX10_pairAt_58 : decode cX10_pairAt 58 = .ok (.aload_n 0, 1) := by decide +kernel
theorem dX10_pairAt_59 : decode cX10_pairAt 59 = .ok (.dup, 1) := by decide +kernel
theorem dX10_pairAt_60 : decode cX10_pairAt 60 = .ok (.getfield 343, 3) := by decide +kernel
theorem dX10_pairAt_63 : decode cX10_pairAt 63 = .ok (.iconst 1, 1) := by decide +kernel
theorem dX10_pairAt_64 : decode cX10_pairAt 64 = .ok (.iadd, 1) := by decide +kernel
theorem dX10_pairAt_65 : decode cX10_pairAt 65 = .ok (.putfield 343, 3) := by decide +kernel
theorem dX10_pairAt_68 : decode cX10_pairAt 68 = .ok (.aload_n 0, 1) := by decide +kernel
theorem dX10_pairAt_69 : decode cX10_pairAt 69 = .ok (.getfield 343, 3) := by decide +kernel
theorem dX10_pairAt_72 : decode cX10_pairAt 72 = .ok (.iconst 1, 1) := by decide +kernel
theorem dX10_pairAt_73 : decode cX10_pairAt 73 = .ok (.isub, 1) := by decide +kernel
theorem dX10_pairAt_74 : decode cX10_pairAt 74 = .ok (.ireturn, 1) := by decide +kernel
theorem dX10_of_0 : decode cX10_of 0 = .ok (.aload_n 0, 1) := by decide +kernel
theorem dX10_of_1 : decode cX10_of 1 = .ok (.getfield 83, 3) := by decide +kernel
theorem dX10_of_4 : decode cX10_of 4 = .ok (.iconst 5, 1) := by decide +kernel
theorem dX10_of_5 : decode cX10_of 5 = .ok (.iload_n 1, 1) := by decide +kernel
theorem dX10_of_6 : decode cX10_of 6 = .ok (.imul, 1) := by decide +kernel
theorem dX10_of_7 : decode cX10_of 7 = .ok (.iload_n 2, 1) := by decide +kernel
theorem dX10_of_8 : decode cX10_of 8 = .ok (.iadd, 1) := by decide +kernel
theorem dX10_of_9 : decode cX10_of 9 = .ok (.iaload, 1) := by decide +kernel
theorem dX10_of_10 : decode cX10_of 10 = .ok (.ireturn, 1) := by decide +kernel
theorem dX10_asks_0 : decode cX10_asks 0 = .ok (.aload_n 0, 1) := by decide +kernel
theorem dX10_asks_1 : decode cX10_asks 1 = .ok (.iconst 0, 1) := by decide +kernel
theorem dX10_asks_2 : decode cX10_asks 2 = .ok (.putfield 343, 3) := by decide +kernel
theorem dX10_asks_5 : decode cX10_asks 5 = .ok (.iconst 0, 1) := by decide +kernel
theorem dX10_asks_6 : decode cX10_asks 6 = .ok (.istore_n 3, 1) := by decide +kernel
theorem dX10_asks_7 : decode cX10_asks 7 = .ok (.iload_n 3, 1) := by decide +kernel
theorem dX10_asks_8 : decode cX10_asks 8 = .ok (.aload_n 0, 1) := by decide +kernel
theorem dX10_asks_9 : decode cX10_asks 9 = .ok (.getfield 279, 3) := by decide +kernel
theorem dX10_asks_12 : decode cX10_asks 12 = .ok (.if_icmp .ge 31, 3) := by decide +kernel
theorem dX10_asks_15 : decode cX10_asks 15 = .ok (.aload_n 0, 1) := by decide +kernel
theorem dX10_asks_16 : decode cX10_asks 16 = .ok (.getfield 101, 3) := by decide +kernel
theorem dX10_asks_19 : decode cX10_asks 19 = .ok (.iload_n 3, 1) := by decide +kernel
theorem dX10_asks_20 : decode cX10_asks 20 = .ok (.aload_n 0, 1) := by decide +kernel
theorem dX10_asks_21 : decode cX10_asks 21 = .ok (.aload_n 0, 1) := by decide +kernel
theorem dX10_asks_22 : decode cX10_asks 22 = .ok (.iload_n 3, 1) := by decide +kernel
theorem dX10_asks_23 : decode cX10_asks 23 = .ok (.iconst 0, 1) := by decide +kernel
theorem dX10_asks_24 : decode cX10_asks 24 = .ok (.invokevirtual 346, 3) := by decide +kernel
theorem dX10_asks_27 : decode cX10_asks 27 = .ok (.aload_n 0, 1) := by decide +kernel
theorem dX10_asks_28 : decode cX10_asks 28 = .ok (.iload_n 3, 1) := by decide +kernel
theorem dX10_asks_29 : decode cX10_asks 29 = .ok (.iconst 1, 1) := by decide +kernel
theorem dX10_asks_30 : decode cX10_asks 30 = .ok (.invokevirtual 346, 3) := by decide +kernel
theorem dX10_asks_33 : decode cX10_asks 33 = .ok (.invokevirtual 349, 3) := by decide +kernel
theorem dX10_asks_36 : decode cX10_asks 36 = .ok (.iastore, 1) := by decide +kernel
theorem dX10_asks_37 : decode cX10_asks 37 = .ok (.iinc 3 1, 3) := by decide +kernel
theorem dX10_asks_40 : decode cX10_asks 40 = .ok (.goto (-33), 3) := by decide +kernel
theorem dX10_asks_43 : decode cX10_asks 43 = .ok (.iload_n 1, 1) := by decide +kernel
theorem dX10_asks_44 : decode cX10_asks 44 = .ok (.iconst (-1), 1) := by decide +kernel
theorem dX10_asks_45 : decode cX10_asks 45 = .ok (.if_icmp .eq 10, 3) := by decide +kernel
theorem dX10_asks_48 : decode cX10_asks 48 = .ok (.aload_n 0, 1) := by decide +kernel
theorem dX10_asks_49 : decode cX10_asks 49 = .ok (.iload_n 1, 1) := by decide +kernel
theorem dX10_asks_50 : decode cX10_asks 50 = .ok (.iload_n 2, 1) := by decide +kernel
theorem dX10_asks_51 : decode cX10_asks 51 = .ok (.invokevirtual 349, 3) := by decide +kernel
theorem dX10_asks_54 : decode cX10_asks 54 = .ok (.pop, 1) := by decide +kernel
theorem dX10_asks_55 : decode cX10_asks 55 = .ok (.return_, 1) := by decide +kernel
theorem dX10_all_0 : decode cX10_all 0 = .ok (.iconst 1, 1) := by decide +kernel
theorem dX10_all_1 : decode cX10_all 1 = .ok (.aload_n 0, 1) := by decide +kernel
theorem dX10_all_2 : decode cX10_all 2 = .ok (.getfield 279, 3) := by decide +kernel
theorem dX10_all_5 : decode cX10_all 5 = .ok (.ishl, 1) := by decide +kernel
theorem dX10_all_6 : decode cX10_all 6 = .ok (.iconst 1, 1) := by decide +kernel
theorem dX10_all_7 : decode cX10_all 7 = .ok (.isub, 1) := by decide +kernel
theorem dX10_all_8 : decode cX10_all 8 = .ok (.ireturn, 1) := by decide +kernel
theorem dX10_isBy_0 : decode cX10_isBy 0 = .ok (.aload_n 0, 1) := by decide +kernel
theorem dX10_isBy_1 : decode cX10_isBy 1 = .ok (.getfield 35, 3) := by decide +kernel
theorem dX10_isBy_4 : decode cX10_isBy 4 = .ok (.bipush 24, 2) := by decide +kernel
theorem dX10_isBy_6 : decode cX10_isBy 6 = .ok (.iload_n 1, 1) := by decide +kernel
theorem dX10_isBy_7 : decode cX10_isBy 7 = .ok (.imul, 1) := by decide +kernel
theorem dX10_isBy_8 : decode cX10_isBy 8 = .ok (.aload_n 0, 1) := by decide +kernel
theorem dX10_isBy_9 : decode cX10_isBy 9 = .ok (.getfield 26, 3) := by decide +kernel
theorem dX10_isBy_12 : decode cX10_isBy 12 = .ok (.iconst 5, 1) := by decide +kernel
theorem dX10_isBy_13 : decode cX10_isBy 13 = .ok (.iload_n 3, 1) := by decide +kernel
theorem dX10_isBy_14 : decode cX10_isBy 14 = .ok (.imul, 1) := by decide +kernel
theorem dX10_isBy_15 : decode cX10_isBy 15 = .ok (.iconst 2, 1) := by decide +kernel
theorem dX10_isBy_16 : decode cX10_isBy 16 = .ok (.iadd, 1) := by decide +kernel
theorem dX10_isBy_17 : decode cX10_isBy 17 = .ok (.iaload, 1) := by decide +kernel
theorem dX10_isBy_18 : decode cX10_isBy 18 = .ok (.iadd, 1) := by decide +kernel
theorem dX10_isBy_19 : decode cX10_isBy 19 = .ok (.iaload, 1) := by decide +kernel
theorem dX10_isBy_20 : decode cX10_isBy 20 = .ok (.istore 6, 2) := by decide +kernel
theorem dX10_isBy_22 : decode cX10_isBy 22 = .ok (.aload_n 0, 1) := by decide +kernel
theorem dX10_isBy_23 : decode cX10_isBy 23 = .ok (.getfield 26, 3) := by decide +kernel
theorem dX10_isBy_26 : decode cX10_isBy 26 = .ok (.iconst 5, 1) := by decide +kernel
theorem dX10_isBy_27 : decode cX10_isBy 27 = .ok (.iload_n 3, 1) := by decide +kernel
theorem dX10_isBy_28 : decode cX10_isBy 28 = .ok (.imul, 1) := by decide +kernel
theorem dX10_isBy_29 : decode cX10_isBy 29 = .ok (.iconst 2, 1) := by decide +kernel
theorem dX10_isBy_30 : decode cX10_isBy 30 = .ok (.iadd, 1) := by decide +kernel
theorem dX10_isBy_31 : decode cX10_isBy 31 = .ok (.iaload, 1) := by decide +kernel
theorem dX10_isBy_32 : decode cX10_isBy 32 = .ok (.iload_n 2, 1) := by decide +kernel
theorem dX10_isBy_33 : decode cX10_isBy 33 = .ok (.if_icmp .le 5, 3) := by decide +kernel
theorem dX10_isBy_36 : decode cX10_isBy 36 = .ok (.iconst 0, 1) := by decide +kernel
theorem dX10_isBy_37 : decode cX10_isBy 37 = .ok (.ireturn, 1) := by decide +kernel
theorem dX10_isBy_38 : decode cX10_isBy 38 = .ok (.iload 5, 2) := by decide +kernel
theorem dX10_isBy_40 : decode cX10_isBy 40 = .ok (.ifCond .ne 39, 3) := by decide +kernel
theorem dX10_isBy_43 : decode cX10_isBy 43 = .ok (.iload 6, 2) := by decide +kernel
theorem dX10_isBy_45 : decode cX10_isBy 45 = .ok (.aload_n 0, 1) := by decide +kernel
theorem dX10_isBy_46 : decode cX10_isBy 46 = .ok (.getfield 26, 3) := by decide +kernel
theorem dX10_isBy_49 : decode cX10_isBy 49 = .ok (.iconst 5, 1) := by decide +kernel
theorem dX10_isBy_50 : decode cX10_isBy 50 = .ok (.iload_n 3, 1) := by decide +kernel
theorem dX10_isBy_51 : decode cX10_isBy 51 = .ok (.imul, 1) := by decide +kernel
theorem dX10_isBy_52 : decode cX10_isBy 52 = .ok (.iconst 1, 1) := by decide +kernel
theorem dX10_isBy_53 : decode cX10_isBy 53 = .ok (.iadd, 1) := by decide +kernel
theorem dX10_isBy_54 : decode cX10_isBy 54 = .ok (.iaload, 1) := by decide +kernel
theorem dX10_isBy_55 : decode cX10_isBy 55 = .ok (.if_icmp .ne 22, 3) := by decide +kernel
theorem dX10_isBy_58 : decode cX10_isBy 58 = .ok (.aload_n 0, 1) := by decide +kernel
theorem dX10_isBy_59 : decode cX10_isBy 59 = .ok (.getfield 26, 3) := by decide +kernel
theorem dX10_isBy_62 : decode cX10_isBy 62 = .ok (.iconst 5, 1) := by decide +kernel
theorem dX10_isBy_63 : decode cX10_isBy 63 = .ok (.iload_n 3, 1) := by decide +kernel
theorem dX10_isBy_64 : decode cX10_isBy 64 = .ok (.imul, 1) := by decide +kernel
theorem dX10_isBy_65 : decode cX10_isBy 65 = .ok (.iconst 4, 1) := by decide +kernel
theorem dX10_isBy_66 : decode cX10_isBy 66 = .ok (.iadd, 1) := by decide +kernel
theorem dX10_isBy_67 : decode cX10_isBy 67 = .ok (.iaload, 1) := by decide +kernel
theorem dX10_isBy_68 : decode cX10_isBy 68 = .ok (.iload 4, 2) := by decide +kernel
theorem dX10_isBy_70 : decode cX10_isBy 70 = .ok (.if_icmp .ne 7, 3) := by decide +kernel
theorem dX10_isBy_73 : decode cX10_isBy 73 = .ok (.iconst 1, 1) := by decide +kernel
theorem dX10_isBy_74 : decode cX10_isBy 74 = .ok (.goto 4, 3) := by decide +kernel
theorem dX10_isBy_77 : decode cX10_isBy 77 = .ok (.iconst 0, 1) := by decide +kernel
theorem dX10_isBy_78 : decode cX10_isBy 78 = .ok (.ireturn, 1) := by decide +kernel
theorem dX10_isBy_79 : decode cX10_isBy 79 = .ok (.iload 4, 2) := by decide +kernel
theorem dX10_isBy_81 : decode cX10_isBy 81 = .ok (.ifCond .ne 58, 3) := by decide +kernel
theorem dX10_isBy_84 : decode cX10_isBy 84 = .ok (.aload_n 0, 1) := by decide +kernel
theorem dX10_isBy_85 : decode cX10_isBy 85 = .ok (.getfield 26, 3) := by decide +kernel
theorem dX10_isBy_88 : decode cX10_isBy 88 = .ok (.iconst 5, 1) := by decide +kernel
theorem dX10_isBy_89 : decode cX10_isBy 89 = .ok (.iload_n 3, 1) := by decide +kernel
theorem dX10_isBy_90 : decode cX10_isBy 90 = .ok (.imul, 1) := by decide +kernel
theorem dX10_isBy_91 : decode cX10_isBy 91 = .ok (.iconst 3, 1) := by decide +kernel
theorem dX10_isBy_92 : decode cX10_isBy 92 = .ok (.iadd, 1) := by decide +kernel
theorem dX10_isBy_93 : decode cX10_isBy 93 = .ok (.iaload, 1) := by decide +kernel
theorem dX10_isBy_94 : decode cX10_isBy 94 = .ok (.iconst 1, 1) := by decide +kernel
theorem dX10_isBy_95 : decode cX10_isBy 95 = .ok (.if_icmp .ne 44, 3) := by decide +kernel
theorem dX10_isBy_98 : decode cX10_isBy 98 = .ok (.aload_n 0, 1) := by decide +kernel
theorem dX10_isBy_99 : decode cX10_isBy 99 = .ok (.getfield 26, 3) := by decide +kernel
theorem dX10_isBy_102 : decode cX10_isBy 102 = .ok (.iconst 5, 1) := by decide +kernel
theorem dX10_isBy_103 : decode cX10_isBy 103 = .ok (.iload_n 3, 1) := by decide +kernel
theorem dX10_isBy_104 : decode cX10_isBy 104 = .ok (.imul, 1) := by decide +kernel
theorem dX10_isBy_105 : decode cX10_isBy 105 = .ok (.iconst 4, 1) := by decide +kernel
theorem dX10_isBy_106 : decode cX10_isBy 106 = .ok (.iadd, 1) := by decide +kernel
theorem dX10_isBy_107 : decode cX10_isBy 107 = .ok (.iaload, 1) := by decide +kernel
theorem dX10_isBy_108 : decode cX10_isBy 108 = .ok (.ifCond .ne 31, 3) := by decide +kernel
theorem dX10_isBy_111 : decode cX10_isBy 111 = .ok (.aload_n 0, 1) := by decide +kernel
theorem dX10_isBy_112 : decode cX10_isBy 112 = .ok (.getfield 32, 3) := by decide +kernel
theorem dX10_isBy_115 : decode cX10_isBy 115 = .ok (.iload 6, 2) := by decide +kernel
theorem dX10_isBy_117 : decode cX10_isBy 117 = .ok (.iaload, 1) := by decide +kernel
theorem dX10_isBy_118 : decode cX10_isBy 118 = .ok (.aload_n 0, 1) := by decide +kernel
theorem dX10_isBy_119 : decode cX10_isBy 119 = .ok (.getfield 26, 3) := by decide +kernel
theorem dX10_isBy_122 : decode cX10_isBy 122 = .ok (.iconst 5, 1) := by decide +kernel
theorem dX10_isBy_123 : decode cX10_isBy 123 = .ok (.iload_n 3, 1) := by decide +kernel
theorem dX10_isBy_124 : decode cX10_isBy 124 = .ok (.imul, 1) := by decide +kernel
theorem dX10_isBy_125 : decode cX10_isBy 125 = .ok (.iconst 1, 1) := by decide +kernel
theorem dX10_isBy_126 : decode cX10_isBy 126 = .ok (.iadd, 1) := by decide +kernel
theorem dX10_isBy_127 : decode cX10_isBy 127 = .ok (.iaload, 1) := by decide +kernel
theorem dX10_isBy_128 : decode cX10_isBy 128 = .ok (.ishr, 1) := by decide +kernel
theorem dX10_isBy_129 : decode cX10_isBy 129 = .ok (.iconst 1, 1) := by decide +kernel
theorem dX10_isBy_130 : decode cX10_isBy 130 = .ok (.iand, 1) := by decide +kernel
theorem dX10_isBy_131 : decode cX10_isBy 131 = .ok (.iconst 1, 1) := by decide +kernel
theorem dX10_isBy_132 : decode cX10_isBy 132 = .ok (.if_icmp .ne 7, 3) := by decide +kernel
theorem dX10_isBy_135 : decode cX10_isBy 135 = .ok (.iconst 1, 1) := by decide +kernel
theorem dX10_isBy_136 : decode cX10_isBy 136 = .ok (.goto 4, 3) := by decide +kernel
theorem dX10_isBy_139 : decode cX10_isBy 139 = .ok (.iconst 0, 1) := by decide +kernel
theorem dX10_isBy_140 : decode cX10_isBy 140 = .ok (.ireturn, 1) := by decide +kernel
theorem dX10_byRules_0 : decode cX10_byRules 0 = .ok (.sipush 1000, 3) := by decide +kernel
theorem dX10_byRules_3 : decode cX10_byRules 3 = .ok (.istore_n 3, 1) := by decide +kernel
theorem dX10_byRules_4 : decode cX10_byRules 4 = .ok (.iconst 0, 1) := by decide +kernel
theorem dX10_byRules_5 : decode cX10_byRules 5 = .ok (.istore 4, 2) := by decide +kernel
theorem dX10_byRules_7 : decode cX10_byRules 7 = .ok (.iload 4, 2) := by decide +kernel
theorem dX10_byRules_9 : decode cX10_byRules 9 = .ok (.aload_n 0, 1) := by decide +kernel
theorem dX10_byRules_10 : decode cX10_byRules 10 = .ok (.getfield 272, 3) := by decide +kernel
theorem dX10_byRules_13 : decode cX10_byRules 13 = .ok (.if_icmp .ge 112, 3) := by decide +kernel
theorem dX10_byRules_16 : decode cX10_byRules 16 = .ok (.aload_n 0, 1) := by decide +kernel
theorem dX10_byRules_17 : decode cX10_byRules 17 = .ok (.getfield 29, 3) := by decide +kernel
theorem dX10_byRules_20 : decode cX10_byRules 20 = .ok (.iconst 5, 1) := by decide +kernel
theorem dX10_byRules_21 : decode cX10_byRules 21 = .ok (.iload 4, 2) := by decide +kernel
theorem dX10_byRules_23 : decode cX10_byRules 23 = .ok (.imul, 1) := by decide +kernel
theorem dX10_byRules_24 : decode cX10_byRules 24 = .ok (.iconst 1, 1) := by decide +kernel
theorem dX10_byRules_25 : decode cX10_byRules 25 = .ok (.iadd, 1) := by decide +kernel
theorem dX10_byRules_26 : decode cX10_byRules 26 = .ok (.iaload, 1) := by decide +kernel
theorem dX10_byRules_27 : decode cX10_byRules 27 = .ok (.iload_n 2, 1) := by decide +kernel
theorem dX10_byRules_28 : decode cX10_byRules 28 = .ok (.if_icmp .eq 6, 3) := by decide +kernel
theorem dX10_byRules_31 : decode cX10_byRules 31 = .ok (.goto 88, 3) := by decide +kernel
theorem dX10_byRules_34 : decode cX10_byRules 34 = .ok (.iconst 0, 1) := by decide +kernel
theorem dX10_byRules_35 : decode cX10_byRules 35 = .ok (.istore 5, 2) := by decide +kernel
theorem dX10_byRules_37 : decode cX10_byRules 37 = .ok (.iconst 1, 1) := by decide +kernel
theorem dX10_byRules_38 : decode cX10_byRules 38 = .ok (.istore 6, 2) := by decide +kernel
theorem dX10_byRules_40 : decode cX10_byRules 40 = .ok (.iload 6, 2) := by decide +kernel
theorem dX10_byRules_42 : decode cX10_byRules 42 = .ok (.aload_n 0, 1) := by decide +kernel
theorem dX10_byRules_43 : decode cX10_byRules 43 = .ok (.getfield 29, 3) := by decide +kernel
theorem dX10_byRules_46 : decode cX10_byRules 46 = .ok (.iconst 5, 1) := by decide +kernel
theorem dX10_byRules_47 : decode cX10_byRules 47 = .ok (.iload 4, 2) := by decide +kernel
theorem dX10_byRules_49 : decode cX10_byRules 49 = .ok (.imul, 1) := by decide +kernel
theorem dX10_byRules_50 : decode cX10_byRules 50 = .ok (.iaload, 1) := by decide +kernel
theorem dX10_byRules_51 : decode cX10_byRules 51 = .ok (.if_icmp .ge 51, 3) := by decide +kernel
theorem dX10_byRules_54 : decode cX10_byRules 54 = .ok (.aload_n 0, 1) := by decide +kernel
theorem dX10_byRules_55 : decode cX10_byRules 55 = .ok (.getfield 104, 3) := by decide +kernel
theorem dX10_byRules_58 : decode cX10_byRules 58 = .ok (.bipush 8, 2) := by decide +kernel
theorem dX10_byRules_60 : decode cX10_byRules 60 = .ok (.iload_n 1, 1) := by decide +kernel
theorem dX10_byRules_61 : decode cX10_byRules 61 = .ok (.imul, 1) := by decide +kernel
theorem dX10_byRules_62 : decode cX10_byRules 62 = .ok (.aload_n 0, 1) := by decide +kernel
theorem dX10_byRules_63 : decode cX10_byRules 63 = .ok (.getfield 29, 3) := by decide +kernel
theorem dX10_byRules_66 : decode cX10_byRules 66 = .ok (.iconst 5, 1) := by decide +kernel
theorem dX10_byRules_67 : decode cX10_byRules 67 = .ok (.iload 4, 2) := by decide +kernel
theorem dX10_byRules_69 : decode cX10_byRules 69 = .ok (.imul, 1) := by decide +kernel
theorem dX10_byRules_70 : decode cX10_byRules 70 = .ok (.iconst 1, 1) := by decide +kernel
theorem dX10_byRules_71 : decode cX10_byRules 71 = .ok (.iadd, 1) := by decide +kernel
theorem dX10_byRules_72 : decode cX10_byRules 72 = .ok (.iload 6, 2) := by decide +kernel
theorem dX10_byRules_74 : decode cX10_byRules 74 = .ok (.iadd, 1) := by decide +kernel
theorem dX10_byRules_75 : decode cX10_byRules 75 = .ok (.iaload, 1) := by decide +kernel
theorem dX10_byRules_76 : decode cX10_byRules 76 = .ok (.iadd, 1) := by decide +kernel
theorem dX10_byRules_77 : decode cX10_byRules 77 = .ok (.iaload, 1) := by decide +kernel
theorem dX10_byRules_78 : decode cX10_byRules 78 = .ok (.istore 7, 2) := by decide +kernel
theorem dX10_byRules_80 : decode cX10_byRules 80 = .ok (.iload 7, 2) := by decide +kernel
theorem dX10_byRules_82 : decode cX10_byRules 82 = .ok (.iload 5, 2) := by decide +kernel
theorem dX10_byRules_84 : decode cX10_byRules 84 = .ok (.if_icmp .le 8, 3) := by decide +kernel
theorem dX10_byRules_87 : decode cX10_byRules 87 = .ok (.iload 7, 2) := by decide +kernel
theorem dX10_byRules_89 : decode cX10_byRules 89 = .ok (.goto 5, 3) := by decide +kernel
theorem dX10_byRules_92 : decode cX10_byRules 92 = .ok (.iload 5, 2) := by decide +kernel
theorem dX10_byRules_94 : decode cX10_byRules 94 = .ok (.istore 5, 2) := by decide +kernel
theorem dX10_byRules_96 : decode cX10_byRules 96 = .ok (.iinc 6 1, 3) := by decide +kernel
theorem dX10_byRules_99 : decode cX10_byRules 99 = .ok (.goto (-59), 3) := by decide +kernel
theorem dX10_byRules_102 : decode cX10_byRules 102 = .ok (.iload 5, 2) := by decide +kernel
theorem dX10_byRules_104 : decode cX10_byRules 104 = .ok (.iconst 1, 1) := by decide +kernel
theorem dX10_byRules_105 : decode cX10_byRules 105 = .ok (.iadd, 1) := by decide +kernel
theorem dX10_byRules_106 : decode cX10_byRules 106 = .ok (.iload_n 3, 1) := by decide +kernel
theorem dX10_byRules_107 : decode cX10_byRules 107 = .ok (.if_icmp .ge 10, 3) := by decide +kernel
theorem dX10_byRules_110 : decode cX10_byRules 110 = .ok (.iload 5, 2) := by decide +kernel
theorem dX10_byRules_112 : decode cX10_byRules 112 = .ok (.iconst 1, 1) := by decide +kernel
theorem dX10_byRules_113 : decode cX10_byRules 113 = .ok (.iadd, 1) := by decide +kernel
theorem dX10_byRules_114 : decode cX10_byRules 114 = .ok (.goto 4, 3) := by decide +kernel
theorem dX10_byRules_117 : decode cX10_byRules 117 = .ok (.iload_n 3, 1) := by decide +kernel
theorem dX10_byRules_118 : decode cX10_byRules 118 = .ok (.istore_n 3, 1) := by decide +kernel
theorem dX10_byRules_119 : decode cX10_byRules 119 = .ok (.iinc 4 1, 3) := by decide +kernel
theorem dX10_byRules_122 : decode cX10_byRules 122 = .ok (.goto (-115), 3) := by decide +kernel
theorem dX10_byRules_125 : decode cX10_byRules 125 = .ok (.iload_n 3, 1) := by decide +kernel
theorem dX10_byRules_126 : decode cX10_byRules 126 = .ok (.ireturn, 1) := by decide +kernel
theorem dX10_isTold_0 : decode cX10_isTold 0 = .ok (.aload_n 0, 1) := by decide +kernel
theorem dX10_isTold_1 : decode cX10_isTold 1 = .ok (.getfield 352, 3) := by decide +kernel
theorem dX10_isTold_4 : decode cX10_isTold 4 = .ok (.iload_n 1, 1) := by decide +kernel
theorem dX10_isTold_5 : decode cX10_isTold 5 = .ok (.ishr, 1) := by decide +kernel
theorem dX10_isTold_6 : decode cX10_isTold 6 = .ok (.iconst 1, 1) := by decide +kernel
theorem dX10_isTold_7 : decode cX10_isTold 7 = .ok (.iand, 1) := by decide +kernel
theorem dX10_isTold_8 : decode cX10_isTold 8 = .ok (.ifCond .eq 45, 3) := by decide +kernel
theorem dX10_isTold_11 : decode cX10_isTold 11 = .ok (.aload_n 0, 1) := by decide +kernel
theorem dX10_isTold_12 : decode cX10_isTold 12 = .ok (.iload_n 1, 1) := by decide +kernel
theorem dX10_isTold_13 : decode cX10_isTold 13 = .ok (.iconst 0, 1) := by decide +kernel
theorem dX10_isTold_14 : decode cX10_isTold 14 = .ok (.invokevirtual 346, 3) := by decide +kernel
theorem dX10_isTold_17 : decode cX10_isTold 17 = .ok (.iload_n 2, 1) := by decide +kernel
theorem dX10_isTold_18 : decode cX10_isTold 18 = .ok (.if_icmp .eq 35, 3) := by decide +kernel
theorem dX10_isTold_21 : decode cX10_isTold 21 = .ok (.aload_n 0, 1) := by decide +kernel
theorem dX10_isTold_22 : decode cX10_isTold 22 = .ok (.iload_n 1, 1) := by decide +kernel
theorem dX10_isTold_23 : decode cX10_isTold 23 = .ok (.iconst 2, 1) := by decide +kernel
theorem dX10_isTold_24 : decode cX10_isTold 24 = .ok (.invokevirtual 346, 3) := by decide +kernel
theorem dX10_isTold_27 : decode cX10_isTold 27 = .ok (.iload 4, 2) := by decide +kernel
theorem dX10_isTold_29 : decode cX10_isTold 29 = .ok (.if_icmp .ne 24, 3) := by decide +kernel
theorem dX10_isTold_32 : decode cX10_isTold 32 = .ok (.aload_n 0, 1) := by decide +kernel
theorem dX10_isTold_33 : decode cX10_isTold 33 = .ok (.iload_n 1, 1) := by decide +kernel
theorem dX10_isTold_34 : decode cX10_isTold 34 = .ok (.iconst 4, 1) := by decide +kernel
theorem dX10_isTold_35 : decode cX10_isTold 35 = .ok (.invokevirtual 346, 3) := by decide +kernel
theorem dX10_isTold_38 : decode cX10_isTold 38 = .ok (.iload 5, 2) := by decide +kernel
theorem dX10_isTold_40 : decode cX10_isTold 40 = .ok (.if_icmp .ne 13, 3) := by decide +kernel
theorem dX10_isTold_43 : decode cX10_isTold 43 = .ok (.aload_n 0, 1) := by decide +kernel
theorem dX10_isTold_44 : decode cX10_isTold 44 = .ok (.iload_n 1, 1) := by decide +kernel
theorem dX10_isTold_45 : decode cX10_isTold 45 = .ok (.iconst 1, 1) := by decide +kernel
theorem dX10_isTold_46 : decode cX10_isTold 46 = .ok (.invokevirtual 346, 3) := by decide +kernel
theorem dX10_isTold_49 : decode cX10_isTold 49 = .ok (.iload_n 3, 1) := by decide +kernel
theorem dX10_isTold_50 : decode cX10_isTold 50 = .ok (.if_icmp .le 5, 3) := by decide +kernel
theorem dX10_isTold_53 : decode cX10_isTold 53 = .ok (.iconst 0, 1) := by decide +kernel
theorem dX10_isTold_54 : decode cX10_isTold 54 = .ok (.ireturn, 1) := by decide +kernel
theorem dX10_isTold_55 : decode cX10_isTold 55 = .ok (.aload_n 0, 1) := by decide +kernel
theorem dX10_isTold_56 : decode cX10_isTold 56 = .ok (.getfield 35, 3) := by decide +kernel
theorem dX10_isTold_59 : decode cX10_isTold 59 = .ok (.bipush 24, 2) := by decide +kernel
theorem dX10_isTold_61 : decode cX10_isTold 61 = .ok (.iload_n 2, 1) := by decide +kernel
theorem dX10_isTold_62 : decode cX10_isTold 62 = .ok (.imul, 1) := by decide +kernel
theorem dX10_isTold_63 : decode cX10_isTold 63 = .ok (.aload_n 0, 1) := by decide +kernel
theorem dX10_isTold_64 : decode cX10_isTold 64 = .ok (.iload_n 1, 1) := by decide +kernel
theorem dX10_isTold_65 : decode cX10_isTold 65 = .ok (.iconst 1, 1) := by decide +kernel
theorem dX10_isTold_66 : decode cX10_isTold 66 = .ok (.invokevirtual 346, 3) := by decide +kernel
theorem dX10_isTold_69 : decode cX10_isTold 69 = .ok (.iadd, 1) := by decide +kernel
theorem dX10_isTold_70 : decode cX10_isTold 70 = .ok (.iaload, 1) := by decide +kernel
theorem dX10_isTold_71 : decode cX10_isTold 71 = .ok (.aload_n 0, 1) := by decide +kernel
theorem dX10_isTold_72 : decode cX10_isTold 72 = .ok (.getfield 35, 3) := by decide +kernel
theorem dX10_isTold_75 : decode cX10_isTold 75 = .ok (.bipush 24, 2) := by decide +kernel
theorem dX10_isTold_77 : decode cX10_isTold 77 = .ok (.aload_n 0, 1) := by decide +kernel
theorem dX10_isTold_78 : decode cX10_isTold 78 = .ok (.iload_n 1, 1) := by decide +kernel
theorem dX10_isTold_79 : decode cX10_isTold 79 = .ok (.iconst 0, 1) := by decide +kernel
theorem dX10_isTold_80 : decode cX10_isTold 80 = .ok (.invokevirtual 346, 3) := by decide +kernel
theorem dX10_isTold_83 : decode cX10_isTold 83 = .ok (.imul, 1) := by decide +kernel
theorem dX10_isTold_84 : decode cX10_isTold 84 = .ok (.aload_n 0, 1) := by decide +kernel
theorem dX10_isTold_85 : decode cX10_isTold 85 = .ok (.iload_n 1, 1) := by decide +kernel
theorem dX10_isTold_86 : decode cX10_isTold 86 = .ok (.iconst 1, 1) := by decide +kernel
theorem dX10_isTold_87 : decode cX10_isTold 87 = .ok (.invokevirtual 346, 3) := by decide +kernel
theorem dX10_isTold_90 : decode cX10_isTold 90 = .ok (.iadd, 1) := by decide +kernel
theorem dX10_isTold_91 : decode cX10_isTold 91 = .ok (.iaload, 1) := by decide +kernel
theorem dX10_isTold_92 : decode cX10_isTold 92 = .ok (.if_icmp .eq 5, 3) := by decide +kernel
theorem dX10_isTold_95 : decode cX10_isTold 95 = .ok (.iconst 0, 1) := by decide +kernel
theorem dX10_isTold_96 : decode cX10_isTold 96 = .ok (.ireturn, 1) := by decide +kernel
theorem dX10_isTold_97 : decode cX10_isTold 97 = .ok (.aload_n 0, 1) := by decide +kernel
theorem dX10_isTold_98 : decode cX10_isTold 98 = .ok (.getfield 355, 3) := by decide +kernel
theorem dX10_isTold_101 : decode cX10_isTold 101 = .ok (.iload_n 1, 1) := by decide +kernel
theorem dX10_isTold_102 : decode cX10_isTold 102 = .ok (.ishr, 1) := by decide +kernel
theorem dX10_isTold_103 : decode cX10_isTold 103 = .ok (.iconst 1, 1) := by decide +kernel
theorem dX10_isTold_104 : decode cX10_isTold 104 = .ok (.iand, 1) := by decide +kernel
theorem dX10_isTold_105 : decode cX10_isTold 105 = .ok (.iconst 1, 1) := by decide +kernel
theorem dX10_isTold_106 : decode cX10_isTold 106 = .ok (.if_icmp .eq 13, 3) := by decide +kernel
theorem dX10_isTold_109 : decode cX10_isTold 109 = .ok (.aload_n 0, 1) := by decide +kernel
theorem dX10_isTold_110 : decode cX10_isTold 110 = .ok (.iload_n 1, 1) := by decide +kernel
theorem dX10_isTold_111 : decode cX10_isTold 111 = .ok (.iconst 3, 1) := by decide +kernel
theorem dX10_isTold_112 : decode cX10_isTold 112 = .ok (.invokevirtual 346, 3) := by decide +kernel
theorem dX10_isTold_115 : decode cX10_isTold 115 = .ok (.iconst 4, 1) := by decide +kernel
theorem dX10_isTold_116 : decode cX10_isTold 116 = .ok (.if_icmp .eq 7, 3) := by decide +kernel
theorem dX10_isTold_119 : decode cX10_isTold 119 = .ok (.iconst 1, 1) := by decide +kernel
theorem dX10_isTold_120 : decode cX10_isTold 120 = .ok (.goto 4, 3) := by decide +kernel
theorem dX10_isTold_123 : decode cX10_isTold 123 = .ok (.iconst 0, 1) := by decide +kernel
theorem dX10_isTold_124 : decode cX10_isTold 124 = .ok (.ireturn, 1) := by decide +kernel
theorem dX10_byTold_0 : decode cX10_byTold 0 = .ok (.sipush 1000, 3) := by decide +kernel
theorem dX10_byTold_3 : decode cX10_byTold 3 = .ok (.istore 5, 2) := by decide +kernel
theorem dX10_byTold_5 : decode cX10_byTold 5 = .ok (.iconst 0, 1) := by decide +kernel
theorem dX10_byTold_6 : decode cX10_byTold 6 = .ok (.istore 6, 2) := by decide +kernel
theorem dX10_byTold_8 : decode cX10_byTold 8 = .ok (.iload 6, 2) := by decide +kernel
theorem dX10_byTold_10 : decode cX10_byTold 10 = .ok (.aload_n 0, 1) := by decide +kernel
theorem dX10_byTold_11 : decode cX10_byTold 11 = .ok (.getfield 279, 3) := by decide +kernel
theorem dX10_byTold_14 : decode cX10_byTold 14 = .ok (.if_icmp .ge 48, 3) := by decide +kernel
theorem dX10_byTold_17 : decode cX10_byTold 17 = .ok (.aload_n 0, 1) := by decide +kernel
theorem dX10_byTold_18 : decode cX10_byTold 18 = .ok (.getfield 89, 3) := by decide +kernel
theorem dX10_byTold_21 : decode cX10_byTold 21 = .ok (.iload 6, 2) := by decide +kernel
theorem dX10_byTold_23 : decode cX10_byTold 23 = .ok (.iaload, 1) := by decide +kernel
theorem dX10_byTold_24 : decode cX10_byTold 24 = .ok (.iconst 1, 1) := by decide +kernel
theorem dX10_byTold_25 : decode cX10_byTold 25 = .ok (.iadd, 1) := by decide +kernel
theorem dX10_byTold_26 : decode cX10_byTold 26 = .ok (.iload 5, 2) := by decide +kernel
theorem dX10_byTold_28 : decode cX10_byTold 28 = .ok (.if_icmp .ge 28, 3) := by decide +kernel
theorem dX10_byTold_31 : decode cX10_byTold 31 = .ok (.aload_n 0, 1) := by decide +kernel
theorem dX10_byTold_32 : decode cX10_byTold 32 = .ok (.iload 6, 2) := by decide +kernel
theorem dX10_byTold_34 : decode cX10_byTold 34 = .ok (.iload_n 1, 1) := by decide +kernel
theorem dX10_byTold_35 : decode cX10_byTold 35 = .ok (.iload_n 2, 1) := by decide +kernel
theorem dX10_byTold_36 : decode cX10_byTold 36 = .ok (.iload_n 3, 1) := by decide +kernel
theorem dX10_byTold_37 : decode cX10_byTold 37 = .ok (.iload 4, 2) := by decide +kernel
theorem dX10_byTold_39 : decode cX10_byTold 39 = .ok (.invokevirtual 358, 3) := by decide +kernel
theorem dX10_byTold_42 : decode cX10_byTold 42 = .ok (.ifCond .eq 14, 3) := by decide +kernel
theorem dX10_byTold_45 : decode cX10_byTold 45 = .ok (.aload_n 0, 1) := by decide +kernel
theorem dX10_byTold_46 : decode cX10_byTold 46 = .ok (.getfield 89, 3) := by decide +kernel
theorem dX10_byTold_49 : decode cX10_byTold 49 = .ok (.iload 6, 2) := by decide +kernel
theorem dX10_byTold_51 : decode cX10_byTold 51 = .ok (.iaload, 1) := by decide +kernel
theorem dX10_byTold_52 : decode cX10_byTold 52 = .ok (.iconst 1, 1) := by decide +kernel
theorem dX10_byTold_53 : decode cX10_byTold 53 = .ok (.iadd, 1) := by decide +kernel
theorem dX10_byTold_54 : decode cX10_byTold 54 = .ok (.istore 5, 2) := by decide +kernel
theorem dX10_byTold_56 : decode cX10_byTold 56 = .ok (.iinc 6 1, 3) := by decide +kernel
theorem dX10_byTold_59 : decode cX10_byTold 59 = .ok (.goto (-51), 3) := by decide +kernel
theorem dX10_byTold_62 : decode cX10_byTold 62 = .ok (.iload 5, 2) := by decide +kernel
theorem dX10_byTold_64 : decode cX10_byTold 64 = .ok (.ireturn, 1) := by decide +kernel
theorem dX10_byHow_0 : decode cX10_byHow 0 = .ok (.aload_n 0, 1) := by decide +kernel
theorem dX10_byHow_1 : decode cX10_byHow 1 = .ok (.getfield 95, 3) := by decide +kernel
theorem dX10_byHow_4 : decode cX10_byHow 4 = .ok (.iload_n 1, 1) := by decide +kernel
theorem dX10_byHow_5 : decode cX10_byHow 5 = .ok (.iaload, 1) := by decide +kernel
theorem dX10_byHow_6 : decode cX10_byHow 6 = .ok (.istore 5, 2) := by decide +kernel
theorem dX10_byHow_8 : decode cX10_byHow 8 = .ok (.aload_n 0, 1) := by decide +kernel
theorem dX10_byHow_9 : decode cX10_byHow 9 = .ok (.getfield 98, 3) := by decide +kernel
theorem dX10_byHow_12 : decode cX10_byHow 12 = .ok (.iload_n 1, 1) := by decide +kernel
theorem dX10_byHow_13 : decode cX10_byHow 13 = .ok (.iaload, 1) := by decide +kernel
theorem dX10_byHow_14 : decode cX10_byHow 14 = .ok (.istore 6, 2) := by decide +kernel
theorem dX10_byHow_16 : decode cX10_byHow 16 = .ok (.iload 4, 2) := by decide +kernel
theorem dX10_byHow_18 : decode cX10_byHow 18 = .ok (.iconst 4, 1) := by decide +kernel
theorem dX10_byHow_19 : decode cX10_byHow 19 = .ok (.if_icmp .ne 5, 3) := by decide +kernel
theorem dX10_byHow_22 : decode cX10_byHow 22 = .ok (.iconst 1, 1) := by decide +kernel
theorem dX10_byHow_23 : decode cX10_byHow 23 = .ok (.ireturn, 1) := by decide +kernel
theorem dX10_byHow_24 : decode cX10_byHow 24 = .ok (.iload 4, 2) := by decide +kernel
theorem dX10_byHow_26 : decode cX10_byHow 26 = .ok (.iconst 2, 1) := by decide +kernel
theorem dX10_byHow_27 : decode cX10_byHow 27 = .ok (.if_icmp .ne 14, 3) := by decide +kernel
theorem dX10_byHow_30 : decode cX10_byHow 30 = .ok (.aload_n 0, 1) := by decide +kernel
theorem dX10_byHow_31 : decode cX10_byHow 31 = .ok (.iload 5, 2) := by decide +kernel
theorem dX10_byHow_33 : decode cX10_byHow 33 = .ok (.iload 6, 2) := by decide +kernel
theorem dX10_byHow_35 : decode cX10_byHow 35 = .ok (.iload_n 2, 1) := by decide +kernel
theorem dX10_byHow_36 : decode cX10_byHow 36 = .ok (.iload_n 3, 1) := by decide +kernel
theorem dX10_byHow_37 : decode cX10_byHow 37 = .ok (.invokevirtual 362, 3) := by decide +kernel
theorem dX10_byHow_40 : decode cX10_byHow 40 = .ok (.ireturn, 1) := by decide +kernel
theorem dX10_byHow_41 : decode cX10_byHow 41 = .ok (.iload 4, 2) := by decide +kernel
theorem dX10_byHow_43 : decode cX10_byHow 43 = .ok (.iconst 3, 1) := by decide +kernel
theorem dX10_byHow_44 : decode cX10_byHow 44 = .ok (.if_icmp .ne 21, 3) := by decide +kernel
theorem dX10_byHow_47 : decode cX10_byHow 47 = .ok (.iload_n 3, 1) := by decide +kernel
theorem dX10_byHow_48 : decode cX10_byHow 48 = .ok (.iconst 1, 1) := by decide +kernel
theorem dX10_byHow_49 : decode cX10_byHow 49 = .ok (.if_icmp .ne 9, 3) := by decide +kernel
theorem dX10_byHow_52 : decode cX10_byHow 52 = .ok (.sipush 1000, 3) := by decide +kernel
theorem dX10_byHow_55 : decode cX10_byHow 55 = .ok (.goto 9, 3) := by decide +kernel
theorem dX10_byHow_58 : decode cX10_byHow 58 = .ok (.aload_n 0, 1) := by decide +kernel
theorem dX10_byHow_59 : decode cX10_byHow 59 = .ok (.iload_n 1, 1) := by decide +kernel
theorem dX10_byHow_60 : decode cX10_byHow 60 = .ok (.iload_n 2, 1) := by decide +kernel
theorem dX10_byHow_61 : decode cX10_byHow 61 = .ok (.invokevirtual 366, 3) := by decide +kernel
theorem dX10_byHow_64 : decode cX10_byHow 64 = .ok (.ireturn, 1) := by decide +kernel
theorem dX10_byHow_65 : decode cX10_byHow 65 = .ok (.aload_n 0, 1) := by decide +kernel
theorem dX10_byHow_66 : decode cX10_byHow 66 = .ok (.iload 5, 2) := by decide +kernel
theorem dX10_byHow_68 : decode cX10_byHow 68 = .ok (.iload 6, 2) := by decide +kernel
theorem dX10_byHow_70 : decode cX10_byHow 70 = .ok (.iload_n 2, 1) := by decide +kernel
theorem dX10_byHow_71 : decode cX10_byHow 71 = .ok (.iload_n 3, 1) := by decide +kernel
theorem dX10_byHow_72 : decode cX10_byHow 72 = .ok (.iload 4, 2) := by decide +kernel
theorem dX10_byHow_74 : decode cX10_byHow 74 = .ok (.invokevirtual 369, 3) := by decide +kernel
theorem dX10_byHow_77 : decode cX10_byHow 77 = .ok (.ifCond .eq 7, 3) := by decide +kernel
theorem dX10_byHow_80 : decode cX10_byHow 80 = .ok (.iconst 1, 1) := by decide +kernel
theorem dX10_byHow_81 : decode cX10_byHow 81 = .ok (.goto 6, 3) := by decide +kernel
theorem dX10_byHow_84 : decode cX10_byHow 84 = .ok (.sipush 1000, 3) := by decide +kernel
theorem dX10_byHow_87 : decode cX10_byHow 87 = .ok (.ireturn, 1) := by decide +kernel
theorem dX10_least_0 : decode cX10_least 0 = .ok (.sipush 1000, 3) := by decide +kernel
theorem dX10_least_3 : decode cX10_least 3 = .ok (.istore 4, 2) := by decide +kernel
theorem dX10_least_5 : decode cX10_least 5 = .ok (.iconst 0, 1) := by decide +kernel
theorem dX10_least_6 : decode cX10_least 6 = .ok (.istore 5, 2) := by decide +kernel
theorem dX10_least_8 : decode cX10_least 8 = .ok (.iload 5, 2) := by decide +kernel
theorem dX10_least_10 : decode cX10_least 10 = .ok (.iconst 4, 1) := by decide +kernel
theorem dX10_least_11 : decode cX10_least 11 = .ok (.if_icmp .ge 40, 3) := by decide +kernel
theorem dX10_least_14 : decode cX10_least 14 = .ok (.aload_n 0, 1) := by decide +kernel
theorem dX10_least_15 : decode cX10_least 15 = .ok (.iload_n 1, 1) := by decide +kernel
theorem dX10_least_16 : decode cX10_least 16 = .ok (.iload_n 2, 1) := by decide +kernel
theorem dX10_least_17 : decode cX10_least 17 = .ok (.iload_n 3, 1) := by decide +kernel
theorem dX10_least_18 : decode cX10_least 18 = .ok (.iload 5, 2) := by decide +kernel
theorem dX10_least_20 : decode cX10_least 20 = .ok (.invokevirtual 372, 3) := by decide +kernel
theorem dX10_least_23 : decode cX10_least 23 = .ok (.istore 6, 2) := by decide +kernel
theorem dX10_least_25 : decode cX10_least 25 = .ok (.iload 6, 2) := by decide +kernel
theorem dX10_least_27 : decode cX10_least 27 = .ok (.iload 4, 2) := by decide +kernel
theorem dX10_least_29 : decode cX10_least 29 = .ok (.if_icmp .lt 6, 3) := by decide +kernel
theorem dX10_least_32 : decode cX10_least 32 = .ok (.goto 13, 3) := by decide +kernel
theorem dX10_least_35 : decode cX10_least 35 = .ok (.iload 6, 2) := by decide +kernel
theorem dX10_least_37 : decode cX10_least 37 = .ok (.istore 4, 2) := by decide +kernel
theorem dX10_least_39 : decode cX10_least 39 = .ok (.aload_n 0, 1) := by decide +kernel
theorem dX10_least_40 : decode cX10_least 40 = .ok (.iload 5, 2) := by decide +kernel
theorem dX10_least_42 : decode cX10_least 42 = .ok (.putfield 375, 3) := by decide +kernel
theorem dX10_least_45 : decode cX10_least 45 = .ok (.iinc 5 1, 3) := by decide +kernel
theorem dX10_least_48 : decode cX10_least 48 = .ok (.goto (-40), 3) := by decide +kernel
theorem dX10_least_51 : decode cX10_least 51 = .ok (.iload 4, 2) := by decide +kernel
theorem dX10_least_53 : decode cX10_least 53 = .ok (.ireturn, 1) := by decide +kernel
theorem dX10_reckons_0 : decode cX10_reckons 0 = .ok (.aload_n 0, 1) := by decide +kernel
theorem dX10_reckons_1 : decode cX10_reckons 1 = .ok (.iload_n 1, 1) := by decide +kernel
theorem dX10_reckons_2 : decode cX10_reckons 2 = .ok (.putfield 352, 3) := by decide +kernel
theorem dX10_reckons_5 : decode cX10_reckons 5 = .ok (.aload_n 0, 1) := by decide +kernel
theorem dX10_reckons_6 : decode cX10_reckons 6 = .ok (.iload_n 2, 1) := by decide +kernel
theorem dX10_reckons_7 : decode cX10_reckons 7 = .ok (.putfield 355, 3) := by decide +kernel
theorem dX10_reckons_10 : decode cX10_reckons 10 = .ok (.iconst 0, 1) := by decide +kernel
theorem dX10_reckons_11 : decode cX10_reckons 11 = .ok (.istore_n 3, 1) := by decide +kernel
theorem dX10_reckons_12 : decode cX10_reckons 12 = .ok (.iload_n 3, 1) := by decide +kernel
theorem dX10_reckons_13 : decode cX10_reckons 13 = .ok (.aload_n 0, 1) := by decide +kernel
theorem dX10_reckons_14 : decode cX10_reckons 14 = .ok (.getfield 279, 3) := by decide +kernel
theorem dX10_reckons_17 : decode cX10_reckons 17 = .ok (.if_icmp .ge 18, 3) := by decide +kernel
theorem dX10_reckons_20 : decode cX10_reckons 20 = .ok (.aload_n 0, 1) := by decide +kernel
theorem dX10_reckons_21 : decode cX10_reckons 21 = .ok (.getfield 89, 3) := by decide +kernel
theorem dX10_reckons_24 : decode cX10_reckons 24 = .ok (.iload_n 3, 1) := by decide +kernel
theorem dX10_reckons_25 : decode cX10_reckons 25 = .ok (.sipush 1000, 3) := by decide +kernel
theorem dX10_reckons_28 : decode cX10_reckons 28 = .ok (.iastore, 1) := by decide +kernel
theorem dX10_reckons_29 : decode cX10_reckons 29 = .ok (.iinc 3 1, 3) := by decide +kernel
theorem dX10_reckons_32 : decode cX10_reckons 32 = .ok (.goto (-20), 3) := by decide +kernel
theorem dX10_reckons_35 : decode cX10_reckons 35 = .ok (.iconst 0, 1) := by decide +kernel
theorem dX10_reckons_36 : decode cX10_reckons 36 = .ok (.istore_n 3, 1) := by decide +kernel
theorem dX10_reckons_37 : decode cX10_reckons 37 = .ok (.iload_n 3, 1) := by decide +kernel
theorem dX10_reckons_38 : decode cX10_reckons 38 = .ok (.bipush 8, 2) := by decide +kernel
theorem dX10_reckons_40 : decode cX10_reckons 40 = .ok (.aload_n 0, 1) := by decide +kernel
theorem dX10_reckons_41 : decode cX10_reckons 41 = .ok (.getfield 343, 3) := by decide +kernel
theorem dX10_reckons_44 : decode cX10_reckons 44 = .ok (.imul, 1) := by decide +kernel
theorem dX10_reckons_45 : decode cX10_reckons 45 = .ok (.if_icmp .ge 18, 3) := by decide +kernel
theorem dX10_reckons_48 : decode cX10_reckons 48 = .ok (.aload_n 0, 1) := by decide +kernel
theorem dX10_reckons_49 : decode cX10_reckons 49 = .ok (.getfield 104, 3) := by decide +kernel
theorem dX10_reckons_52 : decode cX10_reckons 52 = .ok (.iload_n 3, 1) := by decide +kernel
theorem dX10_reckons_53 : decode cX10_reckons 53 = .ok (.sipush 1000, 3) := by decide +kernel
theorem dX10_reckons_56 : decode cX10_reckons 56 = .ok (.iastore, 1) := by decide +kernel
theorem dX10_reckons_57 : decode cX10_reckons 57 = .ok (.iinc 3 1, 3) := by decide +kernel
theorem dX10_reckons_60 : decode cX10_reckons 60 = .ok (.goto (-23), 3) := by decide +kernel
theorem dX10_reckons_63 : decode cX10_reckons 63 = .ok (.iconst 1, 1) := by decide +kernel
theorem dX10_reckons_64 : decode cX10_reckons 64 = .ok (.istore_n 3, 1) := by decide +kernel
theorem dX10_reckons_65 : decode cX10_reckons 65 = .ok (.iload_n 3, 1) := by decide +kernel
theorem dX10_reckons_66 : decode cX10_reckons 66 = .ok (.ifCond .eq 238, 3) := by decide +kernel
theorem dX10_reckons_69 : decode cX10_reckons 69 = .ok (.iconst 0, 1) := by decide +kernel
theorem dX10_reckons_70 : decode cX10_reckons 70 = .ok (.istore_n 3, 1) := by decide +kernel
theorem dX10_reckons_71 : decode cX10_reckons 71 = .ok (.iconst 0, 1) := by decide +kernel
theorem dX10_reckons_72 : decode cX10_reckons 72 = .ok (.istore 4, 2) := by decide +kernel
theorem dX10_reckons_74 : decode cX10_reckons 74 = .ok (.iload 4, 2) := by decide +kernel
theorem dX10_reckons_76 : decode cX10_reckons 76 = .ok (.aload_n 0, 1) := by decide +kernel
theorem dX10_reckons_77 : decode cX10_reckons 77 = .ok (.getfield 343, 3) := by decide +kernel
theorem dX10_reckons_80 : decode cX10_reckons 80 = .ok (.if_icmp .ge 76, 3) := by decide +kernel
theorem dX10_reckons_83 : decode cX10_reckons 83 = .ok (.iconst 0, 1) := by decide +kernel
theorem dX10_reckons_84 : decode cX10_reckons 84 = .ok (.istore 5, 2) := by decide +kernel
theorem dX10_reckons_86 : decode cX10_reckons 86 = .ok (.iload 5, 2) := by decide +kernel
theorem dX10_reckons_88 : decode cX10_reckons 88 = .ok (.aload_n 0, 1) := by decide +kernel
theorem dX10_reckons_89 : decode cX10_reckons 89 = .ok (.getfield 269, 3) := by decide +kernel
theorem dX10_reckons_92 : decode cX10_reckons 92 = .ok (.if_icmp .ge 58, 3) := by decide +kernel
theorem dX10_reckons_95 : decode cX10_reckons 95 = .ok (.aload_n 0, 1) := by decide +kernel
theorem dX10_reckons_96 : decode cX10_reckons 96 = .ok (.iload 4, 2) := by decide +kernel
theorem dX10_reckons_98 : decode cX10_reckons 98 = .ok (.iload 5, 2) := by decide +kernel
theorem dX10_reckons_100 : decode cX10_reckons 100 = .ok (.iconst 0, 1) := by decide +kernel
theorem dX10_reckons_101 : decode cX10_reckons 101 = .ok (.invokevirtual 378, 3) := by decide +kernel
theorem dX10_reckons_104 : decode cX10_reckons 104 = .ok (.istore 6, 2) := by decide +kernel
theorem dX10_reckons_106 : decode cX10_reckons 106 = .ok (.iload 6, 2) := by decide +kernel
theorem dX10_reckons_108 : decode cX10_reckons 108 = .ok (.aload_n 0, 1) := by decide +kernel
theorem dX10_reckons_109 : decode cX10_reckons 109 = .ok (.getfield 104, 3) := by decide +kernel
theorem dX10_reckons_112 : decode cX10_reckons 112 = .ok (.bipush 8, 2) := by decide +kernel
theorem dX10_reckons_114 : decode cX10_reckons 114 = .ok (.iload 4, 2) := by decide +kernel
theorem dX10_reckons_116 : decode cX10_reckons 116 = .ok (.imul, 1) := by decide +kernel
theorem dX10_reckons_117 : decode cX10_reckons 117 = .ok (.iload 5, 2) := by decide +kernel
theorem dX10_reckons_119 : decode cX10_reckons 119 = .ok (.iadd, 1) := by decide +kernel
theorem dX10_reckons_120 : decode cX10_reckons 120 = .ok (.iaload, 1) := by decide +kernel
theorem dX10_reckons_121 : decode cX10_reckons 121 = .ok (.if_icmp .lt 6, 3) := by decide +kernel
theorem dX10_reckons_124 : decode cX10_reckons 124 = .ok (.goto 20, 3) := by decide +kernel
theorem dX10_reckons_127 : decode cX10_reckons 127 = .ok (.aload_n 0, 1) := by decide +kernel
theorem dX10_reckons_128 : decode cX10_reckons 128 = .ok (.getfield 104, 3) := by decide +kernel
theorem dX10_reckons_131 : decode cX10_reckons 131 = .ok (.bipush 8, 2) := by decide +kernel
theorem dX10_reckons_133 : decode cX10_reckons 133 = .ok (.iload 4, 2) := by decide +kernel
theorem dX10_reckons_135 : decode cX10_reckons 135 = .ok (.imul, 1) := by decide +kernel
theorem dX10_reckons_136 : decode cX10_reckons 136 = .ok (.iload 5, 2) := by decide +kernel
theorem dX10_reckons_138 : decode cX10_reckons 138 = .ok (.iadd, 1) := by decide +kernel
theorem dX10_reckons_139 : decode cX10_reckons 139 = .ok (.iload 6, 2) := by decide +kernel
theorem dX10_reckons_141 : decode cX10_reckons 141 = .ok (.iastore, 1) := by decide +kernel
theorem dX10_reckons_142 : decode cX10_reckons 142 = .ok (.iconst 1, 1) := by decide +kernel
theorem dX10_reckons_143 : decode cX10_reckons 143 = .ok (.istore_n 3, 1) := by decide +kernel
theorem dX10_reckons_144 : decode cX10_reckons 144 = .ok (.iinc 5 1, 3) := by decide +kernel
theorem dX10_reckons_147 : decode cX10_reckons 147 = .ok (.goto (-61), 3) := by decide +kernel
theorem dX10_reckons_150 : decode cX10_reckons 150 = .ok (.iinc 4 1, 3) := by decide +kernel
theorem dX10_reckons_153 : decode cX10_reckons 153 = .ok (.goto (-79), 3) := by decide +kernel
theorem dX10_reckons_156 : decode cX10_reckons 156 = .ok (.iconst 0, 1) := by decide +kernel
theorem dX10_reckons_157 : decode cX10_reckons 157 = .ok (.istore 4, 2) := by decide +kernel
theorem dX10_reckons_159 : decode cX10_reckons 159 = .ok (.iload 4, 2) := by decide +kernel
theorem dX10_reckons_161 : decode cX10_reckons 161 = .ok (.aload_n 0, 1) := by decide +kernel
theorem dX10_reckons_162 : decode cX10_reckons 162 = .ok (.getfield 279, 3) := by decide +kernel
theorem dX10_reckons_165 : decode cX10_reckons 165 = .ok (.if_icmp .ge 136, 3) := by decide +kernel
theorem dX10_reckons_168 : decode cX10_reckons 168 = .ok (.iload_n 1, 1) := by decide +kernel
theorem dX10_reckons_169 : decode cX10_reckons 169 = .ok (.iload 4, 2) := by decide +kernel
theorem dX10_reckons_171 : decode cX10_reckons 171 = .ok (.ishr, 1) := by decide +kernel
theorem dX10_reckons_172 : decode cX10_reckons 172 = .ok (.iconst 1, 1) := by decide +kernel
theorem dX10_reckons_173 : decode cX10_reckons 173 = .ok (.iand, 1) := by decide +kernel
theorem dX10_reckons_174 : decode cX10_reckons 174 = .ok (.ifCond .ne 6, 3) := by decide +kernel
theorem dX10_reckons_177 : decode cX10_reckons 177 = .ok (.goto 118, 3) := by decide +kernel
theorem dX10_reckons_180 : decode cX10_reckons 180 = .ok (.aload_n 0, 1) := by decide +kernel
theorem dX10_reckons_181 : decode cX10_reckons 181 = .ok (.iconst 4, 1) := by decide +kernel
theorem dX10_reckons_182 : decode cX10_reckons 182 = .ok (.putfield 375, 3) := by decide +kernel
theorem dX10_reckons_185 : decode cX10_reckons 185 = .ok (.iload_n 2, 1) := by decide +kernel
theorem dX10_reckons_186 : decode cX10_reckons 186 = .ok (.iload 4, 2) := by decide +kernel
theorem dX10_reckons_188 : decode cX10_reckons 188 = .ok (.ishr, 1) := by decide +kernel
theorem dX10_reckons_189 : decode cX10_reckons 189 = .ok (.iconst 1, 1) := by decide +kernel
theorem dX10_reckons_190 : decode cX10_reckons 190 = .ok (.iand, 1) := by decide +kernel
theorem dX10_reckons_191 : decode cX10_reckons 191 = .ok (.iconst 1, 1) := by decide +kernel
theorem dX10_reckons_192 : decode cX10_reckons 192 = .ok (.if_icmp .ne 7, 3) := by decide +kernel
theorem dX10_reckons_195 : decode cX10_reckons 195 = .ok (.iconst 1, 1) := by decide +kernel
theorem dX10_reckons_196 : decode cX10_reckons 196 = .ok (.goto 4, 3) := by decide +kernel
theorem dX10_reckons_199 : decode cX10_reckons 199 = .ok (.iconst 0, 1) := by decide +kernel
theorem dX10_reckons_200 : decode cX10_reckons 200 = .ok (.istore 5, 2) := by decide +kernel
theorem dX10_reckons_202 : decode cX10_reckons 202 = .ok (.iload 5, 2) := by decide +kernel
theorem dX10_reckons_204 : decode cX10_reckons 204 = .ok (.ifCond .eq 31, 3) := by decide +kernel
theorem dX10_reckons_207 : decode cX10_reckons 207 = .ok (.aload_n 0, 1) := by decide +kernel
theorem dX10_reckons_208 : decode cX10_reckons 208 = .ok (.aload_n 0, 1) := by decide +kernel
theorem dX10_reckons_209 : decode cX10_reckons 209 = .ok (.getfield 101, 3) := by decide +kernel
theorem dX10_reckons_212 : decode cX10_reckons 212 = .ok (.iload 4, 2) := by decide +kernel
theorem dX10_reckons_214 : decode cX10_reckons 214 = .ok (.iaload, 1) := by decide +kernel
theorem dX10_reckons_215 : decode cX10_reckons 215 = .ok (.aload_n 0, 1) := by decide +kernel
theorem dX10_reckons_216 : decode cX10_reckons 216 = .ok (.iload 4, 2) := by decide +kernel
theorem dX10_reckons_218 : decode cX10_reckons 218 = .ok (.iconst 2, 1) := by decide +kernel
theorem dX10_reckons_219 : decode cX10_reckons 219 = .ok (.invokevirtual 346, 3) := by decide +kernel
theorem dX10_reckons_222 : decode cX10_reckons 222 = .ok (.aload_n 0, 1) := by decide +kernel
theorem dX10_reckons_223 : decode cX10_reckons 223 = .ok (.iload 4, 2) := by decide +kernel
theorem dX10_reckons_225 : decode cX10_reckons 225 = .ok (.iconst 4, 1) := by decide +kernel
theorem dX10_reckons_226 : decode cX10_reckons 226 = .ok (.invokevirtual 346, 3) := by decide +kernel
theorem dX10_reckons_229 : decode cX10_reckons 229 = .ok (.invokevirtual 378, 3) := by decide +kernel
theorem dX10_reckons_232 : decode cX10_reckons 232 = .ok (.goto 35, 3) := by decide +kernel
theorem dX10_reckons_235 : decode cX10_reckons 235 = .ok (.aload_n 0, 1) := by decide +kernel
theorem dX10_reckons_236 : decode cX10_reckons 236 = .ok (.aload_n 0, 1) := by decide +kernel
theorem dX10_reckons_237 : decode cX10_reckons 237 = .ok (.getfield 101, 3) := by decide +kernel
theorem dX10_reckons_240 : decode cX10_reckons 240 = .ok (.iload 4, 2) := by decide +kernel
theorem dX10_reckons_242 : decode cX10_reckons 242 = .ok (.iaload, 1) := by decide +kernel
theorem dX10_reckons_243 : decode cX10_reckons 243 = .ok (.aload_n 0, 1) := by decide +kernel
theorem dX10_reckons_244 : decode cX10_reckons 244 = .ok (.iload 4, 2) := by decide +kernel
theorem dX10_reckons_246 : decode cX10_reckons 246 = .ok (.iconst 2, 1) := by decide +kernel
theorem dX10_reckons_247 : decode cX10_reckons 247 = .ok (.invokevirtual 346, 3) := by decide +kernel
theorem dX10_reckons_250 : decode cX10_reckons 250 = .ok (.aload_n 0, 1) := by decide +kernel
theorem dX10_reckons_251 : decode cX10_reckons 251 = .ok (.iload 4, 2) := by decide +kernel
theorem dX10_reckons_253 : decode cX10_reckons 253 = .ok (.iconst 4, 1) := by decide +kernel
theorem dX10_reckons_254 : decode cX10_reckons 254 = .ok (.invokevirtual 346, 3) := by decide +kernel
theorem dX10_reckons_257 : decode cX10_reckons 257 = .ok (.aload_n 0, 1) := by decide +kernel
theorem dX10_reckons_258 : decode cX10_reckons 258 = .ok (.iload 4, 2) := by decide +kernel
theorem dX10_reckons_260 : decode cX10_reckons 260 = .ok (.iconst 3, 1) := by decide +kernel
theorem dX10_reckons_261 : decode cX10_reckons 261 = .ok (.invokevirtual 346, 3) := by decide +kernel
theorem dX10_reckons_264 : decode cX10_reckons 264 = .ok (.invokevirtual 372, 3) := by decide +kernel
theorem dX10_reckons_267 : decode cX10_reckons 267 = .ok (.istore 6, 2) := by decide +kernel
theorem dX10_reckons_269 : decode cX10_reckons 269 = .ok (.iload 6, 2) := by decide +kernel
theorem dX10_reckons_271 : decode cX10_reckons 271 = .ok (.aload_n 0, 1) := by decide +kernel
theorem dX10_reckons_272 : decode cX10_reckons 272 = .ok (.getfield 89, 3) := by decide +kernel
theorem dX10_reckons_275 : decode cX10_reckons 275 = .ok (.iload 4, 2) := by decide +kernel
theorem dX10_reckons_277 : decode cX10_reckons 277 = .ok (.iaload, 1) := by decide +kernel
theorem dX10_reckons_278 : decode cX10_reckons 278 = .ok (.if_icmp .lt 6, 3) := by decide +kernel
theorem dX10_reckons_281 : decode cX10_reckons 281 = .ok (.goto 14, 3) := by decide +kernel
theorem dX10_reckons_284 : decode cX10_reckons 284 = .ok (.aload_n 0, 1) := by decide +kernel
theorem dX10_reckons_285 : decode cX10_reckons 285 = .ok (.getfield 89, 3) := by decide +kernel
theorem dX10_reckons_288 : decode cX10_reckons 288 = .ok (.iload 4, 2) := by decide +kernel
theorem dX10_reckons_290 : decode cX10_reckons 290 = .ok (.iload 6, 2) := by decide +kernel
theorem dX10_reckons_292 : decode cX10_reckons 292 = .ok (.iastore, 1) := by decide +kernel
theorem dX10_reckons_293 : decode cX10_reckons 293 = .ok (.iconst 1, 1) := by decide +kernel
theorem dX10_reckons_294 : decode cX10_reckons 294 = .ok (.istore_n 3, 1) := by decide +kernel
theorem dX10_reckons_295 : decode cX10_reckons 295 = .ok (.iinc 4 1, 3) := by decide +kernel
theorem dX10_reckons_298 : decode cX10_reckons 298 = .ok (.goto (-139), 3) := by decide +kernel
theorem dX10_reckons_301 : decode cX10_reckons 301 = .ok (.goto (-236), 3) := by decide +kernel
theorem dX10_reckons_304 : decode cX10_reckons 304 = .ok (.iconst 0, 1) := by decide +kernel
theorem dX10_reckons_305 : decode cX10_reckons 305 = .ok (.istore 4, 2) := by decide +kernel
theorem dX10_reckons_307 : decode cX10_reckons 307 = .ok (.iload 4, 2) := by decide +kernel
theorem dX10_reckons_309 : decode cX10_reckons 309 = .ok (.aload_n 0, 1) := by decide +kernel
theorem dX10_reckons_310 : decode cX10_reckons 310 = .ok (.getfield 279, 3) := by decide +kernel
theorem dX10_reckons_313 : decode cX10_reckons 313 = .ok (.if_icmp .ge 90, 3) := by decide +kernel
theorem dX10_reckons_316 : decode cX10_reckons 316 = .ok (.aload_n 0, 1) := by decide +kernel
theorem dX10_reckons_317 : decode cX10_reckons 317 = .ok (.getfield 92, 3) := by decide +kernel
theorem dX10_reckons_320 : decode cX10_reckons 320 = .ok (.iload 4, 2) := by decide +kernel
theorem dX10_reckons_322 : decode cX10_reckons 322 = .ok (.aload_n 0, 1) := by decide +kernel
theorem dX10_reckons_323 : decode cX10_reckons 323 = .ok (.iload 4, 2) := by decide +kernel
theorem dX10_reckons_325 : decode cX10_reckons 325 = .ok (.iconst 3, 1) := by decide +kernel
theorem dX10_reckons_326 : decode cX10_reckons 326 = .ok (.invokevirtual 346, 3) := by decide +kernel
theorem dX10_reckons_329 : decode cX10_reckons 329 = .ok (.iastore, 1) := by decide +kernel
theorem dX10_reckons_330 : decode cX10_reckons 330 = .ok (.iload_n 2, 1) := by decide +kernel
theorem dX10_reckons_331 : decode cX10_reckons 331 = .ok (.iload 4, 2) := by decide +kernel
theorem dX10_reckons_333 : decode cX10_reckons 333 = .ok (.ishr, 1) := by decide +kernel
theorem dX10_reckons_334 : decode cX10_reckons 334 = .ok (.iconst 1, 1) := by decide +kernel
theorem dX10_reckons_335 : decode cX10_reckons 335 = .ok (.iand, 1) := by decide +kernel
theorem dX10_reckons_336 : decode cX10_reckons 336 = .ok (.ifCond .ne 6, 3) := by decide +kernel
theorem dX10_reckons_339 : decode cX10_reckons 339 = .ok (.goto 58, 3) := by decide +kernel
theorem dX10_reckons_342 : decode cX10_reckons 342 = .ok (.aload_n 0, 1) := by decide +kernel
theorem dX10_reckons_343 : decode cX10_reckons 343 = .ok (.getfield 92, 3) := by decide +kernel
theorem dX10_reckons_346 : decode cX10_reckons 346 = .ok (.iload 4, 2) := by decide +kernel
theorem dX10_reckons_348 : decode cX10_reckons 348 = .ok (.iconst 4, 1) := by decide +kernel
theorem dX10_reckons_349 : decode cX10_reckons 349 = .ok (.iastore, 1) := by decide +kernel
theorem dX10_reckons_350 : decode cX10_reckons 350 = .ok (.aload_n 0, 1) := by decide +kernel
theorem dX10_reckons_351 : decode cX10_reckons 351 = .ok (.iconst 4, 1) := by decide +kernel
theorem dX10_reckons_352 : decode cX10_reckons 352 = .ok (.putfield 375, 3) := by decide +kernel
theorem dX10_reckons_355 : decode cX10_reckons 355 = .ok (.aload_n 0, 1) := by decide +kernel
theorem dX10_reckons_356 : decode cX10_reckons 356 = .ok (.aload_n 0, 1) := by decide +kernel
theorem dX10_reckons_357 : decode cX10_reckons 357 = .ok (.getfield 101, 3) := by decide +kernel
theorem dX10_reckons_360 : decode cX10_reckons 360 = .ok (.iload 4, 2) := by decide +kernel
theorem dX10_reckons_362 : decode cX10_reckons 362 = .ok (.iaload, 1) := by decide +kernel
theorem dX10_reckons_363 : decode cX10_reckons 363 = .ok (.aload_n 0, 1) := by decide +kernel
theorem dX10_reckons_364 : decode cX10_reckons 364 = .ok (.iload 4, 2) := by decide +kernel
theorem dX10_reckons_366 : decode cX10_reckons 366 = .ok (.iconst 2, 1) := by decide +kernel
theorem dX10_reckons_367 : decode cX10_reckons 367 = .ok (.invokevirtual 346, 3) := by decide +kernel
theorem dX10_reckons_370 : decode cX10_reckons 370 = .ok (.aload_n 0, 1) := by decide +kernel
theorem dX10_reckons_371 : decode cX10_reckons 371 = .ok (.iload 4, 2) := by decide +kernel
theorem dX10_reckons_373 : decode cX10_reckons 373 = .ok (.iconst 4, 1) := by decide +kernel
theorem dX10_reckons_374 : decode cX10_reckons 374 = .ok (.invokevirtual 346, 3) := by decide +kernel
theorem dX10_reckons_377 : decode cX10_reckons 377 = .ok (.invokevirtual 378, 3) := by decide +kernel
theorem dX10_reckons_380 : decode cX10_reckons 380 = .ok (.sipush 1000, 3) := by decide +kernel
theorem dX10_reckons_383 : decode cX10_reckons 383 = .ok (.if_icmp .ge 14, 3) := by decide +kernel
theorem dX10_reckons_386 : decode cX10_reckons 386 = .ok (.aload_n 0, 1) := by decide +kernel
theorem dX10_reckons_387 : decode cX10_reckons 387 = .ok (.getfield 92, 3) := by decide +kernel
theorem dX10_reckons_390 : decode cX10_reckons 390 = .ok (.iload 4, 2) := by decide +kernel
theorem dX10_reckons_392 : decode cX10_reckons 392 = .ok (.aload_n 0, 1) := by decide +kernel
theorem dX10_reckons_393 : decode cX10_reckons 393 = .ok (.getfield 375, 3) := by decide +kernel
theorem dX10_reckons_396 : decode cX10_reckons 396 = .ok (.iastore, 1) := by decide +kernel
theorem dX10_reckons_397 : decode cX10_reckons 397 = .ok (.iinc 4 1, 3) := by decide +kernel
theorem dX10_reckons_400 : decode cX10_reckons 400 = .ok (.goto (-93), 3) := by decide +kernel
theorem dX10_reckons_403 : decode cX10_reckons 403 = .ok (.return_, 1) := by decide +kernel
theorem dX10_could_0 : decode cX10_could 0 = .ok (.aload_n 0, 1) := by decide +kernel
theorem dX10_could_1 : decode cX10_could 1 = .ok (.iconst 0, 1) := by decide +kernel
theorem dX10_could_2 : decode cX10_could 2 = .ok (.putfield 122, 3) := by decide +kernel
theorem dX10_could_5 : decode cX10_could 5 = .ok (.aload_n 0, 1) := by decide +kernel
theorem dX10_could_6 : decode cX10_could 6 = .ok (.iload_n 1, 1) := by decide +kernel
theorem dX10_could_7 : decode cX10_could 7 = .ok (.iload_n 2, 1) := by decide +kernel
theorem dX10_could_8 : decode cX10_could 8 = .ok (.invokevirtual 298, 3) := by decide +kernel
theorem dX10_could_11 : decode cX10_could 11 = .ok (.ifCond .eq 11, 3) := by decide +kernel
theorem dX10_could_14 : decode cX10_could 14 = .ok (.aload_n 0, 1) := by decide +kernel
theorem dX10_could_15 : decode cX10_could 15 = .ok (.iload_n 3, 1) := by decide +kernel
theorem dX10_could_16 : decode cX10_could 16 = .ok (.invokevirtual 302, 3) := by decide +kernel
theorem dX10_could_19 : decode cX10_could 19 = .ok (.ifCond .ne 5, 3) := by decide +kernel
theorem dX10_could_22 : decode cX10_could 22 = .ok (.iconst 0, 1) := by decide +kernel
theorem dX10_could_23 : decode cX10_could 23 = .ok (.ireturn, 1) := by decide +kernel
theorem dX10_could_24 : decode cX10_could 24 = .ok (.aload_n 0, 1) := by decide +kernel
theorem dX10_could_25 : decode cX10_could 25 = .ok (.iload_n 1, 1) := by decide +kernel
theorem dX10_could_26 : decode cX10_could 26 = .ok (.iload_n 2, 1) := by decide +kernel
theorem dX10_could_27 : decode cX10_could 27 = .ok (.invokevirtual 391, 3) := by decide +kernel
theorem dX10_could_30 : decode cX10_could 30 = .ok (.aload_n 0, 1) := by decide +kernel
theorem dX10_could_31 : decode cX10_could 31 = .ok (.aload_n 0, 1) := by decide +kernel
theorem dX10_could_32 : decode cX10_could 32 = .ok (.invokevirtual 394, 3) := by decide +kernel
theorem dX10_could_35 : decode cX10_could 35 = .ok (.iconst 0, 1) := by decide +kernel
theorem dX10_could_36 : decode cX10_could 36 = .ok (.invokevirtual 398, 3) := by decide +kernel
theorem dX10_could_39 : decode cX10_could 39 = .ok (.aload_n 0, 1) := by decide +kernel
theorem dX10_could_40 : decode cX10_could 40 = .ok (.iload_n 1, 1) := by decide +kernel
theorem dX10_could_41 : decode cX10_could 41 = .ok (.iload_n 2, 1) := by decide +kernel
theorem dX10_could_42 : decode cX10_could 42 = .ok (.invokevirtual 349, 3) := by decide +kernel
theorem dX10_could_45 : decode cX10_could 45 = .ok (.istore 5, 2) := by decide +kernel
theorem dX10_could_47 : decode cX10_could 47 = .ok (.iconst 0, 1) := by decide +kernel
theorem dX10_could_48 : decode cX10_could 48 = .ok (.istore 6, 2) := by decide +kernel
theorem dX10_could_50 : decode cX10_could 50 = .ok (.iconst 0, 1) := by decide +kernel
theorem dX10_could_51 : decode cX10_could 51 = .ok (.istore 7, 2) := by decide +kernel
theorem dX10_could_53 : decode cX10_could 53 = .ok (.iload 7, 2) := by decide +kernel
theorem dX10_could_55 : decode cX10_could 55 = .ok (.iconst 4, 1) := by decide +kernel
theorem dX10_could_56 : decode cX10_could 56 = .ok (.if_icmp .gt 47, 3) := by decide +kernel
theorem dX10_could_59 : decode cX10_could 59 = .ok (.iload 6, 2) := by decide +kernel
theorem dX10_could_61 : decode cX10_could 61 = .ok (.aload_n 0, 1) := by decide +kernel
theorem dX10_could_62 : decode cX10_could 62 = .ok (.iload 5, 2) := by decide +kernel
theorem dX10_could_64 : decode cX10_could 64 = .ok (.iload_n 3, 1) := by decide +kernel
theorem dX10_could_65 : decode cX10_could 65 = .ok (.iload 4, 2) := by decide +kernel
theorem dX10_could_67 : decode cX10_could 67 = .ok (.ifCond .eq 7, 3) := by decide +kernel
theorem dX10_could_70 : decode cX10_could 70 = .ok (.iconst 1, 1) := by decide +kernel
theorem dX10_could_71 : decode cX10_could 71 = .ok (.goto 4, 3) := by decide +kernel
theorem dX10_could_74 : decode cX10_could 74 = .ok (.iconst 0, 1) := by decide +kernel
theorem dX10_could_75 : decode cX10_could 75 = .ok (.iload 7, 2) := by decide +kernel
theorem dX10_could_77 : decode cX10_could 77 = .ok (.invokevirtual 372, 3) := by decide +kernel
theorem dX10_could_80 : decode cX10_could 80 = .ok (.sipush 1000, 3) := by decide +kernel
theorem dX10_could_83 : decode cX10_could 83 = .ok (.if_icmp .ge 10, 3) := by decide +kernel
theorem dX10_could_86 : decode cX10_could 86 = .ok (.iconst 1, 1) := by decide +kernel
theorem dX10_could_87 : decode cX10_could 87 = .ok (.iload 7, 2) := by decide +kernel
theorem dX10_could_89 : decode cX10_could 89 = .ok (.ishl, 1) := by decide +kernel
theorem dX10_could_90 : decode cX10_could 90 = .ok (.goto 4, 3) := by decide +kernel
theorem dX10_could_93 : decode cX10_could 93 = .ok (.iconst 0, 1) := by decide +kernel
theorem dX10_could_94 : decode cX10_could 94 = .ok (.ior, 1) := by decide +kernel
theorem dX10_could_95 : decode cX10_could 95 = .ok (.istore 6, 2) := by decide +kernel
theorem dX10_could_97 : decode cX10_could 97 = .ok (.iinc 7 1, 3) := by decide +kernel
theorem dX10_could_100 : decode cX10_could 100 = .ok (.goto (-47), 3) := by decide +kernel
theorem dX10_could_103 : decode cX10_could 103 = .ok (.iload 6, 2) := by decide +kernel
theorem dX10_could_105 : decode cX10_could 105 = .ok (.ireturn, 1) := by decide +kernel
theorem dX10_bits_0 : decode cX10_bits 0 = .ok (.iconst 0, 1) := by decide +kernel
theorem dX10_bits_1 : decode cX10_bits 1 = .ok (.istore_n 1, 1) := by decide +kernel
theorem dX10_bits_2 : decode cX10_bits 2 = .ok (.iconst 0, 1) := by decide +kernel
theorem dX10_bits_3 : decode cX10_bits 3 = .ok (.istore_n 2, 1) := by decide +kernel
theorem dX10_bits_4 : decode cX10_bits 4 = .ok (.iload_n 2, 1) := by decide +kernel
theorem dX10_bits_5 : decode cX10_bits 5 = .ok (.bipush 31, 2) := by decide +kernel
theorem dX10_bits_7 : decode cX10_bits 7 = .ok (.if_icmp .ge 17, 3) := by decide +kernel
theorem dX10_bits_10 : decode cX10_bits 10 = .ok (.iload_n 1, 1) := by decide +kernel
theorem dX10_bits_11 : decode cX10_bits 11 = .ok (.iload_n 0, 1) := by decide +kernel
theorem dX10_bits_12 : decode cX10_bits 12 = .ok (.iload_n 2, 1) := by decide +kernel
theorem dX10_bits_13 : decode cX10_bits 13 = .ok (.ishr, 1) := by decide +kernel
theorem dX10_bits_14 : decode cX10_bits 14 = .ok (.iconst 1, 1) := by decide +kernel
theorem dX10_bits_15 : decode cX10_bits 15 = .ok (.iand, 1) := by decide +kernel
theorem dX10_bits_16 : decode cX10_bits 16 = .ok (.iadd, 1) := by decide +kernel
theorem dX10_bits_17 : decode cX10_bits 17 = .ok (.istore_n 1, 1) := by decide +kernel
theorem dX10_bits_18 : decode cX10_bits 18 = .ok (.iinc 2 1, 3) := by decide +kernel
theorem dX10_bits_21 : decode cX10_bits 21 = .ok (.goto (-17), 3) := by decide +kernel
theorem dX10_bits_24 : decode cX10_bits 24 = .ok (.iload_n 1, 1) := by decide +kernel
theorem dX10_bits_25 : decode cX10_bits 25 = .ok (.ireturn, 1) := by decide +kernel
theorem dX10_count_0 : decode cX10_count 0 = .ok (.aload_n 0, 1) := by decide +kernel
theorem dX10_count_1 : decode cX10_count 1 = .ok (.iconst 0, 1) := by decide +kernel
theorem dX10_count_2 : decode cX10_count 2 = .ok (.putfield 122, 3) := by decide +kernel
theorem dX10_count_5 : decode cX10_count 5 = .ok (.aload_n 0, 1) := by decide +kernel
theorem dX10_count_6 : decode cX10_count 6 = .ok (.iload_n 1, 1) := by decide +kernel
theorem dX10_count_7 : decode cX10_count 7 = .ok (.iconst 0, 1) := by decide +kernel
theorem dX10_count_8 : decode cX10_count 8 = .ok (.bipush 11, 2) := by decide +kernel
theorem dX10_count_10 : decode cX10_count 10 = .ok (.invokestatic 291, 3) := by decide +kernel
theorem dX10_count_13 : decode cX10_count 13 = .ok (.iconst 1, 1) := by decide +kernel
theorem dX10_count_14 : decode cX10_count 14 = .ok (.invokevirtual 250, 3) := by decide +kernel
theorem dX10_count_17 : decode cX10_count 17 = .ok (.ifCond .ne 5, 3) := by decide +kernel
theorem dX10_count_20 : decode cX10_count 20 = .ok (.iconst 0, 1) := by decide +kernel
theorem dX10_count_21 : decode cX10_count 21 = .ok (.ireturn, 1) := by decide +kernel
theorem dX10_count_22 : decode cX10_count 22 = .ok (.iload_n 1, 1) := by decide +kernel
theorem dX10_count_23 : decode cX10_count 23 = .ok (.tableswitch 109 0 11 #[61, 66, 71, 76, 81, 86, 91, 96, 109, 109, 109, 101], 61) := by decide +kernel
theorem dX10_count_84 : decode cX10_count 84 = .ok (.aload_n 0, 1) := by decide +kernel
theorem dX10_count_85 : decode cX10_count 85 = .ok (.getfield 260, 3) := by decide +kernel
theorem dX10_count_88 : decode cX10_count 88 = .ok (.ireturn, 1) := by decide +kernel
theorem dX10_count_89 : decode cX10_count 89 = .ok (.aload_n 0, 1) := by decide +kernel
theorem dX10_count_90 : decode cX10_count 90 = .ok (.getfield 263, 3) := by decide +kernel
theorem dX10_count_93 : decode cX10_count 93 = .ok (.ireturn, 1) := by decide +kernel
theorem dX10_count_94 : decode cX10_count 94 = .ok (.aload_n 0, 1) := by decide +kernel
theorem dX10_count_95 : decode cX10_count 95 = .ok (.getfield 7, 3) := by decide +kernel
theorem dX10_count_98 : decode cX10_count 98 = .ok (.ireturn, 1) := by decide +kernel
theorem dX10_count_99 : decode cX10_count 99 = .ok (.aload_n 0, 1) := by decide +kernel
theorem dX10_count_100 : decode cX10_count 100 = .ok (.getfield 266, 3) := by decide +kernel
theorem dX10_count_103 : decode cX10_count 103 = .ok (.ireturn, 1) := by decide +kernel
theorem dX10_count_104 : decode cX10_count 104 = .ok (.aload_n 0, 1) := by decide +kernel
theorem dX10_count_105 : decode cX10_count 105 = .ok (.getfield 269, 3) := by decide +kernel
theorem dX10_count_108 : decode cX10_count 108 = .ok (.ireturn, 1) := by decide +kernel
theorem dX10_count_109 : decode cX10_count 109 = .ok (.aload_n 0, 1) := by decide +kernel
theorem dX10_count_110 : decode cX10_count 110 = .ok (.getfield 272, 3) := by decide +kernel
theorem dX10_count_113 : decode cX10_count 113 = .ok (.ireturn, 1) := by decide +kernel
theorem dX10_count_114 : decode cX10_count 114 = .ok (.aload_n 0, 1) := by decide +kernel
theorem dX10_count_115 : decode cX10_count 115 = .ok (.getfield 279, 3) := by decide +kernel
theorem dX10_count_118 : decode cX10_count 118 = .ok (.ireturn, 1) := by decide +kernel
theorem dX10_count_119 : decode cX10_count 119 = .ok (.aload_n 0, 1) := by decide +kernel
theorem dX10_count_120 : decode cX10_count 120 = .ok (.getfield 125, 3) := by decide +kernel
theorem dX10_count_123 : decode cX10_count 123 = .ok (.ireturn, 1) := by decide +kernel
theorem dX10_count_124 : decode cX10_count 124 = .ok (.aload_n 0, 1) := by decide +kernel
theorem dX10_count_125 : decode cX10_count 125 = .ok (.getfield 285, 3) := by decide +kernel
theorem dX10_count_128 : decode cX10_count 128 = .ok (.invokestatic 295, 3) := by decide +kernel
theorem dX10_count_131 : decode cX10_count 131 = .ok (.ireturn, 1) := by decide +kernel
theorem dX10_count_132 : decode cX10_count 132 = .ok (.aload_n 0, 1) := by decide +kernel
theorem dX10_count_133 : decode cX10_count 133 = .ok (.getfield 47, 3) := by decide +kernel
theorem dX10_count_136 : decode cX10_count 136 = .ok (.iload_n 1, 1) := by decide +kernel
theorem dX10_count_137 : decode cX10_count 137 = .ok (.bipush 8, 2) := by decide +kernel
theorem dX10_count_139 : decode cX10_count 139 = .ok (.isub, 1) := by decide +kernel
theorem dX10_count_140 : decode cX10_count 140 = .ok (.iaload, 1) := by decide +kernel
theorem dX10_count_141 : decode cX10_count 141 = .ok (.ireturn, 1) := by decide +kernel
theorem dX10_fault_0 : decode cX10_fault 0 = .ok (.aload_n 0, 1) := by decide +kernel
theorem dX10_fault_1 : decode cX10_fault 1 = .ok (.iconst 0, 1) := by decide +kernel
theorem dX10_fault_2 : decode cX10_fault 2 = .ok (.putfield 122, 3) := by decide +kernel
theorem dX10_fault_5 : decode cX10_fault 5 = .ok (.aload_n 0, 1) := by decide +kernel
theorem dX10_fault_6 : decode cX10_fault 6 = .ok (.getfield 44, 3) := by decide +kernel
theorem dX10_fault_9 : decode cX10_fault 9 = .ok (.ireturn, 1) := by decide +kernel
theorem dX10_lays_0 : decode cX10_lays 0 = .ok (.bipush 24, 2) := by decide +kernel
theorem dX10_lays_2 : decode cX10_lays 2 = .ok (.istore_n 2, 1) := by decide +kernel
theorem dX10_lays_3 : decode cX10_lays 3 = .ok (.iload_n 2, 1) := by decide +kernel
theorem dX10_lays_4 : decode cX10_lays 4 = .ok (.ifCond .lt 35, 3) := by decide +kernel
theorem dX10_lays_7 : decode cX10_lays 7 = .ok (.aload_n 0, 1) := by decide +kernel
theorem dX10_lays_8 : decode cX10_lays 8 = .ok (.getfield 41, 3) := by decide +kernel
theorem dX10_lays_11 : decode cX10_lays 11 = .ok (.aload_n 0, 1) := by decide +kernel
theorem dX10_lays_12 : decode cX10_lays 12 = .ok (.getfield 125, 3) := by decide +kernel
theorem dX10_lays_15 : decode cX10_lays 15 = .ok (.iload_n 1, 1) := by decide +kernel
theorem dX10_lays_16 : decode cX10_lays 16 = .ok (.iload_n 2, 1) := by decide +kernel
theorem dX10_lays_17 : decode cX10_lays 17 = .ok (.ishr, 1) := by decide +kernel
theorem dX10_lays_18 : decode cX10_lays 18 = .ok (.sipush 255, 3) := by decide +kernel
theorem dX10_lays_21 : decode cX10_lays 21 = .ok (.iand, 1) := by decide +kernel
theorem dX10_lays_22 : decode cX10_lays 22 = .ok (.iastore, 1) := by decide +kernel
theorem dX10_lays_23 : decode cX10_lays 23 = .ok (.aload_n 0, 1) := by decide +kernel
theorem dX10_lays_24 : decode cX10_lays 24 = .ok (.dup, 1) := by decide +kernel
theorem dX10_lays_25 : decode cX10_lays 25 = .ok (.getfield 125, 3) := by decide +kernel
theorem dX10_lays_28 : decode cX10_lays 28 = .ok (.iconst 1, 1) := by decide +kernel
theorem dX10_lays_29 : decode cX10_lays 29 = .ok (.iadd, 1) := by decide +kernel
theorem dX10_lays_30 : decode cX10_lays 30 = .ok (.putfield 125, 3) := by decide +kernel
theorem dX10_lays_33 : decode cX10_lays 33 = .ok (.iinc 2 (-8), 3) := by decide +kernel
theorem dX10_lays_36 : decode cX10_lays 36 = .ok (.goto (-33), 3) := by decide +kernel
theorem dX10_lays_39 : decode cX10_lays 39 = .ok (.return_, 1) := by decide +kernel
theorem dX10_feed_0 : decode cX10_feed 0 = .ok (.aload_n 0, 1) := by decide +kernel
theorem dX10_feed_1 : decode cX10_feed 1 = .ok (.iconst 0, 1) := by decide +kernel
theorem dX10_feed_2 : decode cX10_feed 2 = .ok (.putfield 122, 3) := by decide +kernel
theorem dX10_feed_5 : decode cX10_feed 5 = .ok (.aload_n 0, 1) := by decide +kernel
theorem dX10_feed_6 : decode cX10_feed 6 = .ok (.getfield 125, 3) := by decide +kernel
theorem dX10_feed_9 : decode cX10_feed 9 = .ok (.bipush 20, 2) := by decide +kernel
theorem dX10_feed_11 : decode cX10_feed 11 = .ok (.iadd, 1) := by decide +kernel
theorem dX10_feed_12 : decode cX10_feed 12 = .ok (.sipush 800, 3) := by decide +kernel
theorem dX10_feed_15 : decode cX10_feed 15 = .ok (.if_icmp .le 5, 3) := by decide +kernel
theorem dX10_feed_18 : decode cX10_feed 18 = .ok (.iconst (-1), 1) := by decide +kernel
theorem dX10_feed_19 : decode cX10_feed 19 = .ok (.ireturn, 1) := by decide +kernel
theorem dX10_feed_20 : decode cX10_feed 20 = .ok (.aload_n 0, 1) := by decide +kernel
theorem dX10_feed_21 : decode cX10_feed 21 = .ok (.iload_n 1, 1) := by decide +kernel
theorem dX10_feed_22 : decode cX10_feed 22 = .ok (.invokevirtual 128, 3) := by decide +kernel
theorem dX10_feed_25 : decode cX10_feed 25 = .ok (.aload_n 0, 1) := by decide +kernel
theorem dX10_feed_26 : decode cX10_feed 26 = .ok (.iload_n 2, 1) := by decide +kernel
theorem dX10_feed_27 : decode cX10_feed 27 = .ok (.invokevirtual 128, 3) := by decide +kernel
theorem dX10_feed_30 : decode cX10_feed 30 = .ok (.aload_n 0, 1) := by decide +kernel
theorem dX10_feed_31 : decode cX10_feed 31 = .ok (.iload_n 3, 1) := by decide +kernel
theorem dX10_feed_32 : decode cX10_feed 32 = .ok (.invokevirtual 128, 3) := by decide +kernel
theorem dX10_feed_35 : decode cX10_feed 35 = .ok (.aload_n 0, 1) := by decide +kernel
theorem dX10_feed_36 : decode cX10_feed 36 = .ok (.iload 4, 2) := by decide +kernel
theorem dX10_feed_38 : decode cX10_feed 38 = .ok (.invokevirtual 128, 3) := by decide +kernel
theorem dX10_feed_41 : decode cX10_feed 41 = .ok (.aload_n 0, 1) := by decide +kernel
theorem dX10_feed_42 : decode cX10_feed 42 = .ok (.iload 5, 2) := by decide +kernel
theorem dX10_feed_44 : decode cX10_feed 44 = .ok (.invokevirtual 128, 3) := by decide +kernel
theorem dX10_feed_47 : decode cX10_feed 47 = .ok (.aload_n 0, 1) := by decide +kernel
theorem dX10_feed_48 : decode cX10_feed 48 = .ok (.getfield 125, 3) := by decide +kernel
theorem dX10_feed_51 : decode cX10_feed 51 = .ok (.ireturn, 1) := by decide +kernel
theorem dX10_copies_0 : decode cX10_copies 0 = .ok (.iconst 0, 1) := by decide +kernel
theorem dX10_copies_1 : decode cX10_copies 1 = .ok (.istore_n 3, 1) := by decide +kernel
theorem dX10_copies_2 : decode cX10_copies 2 = .ok (.iload_n 3, 1) := by decide +kernel
theorem dX10_copies_3 : decode cX10_copies 3 = .ok (.aload_n 1, 1) := by decide +kernel
theorem dX10_copies_4 : decode cX10_copies 4 = .ok (.arraylength, 1) := by decide +kernel
theorem dX10_copies_5 : decode cX10_copies 5 = .ok (.if_icmp .ge 15, 3) := by decide +kernel
theorem dX10_copies_8 : decode cX10_copies 8 = .ok (.aload_n 2, 1) := by decide +kernel
theorem dX10_copies_9 : decode cX10_copies 9 = .ok (.iload_n 3, 1) := by decide +kernel
theorem dX10_copies_10 : decode cX10_copies 10 = .ok (.aload_n 1, 1) := by decide +kernel
theorem dX10_copies_11 : decode cX10_copies 11 = .ok (.iload_n 3, 1) := by decide +kernel
theorem dX10_copies_12 : decode cX10_copies 12 = .ok (.iaload, 1) := by decide +kernel
theorem dX10_copies_13 : decode cX10_copies 13 = .ok (.iastore, 1) := by decide +kernel
theorem dX10_copies_14 : decode cX10_copies 14 = .ok (.iinc 3 1, 3) := by decide +kernel
theorem dX10_copies_17 : decode cX10_copies 17 = .ok (.goto (-15), 3) := by decide +kernel
theorem dX10_copies_20 : decode cX10_copies 20 = .ok (.return_, 1) := by decide +kernel
theorem dX10_image_0 : decode cX10_image 0 = .ok (.aload_n 0, 1) := by decide +kernel
theorem dX10_image_1 : decode cX10_image 1 = .ok (.iconst 0, 1) := by decide +kernel
theorem dX10_image_2 : decode cX10_image 2 = .ok (.putfield 122, 3) := by decide +kernel
theorem dX10_image_5 : decode cX10_image 5 = .ok (.aload_n 0, 1) := by decide +kernel
theorem dX10_image_6 : decode cX10_image 6 = .ok (.iconst 1, 1) := by decide +kernel
theorem dX10_image_7 : decode cX10_image 7 = .ok (.putfield 288, 3) := by decide +kernel
theorem dX10_image_10 : decode cX10_image 10 = .ok (.aload_n 0, 1) := by decide +kernel
theorem dX10_image_11 : decode cX10_image 11 = .ok (.aload_n 0, 1) := by decide +kernel
theorem dX10_image_12 : decode cX10_image 12 = .ok (.getfield 279, 3) := by decide +kernel
theorem dX10_image_15 : decode cX10_image 15 = .ok (.putfield 430, 3) := by decide +kernel
theorem dX10_image_18 : decode cX10_image 18 = .ok (.aload_n 0, 1) := by decide +kernel
theorem dX10_image_19 : decode cX10_image 19 = .ok (.aload_n 0, 1) := by decide +kernel
theorem dX10_image_20 : decode cX10_image 20 = .ok (.getfield 282, 3) := by decide +kernel
theorem dX10_image_23 : decode cX10_image 23 = .ok (.putfield 433, 3) := by decide +kernel
theorem dX10_image_26 : decode cX10_image 26 = .ok (.aload_n 0, 1) := by decide +kernel
theorem dX10_image_27 : decode cX10_image 27 = .ok (.aload_n 0, 1) := by decide +kernel
theorem dX10_image_28 : decode cX10_image 28 = .ok (.getfield 285, 3) := by decide +kernel
theorem dX10_image_31 : decode cX10_image 31 = .ok (.putfield 436, 3) := by decide +kernel
theorem dX10_image_34 : decode cX10_image 34 = .ok (.aload_n 0, 1) := by decide +kernel
theorem dX10_image_35 : decode cX10_image 35 = .ok (.aload_n 0, 1) := by decide +kernel
theorem dX10_image_36 : decode cX10_image 36 = .ok (.getfield 83, 3) := by decide +kernel
theorem dX10_image_39 : decode cX10_image 39 = .ok (.aload_n 0, 1) := by decide +kernel
theorem dX10_image_40 : decode cX10_image 40 = .ok (.getfield 119, 3) := by decide +kernel
theorem dX10_image_43 : decode cX10_image 43 = .ok (.invokevirtual 275, 3) := by decide +kernel
theorem dX10_image_46 : decode cX10_image 46 = .ok (.return_, 1) := by decide +kernel
theorem dX10_placeOf_0 : decode cX10_placeOf 0 = .ok (.aload_n 0, 1) := by decide +kernel
theorem dX10_placeOf_1 : decode cX10_placeOf 1 = .ok (.getfield 285, 3) := by decide +kernel
theorem dX10_placeOf_4 : decode cX10_placeOf 4 = .ok (.ifCond .eq 14, 3) := by decide +kernel
theorem dX10_placeOf_7 : decode cX10_placeOf 7 = .ok (.aload_n 0, 1) := by decide +kernel
theorem dX10_placeOf_8 : decode cX10_placeOf 8 = .ok (.getfield 282, 3) := by decide +kernel
theorem dX10_placeOf_11 : decode cX10_placeOf 11 = .ok (.iload_n 1, 1) := by decide +kernel
theorem dX10_placeOf_12 : decode cX10_placeOf 12 = .ok (.ishr, 1) := by decide +kernel
theorem dX10_placeOf_13 : decode cX10_placeOf 13 = .ok (.iconst 1, 1) := by decide +kernel
theorem dX10_placeOf_14 : decode cX10_placeOf 14 = .ok (.iand, 1) := by decide +kernel
theorem dX10_placeOf_15 : decode cX10_placeOf 15 = .ok (.ifCond .ne 7, 3) := by decide +kernel
theorem dX10_placeOf_18 : decode cX10_placeOf 18 = .ok (.iconst (-1), 1) := by decide +kernel
theorem dX10_placeOf_19 : decode cX10_placeOf 19 = .ok (.goto 16, 3) := by decide +kernel
theorem dX10_placeOf_22 : decode cX10_placeOf 22 = .ok (.aload_n 0, 1) := by decide +kernel
theorem dX10_placeOf_23 : decode cX10_placeOf 23 = .ok (.getfield 282, 3) := by decide +kernel
theorem dX10_placeOf_26 : decode cX10_placeOf 26 = .ok (.iconst 1, 1) := by decide +kernel
theorem dX10_placeOf_27 : decode cX10_placeOf 27 = .ok (.iload_n 1, 1) := by decide +kernel
theorem dX10_placeOf_28 : decode cX10_placeOf 28 = .ok (.ishl, 1) := by decide +kernel
theorem dX10_placeOf_29 : decode cX10_placeOf 29 = .ok (.iconst 1, 1) := by decide +kernel
theorem dX10_placeOf_30 : decode cX10_placeOf 30 = .ok (.isub, 1) := by decide +kernel
theorem dX10_placeOf_31 : decode cX10_placeOf 31 = .ok (.iand, 1) := by decide +kernel
theorem dX10_placeOf_32 : decode cX10_placeOf 32 = .ok (.invokestatic 295, 3) := by decide +kernel
theorem dX10_placeOf_35 : decode cX10_placeOf 35 = .ok (.ireturn, 1) := by decide +kernel
theorem dX10_worldsOf_0 : decode cX10_worldsOf 0 = .ok (.aload_n 0, 1) := by decide +kernel
theorem dX10_worldsOf_1 : decode cX10_worldsOf 1 = .ok (.iload_n 1, 1) := by decide +kernel
theorem dX10_worldsOf_2 : decode cX10_worldsOf 2 = .ok (.invokevirtual 417, 3) := by decide +kernel
theorem dX10_worldsOf_5 : decode cX10_worldsOf 5 = .ok (.istore_n 3, 1) := by decide +kernel
theorem dX10_worldsOf_6 : decode cX10_worldsOf 6 = .ok (.iconst 0, 1) := by decide +kernel
theorem dX10_worldsOf_7 : decode cX10_worldsOf 7 = .ok (.istore 4, 2) := by decide +kernel
theorem dX10_worldsOf_9 : decode cX10_worldsOf 9 = .ok (.iconst 0, 1) := by decide +kernel
theorem dX10_worldsOf_10 : decode cX10_worldsOf 10 = .ok (.istore 5, 2) := by decide +kernel
theorem dX10_worldsOf_12 : decode cX10_worldsOf 12 = .ok (.iload 5, 2) := by decide +kernel
theorem dX10_worldsOf_14 : decode cX10_worldsOf 14 = .ok (.bipush 16, 2) := by decide +kernel
theorem dX10_worldsOf_16 : decode cX10_worldsOf 16 = .ok (.if_icmp .ge 40, 3) := by decide +kernel
theorem dX10_worldsOf_19 : decode cX10_worldsOf 19 = .ok (.iload 4, 2) := by decide +kernel
theorem dX10_worldsOf_21 : decode cX10_worldsOf 21 = .ok (.iload 5, 2) := by decide +kernel
theorem dX10_worldsOf_23 : decode cX10_worldsOf 23 = .ok (.iload_n 3, 1) := by decide +kernel
theorem dX10_worldsOf_24 : decode cX10_worldsOf 24 = .ok (.ishr, 1) := by decide +kernel
theorem dX10_worldsOf_25 : decode cX10_worldsOf 25 = .ok (.iconst 1, 1) := by decide +kernel
theorem dX10_worldsOf_26 : decode cX10_worldsOf 26 = .ok (.iand, 1) := by decide +kernel
theorem dX10_worldsOf_27 : decode cX10_worldsOf 27 = .ok (.iload_n 2, 1) := by decide +kernel
theorem dX10_worldsOf_28 : decode cX10_worldsOf 28 = .ok (.ifCond .eq 7, 3) := by decide +kernel
theorem dX10_worldsOf_31 : decode cX10_worldsOf 31 = .ok (.iconst 0, 1) := by decide +kernel
theorem dX10_worldsOf_32 : decode cX10_worldsOf 32 = .ok (.goto 4, 3) := by decide +kernel
theorem dX10_worldsOf_35 : decode cX10_worldsOf 35 = .ok (.iconst 1, 1) := by decide +kernel
theorem dX10_worldsOf_36 : decode cX10_worldsOf 36 = .ok (.if_icmp .ne 10, 3) := by decide +kernel
theorem dX10_worldsOf_39 : decode cX10_worldsOf 39 = .ok (.iconst 1, 1) := by decide +kernel
theorem dX10_worldsOf_40 : decode cX10_worldsOf 40 = .ok (.iload 5, 2) := by decide +kernel
theorem dX10_worldsOf_42 : decode cX10_worldsOf 42 = .ok (.ishl, 1) := by decide +kernel
theorem dX10_worldsOf_43 : decode cX10_worldsOf 43 = .ok (.goto 4, 3) := by decide +kernel
theorem dX10_worldsOf_46 : decode cX10_worldsOf 46 = .ok (.iconst 0, 1) := by decide +kernel
theorem dX10_worldsOf_47 : decode cX10_worldsOf 47 = .ok (.ior, 1) := by decide +kernel
theorem dX10_worldsOf_48 : decode cX10_worldsOf 48 = .ok (.istore 4, 2) := by decide +kernel
theorem dX10_worldsOf_50 : decode cX10_worldsOf 50 = .ok (.iinc 5 1, 3) := by decide +kernel
theorem dX10_worldsOf_53 : decode cX10_worldsOf 53 = .ok (.goto (-41), 3) := by decide +kernel
theorem dX10_worldsOf_56 : decode cX10_worldsOf 56 = .ok (.iload 4, 2) := by decide +kernel
theorem dX10_worldsOf_58 : decode cX10_worldsOf 58 = .ok (.ireturn, 1) := by decide +kernel
theorem dX10_low_0 : decode cX10_low 0 = .ok (.iload_n 0, 1) := by decide +kernel
theorem dX10_low_1 : decode cX10_low 1 = .ok (.istore_n 2, 1) := by decide +kernel
theorem dX10_low_2 : decode cX10_low 2 = .ok (.iconst 0, 1) := by decide +kernel
theorem dX10_low_3 : decode cX10_low 3 = .ok (.istore_n 3, 1) := by decide +kernel
theorem dX10_low_4 : decode cX10_low 4 = .ok (.iload_n 3, 1) := by decide +kernel
theorem dX10_low_5 : decode cX10_low 5 = .ok (.iload_n 1, 1) := by decide +kernel
theorem dX10_low_6 : decode cX10_low 6 = .ok (.if_icmp .ge 15, 3) := by decide +kernel
theorem dX10_low_9 : decode cX10_low 9 = .ok (.iload_n 2, 1) := by decide +kernel
theorem dX10_low_10 : decode cX10_low 10 = .ok (.iload_n 2, 1) := by decide +kernel
theorem dX10_low_11 : decode cX10_low 11 = .ok (.iconst 1, 1) := by decide +kernel
theorem dX10_low_12 : decode cX10_low 12 = .ok (.isub, 1) := by decide +kernel
theorem dX10_low_13 : decode cX10_low 13 = .ok (.iand, 1) := by decide +kernel
theorem dX10_low_14 : decode cX10_low 14 = .ok (.istore_n 2, 1) := by decide +kernel
theorem dX10_low_15 : decode cX10_low 15 = .ok (.iinc 3 1, 3) := by decide +kernel
theorem dX10_low_18 : decode cX10_low 18 = .ok (.goto (-14), 3) := by decide +kernel
theorem dX10_low_21 : decode cX10_low 21 = .ok (.iconst 0, 1) := by decide +kernel
theorem dX10_low_22 : decode cX10_low 22 = .ok (.istore_n 3, 1) := by decide +kernel
theorem dX10_low_23 : decode cX10_low 23 = .ok (.iload_n 2, 1) := by decide +kernel
theorem dX10_low_24 : decode cX10_low 24 = .ok (.iload_n 3, 1) := by decide +kernel
theorem dX10_low_25 : decode cX10_low 25 = .ok (.ishr, 1) := by decide +kernel
theorem dX10_low_26 : decode cX10_low 26 = .ok (.iconst 1, 1) := by decide +kernel
theorem dX10_low_27 : decode cX10_low 27 = .ok (.iand, 1) := by decide +kernel
theorem dX10_low_28 : decode cX10_low 28 = .ok (.ifCond .ne 9, 3) := by decide +kernel
theorem dX10_low_31 : decode cX10_low 31 = .ok (.iinc 3 1, 3) := by decide +kernel
theorem dX10_low_34 : decode cX10_low 34 = .ok (.goto (-11), 3) := by decide +kernel
theorem dX10_low_37 : decode cX10_low 37 = .ok (.iload_n 3, 1) := by decide +kernel
theorem dX10_low_38 : decode cX10_low 38 = .ok (.ireturn, 1) := by decide +kernel
theorem dX10_real_0 : decode cX10_real 0 = .ok (.iconst 0, 1) := by decide +kernel
theorem dX10_real_1 : decode cX10_real 1 = .ok (.istore_n 1, 1) := by decide +kernel
theorem dX10_real_2 : decode cX10_real 2 = .ok (.iconst 0, 1) := by decide +kernel
theorem dX10_real_3 : decode cX10_real 3 = .ok (.istore_n 2, 1) := by decide +kernel
theorem dX10_real_4 : decode cX10_real 4 = .ok (.iload_n 2, 1) := by decide +kernel
theorem dX10_real_5 : decode cX10_real 5 = .ok (.aload_n 0, 1) := by decide +kernel
theorem dX10_real_6 : decode cX10_real 6 = .ok (.getfield 282, 3) := by decide +kernel
theorem dX10_real_9 : decode cX10_real 9 = .ok (.invokestatic 295, 3) := by decide +kernel
theorem dX10_real_12 : decode cX10_real 12 = .ok (.if_icmp .ge 39, 3) := by decide +kernel
theorem dX10_real_15 : decode cX10_real 15 = .ok (.iload_n 1, 1) := by decide +kernel
theorem dX10_real_16 : decode cX10_real 16 = .ok (.aload_n 0, 1) := by decide +kernel
theorem dX10_real_17 : decode cX10_real 17 = .ok (.getfield 26, 3) := by decide +kernel
theorem dX10_real_20 : decode cX10_real 20 = .ok (.iconst 5, 1) := by decide +kernel
theorem dX10_real_21 : decode cX10_real 21 = .ok (.aload_n 0, 1) := by decide +kernel
theorem dX10_real_22 : decode cX10_real 22 = .ok (.getfield 282, 3) := by decide +kernel
theorem dX10_real_25 : decode cX10_real 25 = .ok (.iload_n 2, 1) := by decide +kernel
theorem dX10_real_26 : decode cX10_real 26 = .ok (.invokestatic 411, 3) := by decide +kernel
theorem dX10_real_29 : decode cX10_real 29 = .ok (.imul, 1) := by decide +kernel
theorem dX10_real_30 : decode cX10_real 30 = .ok (.iconst 4, 1) := by decide +kernel
theorem dX10_real_31 : decode cX10_real 31 = .ok (.iadd, 1) := by decide +kernel
theorem dX10_real_32 : decode cX10_real 32 = .ok (.iaload, 1) := by decide +kernel
theorem dX10_real_33 : decode cX10_real 33 = .ok (.ifCond .ne 9, 3) := by decide +kernel
theorem dX10_real_36 : decode cX10_real 36 = .ok (.iconst 1, 1) := by decide +kernel
theorem dX10_real_37 : decode cX10_real 37 = .ok (.iload_n 2, 1) := by decide +kernel
theorem dX10_real_38 : decode cX10_real 38 = .ok (.ishl, 1) := by decide +kernel
theorem dX10_real_39 : decode cX10_real 39 = .ok (.goto 4, 3) := by decide +kernel
theorem dX10_real_42 : decode cX10_real 42 = .ok (.iconst 0, 1) := by decide +kernel
theorem dX10_real_43 : decode cX10_real 43 = .ok (.ior, 1) := by decide +kernel
theorem dX10_real_44 : decode cX10_real 44 = .ok (.istore_n 1, 1) := by decide +kernel
theorem dX10_real_45 : decode cX10_real 45 = .ok (.iinc 2 1, 3) := by decide +kernel
theorem dX10_real_48 : decode cX10_real 48 = .ok (.goto (-44), 3) := by decide +kernel
theorem dX10_real_51 : decode cX10_real 51 = .ok (.iload_n 1, 1) := by decide +kernel
theorem dX10_real_52 : decode cX10_real 52 = .ok (.ireturn, 1) := by decide +kernel
theorem dX10_seenBy_0 : decode cX10_seenBy 0 = .ok (.iconst 0, 1) := by decide +kernel
theorem dX10_seenBy_1 : decode cX10_seenBy 1 = .ok (.istore_n 2, 1) := by decide +kernel
theorem dX10_seenBy_2 : decode cX10_seenBy 2 = .ok (.iconst 0, 1) := by decide +kernel
theorem dX10_seenBy_3 : decode cX10_seenBy 3 = .ok (.istore_n 3, 1) := by decide +kernel
theorem dX10_seenBy_4 : decode cX10_seenBy 4 = .ok (.iload_n 3, 1) := by decide +kernel
theorem dX10_seenBy_5 : decode cX10_seenBy 5 = .ok (.aload_n 0, 1) := by decide +kernel
theorem dX10_seenBy_6 : decode cX10_seenBy 6 = .ok (.getfield 282, 3) := by decide +kernel
theorem dX10_seenBy_9 : decode cX10_seenBy 9 = .ok (.invokestatic 295, 3) := by decide +kernel
theorem dX10_seenBy_12 : decode cX10_seenBy 12 = .ok (.if_icmp .ge 64, 3) := by decide +kernel
theorem dX10_seenBy_15 : decode cX10_seenBy 15 = .ok (.aload_n 0, 1) := by decide +kernel
theorem dX10_seenBy_16 : decode cX10_seenBy 16 = .ok (.getfield 282, 3) := by decide +kernel
theorem dX10_seenBy_19 : decode cX10_seenBy 19 = .ok (.iload_n 3, 1) := by decide +kernel
theorem dX10_seenBy_20 : decode cX10_seenBy 20 = .ok (.invokestatic 411, 3) := by decide +kernel
theorem dX10_seenBy_23 : decode cX10_seenBy 23 = .ok (.istore 4, 2) := by decide +kernel
theorem dX10_seenBy_25 : decode cX10_seenBy 25 = .ok (.iload_n 2, 1) := by decide +kernel
theorem dX10_seenBy_26 : decode cX10_seenBy 26 = .ok (.aload_n 0, 1) := by decide +kernel
theorem dX10_seenBy_27 : decode cX10_seenBy 27 = .ok (.getfield 35, 3) := by decide +kernel
theorem dX10_seenBy_30 : decode cX10_seenBy 30 = .ok (.bipush 24, 2) := by decide +kernel
theorem dX10_seenBy_32 : decode cX10_seenBy 32 = .ok (.iload_n 1, 1) := by decide +kernel
theorem dX10_seenBy_33 : decode cX10_seenBy 33 = .ok (.imul, 1) := by decide +kernel
theorem dX10_seenBy_34 : decode cX10_seenBy 34 = .ok (.aload_n 0, 1) := by decide +kernel
theorem dX10_seenBy_35 : decode cX10_seenBy 35 = .ok (.getfield 26, 3) := by decide +kernel
theorem dX10_seenBy_38 : decode cX10_seenBy 38 = .ok (.iconst 5, 1) := by decide +kernel
theorem dX10_seenBy_39 : decode cX10_seenBy 39 = .ok (.iload 4, 2) := by decide +kernel
theorem dX10_seenBy_41 : decode cX10_seenBy 41 = .ok (.imul, 1) := by decide +kernel
theorem dX10_seenBy_42 : decode cX10_seenBy 42 = .ok (.iconst 2, 1) := by decide +kernel
theorem dX10_seenBy_43 : decode cX10_seenBy 43 = .ok (.iadd, 1) := by decide +kernel
theorem dX10_seenBy_44 : decode cX10_seenBy 44 = .ok (.iaload, 1) := by decide +kernel
theorem dX10_seenBy_45 : decode cX10_seenBy 45 = .ok (.iadd, 1) := by decide +kernel
theorem dX10_seenBy_46 : decode cX10_seenBy 46 = .ok (.iaload, 1) := by decide +kernel
theorem dX10_seenBy_47 : decode cX10_seenBy 47 = .ok (.aload_n 0, 1) := by decide +kernel
theorem dX10_seenBy_48 : decode cX10_seenBy 48 = .ok (.getfield 26, 3) := by decide +kernel
theorem dX10_seenBy_51 : decode cX10_seenBy 51 = .ok (.iconst 5, 1) := by decide +kernel
theorem dX10_seenBy_52 : decode cX10_seenBy 52 = .ok (.iload 4, 2) := by decide +kernel
theorem dX10_seenBy_54 : decode cX10_seenBy 54 = .ok (.imul, 1) := by decide +kernel
theorem dX10_seenBy_55 : decode cX10_seenBy 55 = .ok (.iconst 1, 1) := by decide +kernel
theorem dX10_seenBy_56 : decode cX10_seenBy 56 = .ok (.iadd, 1) := by decide +kernel
theorem dX10_seenBy_57 : decode cX10_seenBy 57 = .ok (.iaload, 1) := by decide +kernel
theorem dX10_seenBy_58 : decode cX10_seenBy 58 = .ok (.if_icmp .ne 9, 3) := by decide +kernel
theorem dX10_seenBy_61 : decode cX10_seenBy 61 = .ok (.iconst 1, 1) := by decide +kernel
theorem dX10_seenBy_62 : decode cX10_seenBy 62 = .ok (.iload_n 3, 1) := by decide +kernel
theorem dX10_seenBy_63 : decode cX10_seenBy 63 = .ok (.ishl, 1) := by decide +kernel
theorem dX10_seenBy_64 : decode cX10_seenBy 64 = .ok (.goto 4, 3) := by decide +kernel
theorem dX10_seenBy_67 : decode cX10_seenBy 67 = .ok (.iconst 0, 1) := by decide +kernel
theorem dX10_seenBy_68 : decode cX10_seenBy 68 = .ok (.ior, 1) := by decide +kernel
theorem dX10_seenBy_69 : decode cX10_seenBy 69 = .ok (.istore_n 2, 1) := by decide +kernel
theorem dX10_seenBy_70 : decode cX10_seenBy 70 = .ok (.iinc 3 1, 3) := by decide +kernel
theorem dX10_seenBy_73 : decode cX10_seenBy 73 = .ok (.goto (-69), 3) := by decide +kernel
theorem dX10_seenBy_76 : decode cX10_seenBy 76 = .ok (.iload_n 2, 1) := by decide +kernel
theorem dX10_seenBy_77 : decode cX10_seenBy 77 = .ok (.ireturn, 1) := by decide +kernel
theorem dX10_knows_0 : decode cX10_knows 0 = .ok (.aload_n 0, 1) := by decide +kernel
theorem dX10_knows_1 : decode cX10_knows 1 = .ok (.iload_n 1, 1) := by decide +kernel
theorem dX10_knows_2 : decode cX10_knows 2 = .ok (.invokevirtual 414, 3) := by decide +kernel
theorem dX10_knows_5 : decode cX10_knows 5 = .ok (.istore_n 3, 1) := by decide +kernel
theorem dX10_knows_6 : decode cX10_knows 6 = .ok (.iconst 0, 1) := by decide +kernel
theorem dX10_knows_7 : decode cX10_knows 7 = .ok (.istore 4, 2) := by decide +kernel
theorem dX10_knows_9 : decode cX10_knows 9 = .ok (.iconst 0, 1) := by decide +kernel
theorem dX10_knows_10 : decode cX10_knows 10 = .ok (.istore 5, 2) := by decide +kernel
theorem dX10_knows_12 : decode cX10_knows 12 = .ok (.iload 5, 2) := by decide +kernel
theorem dX10_knows_14 : decode cX10_knows 14 = .ok (.bipush 16, 2) := by decide +kernel
theorem dX10_knows_16 : decode cX10_knows 16 = .ok (.if_icmp .ge 106, 3) := by decide +kernel
theorem dX10_knows_19 : decode cX10_knows 19 = .ok (.aload_n 0, 1) := by decide +kernel
theorem dX10_knows_20 : decode cX10_knows 20 = .ok (.getfield 285, 3) := by decide +kernel
theorem dX10_knows_23 : decode cX10_knows 23 = .ok (.iload 5, 2) := by decide +kernel
theorem dX10_knows_25 : decode cX10_knows 25 = .ok (.ishr, 1) := by decide +kernel
theorem dX10_knows_26 : decode cX10_knows 26 = .ok (.iconst 1, 1) := by decide +kernel
theorem dX10_knows_27 : decode cX10_knows 27 = .ok (.iand, 1) := by decide +kernel
theorem dX10_knows_28 : decode cX10_knows 28 = .ok (.ifCond .ne 6, 3) := by decide +kernel
theorem dX10_knows_31 : decode cX10_knows 31 = .ok (.goto 85, 3) := by decide +kernel
theorem dX10_knows_34 : decode cX10_knows 34 = .ok (.iconst 1, 1) := by decide +kernel
theorem dX10_knows_35 : decode cX10_knows 35 = .ok (.istore 6, 2) := by decide +kernel
theorem dX10_knows_37 : decode cX10_knows 37 = .ok (.iconst 0, 1) := by decide +kernel
theorem dX10_knows_38 : decode cX10_knows 38 = .ok (.istore 7, 2) := by decide +kernel
theorem dX10_knows_40 : decode cX10_knows 40 = .ok (.iload 7, 2) := by decide +kernel
theorem dX10_knows_42 : decode cX10_knows 42 = .ok (.bipush 16, 2) := by decide +kernel
theorem dX10_knows_44 : decode cX10_knows 44 = .ok (.if_icmp .ge 54, 3) := by decide +kernel
theorem dX10_knows_47 : decode cX10_knows 47 = .ok (.iload 6, 2) := by decide +kernel
theorem dX10_knows_49 : decode cX10_knows 49 = .ok (.ifCond .eq 40, 3) := by decide +kernel
theorem dX10_knows_52 : decode cX10_knows 52 = .ok (.aload_n 0, 1) := by decide +kernel
theorem dX10_knows_53 : decode cX10_knows 53 = .ok (.getfield 285, 3) := by decide +kernel
theorem dX10_knows_56 : decode cX10_knows 56 = .ok (.iload 7, 2) := by decide +kernel
theorem dX10_knows_58 : decode cX10_knows 58 = .ok (.ishr, 1) := by decide +kernel
theorem dX10_knows_59 : decode cX10_knows 59 = .ok (.iconst 1, 1) := by decide +kernel
theorem dX10_knows_60 : decode cX10_knows 60 = .ok (.iand, 1) := by decide +kernel
theorem dX10_knows_61 : decode cX10_knows 61 = .ok (.ifCond .eq 24, 3) := by decide +kernel
theorem dX10_knows_64 : decode cX10_knows 64 = .ok (.iload 7, 2) := by decide +kernel
theorem dX10_knows_66 : decode cX10_knows 66 = .ok (.iload_n 3, 1) := by decide +kernel
theorem dX10_knows_67 : decode cX10_knows 67 = .ok (.iand, 1) := by decide +kernel
theorem dX10_knows_68 : decode cX10_knows 68 = .ok (.iload 5, 2) := by decide +kernel
theorem dX10_knows_70 : decode cX10_knows 70 = .ok (.iload_n 3, 1) := by decide +kernel
theorem dX10_knows_71 : decode cX10_knows 71 = .ok (.iand, 1) := by decide +kernel
theorem dX10_knows_72 : decode cX10_knows 72 = .ok (.if_icmp .ne 13, 3) := by decide +kernel
theorem dX10_knows_75 : decode cX10_knows 75 = .ok (.iload_n 2, 1) := by decide +kernel
theorem dX10_knows_76 : decode cX10_knows 76 = .ok (.iload 7, 2) := by decide +kernel
theorem dX10_knows_78 : decode cX10_knows 78 = .ok (.ishr, 1) := by decide +kernel
theorem dX10_knows_79 : decode cX10_knows 79 = .ok (.iconst 1, 1) := by decide +kernel
theorem dX10_knows_80 : decode cX10_knows 80 = .ok (.iand, 1) := by decide +kernel
theorem dX10_knows_81 : decode cX10_knows 81 = .ok (.iconst 1, 1) := by decide +kernel
theorem dX10_knows_82 : decode cX10_knows 82 = .ok (.if_icmp .ne 7, 3) := by decide +kernel
theorem dX10_knows_85 : decode cX10_knows 85 = .ok (.iconst 1, 1) := by decide +kernel
theorem dX10_knows_86 : decode cX10_knows 86 = .ok (.goto 4, 3) := by decide +kernel
theorem dX10_knows_89 : decode cX10_knows 89 = .ok (.iconst 0, 1) := by decide +kernel
theorem dX10_knows_90 : decode cX10_knows 90 = .ok (.istore 6, 2) := by decide +kernel
theorem dX10_knows_92 : decode cX10_knows 92 = .ok (.iinc 7 1, 3) := by decide +kernel
theorem dX10_knows_95 : decode cX10_knows 95 = .ok (.goto (-55), 3) := by decide +kernel
theorem dX10_knows_98 : decode cX10_knows 98 = .ok (.iload 4, 2) := by decide +kernel
theorem dX10_knows_100 : decode cX10_knows 100 = .ok (.iload 6, 2) := by decide +kernel
theorem dX10_knows_102 : decode cX10_knows 102 = .ok (.ifCond .eq 10, 3) := by decide +kernel
theorem dX10_knows_105 : decode cX10_knows 105 = .ok (.iconst 1, 1) := by decide +kernel
theorem dX10_knows_106 : decode cX10_knows 106 = .ok (.iload 5, 2) := by decide +kernel
theorem dX10_knows_108 : decode cX10_knows 108 = .ok (.ishl, 1) := by decide +kernel
theorem dX10_knows_109 : decode cX10_knows 109 = .ok (.goto 4, 3) := by decide +kernel
theorem dX10_knows_112 : decode cX10_knows 112 = .ok (.iconst 0, 1) := by decide +kernel
theorem dX10_knows_113 : decode cX10_knows 113 = .ok (.ior, 1) := by decide +kernel
theorem dX10_knows_114 : decode cX10_knows 114 = .ok (.istore 4, 2) := by decide +kernel
theorem dX10_knows_116 : decode cX10_knows 116 = .ok (.iinc 5 1, 3) := by decide +kernel
theorem dX10_knows_119 : decode cX10_knows 119 = .ok (.goto (-107), 3) := by decide +kernel
theorem dX10_knows_122 : decode cX10_knows 122 = .ok (.iload 4, 2) := by decide +kernel
theorem dX10_knows_124 : decode cX10_knows 124 = .ok (.ireturn, 1) := by decide +kernel
theorem dX10_known_0 : decode cX10_known 0 = .ok (.aload_n 0, 1) := by decide +kernel
theorem dX10_known_1 : decode cX10_known 1 = .ok (.iconst 0, 1) := by decide +kernel
theorem dX10_known_2 : decode cX10_known 2 = .ok (.putfield 122, 3) := by decide +kernel
theorem dX10_known_5 : decode cX10_known 5 = .ok (.aload_n 0, 1) := by decide +kernel
theorem dX10_known_6 : decode cX10_known 6 = .ok (.iload_n 3, 1) := by decide +kernel
theorem dX10_known_7 : decode cX10_known 7 = .ok (.invokevirtual 302, 3) := by decide +kernel
theorem dX10_known_10 : decode cX10_known 10 = .ok (.ifCond .eq 17, 3) := by decide +kernel
theorem dX10_known_13 : decode cX10_known 13 = .ok (.aload_n 0, 1) := by decide +kernel
theorem dX10_known_14 : decode cX10_known 14 = .ok (.iload_n 2, 1) := by decide +kernel
theorem dX10_known_15 : decode cX10_known 15 = .ok (.iconst 1, 1) := by decide +kernel
theorem dX10_known_16 : decode cX10_known 16 = .ok (.iconst 4, 1) := by decide +kernel
theorem dX10_known_17 : decode cX10_known 17 = .ok (.invokestatic 291, 3) := by decide +kernel
theorem dX10_known_20 : decode cX10_known 20 = .ok (.iconst 2, 1) := by decide +kernel
theorem dX10_known_21 : decode cX10_known 21 = .ok (.invokevirtual 250, 3) := by decide +kernel
theorem dX10_known_24 : decode cX10_known 24 = .ok (.ifCond .ne 5, 3) := by decide +kernel
theorem dX10_known_27 : decode cX10_known 27 = .ok (.iconst 0, 1) := by decide +kernel
theorem dX10_known_28 : decode cX10_known 28 = .ok (.ireturn, 1) := by decide +kernel
theorem dX10_known_29 : decode cX10_known 29 = .ok (.iconst 0, 1) := by decide +kernel
theorem dX10_known_30 : decode cX10_known 30 = .ok (.istore 5, 2) := by decide +kernel
theorem dX10_known_32 : decode cX10_known 32 = .ok (.iload 5, 2) := by decide +kernel
theorem dX10_known_34 : decode cX10_known 34 = .ok (.iload_n 2, 1) := by decide +kernel
theorem dX10_known_35 : decode cX10_known 35 = .ok (.if_icmp .ge 40, 3) := by decide +kernel
theorem dX10_known_38 : decode cX10_known 38 = .ok (.aload_n 0, 1) := by decide +kernel
theorem dX10_known_39 : decode cX10_known 39 = .ok (.iload_n 1, 1) := by decide +kernel
theorem dX10_known_40 : decode cX10_known 40 = .ok (.iconst 3, 1) := by decide +kernel
theorem dX10_known_41 : decode cX10_known 41 = .ok (.iload 5, 2) := by decide +kernel
theorem dX10_known_43 : decode cX10_known 43 = .ok (.imul, 1) := by decide +kernel
theorem dX10_known_44 : decode cX10_known 44 = .ok (.ishr, 1) := by decide +kernel
theorem dX10_known_45 : decode cX10_known 45 = .ok (.bipush 7, 2) := by decide +kernel
theorem dX10_known_47 : decode cX10_known 47 = .ok (.iand, 1) := by decide +kernel
theorem dX10_known_48 : decode cX10_known 48 = .ok (.aload_n 0, 1) := by decide +kernel
theorem dX10_known_49 : decode cX10_known 49 = .ok (.getfield 266, 3) := by decide +kernel
theorem dX10_known_52 : decode cX10_known 52 = .ok (.if_icmp .ge 7, 3) := by decide +kernel
theorem dX10_known_55 : decode cX10_known 55 = .ok (.iconst 1, 1) := by decide +kernel
theorem dX10_known_56 : decode cX10_known 56 = .ok (.goto 4, 3) := by decide +kernel
theorem dX10_known_59 : decode cX10_known 59 = .ok (.iconst 0, 1) := by decide +kernel
theorem dX10_known_60 : decode cX10_known 60 = .ok (.iconst 2, 1) := by decide +kernel
theorem dX10_known_61 : decode cX10_known 61 = .ok (.invokevirtual 250, 3) := by decide +kernel
theorem dX10_known_64 : decode cX10_known 64 = .ok (.ifCond .ne 5, 3) := by decide +kernel
theorem dX10_known_67 : decode cX10_known 67 = .ok (.iconst 0, 1) := by decide +kernel
theorem dX10_known_68 : decode cX10_known 68 = .ok (.ireturn, 1) := by decide +kernel
theorem dX10_known_69 : decode cX10_known 69 = .ok (.iinc 5 1, 3) := by decide +kernel
theorem dX10_known_72 : decode cX10_known 72 = .ok (.goto (-40), 3) := by decide +kernel
theorem dX10_known_75 : decode cX10_known 75 = .ok (.aload_n 0, 1) := by decide +kernel
theorem dX10_known_76 : decode cX10_known 76 = .ok (.iload_n 3, 1) := by decide +kernel
theorem dX10_known_77 : decode cX10_known 77 = .ok (.invokevirtual 417, 3) := by decide +kernel
theorem dX10_known_80 : decode cX10_known 80 = .ok (.iconst (-1), 1) := by decide +kernel
theorem dX10_known_81 : decode cX10_known 81 = .ok (.if_icmp .ne 5, 3) := by decide +kernel
theorem dX10_known_84 : decode cX10_known 84 = .ok (.iconst 0, 1) := by decide +kernel
theorem dX10_known_85 : decode cX10_known 85 = .ok (.ireturn, 1) := by decide +kernel
theorem dX10_known_86 : decode cX10_known 86 = .ok (.aload_n 0, 1) := by decide +kernel
theorem dX10_known_87 : decode cX10_known 87 = .ok (.iload_n 3, 1) := by decide +kernel
theorem dX10_known_88 : decode cX10_known 88 = .ok (.iload 4, 2) := by decide +kernel
theorem dX10_known_90 : decode cX10_known 90 = .ok (.invokevirtual 420, 3) := by decide +kernel
theorem dX10_known_93 : decode cX10_known 93 = .ok (.istore 5, 2) := by decide +kernel
theorem dX10_known_95 : decode cX10_known 95 = .ok (.iload_n 2, 1) := by decide +kernel
theorem dX10_known_96 : decode cX10_known 96 = .ok (.iconst 1, 1) := by decide +kernel
theorem dX10_known_97 : decode cX10_known 97 = .ok (.isub, 1) := by decide +kernel
theorem dX10_known_98 : decode cX10_known 98 = .ok (.istore 6, 2) := by decide +kernel
theorem dX10_known_100 : decode cX10_known 100 = .ok (.iload 6, 2) := by decide +kernel
theorem dX10_known_102 : decode cX10_known 102 = .ok (.ifCond .lt 26, 3) := by decide +kernel
theorem dX10_known_105 : decode cX10_known 105 = .ok (.aload_n 0, 1) := by decide +kernel
theorem dX10_known_106 : decode cX10_known 106 = .ok (.iload_n 1, 1) := by decide +kernel
theorem dX10_known_107 : decode cX10_known 107 = .ok (.iconst 3, 1) := by decide +kernel
theorem dX10_known_108 : decode cX10_known 108 = .ok (.iload 6, 2) := by decide +kernel
theorem dX10_known_110 : decode cX10_known 110 = .ok (.imul, 1) := by decide +kernel
theorem dX10_known_111 : decode cX10_known 111 = .ok (.ishr, 1) := by decide +kernel
theorem dX10_known_112 : decode cX10_known 112 = .ok (.bipush 7, 2) := by decide +kernel
theorem dX10_known_114 : decode cX10_known 114 = .ok (.iand, 1) := by decide +kernel
theorem dX10_known_115 : decode cX10_known 115 = .ok (.iload 5, 2) := by decide +kernel
theorem dX10_known_117 : decode cX10_known 117 = .ok (.invokevirtual 424, 3) := by decide +kernel
theorem dX10_known_120 : decode cX10_known 120 = .ok (.istore 5, 2) := by decide +kernel
theorem dX10_known_122 : decode cX10_known 122 = .ok (.iinc 6 (-1), 3) := by decide +kernel
theorem dX10_known_125 : decode cX10_known 125 = .ok (.goto (-25), 3) := by decide +kernel
theorem dX10_known_128 : decode cX10_known 128 = .ok (.iload 5, 2) := by decide +kernel
theorem dX10_known_130 : decode cX10_known 130 = .ok (.aload_n 0, 1) := by decide +kernel
theorem dX10_known_131 : decode cX10_known 131 = .ok (.invokevirtual 427, 3) := by decide +kernel
theorem dX10_known_134 : decode cX10_known 134 = .ok (.ishr, 1) := by decide +kernel
theorem dX10_known_135 : decode cX10_known 135 = .ok (.iconst 1, 1) := by decide +kernel
theorem dX10_known_136 : decode cX10_known 136 = .ok (.iand, 1) := by decide +kernel
theorem dX10_known_137 : decode cX10_known 137 = .ok (.iconst 1, 1) := by decide +kernel
theorem dX10_known_138 : decode cX10_known 138 = .ok (.if_icmp .ne 7, 3) := by decide +kernel
theorem dX10_known_141 : decode cX10_known 141 = .ok (.iconst 1, 1) := by decide +kernel
theorem dX10_known_142 : decode cX10_known 142 = .ok (.goto 4, 3) := by decide +kernel
theorem dX10_known_145 : decode cX10_known 145 = .ok (.iconst 0, 1) := by decide +kernel
theorem dX10_known_146 : decode cX10_known 146 = .ok (.ireturn, 1) := by decide +kernel
theorem dX10_likely_0 : decode cX10_likely 0 = .ok (.aload_n 0, 1) := by decide +kernel
theorem dX10_likely_1 : decode cX10_likely 1 = .ok (.iconst 0, 1) := by decide +kernel
theorem dX10_likely_2 : decode cX10_likely 2 = .ok (.putfield 122, 3) := by decide +kernel
theorem dX10_likely_5 : decode cX10_likely 5 = .ok (.aload_n 0, 1) := by decide +kernel
theorem dX10_likely_6 : decode cX10_likely 6 = .ok (.iload_n 1, 1) := by decide +kernel
theorem dX10_likely_7 : decode cX10_likely 7 = .ok (.iconst 0, 1) := by decide +kernel
theorem dX10_likely_8 : decode cX10_likely 8 = .ok (.invokevirtual 298, 3) := by decide +kernel
theorem dX10_likely_11 : decode cX10_likely 11 = .ok (.ifCond .eq 11, 3) := by decide +kernel
theorem dX10_likely_14 : decode cX10_likely 14 = .ok (.aload_n 0, 1) := by decide +kernel
theorem dX10_likely_15 : decode cX10_likely 15 = .ok (.iload_n 2, 1) := by decide +kernel
theorem dX10_likely_16 : decode cX10_likely 16 = .ok (.invokevirtual 302, 3) := by decide +kernel
theorem dX10_likely_19 : decode cX10_likely 19 = .ok (.ifCond .ne 5, 3) := by decide +kernel
theorem dX10_likely_22 : decode cX10_likely 22 = .ok (.iconst 0, 1) := by decide +kernel
theorem dX10_likely_23 : decode cX10_likely 23 = .ok (.ireturn, 1) := by decide +kernel
theorem dX10_likely_24 : decode cX10_likely 24 = .ok (.ldc2_w 407, 3) := by decide +kernel
theorem dX10_likely_27 : decode cX10_likely 27 = .ok (.lstore_n 3, 1) := by decide +kernel
theorem dX10_likely_28 : decode cX10_likely 28 = .ok (.iconst 0, 1) := by decide +kernel
theorem dX10_likely_29 : decode cX10_likely 29 = .ok (.istore 5, 2) := by decide +kernel
theorem dX10_likely_31 : decode cX10_likely 31 = .ok (.iload 5, 2) := by decide +kernel
theorem dX10_likely_33 : decode cX10_likely 33 = .ok (.aload_n 0, 1) := by decide +kernel
theorem dX10_likely_34 : decode cX10_likely 34 = .ok (.getfield 279, 3) := by decide +kernel
theorem dX10_likely_37 : decode cX10_likely 37 = .ok (.if_icmp .ge 191, 3) := by decide +kernel
theorem dX10_likely_40 : decode cX10_likely 40 = .ok (.aload_n 0, 1) := by decide +kernel
theorem dX10_likely_41 : decode cX10_likely 41 = .ok (.iload 5, 2) := by decide +kernel
theorem dX10_likely_43 : decode cX10_likely 43 = .ok (.iconst 1, 1) := by decide +kernel
theorem dX10_likely_44 : decode cX10_likely 44 = .ok (.invokevirtual 346, 3) := by decide +kernel
theorem dX10_likely_47 : decode cX10_likely 47 = .ok (.istore 6, 2) := by decide +kernel
theorem dX10_likely_49 : decode cX10_likely 49 = .ok (.aload_n 0, 1) := by decide +kernel
theorem dX10_likely_50 : decode cX10_likely 50 = .ok (.iload 5, 2) := by decide +kernel
theorem dX10_likely_52 : decode cX10_likely 52 = .ok (.iconst 2, 1) := by decide +kernel
theorem dX10_likely_53 : decode cX10_likely 53 = .ok (.invokevirtual 346, 3) := by decide +kernel
theorem dX10_likely_56 : decode cX10_likely 56 = .ok (.iload_n 2, 1) := by decide +kernel
theorem dX10_likely_57 : decode cX10_likely 57 = .ok (.if_icmp .ne 165, 3) := by decide +kernel
theorem dX10_likely_60 : decode cX10_likely 60 = .ok (.aload_n 0, 1) := by decide +kernel
theorem dX10_likely_61 : decode cX10_likely 61 = .ok (.iload 5, 2) := by decide +kernel
theorem dX10_likely_63 : decode cX10_likely 63 = .ok (.iconst 0, 1) := by decide +kernel
theorem dX10_likely_64 : decode cX10_likely 64 = .ok (.invokevirtual 346, 3) := by decide +kernel
theorem dX10_likely_67 : decode cX10_likely 67 = .ok (.iload_n 1, 1) := by decide +kernel
theorem dX10_likely_68 : decode cX10_likely 68 = .ok (.if_icmp .eq 154, 3) := by decide +kernel
theorem dX10_likely_71 : decode cX10_likely 71 = .ok (.aload_n 0, 1) := by decide +kernel
theorem dX10_likely_72 : decode cX10_likely 72 = .ok (.getfield 35, 3) := by decide +kernel
theorem dX10_likely_75 : decode cX10_likely 75 = .ok (.bipush 24, 2) := by decide +kernel
theorem dX10_likely_77 : decode cX10_likely 77 = .ok (.iload_n 1, 1) := by decide +kernel
theorem dX10_likely_78 : decode cX10_likely 78 = .ok (.imul, 1) := by decide +kernel
theorem dX10_likely_79 : decode cX10_likely 79 = .ok (.iload 6, 2) := by decide +kernel
theorem dX10_likely_81 : decode cX10_likely 81 = .ok (.iadd, 1) := by decide +kernel
theorem dX10_likely_82 : decode cX10_likely 82 = .ok (.iaload, 1) := by decide +kernel
theorem dX10_likely_83 : decode cX10_likely 83 = .ok (.aload_n 0, 1) := by decide +kernel
theorem dX10_likely_84 : decode cX10_likely 84 = .ok (.getfield 35, 3) := by decide +kernel
theorem dX10_likely_87 : decode cX10_likely 87 = .ok (.bipush 24, 2) := by decide +kernel
theorem dX10_likely_89 : decode cX10_likely 89 = .ok (.aload_n 0, 1) := by decide +kernel
theorem dX10_likely_90 : decode cX10_likely 90 = .ok (.iload 5, 2) := by decide +kernel
theorem dX10_likely_92 : decode cX10_likely 92 = .ok (.iconst 0, 1) := by decide +kernel
theorem dX10_likely_93 : decode cX10_likely 93 = .ok (.invokevirtual 346, 3) := by decide +kernel
theorem dX10_likely_96 : decode cX10_likely 96 = .ok (.imul, 1) := by decide +kernel
theorem dX10_likely_97 : decode cX10_likely 97 = .ok (.iload 6, 2) := by decide +kernel
theorem dX10_likely_99 : decode cX10_likely 99 = .ok (.iadd, 1) := by decide +kernel
theorem dX10_likely_100 : decode cX10_likely 100 = .ok (.iaload, 1) := by decide +kernel
theorem dX10_likely_101 : decode cX10_likely 101 = .ok (.if_icmp .eq 6, 3) := by decide +kernel
theorem dX10_likely_104 : decode cX10_likely 104 = .ok (.goto 118, 3) := by decide +kernel
theorem dX10_likely_107 : decode cX10_likely 107 = .ok (.aload_n 0, 1) := by decide +kernel
theorem dX10_likely_108 : decode cX10_likely 108 = .ok (.iload 5, 2) := by decide +kernel
theorem dX10_likely_110 : decode cX10_likely 110 = .ok (.iconst 4, 1) := by decide +kernel
theorem dX10_likely_111 : decode cX10_likely 111 = .ok (.invokevirtual 346, 3) := by decide +kernel
theorem dX10_likely_114 : decode cX10_likely 114 = .ok (.iconst 1, 1) := by decide +kernel
theorem dX10_likely_115 : decode cX10_likely 115 = .ok (.if_icmp .ne 11, 3) := by decide +kernel
theorem dX10_likely_118 : decode cX10_likely 118 = .ok (.ldc2_w 409, 3) := by decide +kernel
theorem dX10_likely_121 : decode cX10_likely 121 = .ok (.lload_n 3, 1) := by decide +kernel
theorem dX10_likely_122 : decode cX10_likely 122 = .ok (.lsub, 1) := by decide +kernel
theorem dX10_likely_123 : decode cX10_likely 123 = .ok (.goto 4, 3) := by decide +kernel
theorem dX10_likely_126 : decode cX10_likely 126 = .ok (.lload_n 3, 1) := by decide +kernel
theorem dX10_likely_127 : decode cX10_likely 127 = .ok (.lstore 7, 2) := by decide +kernel
theorem dX10_likely_129 : decode cX10_likely 129 = .ok (.lload 7, 2) := by decide +kernel
theorem dX10_likely_131 : decode cX10_likely 131 = .ok (.aload_n 0, 1) := by decide +kernel
theorem dX10_likely_132 : decode cX10_likely 132 = .ok (.getfield 38, 3) := by decide +kernel
theorem dX10_likely_135 : decode cX10_likely 135 = .ok (.iconst 2, 1) := by decide +kernel
theorem dX10_likely_136 : decode cX10_likely 136 = .ok (.aload_n 0, 1) := by decide +kernel
theorem dX10_likely_137 : decode cX10_likely 137 = .ok (.iload 5, 2) := by decide +kernel
theorem dX10_likely_139 : decode cX10_likely 139 = .ok (.iconst 3, 1) := by decide +kernel
theorem dX10_likely_140 : decode cX10_likely 140 = .ok (.invokevirtual 346, 3) := by decide +kernel
theorem dX10_likely_143 : decode cX10_likely 143 = .ok (.imul, 1) := by decide +kernel
theorem dX10_likely_144 : decode cX10_likely 144 = .ok (.iaload, 1) := by decide +kernel
theorem dX10_likely_145 : decode cX10_likely 145 = .ok (.i2l, 1) := by decide +kernel
theorem dX10_likely_146 : decode cX10_likely 146 = .ok (.lmul, 1) := by decide +kernel
theorem dX10_likely_147 : decode cX10_likely 147 = .ok (.lstore 9, 2) := by decide +kernel
theorem dX10_likely_149 : decode cX10_likely 149 = .ok (.lload 9, 2) := by decide +kernel
theorem dX10_likely_151 : decode cX10_likely 151 = .ok (.ldc2_w 409, 3) := by decide +kernel
theorem dX10_likely_154 : decode cX10_likely 154 = .ok (.lload 7, 2) := by decide +kernel
theorem dX10_likely_156 : decode cX10_likely 156 = .ok (.lsub, 1) := by decide +kernel
theorem dX10_likely_157 : decode cX10_likely 157 = .ok (.aload_n 0, 1) := by decide +kernel
theorem dX10_likely_158 : decode cX10_likely 158 = .ok (.getfield 38, 3) := by decide +kernel
theorem dX10_likely_161 : decode cX10_likely 161 = .ok (.iconst 2, 1) := by decide +kernel
theorem dX10_likely_162 : decode cX10_likely 162 = .ok (.aload_n 0, 1) := by decide +kernel
theorem dX10_likely_163 : decode cX10_likely 163 = .ok (.iload 5, 2) := by decide +kernel
theorem dX10_likely_165 : decode cX10_likely 165 = .ok (.iconst 3, 1) := by decide +kernel
theorem dX10_likely_166 : decode cX10_likely 166 = .ok (.invokevirtual 346, 3) := by decide +kernel
theorem dX10_likely_169 : decode cX10_likely 169 = .ok (.imul, 1) := by decide +kernel
theorem dX10_likely_170 : decode cX10_likely 170 = .ok (.iconst 1, 1) := by decide +kernel
theorem dX10_likely_171 : decode cX10_likely 171 = .ok (.iadd, 1) := by decide +kernel
theorem dX10_likely_172 : decode cX10_likely 172 = .ok (.iaload, 1) := by decide +kernel
theorem dX10_likely_173 : decode cX10_likely 173 = .ok (.i2l, 1) := by decide +kernel
theorem dX10_likely_174 : decode cX10_likely 174 = .ok (.lmul, 1) := by decide +kernel
theorem dX10_likely_175 : decode cX10_likely 175 = .ok (.ladd, 1) := by decide +kernel
theorem dX10_likely_176 : decode cX10_likely 176 = .ok (.lstore 11, 2) := by decide +kernel
theorem dX10_likely_178 : decode cX10_likely 178 = .ok (.lload 11, 2) := by decide +kernel
theorem dX10_likely_180 : decode cX10_likely 180 = .ok (.lconst 0, 1) := by decide +kernel
theorem dX10_likely_181 : decode cX10_likely 181 = .ok (.lcmp, 1) := by decide +kernel
theorem dX10_likely_182 : decode cX10_likely 182 = .ok (.ifCond .ne 6, 3) := by decide +kernel
theorem dX10_likely_185 : decode cX10_likely 185 = .ok (.goto 37, 3) := by decide +kernel
theorem dX10_likely_188 : decode cX10_likely 188 = .ok (.lload 9, 2) := by decide +kernel
theorem dX10_likely_190 : decode cX10_likely 190 = .ok (.ldc2_w 409, 3) := by decide +kernel
theorem dX10_likely_193 : decode cX10_likely 193 = .ok (.lmul, 1) := by decide +kernel
theorem dX10_likely_194 : decode cX10_likely 194 = .ok (.lload 11, 2) := by decide +kernel
theorem dX10_likely_196 : decode cX10_likely 196 = .ok (.ldiv, 1) := by decide +kernel
theorem dX10_likely_197 : decode cX10_likely 197 = .ok (.lstore 7, 2) := by decide +kernel
theorem dX10_likely_199 : decode cX10_likely 199 = .ok (.aload_n 0, 1) := by decide +kernel
theorem dX10_likely_200 : decode cX10_likely 200 = .ok (.iload 5, 2) := by decide +kernel
theorem dX10_likely_202 : decode cX10_likely 202 = .ok (.iconst 4, 1) := by decide +kernel
theorem dX10_likely_203 : decode cX10_likely 203 = .ok (.invokevirtual 346, 3) := by decide +kernel
theorem dX10_likely_206 : decode cX10_likely 206 = .ok (.iconst 1, 1) := by decide +kernel
theorem dX10_likely_207 : decode cX10_likely 207 = .ok (.if_icmp .ne 12, 3) := by decide +kernel
theorem dX10_likely_210 : decode cX10_likely 210 = .ok (.ldc2_w 409, 3) := by decide +kernel
theorem dX10_likely_213 : decode cX10_likely 213 = .ok (.lload 7, 2) := by decide +kernel
theorem dX10_likely_215 : decode cX10_likely 215 = .ok (.lsub, 1) := by decide +kernel
theorem dX10_likely_216 : decode cX10_likely 216 = .ok (.goto 5, 3) := by decide +kernel
theorem dX10_likely_219 : decode cX10_likely 219 = .ok (.lload 7, 2) := by decide +kernel
theorem dX10_likely_221 : decode cX10_likely 221 = .ok (.lstore_n 3, 1) := by decide +kernel
theorem dX10_likely_222 : decode cX10_likely 222 = .ok (.iinc 5 1, 3) := by decide +kernel
theorem dX10_likely_225 : decode cX10_likely 225 = .ok (.goto (-194), 3) := by decide +kernel
theorem dX10_likely_228 : decode cX10_likely 228 = .ok (.lload_n 3, 1) := by decide +kernel
theorem dX10_likely_229 : decode cX10_likely 229 = .ok (.l2i, 1) := by decide +kernel
theorem dX10_likely_230 : decode cX10_likely 230 = .ok (.ireturn, 1) := by decide +kernel

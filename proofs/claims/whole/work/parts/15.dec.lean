theorem dX10_mend_0 : decode cX10_mend 0 = .ok (.aload_n 0, 1) := by decide +kernel
theorem dX10_mend_1 : decode cX10_mend 1 = .ok (.iconst 0, 1) := by decide +kernel
theorem dX10_mend_2 : decode cX10_mend 2 = .ok (.putfield 122, 3) := by decide +kernel
theorem dX10_mend_5 : decode cX10_mend 5 = .ok (.aload_n 0, 1) := by decide +kernel
theorem dX10_mend_6 : decode cX10_mend 6 = .ok (.getfield 279, 3) := by decide +kernel
theorem dX10_mend_9 : decode cX10_mend 9 = .ok (.bipush 12, 2) := by decide +kernel
theorem dX10_mend_11 : decode cX10_mend 11 = .ok (.if_icmp .le 5, 3) := by decide +kernel
theorem dX10_mend_14 : decode cX10_mend 14 = .ok (.iconst (-1), 1) := by decide +kernel
theorem dX10_mend_15 : decode cX10_mend 15 = .ok (.ireturn, 1) := by decide +kernel
theorem dX10_mend_16 : decode cX10_mend 16 = .ok (.aload_n 0, 1) := by decide +kernel
theorem dX10_mend_17 : decode cX10_mend 17 = .ok (.iconst (-1), 1) := by decide +kernel
theorem dX10_mend_18 : decode cX10_mend 18 = .ok (.iconst 0, 1) := by decide +kernel
theorem dX10_mend_19 : decode cX10_mend 19 = .ok (.invokevirtual 391, 3) := by decide +kernel
theorem dX10_mend_22 : decode cX10_mend 22 = .ok (.iconst (-1), 1) := by decide +kernel
theorem dX10_mend_23 : decode cX10_mend 23 = .ok (.istore_n 1, 1) := by decide +kernel
theorem dX10_mend_24 : decode cX10_mend 24 = .ok (.iconst 0, 1) := by decide +kernel
theorem dX10_mend_25 : decode cX10_mend 25 = .ok (.istore_n 2, 1) := by decide +kernel
theorem dX10_mend_26 : decode cX10_mend 26 = .ok (.iload_n 2, 1) := by decide +kernel
theorem dX10_mend_27 : decode cX10_mend 27 = .ok (.iconst 1, 1) := by decide +kernel
theorem dX10_mend_28 : decode cX10_mend 28 = .ok (.aload_n 0, 1) := by decide +kernel
theorem dX10_mend_29 : decode cX10_mend 29 = .ok (.getfield 279, 3) := by decide +kernel
theorem dX10_mend_32 : decode cX10_mend 32 = .ok (.ishl, 1) := by decide +kernel
theorem dX10_mend_33 : decode cX10_mend 33 = .ok (.if_icmp .ge 111, 3) := by decide +kernel
theorem dX10_mend_36 : decode cX10_mend 36 = .ok (.iload_n 1, 1) := by decide +kernel
theorem dX10_mend_37 : decode cX10_mend 37 = .ok (.iconst (-1), 1) := by decide +kernel
theorem dX10_mend_38 : decode cX10_mend 38 = .ok (.if_icmp .eq 17, 3) := by decide +kernel
theorem dX10_mend_41 : decode cX10_mend 41 = .ok (.iload_n 2, 1) := by decide +kernel
theorem dX10_mend_42 : decode cX10_mend 42 = .ok (.invokestatic 295, 3) := by decide +kernel
theorem dX10_mend_45 : decode cX10_mend 45 = .ok (.iload_n 1, 1) := by decide +kernel
theorem dX10_mend_46 : decode cX10_mend 46 = .ok (.invokestatic 295, 3) := by decide +kernel
theorem dX10_mend_49 : decode cX10_mend 49 = .ok (.if_icmp .lt 6, 3) := by decide +kernel
theorem dX10_mend_52 : decode cX10_mend 52 = .ok (.goto 86, 3) := by decide +kernel
theorem dX10_mend_55 : decode cX10_mend 55 = .ok (.aload_n 0, 1) := by decide +kernel
theorem dX10_mend_56 : decode cX10_mend 56 = .ok (.aload_n 0, 1) := by decide +kernel
theorem dX10_mend_57 : decode cX10_mend 57 = .ok (.invokevirtual 394, 3) := by decide +kernel
theorem dX10_mend_60 : decode cX10_mend 60 = .ok (.iload_n 2, 1) := by decide +kernel
theorem dX10_mend_61 : decode cX10_mend 61 = .ok (.invokevirtual 398, 3) := by decide +kernel
theorem dX10_mend_64 : decode cX10_mend 64 = .ok (.iconst 1, 1) := by decide +kernel
theorem dX10_mend_65 : decode cX10_mend 65 = .ok (.istore_n 3, 1) := by decide +kernel
theorem dX10_mend_66 : decode cX10_mend 66 = .ok (.iconst 0, 1) := by decide +kernel
theorem dX10_mend_67 : decode cX10_mend 67 = .ok (.istore 4, 2) := by decide +kernel
theorem dX10_mend_69 : decode cX10_mend 69 = .ok (.iload 4, 2) := by decide +kernel
theorem dX10_mend_71 : decode cX10_mend 71 = .ok (.aload_n 0, 1) := by decide +kernel
theorem dX10_mend_72 : decode cX10_mend 72 = .ok (.getfield 279, 3) := by decide +kernel
theorem dX10_mend_75 : decode cX10_mend 75 = .ok (.if_icmp .ge 42, 3) := by decide +kernel
theorem dX10_mend_78 : decode cX10_mend 78 = .ok (.iload_n 3, 1) := by decide +kernel
theorem dX10_mend_79 : decode cX10_mend 79 = .ok (.ifCond .eq 30, 3) := by decide +kernel
theorem dX10_mend_82 : decode cX10_mend 82 = .ok (.iload_n 2, 1) := by decide +kernel
theorem dX10_mend_83 : decode cX10_mend 83 = .ok (.iload 4, 2) := by decide +kernel
theorem dX10_mend_85 : decode cX10_mend 85 = .ok (.ishr, 1) := by decide +kernel
theorem dX10_mend_86 : decode cX10_mend 86 = .ok (.iconst 1, 1) := by decide +kernel
theorem dX10_mend_87 : decode cX10_mend 87 = .ok (.iand, 1) := by decide +kernel
theorem dX10_mend_88 : decode cX10_mend 88 = .ok (.iconst 1, 1) := by decide +kernel
theorem dX10_mend_89 : decode cX10_mend 89 = .ok (.if_icmp .eq 16, 3) := by decide +kernel
theorem dX10_mend_92 : decode cX10_mend 92 = .ok (.aload_n 0, 1) := by decide +kernel
theorem dX10_mend_93 : decode cX10_mend 93 = .ok (.getfield 89, 3) := by decide +kernel
theorem dX10_mend_96 : decode cX10_mend 96 = .ok (.iload 4, 2) := by decide +kernel
theorem dX10_mend_98 : decode cX10_mend 98 = .ok (.iaload, 1) := by decide +kernel
theorem dX10_mend_99 : decode cX10_mend 99 = .ok (.sipush 1000, 3) := by decide +kernel
theorem dX10_mend_102 : decode cX10_mend 102 = .ok (.if_icmp .ge 7, 3) := by decide +kernel
theorem dX10_mend_105 : decode cX10_mend 105 = .ok (.iconst 1, 1) := by decide +kernel
theorem dX10_mend_106 : decode cX10_mend 106 = .ok (.goto 4, 3) := by decide +kernel
theorem dX10_mend_109 : decode cX10_mend 109 = .ok (.iconst 0, 1) := by decide +kernel
theorem dX10_mend_110 : decode cX10_mend 110 = .ok (.istore_n 3, 1) := by decide +kernel
theorem dX10_mend_111 : decode cX10_mend 111 = .ok (.iinc 4 1, 3) := by decide +kernel
theorem dX10_mend_114 : decode cX10_mend 114 = .ok (.goto (-45), 3) := by decide +kernel
theorem dX10_mend_117 : decode cX10_mend 117 = .ok (.iload_n 3, 1) := by decide +kernel
theorem dX10_mend_118 : decode cX10_mend 118 = .ok (.ifCond .ne 6, 3) := by decide +kernel
theorem dX10_mend_121 : decode cX10_mend 121 = .ok (.goto 17, 3) := by decide +kernel
theorem dX10_mend_124 : decode cX10_mend 124 = .ok (.iload_n 2, 1) := by decide +kernel
theorem dX10_mend_125 : decode cX10_mend 125 = .ok (.istore_n 1, 1) := by decide +kernel
theorem dX10_mend_126 : decode cX10_mend 126 = .ok (.aload_n 0, 1) := by decide +kernel
theorem dX10_mend_127 : decode cX10_mend 127 = .ok (.aload_n 0, 1) := by decide +kernel
theorem dX10_mend_128 : decode cX10_mend 128 = .ok (.getfield 92, 3) := by decide +kernel
theorem dX10_mend_131 : decode cX10_mend 131 = .ok (.aload_n 0, 1) := by decide +kernel
theorem dX10_mend_132 : decode cX10_mend 132 = .ok (.getfield 116, 3) := by decide +kernel
theorem dX10_mend_135 : decode cX10_mend 135 = .ok (.invokevirtual 275, 3) := by decide +kernel
theorem dX10_mend_138 : decode cX10_mend 138 = .ok (.iinc 2 1, 3) := by decide +kernel
theorem dX10_mend_141 : decode cX10_mend 141 = .ok (.goto (-115), 3) := by decide +kernel
theorem dX10_mend_144 : decode cX10_mend 144 = .ok (.aload_n 0, 1) := by decide +kernel
theorem dX10_mend_145 : decode cX10_mend 145 = .ok (.aload_n 0, 1) := by decide +kernel
theorem dX10_mend_146 : decode cX10_mend 146 = .ok (.getfield 279, 3) := by decide +kernel
theorem dX10_mend_149 : decode cX10_mend 149 = .ok (.putfield 113, 3) := by decide +kernel
theorem dX10_mend_152 : decode cX10_mend 152 = .ok (.iload_n 1, 1) := by decide +kernel
theorem dX10_mend_153 : decode cX10_mend 153 = .ok (.invokestatic 295, 3) := by decide +kernel
theorem dX10_mend_156 : decode cX10_mend 156 = .ok (.ireturn, 1) := by decide +kernel
theorem dX10_mended_0 : decode cX10_mended 0 = .ok (.aload_n 0, 1) := by decide +kernel
theorem dX10_mended_1 : decode cX10_mended 1 = .ok (.iconst 0, 1) := by decide +kernel
theorem dX10_mended_2 : decode cX10_mended 2 = .ok (.putfield 122, 3) := by decide +kernel
theorem dX10_mended_5 : decode cX10_mended 5 = .ok (.aload_n 0, 1) := by decide +kernel
theorem dX10_mended_6 : decode cX10_mended 6 = .ok (.iload_n 1, 1) := by decide +kernel
theorem dX10_mended_7 : decode cX10_mended 7 = .ok (.ifCond .lt 15, 3) := by decide +kernel
theorem dX10_mended_10 : decode cX10_mended 10 = .ok (.iload_n 1, 1) := by decide +kernel
theorem dX10_mended_11 : decode cX10_mended 11 = .ok (.aload_n 0, 1) := by decide +kernel
theorem dX10_mended_12 : decode cX10_mended 12 = .ok (.getfield 113, 3) := by decide +kernel
theorem dX10_mended_15 : decode cX10_mended 15 = .ok (.if_icmp .ge 7, 3) := by decide +kernel
theorem dX10_mended_18 : decode cX10_mended 18 = .ok (.iconst 1, 1) := by decide +kernel
theorem dX10_mended_19 : decode cX10_mended 19 = .ok (.goto 4, 3) := by decide +kernel
theorem dX10_mended_22 : decode cX10_mended 22 = .ok (.iconst 0, 1) := by decide +kernel
theorem dX10_mended_23 : decode cX10_mended 23 = .ok (.iconst 1, 1) := by decide +kernel
theorem dX10_mended_24 : decode cX10_mended 24 = .ok (.invokevirtual 250, 3) := by decide +kernel
theorem dX10_mended_27 : decode cX10_mended 27 = .ok (.ifCond .eq 12, 3) := by decide +kernel
theorem dX10_mended_30 : decode cX10_mended 30 = .ok (.aload_n 0, 1) := by decide +kernel
theorem dX10_mended_31 : decode cX10_mended 31 = .ok (.getfield 116, 3) := by decide +kernel
theorem dX10_mended_34 : decode cX10_mended 34 = .ok (.iload_n 1, 1) := by decide +kernel
theorem dX10_mended_35 : decode cX10_mended 35 = .ok (.iaload, 1) := by decide +kernel
theorem dX10_mended_36 : decode cX10_mended 36 = .ok (.goto 4, 3) := by decide +kernel
theorem dX10_mended_39 : decode cX10_mended 39 = .ok (.iconst 0, 1) := by decide +kernel
theorem dX10_mended_40 : decode cX10_mended 40 = .ok (.ireturn, 1) := by decide +kernel
theorem dX10_restore_0 : decode cX10_restore 0 = .ok (.aload_n 0, 1) := by decide +kernel
theorem dX10_restore_1 : decode cX10_restore 1 = .ok (.iconst 0, 1) := by decide +kernel
theorem dX10_restore_2 : decode cX10_restore 2 = .ok (.putfield 122, 3) := by decide +kernel
theorem dX10_restore_5 : decode cX10_restore 5 = .ok (.aload_n 0, 1) := by decide +kernel
theorem dX10_restore_6 : decode cX10_restore 6 = .ok (.getfield 288, 3) := by decide +kernel
theorem dX10_restore_9 : decode cX10_restore 9 = .ok (.ifCond .ne 5, 3) := by decide +kernel
theorem dX10_restore_12 : decode cX10_restore 12 = .ok (.iconst 0, 1) := by decide +kernel
theorem dX10_restore_13 : decode cX10_restore 13 = .ok (.ireturn, 1) := by decide +kernel
theorem dX10_restore_14 : decode cX10_restore 14 = .ok (.aload_n 0, 1) := by decide +kernel
theorem dX10_restore_15 : decode cX10_restore 15 = .ok (.aload_n 0, 1) := by decide +kernel
theorem dX10_restore_16 : decode cX10_restore 16 = .ok (.getfield 430, 3) := by decide +kernel
theorem dX10_restore_19 : decode cX10_restore 19 = .ok (.putfield 279, 3) := by decide +kernel
theorem dX10_restore_22 : decode cX10_restore 22 = .ok (.aload_n 0, 1) := by decide +kernel
theorem dX10_restore_23 : decode cX10_restore 23 = .ok (.aload_n 0, 1) := by decide +kernel
theorem dX10_restore_24 : decode cX10_restore 24 = .ok (.getfield 433, 3) := by decide +kernel
theorem dX10_restore_27 : decode cX10_restore 27 = .ok (.putfield 282, 3) := by decide +kernel
theorem dX10_restore_30 : decode cX10_restore 30 = .ok (.aload_n 0, 1) := by decide +kernel
theorem dX10_restore_31 : decode cX10_restore 31 = .ok (.aload_n 0, 1) := by decide +kernel
theorem dX10_restore_32 : decode cX10_restore 32 = .ok (.getfield 436, 3) := by decide +kernel
theorem dX10_restore_35 : decode cX10_restore 35 = .ok (.putfield 285, 3) := by decide +kernel
theorem dX10_restore_38 : decode cX10_restore 38 = .ok (.aload_n 0, 1) := by decide +kernel
theorem dX10_restore_39 : decode cX10_restore 39 = .ok (.aload_n 0, 1) := by decide +kernel
theorem dX10_restore_40 : decode cX10_restore 40 = .ok (.getfield 119, 3) := by decide +kernel
theorem dX10_restore_43 : decode cX10_restore 43 = .ok (.aload_n 0, 1) := by decide +kernel
theorem dX10_restore_44 : decode cX10_restore 44 = .ok (.getfield 83, 3) := by decide +kernel
theorem dX10_restore_47 : decode cX10_restore 47 = .ok (.invokevirtual 275, 3) := by decide +kernel
theorem dX10_restore_50 : decode cX10_restore 50 = .ok (.iconst 1, 1) := by decide +kernel
theorem dX10_restore_51 : decode cX10_restore 51 = .ok (.ireturn, 1) := by decide +kernel
theorem dX10_refuses_0 : decode cX10_refuses 0 = .ok (.aload_n 0, 1) := by decide +kernel
theorem dX10_refuses_1 : decode cX10_refuses 1 = .ok (.getfield 47, 3) := by decide +kernel
theorem dX10_refuses_4 : decode cX10_refuses 4 = .ok (.iload_n 1, 1) := by decide +kernel
theorem dX10_refuses_5 : decode cX10_refuses 5 = .ok (.dup2, 1) := by decide +kernel
theorem dX10_refuses_6 : decode cX10_refuses 6 = .ok (.iaload, 1) := by decide +kernel
theorem dX10_refuses_7 : decode cX10_refuses 7 = .ok (.iconst 1, 1) := by decide +kernel
theorem dX10_refuses_8 : decode cX10_refuses 8 = .ok (.iadd, 1) := by decide +kernel
theorem dX10_refuses_9 : decode cX10_refuses 9 = .ok (.iastore, 1) := by decide +kernel
theorem dX10_refuses_10 : decode cX10_refuses 10 = .ok (.iconst (-1), 1) := by decide +kernel
theorem dX10_refuses_11 : decode cX10_refuses 11 = .ok (.ireturn, 1) := by decide +kernel
theorem dX10_adds5_0 : decode cX10_adds5 0 = .ok (.iconst 5, 1) := by decide +kernel
theorem dX10_adds5_1 : decode cX10_adds5 1 = .ok (.aload_n 0, 1) := by decide +kernel
theorem dX10_adds5_2 : decode cX10_adds5 2 = .ok (.getfield 279, 3) := by decide +kernel
theorem dX10_adds5_5 : decode cX10_adds5 5 = .ok (.imul, 1) := by decide +kernel
theorem dX10_adds5_6 : decode cX10_adds5 6 = .ok (.istore 6, 2) := by decide +kernel
theorem dX10_adds5_8 : decode cX10_adds5 8 = .ok (.aload_n 0, 1) := by decide +kernel
theorem dX10_adds5_9 : decode cX10_adds5 9 = .ok (.getfield 83, 3) := by decide +kernel
theorem dX10_adds5_12 : decode cX10_adds5 12 = .ok (.iload 6, 2) := by decide +kernel
theorem dX10_adds5_14 : decode cX10_adds5 14 = .ok (.iload_n 1, 1) := by decide +kernel
theorem dX10_adds5_15 : decode cX10_adds5 15 = .ok (.iastore, 1) := by decide +kernel
theorem dX10_adds5_16 : decode cX10_adds5 16 = .ok (.aload_n 0, 1) := by decide +kernel
theorem dX10_adds5_17 : decode cX10_adds5 17 = .ok (.getfield 83, 3) := by decide +kernel
theorem dX10_adds5_20 : decode cX10_adds5 20 = .ok (.iload 6, 2) := by decide +kernel
theorem dX10_adds5_22 : decode cX10_adds5 22 = .ok (.iconst 1, 1) := by decide +kernel
theorem dX10_adds5_23 : decode cX10_adds5 23 = .ok (.iadd, 1) := by decide +kernel
theorem dX10_adds5_24 : decode cX10_adds5 24 = .ok (.iload_n 2, 1) := by decide +kernel
theorem dX10_adds5_25 : decode cX10_adds5 25 = .ok (.iastore, 1) := by decide +kernel
theorem dX10_adds5_26 : decode cX10_adds5 26 = .ok (.aload_n 0, 1) := by decide +kernel
theorem dX10_adds5_27 : decode cX10_adds5 27 = .ok (.getfield 83, 3) := by decide +kernel
theorem dX10_adds5_30 : decode cX10_adds5 30 = .ok (.iload 6, 2) := by decide +kernel
theorem dX10_adds5_32 : decode cX10_adds5 32 = .ok (.iconst 2, 1) := by decide +kernel
theorem dX10_adds5_33 : decode cX10_adds5 33 = .ok (.iadd, 1) := by decide +kernel
theorem dX10_adds5_34 : decode cX10_adds5 34 = .ok (.iload_n 3, 1) := by decide +kernel
theorem dX10_adds5_35 : decode cX10_adds5 35 = .ok (.iastore, 1) := by decide +kernel
theorem dX10_adds5_36 : decode cX10_adds5 36 = .ok (.aload_n 0, 1) := by decide +kernel
theorem dX10_adds5_37 : decode cX10_adds5 37 = .ok (.getfield 83, 3) := by decide +kernel
theorem dX10_adds5_40 : decode cX10_adds5 40 = .ok (.iload 6, 2) := by decide +kernel
theorem dX10_adds5_42 : decode cX10_adds5 42 = .ok (.iconst 3, 1) := by decide +kernel
theorem dX10_adds5_43 : decode cX10_adds5 43 = .ok (.iadd, 1) := by decide +kernel
theorem dX10_adds5_44 : decode cX10_adds5 44 = .ok (.iload 4, 2) := by decide +kernel
theorem dX10_adds5_46 : decode cX10_adds5 46 = .ok (.iastore, 1) := by decide +kernel
theorem dX10_adds5_47 : decode cX10_adds5 47 = .ok (.aload_n 0, 1) := by decide +kernel
theorem dX10_adds5_48 : decode cX10_adds5 48 = .ok (.getfield 83, 3) := by decide +kernel
theorem dX10_adds5_51 : decode cX10_adds5 51 = .ok (.iload 6, 2) := by decide +kernel
theorem dX10_adds5_53 : decode cX10_adds5 53 = .ok (.iconst 4, 1) := by decide +kernel
theorem dX10_adds5_54 : decode cX10_adds5 54 = .ok (.iadd, 1) := by decide +kernel
theorem dX10_adds5_55 : decode cX10_adds5 55 = .ok (.iload 5, 2) := by decide +kernel
theorem dX10_adds5_57 : decode cX10_adds5 57 = .ok (.iastore, 1) := by decide +kernel
theorem dX10_adds5_58 : decode cX10_adds5 58 = .ok (.aload_n 0, 1) := by decide +kernel
theorem dX10_adds5_59 : decode cX10_adds5 59 = .ok (.dup, 1) := by decide +kernel
theorem dX10_adds5_60 : decode cX10_adds5 60 = .ok (.getfield 279, 3) := by decide +kernel
theorem dX10_adds5_63 : decode cX10_adds5 63 = .ok (.iconst 1, 1) := by decide +kernel
theorem dX10_adds5_64 : decode cX10_adds5 64 = .ok (.iadd, 1) := by decide +kernel
theorem dX10_adds5_65 : decode cX10_adds5 65 = .ok (.putfield 279, 3) := by decide +kernel
theorem dX10_adds5_68 : decode cX10_adds5 68 = .ok (.aload_n 0, 1) := by decide +kernel
theorem dX10_adds5_69 : decode cX10_adds5 69 = .ok (.getfield 279, 3) := by decide +kernel
theorem dX10_adds5_72 : decode cX10_adds5 72 = .ok (.ireturn, 1) := by decide +kernel
theorem dX10_say_0 : decode cX10_say 0 = .ok (.aload_n 0, 1) := by decide +kernel
theorem dX10_say_1 : decode cX10_say 1 = .ok (.iconst 0, 1) := by decide +kernel
theorem dX10_say_2 : decode cX10_say 2 = .ok (.putfield 122, 3) := by decide +kernel
theorem dX10_say_5 : decode cX10_say 5 = .ok (.aload_n 0, 1) := by decide +kernel
theorem dX10_say_6 : decode cX10_say 6 = .ok (.iload_n 1, 1) := by decide +kernel
theorem dX10_say_7 : decode cX10_say 7 = .ok (.iload_n 2, 1) := by decide +kernel
theorem dX10_say_8 : decode cX10_say 8 = .ok (.invokevirtual 298, 3) := by decide +kernel
theorem dX10_say_11 : decode cX10_say 11 = .ok (.ifCond .eq 11, 3) := by decide +kernel
theorem dX10_say_14 : decode cX10_say 14 = .ok (.aload_n 0, 1) := by decide +kernel
theorem dX10_say_15 : decode cX10_say 15 = .ok (.iload_n 3, 1) := by decide +kernel
theorem dX10_say_16 : decode cX10_say 16 = .ok (.invokevirtual 302, 3) := by decide +kernel
theorem dX10_say_19 : decode cX10_say 19 = .ok (.ifCond .ne 5, 3) := by decide +kernel
theorem dX10_say_22 : decode cX10_say 22 = .ok (.iconst 0, 1) := by decide +kernel
theorem dX10_say_23 : decode cX10_say 23 = .ok (.ireturn, 1) := by decide +kernel
theorem dX10_say_24 : decode cX10_say 24 = .ok (.aload_n 0, 1) := by decide +kernel
theorem dX10_say_25 : decode cX10_say 25 = .ok (.getfield 279, 3) := by decide +kernel
theorem dX10_say_28 : decode cX10_say 28 = .ok (.bipush 20, 2) := by decide +kernel
theorem dX10_say_30 : decode cX10_say 30 = .ok (.if_icmp .eq 13, 3) := by decide +kernel
theorem dX10_say_33 : decode cX10_say 33 = .ok (.iload 4, 2) := by decide +kernel
theorem dX10_say_35 : decode cX10_say 35 = .ok (.iconst 0, 1) := by decide +kernel
theorem dX10_say_36 : decode cX10_say 36 = .ok (.iconst 4, 1) := by decide +kernel
theorem dX10_say_37 : decode cX10_say 37 = .ok (.invokestatic 291, 3) := by decide +kernel
theorem dX10_say_40 : decode cX10_say 40 = .ok (.ifCond .ne 9, 3) := by decide +kernel
theorem dX10_say_43 : decode cX10_say 43 = .ok (.aload_n 0, 1) := by decide +kernel
theorem dX10_say_44 : decode cX10_say 44 = .ok (.iconst 1, 1) := by decide +kernel
theorem dX10_say_45 : decode cX10_say 45 = .ok (.invokevirtual 327, 3) := by decide +kernel
theorem dX10_say_48 : decode cX10_say 48 = .ok (.ireturn, 1) := by decide +kernel
theorem dX10_say_49 : decode cX10_say 49 = .ok (.aload_n 0, 1) := by decide +kernel
theorem dX10_say_50 : decode cX10_say 50 = .ok (.iload_n 1, 1) := by decide +kernel
theorem dX10_say_51 : decode cX10_say 51 = .ok (.iload_n 2, 1) := by decide +kernel
theorem dX10_say_52 : decode cX10_say 52 = .ok (.iload_n 3, 1) := by decide +kernel
theorem dX10_say_53 : decode cX10_say 53 = .ok (.iload 4, 2) := by decide +kernel
theorem dX10_say_55 : decode cX10_say 55 = .ok (.iload 5, 2) := by decide +kernel
theorem dX10_say_57 : decode cX10_say 57 = .ok (.ifCond .eq 7, 3) := by decide +kernel
theorem dX10_say_60 : decode cX10_say 60 = .ok (.iconst 1, 1) := by decide +kernel
theorem dX10_say_61 : decode cX10_say 61 = .ok (.goto 4, 3) := by decide +kernel
theorem dX10_say_64 : decode cX10_say 64 = .ok (.iconst 0, 1) := by decide +kernel
theorem dX10_say_65 : decode cX10_say 65 = .ok (.invokevirtual 330, 3) := by decide +kernel
theorem dX10_say_68 : decode cX10_say 68 = .ok (.ireturn, 1) := by decide +kernel
theorem dX10_ruleEyes_0 : decode cX10_ruleEyes 0 = .ok (.iconst 0, 1) := by decide +kernel
theorem dX10_ruleEyes_1 : decode cX10_ruleEyes 1 = .ok (.istore_n 3, 1) := by decide +kernel
theorem dX10_ruleEyes_2 : decode cX10_ruleEyes 2 = .ok (.iconst 0, 1) := by decide +kernel
theorem dX10_ruleEyes_3 : decode cX10_ruleEyes 3 = .ok (.istore 4, 2) := by decide +kernel
theorem dX10_ruleEyes_5 : decode cX10_ruleEyes 5 = .ok (.iload 4, 2) := by decide +kernel
theorem dX10_ruleEyes_7 : decode cX10_ruleEyes 7 = .ok (.aload_n 0, 1) := by decide +kernel
theorem dX10_ruleEyes_8 : decode cX10_ruleEyes 8 = .ok (.getfield 272, 3) := by decide +kernel
theorem dX10_ruleEyes_11 : decode cX10_ruleEyes 11 = .ok (.if_icmp .ge 141, 3) := by decide +kernel
theorem dX10_ruleEyes_14 : decode cX10_ruleEyes 14 = .ok (.aload_n 0, 1) := by decide +kernel
theorem dX10_ruleEyes_15 : decode cX10_ruleEyes 15 = .ok (.getfield 29, 3) := by decide +kernel
theorem dX10_ruleEyes_18 : decode cX10_ruleEyes 18 = .ok (.iconst 5, 1) := by decide +kernel
theorem dX10_ruleEyes_19 : decode cX10_ruleEyes 19 = .ok (.iload 4, 2) := by decide +kernel
theorem dX10_ruleEyes_21 : decode cX10_ruleEyes 21 = .ok (.imul, 1) := by decide +kernel
theorem dX10_ruleEyes_22 : decode cX10_ruleEyes 22 = .ok (.iconst 1, 1) := by decide +kernel
theorem dX10_ruleEyes_23 : decode cX10_ruleEyes 23 = .ok (.iadd, 1) := by decide +kernel
theorem dX10_ruleEyes_24 : decode cX10_ruleEyes 24 = .ok (.iaload, 1) := by decide +kernel
theorem dX10_ruleEyes_25 : decode cX10_ruleEyes 25 = .ok (.iload_n 2, 1) := by decide +kernel
theorem dX10_ruleEyes_26 : decode cX10_ruleEyes 26 = .ok (.if_icmp .eq 6, 3) := by decide +kernel
theorem dX10_ruleEyes_29 : decode cX10_ruleEyes 29 = .ok (.goto 117, 3) := by decide +kernel
theorem dX10_ruleEyes_32 : decode cX10_ruleEyes 32 = .ok (.iconst 0, 1) := by decide +kernel
theorem dX10_ruleEyes_33 : decode cX10_ruleEyes 33 = .ok (.istore 5, 2) := by decide +kernel
theorem dX10_ruleEyes_35 : decode cX10_ruleEyes 35 = .ok (.iconst 1, 1) := by decide +kernel
theorem dX10_ruleEyes_36 : decode cX10_ruleEyes 36 = .ok (.istore 6, 2) := by decide +kernel
theorem dX10_ruleEyes_38 : decode cX10_ruleEyes 38 = .ok (.iconst 1, 1) := by decide +kernel
theorem dX10_ruleEyes_39 : decode cX10_ruleEyes 39 = .ok (.istore 7, 2) := by decide +kernel
theorem dX10_ruleEyes_41 : decode cX10_ruleEyes 41 = .ok (.iload 7, 2) := by decide +kernel
theorem dX10_ruleEyes_43 : decode cX10_ruleEyes 43 = .ok (.aload_n 0, 1) := by decide +kernel
theorem dX10_ruleEyes_44 : decode cX10_ruleEyes 44 = .ok (.getfield 29, 3) := by decide +kernel
theorem dX10_ruleEyes_47 : decode cX10_ruleEyes 47 = .ok (.iconst 5, 1) := by decide +kernel
theorem dX10_ruleEyes_48 : decode cX10_ruleEyes 48 = .ok (.iload 4, 2) := by decide +kernel
theorem dX10_ruleEyes_50 : decode cX10_ruleEyes 50 = .ok (.imul, 1) := by decide +kernel
theorem dX10_ruleEyes_51 : decode cX10_ruleEyes 51 = .ok (.iaload, 1) := by decide +kernel
theorem dX10_ruleEyes_52 : decode cX10_ruleEyes 52 = .ok (.if_icmp .ge 80, 3) := by decide +kernel
theorem dX10_ruleEyes_55 : decode cX10_ruleEyes 55 = .ok (.iload 6, 2) := by decide +kernel
theorem dX10_ruleEyes_57 : decode cX10_ruleEyes 57 = .ok (.ifCond .eq 37, 3) := by decide +kernel
theorem dX10_ruleEyes_60 : decode cX10_ruleEyes 60 = .ok (.aload_n 0, 1) := by decide +kernel
theorem dX10_ruleEyes_61 : decode cX10_ruleEyes 61 = .ok (.getfield 104, 3) := by decide +kernel
theorem dX10_ruleEyes_64 : decode cX10_ruleEyes 64 = .ok (.bipush 8, 2) := by decide +kernel
theorem dX10_ruleEyes_66 : decode cX10_ruleEyes 66 = .ok (.iload_n 1, 1) := by decide +kernel
theorem dX10_ruleEyes_67 : decode cX10_ruleEyes 67 = .ok (.imul, 1) := by decide +kernel
theorem dX10_ruleEyes_68 : decode cX10_ruleEyes 68 = .ok (.aload_n 0, 1) := by decide +kernel
theorem dX10_ruleEyes_69 : decode cX10_ruleEyes 69 = .ok (.getfield 29, 3) := by decide +kernel
theorem dX10_ruleEyes_72 : decode cX10_ruleEyes 72 = .ok (.iconst 5, 1) := by decide +kernel
theorem dX10_ruleEyes_73 : decode cX10_ruleEyes 73 = .ok (.iload 4, 2) := by decide +kernel
theorem dX10_ruleEyes_75 : decode cX10_ruleEyes 75 = .ok (.imul, 1) := by decide +kernel
theorem dX10_ruleEyes_76 : decode cX10_ruleEyes 76 = .ok (.iconst 1, 1) := by decide +kernel
theorem dX10_ruleEyes_77 : decode cX10_ruleEyes 77 = .ok (.iadd, 1) := by decide +kernel
theorem dX10_ruleEyes_78 : decode cX10_ruleEyes 78 = .ok (.iload 7, 2) := by decide +kernel
theorem dX10_ruleEyes_80 : decode cX10_ruleEyes 80 = .ok (.iadd, 1) := by decide +kernel
theorem dX10_ruleEyes_81 : decode cX10_ruleEyes 81 = .ok (.iaload, 1) := by decide +kernel
theorem dX10_ruleEyes_82 : decode cX10_ruleEyes 82 = .ok (.iadd, 1) := by decide +kernel
theorem dX10_ruleEyes_83 : decode cX10_ruleEyes 83 = .ok (.iaload, 1) := by decide +kernel
theorem dX10_ruleEyes_84 : decode cX10_ruleEyes 84 = .ok (.sipush 1000, 3) := by decide +kernel
theorem dX10_ruleEyes_87 : decode cX10_ruleEyes 87 = .ok (.if_icmp .ge 7, 3) := by decide +kernel
theorem dX10_ruleEyes_90 : decode cX10_ruleEyes 90 = .ok (.iconst 1, 1) := by decide +kernel
theorem dX10_ruleEyes_91 : decode cX10_ruleEyes 91 = .ok (.goto 4, 3) := by decide +kernel
theorem dX10_ruleEyes_94 : decode cX10_ruleEyes 94 = .ok (.iconst 0, 1) := by decide +kernel
theorem dX10_ruleEyes_95 : decode cX10_ruleEyes 95 = .ok (.istore 6, 2) := by decide +kernel
theorem dX10_ruleEyes_97 : decode cX10_ruleEyes 97 = .ok (.iload 5, 2) := by decide +kernel
theorem dX10_ruleEyes_99 : decode cX10_ruleEyes 99 = .ok (.aload_n 0, 1) := by decide +kernel
theorem dX10_ruleEyes_100 : decode cX10_ruleEyes 100 = .ok (.getfield 110, 3) := by decide +kernel
theorem dX10_ruleEyes_103 : decode cX10_ruleEyes 103 = .ok (.bipush 8, 2) := by decide +kernel
theorem dX10_ruleEyes_105 : decode cX10_ruleEyes 105 = .ok (.iload_n 1, 1) := by decide +kernel
theorem dX10_ruleEyes_106 : decode cX10_ruleEyes 106 = .ok (.imul, 1) := by decide +kernel
theorem dX10_ruleEyes_107 : decode cX10_ruleEyes 107 = .ok (.aload_n 0, 1) := by decide +kernel
theorem dX10_ruleEyes_108 : decode cX10_ruleEyes 108 = .ok (.getfield 29, 3) := by decide +kernel
theorem dX10_ruleEyes_111 : decode cX10_ruleEyes 111 = .ok (.iconst 5, 1) := by decide +kernel
theorem dX10_ruleEyes_112 : decode cX10_ruleEyes 112 = .ok (.iload 4, 2) := by decide +kernel
theorem dX10_ruleEyes_114 : decode cX10_ruleEyes 114 = .ok (.imul, 1) := by decide +kernel
theorem dX10_ruleEyes_115 : decode cX10_ruleEyes 115 = .ok (.iconst 1, 1) := by decide +kernel
theorem dX10_ruleEyes_116 : decode cX10_ruleEyes 116 = .ok (.iadd, 1) := by decide +kernel
theorem dX10_ruleEyes_117 : decode cX10_ruleEyes 117 = .ok (.iload 7, 2) := by decide +kernel
theorem dX10_ruleEyes_119 : decode cX10_ruleEyes 119 = .ok (.iadd, 1) := by decide +kernel
theorem dX10_ruleEyes_120 : decode cX10_ruleEyes 120 = .ok (.iaload, 1) := by decide +kernel
theorem dX10_ruleEyes_121 : decode cX10_ruleEyes 121 = .ok (.iadd, 1) := by decide +kernel
theorem dX10_ruleEyes_122 : decode cX10_ruleEyes 122 = .ok (.iaload, 1) := by decide +kernel
theorem dX10_ruleEyes_123 : decode cX10_ruleEyes 123 = .ok (.ior, 1) := by decide +kernel
theorem dX10_ruleEyes_124 : decode cX10_ruleEyes 124 = .ok (.istore 5, 2) := by decide +kernel
theorem dX10_ruleEyes_126 : decode cX10_ruleEyes 126 = .ok (.iinc 7 1, 3) := by decide +kernel
theorem dX10_ruleEyes_129 : decode cX10_ruleEyes 129 = .ok (.goto (-88), 3) := by decide +kernel
theorem dX10_ruleEyes_132 : decode cX10_ruleEyes 132 = .ok (.iload_n 3, 1) := by decide +kernel
theorem dX10_ruleEyes_133 : decode cX10_ruleEyes 133 = .ok (.iload 6, 2) := by decide +kernel
theorem dX10_ruleEyes_135 : decode cX10_ruleEyes 135 = .ok (.ifCond .eq 8, 3) := by decide +kernel
theorem dX10_ruleEyes_138 : decode cX10_ruleEyes 138 = .ok (.iload 5, 2) := by decide +kernel
theorem dX10_ruleEyes_140 : decode cX10_ruleEyes 140 = .ok (.goto 4, 3) := by decide +kernel
theorem dX10_ruleEyes_143 : decode cX10_ruleEyes 143 = .ok (.iconst 0, 1) := by decide +kernel
theorem dX10_ruleEyes_144 : decode cX10_ruleEyes 144 = .ok (.ior, 1) := by decide +kernel
theorem dX10_ruleEyes_145 : decode cX10_ruleEyes 145 = .ok (.istore_n 3, 1) := by decide +kernel
theorem dX10_ruleEyes_146 : decode cX10_ruleEyes 146 = .ok (.iinc 4 1, 3) := by decide +kernel
theorem dX10_ruleEyes_149 : decode cX10_ruleEyes 149 = .ok (.goto (-144), 3) := by decide +kernel
theorem dX10_ruleEyes_152 : decode cX10_ruleEyes 152 = .ok (.iload_n 3, 1) := by decide +kernel
theorem dX10_ruleEyes_153 : decode cX10_ruleEyes 153 = .ok (.ireturn, 1) := by decide +kernel
theorem dX10_toldEyes_0 : decode cX10_toldEyes 0 = .ok (.iconst 0, 1) := by decide +kernel
theorem dX10_toldEyes_1 : decode cX10_toldEyes 1 = .ok (.istore 5, 2) := by decide +kernel
theorem dX10_toldEyes_3 : decode cX10_toldEyes 3 = .ok (.iconst 0, 1) := by decide +kernel
theorem dX10_toldEyes_4 : decode cX10_toldEyes 4 = .ok (.istore 6, 2) := by decide +kernel
theorem dX10_toldEyes_6 : decode cX10_toldEyes 6 = .ok (.iload 6, 2) := by decide +kernel
theorem dX10_toldEyes_8 : decode cX10_toldEyes 8 = .ok (.aload_n 0, 1) := by decide +kernel
theorem dX10_toldEyes_9 : decode cX10_toldEyes 9 = .ok (.getfield 279, 3) := by decide +kernel
theorem dX10_toldEyes_12 : decode cX10_toldEyes 12 = .ok (.if_icmp .ge 48, 3) := by decide +kernel
theorem dX10_toldEyes_15 : decode cX10_toldEyes 15 = .ok (.aload_n 0, 1) := by decide +kernel
theorem dX10_toldEyes_16 : decode cX10_toldEyes 16 = .ok (.getfield 89, 3) := by decide +kernel
theorem dX10_toldEyes_19 : decode cX10_toldEyes 19 = .ok (.iload 6, 2) := by decide +kernel
theorem dX10_toldEyes_21 : decode cX10_toldEyes 21 = .ok (.iaload, 1) := by decide +kernel
theorem dX10_toldEyes_22 : decode cX10_toldEyes 22 = .ok (.sipush 1000, 3) := by decide +kernel
theorem dX10_toldEyes_25 : decode cX10_toldEyes 25 = .ok (.if_icmp .ge 29, 3) := by decide +kernel
theorem dX10_toldEyes_28 : decode cX10_toldEyes 28 = .ok (.aload_n 0, 1) := by decide +kernel
theorem dX10_toldEyes_29 : decode cX10_toldEyes 29 = .ok (.iload 6, 2) := by decide +kernel
theorem dX10_toldEyes_31 : decode cX10_toldEyes 31 = .ok (.iload_n 1, 1) := by decide +kernel
theorem dX10_toldEyes_32 : decode cX10_toldEyes 32 = .ok (.iload_n 2, 1) := by decide +kernel
theorem dX10_toldEyes_33 : decode cX10_toldEyes 33 = .ok (.iload_n 3, 1) := by decide +kernel
theorem dX10_toldEyes_34 : decode cX10_toldEyes 34 = .ok (.iload 4, 2) := by decide +kernel
theorem dX10_toldEyes_36 : decode cX10_toldEyes 36 = .ok (.invokevirtual 358, 3) := by decide +kernel
theorem dX10_toldEyes_39 : decode cX10_toldEyes 39 = .ok (.ifCond .eq 15, 3) := by decide +kernel
theorem dX10_toldEyes_42 : decode cX10_toldEyes 42 = .ok (.iload 5, 2) := by decide +kernel
theorem dX10_toldEyes_44 : decode cX10_toldEyes 44 = .ok (.aload_n 0, 1) := by decide +kernel
theorem dX10_toldEyes_45 : decode cX10_toldEyes 45 = .ok (.getfield 107, 3) := by decide +kernel
theorem dX10_toldEyes_48 : decode cX10_toldEyes 48 = .ok (.iload 6, 2) := by decide +kernel
theorem dX10_toldEyes_50 : decode cX10_toldEyes 50 = .ok (.iaload, 1) := by decide +kernel
theorem dX10_toldEyes_51 : decode cX10_toldEyes 51 = .ok (.ior, 1) := by decide +kernel
theorem dX10_toldEyes_52 : decode cX10_toldEyes 52 = .ok (.istore 5, 2) := by decide +kernel
theorem dX10_toldEyes_54 : decode cX10_toldEyes 54 = .ok (.iinc 6 1, 3) := by decide +kernel
theorem dX10_toldEyes_57 : decode cX10_toldEyes 57 = .ok (.goto (-51), 3) := by decide +kernel
theorem dX10_toldEyes_60 : decode cX10_toldEyes 60 = .ok (.iload 5, 2) := by decide +kernel
theorem dX10_toldEyes_62 : decode cX10_toldEyes 62 = .ok (.ireturn, 1) := by decide +kernel
theorem dX10_eyesBy_0 : decode cX10_eyesBy 0 = .ok (.aload_n 0, 1) := by decide +kernel
theorem dX10_eyesBy_1 : decode cX10_eyesBy 1 = .ok (.getfield 95, 3) := by decide +kernel
theorem dX10_eyesBy_4 : decode cX10_eyesBy 4 = .ok (.iload_n 1, 1) := by decide +kernel
theorem dX10_eyesBy_5 : decode cX10_eyesBy 5 = .ok (.iaload, 1) := by decide +kernel
theorem dX10_eyesBy_6 : decode cX10_eyesBy 6 = .ok (.istore 5, 2) := by decide +kernel
theorem dX10_eyesBy_8 : decode cX10_eyesBy 8 = .ok (.iload 4, 2) := by decide +kernel
theorem dX10_eyesBy_10 : decode cX10_eyesBy 10 = .ok (.iconst 4, 1) := by decide +kernel
theorem dX10_eyesBy_11 : decode cX10_eyesBy 11 = .ok (.if_icmp .ne 5, 3) := by decide +kernel
theorem dX10_eyesBy_14 : decode cX10_eyesBy 14 = .ok (.iconst 0, 1) := by decide +kernel
theorem dX10_eyesBy_15 : decode cX10_eyesBy 15 = .ok (.ireturn, 1) := by decide +kernel
theorem dX10_eyesBy_16 : decode cX10_eyesBy 16 = .ok (.iload 4, 2) := by decide +kernel
theorem dX10_eyesBy_18 : decode cX10_eyesBy 18 = .ok (.iconst 2, 1) := by decide +kernel
theorem dX10_eyesBy_19 : decode cX10_eyesBy 19 = .ok (.if_icmp .ne 18, 3) := by decide +kernel
theorem dX10_eyesBy_22 : decode cX10_eyesBy 22 = .ok (.aload_n 0, 1) := by decide +kernel
theorem dX10_eyesBy_23 : decode cX10_eyesBy 23 = .ok (.iload 5, 2) := by decide +kernel
theorem dX10_eyesBy_25 : decode cX10_eyesBy 25 = .ok (.aload_n 0, 1) := by decide +kernel
theorem dX10_eyesBy_26 : decode cX10_eyesBy 26 = .ok (.getfield 98, 3) := by decide +kernel
theorem dX10_eyesBy_29 : decode cX10_eyesBy 29 = .ok (.iload_n 1, 1) := by decide +kernel
theorem dX10_eyesBy_30 : decode cX10_eyesBy 30 = .ok (.iaload, 1) := by decide +kernel
theorem dX10_eyesBy_31 : decode cX10_eyesBy 31 = .ok (.iload_n 2, 1) := by decide +kernel
theorem dX10_eyesBy_32 : decode cX10_eyesBy 32 = .ok (.iload_n 3, 1) := by decide +kernel
theorem dX10_eyesBy_33 : decode cX10_eyesBy 33 = .ok (.invokevirtual 382, 3) := by decide +kernel
theorem dX10_eyesBy_36 : decode cX10_eyesBy 36 = .ok (.ireturn, 1) := by decide +kernel
theorem dX10_eyesBy_37 : decode cX10_eyesBy 37 = .ok (.iload 4, 2) := by decide +kernel
theorem dX10_eyesBy_39 : decode cX10_eyesBy 39 = .ok (.iconst 3, 1) := by decide +kernel
theorem dX10_eyesBy_40 : decode cX10_eyesBy 40 = .ok (.if_icmp .ne 19, 3) := by decide +kernel
theorem dX10_eyesBy_43 : decode cX10_eyesBy 43 = .ok (.iload_n 3, 1) := by decide +kernel
theorem dX10_eyesBy_44 : decode cX10_eyesBy 44 = .ok (.iconst 1, 1) := by decide +kernel
theorem dX10_eyesBy_45 : decode cX10_eyesBy 45 = .ok (.if_icmp .ne 7, 3) := by decide +kernel
theorem dX10_eyesBy_48 : decode cX10_eyesBy 48 = .ok (.iconst 0, 1) := by decide +kernel
theorem dX10_eyesBy_49 : decode cX10_eyesBy 49 = .ok (.goto 9, 3) := by decide +kernel
theorem dX10_eyesBy_52 : decode cX10_eyesBy 52 = .ok (.aload_n 0, 1) := by decide +kernel
theorem dX10_eyesBy_53 : decode cX10_eyesBy 53 = .ok (.iload_n 1, 1) := by decide +kernel
theorem dX10_eyesBy_54 : decode cX10_eyesBy 54 = .ok (.iload_n 2, 1) := by decide +kernel
theorem dX10_eyesBy_55 : decode cX10_eyesBy 55 = .ok (.invokevirtual 385, 3) := by decide +kernel
theorem dX10_eyesBy_58 : decode cX10_eyesBy 58 = .ok (.ireturn, 1) := by decide +kernel
theorem dX10_eyesBy_59 : decode cX10_eyesBy 59 = .ok (.aload_n 0, 1) := by decide +kernel
theorem dX10_eyesBy_60 : decode cX10_eyesBy 60 = .ok (.iload 5, 2) := by decide +kernel
theorem dX10_eyesBy_62 : decode cX10_eyesBy 62 = .ok (.aload_n 0, 1) := by decide +kernel
theorem dX10_eyesBy_63 : decode cX10_eyesBy 63 = .ok (.getfield 98, 3) := by decide +kernel
theorem dX10_eyesBy_66 : decode cX10_eyesBy 66 = .ok (.iload_n 1, 1) := by decide +kernel
theorem dX10_eyesBy_67 : decode cX10_eyesBy 67 = .ok (.iaload, 1) := by decide +kernel
theorem dX10_eyesBy_68 : decode cX10_eyesBy 68 = .ok (.iload_n 2, 1) := by decide +kernel
theorem dX10_eyesBy_69 : decode cX10_eyesBy 69 = .ok (.iload_n 3, 1) := by decide +kernel
theorem dX10_eyesBy_70 : decode cX10_eyesBy 70 = .ok (.iload 4, 2) := by decide +kernel
theorem dX10_eyesBy_72 : decode cX10_eyesBy 72 = .ok (.invokevirtual 369, 3) := by decide +kernel
theorem dX10_eyesBy_75 : decode cX10_eyesBy 75 = .ok (.ifCond .eq 10, 3) := by decide +kernel
theorem dX10_eyesBy_78 : decode cX10_eyesBy 78 = .ok (.iconst 1, 1) := by decide +kernel
theorem dX10_eyesBy_79 : decode cX10_eyesBy 79 = .ok (.iload 5, 2) := by decide +kernel
theorem dX10_eyesBy_81 : decode cX10_eyesBy 81 = .ok (.ishl, 1) := by decide +kernel
theorem dX10_eyesBy_82 : decode cX10_eyesBy 82 = .ok (.goto 4, 3) := by decide +kernel
theorem dX10_eyesBy_85 : decode cX10_eyesBy 85 = .ok (.iconst 0, 1) := by decide +kernel
theorem dX10_eyesBy_86 : decode cX10_eyesBy 86 = .ok (.ireturn, 1) := by decide +kernel
theorem dX10_looks_0 : decode cX10_looks 0 = .ok (.iconst 0, 1) := by decide +kernel
theorem dX10_looks_1 : decode cX10_looks 1 = .ok (.istore_n 1, 1) := by decide +kernel
theorem dX10_looks_2 : decode cX10_looks 2 = .ok (.iload_n 1, 1) := by decide +kernel
theorem dX10_looks_3 : decode cX10_looks 3 = .ok (.aload_n 0, 1) := by decide +kernel
theorem dX10_looks_4 : decode cX10_looks 4 = .ok (.getfield 279, 3) := by decide +kernel
theorem dX10_looks_7 : decode cX10_looks 7 = .ok (.if_icmp .ge 16, 3) := by decide +kernel
theorem dX10_looks_10 : decode cX10_looks 10 = .ok (.aload_n 0, 1) := by decide +kernel
theorem dX10_looks_11 : decode cX10_looks 11 = .ok (.getfield 107, 3) := by decide +kernel
theorem dX10_looks_14 : decode cX10_looks 14 = .ok (.iload_n 1, 1) := by decide +kernel
theorem dX10_looks_15 : decode cX10_looks 15 = .ok (.iconst 0, 1) := by decide +kernel
theorem dX10_looks_16 : decode cX10_looks 16 = .ok (.iastore, 1) := by decide +kernel
theorem dX10_looks_17 : decode cX10_looks 17 = .ok (.iinc 1 1, 3) := by decide +kernel
theorem dX10_looks_20 : decode cX10_looks 20 = .ok (.goto (-18), 3) := by decide +kernel
theorem dX10_looks_23 : decode cX10_looks 23 = .ok (.iconst 0, 1) := by decide +kernel
theorem dX10_looks_24 : decode cX10_looks 24 = .ok (.istore_n 1, 1) := by decide +kernel
theorem dX10_looks_25 : decode cX10_looks 25 = .ok (.iload_n 1, 1) := by decide +kernel
theorem dX10_looks_26 : decode cX10_looks 26 = .ok (.bipush 8, 2) := by decide +kernel
theorem dX10_looks_28 : decode cX10_looks 28 = .ok (.aload_n 0, 1) := by decide +kernel
theorem dX10_looks_29 : decode cX10_looks 29 = .ok (.getfield 343, 3) := by decide +kernel
theorem dX10_looks_32 : decode cX10_looks 32 = .ok (.imul, 1) := by decide +kernel
theorem dX10_looks_33 : decode cX10_looks 33 = .ok (.if_icmp .ge 16, 3) := by decide +kernel
theorem dX10_looks_36 : decode cX10_looks 36 = .ok (.aload_n 0, 1) := by decide +kernel
theorem dX10_looks_37 : decode cX10_looks 37 = .ok (.getfield 110, 3) := by decide +kernel
theorem dX10_looks_40 : decode cX10_looks 40 = .ok (.iload_n 1, 1) := by decide +kernel
theorem dX10_looks_41 : decode cX10_looks 41 = .ok (.iconst 0, 1) := by decide +kernel
theorem dX10_looks_42 : decode cX10_looks 42 = .ok (.iastore, 1) := by decide +kernel
theorem dX10_looks_43 : decode cX10_looks 43 = .ok (.iinc 1 1, 3) := by decide +kernel
theorem dX10_looks_46 : decode cX10_looks 46 = .ok (.goto (-21), 3) := by decide +kernel
theorem dX10_looks_49 : decode cX10_looks 49 = .ok (.iconst 1, 1) := by decide +kernel
theorem dX10_looks_50 : decode cX10_looks 50 = .ok (.istore_n 1, 1) := by decide +kernel
theorem dX10_looks_51 : decode cX10_looks 51 = .ok (.iload_n 1, 1) := by decide +kernel
theorem dX10_looks_52 : decode cX10_looks 52 = .ok (.ifCond .eq 215, 3) := by decide +kernel
theorem dX10_looks_55 : decode cX10_looks 55 = .ok (.iconst 0, 1) := by decide +kernel
theorem dX10_looks_56 : decode cX10_looks 56 = .ok (.istore_n 1, 1) := by decide +kernel
theorem dX10_looks_57 : decode cX10_looks 57 = .ok (.iconst 0, 1) := by decide +kernel
theorem dX10_looks_58 : decode cX10_looks 58 = .ok (.istore_n 2, 1) := by decide +kernel
theorem dX10_looks_59 : decode cX10_looks 59 = .ok (.iload_n 2, 1) := by decide +kernel
theorem dX10_looks_60 : decode cX10_looks 60 = .ok (.aload_n 0, 1) := by decide +kernel
theorem dX10_looks_61 : decode cX10_looks 61 = .ok (.getfield 343, 3) := by decide +kernel
theorem dX10_looks_64 : decode cX10_looks 64 = .ok (.if_icmp .ge 106, 3) := by decide +kernel
theorem dX10_looks_67 : decode cX10_looks 67 = .ok (.iconst 0, 1) := by decide +kernel
theorem dX10_looks_68 : decode cX10_looks 68 = .ok (.istore_n 3, 1) := by decide +kernel
theorem dX10_looks_69 : decode cX10_looks 69 = .ok (.iload_n 3, 1) := by decide +kernel
theorem dX10_looks_70 : decode cX10_looks 70 = .ok (.aload_n 0, 1) := by decide +kernel
theorem dX10_looks_71 : decode cX10_looks 71 = .ok (.getfield 269, 3) := by decide +kernel
theorem dX10_looks_74 : decode cX10_looks 74 = .ok (.if_icmp .ge 90, 3) := by decide +kernel
theorem dX10_looks_77 : decode cX10_looks 77 = .ok (.aload_n 0, 1) := by decide +kernel
theorem dX10_looks_78 : decode cX10_looks 78 = .ok (.getfield 110, 3) := by decide +kernel
theorem dX10_looks_81 : decode cX10_looks 81 = .ok (.bipush 8, 2) := by decide +kernel
theorem dX10_looks_83 : decode cX10_looks 83 = .ok (.iload_n 2, 1) := by decide +kernel
theorem dX10_looks_84 : decode cX10_looks 84 = .ok (.imul, 1) := by decide +kernel
theorem dX10_looks_85 : decode cX10_looks 85 = .ok (.iload_n 3, 1) := by decide +kernel
theorem dX10_looks_86 : decode cX10_looks 86 = .ok (.iadd, 1) := by decide +kernel
theorem dX10_looks_87 : decode cX10_looks 87 = .ok (.iaload, 1) := by decide +kernel
theorem dX10_looks_88 : decode cX10_looks 88 = .ok (.istore 4, 2) := by decide +kernel
theorem dX10_looks_90 : decode cX10_looks 90 = .ok (.iconst 0, 1) := by decide +kernel
theorem dX10_looks_91 : decode cX10_looks 91 = .ok (.istore 5, 2) := by decide +kernel
theorem dX10_looks_93 : decode cX10_looks 93 = .ok (.iload 5, 2) := by decide +kernel
theorem dX10_looks_95 : decode cX10_looks 95 = .ok (.iconst 4, 1) := by decide +kernel
theorem dX10_looks_96 : decode cX10_looks 96 = .ok (.if_icmp .ge 23, 3) := by decide +kernel
theorem dX10_looks_99 : decode cX10_looks 99 = .ok (.iload 4, 2) := by decide +kernel
theorem dX10_looks_101 : decode cX10_looks 101 = .ok (.aload_n 0, 1) := by decide +kernel
theorem dX10_looks_102 : decode cX10_looks 102 = .ok (.iload_n 2, 1) := by decide +kernel
theorem dX10_looks_103 : decode cX10_looks 103 = .ok (.iload_n 3, 1) := by decide +kernel
theorem dX10_looks_104 : decode cX10_looks 104 = .ok (.iconst 0, 1) := by decide +kernel
theorem dX10_looks_105 : decode cX10_looks 105 = .ok (.iload 5, 2) := by decide +kernel
theorem dX10_looks_107 : decode cX10_looks 107 = .ok (.invokevirtual 388, 3) := by decide +kernel
theorem dX10_looks_110 : decode cX10_looks 110 = .ok (.ior, 1) := by decide +kernel
theorem dX10_looks_111 : decode cX10_looks 111 = .ok (.istore 4, 2) := by decide +kernel
theorem dX10_looks_113 : decode cX10_looks 113 = .ok (.iinc 5 1, 3) := by decide +kernel
theorem dX10_looks_116 : decode cX10_looks 116 = .ok (.goto (-23), 3) := by decide +kernel
theorem dX10_looks_119 : decode cX10_looks 119 = .ok (.iload_n 1, 1) := by decide +kernel
theorem dX10_looks_120 : decode cX10_looks 120 = .ok (.ifCond .ne 19, 3) := by decide +kernel
theorem dX10_looks_123 : decode cX10_looks 123 = .ok (.iload 4, 2) := by decide +kernel
theorem dX10_looks_125 : decode cX10_looks 125 = .ok (.aload_n 0, 1) := by decide +kernel
theorem dX10_looks_126 : decode cX10_looks 126 = .ok (.getfield 110, 3) := by decide +kernel
theorem dX10_looks_129 : decode cX10_looks 129 = .ok (.bipush 8, 2) := by decide +kernel
theorem dX10_looks_131 : decode cX10_looks 131 = .ok (.iload_n 2, 1) := by decide +kernel
theorem dX10_looks_132 : decode cX10_looks 132 = .ok (.imul, 1) := by decide +kernel
theorem dX10_looks_133 : decode cX10_looks 133 = .ok (.iload_n 3, 1) := by decide +kernel
theorem dX10_looks_134 : decode cX10_looks 134 = .ok (.iadd, 1) := by decide +kernel
theorem dX10_looks_135 : decode cX10_looks 135 = .ok (.iaload, 1) := by decide +kernel
theorem dX10_looks_136 : decode cX10_looks 136 = .ok (.if_icmp .eq 7, 3) := by decide +kernel
theorem dX10_looks_139 : decode cX10_looks 139 = .ok (.iconst 1, 1) := by decide +kernel
theorem dX10_looks_140 : decode cX10_looks 140 = .ok (.goto 4, 3) := by decide +kernel
theorem dX10_looks_143 : decode cX10_looks 143 = .ok (.iconst 0, 1) := by decide +kernel
theorem dX10_looks_144 : decode cX10_looks 144 = .ok (.istore_n 1, 1) := by decide +kernel
theorem dX10_looks_145 : decode cX10_looks 145 = .ok (.aload_n 0, 1) := by decide +kernel
theorem dX10_looks_146 : decode cX10_looks 146 = .ok (.getfield 110, 3) := by decide +kernel
theorem dX10_looks_149 : decode cX10_looks 149 = .ok (.bipush 8, 2) := by decide +kernel
theorem dX10_looks_151 : decode cX10_looks 151 = .ok (.iload_n 2, 1) := by decide +kernel
theorem dX10_looks_152 : decode cX10_looks 152 = .ok (.imul, 1) := by decide +kernel
theorem dX10_looks_153 : decode cX10_looks 153 = .ok (.iload_n 3, 1) := by decide +kernel
theorem dX10_looks_154 : decode cX10_looks 154 = .ok (.iadd, 1) := by decide +kernel
theorem dX10_looks_155 : decode cX10_looks 155 = .ok (.iload 4, 2) := by decide +kernel
theorem dX10_looks_157 : decode cX10_looks 157 = .ok (.iastore, 1) := by decide +kernel
theorem dX10_looks_158 : decode cX10_looks 158 = .ok (.iinc 3 1, 3) := by decide +kernel
theorem dX10_looks_161 : decode cX10_looks 161 = .ok (.goto (-92), 3) := by decide +kernel
theorem dX10_looks_164 : decode cX10_looks 164 = .ok (.iinc 2 1, 3) := by decide +kernel
theorem dX10_looks_167 : decode cX10_looks 167 = .ok (.goto (-108), 3) := by decide +kernel
theorem dX10_looks_170 : decode cX10_looks 170 = .ok (.iconst 0, 1) := by decide +kernel
theorem dX10_looks_171 : decode cX10_looks 171 = .ok (.istore_n 2, 1) := by decide +kernel
theorem dX10_looks_172 : decode cX10_looks 172 = .ok (.iload_n 2, 1) := by decide +kernel
theorem dX10_looks_173 : decode cX10_looks 173 = .ok (.aload_n 0, 1) := by decide +kernel
theorem dX10_looks_174 : decode cX10_looks 174 = .ok (.getfield 279, 3) := by decide +kernel
theorem dX10_looks_177 : decode cX10_looks 177 = .ok (.if_icmp .ge 87, 3) := by decide +kernel
theorem dX10_looks_180 : decode cX10_looks 180 = .ok (.aload_n 0, 1) := by decide +kernel
theorem dX10_looks_181 : decode cX10_looks 181 = .ok (.getfield 89, 3) := by decide +kernel
theorem dX10_looks_184 : decode cX10_looks 184 = .ok (.iload_n 2, 1) := by decide +kernel
theorem dX10_looks_185 : decode cX10_looks 185 = .ok (.iaload, 1) := by decide +kernel
theorem dX10_looks_186 : decode cX10_looks 186 = .ok (.sipush 1000, 3) := by decide +kernel
theorem dX10_looks_189 : decode cX10_looks 189 = .ok (.if_icmp .ne 6, 3) := by decide +kernel
theorem dX10_looks_192 : decode cX10_looks 192 = .ok (.goto 66, 3) := by decide +kernel
theorem dX10_looks_195 : decode cX10_looks 195 = .ok (.aload_n 0, 1) := by decide +kernel
theorem dX10_looks_196 : decode cX10_looks 196 = .ok (.getfield 107, 3) := by decide +kernel
theorem dX10_looks_199 : decode cX10_looks 199 = .ok (.iload_n 2, 1) := by decide +kernel
theorem dX10_looks_200 : decode cX10_looks 200 = .ok (.iaload, 1) := by decide +kernel
theorem dX10_looks_201 : decode cX10_looks 201 = .ok (.aload_n 0, 1) := by decide +kernel
theorem dX10_looks_202 : decode cX10_looks 202 = .ok (.aload_n 0, 1) := by decide +kernel
theorem dX10_looks_203 : decode cX10_looks 203 = .ok (.getfield 101, 3) := by decide +kernel
theorem dX10_looks_206 : decode cX10_looks 206 = .ok (.iload_n 2, 1) := by decide +kernel
theorem dX10_looks_207 : decode cX10_looks 207 = .ok (.iaload, 1) := by decide +kernel
theorem dX10_looks_208 : decode cX10_looks 208 = .ok (.aload_n 0, 1) := by decide +kernel
theorem dX10_looks_209 : decode cX10_looks 209 = .ok (.iload_n 2, 1) := by decide +kernel
theorem dX10_looks_210 : decode cX10_looks 210 = .ok (.iconst 2, 1) := by decide +kernel
theorem dX10_looks_211 : decode cX10_looks 211 = .ok (.invokevirtual 346, 3) := by decide +kernel
theorem dX10_looks_214 : decode cX10_looks 214 = .ok (.aload_n 0, 1) := by decide +kernel
theorem dX10_looks_215 : decode cX10_looks 215 = .ok (.iload_n 2, 1) := by decide +kernel
theorem dX10_looks_216 : decode cX10_looks 216 = .ok (.iconst 4, 1) := by decide +kernel
theorem dX10_looks_217 : decode cX10_looks 217 = .ok (.invokevirtual 346, 3) := by decide +kernel
theorem dX10_looks_220 : decode cX10_looks 220 = .ok (.aload_n 0, 1) := by decide +kernel
theorem dX10_looks_221 : decode cX10_looks 221 = .ok (.iload_n 2, 1) := by decide +kernel
theorem dX10_looks_222 : decode cX10_looks 222 = .ok (.iconst 3, 1) := by decide +kernel
theorem dX10_looks_223 : decode cX10_looks 223 = .ok (.invokevirtual 346, 3) := by decide +kernel
theorem dX10_looks_226 : decode cX10_looks 226 = .ok (.invokevirtual 388, 3) := by decide +kernel
theorem dX10_looks_229 : decode cX10_looks 229 = .ok (.ior, 1) := by decide +kernel
theorem dX10_looks_230 : decode cX10_looks 230 = .ok (.istore_n 3, 1) := by decide +kernel
theorem dX10_looks_231 : decode cX10_looks 231 = .ok (.iload_n 1, 1) := by decide +kernel
theorem dX10_looks_232 : decode cX10_looks 232 = .ok (.ifCond .ne 13, 3) := by decide +kernel
theorem dX10_looks_235 : decode cX10_looks 235 = .ok (.iload_n 3, 1) := by decide +kernel
theorem dX10_looks_236 : decode cX10_looks 236 = .ok (.aload_n 0, 1) := by decide +kernel
theorem dX10_looks_237 : decode cX10_looks 237 = .ok (.getfield 107, 3) := by decide +kernel
theorem dX10_looks_240 : decode cX10_looks 240 = .ok (.iload_n 2, 1) := by decide +kernel
theorem dX10_looks_241 : decode cX10_looks 241 = .ok (.iaload, 1) := by decide +kernel
theorem dX10_looks_242 : decode cX10_looks 242 = .ok (.if_icmp .eq 7, 3) := by decide +kernel
theorem dX10_looks_245 : decode cX10_looks 245 = .ok (.iconst 1, 1) := by decide +kernel
theorem dX10_looks_246 : decode cX10_looks 246 = .ok (.goto 4, 3) := by decide +kernel
theorem dX10_looks_249 : decode cX10_looks 249 = .ok (.iconst 0, 1) := by decide +kernel
theorem dX10_looks_250 : decode cX10_looks 250 = .ok (.istore_n 1, 1) := by decide +kernel
theorem dX10_looks_251 : decode cX10_looks 251 = .ok (.aload_n 0, 1) := by decide +kernel
theorem dX10_looks_252 : decode cX10_looks 252 = .ok (.getfield 107, 3) := by decide +kernel
theorem dX10_looks_255 : decode cX10_looks 255 = .ok (.iload_n 2, 1) := by decide +kernel
theorem dX10_looks_256 : decode cX10_looks 256 = .ok (.iload_n 3, 1) := by decide +kernel
theorem dX10_looks_257 : decode cX10_looks 257 = .ok (.iastore, 1) := by decide +kernel
theorem dX10_looks_258 : decode cX10_looks 258 = .ok (.iinc 2 1, 3) := by decide +kernel
theorem dX10_looks_261 : decode cX10_looks 261 = .ok (.goto (-89), 3) := by decide +kernel
theorem dX10_looks_264 : decode cX10_looks 264 = .ok (.goto (-213), 3) := by decide +kernel
theorem dX10_looks_267 : decode cX10_looks 267 = .ok (.return_, 1) := by decide +kernel
theorem dX10_saying_0 : decode cX10_saying 0 = .ok (.aload_n 0, 1) := by decide +kernel
theorem dX10_saying_1 : decode cX10_saying 1 = .ok (.iconst 0, 1) := by decide +kernel
theorem dX10_saying_2 : decode cX10_saying 2 = .ok (.putfield 122, 3) := by decide +kernel
theorem dX10_saying_5 : decode cX10_saying 5 = .ok (.aload_n 0, 1) := by decide +kernel
theorem dX10_saying_6 : decode cX10_saying 6 = .ok (.iload_n 1, 1) := by decide +kernel
theorem dX10_saying_7 : decode cX10_saying 7 = .ok (.ifCond .lt 25, 3) := by decide +kernel
theorem dX10_saying_10 : decode cX10_saying 10 = .ok (.iload_n 1, 1) := by decide +kernel
theorem dX10_saying_11 : decode cX10_saying 11 = .ok (.aload_n 0, 1) := by decide +kernel
theorem dX10_saying_12 : decode cX10_saying 12 = .ok (.getfield 279, 3) := by decide +kernel
theorem dX10_saying_15 : decode cX10_saying 15 = .ok (.if_icmp .ge 17, 3) := by decide +kernel
theorem dX10_saying_18 : decode cX10_saying 18 = .ok (.iload_n 2, 1) := by decide +kernel
theorem dX10_saying_19 : decode cX10_saying 19 = .ok (.iconst 0, 1) := by decide +kernel
theorem dX10_saying_20 : decode cX10_saying 20 = .ok (.bipush 7, 2) := by decide +kernel
theorem dX10_saying_22 : decode cX10_saying 22 = .ok (.invokestatic 291, 3) := by decide +kernel
theorem dX10_saying_25 : decode cX10_saying 25 = .ok (.ifCond .eq 7, 3) := by decide +kernel
theorem dX10_saying_28 : decode cX10_saying 28 = .ok (.iconst 1, 1) := by decide +kernel
theorem dX10_saying_29 : decode cX10_saying 29 = .ok (.goto 4, 3) := by decide +kernel
theorem dX10_saying_32 : decode cX10_saying 32 = .ok (.iconst 0, 1) := by decide +kernel
theorem dX10_saying_33 : decode cX10_saying 33 = .ok (.iconst 1, 1) := by decide +kernel
theorem dX10_saying_34 : decode cX10_saying 34 = .ok (.invokevirtual 250, 3) := by decide +kernel
theorem dX10_saying_37 : decode cX10_saying 37 = .ok (.ifCond .ne 5, 3) := by decide +kernel
theorem dX10_saying_40 : decode cX10_saying 40 = .ok (.iconst 0, 1) := by decide +kernel
theorem dX10_saying_41 : decode cX10_saying 41 = .ok (.ireturn, 1) := by decide +kernel
theorem dX10_saying_42 : decode cX10_saying 42 = .ok (.iload_n 2, 1) := by decide +kernel
theorem dX10_saying_43 : decode cX10_saying 43 = .ok (.iconst 5, 1) := by decide +kernel
theorem dX10_saying_44 : decode cX10_saying 44 = .ok (.if_icmp .ge 10, 3) := by decide +kernel
theorem dX10_saying_47 : decode cX10_saying 47 = .ok (.aload_n 0, 1) := by decide +kernel
theorem dX10_saying_48 : decode cX10_saying 48 = .ok (.iload_n 1, 1) := by decide +kernel
theorem dX10_saying_49 : decode cX10_saying 49 = .ok (.iload_n 2, 1) := by decide +kernel
theorem dX10_saying_50 : decode cX10_saying 50 = .ok (.invokevirtual 346, 3) := by decide +kernel
theorem dX10_saying_53 : decode cX10_saying 53 = .ok (.ireturn, 1) := by decide +kernel
theorem dX10_saying_54 : decode cX10_saying 54 = .ok (.aload_n 0, 1) := by decide +kernel
theorem dX10_saying_55 : decode cX10_saying 55 = .ok (.iconst (-1), 1) := by decide +kernel
theorem dX10_saying_56 : decode cX10_saying 56 = .ok (.iconst 0, 1) := by decide +kernel
theorem dX10_saying_57 : decode cX10_saying 57 = .ok (.invokevirtual 391, 3) := by decide +kernel
theorem dX10_saying_60 : decode cX10_saying 60 = .ok (.aload_n 0, 1) := by decide +kernel
theorem dX10_saying_61 : decode cX10_saying 61 = .ok (.aload_n 0, 1) := by decide +kernel
theorem dX10_saying_62 : decode cX10_saying 62 = .ok (.invokevirtual 394, 3) := by decide +kernel
theorem dX10_saying_65 : decode cX10_saying 65 = .ok (.iconst 0, 1) := by decide +kernel
theorem dX10_saying_66 : decode cX10_saying 66 = .ok (.invokevirtual 398, 3) := by decide +kernel
theorem dX10_saying_69 : decode cX10_saying 69 = .ok (.iload_n 2, 1) := by decide +kernel
theorem dX10_saying_70 : decode cX10_saying 70 = .ok (.bipush 7, 2) := by decide +kernel
theorem dX10_saying_72 : decode cX10_saying 72 = .ok (.if_icmp .ge 51, 3) := by decide +kernel
theorem dX10_saying_75 : decode cX10_saying 75 = .ok (.iload_n 2, 1) := by decide +kernel
theorem dX10_saying_76 : decode cX10_saying 76 = .ok (.iconst 5, 1) := by decide +kernel
theorem dX10_saying_77 : decode cX10_saying 77 = .ok (.if_icmp .ne 23, 3) := by decide +kernel
theorem dX10_saying_80 : decode cX10_saying 80 = .ok (.aload_n 0, 1) := by decide +kernel
theorem dX10_saying_81 : decode cX10_saying 81 = .ok (.getfield 89, 3) := by decide +kernel
theorem dX10_saying_84 : decode cX10_saying 84 = .ok (.iload_n 1, 1) := by decide +kernel
theorem dX10_saying_85 : decode cX10_saying 85 = .ok (.iaload, 1) := by decide +kernel
theorem dX10_saying_86 : decode cX10_saying 86 = .ok (.sipush 1000, 3) := by decide +kernel
theorem dX10_saying_89 : decode cX10_saying 89 = .ok (.if_icmp .ge 7, 3) := by decide +kernel
theorem dX10_saying_92 : decode cX10_saying 92 = .ok (.iconst 1, 1) := by decide +kernel
theorem dX10_saying_93 : decode cX10_saying 93 = .ok (.goto 29, 3) := by decide +kernel
theorem dX10_saying_96 : decode cX10_saying 96 = .ok (.iconst 0, 1) := by decide +kernel
theorem dX10_saying_97 : decode cX10_saying 97 = .ok (.goto 25, 3) := by decide +kernel
theorem dX10_saying_100 : decode cX10_saying 100 = .ok (.aload_n 0, 1) := by decide +kernel
theorem dX10_saying_101 : decode cX10_saying 101 = .ok (.getfield 89, 3) := by decide +kernel
theorem dX10_saying_104 : decode cX10_saying 104 = .ok (.iload_n 1, 1) := by decide +kernel
theorem dX10_saying_105 : decode cX10_saying 105 = .ok (.iaload, 1) := by decide +kernel
theorem dX10_saying_106 : decode cX10_saying 106 = .ok (.sipush 1000, 3) := by decide +kernel
theorem dX10_saying_109 : decode cX10_saying 109 = .ok (.if_icmp .ge 12, 3) := by decide +kernel
theorem dX10_saying_112 : decode cX10_saying 112 = .ok (.aload_n 0, 1) := by decide +kernel
theorem dX10_saying_113 : decode cX10_saying 113 = .ok (.getfield 89, 3) := by decide +kernel
theorem dX10_saying_116 : decode cX10_saying 116 = .ok (.iload_n 1, 1) := by decide +kernel
theorem dX10_saying_117 : decode cX10_saying 117 = .ok (.iaload, 1) := by decide +kernel
theorem dX10_saying_118 : decode cX10_saying 118 = .ok (.goto 4, 3) := by decide +kernel
theorem dX10_saying_121 : decode cX10_saying 121 = .ok (.iconst 0, 1) := by decide +kernel
theorem dX10_saying_122 : decode cX10_saying 122 = .ok (.ireturn, 1) := by decide +kernel
theorem dX10_saying_123 : decode cX10_saying 123 = .ok (.aload_n 0, 1) := by decide +kernel
theorem dX10_saying_124 : decode cX10_saying 124 = .ok (.invokevirtual 401, 3) := by decide +kernel
theorem dX10_saying_127 : decode cX10_saying 127 = .ok (.aload_n 0, 1) := by decide +kernel
theorem dX10_saying_128 : decode cX10_saying 128 = .ok (.getfield 107, 3) := by decide +kernel
theorem dX10_saying_131 : decode cX10_saying 131 = .ok (.iload_n 1, 1) := by decide +kernel
theorem dX10_saying_132 : decode cX10_saying 132 = .ok (.iaload, 1) := by decide +kernel
theorem dX10_saying_133 : decode cX10_saying 133 = .ok (.ireturn, 1) := by decide +kernel
theorem dX10_silence_0 : decode cX10_silence 0 = .ok (.aload_n 0, 1) := by decide +kernel
theorem dX10_silence_1 : decode cX10_silence 1 = .ok (.iconst 0, 1) := by decide +kernel
theorem dX10_silence_2 : decode cX10_silence 2 = .ok (.putfield 122, 3) := by decide +kernel
theorem dX10_silence_5 : decode cX10_silence 5 = .ok (.aload_n 0, 1) := by decide +kernel
theorem dX10_silence_6 : decode cX10_silence 6 = .ok (.iload_n 1, 1) := by decide +kernel
theorem dX10_silence_7 : decode cX10_silence 7 = .ok (.iconst 0, 1) := by decide +kernel
theorem dX10_silence_8 : decode cX10_silence 8 = .ok (.invokevirtual 298, 3) := by decide +kernel
theorem dX10_silence_11 : decode cX10_silence 11 = .ok (.ifCond .eq 11, 3) := by decide +kernel
theorem dX10_silence_14 : decode cX10_silence 14 = .ok (.aload_n 0, 1) := by decide +kernel
theorem dX10_silence_15 : decode cX10_silence 15 = .ok (.iload_n 2, 1) := by decide +kernel
theorem dX10_silence_16 : decode cX10_silence 16 = .ok (.invokevirtual 302, 3) := by decide +kernel
theorem dX10_silence_19 : decode cX10_silence 19 = .ok (.ifCond .ne 5, 3) := by decide +kernel
theorem dX10_silence_22 : decode cX10_silence 22 = .ok (.iconst 0, 1) := by decide +kernel
theorem dX10_silence_23 : decode cX10_silence 23 = .ok (.ireturn, 1) := by decide +kernel
theorem dX10_silence_24 : decode cX10_silence 24 = .ok (.aload_n 0, 1) := by decide +kernel
theorem dX10_silence_25 : decode cX10_silence 25 = .ok (.iload_n 1, 1) := by decide +kernel
theorem dX10_silence_26 : decode cX10_silence 26 = .ok (.bipush 23, 2) := by decide +kernel
theorem dX10_silence_28 : decode cX10_silence 28 = .ok (.invokevirtual 391, 3) := by decide +kernel
theorem dX10_silence_31 : decode cX10_silence 31 = .ok (.iconst (-1), 1) := by decide +kernel
theorem dX10_silence_32 : decode cX10_silence 32 = .ok (.istore_n 3, 1) := by decide +kernel
theorem dX10_silence_33 : decode cX10_silence 33 = .ok (.iconst 0, 1) := by decide +kernel
theorem dX10_silence_34 : decode cX10_silence 34 = .ok (.istore 4, 2) := by decide +kernel
theorem dX10_silence_36 : decode cX10_silence 36 = .ok (.iload 4, 2) := by decide +kernel
theorem dX10_silence_38 : decode cX10_silence 38 = .ok (.iconst 1, 1) := by decide +kernel
theorem dX10_silence_39 : decode cX10_silence 39 = .ok (.aload_n 0, 1) := by decide +kernel
theorem dX10_silence_40 : decode cX10_silence 40 = .ok (.getfield 266, 3) := by decide +kernel
theorem dX10_silence_43 : decode cX10_silence 43 = .ok (.ishl, 1) := by decide +kernel
theorem dX10_silence_44 : decode cX10_silence 44 = .ok (.if_icmp .ge 113, 3) := by decide +kernel
theorem dX10_silence_47 : decode cX10_silence 47 = .ok (.iload 4, 2) := by decide +kernel
theorem dX10_silence_49 : decode cX10_silence 49 = .ok (.iload_n 1, 1) := by decide +kernel
theorem dX10_silence_50 : decode cX10_silence 50 = .ok (.ishr, 1) := by decide +kernel
theorem dX10_silence_51 : decode cX10_silence 51 = .ok (.iconst 1, 1) := by decide +kernel
theorem dX10_silence_52 : decode cX10_silence 52 = .ok (.iand, 1) := by decide +kernel
theorem dX10_silence_53 : decode cX10_silence 53 = .ok (.iconst 1, 1) := by decide +kernel
theorem dX10_silence_54 : decode cX10_silence 54 = .ok (.if_icmp .eq 97, 3) := by decide +kernel
theorem dX10_silence_57 : decode cX10_silence 57 = .ok (.iload_n 3, 1) := by decide +kernel
theorem dX10_silence_58 : decode cX10_silence 58 = .ok (.iconst (-1), 1) := by decide +kernel
theorem dX10_silence_59 : decode cX10_silence 59 = .ok (.if_icmp .eq 18, 3) := by decide +kernel
theorem dX10_silence_62 : decode cX10_silence 62 = .ok (.iload 4, 2) := by decide +kernel
theorem dX10_silence_64 : decode cX10_silence 64 = .ok (.invokestatic 295, 3) := by decide +kernel
theorem dX10_silence_67 : decode cX10_silence 67 = .ok (.iload_n 3, 1) := by decide +kernel
theorem dX10_silence_68 : decode cX10_silence 68 = .ok (.invokestatic 295, 3) := by decide +kernel
theorem dX10_silence_71 : decode cX10_silence 71 = .ok (.if_icmp .lt 6, 3) := by decide +kernel
theorem dX10_silence_74 : decode cX10_silence 74 = .ok (.goto 77, 3) := by decide +kernel
theorem dX10_silence_77 : decode cX10_silence 77 = .ok (.iconst 0, 1) := by decide +kernel
theorem dX10_silence_78 : decode cX10_silence 78 = .ok (.istore 5, 2) := by decide +kernel
theorem dX10_silence_80 : decode cX10_silence 80 = .ok (.iconst 0, 1) := by decide +kernel
theorem dX10_silence_81 : decode cX10_silence 81 = .ok (.istore 6, 2) := by decide +kernel
theorem dX10_silence_83 : decode cX10_silence 83 = .ok (.iload 6, 2) := by decide +kernel
theorem dX10_silence_85 : decode cX10_silence 85 = .ok (.aload_n 0, 1) := by decide +kernel
theorem dX10_silence_86 : decode cX10_silence 86 = .ok (.getfield 279, 3) := by decide +kernel
theorem dX10_silence_89 : decode cX10_silence 89 = .ok (.if_icmp .ge 37, 3) := by decide +kernel
theorem dX10_silence_92 : decode cX10_silence 92 = .ok (.iload 5, 2) := by decide +kernel
theorem dX10_silence_94 : decode cX10_silence 94 = .ok (.iload 4, 2) := by decide +kernel
theorem dX10_silence_96 : decode cX10_silence 96 = .ok (.aload_n 0, 1) := by decide +kernel
theorem dX10_silence_97 : decode cX10_silence 97 = .ok (.iload 6, 2) := by decide +kernel
theorem dX10_silence_99 : decode cX10_silence 99 = .ok (.iconst 0, 1) := by decide +kernel
theorem dX10_silence_100 : decode cX10_silence 100 = .ok (.invokevirtual 346, 3) := by decide +kernel
theorem dX10_silence_103 : decode cX10_silence 103 = .ok (.ishr, 1) := by decide +kernel
theorem dX10_silence_104 : decode cX10_silence 104 = .ok (.iconst 1, 1) := by decide +kernel
theorem dX10_silence_105 : decode cX10_silence 105 = .ok (.iand, 1) := by decide +kernel
theorem dX10_silence_106 : decode cX10_silence 106 = .ok (.ifCond .ne 10, 3) := by decide +kernel
theorem dX10_silence_109 : decode cX10_silence 109 = .ok (.iconst 1, 1) := by decide +kernel
theorem dX10_silence_110 : decode cX10_silence 110 = .ok (.iload 6, 2) := by decide +kernel
theorem dX10_silence_112 : decode cX10_silence 112 = .ok (.ishl, 1) := by decide +kernel
theorem dX10_silence_113 : decode cX10_silence 113 = .ok (.goto 4, 3) := by decide +kernel
theorem dX10_silence_116 : decode cX10_silence 116 = .ok (.iconst 0, 1) := by decide +kernel
theorem dX10_silence_117 : decode cX10_silence 117 = .ok (.ior, 1) := by decide +kernel
theorem dX10_silence_118 : decode cX10_silence 118 = .ok (.istore 5, 2) := by decide +kernel
theorem dX10_silence_120 : decode cX10_silence 120 = .ok (.iinc 6 1, 3) := by decide +kernel
theorem dX10_silence_123 : decode cX10_silence 123 = .ok (.goto (-40), 3) := by decide +kernel
theorem dX10_silence_126 : decode cX10_silence 126 = .ok (.aload_n 0, 1) := by decide +kernel
theorem dX10_silence_127 : decode cX10_silence 127 = .ok (.iload 5, 2) := by decide +kernel
theorem dX10_silence_129 : decode cX10_silence 129 = .ok (.iconst 0, 1) := by decide +kernel
theorem dX10_silence_130 : decode cX10_silence 130 = .ok (.invokevirtual 398, 3) := by decide +kernel
theorem dX10_silence_133 : decode cX10_silence 133 = .ok (.aload_n 0, 1) := by decide +kernel
theorem dX10_silence_134 : decode cX10_silence 134 = .ok (.iload_n 1, 1) := by decide +kernel
theorem dX10_silence_135 : decode cX10_silence 135 = .ok (.bipush 23, 2) := by decide +kernel
theorem dX10_silence_137 : decode cX10_silence 137 = .ok (.iload_n 2, 1) := by decide +kernel
theorem dX10_silence_138 : decode cX10_silence 138 = .ok (.iconst 0, 1) := by decide +kernel
theorem dX10_silence_139 : decode cX10_silence 139 = .ok (.invokevirtual 362, 3) := by decide +kernel
theorem dX10_silence_142 : decode cX10_silence 142 = .ok (.sipush 1000, 3) := by decide +kernel
theorem dX10_silence_145 : decode cX10_silence 145 = .ok (.if_icmp .lt 6, 3) := by decide +kernel
theorem dX10_silence_148 : decode cX10_silence 148 = .ok (.iload 4, 2) := by decide +kernel
theorem dX10_silence_150 : decode cX10_silence 150 = .ok (.istore_n 3, 1) := by decide +kernel
theorem dX10_silence_151 : decode cX10_silence 151 = .ok (.iinc 4 1, 3) := by decide +kernel
theorem dX10_silence_154 : decode cX10_silence 154 = .ok (.goto (-118), 3) := by decide +kernel
theorem dX10_silence_157 : decode cX10_silence 157 = .ok (.iload_n 3, 1) := by decide +kernel
theorem dX10_silence_158 : decode cX10_silence 158 = .ok (.ireturn, 1) := by decide +kernel
theorem dX10_tell_0 : decode cX10_tell 0 = .ok (.aload_n 0, 1) := by decide +kernel
theorem dX10_tell_1 : decode cX10_tell 1 = .ok (.iconst 0, 1) := by decide +kernel
theorem dX10_tell_2 : decode cX10_tell 2 = .ok (.putfield 122, 3) := by decide +kernel
theorem dX10_tell_5 : decode cX10_tell 5 = .ok (.aload_n 0, 1) := by decide +kernel
theorem dX10_tell_6 : decode cX10_tell 6 = .ok (.iload_n 1, 1) := by decide +kernel
theorem dX10_tell_7 : decode cX10_tell 7 = .ok (.iconst 0, 1) := by decide +kernel
theorem dX10_tell_8 : decode cX10_tell 8 = .ok (.invokevirtual 298, 3) := by decide +kernel
theorem dX10_tell_11 : decode cX10_tell 11 = .ok (.ifCond .eq 11, 3) := by decide +kernel
theorem dX10_tell_14 : decode cX10_tell 14 = .ok (.aload_n 0, 1) := by decide +kernel
theorem dX10_tell_15 : decode cX10_tell 15 = .ok (.iload_n 2, 1) := by decide +kernel
theorem dX10_tell_16 : decode cX10_tell 16 = .ok (.invokevirtual 302, 3) := by decide +kernel
theorem dX10_tell_19 : decode cX10_tell 19 = .ok (.ifCond .ne 5, 3) := by decide +kernel
theorem dX10_tell_22 : decode cX10_tell 22 = .ok (.iconst 0, 1) := by decide +kernel
theorem dX10_tell_23 : decode cX10_tell 23 = .ok (.ireturn, 1) := by decide +kernel
theorem dX10_tell_24 : decode cX10_tell 24 = .ok (.aload_n 0, 1) := by decide +kernel
theorem dX10_tell_25 : decode cX10_tell 25 = .ok (.iload_n 2, 1) := by decide +kernel
theorem dX10_tell_26 : decode cX10_tell 26 = .ok (.invokevirtual 417, 3) := by decide +kernel
theorem dX10_tell_29 : decode cX10_tell 29 = .ok (.iconst (-1), 1) := by decide +kernel
theorem dX10_tell_30 : decode cX10_tell 30 = .ok (.if_icmp .ne 9, 3) := by decide +kernel
theorem dX10_tell_33 : decode cX10_tell 33 = .ok (.aload_n 0, 1) := by decide +kernel
theorem dX10_tell_34 : decode cX10_tell 34 = .ok (.iconst 2, 1) := by decide +kernel
theorem dX10_tell_35 : decode cX10_tell 35 = .ok (.invokevirtual 327, 3) := by decide +kernel
theorem dX10_tell_38 : decode cX10_tell 38 = .ok (.ireturn, 1) := by decide +kernel
theorem dX10_tell_39 : decode cX10_tell 39 = .ok (.aload_n 0, 1) := by decide +kernel
theorem dX10_tell_40 : decode cX10_tell 40 = .ok (.iload_n 1, 1) := by decide +kernel
theorem dX10_tell_41 : decode cX10_tell 41 = .ok (.aload_n 0, 1) := by decide +kernel
theorem dX10_tell_42 : decode cX10_tell 42 = .ok (.iload_n 2, 1) := by decide +kernel
theorem dX10_tell_43 : decode cX10_tell 43 = .ok (.iload_n 3, 1) := by decide +kernel
theorem dX10_tell_44 : decode cX10_tell 44 = .ok (.invokevirtual 420, 3) := by decide +kernel
theorem dX10_tell_47 : decode cX10_tell 47 = .ok (.invokevirtual 424, 3) := by decide +kernel
theorem dX10_tell_50 : decode cX10_tell 50 = .ok (.istore 4, 2) := by decide +kernel
theorem dX10_tell_52 : decode cX10_tell 52 = .ok (.iload 4, 2) := by decide +kernel
theorem dX10_tell_54 : decode cX10_tell 54 = .ok (.aload_n 0, 1) := by decide +kernel
theorem dX10_tell_55 : decode cX10_tell 55 = .ok (.invokevirtual 427, 3) := by decide +kernel
theorem dX10_tell_58 : decode cX10_tell 58 = .ok (.ishr, 1) := by decide +kernel
theorem dX10_tell_59 : decode cX10_tell 59 = .ok (.iconst 1, 1) := by decide +kernel
theorem dX10_tell_60 : decode cX10_tell 60 = .ok (.iand, 1) := by decide +kernel
theorem dX10_tell_61 : decode cX10_tell 61 = .ok (.ifCond .ne 9, 3) := by decide +kernel
theorem dX10_tell_64 : decode cX10_tell 64 = .ok (.aload_n 0, 1) := by decide +kernel
theorem dX10_tell_65 : decode cX10_tell 65 = .ok (.iconst 2, 1) := by decide +kernel
theorem dX10_tell_66 : decode cX10_tell 66 = .ok (.invokevirtual 327, 3) := by decide +kernel
theorem dX10_tell_69 : decode cX10_tell 69 = .ok (.ireturn, 1) := by decide +kernel
theorem dX10_tell_70 : decode cX10_tell 70 = .ok (.aload_n 0, 1) := by decide +kernel
theorem dX10_tell_71 : decode cX10_tell 71 = .ok (.dup, 1) := by decide +kernel
theorem dX10_tell_72 : decode cX10_tell 72 = .ok (.getfield 285, 3) := by decide +kernel
theorem dX10_tell_75 : decode cX10_tell 75 = .ok (.iload 4, 2) := by decide +kernel
theorem dX10_tell_77 : decode cX10_tell 77 = .ok (.iand, 1) := by decide +kernel
theorem dX10_tell_78 : decode cX10_tell 78 = .ok (.putfield 285, 3) := by decide +kernel
theorem dX10_tell_81 : decode cX10_tell 81 = .ok (.aload_n 0, 1) := by decide +kernel
theorem dX10_tell_82 : decode cX10_tell 82 = .ok (.getfield 285, 3) := by decide +kernel
theorem dX10_tell_85 : decode cX10_tell 85 = .ok (.invokestatic 295, 3) := by decide +kernel
theorem dX10_tell_88 : decode cX10_tell 88 = .ok (.ireturn, 1) := by decide +kernel
theorem dX10_thing_0 : decode cX10_thing 0 = .ok (.aload_n 0, 1) := by decide +kernel
theorem dX10_thing_1 : decode cX10_thing 1 = .ok (.iconst 0, 1) := by decide +kernel
theorem dX10_thing_2 : decode cX10_thing 2 = .ok (.putfield 122, 3) := by decide +kernel
theorem dX10_thing_5 : decode cX10_thing 5 = .ok (.aload_n 0, 1) := by decide +kernel
theorem dX10_thing_6 : decode cX10_thing 6 = .ok (.iload_n 1, 1) := by decide +kernel
theorem dX10_thing_7 : decode cX10_thing 7 = .ok (.invokevirtual 302, 3) := by decide +kernel
theorem dX10_thing_10 : decode cX10_thing 10 = .ok (.ifCond .eq 30, 3) := by decide +kernel
theorem dX10_thing_13 : decode cX10_thing 13 = .ok (.aload_n 0, 1) := by decide +kernel
theorem dX10_thing_14 : decode cX10_thing 14 = .ok (.iload_n 2, 1) := by decide +kernel
theorem dX10_thing_15 : decode cX10_thing 15 = .ok (.iconst 0, 1) := by decide +kernel
theorem dX10_thing_16 : decode cX10_thing 16 = .ok (.iconst 4, 1) := by decide +kernel
theorem dX10_thing_17 : decode cX10_thing 17 = .ok (.invokestatic 291, 3) := by decide +kernel
theorem dX10_thing_20 : decode cX10_thing 20 = .ok (.iconst 1, 1) := by decide +kernel
theorem dX10_thing_21 : decode cX10_thing 21 = .ok (.invokevirtual 250, 3) := by decide +kernel
theorem dX10_thing_24 : decode cX10_thing 24 = .ok (.ifCond .eq 16, 3) := by decide +kernel
theorem dX10_thing_27 : decode cX10_thing 27 = .ok (.aload_n 0, 1) := by decide +kernel
theorem dX10_thing_28 : decode cX10_thing 28 = .ok (.getfield 26, 3) := by decide +kernel
theorem dX10_thing_31 : decode cX10_thing 31 = .ok (.iconst 5, 1) := by decide +kernel
theorem dX10_thing_32 : decode cX10_thing 32 = .ok (.iload_n 1, 1) := by decide +kernel
theorem dX10_thing_33 : decode cX10_thing 33 = .ok (.imul, 1) := by decide +kernel
theorem dX10_thing_34 : decode cX10_thing 34 = .ok (.iload_n 2, 1) := by decide +kernel
theorem dX10_thing_35 : decode cX10_thing 35 = .ok (.iadd, 1) := by decide +kernel
theorem dX10_thing_36 : decode cX10_thing 36 = .ok (.iaload, 1) := by decide +kernel
theorem dX10_thing_37 : decode cX10_thing 37 = .ok (.goto 4, 3) := by decide +kernel
theorem dX10_thing_40 : decode cX10_thing 40 = .ok (.iconst 0, 1) := by decide +kernel
theorem dX10_thing_41 : decode cX10_thing 41 = .ok (.ireturn, 1) := by decide +kernel
theorem dX10_thrown_0 : decode cX10_thrown 0 = .ok (.aload_n 0, 1) := by decide +kernel
theorem dX10_thrown_1 : decode cX10_thrown 1 = .ok (.getfield 122, 3) := by decide +kernel
theorem dX10_thrown_4 : decode cX10_thrown 4 = .ok (.ireturn, 1) := by decide +kernel
theorem dX10_unsay_0 : decode cX10_unsay 0 = .ok (.aload_n 0, 1) := by decide +kernel
theorem dX10_unsay_1 : decode cX10_unsay 1 = .ok (.iconst 0, 1) := by decide +kernel
theorem dX10_unsay_2 : decode cX10_unsay 2 = .ok (.putfield 122, 3) := by decide +kernel
theorem dX10_unsay_5 : decode cX10_unsay 5 = .ok (.aload_n 0, 1) := by decide +kernel
theorem dX10_unsay_6 : decode cX10_unsay 6 = .ok (.getfield 279, 3) := by decide +kernel
theorem dX10_unsay_9 : decode cX10_unsay 9 = .ok (.ifCond .ne 5, 3) := by decide +kernel
theorem dX10_unsay_12 : decode cX10_unsay 12 = .ok (.iconst (-1), 1) := by decide +kernel
theorem dX10_unsay_13 : decode cX10_unsay 13 = .ok (.ireturn, 1) := by decide +kernel
theorem dX10_unsay_14 : decode cX10_unsay 14 = .ok (.aload_n 0, 1) := by decide +kernel
theorem dX10_unsay_15 : decode cX10_unsay 15 = .ok (.dup, 1) := by decide +kernel
theorem dX10_unsay_16 : decode cX10_unsay 16 = .ok (.getfield 279, 3) := by decide +kernel
theorem dX10_unsay_19 : decode cX10_unsay 19 = .ok (.iconst 1, 1) := by decide +kernel
theorem dX10_unsay_20 : decode cX10_unsay 20 = .ok (.isub, 1) := by decide +kernel
theorem dX10_unsay_21 : decode cX10_unsay 21 = .ok (.putfield 279, 3) := by decide +kernel
theorem dX10_unsay_24 : decode cX10_unsay 24 = .ok (.aload_n 0, 1) := by decide +kernel
theorem dX10_unsay_25 : decode cX10_unsay 25 = .ok (.getfield 279, 3) := by decide +kernel
theorem dX10_unsay_28 : decode cX10_unsay 28 = .ok (.ireturn, 1) := by decide +kernel
theorem dX10_blanks_0 : decode cX10_blanks 0 = .ok (.iload_n 1, 1) := by decide +kernel
theorem dX10_blanks_1 : decode cX10_blanks 1 = .ok (.istore_n 3, 1) := by decide +kernel
theorem dX10_blanks_2 : decode cX10_blanks 2 = .ok (.iload_n 3, 1) := by decide +kernel
theorem dX10_blanks_3 : decode cX10_blanks 3 = .ok (.iload_n 2, 1) := by decide +kernel
theorem dX10_blanks_4 : decode cX10_blanks 4 = .ok (.if_icmp .ge 31, 3) := by decide +kernel
theorem dX10_blanks_7 : decode cX10_blanks 7 = .ok (.aload_n 0, 1) := by decide +kernel
theorem dX10_blanks_8 : decode cX10_blanks 8 = .ok (.getfield 41, 3) := by decide +kernel
theorem dX10_blanks_11 : decode cX10_blanks 11 = .ok (.iload_n 3, 1) := by decide +kernel
theorem dX10_blanks_12 : decode cX10_blanks 12 = .ok (.iaload, 1) := by decide +kernel
theorem dX10_blanks_13 : decode cX10_blanks 13 = .ok (.bipush 32, 2) := by decide +kernel
theorem dX10_blanks_15 : decode cX10_blanks 15 = .ok (.if_icmp .eq 14, 3) := by decide +kernel
theorem dX10_blanks_18 : decode cX10_blanks 18 = .ok (.aload_n 0, 1) := by decide +kernel
theorem dX10_blanks_19 : decode cX10_blanks 19 = .ok (.getfield 41, 3) := by decide +kernel
theorem dX10_blanks_22 : decode cX10_blanks 22 = .ok (.iload_n 3, 1) := by decide +kernel
theorem dX10_blanks_23 : decode cX10_blanks 23 = .ok (.iaload, 1) := by decide +kernel
theorem dX10_blanks_24 : decode cX10_blanks 24 = .ok (.bipush 10, 2) := by decide +kernel
theorem dX10_blanks_26 : decode cX10_blanks 26 = .ok (.if_icmp .ne 9, 3) := by decide +kernel
theorem dX10_blanks_29 : decode cX10_blanks 29 = .ok (.iinc 3 1, 3) := by decide +kernel
theorem dX10_blanks_32 : decode cX10_blanks 32 = .ok (.goto (-30), 3) := by decide +kernel
theorem dX10_blanks_35 : decode cX10_blanks 35 = .ok (.iload_n 3, 1) := by decide +kernel
theorem dX10_blanks_36 : decode cX10_blanks 36 = .ok (.ireturn, 1) := by decide +kernel
theorem dX10_isLetter_0 : decode cX10_isLetter 0 = .ok (.iload_n 0, 1) := by decide +kernel
theorem dX10_isLetter_1 : decode cX10_isLetter 1 = .ok (.bipush 97, 2) := by decide +kernel
theorem dX10_isLetter_3 : decode cX10_isLetter 3 = .ok (.if_icmp .lt 13, 3) := by decide +kernel
theorem dX10_isLetter_6 : decode cX10_isLetter 6 = .ok (.iload_n 0, 1) := by decide +kernel
theorem dX10_isLetter_7 : decode cX10_isLetter 7 = .ok (.bipush 122, 2) := by decide +kernel
theorem dX10_isLetter_9 : decode cX10_isLetter 9 = .ok (.if_icmp .gt 7, 3) := by decide +kernel
theorem dX10_isLetter_12 : decode cX10_isLetter 12 = .ok (.iconst 1, 1) := by decide +kernel
theorem dX10_isLetter_13 : decode cX10_isLetter 13 = .ok (.goto 4, 3) := by decide +kernel
theorem dX10_isLetter_16 : decode cX10_isLetter 16 = .ok (.iconst 0, 1) := by decide +kernel
theorem dX10_isLetter_17 : decode cX10_isLetter 17 = .ok (.ireturn, 1) := by decide +kernel
theorem dX10_lettersTo_0 : decode cX10_lettersTo 0 = .ok (.iload_n 1, 1) := by decide +kernel
theorem dX10_lettersTo_1 : decode cX10_lettersTo 1 = .ok (.istore_n 3, 1) := by decide +kernel
theorem dX10_lettersTo_2 : decode cX10_lettersTo 2 = .ok (.iload_n 3, 1) := by decide +kernel
theorem dX10_lettersTo_3 : decode cX10_lettersTo 3 = .ok (.iload_n 2, 1) := by decide +kernel
theorem dX10_lettersTo_4 : decode cX10_lettersTo 4 = .ok (.if_icmp .ge 21, 3) := by decide +kernel
theorem dX10_lettersTo_7 : decode cX10_lettersTo 7 = .ok (.aload_n 0, 1) := by decide +kernel
theorem dX10_lettersTo_8 : decode cX10_lettersTo 8 = .ok (.getfield 41, 3) := by decide +kernel
theorem dX10_lettersTo_11 : decode cX10_lettersTo 11 = .ok (.iload_n 3, 1) := by decide +kernel
theorem dX10_lettersTo_12 : decode cX10_lettersTo 12 = .ok (.iaload, 1) := by decide +kernel
theorem dX10_lettersTo_13 : decode cX10_lettersTo 13 = .ok (.invokestatic 155, 3) := by decide +kernel
theorem dX10_lettersTo_16 : decode cX10_lettersTo 16 = .ok (.ifCond .eq 9, 3) := by decide +kernel
theorem dX10_lettersTo_19 : decode cX10_lettersTo 19 = .ok (.iinc 3 1, 3) := by decide +kernel
theorem dX10_lettersTo_22 : decode cX10_lettersTo 22 = .ok (.goto (-20), 3) := by decide +kernel
theorem dX10_lettersTo_25 : decode cX10_lettersTo 25 = .ok (.iload_n 3, 1) := by decide +kernel
theorem dX10_lettersTo_26 : decode cX10_lettersTo 26 = .ok (.ireturn, 1) := by decide +kernel
theorem dX10_isNot_0 : decode cX10_isNot 0 = .ok (.aload_n 0, 1) := by decide +kernel
theorem dX10_isNot_1 : decode cX10_isNot 1 = .ok (.getfield 23, 3) := by decide +kernel
theorem dX10_isNot_4 : decode cX10_isNot 4 = .ok (.iconst 0, 1) := by decide +kernel
theorem dX10_isNot_5 : decode cX10_isNot 5 = .ok (.iaload, 1) := by decide +kernel
theorem dX10_isNot_6 : decode cX10_isNot 6 = .ok (.ifCond .eq 15, 3) := by decide +kernel
theorem dX10_isNot_9 : decode cX10_isNot 9 = .ok (.iload_n 2, 1) := by decide +kernel
theorem dX10_isNot_10 : decode cX10_isNot 10 = .ok (.iload_n 1, 1) := by decide +kernel
theorem dX10_isNot_11 : decode cX10_isNot 11 = .ok (.isub, 1) := by decide +kernel
theorem dX10_isNot_12 : decode cX10_isNot 12 = .ok (.aload_n 0, 1) := by decide +kernel
theorem dX10_isNot_13 : decode cX10_isNot 13 = .ok (.getfield 23, 3) := by decide +kernel
theorem dX10_isNot_16 : decode cX10_isNot 16 = .ok (.iconst 0, 1) := by decide +kernel
theorem dX10_isNot_17 : decode cX10_isNot 17 = .ok (.iaload, 1) := by decide +kernel
theorem dX10_isNot_18 : decode cX10_isNot 18 = .ok (.if_icmp .eq 5, 3) := by decide +kernel
theorem dX10_isNot_21 : decode cX10_isNot 21 = .ok (.iconst 0, 1) := by decide +kernel
theorem dX10_isNot_22 : decode cX10_isNot 22 = .ok (.ireturn, 1) := by decide +kernel
theorem dX10_isNot_23 : decode cX10_isNot 23 = .ok (.iconst 0, 1) := by decide +kernel
theorem dX10_isNot_24 : decode cX10_isNot 24 = .ok (.istore_n 3, 1) := by decide +kernel
theorem dX10_isNot_25 : decode cX10_isNot 25 = .ok (.iload_n 3, 1) := by decide +kernel
theorem dX10_isNot_26 : decode cX10_isNot 26 = .ok (.aload_n 0, 1) := by decide +kernel
theorem dX10_isNot_27 : decode cX10_isNot 27 = .ok (.getfield 23, 3) := by decide +kernel
theorem dX10_isNot_30 : decode cX10_isNot 30 = .ok (.iconst 0, 1) := by decide +kernel
theorem dX10_isNot_31 : decode cX10_isNot 31 = .ok (.iaload, 1) := by decide +kernel
theorem dX10_isNot_32 : decode cX10_isNot 32 = .ok (.if_icmp .ge 30, 3) := by decide +kernel
theorem dX10_isNot_35 : decode cX10_isNot 35 = .ok (.aload_n 0, 1) := by decide +kernel
theorem dX10_isNot_36 : decode cX10_isNot 36 = .ok (.getfield 41, 3) := by decide +kernel
theorem dX10_isNot_39 : decode cX10_isNot 39 = .ok (.iload_n 1, 1) := by decide +kernel
theorem dX10_isNot_40 : decode cX10_isNot 40 = .ok (.iload_n 3, 1) := by decide +kernel
theorem dX10_isNot_41 : decode cX10_isNot 41 = .ok (.iadd, 1) := by decide +kernel
theorem dX10_isNot_42 : decode cX10_isNot 42 = .ok (.iaload, 1) := by decide +kernel
theorem dX10_isNot_43 : decode cX10_isNot 43 = .ok (.aload_n 0, 1) := by decide +kernel
theorem dX10_isNot_44 : decode cX10_isNot 44 = .ok (.getfield 23, 3) := by decide +kernel
theorem dX10_isNot_47 : decode cX10_isNot 47 = .ok (.iconst 1, 1) := by decide +kernel
theorem dX10_isNot_48 : decode cX10_isNot 48 = .ok (.iload_n 3, 1) := by decide +kernel
theorem dX10_isNot_49 : decode cX10_isNot 49 = .ok (.iadd, 1) := by decide +kernel
theorem dX10_isNot_50 : decode cX10_isNot 50 = .ok (.iaload, 1) := by decide +kernel
theorem dX10_isNot_51 : decode cX10_isNot 51 = .ok (.if_icmp .eq 5, 3) := by decide +kernel
theorem dX10_isNot_54 : decode cX10_isNot 54 = .ok (.iconst 0, 1) := by decide +kernel
theorem dX10_isNot_55 : decode cX10_isNot 55 = .ok (.ireturn, 1) := by decide +kernel
theorem dX10_isNot_56 : decode cX10_isNot 56 = .ok (.iinc 3 1, 3) := by decide +kernel
theorem dX10_isNot_59 : decode cX10_isNot 59 = .ok (.goto (-34), 3) := by decide +kernel
theorem dX10_isNot_62 : decode cX10_isNot 62 = .ok (.iconst 1, 1) := by decide +kernel
theorem dX10_isNot_63 : decode cX10_isNot 63 = .ok (.ireturn, 1) := by decide +kernel
theorem dX10_utter_0 : decode cX10_utter 0 = .ok (.aload_n 0, 1) := by decide +kernel
theorem dX10_utter_1 : decode cX10_utter 1 = .ok (.iconst 0, 1) := by decide +kernel
theorem dX10_utter_2 : decode cX10_utter 2 = .ok (.putfield 122, 3) := by decide +kernel
theorem dX10_utter_5 : decode cX10_utter 5 = .ok (.aload_n 0, 1) := by decide +kernel
theorem dX10_utter_6 : decode cX10_utter 6 = .ok (.iload_n 1, 1) := by decide +kernel
theorem dX10_utter_7 : decode cX10_utter 7 = .ok (.iload_n 2, 1) := by decide +kernel
theorem dX10_utter_8 : decode cX10_utter 8 = .ok (.invokevirtual 298, 3) := by decide +kernel
theorem dX10_utter_11 : decode cX10_utter 11 = .ok (.ifCond .eq 28, 3) := by decide +kernel
theorem dX10_utter_14 : decode cX10_utter 14 = .ok (.aload_n 0, 1) := by decide +kernel
theorem dX10_utter_15 : decode cX10_utter 15 = .ok (.iload_n 3, 1) := by decide +kernel
theorem dX10_utter_16 : decode cX10_utter 16 = .ok (.ifCond .lt 15, 3) := by decide +kernel
theorem dX10_utter_19 : decode cX10_utter 19 = .ok (.iload_n 3, 1) := by decide +kernel
theorem dX10_utter_20 : decode cX10_utter 20 = .ok (.aload_n 0, 1) := by decide +kernel
theorem dX10_utter_21 : decode cX10_utter 21 = .ok (.getfield 125, 3) := by decide +kernel
theorem dX10_utter_24 : decode cX10_utter 24 = .ok (.if_icmp .gt 7, 3) := by decide +kernel
theorem dX10_utter_27 : decode cX10_utter 27 = .ok (.iconst 1, 1) := by decide +kernel
theorem dX10_utter_28 : decode cX10_utter 28 = .ok (.goto 4, 3) := by decide +kernel
theorem dX10_utter_31 : decode cX10_utter 31 = .ok (.iconst 0, 1) := by decide +kernel
theorem dX10_utter_32 : decode cX10_utter 32 = .ok (.iconst 2, 1) := by decide +kernel
theorem dX10_utter_33 : decode cX10_utter 33 = .ok (.invokevirtual 250, 3) := by decide +kernel
theorem dX10_utter_36 : decode cX10_utter 36 = .ok (.ifCond .ne 5, 3) := by decide +kernel
theorem dX10_utter_39 : decode cX10_utter 39 = .ok (.iconst 0, 1) := by decide +kernel
theorem dX10_utter_40 : decode cX10_utter 40 = .ok (.ireturn, 1) := by decide +kernel
theorem dX10_utter_41 : decode cX10_utter 41 = .ok (.aload_n 0, 1) := by decide +kernel
theorem dX10_utter_42 : decode cX10_utter 42 = .ok (.iconst 0, 1) := by decide +kernel
theorem dX10_utter_43 : decode cX10_utter 43 = .ok (.putfield 125, 3) := by decide +kernel
theorem dX10_utter_46 : decode cX10_utter 46 = .ok (.aload_n 0, 1) := by decide +kernel
theorem dX10_utter_47 : decode cX10_utter 47 = .ok (.getfield 279, 3) := by decide +kernel
theorem dX10_utter_50 : decode cX10_utter 50 = .ok (.bipush 20, 2) := by decide +kernel
theorem dX10_utter_52 : decode cX10_utter 52 = .ok (.if_icmp .ne 9, 3) := by decide +kernel
theorem dX10_utter_55 : decode cX10_utter 55 = .ok (.aload_n 0, 1) := by decide +kernel
theorem dX10_utter_56 : decode cX10_utter 56 = .ok (.iconst 1, 1) := by decide +kernel
theorem dX10_utter_57 : decode cX10_utter 57 = .ok (.invokevirtual 327, 3) := by decide +kernel
theorem dX10_utter_60 : decode cX10_utter 60 = .ok (.ireturn, 1) := by decide +kernel
theorem dX10_utter_61 : decode cX10_utter 61 = .ok (.aload_n 0, 1) := by decide +kernel
theorem dX10_utter_62 : decode cX10_utter 62 = .ok (.iconst 0, 1) := by decide +kernel
theorem dX10_utter_63 : decode cX10_utter 63 = .ok (.iload_n 3, 1) := by decide +kernel
theorem dX10_utter_64 : decode cX10_utter 64 = .ok (.invokevirtual 334, 3) := by decide +kernel
theorem dX10_utter_67 : decode cX10_utter 67 = .ok (.istore 4, 2) := by decide +kernel
theorem dX10_utter_69 : decode cX10_utter 69 = .ok (.aload_n 0, 1) := by decide +kernel
theorem dX10_utter_70 : decode cX10_utter 70 = .ok (.iload 4, 2) := by decide +kernel
theorem dX10_utter_72 : decode cX10_utter 72 = .ok (.iload_n 3, 1) := by decide +kernel
theorem dX10_utter_73 : decode cX10_utter 73 = .ok (.invokevirtual 337, 3) := by decide +kernel
theorem dX10_utter_76 : decode cX10_utter 76 = .ok (.istore 5, 2) := by decide +kernel
theorem dX10_utter_78 : decode cX10_utter 78 = .ok (.aload_n 0, 1) := by decide +kernel
theorem dX10_utter_79 : decode cX10_utter 79 = .ok (.iload 5, 2) := by decide +kernel
theorem dX10_utter_81 : decode cX10_utter 81 = .ok (.iload_n 3, 1) := by decide +kernel
theorem dX10_utter_82 : decode cX10_utter 82 = .ok (.invokevirtual 334, 3) := by decide +kernel
theorem dX10_utter_85 : decode cX10_utter 85 = .ok (.istore 6, 2) := by decide +kernel
theorem dX10_utter_87 : decode cX10_utter 87 = .ok (.aload_n 0, 1) := by decide +kernel
theorem dX10_utter_88 : decode cX10_utter 88 = .ok (.iload 6, 2) := by decide +kernel
theorem dX10_utter_90 : decode cX10_utter 90 = .ok (.iload_n 3, 1) := by decide +kernel
theorem dX10_utter_91 : decode cX10_utter 91 = .ok (.invokevirtual 337, 3) := by decide +kernel
theorem dX10_utter_94 : decode cX10_utter 94 = .ok (.istore 7, 2) := by decide +kernel
theorem dX10_utter_96 : decode cX10_utter 96 = .ok (.iload 7, 2) := by decide +kernel
theorem dX10_utter_98 : decode cX10_utter 98 = .ok (.iload 6, 2) := by decide +kernel
theorem dX10_utter_100 : decode cX10_utter 100 = .ok (.if_icmp .le 7, 3) := by decide +kernel
theorem dX10_utter_103 : decode cX10_utter 103 = .ok (.iconst 1, 1) := by decide +kernel
theorem dX10_utter_104 : decode cX10_utter 104 = .ok (.goto 4, 3) := by decide +kernel
theorem dX10_utter_107 : decode cX10_utter 107 = .ok (.iconst 0, 1) := by decide +kernel
theorem dX10_utter_108 : decode cX10_utter 108 = .ok (.istore 8, 2) := by decide +kernel
theorem dX10_utter_110 : decode cX10_utter 110 = .ok (.iload 5, 2) := by decide +kernel
theorem dX10_utter_112 : decode cX10_utter 112 = .ok (.iload 4, 2) := by decide +kernel
theorem dX10_utter_114 : decode cX10_utter 114 = .ok (.if_icmp .eq 30, 3) := by decide +kernel
theorem dX10_utter_117 : decode cX10_utter 117 = .ok (.aload_n 0, 1) := by decide +kernel
theorem dX10_utter_118 : decode cX10_utter 118 = .ok (.iload 7, 2) := by decide +kernel
theorem dX10_utter_120 : decode cX10_utter 120 = .ok (.iload_n 3, 1) := by decide +kernel
theorem dX10_utter_121 : decode cX10_utter 121 = .ok (.invokevirtual 334, 3) := by decide +kernel
theorem dX10_utter_124 : decode cX10_utter 124 = .ok (.iload_n 3, 1) := by decide +kernel
theorem dX10_utter_125 : decode cX10_utter 125 = .ok (.if_icmp .lt 19, 3) := by decide +kernel
theorem dX10_utter_128 : decode cX10_utter 128 = .ok (.iload 8, 2) := by decide +kernel
theorem dX10_utter_130 : decode cX10_utter 130 = .ok (.ifCond .eq 20, 3) := by decide +kernel
theorem dX10_utter_133 : decode cX10_utter 133 = .ok (.aload_n 0, 1) := by decide +kernel
theorem dX10_utter_134 : decode cX10_utter 134 = .ok (.iload 4, 2) := by decide +kernel
theorem dX10_utter_136 : decode cX10_utter 136 = .ok (.iload 5, 2) := by decide +kernel
theorem dX10_utter_138 : decode cX10_utter 138 = .ok (.invokevirtual 340, 3) := by decide +kernel
theorem dX10_utter_141 : decode cX10_utter 141 = .ok (.ifCond .ne 9, 3) := by decide +kernel
theorem dX10_utter_144 : decode cX10_utter 144 = .ok (.aload_n 0, 1) := by decide +kernel
theorem dX10_utter_145 : decode cX10_utter 145 = .ok (.iconst 1, 1) := by decide +kernel
theorem dX10_utter_146 : decode cX10_utter 146 = .ok (.invokevirtual 327, 3) := by decide +kernel
theorem dX10_utter_149 : decode cX10_utter 149 = .ok (.ireturn, 1) := by decide +kernel
theorem dX10_utter_150 : decode cX10_utter 150 = .ok (.aload_n 0, 1) := by decide +kernel
theorem dX10_utter_151 : decode cX10_utter 151 = .ok (.getfield 321, 3) := by decide +kernel
theorem dX10_utter_154 : decode cX10_utter 154 = .ok (.istore 9, 2) := by decide +kernel
theorem dX10_utter_156 : decode cX10_utter 156 = .ok (.aload_n 0, 1) := by decide +kernel
theorem dX10_utter_157 : decode cX10_utter 157 = .ok (.aload_n 0, 1) := by decide +kernel
theorem dX10_utter_158 : decode cX10_utter 158 = .ok (.getfield 80, 3) := by decide +kernel
theorem dX10_utter_161 : decode cX10_utter 161 = .ok (.aload_n 0, 1) := by decide +kernel
theorem dX10_utter_162 : decode cX10_utter 162 = .ok (.getfield 86, 3) := by decide +kernel
theorem dX10_utter_165 : decode cX10_utter 165 = .ok (.invokevirtual 275, 3) := by decide +kernel
theorem dX10_utter_168 : decode cX10_utter 168 = .ok (.aload_n 0, 1) := by decide +kernel
theorem dX10_utter_169 : decode cX10_utter 169 = .ok (.iload 8, 2) := by decide +kernel
theorem dX10_utter_171 : decode cX10_utter 171 = .ok (.ifCond .eq 8, 3) := by decide +kernel
theorem dX10_utter_174 : decode cX10_utter 174 = .ok (.iload 6, 2) := by decide +kernel
theorem dX10_utter_176 : decode cX10_utter 176 = .ok (.goto 5, 3) := by decide +kernel
theorem dX10_utter_179 : decode cX10_utter 179 = .ok (.iload 4, 2) := by decide +kernel
theorem dX10_utter_181 : decode cX10_utter 181 = .ok (.iload 8, 2) := by decide +kernel
theorem dX10_utter_183 : decode cX10_utter 183 = .ok (.ifCond .eq 8, 3) := by decide +kernel
theorem dX10_utter_186 : decode cX10_utter 186 = .ok (.iload 7, 2) := by decide +kernel
theorem dX10_utter_188 : decode cX10_utter 188 = .ok (.goto 5, 3) := by decide +kernel
theorem dX10_utter_191 : decode cX10_utter 191 = .ok (.iload 5, 2) := by decide +kernel
theorem dX10_utter_193 : decode cX10_utter 193 = .ok (.invokevirtual 324, 3) := by decide +kernel
theorem dX10_utter_196 : decode cX10_utter 196 = .ok (.aload_n 0, 1) := by decide +kernel
theorem dX10_utter_197 : decode cX10_utter 197 = .ok (.getfield 321, 3) := by decide +kernel
theorem dX10_utter_200 : decode cX10_utter 200 = .ok (.istore 10, 2) := by decide +kernel
theorem dX10_utter_202 : decode cX10_utter 202 = .ok (.aload_n 0, 1) := by decide +kernel
theorem dX10_utter_203 : decode cX10_utter 203 = .ok (.getfield 80, 3) := by decide +kernel
theorem dX10_utter_206 : decode cX10_utter 206 = .ok (.iconst 0, 1) := by decide +kernel
theorem dX10_utter_207 : decode cX10_utter 207 = .ok (.iaload, 1) := by decide +kernel
theorem dX10_utter_208 : decode cX10_utter 208 = .ok (.istore 11, 2) := by decide +kernel
theorem dX10_utter_210 : decode cX10_utter 210 = .ok (.aload_n 0, 1) := by decide +kernel
theorem dX10_utter_211 : decode cX10_utter 211 = .ok (.iload 9, 2) := by decide +kernel
theorem dX10_utter_213 : decode cX10_utter 213 = .ok (.putfield 321, 3) := by decide +kernel
theorem dX10_utter_216 : decode cX10_utter 216 = .ok (.aload_n 0, 1) := by decide +kernel
theorem dX10_utter_217 : decode cX10_utter 217 = .ok (.aload_n 0, 1) := by decide +kernel
theorem dX10_utter_218 : decode cX10_utter 218 = .ok (.getfield 86, 3) := by decide +kernel
theorem dX10_utter_221 : decode cX10_utter 221 = .ok (.aload_n 0, 1) := by decide +kernel
theorem dX10_utter_222 : decode cX10_utter 222 = .ok (.getfield 80, 3) := by decide +kernel
theorem dX10_utter_225 : decode cX10_utter 225 = .ok (.invokevirtual 275, 3) := by decide +kernel
theorem dX10_utter_228 : decode cX10_utter 228 = .ok (.iload 10, 2) := by decide +kernel
theorem dX10_utter_230 : decode cX10_utter 230 = .ok (.iconst 1, 1) := by decide +kernel
theorem dX10_utter_231 : decode cX10_utter 231 = .ok (.if_icmp .ne 13, 3) := by decide +kernel
theorem dX10_utter_234 : decode cX10_utter 234 = .ok (.iload 11, 2) := by decide +kernel
theorem dX10_utter_236 : decode cX10_utter 236 = .ok (.iconst 5, 1) := by decide +kernel
theorem dX10_utter_237 : decode cX10_utter 237 = .ok (.idiv, 1) := by decide +kernel
theorem dX10_utter_238 : decode cX10_utter 238 = .ok (.iconst 3, 1) := by decide +kernel
theorem dX10_utter_239 : decode cX10_utter 239 = .ok (.irem, 1) := by decide +kernel
theorem dX10_utter_240 : decode cX10_utter 240 = .ok (.iconst 2, 1) := by decide +kernel
theorem dX10_utter_241 : decode cX10_utter 241 = .ok (.if_icmp .eq 9, 3) := by decide +kernel
theorem dX10_utter_244 : decode cX10_utter 244 = .ok (.aload_n 0, 1) := by decide +kernel
theorem dX10_utter_245 : decode cX10_utter 245 = .ok (.iconst 1, 1) := by decide +kernel
theorem dX10_utter_246 : decode cX10_utter 246 = .ok (.invokevirtual 327, 3) := by decide +kernel
theorem dX10_utter_249 : decode cX10_utter 249 = .ok (.ireturn, 1) := by decide +kernel
theorem dX10_utter_250 : decode cX10_utter 250 = .ok (.iconst 0, 1) := by decide +kernel
theorem dX10_utter_251 : decode cX10_utter 251 = .ok (.istore 12, 2) := by decide +kernel
theorem dX10_utter_253 : decode cX10_utter 253 = .ok (.iload 12, 2) := by decide +kernel
theorem dX10_utter_255 : decode cX10_utter 255 = .ok (.aload_n 0, 1) := by decide +kernel
theorem dX10_utter_256 : decode cX10_utter 256 = .ok (.getfield 269, 3) := by decide +kernel
theorem dX10_utter_259 : decode cX10_utter 259 = .ok (.if_icmp .ge 49, 3) := by decide +kernel
theorem dX10_utter_262 : decode cX10_utter 262 = .ok (.aload_n 0, 1) := by decide +kernel
theorem dX10_utter_263 : decode cX10_utter 263 = .ok (.getfield 26, 3) := by decide +kernel
theorem dX10_utter_266 : decode cX10_utter 266 = .ok (.iconst 5, 1) := by decide +kernel
theorem dX10_utter_267 : decode cX10_utter 267 = .ok (.iload 12, 2) := by decide +kernel
theorem dX10_utter_269 : decode cX10_utter 269 = .ok (.imul, 1) := by decide +kernel
theorem dX10_utter_270 : decode cX10_utter 270 = .ok (.iaload, 1) := by decide +kernel
theorem dX10_utter_271 : decode cX10_utter 271 = .ok (.iload 11, 2) := by decide +kernel
theorem dX10_utter_273 : decode cX10_utter 273 = .ok (.bipush 15, 2) := by decide +kernel
theorem dX10_utter_275 : decode cX10_utter 275 = .ok (.idiv, 1) := by decide +kernel
theorem dX10_utter_276 : decode cX10_utter 276 = .ok (.if_icmp .ne 26, 3) := by decide +kernel
theorem dX10_utter_279 : decode cX10_utter 279 = .ok (.aload_n 0, 1) := by decide +kernel
theorem dX10_utter_280 : decode cX10_utter 280 = .ok (.iload_n 1, 1) := by decide +kernel
theorem dX10_utter_281 : decode cX10_utter 281 = .ok (.iload_n 2, 1) := by decide +kernel
theorem dX10_utter_282 : decode cX10_utter 282 = .ok (.iload 12, 2) := by decide +kernel
theorem dX10_utter_284 : decode cX10_utter 284 = .ok (.iload 11, 2) := by decide +kernel
theorem dX10_utter_286 : decode cX10_utter 286 = .ok (.iconst 5, 1) := by decide +kernel
theorem dX10_utter_287 : decode cX10_utter 287 = .ok (.irem, 1) := by decide +kernel
theorem dX10_utter_288 : decode cX10_utter 288 = .ok (.iload 8, 2) := by decide +kernel
theorem dX10_utter_290 : decode cX10_utter 290 = .ok (.ifCond .eq 7, 3) := by decide +kernel
theorem dX10_utter_293 : decode cX10_utter 293 = .ok (.iconst 1, 1) := by decide +kernel
theorem dX10_utter_294 : decode cX10_utter 294 = .ok (.goto 4, 3) := by decide +kernel
theorem dX10_utter_297 : decode cX10_utter 297 = .ok (.iconst 0, 1) := by decide +kernel
theorem dX10_utter_298 : decode cX10_utter 298 = .ok (.invokevirtual 330, 3) := by decide +kernel
theorem dX10_utter_301 : decode cX10_utter 301 = .ok (.ireturn, 1) := by decide +kernel
theorem dX10_utter_302 : decode cX10_utter 302 = .ok (.iinc 12 1, 3) := by decide +kernel
theorem dX10_utter_305 : decode cX10_utter 305 = .ok (.goto (-52), 3) := by decide +kernel
theorem dX10_utter_308 : decode cX10_utter 308 = .ok (.aload_n 0, 1) := by decide +kernel
theorem dX10_utter_309 : decode cX10_utter 309 = .ok (.iconst 1, 1) := by decide +kernel
theorem dX10_utter_310 : decode cX10_utter 310 = .ok (.invokevirtual 327, 3) := by decide +kernel
theorem dX10_utter_313 : decode cX10_utter 313 = .ok (.ireturn, 1) := by decide +kernel
theorem dX10_empties_0 : decode cX10_empties 0 = .ok (.aload_n 0, 1) := by decide +kernel
theorem dX10_empties_1 : decode cX10_empties 1 = .ok (.iconst 0, 1) := by decide +kernel
theorem dX10_empties_2 : decode cX10_empties 2 = .ok (.putfield 210, 3) := by decide +kernel
theorem dX10_empties_5 : decode cX10_empties 5 = .ok (.aload_n 0, 1) := by decide +kernel
theorem dX10_empties_6 : decode cX10_empties 6 = .ok (.iconst 0, 1) := by decide +kernel
theorem dX10_empties_7 : decode cX10_empties 7 = .ok (.putfield 225, 3) := by decide +kernel
theorem dX10_empties_10 : decode cX10_empties 10 = .ok (.aload_n 0, 1) := by decide +kernel
theorem dX10_empties_11 : decode cX10_empties 11 = .ok (.iconst 1, 1) := by decide +kernel
theorem dX10_empties_12 : decode cX10_empties 12 = .ok (.putfield 201, 3) := by decide +kernel
theorem dX10_empties_15 : decode cX10_empties 15 = .ok (.aload_n 0, 1) := by decide +kernel
theorem dX10_empties_16 : decode cX10_empties 16 = .ok (.iconst 0, 1) := by decide +kernel
theorem dX10_empties_17 : decode cX10_empties 17 = .ok (.putfield 219, 3) := by decide +kernel
theorem dX10_empties_20 : decode cX10_empties 20 = .ok (.aload_n 0, 1) := by decide +kernel
theorem dX10_empties_21 : decode cX10_empties 21 = .ok (.iconst 0, 1) := by decide +kernel
theorem dX10_empties_22 : decode cX10_empties 22 = .ok (.putfield 207, 3) := by decide +kernel
theorem dX10_empties_25 : decode cX10_empties 25 = .ok (.aload_n 0, 1) := by decide +kernel
theorem dX10_empties_26 : decode cX10_empties 26 = .ok (.iconst 0, 1) := by decide +kernel
theorem dX10_empties_27 : decode cX10_empties 27 = .ok (.putfield 216, 3) := by decide +kernel
theorem dX10_empties_30 : decode cX10_empties 30 = .ok (.aload_n 0, 1) := by decide +kernel
theorem dX10_empties_31 : decode cX10_empties 31 = .ok (.iconst 0, 1) := by decide +kernel
theorem dX10_empties_32 : decode cX10_empties 32 = .ok (.putfield 228, 3) := by decide +kernel
theorem dX10_empties_35 : decode cX10_empties 35 = .ok (.aload_n 0, 1) := by decide +kernel
theorem dX10_empties_36 : decode cX10_empties 36 = .ok (.iconst 0, 1) := by decide +kernel
theorem dX10_empties_37 : decode cX10_empties 37 = .ok (.putfield 231, 3) := by decide +kernel
theorem dX10_empties_40 : decode cX10_empties 40 = .ok (.aload_n 0, 1) := by decide +kernel
theorem dX10_empties_41 : decode cX10_empties 41 = .ok (.iconst 0, 1) := by decide +kernel
theorem dX10_empties_42 : decode cX10_empties 42 = .ok (.putfield 197, 3) := by decide +kernel
theorem dX10_empties_45 : decode cX10_empties 45 = .ok (.aload_n 0, 1) := by decide +kernel
theorem dX10_empties_46 : decode cX10_empties 46 = .ok (.getfield 59, 3) := by decide +kernel
theorem dX10_empties_49 : decode cX10_empties 49 = .ok (.iconst 0, 1) := by decide +kernel
theorem dX10_empties_50 : decode cX10_empties 50 = .ok (.iconst 0, 1) := by decide +kernel
theorem dX10_empties_51 : decode cX10_empties 51 = .ok (.iastore, 1) := by decide +kernel
theorem dX10_empties_52 : decode cX10_empties 52 = .ok (.iconst 0, 1) := by decide +kernel
theorem dX10_empties_53 : decode cX10_empties 53 = .ok (.istore_n 1, 1) := by decide +kernel
theorem dX10_empties_54 : decode cX10_empties 54 = .ok (.iload_n 1, 1) := by decide +kernel
theorem dX10_empties_55 : decode cX10_empties 55 = .ok (.sipush 135, 3) := by decide +kernel
theorem dX10_empties_58 : decode cX10_empties 58 = .ok (.if_icmp .ge 16, 3) := by decide +kernel
theorem dX10_empties_61 : decode cX10_empties 61 = .ok (.aload_n 0, 1) := by decide +kernel
theorem dX10_empties_62 : decode cX10_empties 62 = .ok (.getfield 53, 3) := by decide +kernel
theorem dX10_empties_65 : decode cX10_empties 65 = .ok (.iload_n 1, 1) := by decide +kernel
theorem dX10_empties_66 : decode cX10_empties 66 = .ok (.iconst 0, 1) := by decide +kernel
theorem dX10_empties_67 : decode cX10_empties 67 = .ok (.iastore, 1) := by decide +kernel
theorem dX10_empties_68 : decode cX10_empties 68 = .ok (.iinc 1 1, 3) := by decide +kernel
theorem dX10_empties_71 : decode cX10_empties 71 = .ok (.goto (-17), 3) := by decide +kernel
theorem dX10_empties_74 : decode cX10_empties 74 = .ok (.iconst 0, 1) := by decide +kernel
theorem dX10_empties_75 : decode cX10_empties 75 = .ok (.istore_n 1, 1) := by decide +kernel
theorem dX10_empties_76 : decode cX10_empties 76 = .ok (.iload_n 1, 1) := by decide +kernel
theorem dX10_empties_77 : decode cX10_empties 77 = .ok (.bipush 6, 2) := by decide +kernel
theorem dX10_empties_79 : decode cX10_empties 79 = .ok (.if_icmp .ge 16, 3) := by decide +kernel
theorem dX10_empties_82 : decode cX10_empties 82 = .ok (.aload_n 0, 1) := by decide +kernel
theorem dX10_empties_83 : decode cX10_empties 83 = .ok (.getfield 68, 3) := by decide +kernel
theorem dX10_empties_86 : decode cX10_empties 86 = .ok (.iload_n 1, 1) := by decide +kernel
theorem dX10_empties_87 : decode cX10_empties 87 = .ok (.iconst 0, 1) := by decide +kernel
theorem dX10_empties_88 : decode cX10_empties 88 = .ok (.iastore, 1) := by decide +kernel
theorem dX10_empties_89 : decode cX10_empties 89 = .ok (.iinc 1 1, 3) := by decide +kernel
theorem dX10_empties_92 : decode cX10_empties 92 = .ok (.goto (-16), 3) := by decide +kernel
theorem dX10_empties_95 : decode cX10_empties 95 = .ok (.iconst 0, 1) := by decide +kernel
theorem dX10_empties_96 : decode cX10_empties 96 = .ok (.istore_n 1, 1) := by decide +kernel
theorem dX10_empties_97 : decode cX10_empties 97 = .ok (.iload_n 1, 1) := by decide +kernel
theorem dX10_empties_98 : decode cX10_empties 98 = .ok (.sipush 144, 3) := by decide +kernel
theorem dX10_empties_101 : decode cX10_empties 101 = .ok (.if_icmp .ge 16, 3) := by decide +kernel
theorem dX10_empties_104 : decode cX10_empties 104 = .ok (.aload_n 0, 1) := by decide +kernel
theorem dX10_empties_105 : decode cX10_empties 105 = .ok (.getfield 71, 3) := by decide +kernel
theorem dX10_empties_108 : decode cX10_empties 108 = .ok (.iload_n 1, 1) := by decide +kernel
theorem dX10_empties_109 : decode cX10_empties 109 = .ok (.iconst (-1), 1) := by decide +kernel
theorem dX10_empties_110 : decode cX10_empties 110 = .ok (.iastore, 1) := by decide +kernel
theorem dX10_empties_111 : decode cX10_empties 111 = .ok (.iinc 1 1, 3) := by decide +kernel
theorem dX10_empties_114 : decode cX10_empties 114 = .ok (.goto (-17), 3) := by decide +kernel
theorem dX10_empties_117 : decode cX10_empties 117 = .ok (.iconst 0, 1) := by decide +kernel
theorem dX10_empties_118 : decode cX10_empties 118 = .ok (.istore_n 1, 1) := by decide +kernel
theorem dX10_empties_119 : decode cX10_empties 119 = .ok (.iload_n 1, 1) := by decide +kernel
theorem dX10_empties_120 : decode cX10_empties 120 = .ok (.bipush 10, 2) := by decide +kernel
theorem dX10_empties_122 : decode cX10_empties 122 = .ok (.if_icmp .ge 18, 3) := by decide +kernel
theorem dX10_empties_125 : decode cX10_empties 125 = .ok (.aload_n 0, 1) := by decide +kernel
theorem dX10_empties_126 : decode cX10_empties 126 = .ok (.getfield 74, 3) := by decide +kernel
theorem dX10_empties_129 : decode cX10_empties 129 = .ok (.iload_n 1, 1) := by decide +kernel
theorem dX10_empties_130 : decode cX10_empties 130 = .ok (.sipush 500, 3) := by decide +kernel
theorem dX10_empties_133 : decode cX10_empties 133 = .ok (.iastore, 1) := by decide +kernel
theorem dX10_empties_134 : decode cX10_empties 134 = .ok (.iinc 1 1, 3) := by decide +kernel
theorem dX10_empties_137 : decode cX10_empties 137 = .ok (.goto (-18), 3) := by decide +kernel
theorem dX10_empties_140 : decode cX10_empties 140 = .ok (.return_, 1) := by decide +kernel
theorem dX10_byteAt_0 : decode cX10_byteAt 0 = .ok (.iload_n 1, 1) := by decide +kernel
theorem dX10_byteAt_1 : decode cX10_byteAt 1 = .ok (.aload_n 0, 1) := by decide +kernel
theorem dX10_byteAt_2 : decode cX10_byteAt 2 = .ok (.getfield 132, 3) := by decide +kernel
theorem dX10_byteAt_5 : decode cX10_byteAt 5 = .ok (.if_icmp .ge 12, 3) := by decide +kernel
theorem dX10_byteAt_8 : decode cX10_byteAt 8 = .ok (.aload_n 0, 1) := by decide +kernel
theorem dX10_byteAt_9 : decode cX10_byteAt 9 = .ok (.getfield 41, 3) := by decide +kernel
theorem dX10_byteAt_12 : decode cX10_byteAt 12 = .ok (.iload_n 1, 1) := by decide +kernel
theorem dX10_byteAt_13 : decode cX10_byteAt 13 = .ok (.iaload, 1) := by decide +kernel
theorem dX10_byteAt_14 : decode cX10_byteAt 14 = .ok (.goto 4, 3) := by decide +kernel
theorem dX10_byteAt_17 : decode cX10_byteAt 17 = .ok (.iconst 0, 1) := by decide +kernel
theorem dX10_byteAt_18 : decode cX10_byteAt 18 = .ok (.ireturn, 1) := by decide +kernel
theorem dX10_isDigit_0 : decode cX10_isDigit 0 = .ok (.iload_n 0, 1) := by decide +kernel
theorem dX10_isDigit_1 : decode cX10_isDigit 1 = .ok (.bipush 48, 2) := by decide +kernel
theorem dX10_isDigit_3 : decode cX10_isDigit 3 = .ok (.if_icmp .lt 13, 3) := by decide +kernel
theorem dX10_isDigit_6 : decode cX10_isDigit 6 = .ok (.iload_n 0, 1) := by decide +kernel
theorem dX10_isDigit_7 : decode cX10_isDigit 7 = .ok (.bipush 57, 2) := by decide +kernel
theorem dX10_isDigit_9 : decode cX10_isDigit 9 = .ok (.if_icmp .gt 7, 3) := by decide +kernel
theorem dX10_isDigit_12 : decode cX10_isDigit 12 = .ok (.iconst 1, 1) := by decide +kernel
theorem dX10_isDigit_13 : decode cX10_isDigit 13 = .ok (.goto 4, 3) := by decide +kernel
theorem dX10_isDigit_16 : decode cX10_isDigit 16 = .ok (.iconst 0, 1) := by decide +kernel
theorem dX10_isDigit_17 : decode cX10_isDigit 17 = .ok (.ireturn, 1) := by decide +kernel
theorem dX10_steps_0 : decode cX10_steps 0 = .ok (.aload_n 0, 1) := by decide +kernel
theorem dX10_steps_1 : decode cX10_steps 1 = .ok (.getfield 135, 3) := by decide +kernel
theorem dX10_steps_4 : decode cX10_steps 4 = .ok (.aload_n 0, 1) := by decide +kernel
theorem dX10_steps_5 : decode cX10_steps 5 = .ok (.getfield 132, 3) := by decide +kernel
theorem dX10_steps_8 : decode cX10_steps 8 = .ok (.if_icmp .ge 42, 3) := by decide +kernel
theorem dX10_steps_11 : decode cX10_steps 11 = .ok (.aload_n 0, 1) := by decide +kernel
theorem dX10_steps_12 : decode cX10_steps 12 = .ok (.aload_n 0, 1) := by decide +kernel
theorem dX10_steps_13 : decode cX10_steps 13 = .ok (.getfield 135, 3) := by decide +kernel
theorem dX10_steps_16 : decode cX10_steps 16 = .ok (.invokevirtual 138, 3) := by decide +kernel
theorem dX10_steps_19 : decode cX10_steps 19 = .ok (.bipush 32, 2) := by decide +kernel
theorem dX10_steps_21 : decode cX10_steps 21 = .ok (.if_icmp .eq 16, 3) := by decide +kernel
theorem dX10_steps_24 : decode cX10_steps 24 = .ok (.aload_n 0, 1) := by decide +kernel
theorem dX10_steps_25 : decode cX10_steps 25 = .ok (.aload_n 0, 1) := by decide +kernel
theorem dX10_steps_26 : decode cX10_steps 26 = .ok (.getfield 135, 3) := by decide +kernel
theorem dX10_steps_29 : decode cX10_steps 29 = .ok (.invokevirtual 138, 3) := by decide +kernel
theorem dX10_steps_32 : decode cX10_steps 32 = .ok (.bipush 10, 2) := by decide +kernel
theorem dX10_steps_34 : decode cX10_steps 34 = .ok (.if_icmp .ne 16, 3) := by decide +kernel
theorem dX10_steps_37 : decode cX10_steps 37 = .ok (.aload_n 0, 1) := by decide +kernel
theorem dX10_steps_38 : decode cX10_steps 38 = .ok (.dup, 1) := by decide +kernel
theorem dX10_steps_39 : decode cX10_steps 39 = .ok (.getfield 135, 3) := by decide +kernel
theorem dX10_steps_42 : decode cX10_steps 42 = .ok (.iconst 1, 1) := by decide +kernel
theorem dX10_steps_43 : decode cX10_steps 43 = .ok (.iadd, 1) := by decide +kernel
theorem dX10_steps_44 : decode cX10_steps 44 = .ok (.putfield 135, 3) := by decide +kernel
theorem dX10_steps_47 : decode cX10_steps 47 = .ok (.goto (-47), 3) := by decide +kernel
theorem dX10_steps_50 : decode cX10_steps 50 = .ok (.aload_n 0, 1) := by decide +kernel
theorem dX10_steps_51 : decode cX10_steps 51 = .ok (.aload_n 0, 1) := by decide +kernel
theorem dX10_steps_52 : decode cX10_steps 52 = .ok (.getfield 135, 3) := by decide +kernel
theorem dX10_steps_55 : decode cX10_steps 55 = .ok (.putfield 142, 3) := by decide +kernel
theorem dX10_steps_58 : decode cX10_steps 58 = .ok (.aload_n 0, 1) := by decide +kernel
theorem dX10_steps_59 : decode cX10_steps 59 = .ok (.lconst 0, 1) := by decide +kernel
theorem dX10_steps_60 : decode cX10_steps 60 = .ok (.putfield 145, 3) := by decide +kernel
theorem dX10_steps_63 : decode cX10_steps 63 = .ok (.aload_n 0, 1) := by decide +kernel
theorem dX10_steps_64 : decode cX10_steps 64 = .ok (.iconst 0, 1) := by decide +kernel
theorem dX10_steps_65 : decode cX10_steps 65 = .ok (.putfield 149, 3) := by decide +kernel
theorem dX10_steps_68 : decode cX10_steps 68 = .ok (.aload_n 0, 1) := by decide +kernel
theorem dX10_steps_69 : decode cX10_steps 69 = .ok (.aload_n 0, 1) := by decide +kernel
theorem dX10_steps_70 : decode cX10_steps 70 = .ok (.getfield 135, 3) := by decide +kernel
theorem dX10_steps_73 : decode cX10_steps 73 = .ok (.invokevirtual 138, 3) := by decide +kernel
theorem dX10_steps_76 : decode cX10_steps 76 = .ok (.istore_n 1, 1) := by decide +kernel
theorem dX10_steps_77 : decode cX10_steps 77 = .ok (.aload_n 0, 1) := by decide +kernel
theorem dX10_steps_78 : decode cX10_steps 78 = .ok (.getfield 135, 3) := by decide +kernel
theorem dX10_steps_81 : decode cX10_steps 81 = .ok (.aload_n 0, 1) := by decide +kernel
theorem dX10_steps_82 : decode cX10_steps 82 = .ok (.getfield 132, 3) := by decide +kernel
theorem dX10_steps_85 : decode cX10_steps 85 = .ok (.if_icmp .lt 11, 3) := by decide +kernel
theorem dX10_steps_88 : decode cX10_steps 88 = .ok (.aload_n 0, 1) := by decide +kernel
theorem dX10_steps_89 : decode cX10_steps 89 = .ok (.iconst 0, 1) := by decide +kernel
theorem dX10_steps_90 : decode cX10_steps 90 = .ok (.putfield 152, 3) := by decide +kernel
theorem dX10_steps_93 : decode cX10_steps 93 = .ok (.goto 185, 3) := by decide +kernel
theorem dX10_steps_96 : decode cX10_steps 96 = .ok (.iload_n 1, 1) := by decide +kernel
theorem dX10_steps_97 : decode cX10_steps 97 = .ok (.invokestatic 155, 3) := by decide +kernel
theorem dX10_steps_100 : decode cX10_steps 100 = .ok (.ifCond .eq 75, 3) := by decide +kernel
theorem dX10_steps_103 : decode cX10_steps 103 = .ok (.aload_n 0, 1) := by decide +kernel
theorem dX10_steps_104 : decode cX10_steps 104 = .ok (.aload_n 0, 1) := by decide +kernel
theorem dX10_steps_105 : decode cX10_steps 105 = .ok (.getfield 135, 3) := by decide +kernel
theorem dX10_steps_108 : decode cX10_steps 108 = .ok (.invokevirtual 138, 3) := by decide +kernel
theorem dX10_steps_111 : decode cX10_steps 111 = .ok (.invokestatic 155, 3) := by decide +kernel
theorem dX10_steps_114 : decode cX10_steps 114 = .ok (.ifCond .eq 53, 3) := by decide +kernel
theorem dX10_steps_117 : decode cX10_steps 117 = .ok (.aload_n 0, 1) := by decide +kernel
theorem dX10_steps_118 : decode cX10_steps 118 = .ok (.getfield 135, 3) := by decide +kernel
theorem dX10_steps_121 : decode cX10_steps 121 = .ok (.aload_n 0, 1) := by decide +kernel
theorem dX10_steps_122 : decode cX10_steps 122 = .ok (.getfield 142, 3) := by decide +kernel
theorem dX10_steps_125 : decode cX10_steps 125 = .ok (.isub, 1) := by decide +kernel
theorem dX10_steps_126 : decode cX10_steps 126 = .ok (.bipush 6, 2) := by decide +kernel
theorem dX10_steps_128 : decode cX10_steps 128 = .ok (.if_icmp .ge 26, 3) := by decide +kernel
theorem dX10_steps_131 : decode cX10_steps 131 = .ok (.aload_n 0, 1) := by decide +kernel
theorem dX10_steps_132 : decode cX10_steps 132 = .ok (.aload_n 0, 1) := by decide +kernel
theorem dX10_steps_133 : decode cX10_steps 133 = .ok (.getfield 145, 3) := by decide +kernel
theorem dX10_steps_136 : decode cX10_steps 136 = .ok (.iconst 5, 1) := by decide +kernel
theorem dX10_steps_137 : decode cX10_steps 137 = .ok (.lshl, 1) := by decide +kernel
theorem dX10_steps_138 : decode cX10_steps 138 = .ok (.aload_n 0, 1) := by decide +kernel
theorem dX10_steps_139 : decode cX10_steps 139 = .ok (.aload_n 0, 1) := by decide +kernel
theorem dX10_steps_140 : decode cX10_steps 140 = .ok (.getfield 135, 3) := by decide +kernel
theorem dX10_steps_143 : decode cX10_steps 143 = .ok (.invokevirtual 138, 3) := by decide +kernel
theorem dX10_steps_146 : decode cX10_steps 146 = .ok (.bipush 96, 2) := by decide +kernel
theorem dX10_steps_148 : decode cX10_steps 148 = .ok (.isub, 1) := by decide +kernel
theorem dX10_steps_149 : decode cX10_steps 149 = .ok (.i2l, 1) := by decide +kernel
theorem dX10_steps_150 : decode cX10_steps 150 = .ok (.lor, 1) := by decide +kernel
theorem dX10_steps_151 : decode cX10_steps 151 = .ok (.putfield 145, 3) := by decide +kernel
theorem dX10_steps_154 : decode cX10_steps 154 = .ok (.aload_n 0, 1) := by decide +kernel
theorem dX10_steps_155 : decode cX10_steps 155 = .ok (.dup, 1) := by decide +kernel
theorem dX10_steps_156 : decode cX10_steps 156 = .ok (.getfield 135, 3) := by decide +kernel
theorem dX10_steps_159 : decode cX10_steps 159 = .ok (.iconst 1, 1) := by decide +kernel
theorem dX10_steps_160 : decode cX10_steps 160 = .ok (.iadd, 1) := by decide +kernel
theorem dX10_steps_161 : decode cX10_steps 161 = .ok (.putfield 135, 3) := by decide +kernel
theorem dX10_steps_164 : decode cX10_steps 164 = .ok (.goto (-61), 3) := by decide +kernel
theorem dX10_steps_167 : decode cX10_steps 167 = .ok (.aload_n 0, 1) := by decide +kernel
theorem dX10_steps_168 : decode cX10_steps 168 = .ok (.iconst 1, 1) := by decide +kernel
theorem dX10_steps_169 : decode cX10_steps 169 = .ok (.putfield 152, 3) := by decide +kernel
theorem dX10_steps_172 : decode cX10_steps 172 = .ok (.goto 106, 3) := by decide +kernel
theorem dX10_steps_175 : decode cX10_steps 175 = .ok (.iload_n 1, 1) := by decide +kernel
theorem dX10_steps_176 : decode cX10_steps 176 = .ok (.invokestatic 159, 3) := by decide +kernel
theorem dX10_steps_179 : decode cX10_steps 179 = .ok (.ifCond .eq 74, 3) := by decide +kernel
theorem dX10_steps_182 : decode cX10_steps 182 = .ok (.aload_n 0, 1) := by decide +kernel
theorem dX10_steps_183 : decode cX10_steps 183 = .ok (.aload_n 0, 1) := by decide +kernel
theorem dX10_steps_184 : decode cX10_steps 184 = .ok (.getfield 135, 3) := by decide +kernel
theorem dX10_steps_187 : decode cX10_steps 187 = .ok (.invokevirtual 138, 3) := by decide +kernel
theorem dX10_steps_190 : decode cX10_steps 190 = .ok (.invokestatic 159, 3) := by decide +kernel
theorem dX10_steps_193 : decode cX10_steps 193 = .ok (.ifCond .eq 52, 3) := by decide +kernel
theorem dX10_steps_196 : decode cX10_steps 196 = .ok (.aload_n 0, 1) := by decide +kernel
theorem dX10_steps_197 : decode cX10_steps 197 = .ok (.getfield 135, 3) := by decide +kernel
theorem dX10_steps_200 : decode cX10_steps 200 = .ok (.aload_n 0, 1) := by decide +kernel
theorem dX10_steps_201 : decode cX10_steps 201 = .ok (.getfield 142, 3) := by decide +kernel
theorem dX10_steps_204 : decode cX10_steps 204 = .ok (.isub, 1) := by decide +kernel
theorem dX10_steps_205 : decode cX10_steps 205 = .ok (.iconst 3, 1) := by decide +kernel
theorem dX10_steps_206 : decode cX10_steps 206 = .ok (.if_icmp .ge 26, 3) := by decide +kernel
theorem dX10_steps_209 : decode cX10_steps 209 = .ok (.aload_n 0, 1) := by decide +kernel
theorem dX10_steps_210 : decode cX10_steps 210 = .ok (.bipush 10, 2) := by decide +kernel
theorem dX10_steps_212 : decode cX10_steps 212 = .ok (.aload_n 0, 1) := by decide +kernel
theorem dX10_steps_213 : decode cX10_steps 213 = .ok (.getfield 149, 3) := by decide +kernel
theorem dX10_steps_216 : decode cX10_steps 216 = .ok (.imul, 1) := by decide +kernel
theorem dX10_steps_217 : decode cX10_steps 217 = .ok (.aload_n 0, 1) := by decide +kernel
theorem dX10_steps_218 : decode cX10_steps 218 = .ok (.aload_n 0, 1) := by decide +kernel
theorem dX10_steps_219 : decode cX10_steps 219 = .ok (.getfield 135, 3) := by decide +kernel
theorem dX10_steps_222 : decode cX10_steps 222 = .ok (.invokevirtual 138, 3) := by decide +kernel
theorem dX10_steps_225 : decode cX10_steps 225 = .ok (.iadd, 1) := by decide +kernel
theorem dX10_steps_226 : decode cX10_steps 226 = .ok (.bipush 48, 2) := by decide +kernel
theorem dX10_steps_228 : decode cX10_steps 228 = .ok (.isub, 1) := by decide +kernel
theorem dX10_steps_229 : decode cX10_steps 229 = .ok (.putfield 149, 3) := by decide +kernel
theorem dX10_steps_232 : decode cX10_steps 232 = .ok (.aload_n 0, 1) := by decide +kernel
theorem dX10_steps_233 : decode cX10_steps 233 = .ok (.dup, 1) := by decide +kernel
theorem dX10_steps_234 : decode cX10_steps 234 = .ok (.getfield 135, 3) := by decide +kernel
theorem dX10_steps_237 : decode cX10_steps 237 = .ok (.iconst 1, 1) := by decide +kernel
theorem dX10_steps_238 : decode cX10_steps 238 = .ok (.iadd, 1) := by decide +kernel
theorem dX10_steps_239 : decode cX10_steps 239 = .ok (.putfield 135, 3) := by decide +kernel
theorem dX10_steps_242 : decode cX10_steps 242 = .ok (.goto (-60), 3) := by decide +kernel
theorem dX10_steps_245 : decode cX10_steps 245 = .ok (.aload_n 0, 1) := by decide +kernel
theorem dX10_steps_246 : decode cX10_steps 246 = .ok (.iconst 2, 1) := by decide +kernel
theorem dX10_steps_247 : decode cX10_steps 247 = .ok (.putfield 152, 3) := by decide +kernel
theorem dX10_steps_250 : decode cX10_steps 250 = .ok (.goto 28, 3) := by decide +kernel
theorem dX10_steps_253 : decode cX10_steps 253 = .ok (.aload_n 0, 1) := by decide +kernel
theorem dX10_steps_254 : decode cX10_steps 254 = .ok (.dup, 1) := by decide +kernel
theorem dX10_steps_255 : decode cX10_steps 255 = .ok (.getfield 135, 3) := by decide +kernel
theorem dX10_steps_258 : decode cX10_steps 258 = .ok (.iconst 1, 1) := by decide +kernel
theorem dX10_steps_259 : decode cX10_steps 259 = .ok (.iadd, 1) := by decide +kernel
theorem dX10_steps_260 : decode cX10_steps 260 = .ok (.putfield 135, 3) := by decide +kernel
theorem dX10_steps_263 : decode cX10_steps 263 = .ok (.aload_n 0, 1) := by decide +kernel
theorem dX10_steps_264 : decode cX10_steps 264 = .ok (.iload_n 1, 1) := by decide +kernel
theorem dX10_steps_265 : decode cX10_steps 265 = .ok (.bipush 59, 2) := by decide +kernel
theorem dX10_steps_267 : decode cX10_steps 267 = .ok (.if_icmp .ne 7, 3) := by decide +kernel
theorem dX10_steps_270 : decode cX10_steps 270 = .ok (.iconst 3, 1) := by decide +kernel
theorem dX10_steps_271 : decode cX10_steps 271 = .ok (.goto 4, 3) := by decide +kernel
theorem dX10_steps_274 : decode cX10_steps 274 = .ok (.iconst 4, 1) := by decide +kernel
theorem dX10_steps_275 : decode cX10_steps 275 = .ok (.putfield 152, 3) := by decide +kernel
theorem dX10_steps_278 : decode cX10_steps 278 = .ok (.aload_n 0, 1) := by decide +kernel
theorem dX10_steps_279 : decode cX10_steps 279 = .ok (.aload_n 0, 1) := by decide +kernel
theorem dX10_steps_280 : decode cX10_steps 280 = .ok (.getfield 135, 3) := by decide +kernel
theorem dX10_steps_283 : decode cX10_steps 283 = .ok (.aload_n 0, 1) := by decide +kernel
theorem dX10_steps_284 : decode cX10_steps 284 = .ok (.getfield 142, 3) := by decide +kernel
theorem dX10_steps_287 : decode cX10_steps 287 = .ok (.isub, 1) := by decide +kernel
theorem dX10_steps_288 : decode cX10_steps 288 = .ok (.putfield 162, 3) := by decide +kernel
theorem dX10_steps_291 : decode cX10_steps 291 = .ok (.return_, 1) := by decide +kernel
theorem dX10_isGood_0 : decode cX10_isGood 0 = .ok (.aload_n 0, 1) := by decide +kernel
theorem dX10_isGood_1 : decode cX10_isGood 1 = .ok (.getfield 173, 3) := by decide +kernel
theorem dX10_isGood_4 : decode cX10_isGood 4 = .ok (.ifCond .ne 7, 3) := by decide +kernel
theorem dX10_isGood_7 : decode cX10_isGood 7 = .ok (.iconst 1, 1) := by decide +kernel
theorem dX10_isGood_8 : decode cX10_isGood 8 = .ok (.goto 4, 3) := by decide +kernel
theorem dX10_isGood_11 : decode cX10_isGood 11 = .ok (.iconst 0, 1) := by decide +kernel
theorem dX10_isGood_12 : decode cX10_isGood 12 = .ok (.ireturn, 1) := by decide +kernel
theorem dX10_spelled_0 : decode cX10_spelled 0 = .ok (.iload_n 0, 1) := by decide +kernel
theorem dX10_spelled_1 : decode cX10_spelled 1 = .ok (.bipush 96, 2) := by decide +kernel
theorem dX10_spelled_3 : decode cX10_spelled 3 = .ok (.isub, 1) := by decide +kernel
theorem dX10_spelled_4 : decode cX10_spelled 4 = .ok (.i2l, 1) := by decide +kernel
theorem dX10_spelled_5 : decode cX10_spelled 5 = .ok (.lstore 6, 2) := by decide +kernel
theorem dX10_spelled_7 : decode cX10_spelled 7 = .ok (.lload 6, 2) := by decide +kernel
theorem dX10_spelled_9 : decode cX10_spelled 9 = .ok (.iconst 5, 1) := by decide +kernel
theorem dX10_spelled_10 : decode cX10_spelled 10 = .ok (.lshl, 1) := by decide +kernel
theorem dX10_spelled_11 : decode cX10_spelled 11 = .ok (.iload_n 1, 1) := by decide +kernel
theorem dX10_spelled_12 : decode cX10_spelled 12 = .ok (.bipush 96, 2) := by decide +kernel
theorem dX10_spelled_14 : decode cX10_spelled 14 = .ok (.isub, 1) := by decide +kernel
theorem dX10_spelled_15 : decode cX10_spelled 15 = .ok (.i2l, 1) := by decide +kernel
theorem dX10_spelled_16 : decode cX10_spelled 16 = .ok (.lor, 1) := by decide +kernel
theorem dX10_spelled_17 : decode cX10_spelled 17 = .ok (.lstore 6, 2) := by decide +kernel
theorem dX10_spelled_19 : decode cX10_spelled 19 = .ok (.iload_n 2, 1) := by decide +kernel
theorem dX10_spelled_20 : decode cX10_spelled 20 = .ok (.ifCond .eq 15, 3) := by decide +kernel
theorem dX10_spelled_23 : decode cX10_spelled 23 = .ok (.lload 6, 2) := by decide +kernel
theorem dX10_spelled_25 : decode cX10_spelled 25 = .ok (.iconst 5, 1) := by decide +kernel
theorem dX10_spelled_26 : decode cX10_spelled 26 = .ok (.lshl, 1) := by decide +kernel
theorem dX10_spelled_27 : decode cX10_spelled 27 = .ok (.iload_n 2, 1) := by decide +kernel
theorem dX10_spelled_28 : decode cX10_spelled 28 = .ok (.bipush 96, 2) := by decide +kernel
theorem dX10_spelled_30 : decode cX10_spelled 30 = .ok (.isub, 1) := by decide +kernel
theorem dX10_spelled_31 : decode cX10_spelled 31 = .ok (.i2l, 1) := by decide +kernel
theorem dX10_spelled_32 : decode cX10_spelled 32 = .ok (.lor, 1) := by decide +kernel
theorem dX10_spelled_33 : decode cX10_spelled 33 = .ok (.lstore 6, 2) := by decide +kernel
theorem dX10_spelled_35 : decode cX10_spelled 35 = .ok (.iload_n 3, 1) := by decide +kernel
theorem dX10_spelled_36 : decode cX10_spelled 36 = .ok (.ifCond .eq 15, 3) := by decide +kernel
theorem dX10_spelled_39 : decode cX10_spelled 39 = .ok (.lload 6, 2) := by decide +kernel
theorem dX10_spelled_41 : decode cX10_spelled 41 = .ok (.iconst 5, 1) := by decide +kernel
theorem dX10_spelled_42 : decode cX10_spelled 42 = .ok (.lshl, 1) := by decide +kernel
theorem dX10_spelled_43 : decode cX10_spelled 43 = .ok (.iload_n 3, 1) := by decide +kernel
theorem dX10_spelled_44 : decode cX10_spelled 44 = .ok (.bipush 96, 2) := by decide +kernel
theorem dX10_spelled_46 : decode cX10_spelled 46 = .ok (.isub, 1) := by decide +kernel
theorem dX10_spelled_47 : decode cX10_spelled 47 = .ok (.i2l, 1) := by decide +kernel
theorem dX10_spelled_48 : decode cX10_spelled 48 = .ok (.lor, 1) := by decide +kernel
theorem dX10_spelled_49 : decode cX10_spelled 49 = .ok (.lstore 6, 2) := by decide +kernel
theorem dX10_spelled_51 : decode cX10_spelled 51 = .ok (.iload 4, 2) := by decide +kernel
theorem dX10_spelled_53 : decode cX10_spelled 53 = .ok (.ifCond .eq 16, 3) := by decide +kernel
theorem dX10_spelled_56 : decode cX10_spelled 56 = .ok (.lload 6, 2) := by decide +kernel
theorem dX10_spelled_58 : decode cX10_spelled 58 = .ok (.iconst 5, 1) := by decide +kernel
theorem dX10_spelled_59 : decode cX10_spelled 59 = .ok (.lshl, 1) := by decide +kernel
theorem dX10_spelled_60 : decode cX10_spelled 60 = .ok (.iload 4, 2) := by decide +kernel
theorem dX10_spelled_62 : decode cX10_spelled 62 = .ok (.bipush 96, 2) := by decide +kernel
theorem dX10_spelled_64 : decode cX10_spelled 64 = .ok (.isub, 1) := by decide +kernel
theorem dX10_spelled_65 : decode cX10_spelled 65 = .ok (.i2l, 1) := by decide +kernel
theorem dX10_spelled_66 : decode cX10_spelled 66 = .ok (.lor, 1) := by decide +kernel
theorem dX10_spelled_67 : decode cX10_spelled 67 = .ok (.lstore 6, 2) := by decide +kernel
theorem dX10_spelled_69 : decode cX10_spelled 69 = .ok (.iload 5, 2) := by decide +kernel
theorem dX10_spelled_71 : decode cX10_spelled 71 = .ok (.ifCond .eq 16, 3) := by decide +kernel
theorem dX10_spelled_74 : decode cX10_spelled 74 = .ok (.lload 6, 2) := by decide +kernel
theorem dX10_spelled_76 : decode cX10_spelled 76 = .ok (.iconst 5, 1) := by decide +kernel
theorem dX10_spelled_77 : decode cX10_spelled 77 = .ok (.lshl, 1) := by decide +kernel
theorem dX10_spelled_78 : decode cX10_spelled 78 = .ok (.iload 5, 2) := by decide +kernel
theorem dX10_spelled_80 : decode cX10_spelled 80 = .ok (.bipush 96, 2) := by decide +kernel
theorem dX10_spelled_82 : decode cX10_spelled 82 = .ok (.isub, 1) := by decide +kernel
theorem dX10_spelled_83 : decode cX10_spelled 83 = .ok (.i2l, 1) := by decide +kernel
theorem dX10_spelled_84 : decode cX10_spelled 84 = .ok (.lor, 1) := by decide +kernel
theorem dX10_spelled_85 : decode cX10_spelled 85 = .ok (.lstore 6, 2) := by decide +kernel
theorem dX10_spelled_87 : decode cX10_spelled 87 = .ok (.lload 6, 2) := by decide +kernel
theorem dX10_spelled_89 : decode cX10_spelled 89 = .ok (.lreturn, 1) := by decide +kernel
theorem dX10_letters_0 : decode cX10_letters 0 = .ok (.iload_n 0, 1) := by decide +kernel
theorem dX10_letters_1 : decode cX10_letters 1 = .ok (.tableswitch 238 0 11 #[63, 77, 93, 109, 122, 138, 152, 168, 183, 197, 209, 224], 63) := by decide +kernel
theorem dX10_letters_64 : decode cX10_letters 64 = .ok (.bipush 115, 2) := by decide +kernel
theorem dX10_letters_66 : decode cX10_letters 66 = .ok (.bipush 116, 2) := by decide +kernel
theorem dX10_letters_68 : decode cX10_letters 68 = .ok (.bipush 101, 2) := by decide +kernel
theorem dX10_letters_70 : decode cX10_letters 70 = .ok (.bipush 109, 2) := by decide +kernel
theorem dX10_letters_72 : decode cX10_letters 72 = .ok (.iconst 0, 1) := by decide +kernel
theorem dX10_letters_73 : decode cX10_letters 73 = .ok (.iconst 0, 1) := by decide +kernel
theorem dX10_letters_74 : decode cX10_letters 74 = .ok (.invokestatic 165, 3) := by decide +kernel
theorem dX10_letters_77 : decode cX10_letters 77 = .ok (.lreturn, 1) := by decide +kernel
theorem dX10_letters_78 : decode cX10_letters 78 = .ok (.bipush 101, 2) := by decide +kernel
theorem dX10_letters_80 : decode cX10_letters 80 = .ok (.bipush 110, 2) := by decide +kernel
theorem dX10_letters_82 : decode cX10_letters 82 = .ok (.bipush 100, 2) := by decide +kernel
theorem dX10_letters_84 : decode cX10_letters 84 = .ok (.bipush 105, 2) := by decide +kernel
theorem dX10_letters_86 : decode cX10_letters 86 = .ok (.bipush 110, 2) := by decide +kernel
theorem dX10_letters_88 : decode cX10_letters 88 = .ok (.bipush 103, 2) := by decide +kernel
theorem dX10_letters_90 : decode cX10_letters 90 = .ok (.invokestatic 165, 3) := by decide +kernel
theorem dX10_letters_93 : decode cX10_letters 93 = .ok (.lreturn, 1) := by decide +kernel
theorem dX10_letters_94 : decode cX10_letters 94 = .ok (.bipush 99, 2) := by decide +kernel
theorem dX10_letters_96 : decode cX10_letters 96 = .ok (.bipush 104, 2) := by decide +kernel
theorem dX10_letters_98 : decode cX10_letters 98 = .ok (.bipush 97, 2) := by decide +kernel
theorem dX10_letters_100 : decode cX10_letters 100 = .ok (.bipush 110, 2) := by decide +kernel
theorem dX10_letters_102 : decode cX10_letters 102 = .ok (.bipush 103, 2) := by decide +kernel
theorem dX10_letters_104 : decode cX10_letters 104 = .ok (.bipush 101, 2) := by decide +kernel
theorem dX10_letters_106 : decode cX10_letters 106 = .ok (.invokestatic 165, 3) := by decide +kernel
theorem dX10_letters_109 : decode cX10_letters 109 = .ok (.lreturn, 1) := by decide +kernel
theorem dX10_letters_110 : decode cX10_letters 110 = .ok (.bipush 110, 2) := by decide +kernel
theorem dX10_letters_112 : decode cX10_letters 112 = .ok (.bipush 111, 2) := by decide +kernel
theorem dX10_letters_114 : decode cX10_letters 114 = .ok (.bipush 116, 2) := by decide +kernel
theorem dX10_letters_116 : decode cX10_letters 116 = .ok (.iconst 0, 1) := by decide +kernel
theorem dX10_letters_117 : decode cX10_letters 117 = .ok (.iconst 0, 1) := by decide +kernel
theorem dX10_letters_118 : decode cX10_letters 118 = .ok (.iconst 0, 1) := by decide +kernel
theorem dX10_letters_119 : decode cX10_letters 119 = .ok (.invokestatic 165, 3) := by decide +kernel
theorem dX10_letters_122 : decode cX10_letters 122 = .ok (.lreturn, 1) := by decide +kernel
theorem dX10_letters_123 : decode cX10_letters 123 = .ok (.bipush 112, 2) := by decide +kernel
theorem dX10_letters_125 : decode cX10_letters 125 = .ok (.bipush 108, 2) := by decide +kernel
theorem dX10_letters_127 : decode cX10_letters 127 = .ok (.bipush 97, 2) := by decide +kernel
theorem dX10_letters_129 : decode cX10_letters 129 = .ok (.bipush 99, 2) := by decide +kernel
theorem dX10_letters_131 : decode cX10_letters 131 = .ok (.bipush 101, 2) := by decide +kernel
theorem dX10_letters_133 : decode cX10_letters 133 = .ok (.bipush 115, 2) := by decide +kernel
theorem dX10_letters_135 : decode cX10_letters 135 = .ok (.invokestatic 165, 3) := by decide +kernel
theorem dX10_letters_138 : decode cX10_letters 138 = .ok (.lreturn, 1) := by decide +kernel
theorem dX10_letters_139 : decode cX10_letters 139 = .ok (.bipush 110, 2) := by decide +kernel
theorem dX10_letters_141 : decode cX10_letters 141 = .ok (.bipush 101, 2) := by decide +kernel
theorem dX10_letters_143 : decode cX10_letters 143 = .ok (.bipush 97, 2) := by decide +kernel
theorem dX10_letters_145 : decode cX10_letters 145 = .ok (.bipush 114, 2) := by decide +kernel
theorem dX10_letters_147 : decode cX10_letters 147 = .ok (.iconst 0, 1) := by decide +kernel
theorem dX10_letters_148 : decode cX10_letters 148 = .ok (.iconst 0, 1) := by decide +kernel
theorem dX10_letters_149 : decode cX10_letters 149 = .ok (.invokestatic 165, 3) := by decide +kernel
theorem dX10_letters_152 : decode cX10_letters 152 = .ok (.lreturn, 1) := by decide +kernel
theorem dX10_letters_153 : decode cX10_letters 153 = .ok (.bipush 112, 2) := by decide +kernel
theorem dX10_letters_155 : decode cX10_letters 155 = .ok (.bipush 101, 2) := by decide +kernel
theorem dX10_letters_157 : decode cX10_letters 157 = .ok (.bipush 114, 2) := by decide +kernel
theorem dX10_letters_159 : decode cX10_letters 159 = .ok (.bipush 115, 2) := by decide +kernel
theorem dX10_letters_161 : decode cX10_letters 161 = .ok (.bipush 111, 2) := by decide +kernel
theorem dX10_letters_163 : decode cX10_letters 163 = .ok (.bipush 110, 2) := by decide +kernel
theorem dX10_letters_165 : decode cX10_letters 165 = .ok (.invokestatic 165, 3) := by decide +kernel
theorem dX10_letters_168 : decode cX10_letters 168 = .ok (.lreturn, 1) := by decide +kernel
theorem dX10_letters_169 : decode cX10_letters 169 = .ok (.bipush 116, 2) := by decide +kernel
theorem dX10_letters_171 : decode cX10_letters 171 = .ok (.bipush 104, 2) := by decide +kernel
theorem dX10_letters_173 : decode cX10_letters 173 = .ok (.bipush 105, 2) := by decide +kernel
theorem dX10_letters_175 : decode cX10_letters 175 = .ok (.bipush 110, 2) := by decide +kernel
theorem dX10_letters_177 : decode cX10_letters 177 = .ok (.bipush 103, 2) := by decide +kernel
theorem dX10_letters_179 : decode cX10_letters 179 = .ok (.iconst 0, 1) := by decide +kernel
theorem dX10_letters_180 : decode cX10_letters 180 = .ok (.invokestatic 165, 3) := by decide +kernel
theorem dX10_letters_183 : decode cX10_letters 183 = .ok (.lreturn, 1) := by decide +kernel
theorem dX10_letters_184 : decode cX10_letters 184 = .ok (.bipush 114, 2) := by decide +kernel
theorem dX10_letters_186 : decode cX10_letters 186 = .ok (.bipush 117, 2) := by decide +kernel
theorem dX10_letters_188 : decode cX10_letters 188 = .ok (.bipush 108, 2) := by decide +kernel
theorem dX10_letters_190 : decode cX10_letters 190 = .ok (.bipush 101, 2) := by decide +kernel
theorem dX10_letters_192 : decode cX10_letters 192 = .ok (.iconst 0, 1) := by decide +kernel
theorem dX10_letters_193 : decode cX10_letters 193 = .ok (.iconst 0, 1) := by decide +kernel
theorem dX10_letters_194 : decode cX10_letters 194 = .ok (.invokestatic 165, 3) := by decide +kernel
theorem dX10_letters_197 : decode cX10_letters 197 = .ok (.lreturn, 1) := by decide +kernel
theorem dX10_letters_198 : decode cX10_letters 198 = .ok (.bipush 97, 2) := by decide +kernel
theorem dX10_letters_200 : decode cX10_letters 200 = .ok (.bipush 116, 2) := by decide +kernel
theorem dX10_letters_202 : decode cX10_letters 202 = .ok (.iconst 0, 1) := by decide +kernel
theorem dX10_letters_203 : decode cX10_letters 203 = .ok (.iconst 0, 1) := by decide +kernel
theorem dX10_letters_204 : decode cX10_letters 204 = .ok (.iconst 0, 1) := by decide +kernel
theorem dX10_letters_205 : decode cX10_letters 205 = .ok (.iconst 0, 1) := by decide +kernel
theorem dX10_letters_206 : decode cX10_letters 206 = .ok (.invokestatic 165, 3) := by decide +kernel
theorem dX10_letters_209 : decode cX10_letters 209 = .ok (.lreturn, 1) := by decide +kernel
theorem dX10_letters_210 : decode cX10_letters 210 = .ok (.bipush 119, 2) := by decide +kernel
theorem dX10_letters_212 : decode cX10_letters 212 = .ok (.bipush 101, 2) := by decide +kernel
theorem dX10_letters_214 : decode cX10_letters 214 = .ok (.bipush 105, 2) := by decide +kernel
theorem dX10_letters_216 : decode cX10_letters 216 = .ok (.bipush 103, 2) := by decide +kernel
theorem dX10_letters_218 : decode cX10_letters 218 = .ok (.bipush 104, 2) := by decide +kernel
theorem dX10_letters_220 : decode cX10_letters 220 = .ok (.iconst 0, 1) := by decide +kernel
theorem dX10_letters_221 : decode cX10_letters 221 = .ok (.invokestatic 165, 3) := by decide +kernel
theorem dX10_letters_224 : decode cX10_letters 224 = .ok (.lreturn, 1) := by decide +kernel
theorem dX10_letters_225 : decode cX10_letters 225 = .ok (.bipush 108, 2) := by decide +kernel
theorem dX10_letters_227 : decode cX10_letters 227 = .ok (.bipush 111, 2) := by decide +kernel
theorem dX10_letters_229 : decode cX10_letters 229 = .ok (.bipush 117, 2) := by decide +kernel
theorem dX10_letters_231 : decode cX10_letters 231 = .ok (.bipush 100, 2) := by decide +kernel
theorem dX10_letters_233 : decode cX10_letters 233 = .ok (.iconst 0, 1) := by decide +kernel
theorem dX10_letters_234 : decode cX10_letters 234 = .ok (.iconst 0, 1) := by decide +kernel
theorem dX10_letters_235 : decode cX10_letters 235 = .ok (.invokestatic 165, 3) := by decide +kernel
theorem dX10_letters_238 : decode cX10_letters 238 = .ok (.lreturn, 1) := by decide +kernel
theorem dX10_letters_239 : decode cX10_letters 239 = .ok (.bipush 110, 2) := by decide +kernel
theorem dX10_letters_241 : decode cX10_letters 241 = .ok (.bipush 101, 2) := by decide +kernel
theorem dX10_letters_243 : decode cX10_letters 243 = .ok (.bipush 118, 2) := by decide +kernel
theorem dX10_letters_245 : decode cX10_letters 245 = .ok (.bipush 101, 2) := by decide +kernel
theorem dX10_letters_247 : decode cX10_letters 247 = .ok (.bipush 114, 2) := by decide +kernel
theorem dX10_letters_249 : decode cX10_letters 249 = .ok (.iconst 0, 1) := by decide +kernel
theorem dX10_letters_250 : decode cX10_letters 250 = .ok (.invokestatic 165, 3) := by decide +kernel
theorem dX10_letters_253 : decode cX10_letters 253 = .ok (.lreturn, 1) := by decide +kernel
theorem dX10_is_0 : decode cX10_is 0 = .ok (.aload_n 0, 1) := by decide +kernel
theorem dX10_is_1 : decode cX10_is 1 = .ok (.getfield 152, 3) := by decide +kernel
theorem dX10_is_4 : decode cX10_is 4 = .ok (.iconst 1, 1) := by decide +kernel
theorem dX10_is_5 : decode cX10_is 5 = .ok (.if_icmp .ne 28, 3) := by decide +kernel
theorem dX10_is_8 : decode cX10_is 8 = .ok (.aload_n 0, 1) := by decide +kernel
theorem dX10_is_9 : decode cX10_is 9 = .ok (.getfield 162, 3) := by decide +kernel
theorem dX10_is_12 : decode cX10_is 12 = .ok (.bipush 7, 2) := by decide +kernel
theorem dX10_is_14 : decode cX10_is 14 = .ok (.if_icmp .ge 19, 3) := by decide +kernel
theorem dX10_is_17 : decode cX10_is 17 = .ok (.aload_n 0, 1) := by decide +kernel
theorem dX10_is_18 : decode cX10_is 18 = .ok (.getfield 145, 3) := by decide +kernel
theorem dX10_is_21 : decode cX10_is 21 = .ok (.iload_n 1, 1) := by decide +kernel
theorem dX10_is_22 : decode cX10_is 22 = .ok (.invokestatic 169, 3) := by decide +kernel
theorem dX10_is_25 : decode cX10_is 25 = .ok (.lcmp, 1) := by decide +kernel
theorem dX10_is_26 : decode cX10_is 26 = .ok (.ifCond .ne 7, 3) := by decide +kernel
theorem dX10_is_29 : decode cX10_is 29 = .ok (.iconst 1, 1) := by decide +kernel
theorem dX10_is_30 : decode cX10_is 30 = .ok (.goto 4, 3) := by decide +kernel
theorem dX10_is_33 : decode cX10_is 33 = .ok (.iconst 0, 1) := by decide +kernel
theorem dX10_is_34 : decode cX10_is 34 = .ok (.ireturn, 1) := by decide +kernel
theorem dX10_faults_0 : decode cX10_faults 0 = .ok (.aload_n 0, 1) := by decide +kernel
theorem dX10_faults_1 : decode cX10_faults 1 = .ok (.getfield 173, 3) := by decide +kernel
theorem dX10_faults_4 : decode cX10_faults 4 = .ok (.ifCond .eq 4, 3) := by decide +kernel
theorem dX10_faults_7 : decode cX10_faults 7 = .ok (.return_, 1) := by decide +kernel
theorem dX10_faults_8 : decode cX10_faults 8 = .ok (.aload_n 0, 1) := by decide +kernel
theorem dX10_faults_9 : decode cX10_faults 9 = .ok (.iload_n 1, 1) := by decide +kernel
theorem dX10_faults_10 : decode cX10_faults 10 = .ok (.putfield 173, 3) := by decide +kernel
theorem dX10_faults_13 : decode cX10_faults 13 = .ok (.aload_n 0, 1) := by decide +kernel
theorem dX10_faults_14 : decode cX10_faults 14 = .ok (.aload_n 0, 1) := by decide +kernel
theorem dX10_faults_15 : decode cX10_faults 15 = .ok (.getfield 142, 3) := by decide +kernel
theorem dX10_faults_18 : decode cX10_faults 18 = .ok (.putfield 44, 3) := by decide +kernel
theorem dX10_faults_21 : decode cX10_faults 21 = .ok (.return_, 1) := by decide +kernel
theorem dX10_need_0 : decode cX10_need 0 = .ok (.aload_n 0, 1) := by decide +kernel
theorem dX10_need_1 : decode cX10_need 1 = .ok (.invokevirtual 176, 3) := by decide +kernel
theorem dX10_need_4 : decode cX10_need 4 = .ok (.ifCond .ne 4, 3) := by decide +kernel
theorem dX10_need_7 : decode cX10_need 7 = .ok (.return_, 1) := by decide +kernel
theorem dX10_need_8 : decode cX10_need 8 = .ok (.iload_n 1, 1) := by decide +kernel
theorem dX10_need_9 : decode cX10_need 9 = .ok (.ifCond .eq 10, 3) := by decide +kernel
theorem dX10_need_12 : decode cX10_need 12 = .ok (.aload_n 0, 1) := by decide +kernel
theorem dX10_need_13 : decode cX10_need 13 = .ok (.invokevirtual 180, 3) := by decide +kernel
theorem dX10_need_16 : decode cX10_need 16 = .ok (.goto 8, 3) := by decide +kernel
theorem dX10_need_19 : decode cX10_need 19 = .ok (.aload_n 0, 1) := by decide +kernel
theorem dX10_need_20 : decode cX10_need 20 = .ok (.iconst 1, 1) := by decide +kernel
theorem dX10_need_21 : decode cX10_need 21 = .ok (.invokevirtual 183, 3) := by decide +kernel
theorem dX10_need_24 : decode cX10_need 24 = .ok (.return_, 1) := by decide +kernel
theorem dX10_number_0 : decode cX10_number 0 = .ok (.aload_n 0, 1) := by decide +kernel
theorem dX10_number_1 : decode cX10_number 1 = .ok (.invokevirtual 176, 3) := by decide +kernel
theorem dX10_number_4 : decode cX10_number 4 = .ok (.ifCond .ne 5, 3) := by decide +kernel
theorem dX10_number_7 : decode cX10_number 7 = .ok (.iconst 0, 1) := by decide +kernel
theorem dX10_number_8 : decode cX10_number 8 = .ok (.ireturn, 1) := by decide +kernel
theorem dX10_number_9 : decode cX10_number 9 = .ok (.aload_n 0, 1) := by decide +kernel
theorem dX10_number_10 : decode cX10_number 10 = .ok (.getfield 152, 3) := by decide +kernel
theorem dX10_number_13 : decode cX10_number 13 = .ok (.iconst 2, 1) := by decide +kernel
theorem dX10_number_14 : decode cX10_number 14 = .ok (.if_icmp .eq 11, 3) := by decide +kernel
theorem dX10_number_17 : decode cX10_number 17 = .ok (.aload_n 0, 1) := by decide +kernel
theorem dX10_number_18 : decode cX10_number 18 = .ok (.iconst 1, 1) := by decide +kernel
theorem dX10_number_19 : decode cX10_number 19 = .ok (.invokevirtual 183, 3) := by decide +kernel
theorem dX10_number_22 : decode cX10_number 22 = .ok (.goto 32, 3) := by decide +kernel
theorem dX10_number_25 : decode cX10_number 25 = .ok (.aload_n 0, 1) := by decide +kernel
theorem dX10_number_26 : decode cX10_number 26 = .ok (.getfield 162, 3) := by decide +kernel
theorem dX10_number_29 : decode cX10_number 29 = .ok (.iconst 3, 1) := by decide +kernel
theorem dX10_number_30 : decode cX10_number 30 = .ok (.if_icmp .gt 19, 3) := by decide +kernel
theorem dX10_number_33 : decode cX10_number 33 = .ok (.aload_n 0, 1) := by decide +kernel
theorem dX10_number_34 : decode cX10_number 34 = .ok (.getfield 149, 3) := by decide +kernel
theorem dX10_number_37 : decode cX10_number 37 = .ok (.iload_n 1, 1) := by decide +kernel
theorem dX10_number_38 : decode cX10_number 38 = .ok (.if_icmp .lt 11, 3) := by decide +kernel
theorem dX10_number_41 : decode cX10_number 41 = .ok (.aload_n 0, 1) := by decide +kernel
theorem dX10_number_42 : decode cX10_number 42 = .ok (.getfield 149, 3) := by decide +kernel
theorem dX10_number_45 : decode cX10_number 45 = .ok (.iload_n 2, 1) := by decide +kernel
theorem dX10_number_46 : decode cX10_number 46 = .ok (.if_icmp .le 8, 3) := by decide +kernel
theorem dX10_number_49 : decode cX10_number 49 = .ok (.aload_n 0, 1) := by decide +kernel
theorem dX10_number_50 : decode cX10_number 50 = .ok (.iconst 2, 1) := by decide +kernel
theorem dX10_number_51 : decode cX10_number 51 = .ok (.invokevirtual 183, 3) := by decide +kernel
theorem dX10_number_54 : decode cX10_number 54 = .ok (.aload_n 0, 1) := by decide +kernel
theorem dX10_number_55 : decode cX10_number 55 = .ok (.getfield 149, 3) := by decide +kernel
theorem dX10_number_58 : decode cX10_number 58 = .ok (.istore_n 3, 1) := by decide +kernel
theorem dX10_number_59 : decode cX10_number 59 = .ok (.aload_n 0, 1) := by decide +kernel
theorem dX10_number_60 : decode cX10_number 60 = .ok (.invokevirtual 176, 3) := by decide +kernel
theorem dX10_number_63 : decode cX10_number 63 = .ok (.ifCond .eq 7, 3) := by decide +kernel
theorem dX10_number_66 : decode cX10_number 66 = .ok (.aload_n 0, 1) := by decide +kernel
theorem dX10_number_67 : decode cX10_number 67 = .ok (.invokevirtual 180, 3) := by decide +kernel
theorem dX10_number_70 : decode cX10_number 70 = .ok (.iload_n 3, 1) := by decide +kernel
theorem dX10_number_71 : decode cX10_number 71 = .ok (.ireturn, 1) := by decide +kernel
theorem dX10_amongHere_0 : decode cX10_amongHere 0 = .ok (.aload_n 0, 1) := by decide +kernel
theorem dX10_amongHere_1 : decode cX10_amongHere 1 = .ok (.invokevirtual 176, 3) := by decide +kernel
theorem dX10_amongHere_4 : decode cX10_amongHere 4 = .ok (.ifCond .ne 5, 3) := by decide +kernel
theorem dX10_amongHere_7 : decode cX10_amongHere 7 = .ok (.iconst 0, 1) := by decide +kernel
theorem dX10_amongHere_8 : decode cX10_amongHere 8 = .ok (.ireturn, 1) := by decide +kernel
theorem dX10_amongHere_9 : decode cX10_amongHere 9 = .ok (.aload_n 0, 1) := by decide +kernel
theorem dX10_amongHere_10 : decode cX10_amongHere 10 = .ok (.getfield 152, 3) := by decide +kernel
theorem dX10_amongHere_13 : decode cX10_amongHere 13 = .ok (.iconst 2, 1) := by decide +kernel
theorem dX10_amongHere_14 : decode cX10_amongHere 14 = .ok (.if_icmp .eq 11, 3) := by decide +kernel
theorem dX10_amongHere_17 : decode cX10_amongHere 17 = .ok (.aload_n 0, 1) := by decide +kernel
theorem dX10_amongHere_18 : decode cX10_amongHere 18 = .ok (.iconst 1, 1) := by decide +kernel
theorem dX10_amongHere_19 : decode cX10_amongHere 19 = .ok (.invokevirtual 183, 3) := by decide +kernel
theorem dX10_amongHere_22 : decode cX10_amongHere 22 = .ok (.goto 32, 3) := by decide +kernel
theorem dX10_amongHere_25 : decode cX10_amongHere 25 = .ok (.aload_n 0, 1) := by decide +kernel
theorem dX10_amongHere_26 : decode cX10_amongHere 26 = .ok (.getfield 162, 3) := by decide +kernel
theorem dX10_amongHere_29 : decode cX10_amongHere 29 = .ok (.iconst 3, 1) := by decide +kernel
theorem dX10_amongHere_30 : decode cX10_amongHere 30 = .ok (.if_icmp .le 11, 3) := by decide +kernel
theorem dX10_amongHere_33 : decode cX10_amongHere 33 = .ok (.aload_n 0, 1) := by decide +kernel
theorem dX10_amongHere_34 : decode cX10_amongHere 34 = .ok (.iconst 2, 1) := by decide +kernel
theorem dX10_amongHere_35 : decode cX10_amongHere 35 = .ok (.invokevirtual 183, 3) := by decide +kernel
theorem dX10_amongHere_38 : decode cX10_amongHere 38 = .ok (.goto 16, 3) := by decide +kernel
theorem dX10_amongHere_41 : decode cX10_amongHere 41 = .ok (.aload_n 0, 1) := by decide +kernel
theorem dX10_amongHere_42 : decode cX10_amongHere 42 = .ok (.getfield 149, 3) := by decide +kernel
theorem dX10_amongHere_45 : decode cX10_amongHere 45 = .ok (.iload_n 1, 1) := by decide +kernel
theorem dX10_amongHere_46 : decode cX10_amongHere 46 = .ok (.if_icmp .lt 8, 3) := by decide +kernel
theorem dX10_amongHere_49 : decode cX10_amongHere 49 = .ok (.aload_n 0, 1) := by decide +kernel
theorem dX10_amongHere_50 : decode cX10_amongHere 50 = .ok (.iconst 3, 1) := by decide +kernel
theorem dX10_amongHere_51 : decode cX10_amongHere 51 = .ok (.invokevirtual 183, 3) := by decide +kernel
theorem dX10_amongHere_54 : decode cX10_amongHere 54 = .ok (.aload_n 0, 1) := by decide +kernel
theorem dX10_amongHere_55 : decode cX10_amongHere 55 = .ok (.invokevirtual 176, 3) := by decide +kernel
theorem dX10_amongHere_58 : decode cX10_amongHere 58 = .ok (.ireturn, 1) := by decide +kernel
theorem dX10_among_0 : decode cX10_among 0 = .ok (.aload_n 0, 1) := by decide +kernel
theorem dX10_among_1 : decode cX10_among 1 = .ok (.iload_n 1, 1) := by decide +kernel
theorem dX10_among_2 : decode cX10_among 2 = .ok (.invokevirtual 186, 3) := by decide +kernel
theorem dX10_among_5 : decode cX10_among 5 = .ok (.ifCond .eq 10, 3) := by decide +kernel
theorem dX10_among_8 : decode cX10_among 8 = .ok (.aload_n 0, 1) := by decide +kernel
theorem dX10_among_9 : decode cX10_among 9 = .ok (.getfield 149, 3) := by decide +kernel
theorem dX10_among_12 : decode cX10_among 12 = .ok (.goto 4, 3) := by decide +kernel
theorem dX10_among_15 : decode cX10_among 15 = .ok (.iconst 0, 1) := by decide +kernel
theorem dX10_among_16 : decode cX10_among 16 = .ok (.istore_n 2, 1) := by decide +kernel
theorem dX10_among_17 : decode cX10_among 17 = .ok (.aload_n 0, 1) := by decide +kernel
theorem dX10_among_18 : decode cX10_among 18 = .ok (.invokevirtual 176, 3) := by decide +kernel
theorem dX10_among_21 : decode cX10_among 21 = .ok (.ifCond .eq 7, 3) := by decide +kernel
theorem dX10_among_24 : decode cX10_among 24 = .ok (.aload_n 0, 1) := by decide +kernel
theorem dX10_among_25 : decode cX10_among 25 = .ok (.invokevirtual 180, 3) := by decide +kernel
theorem dX10_among_28 : decode cX10_among 28 = .ok (.iload_n 2, 1) := by decide +kernel
theorem dX10_among_29 : decode cX10_among 29 = .ok (.ireturn, 1) := by decide +kernel
theorem dX10_readsAt_0 : decode cX10_readsAt 0 = .ok (.aload_n 0, 1) := by decide +kernel
theorem dX10_readsAt_1 : decode cX10_readsAt 1 = .ok (.iconst 1, 1) := by decide +kernel
theorem dX10_readsAt_2 : decode cX10_readsAt 2 = .ok (.putfield 197, 3) := by decide +kernel
theorem dX10_readsAt_5 : decode cX10_readsAt 5 = .ok (.aload_n 0, 1) := by decide +kernel
theorem dX10_readsAt_6 : decode cX10_readsAt 6 = .ok (.invokevirtual 180, 3) := by decide +kernel
theorem dX10_readsAt_9 : decode cX10_readsAt 9 = .ok (.aload_n 0, 1) := by decide +kernel
theorem dX10_readsAt_10 : decode cX10_readsAt 10 = .ok (.aload_n 0, 1) := by decide +kernel
theorem dX10_readsAt_11 : decode cX10_readsAt 11 = .ok (.getfield 219, 3) := by decide +kernel
theorem dX10_readsAt_14 : decode cX10_readsAt 14 = .ok (.invokevirtual 204, 3) := by decide +kernel
theorem dX10_readsAt_17 : decode cX10_readsAt 17 = .ok (.istore_n 1, 1) := by decide +kernel
theorem dX10_readsAt_18 : decode cX10_readsAt 18 = .ok (.aload_n 0, 1) := by decide +kernel
theorem dX10_readsAt_19 : decode cX10_readsAt 19 = .ok (.iconst 0, 1) := by decide +kernel
theorem dX10_readsAt_20 : decode cX10_readsAt 20 = .ok (.bipush 23, 2) := by decide +kernel
theorem dX10_readsAt_22 : decode cX10_readsAt 22 = .ok (.invokevirtual 189, 3) := by decide +kernel
theorem dX10_readsAt_25 : decode cX10_readsAt 25 = .ok (.istore_n 2, 1) := by decide +kernel
theorem dX10_readsAt_26 : decode cX10_readsAt 26 = .ok (.aload_n 0, 1) := by decide +kernel
theorem dX10_readsAt_27 : decode cX10_readsAt 27 = .ok (.aload_n 0, 1) := by decide +kernel
theorem dX10_readsAt_28 : decode cX10_readsAt 28 = .ok (.getfield 201, 3) := by decide +kernel
theorem dX10_readsAt_31 : decode cX10_readsAt 31 = .ok (.invokevirtual 204, 3) := by decide +kernel
theorem dX10_readsAt_34 : decode cX10_readsAt 34 = .ok (.istore_n 3, 1) := by decide +kernel
theorem dX10_readsAt_35 : decode cX10_readsAt 35 = .ok (.aload_n 0, 1) := by decide +kernel
theorem dX10_readsAt_36 : decode cX10_readsAt 36 = .ok (.invokevirtual 176, 3) := by decide +kernel
theorem dX10_readsAt_39 : decode cX10_readsAt 39 = .ok (.ifCond .eq 15, 3) := by decide +kernel
theorem dX10_readsAt_42 : decode cX10_readsAt 42 = .ok (.aload_n 0, 1) := by decide +kernel
theorem dX10_readsAt_43 : decode cX10_readsAt 43 = .ok (.getfield 71, 3) := by decide +kernel
theorem dX10_readsAt_46 : decode cX10_readsAt 46 = .ok (.bipush 24, 2) := by decide +kernel
theorem dX10_readsAt_48 : decode cX10_readsAt 48 = .ok (.iload_n 1, 1) := by decide +kernel
theorem dX10_readsAt_49 : decode cX10_readsAt 49 = .ok (.imul, 1) := by decide +kernel
theorem dX10_readsAt_50 : decode cX10_readsAt 50 = .ok (.iload_n 2, 1) := by decide +kernel
theorem dX10_readsAt_51 : decode cX10_readsAt 51 = .ok (.iadd, 1) := by decide +kernel
theorem dX10_readsAt_52 : decode cX10_readsAt 52 = .ok (.iload_n 3, 1) := by decide +kernel
theorem dX10_readsAt_53 : decode cX10_readsAt 53 = .ok (.iastore, 1) := by decide +kernel
theorem dX10_readsAt_54 : decode cX10_readsAt 54 = .ok (.return_, 1) := by decide +kernel
theorem dX10_readsRule_0 : decode cX10_readsRule 0 = .ok (.aload_n 0, 1) := by decide +kernel
theorem dX10_readsRule_1 : decode cX10_readsRule 1 = .ok (.getfield 216, 3) := by decide +kernel
theorem dX10_readsRule_4 : decode cX10_readsRule 4 = .ok (.bipush 6, 2) := by decide +kernel
theorem dX10_readsRule_6 : decode cX10_readsRule 6 = .ok (.if_icmp .ne 8, 3) := by decide +kernel
theorem dX10_readsRule_9 : decode cX10_readsRule 9 = .ok (.aload_n 0, 1) := by decide +kernel
theorem dX10_readsRule_10 : decode cX10_readsRule 10 = .ok (.iconst 2, 1) := by decide +kernel
theorem dX10_readsRule_11 : decode cX10_readsRule 11 = .ok (.invokevirtual 183, 3) := by decide +kernel
theorem dX10_readsRule_14 : decode cX10_readsRule 14 = .ok (.aload_n 0, 1) := by decide +kernel
theorem dX10_readsRule_15 : decode cX10_readsRule 15 = .ok (.invokevirtual 176, 3) := by decide +kernel
theorem dX10_readsRule_18 : decode cX10_readsRule 18 = .ok (.ifCond .ne 4, 3) := by decide +kernel
theorem dX10_readsRule_21 : decode cX10_readsRule 21 = .ok (.return_, 1) := by decide +kernel
theorem dX10_readsRule_22 : decode cX10_readsRule 22 = .ok (.aload_n 0, 1) := by decide +kernel
theorem dX10_readsRule_23 : decode cX10_readsRule 23 = .ok (.invokevirtual 180, 3) := by decide +kernel
theorem dX10_readsRule_26 : decode cX10_readsRule 26 = .ok (.iconst 5, 1) := by decide +kernel
theorem dX10_readsRule_27 : decode cX10_readsRule 27 = .ok (.aload_n 0, 1) := by decide +kernel
theorem dX10_readsRule_28 : decode cX10_readsRule 28 = .ok (.getfield 216, 3) := by decide +kernel
theorem dX10_readsRule_31 : decode cX10_readsRule 31 = .ok (.imul, 1) := by decide +kernel
theorem dX10_readsRule_32 : decode cX10_readsRule 32 = .ok (.istore_n 1, 1) := by decide +kernel
theorem dX10_readsRule_33 : decode cX10_readsRule 33 = .ok (.aload_n 0, 1) := by decide +kernel
theorem dX10_readsRule_34 : decode cX10_readsRule 34 = .ok (.getfield 65, 3) := by decide +kernel
theorem dX10_readsRule_37 : decode cX10_readsRule 37 = .ok (.iload_n 1, 1) := by decide +kernel
theorem dX10_readsRule_38 : decode cX10_readsRule 38 = .ok (.iconst 0, 1) := by decide +kernel
theorem dX10_readsRule_39 : decode cX10_readsRule 39 = .ok (.iastore, 1) := by decide +kernel
theorem dX10_readsRule_40 : decode cX10_readsRule 40 = .ok (.iconst 1, 1) := by decide +kernel
theorem dX10_readsRule_41 : decode cX10_readsRule 41 = .ok (.istore_n 2, 1) := by decide +kernel
theorem dX10_readsRule_42 : decode cX10_readsRule 42 = .ok (.iload_n 2, 1) := by decide +kernel
theorem dX10_readsRule_43 : decode cX10_readsRule 43 = .ok (.ifCond .eq 151, 3) := by decide +kernel
theorem dX10_readsRule_46 : decode cX10_readsRule 46 = .ok (.aload_n 0, 1) := by decide +kernel
theorem dX10_readsRule_47 : decode cX10_readsRule 47 = .ok (.getfield 152, 3) := by decide +kernel
theorem dX10_readsRule_50 : decode cX10_readsRule 50 = .ok (.iconst 2, 1) := by decide +kernel
theorem dX10_readsRule_51 : decode cX10_readsRule 51 = .ok (.if_icmp .ne 18, 3) := by decide +kernel
theorem dX10_readsRule_54 : decode cX10_readsRule 54 = .ok (.aload_n 0, 1) := by decide +kernel
theorem dX10_readsRule_55 : decode cX10_readsRule 55 = .ok (.getfield 65, 3) := by decide +kernel
theorem dX10_readsRule_58 : decode cX10_readsRule 58 = .ok (.iload_n 1, 1) := by decide +kernel
theorem dX10_readsRule_59 : decode cX10_readsRule 59 = .ok (.iaload, 1) := by decide +kernel
theorem dX10_readsRule_60 : decode cX10_readsRule 60 = .ok (.iconst 4, 1) := by decide +kernel
theorem dX10_readsRule_61 : decode cX10_readsRule 61 = .ok (.if_icmp .ne 8, 3) := by decide +kernel
theorem dX10_readsRule_64 : decode cX10_readsRule 64 = .ok (.aload_n 0, 1) := by decide +kernel
theorem dX10_readsRule_65 : decode cX10_readsRule 65 = .ok (.iconst 2, 1) := by decide +kernel
theorem dX10_readsRule_66 : decode cX10_readsRule 66 = .ok (.invokevirtual 183, 3) := by decide +kernel
theorem dX10_readsRule_69 : decode cX10_readsRule 69 = .ok (.aload_n 0, 1) := by decide +kernel
theorem dX10_readsRule_70 : decode cX10_readsRule 70 = .ok (.aload_n 0, 1) := by decide +kernel
theorem dX10_readsRule_71 : decode cX10_readsRule 71 = .ok (.getfield 207, 3) := by decide +kernel
theorem dX10_readsRule_74 : decode cX10_readsRule 74 = .ok (.invokevirtual 186, 3) := by decide +kernel
theorem dX10_readsRule_77 : decode cX10_readsRule 77 = .ok (.ifCond .eq 43, 3) := by decide +kernel
theorem dX10_readsRule_80 : decode cX10_readsRule 80 = .ok (.iconst 0, 1) := by decide +kernel
theorem dX10_readsRule_81 : decode cX10_readsRule 81 = .ok (.istore_n 3, 1) := by decide +kernel
theorem dX10_readsRule_82 : decode cX10_readsRule 82 = .ok (.iload_n 3, 1) := by decide +kernel
theorem dX10_readsRule_83 : decode cX10_readsRule 83 = .ok (.aload_n 0, 1) := by decide +kernel
theorem dX10_readsRule_84 : decode cX10_readsRule 84 = .ok (.getfield 65, 3) := by decide +kernel
theorem dX10_readsRule_87 : decode cX10_readsRule 87 = .ok (.iload_n 1, 1) := by decide +kernel
theorem dX10_readsRule_88 : decode cX10_readsRule 88 = .ok (.iaload, 1) := by decide +kernel
theorem dX10_readsRule_89 : decode cX10_readsRule 89 = .ok (.if_icmp .ge 31, 3) := by decide +kernel
theorem dX10_readsRule_92 : decode cX10_readsRule 92 = .ok (.aload_n 0, 1) := by decide +kernel
theorem dX10_readsRule_93 : decode cX10_readsRule 93 = .ok (.getfield 65, 3) := by decide +kernel
theorem dX10_readsRule_96 : decode cX10_readsRule 96 = .ok (.iload_n 1, 1) := by decide +kernel
theorem dX10_readsRule_97 : decode cX10_readsRule 97 = .ok (.iconst 1, 1) := by decide +kernel
theorem dX10_readsRule_98 : decode cX10_readsRule 98 = .ok (.iadd, 1) := by decide +kernel
theorem dX10_readsRule_99 : decode cX10_readsRule 99 = .ok (.iload_n 3, 1) := by decide +kernel
theorem dX10_readsRule_100 : decode cX10_readsRule 100 = .ok (.iadd, 1) := by decide +kernel
theorem dX10_readsRule_101 : decode cX10_readsRule 101 = .ok (.iaload, 1) := by decide +kernel
theorem dX10_readsRule_102 : decode cX10_readsRule 102 = .ok (.aload_n 0, 1) := by decide +kernel
theorem dX10_readsRule_103 : decode cX10_readsRule 103 = .ok (.getfield 149, 3) := by decide +kernel
theorem dX10_readsRule_106 : decode cX10_readsRule 106 = .ok (.if_icmp .ne 8, 3) := by decide +kernel
theorem dX10_readsRule_109 : decode cX10_readsRule 109 = .ok (.aload_n 0, 1) := by decide +kernel
theorem dX10_readsRule_110 : decode cX10_readsRule 110 = .ok (.iconst 4, 1) := by decide +kernel
theorem dX10_readsRule_111 : decode cX10_readsRule 111 = .ok (.invokevirtual 183, 3) := by decide +kernel
theorem dX10_readsRule_114 : decode cX10_readsRule 114 = .ok (.iinc 3 1, 3) := by decide +kernel
theorem dX10_readsRule_117 : decode cX10_readsRule 117 = .ok (.goto (-35), 3) := by decide +kernel
theorem dX10_readsRule_120 : decode cX10_readsRule 120 = .ok (.aload_n 0, 1) := by decide +kernel
theorem dX10_readsRule_121 : decode cX10_readsRule 121 = .ok (.invokevirtual 176, 3) := by decide +kernel
theorem dX10_readsRule_124 : decode cX10_readsRule 124 = .ok (.ifCond .eq 36, 3) := by decide +kernel
theorem dX10_readsRule_127 : decode cX10_readsRule 127 = .ok (.aload_n 0, 1) := by decide +kernel
theorem dX10_readsRule_128 : decode cX10_readsRule 128 = .ok (.getfield 65, 3) := by decide +kernel
theorem dX10_readsRule_131 : decode cX10_readsRule 131 = .ok (.iload_n 1, 1) := by decide +kernel
theorem dX10_readsRule_132 : decode cX10_readsRule 132 = .ok (.iconst 1, 1) := by decide +kernel
theorem dX10_readsRule_133 : decode cX10_readsRule 133 = .ok (.iadd, 1) := by decide +kernel
theorem dX10_readsRule_134 : decode cX10_readsRule 134 = .ok (.aload_n 0, 1) := by decide +kernel
theorem dX10_readsRule_135 : decode cX10_readsRule 135 = .ok (.getfield 65, 3) := by decide +kernel
theorem dX10_readsRule_138 : decode cX10_readsRule 138 = .ok (.iload_n 1, 1) := by decide +kernel
theorem dX10_readsRule_139 : decode cX10_readsRule 139 = .ok (.iaload, 1) := by decide +kernel
theorem dX10_readsRule_140 : decode cX10_readsRule 140 = .ok (.iadd, 1) := by decide +kernel
theorem dX10_readsRule_141 : decode cX10_readsRule 141 = .ok (.aload_n 0, 1) := by decide +kernel
theorem dX10_readsRule_142 : decode cX10_readsRule 142 = .ok (.getfield 149, 3) := by decide +kernel
theorem dX10_readsRule_145 : decode cX10_readsRule 145 = .ok (.iastore, 1) := by decide +kernel
theorem dX10_readsRule_146 : decode cX10_readsRule 146 = .ok (.aload_n 0, 1) := by decide +kernel
theorem dX10_readsRule_147 : decode cX10_readsRule 147 = .ok (.getfield 65, 3) := by decide +kernel
theorem dX10_readsRule_150 : decode cX10_readsRule 150 = .ok (.iload_n 1, 1) := by decide +kernel
theorem dX10_readsRule_151 : decode cX10_readsRule 151 = .ok (.dup2, 1) := by decide +kernel
theorem dX10_readsRule_152 : decode cX10_readsRule 152 = .ok (.iaload, 1) := by decide +kernel
theorem dX10_readsRule_153 : decode cX10_readsRule 153 = .ok (.iconst 1, 1) := by decide +kernel
theorem dX10_readsRule_154 : decode cX10_readsRule 154 = .ok (.iadd, 1) := by decide +kernel
theorem dX10_readsRule_155 : decode cX10_readsRule 155 = .ok (.iastore, 1) := by decide +kernel
theorem dX10_readsRule_156 : decode cX10_readsRule 156 = .ok (.aload_n 0, 1) := by decide +kernel
theorem dX10_readsRule_157 : decode cX10_readsRule 157 = .ok (.invokevirtual 180, 3) := by decide +kernel
theorem dX10_readsRule_160 : decode cX10_readsRule 160 = .ok (.aload_n 0, 1) := by decide +kernel
theorem dX10_readsRule_161 : decode cX10_readsRule 161 = .ok (.invokevirtual 176, 3) := by decide +kernel
theorem dX10_readsRule_164 : decode cX10_readsRule 164 = .ok (.ifCond .eq 25, 3) := by decide +kernel
theorem dX10_readsRule_167 : decode cX10_readsRule 167 = .ok (.aload_n 0, 1) := by decide +kernel
theorem dX10_readsRule_168 : decode cX10_readsRule 168 = .ok (.getfield 152, 3) := by decide +kernel
theorem dX10_readsRule_171 : decode cX10_readsRule 171 = .ok (.iconst 2, 1) := by decide +kernel
theorem dX10_readsRule_172 : decode cX10_readsRule 172 = .ok (.if_icmp .eq 13, 3) := by decide +kernel
theorem dX10_readsRule_175 : decode cX10_readsRule 175 = .ok (.aload_n 0, 1) := by decide +kernel
theorem dX10_readsRule_176 : decode cX10_readsRule 176 = .ok (.getfield 65, 3) := by decide +kernel
theorem dX10_readsRule_179 : decode cX10_readsRule 179 = .ok (.iload_n 1, 1) := by decide +kernel
theorem dX10_readsRule_180 : decode cX10_readsRule 180 = .ok (.iaload, 1) := by decide +kernel
theorem dX10_readsRule_181 : decode cX10_readsRule 181 = .ok (.iconst 2, 1) := by decide +kernel
theorem dX10_readsRule_182 : decode cX10_readsRule 182 = .ok (.if_icmp .ge 7, 3) := by decide +kernel
theorem dX10_readsRule_185 : decode cX10_readsRule 185 = .ok (.iconst 1, 1) := by decide +kernel
theorem dX10_readsRule_186 : decode cX10_readsRule 186 = .ok (.goto 4, 3) := by decide +kernel
theorem dX10_readsRule_189 : decode cX10_readsRule 189 = .ok (.iconst 0, 1) := by decide +kernel
theorem dX10_readsRule_190 : decode cX10_readsRule 190 = .ok (.istore_n 2, 1) := by decide +kernel
theorem dX10_readsRule_191 : decode cX10_readsRule 191 = .ok (.goto (-149), 3) := by decide +kernel
theorem dX10_readsRule_194 : decode cX10_readsRule 194 = .ok (.aload_n 0, 1) := by decide +kernel
theorem dX10_readsRule_195 : decode cX10_readsRule 195 = .ok (.invokevirtual 176, 3) := by decide +kernel
theorem dX10_readsRule_198 : decode cX10_readsRule 198 = .ok (.ifCond .eq 13, 3) := by decide +kernel
theorem dX10_readsRule_201 : decode cX10_readsRule 201 = .ok (.aload_n 0, 1) := by decide +kernel
theorem dX10_readsRule_202 : decode cX10_readsRule 202 = .ok (.dup, 1) := by decide +kernel
theorem dX10_readsRule_203 : decode cX10_readsRule 203 = .ok (.getfield 216, 3) := by decide +kernel
theorem dX10_readsRule_206 : decode cX10_readsRule 206 = .ok (.iconst 1, 1) := by decide +kernel
theorem dX10_readsRule_207 : decode cX10_readsRule 207 = .ok (.iadd, 1) := by decide +kernel
theorem dX10_readsRule_208 : decode cX10_readsRule 208 = .ok (.putfield 216, 3) := by decide +kernel
theorem dX10_readsRule_211 : decode cX10_readsRule 211 = .ok (.return_, 1) := by decide +kernel

theorem dX0_openEyes_0 : decode cX0_openEyes 0 = .ok (.aload_n 0, 1) := by decide +kernel
theorem dX0_openEyes_1 : decode cX0_openEyes 1 = .ok (.getfield 36, 3) := by decide +kernel
theorem dX0_openEyes_4 : decode cX0_openEyes 4 = .ok (.iconst 0, 1) := by decide +kernel
theorem dX0_openEyes_5 : decode cX0_openEyes 5 = .ok (.invokestatic 80, 3) := by decide +kernel
theorem dX0_openEyes_8 : decode cX0_openEyes 8 = .ok (.aload_n 0, 1) := by decide +kernel
theorem dX0_openEyes_9 : decode cX0_openEyes 9 = .ok (.getfield 39, 3) := by decide +kernel
theorem dX0_openEyes_12 : decode cX0_openEyes 12 = .ok (.iconst 0, 1) := by decide +kernel
theorem dX0_openEyes_13 : decode cX0_openEyes 13 = .ok (.invokestatic 80, 3) := by decide +kernel
theorem dX0_openEyes_16 : decode cX0_openEyes 16 = .ok (.iconst 0, 1) := by decide +kernel
theorem dX0_openEyes_17 : decode cX0_openEyes 17 = .ok (.istore_n 1, 1) := by decide +kernel
theorem dX0_openEyes_18 : decode cX0_openEyes 18 = .ok (.iload_n 1, 1) := by decide +kernel
theorem dX0_openEyes_19 : decode cX0_openEyes 19 = .ok (.aload_n 0, 1) := by decide +kernel
theorem dX0_openEyes_20 : decode cX0_openEyes 20 = .ok (.getfield 46, 3) := by decide +kernel
theorem dX0_openEyes_23 : decode cX0_openEyes 23 = .ok (.getfield 89, 3) := by decide +kernel
theorem dX0_openEyes_26 : decode cX0_openEyes 26 = .ok (.if_icmp .ge 36, 3) := by decide +kernel
theorem dX0_openEyes_29 : decode cX0_openEyes 29 = .ok (.aload_n 0, 1) := by decide +kernel
theorem dX0_openEyes_30 : decode cX0_openEyes 30 = .ok (.getfield 27, 3) := by decide +kernel
theorem dX0_openEyes_33 : decode cX0_openEyes 33 = .ok (.iload_n 1, 1) := by decide +kernel
theorem dX0_openEyes_34 : decode cX0_openEyes 34 = .ok (.aload_n 0, 1) := by decide +kernel
theorem dX0_openEyes_35 : decode cX0_openEyes 35 = .ok (.aload_n 0, 1) := by decide +kernel
theorem dX0_openEyes_36 : decode cX0_openEyes 36 = .ok (.getfield 11, 3) := by decide +kernel
theorem dX0_openEyes_39 : decode cX0_openEyes 39 = .ok (.iload_n 1, 1) := by decide +kernel
theorem dX0_openEyes_40 : decode cX0_openEyes 40 = .ok (.iaload, 1) := by decide +kernel
theorem dX0_openEyes_41 : decode cX0_openEyes 41 = .ok (.aload_n 0, 1) := by decide +kernel
theorem dX0_openEyes_42 : decode cX0_openEyes 42 = .ok (.getfield 128, 3) := by decide +kernel
theorem dX0_openEyes_45 : decode cX0_openEyes 45 = .ok (.iand, 1) := by decide +kernel
theorem dX0_openEyes_46 : decode cX0_openEyes 46 = .ok (.aload_n 0, 1) := by decide +kernel
theorem dX0_openEyes_47 : decode cX0_openEyes 47 = .ok (.getfield 15, 3) := by decide +kernel
theorem dX0_openEyes_50 : decode cX0_openEyes 50 = .ok (.iload_n 1, 1) := by decide +kernel
theorem dX0_openEyes_51 : decode cX0_openEyes 51 = .ok (.iaload, 1) := by decide +kernel
theorem dX0_openEyes_52 : decode cX0_openEyes 52 = .ok (.invokevirtual 161, 3) := by decide +kernel
theorem dX0_openEyes_55 : decode cX0_openEyes 55 = .ok (.iastore, 1) := by decide +kernel
theorem dX0_openEyes_56 : decode cX0_openEyes 56 = .ok (.iinc 1 1, 3) := by decide +kernel
theorem dX0_openEyes_59 : decode cX0_openEyes 59 = .ok (.goto (-41), 3) := by decide +kernel
theorem dX0_openEyes_62 : decode cX0_openEyes 62 = .ok (.iconst 1, 1) := by decide +kernel
theorem dX0_openEyes_63 : decode cX0_openEyes 63 = .ok (.istore_n 1, 1) := by decide +kernel
theorem dX0_openEyes_64 : decode cX0_openEyes 64 = .ok (.iconst 0, 1) := by decide +kernel
theorem dX0_openEyes_65 : decode cX0_openEyes 65 = .ok (.istore_n 2, 1) := by decide +kernel
theorem dX0_openEyes_66 : decode cX0_openEyes 66 = .ok (.iload_n 1, 1) := by decide +kernel
theorem dX0_openEyes_67 : decode cX0_openEyes 67 = .ok (.ifCond .eq 121, 3) := by decide +kernel
theorem dX0_openEyes_70 : decode cX0_openEyes 70 = .ok (.iload_n 2, 1) := by decide +kernel
theorem dX0_openEyes_71 : decode cX0_openEyes 71 = .ok (.sipush 1086, 3) := by decide +kernel
theorem dX0_openEyes_74 : decode cX0_openEyes 74 = .ok (.if_icmp .ge 114, 3) := by decide +kernel
theorem dX0_openEyes_77 : decode cX0_openEyes 77 = .ok (.iconst 0, 1) := by decide +kernel
theorem dX0_openEyes_78 : decode cX0_openEyes 78 = .ok (.istore_n 1, 1) := by decide +kernel
theorem dX0_openEyes_79 : decode cX0_openEyes 79 = .ok (.iconst 0, 1) := by decide +kernel
theorem dX0_openEyes_80 : decode cX0_openEyes 80 = .ok (.istore_n 3, 1) := by decide +kernel
theorem dX0_openEyes_81 : decode cX0_openEyes 81 = .ok (.iload_n 3, 1) := by decide +kernel
theorem dX0_openEyes_82 : decode cX0_openEyes 82 = .ok (.aload_n 0, 1) := by decide +kernel
theorem dX0_openEyes_83 : decode cX0_openEyes 83 = .ok (.getfield 46, 3) := by decide +kernel
theorem dX0_openEyes_86 : decode cX0_openEyes 86 = .ok (.getfield 89, 3) := by decide +kernel
theorem dX0_openEyes_89 : decode cX0_openEyes 89 = .ok (.if_icmp .ge 93, 3) := by decide +kernel
theorem dX0_openEyes_92 : decode cX0_openEyes 92 = .ok (.aload_n 0, 1) := by decide +kernel
theorem dX0_openEyes_93 : decode cX0_openEyes 93 = .ok (.getfield 46, 3) := by decide +kernel
theorem dX0_openEyes_96 : decode cX0_openEyes 96 = .ok (.getfield 121, 3) := by decide +kernel
theorem dX0_openEyes_99 : decode cX0_openEyes 99 = .ok (.iload_n 3, 1) := by decide +kernel
theorem dX0_openEyes_100 : decode cX0_openEyes 100 = .ok (.iaload, 1) := by decide +kernel
theorem dX0_openEyes_101 : decode cX0_openEyes 101 = .ok (.iconst 3, 1) := by decide +kernel
theorem dX0_openEyes_102 : decode cX0_openEyes 102 = .ok (.if_icmp .ne 15, 3) := by decide +kernel
theorem dX0_openEyes_105 : decode cX0_openEyes 105 = .ok (.aload_n 0, 1) := by decide +kernel
theorem dX0_openEyes_106 : decode cX0_openEyes 106 = .ok (.iload_n 3, 1) := by decide +kernel
theorem dX0_openEyes_107 : decode cX0_openEyes 107 = .ok (.invokevirtual 164, 3) := by decide +kernel
theorem dX0_openEyes_110 : decode cX0_openEyes 110 = .ok (.ifCond .eq 7, 3) := by decide +kernel
theorem dX0_openEyes_113 : decode cX0_openEyes 113 = .ok (.iconst 1, 1) := by decide +kernel
theorem dX0_openEyes_114 : decode cX0_openEyes 114 = .ok (.goto 4, 3) := by decide +kernel
theorem dX0_openEyes_117 : decode cX0_openEyes 117 = .ok (.iconst 0, 1) := by decide +kernel
theorem dX0_openEyes_118 : decode cX0_openEyes 118 = .ok (.istore 4, 2) := by decide +kernel
theorem dX0_openEyes_120 : decode cX0_openEyes 120 = .ok (.aload_n 0, 1) := by decide +kernel
theorem dX0_openEyes_121 : decode cX0_openEyes 121 = .ok (.getfield 76, 3) := by decide +kernel
theorem dX0_openEyes_124 : decode cX0_openEyes 124 = .ok (.iload_n 3, 1) := by decide +kernel
theorem dX0_openEyes_125 : decode cX0_openEyes 125 = .ok (.invokestatic 139, 3) := by decide +kernel
theorem dX0_openEyes_128 : decode cX0_openEyes 128 = .ok (.ifCond .eq 11, 3) := by decide +kernel
theorem dX0_openEyes_131 : decode cX0_openEyes 131 = .ok (.aload_n 0, 1) := by decide +kernel
theorem dX0_openEyes_132 : decode cX0_openEyes 132 = .ok (.iload_n 3, 1) := by decide +kernel
theorem dX0_openEyes_133 : decode cX0_openEyes 133 = .ok (.invokevirtual 168, 3) := by decide +kernel
theorem dX0_openEyes_136 : decode cX0_openEyes 136 = .ok (.goto 4, 3) := by decide +kernel
theorem dX0_openEyes_139 : decode cX0_openEyes 139 = .ok (.iconst 0, 1) := by decide +kernel
theorem dX0_openEyes_140 : decode cX0_openEyes 140 = .ok (.istore 5, 2) := by decide +kernel
theorem dX0_openEyes_142 : decode cX0_openEyes 142 = .ok (.iload_n 1, 1) := by decide +kernel
theorem dX0_openEyes_143 : decode cX0_openEyes 143 = .ok (.ifCond .ne 19, 3) := by decide +kernel
theorem dX0_openEyes_146 : decode cX0_openEyes 146 = .ok (.iload 4, 2) := by decide +kernel
theorem dX0_openEyes_148 : decode cX0_openEyes 148 = .ok (.ifCond .ne 14, 3) := by decide +kernel
theorem dX0_openEyes_151 : decode cX0_openEyes 151 = .ok (.iload 5, 2) := by decide +kernel
theorem dX0_openEyes_153 : decode cX0_openEyes 153 = .ok (.aload_n 0, 1) := by decide +kernel
theorem dX0_openEyes_154 : decode cX0_openEyes 154 = .ok (.getfield 36, 3) := by decide +kernel
theorem dX0_openEyes_157 : decode cX0_openEyes 157 = .ok (.iload_n 3, 1) := by decide +kernel
theorem dX0_openEyes_158 : decode cX0_openEyes 158 = .ok (.iaload, 1) := by decide +kernel
theorem dX0_openEyes_159 : decode cX0_openEyes 159 = .ok (.if_icmp .eq 7, 3) := by decide +kernel
theorem dX0_openEyes_162 : decode cX0_openEyes 162 = .ok (.iconst 1, 1) := by decide +kernel
theorem dX0_openEyes_163 : decode cX0_openEyes 163 = .ok (.goto 4, 3) := by decide +kernel
theorem dX0_openEyes_166 : decode cX0_openEyes 166 = .ok (.iconst 0, 1) := by decide +kernel
theorem dX0_openEyes_167 : decode cX0_openEyes 167 = .ok (.istore_n 1, 1) := by decide +kernel
theorem dX0_openEyes_168 : decode cX0_openEyes 168 = .ok (.aload_n 0, 1) := by decide +kernel
theorem dX0_openEyes_169 : decode cX0_openEyes 169 = .ok (.getfield 36, 3) := by decide +kernel
theorem dX0_openEyes_172 : decode cX0_openEyes 172 = .ok (.iload_n 3, 1) := by decide +kernel
theorem dX0_openEyes_173 : decode cX0_openEyes 173 = .ok (.iload 5, 2) := by decide +kernel
theorem dX0_openEyes_175 : decode cX0_openEyes 175 = .ok (.iastore, 1) := by decide +kernel
theorem dX0_openEyes_176 : decode cX0_openEyes 176 = .ok (.iinc 3 1, 3) := by decide +kernel
theorem dX0_openEyes_179 : decode cX0_openEyes 179 = .ok (.goto (-98), 3) := by decide +kernel
theorem dX0_openEyes_182 : decode cX0_openEyes 182 = .ok (.iinc 2 1, 3) := by decide +kernel
theorem dX0_openEyes_185 : decode cX0_openEyes 185 = .ok (.goto (-119), 3) := by decide +kernel
theorem dX0_openEyes_188 : decode cX0_openEyes 188 = .ok (.aload_n 0, 1) := by decide +kernel
theorem dX0_openEyes_189 : decode cX0_openEyes 189 = .ok (.iconst 1, 1) := by decide +kernel
theorem dX0_openEyes_190 : decode cX0_openEyes 190 = .ok (.putfield 67, 3) := by decide +kernel
theorem dX0_openEyes_193 : decode cX0_openEyes 193 = .ok (.return_, 1) := by decide +kernel
theorem dX0_eyesOf_0 : decode cX0_eyesOf 0 = .ok (.aload_n 0, 1) := by decide +kernel
theorem dX0_eyesOf_1 : decode cX0_eyesOf 1 = .ok (.invokevirtual 70, 3) := by decide +kernel
theorem dX0_eyesOf_4 : decode cX0_eyesOf 4 = .ok (.aload_n 0, 1) := by decide +kernel
theorem dX0_eyesOf_5 : decode cX0_eyesOf 5 = .ok (.getfield 67, 3) := by decide +kernel
theorem dX0_eyesOf_8 : decode cX0_eyesOf 8 = .ok (.ifCond .ne 7, 3) := by decide +kernel
theorem dX0_eyesOf_11 : decode cX0_eyesOf 11 = .ok (.aload_n 0, 1) := by decide +kernel
theorem dX0_eyesOf_12 : decode cX0_eyesOf 12 = .ok (.invokevirtual 73, 3) := by decide +kernel
theorem dX0_eyesOf_15 : decode cX0_eyesOf 15 = .ok (.aload_n 0, 1) := by decide +kernel
theorem dX0_eyesOf_16 : decode cX0_eyesOf 16 = .ok (.getfield 36, 3) := by decide +kernel
theorem dX0_eyesOf_19 : decode cX0_eyesOf 19 = .ok (.iload_n 1, 1) := by decide +kernel
theorem dX0_eyesOf_20 : decode cX0_eyesOf 20 = .ok (.iaload, 1) := by decide +kernel
theorem dX0_eyesOf_21 : decode cX0_eyesOf 21 = .ok (.ireturn, 1) := by decide +kernel
theorem dX9_saying_0 : decode cX9_saying 0 = .ok (.iload_n 1, 1) := by decide +kernel
theorem dX9_saying_1 : decode cX9_saying 1 = .ok (.ifCond .lt 14, 3) := by decide +kernel
theorem dX9_saying_4 : decode cX9_saying 4 = .ok (.iload_n 1, 1) := by decide +kernel
theorem dX9_saying_5 : decode cX9_saying 5 = .ok (.aload_n 0, 1) := by decide +kernel
theorem dX9_saying_6 : decode cX9_saying 6 = .ok (.getfield 49, 3) := by decide +kernel
theorem dX9_saying_9 : decode cX9_saying 9 = .ok (.getfield 111, 3) := by decide +kernel
theorem dX9_saying_12 : decode cX9_saying 12 = .ok (.if_icmp .lt 11, 3) := by decide +kernel
theorem dX9_saying_15 : decode cX9_saying 15 = .ok (.new 167, 3) := by decide +kernel
theorem dX9_saying_18 : decode cX9_saying 18 = .ok (.dup, 1) := by decide +kernel
theorem dX9_saying_19 : decode cX9_saying 19 = .ok (.invokespecial 169, 3) := by decide +kernel
theorem dX9_saying_22 : decode cX9_saying 22 = .ok (.athrow, 1) := by decide +kernel
theorem dX9_saying_23 : decode cX9_saying 23 = .ok (.iload_n 2, 1) := by decide +kernel
theorem dX9_saying_24 : decode cX9_saying 24 = .ok (.tableswitch 141 0 7 #[48, 58, 68, 78, 88, 106, 123, 132], 48) := by decide +kernel
theorem dX9_saying_72 : decode cX9_saying 72 = .ok (.aload_n 0, 1) := by decide +kernel
theorem dX9_saying_73 : decode cX9_saying 73 = .ok (.getfield 49, 3) := by decide +kernel
theorem dX9_saying_76 : decode cX9_saying 76 = .ok (.getfield 250, 3) := by decide +kernel
theorem dX9_saying_79 : decode cX9_saying 79 = .ok (.iload_n 1, 1) := by decide +kernel
theorem dX9_saying_80 : decode cX9_saying 80 = .ok (.iaload, 1) := by decide +kernel
theorem dX9_saying_81 : decode cX9_saying 81 = .ok (.ireturn, 1) := by decide +kernel
theorem dX9_saying_82 : decode cX9_saying 82 = .ok (.aload_n 0, 1) := by decide +kernel
theorem dX9_saying_83 : decode cX9_saying 83 = .ok (.getfield 49, 3) := by decide +kernel
theorem dX9_saying_86 : decode cX9_saying 86 = .ok (.getfield 253, 3) := by decide +kernel
theorem dX9_saying_89 : decode cX9_saying 89 = .ok (.iload_n 1, 1) := by decide +kernel
theorem dX9_saying_90 : decode cX9_saying 90 = .ok (.iaload, 1) := by decide +kernel
theorem dX9_saying_91 : decode cX9_saying 91 = .ok (.ireturn, 1) := by decide +kernel
theorem dX9_saying_92 : decode cX9_saying 92 = .ok (.aload_n 0, 1) := by decide +kernel
theorem dX9_saying_93 : decode cX9_saying 93 = .ok (.getfield 49, 3) := by decide +kernel
theorem dX9_saying_96 : decode cX9_saying 96 = .ok (.getfield 256, 3) := by decide +kernel
theorem dX9_saying_99 : decode cX9_saying 99 = .ok (.iload_n 1, 1) := by decide +kernel
theorem dX9_saying_100 : decode cX9_saying 100 = .ok (.iaload, 1) := by decide +kernel
theorem dX9_saying_101 : decode cX9_saying 101 = .ok (.ireturn, 1) := by decide +kernel
theorem dX9_saying_102 : decode cX9_saying 102 = .ok (.aload_n 0, 1) := by decide +kernel
theorem dX9_saying_103 : decode cX9_saying 103 = .ok (.getfield 49, 3) := by decide +kernel
theorem dX9_saying_106 : decode cX9_saying 106 = .ok (.getfield 258, 3) := by decide +kernel
theorem dX9_saying_109 : decode cX9_saying 109 = .ok (.iload_n 1, 1) := by decide +kernel
theorem dX9_saying_110 : decode cX9_saying 110 = .ok (.iaload, 1) := by decide +kernel
theorem dX9_saying_111 : decode cX9_saying 111 = .ok (.ireturn, 1) := by decide +kernel
theorem dX9_saying_112 : decode cX9_saying 112 = .ok (.aload_n 0, 1) := by decide +kernel
theorem dX9_saying_113 : decode cX9_saying 113 = .ok (.getfield 49, 3) := by decide +kernel
theorem dX9_saying_116 : decode cX9_saying 116 = .ok (.getfield 260, 3) := by decide +kernel
theorem dX9_saying_119 : decode cX9_saying 119 = .ok (.iload_n 1, 1) := by decide +kernel
theorem dX9_saying_120 : decode cX9_saying 120 = .ok (.baload, 1) := by decide +kernel
theorem dX9_saying_121 : decode cX9_saying 121 = .ok (.ifCond .eq 7, 3) := by decide +kernel
theorem dX9_saying_124 : decode cX9_saying 124 = .ok (.iconst 1, 1) := by decide +kernel
theorem dX9_saying_125 : decode cX9_saying 125 = .ok (.goto 4, 3) := by decide +kernel
theorem dX9_saying_128 : decode cX9_saying 128 = .ok (.iconst 0, 1) := by decide +kernel
theorem dX9_saying_129 : decode cX9_saying 129 = .ok (.ireturn, 1) := by decide +kernel
theorem dX9_saying_130 : decode cX9_saying 130 = .ok (.aload_n 0, 1) := by decide +kernel
theorem dX9_saying_131 : decode cX9_saying 131 = .ok (.getfield 73, 3) := by decide +kernel
theorem dX9_saying_134 : decode cX9_saying 134 = .ok (.iload_n 1, 1) := by decide +kernel
theorem dX9_saying_135 : decode cX9_saying 135 = .ok (.invokevirtual 263, 3) := by decide +kernel
theorem dX9_saying_138 : decode cX9_saying 138 = .ok (.ifCond .le 7, 3) := by decide +kernel
theorem dX9_saying_141 : decode cX9_saying 141 = .ok (.iconst 1, 1) := by decide +kernel
theorem dX9_saying_142 : decode cX9_saying 142 = .ok (.goto 4, 3) := by decide +kernel
theorem dX9_saying_145 : decode cX9_saying 145 = .ok (.iconst 0, 1) := by decide +kernel
theorem dX9_saying_146 : decode cX9_saying 146 = .ok (.ireturn, 1) := by decide +kernel
theorem dX9_saying_147 : decode cX9_saying 147 = .ok (.aload_n 0, 1) := by decide +kernel
theorem dX9_saying_148 : decode cX9_saying 148 = .ok (.getfield 73, 3) := by decide +kernel
theorem dX9_saying_151 : decode cX9_saying 151 = .ok (.iload_n 1, 1) := by decide +kernel
theorem dX9_saying_152 : decode cX9_saying 152 = .ok (.invokevirtual 263, 3) := by decide +kernel
theorem dX9_saying_155 : decode cX9_saying 155 = .ok (.ireturn, 1) := by decide +kernel
theorem dX9_saying_156 : decode cX9_saying 156 = .ok (.aload_n 0, 1) := by decide +kernel
theorem dX9_saying_157 : decode cX9_saying 157 = .ok (.getfield 73, 3) := by decide +kernel
theorem dX9_saying_160 : decode cX9_saying 160 = .ok (.iload_n 1, 1) := by decide +kernel
theorem dX9_saying_161 : decode cX9_saying 161 = .ok (.invokevirtual 266, 3) := by decide +kernel
theorem dX9_saying_164 : decode cX9_saying 164 = .ok (.ireturn, 1) := by decide +kernel
theorem dX9_saying_165 : decode cX9_saying 165 = .ok (.new 167, 3) := by decide +kernel
theorem dX9_saying_168 : decode cX9_saying 168 = .ok (.dup, 1) := by decide +kernel
theorem dX9_saying_169 : decode cX9_saying 169 = .ok (.invokespecial 169, 3) := by decide +kernel
theorem dX9_saying_172 : decode cX9_saying 172 = .ok (.athrow, 1) := by decide +kernel
theorem dX0_isTold_0 : decode cX0_isTold 0 = .ok (.iconst 0, 1) := by decide +kernel
theorem dX0_isTold_1 : decode cX0_isTold 1 = .ok (.istore_n 3, 1) := by decide +kernel
theorem dX0_isTold_2 : decode cX0_isTold 2 = .ok (.iconst 0, 1) := by decide +kernel
theorem dX0_isTold_3 : decode cX0_isTold 3 = .ok (.istore 4, 2) := by decide +kernel
theorem dX0_isTold_5 : decode cX0_isTold 5 = .ok (.iload 4, 2) := by decide +kernel
theorem dX0_isTold_7 : decode cX0_isTold 7 = .ok (.aload_n 0, 1) := by decide +kernel
theorem dX0_isTold_8 : decode cX0_isTold 8 = .ok (.getfield 46, 3) := by decide +kernel
theorem dX0_isTold_11 : decode cX0_isTold 11 = .ok (.getfield 89, 3) := by decide +kernel
theorem dX0_isTold_14 : decode cX0_isTold 14 = .ok (.if_icmp .ge 33, 3) := by decide +kernel
theorem dX0_isTold_17 : decode cX0_isTold 17 = .ok (.iload_n 2, 1) := by decide +kernel
theorem dX0_isTold_18 : decode cX0_isTold 18 = .ok (.aload_n 0, 1) := by decide +kernel
theorem dX0_isTold_19 : decode cX0_isTold 19 = .ok (.getfield 46, 3) := by decide +kernel
theorem dX0_isTold_22 : decode cX0_isTold 22 = .ok (.getfield 92, 3) := by decide +kernel
theorem dX0_isTold_25 : decode cX0_isTold 25 = .ok (.iload 4, 2) := by decide +kernel
theorem dX0_isTold_27 : decode cX0_isTold 27 = .ok (.iaload, 1) := by decide +kernel
theorem dX0_isTold_28 : decode cX0_isTold 28 = .ok (.invokestatic 139, 3) := by decide +kernel
theorem dX0_isTold_31 : decode cX0_isTold 31 = .ok (.ifCond .ne 10, 3) := by decide +kernel
theorem dX0_isTold_34 : decode cX0_isTold 34 = .ok (.iload_n 3, 1) := by decide +kernel
theorem dX0_isTold_35 : decode cX0_isTold 35 = .ok (.iconst 1, 1) := by decide +kernel
theorem dX0_isTold_36 : decode cX0_isTold 36 = .ok (.iload 4, 2) := by decide +kernel
theorem dX0_isTold_38 : decode cX0_isTold 38 = .ok (.ishl, 1) := by decide +kernel
theorem dX0_isTold_39 : decode cX0_isTold 39 = .ok (.ior, 1) := by decide +kernel
theorem dX0_isTold_40 : decode cX0_isTold 40 = .ok (.istore_n 3, 1) := by decide +kernel
theorem dX0_isTold_41 : decode cX0_isTold 41 = .ok (.iinc 4 1, 3) := by decide +kernel
theorem dX0_isTold_44 : decode cX0_isTold 44 = .ok (.goto (-39), 3) := by decide +kernel
theorem dX0_isTold_47 : decode cX0_isTold 47 = .ok (.aload_n 0, 1) := by decide +kernel
theorem dX0_isTold_48 : decode cX0_isTold 48 = .ok (.iconst 0, 1) := by decide +kernel
theorem dX0_isTold_49 : decode cX0_isTold 49 = .ok (.iload_n 3, 1) := by decide +kernel
theorem dX0_isTold_50 : decode cX0_isTold 50 = .ok (.invokevirtual 63, 3) := by decide +kernel
theorem dX0_isTold_53 : decode cX0_isTold 53 = .ok (.aload_n 0, 1) := by decide +kernel
theorem dX0_isTold_54 : decode cX0_isTold 54 = .ok (.getfield 128, 3) := by decide +kernel
theorem dX0_isTold_57 : decode cX0_isTold 57 = .ok (.iload_n 1, 1) := by decide +kernel
theorem dX0_isTold_58 : decode cX0_isTold 58 = .ok (.iand, 1) := by decide +kernel
theorem dX0_isTold_59 : decode cX0_isTold 59 = .ok (.ifCond .eq 7, 3) := by decide +kernel
theorem dX0_isTold_62 : decode cX0_isTold 62 = .ok (.iconst 1, 1) := by decide +kernel
theorem dX0_isTold_63 : decode cX0_isTold 63 = .ok (.goto 4, 3) := by decide +kernel
theorem dX0_isTold_66 : decode cX0_isTold 66 = .ok (.iconst 0, 1) := by decide +kernel
theorem dX0_isTold_67 : decode cX0_isTold 67 = .ok (.ireturn, 1) := by decide +kernel
theorem dX0_fewestSilent_0 : decode cX0_fewestSilent 0 = .ok (.aload_n 0, 1) := by decide +kernel
theorem dX0_fewestSilent_1 : decode cX0_fewestSilent 1 = .ok (.invokevirtual 54, 3) := by decide +kernel
theorem dX0_fewestSilent_4 : decode cX0_fewestSilent 4 = .ok (.aload_n 0, 1) := by decide +kernel
theorem dX0_fewestSilent_5 : decode cX0_fewestSilent 5 = .ok (.invokevirtual 193, 3) := by decide +kernel
theorem dX0_fewestSilent_8 : decode cX0_fewestSilent 8 = .ok (.aload_n 0, 1) := by decide +kernel
theorem dX0_fewestSilent_9 : decode cX0_fewestSilent 9 = .ok (.iload_n 1, 1) := by decide +kernel
theorem dX0_fewestSilent_10 : decode cX0_fewestSilent 10 = .ok (.bipush 23, 2) := by decide +kernel
theorem dX0_fewestSilent_12 : decode cX0_fewestSilent 12 = .ok (.invokevirtual 98, 3) := by decide +kernel
theorem dX0_fewestSilent_15 : decode cX0_fewestSilent 15 = .ok (.aload_n 0, 1) := by decide +kernel
theorem dX0_fewestSilent_16 : decode cX0_fewestSilent 16 = .ok (.getfield 21, 3) := by decide +kernel
theorem dX0_fewestSilent_19 : decode cX0_fewestSilent 19 = .ok (.iload_n 2, 1) := by decide +kernel
theorem dX0_fewestSilent_20 : decode cX0_fewestSilent 20 = .ok (.iconst 0, 1) := by decide +kernel
theorem dX0_fewestSilent_21 : decode cX0_fewestSilent 21 = .ok (.invokestatic 117, 3) := by decide +kernel
theorem dX0_fewestSilent_24 : decode cX0_fewestSilent 24 = .ok (.iaload, 1) := by decide +kernel
theorem dX0_fewestSilent_25 : decode cX0_fewestSilent 25 = .ok (.iand, 1) := by decide +kernel
theorem dX0_fewestSilent_26 : decode cX0_fewestSilent 26 = .ok (.istore_n 3, 1) := by decide +kernel
theorem dX0_fewestSilent_27 : decode cX0_fewestSilent 27 = .ok (.iconst 1, 1) := by decide +kernel
theorem dX0_fewestSilent_28 : decode cX0_fewestSilent 28 = .ok (.aload_n 0, 1) := by decide +kernel
theorem dX0_fewestSilent_29 : decode cX0_fewestSilent 29 = .ok (.getfield 42, 3) := by decide +kernel
theorem dX0_fewestSilent_32 : decode cX0_fewestSilent 32 = .ok (.getfield 196, 3) := by decide +kernel
theorem dX0_fewestSilent_35 : decode cX0_fewestSilent 35 = .ok (.ishl, 1) := by decide +kernel
theorem dX0_fewestSilent_36 : decode cX0_fewestSilent 36 = .ok (.iconst 1, 1) := by decide +kernel
theorem dX0_fewestSilent_37 : decode cX0_fewestSilent 37 = .ok (.isub, 1) := by decide +kernel
theorem dX0_fewestSilent_38 : decode cX0_fewestSilent 38 = .ok (.iconst 1, 1) := by decide +kernel
theorem dX0_fewestSilent_39 : decode cX0_fewestSilent 39 = .ok (.iload_n 1, 1) := by decide +kernel
theorem dX0_fewestSilent_40 : decode cX0_fewestSilent 40 = .ok (.ishl, 1) := by decide +kernel
theorem dX0_fewestSilent_41 : decode cX0_fewestSilent 41 = .ok (.iconst (-1), 1) := by decide +kernel
theorem dX0_fewestSilent_42 : decode cX0_fewestSilent 42 = .ok (.ixor, 1) := by decide +kernel
theorem dX0_fewestSilent_43 : decode cX0_fewestSilent 43 = .ok (.iand, 1) := by decide +kernel
theorem dX0_fewestSilent_44 : decode cX0_fewestSilent 44 = .ok (.istore 4, 2) := by decide +kernel
theorem dX0_fewestSilent_46 : decode cX0_fewestSilent 46 = .ok (.iload 4, 2) := by decide +kernel
theorem dX0_fewestSilent_48 : decode cX0_fewestSilent 48 = .ok (.invokestatic 199, 3) := by decide +kernel
theorem dX0_fewestSilent_51 : decode cX0_fewestSilent 51 = .ok (.istore 5, 2) := by decide +kernel
theorem dX0_fewestSilent_53 : decode cX0_fewestSilent 53 = .ok (.iconst 0, 1) := by decide +kernel
theorem dX0_fewestSilent_54 : decode cX0_fewestSilent 54 = .ok (.istore 6, 2) := by decide +kernel
theorem dX0_fewestSilent_56 : decode cX0_fewestSilent 56 = .ok (.iload 6, 2) := by decide +kernel
theorem dX0_fewestSilent_58 : decode cX0_fewestSilent 58 = .ok (.iload 5, 2) := by decide +kernel
theorem dX0_fewestSilent_60 : decode cX0_fewestSilent 60 = .ok (.if_icmp .ge 63, 3) := by decide +kernel
theorem dX0_fewestSilent_63 : decode cX0_fewestSilent 63 = .ok (.iconst 0, 1) := by decide +kernel
theorem dX0_fewestSilent_64 : decode cX0_fewestSilent 64 = .ok (.istore 7, 2) := by decide +kernel
theorem dX0_fewestSilent_66 : decode cX0_fewestSilent 66 = .ok (.iconst 0, 1) := by decide +kernel
theorem dX0_fewestSilent_67 : decode cX0_fewestSilent 67 = .ok (.istore 8, 2) := by decide +kernel
theorem dX0_fewestSilent_69 : decode cX0_fewestSilent 69 = .ok (.iload 8, 2) := by decide +kernel
theorem dX0_fewestSilent_71 : decode cX0_fewestSilent 71 = .ok (.iconst 1, 1) := by decide +kernel
theorem dX0_fewestSilent_72 : decode cX0_fewestSilent 72 = .ok (.iload 5, 2) := by decide +kernel
theorem dX0_fewestSilent_74 : decode cX0_fewestSilent 74 = .ok (.ishl, 1) := by decide +kernel
theorem dX0_fewestSilent_75 : decode cX0_fewestSilent 75 = .ok (.if_icmp .ge 42, 3) := by decide +kernel
theorem dX0_fewestSilent_78 : decode cX0_fewestSilent 78 = .ok (.iload 7, 2) := by decide +kernel
theorem dX0_fewestSilent_80 : decode cX0_fewestSilent 80 = .ok (.invokestatic 199, 3) := by decide +kernel
theorem dX0_fewestSilent_83 : decode cX0_fewestSilent 83 = .ok (.iload 6, 2) := by decide +kernel
theorem dX0_fewestSilent_85 : decode cX0_fewestSilent 85 = .ok (.if_icmp .ne 16, 3) := by decide +kernel
theorem dX0_fewestSilent_88 : decode cX0_fewestSilent 88 = .ok (.aload_n 0, 1) := by decide +kernel
theorem dX0_fewestSilent_89 : decode cX0_fewestSilent 89 = .ok (.iload_n 3, 1) := by decide +kernel
theorem dX0_fewestSilent_90 : decode cX0_fewestSilent 90 = .ok (.iload 7, 2) := by decide +kernel
theorem dX0_fewestSilent_92 : decode cX0_fewestSilent 92 = .ok (.invokevirtual 204, 3) := by decide +kernel
theorem dX0_fewestSilent_95 : decode cX0_fewestSilent 95 = .ok (.ifCond .ne 6, 3) := by decide +kernel
theorem dX0_fewestSilent_98 : decode cX0_fewestSilent 98 = .ok (.iload 7, 2) := by decide +kernel
theorem dX0_fewestSilent_100 : decode cX0_fewestSilent 100 = .ok (.ireturn, 1) := by decide +kernel
theorem dX0_fewestSilent_101 : decode cX0_fewestSilent 101 = .ok (.iload 7, 2) := by decide +kernel
theorem dX0_fewestSilent_103 : decode cX0_fewestSilent 103 = .ok (.iload 4, 2) := by decide +kernel
theorem dX0_fewestSilent_105 : decode cX0_fewestSilent 105 = .ok (.isub, 1) := by decide +kernel
theorem dX0_fewestSilent_106 : decode cX0_fewestSilent 106 = .ok (.iload 4, 2) := by decide +kernel
theorem dX0_fewestSilent_108 : decode cX0_fewestSilent 108 = .ok (.iand, 1) := by decide +kernel
theorem dX0_fewestSilent_109 : decode cX0_fewestSilent 109 = .ok (.istore 7, 2) := by decide +kernel
theorem dX0_fewestSilent_111 : decode cX0_fewestSilent 111 = .ok (.iinc 8 1, 3) := by decide +kernel
theorem dX0_fewestSilent_114 : decode cX0_fewestSilent 114 = .ok (.goto (-45), 3) := by decide +kernel
theorem dX0_fewestSilent_117 : decode cX0_fewestSilent 117 = .ok (.iinc 6 1, 3) := by decide +kernel
theorem dX0_fewestSilent_120 : decode cX0_fewestSilent 120 = .ok (.goto (-64), 3) := by decide +kernel
theorem dX0_fewestSilent_123 : decode cX0_fewestSilent 123 = .ok (.iload 4, 2) := by decide +kernel
theorem dX0_fewestSilent_125 : decode cX0_fewestSilent 125 = .ok (.ireturn, 1) := by decide +kernel
theorem dX9_silence_0 : decode cX9_silence 0 = .ok (.aload_n 0, 1) := by decide +kernel
theorem dX9_silence_1 : decode cX9_silence 1 = .ok (.iload_n 1, 1) := by decide +kernel
theorem dX9_silence_2 : decode cX9_silence 2 = .ok (.invokevirtual 170, 3) := by decide +kernel
theorem dX9_silence_5 : decode cX9_silence 5 = .ok (.aload_n 0, 1) := by decide +kernel
theorem dX9_silence_6 : decode cX9_silence 6 = .ok (.iload_n 2, 1) := by decide +kernel
theorem dX9_silence_7 : decode cX9_silence 7 = .ok (.invokevirtual 190, 3) := by decide +kernel
theorem dX9_silence_10 : decode cX9_silence 10 = .ok (.aload_n 0, 1) := by decide +kernel
theorem dX9_silence_11 : decode cX9_silence 11 = .ok (.getfield 73, 3) := by decide +kernel
theorem dX9_silence_14 : decode cX9_silence 14 = .ok (.iload_n 1, 1) := by decide +kernel
theorem dX9_silence_15 : decode cX9_silence 15 = .ok (.iload_n 2, 1) := by decide +kernel
theorem dX9_silence_16 : decode cX9_silence 16 = .ok (.invokevirtual 287, 3) := by decide +kernel
theorem dX9_silence_19 : decode cX9_silence 19 = .ok (.ireturn, 1) := by decide +kernel
theorem dX3_hear_0 : decode cX3_hear 0 = .ok (.aload_n 0, 1) := by decide +kernel
theorem dX3_hear_1 : decode cX3_hear 1 = .ok (.getfield 15, 3) := by decide +kernel
theorem dX3_hear_4 : decode cX3_hear 4 = .ok (.iload_n 2, 1) := by decide +kernel
theorem dX3_hear_5 : decode cX3_hear 5 = .ok (.invokestatic 34, 3) := by decide +kernel
theorem dX3_hear_8 : decode cX3_hear 8 = .ok (.ifCond .ne 5, 3) := by decide +kernel
theorem dX3_hear_11 : decode cX3_hear 11 = .ok (.iconst 0, 1) := by decide +kernel
theorem dX3_hear_12 : decode cX3_hear 12 = .ok (.ireturn, 1) := by decide +kernel
theorem dX3_hear_13 : decode cX3_hear 13 = .ok (.aload_n 0, 1) := by decide +kernel
theorem dX3_hear_14 : decode cX3_hear 14 = .ok (.iload_n 1, 1) := by decide +kernel
theorem dX3_hear_15 : decode cX3_hear 15 = .ok (.aload_n 0, 1) := by decide +kernel
theorem dX3_hear_16 : decode cX3_hear 16 = .ok (.iload_n 2, 1) := by decide +kernel
theorem dX3_hear_17 : decode cX3_hear 17 = .ok (.iload_n 3, 1) := by decide +kernel
theorem dX3_hear_18 : decode cX3_hear 18 = .ok (.invokevirtual 51, 3) := by decide +kernel
theorem dX3_hear_21 : decode cX3_hear 21 = .ok (.invokevirtual 55, 3) := by decide +kernel
theorem dX3_hear_24 : decode cX3_hear 24 = .ok (.istore 4, 2) := by decide +kernel
theorem dX3_hear_26 : decode cX3_hear 26 = .ok (.iload 4, 2) := by decide +kernel
theorem dX3_hear_28 : decode cX3_hear 28 = .ok (.aload_n 0, 1) := by decide +kernel
theorem dX3_hear_29 : decode cX3_hear 29 = .ok (.invokevirtual 58, 3) := by decide +kernel
theorem dX3_hear_32 : decode cX3_hear 32 = .ok (.invokestatic 34, 3) := by decide +kernel
theorem dX3_hear_35 : decode cX3_hear 35 = .ok (.ifCond .ne 5, 3) := by decide +kernel
theorem dX3_hear_38 : decode cX3_hear 38 = .ok (.iconst 0, 1) := by decide +kernel
theorem dX3_hear_39 : decode cX3_hear 39 = .ok (.ireturn, 1) := by decide +kernel
theorem dX3_hear_40 : decode cX3_hear 40 = .ok (.aload_n 0, 1) := by decide +kernel
theorem dX3_hear_41 : decode cX3_hear 41 = .ok (.iload 4, 2) := by decide +kernel
theorem dX3_hear_43 : decode cX3_hear 43 = .ok (.putfield 19, 3) := by decide +kernel
theorem dX3_hear_46 : decode cX3_hear 46 = .ok (.iconst 1, 1) := by decide +kernel
theorem dX3_hear_47 : decode cX3_hear 47 = .ok (.ireturn, 1) := by decide +kernel
theorem dX9_tell_0 : decode cX9_tell 0 = .ok (.aload_n 0, 1) := by decide +kernel
theorem dX9_tell_1 : decode cX9_tell 1 = .ok (.iload_n 1, 1) := by decide +kernel
theorem dX9_tell_2 : decode cX9_tell 2 = .ok (.invokevirtual 170, 3) := by decide +kernel
theorem dX9_tell_5 : decode cX9_tell 5 = .ok (.aload_n 0, 1) := by decide +kernel
theorem dX9_tell_6 : decode cX9_tell 6 = .ok (.iload_n 2, 1) := by decide +kernel
theorem dX9_tell_7 : decode cX9_tell 7 = .ok (.invokevirtual 190, 3) := by decide +kernel
theorem dX9_tell_10 : decode cX9_tell 10 = .ok (.aload_n 0, 1) := by decide +kernel
theorem dX9_tell_11 : decode cX9_tell 11 = .ok (.getfield 61, 3) := by decide +kernel
theorem dX9_tell_14 : decode cX9_tell 14 = .ok (.iload_n 1, 1) := by decide +kernel
theorem dX9_tell_15 : decode cX9_tell 15 = .ok (.iload_n 2, 1) := by decide +kernel
theorem dX9_tell_16 : decode cX9_tell 16 = .ok (.iload_n 3, 1) := by decide +kernel
theorem dX9_tell_17 : decode cX9_tell 17 = .ok (.invokevirtual 302, 3) := by decide +kernel
theorem dX9_tell_20 : decode cX9_tell 20 = .ok (.ifCond .ne 15, 3) := by decide +kernel
theorem dX9_tell_23 : decode cX9_tell 23 = .ok (.aload_n 0, 1) := by decide +kernel
theorem dX9_tell_24 : decode cX9_tell 24 = .ok (.dup, 1) := by decide +kernel
theorem dX9_tell_25 : decode cX9_tell 25 = .ok (.getfield 155, 3) := by decide +kernel
theorem dX9_tell_28 : decode cX9_tell 28 = .ok (.iconst 1, 1) := by decide +kernel
theorem dX9_tell_29 : decode cX9_tell 29 = .ok (.iadd, 1) := by decide +kernel
theorem dX9_tell_30 : decode cX9_tell 30 = .ok (.putfield 155, 3) := by decide +kernel
theorem dX9_tell_33 : decode cX9_tell 33 = .ok (.iconst (-1), 1) := by decide +kernel
theorem dX9_tell_34 : decode cX9_tell 34 = .ok (.ireturn, 1) := by decide +kernel
theorem dX9_tell_35 : decode cX9_tell 35 = .ok (.aload_n 0, 1) := by decide +kernel
theorem dX9_tell_36 : decode cX9_tell 36 = .ok (.getfield 61, 3) := by decide +kernel
theorem dX9_tell_39 : decode cX9_tell 39 = .ok (.getfield 158, 3) := by decide +kernel
theorem dX9_tell_42 : decode cX9_tell 42 = .ok (.invokestatic 161, 3) := by decide +kernel
theorem dX9_tell_45 : decode cX9_tell 45 = .ok (.ireturn, 1) := by decide +kernel
theorem dX9_thing_0 : decode cX9_thing 0 = .ok (.aload_n 0, 1) := by decide +kernel
theorem dX9_thing_1 : decode cX9_thing 1 = .ok (.iload_n 1, 1) := by decide +kernel
theorem dX9_thing_2 : decode cX9_thing 2 = .ok (.invokevirtual 190, 3) := by decide +kernel
theorem dX9_thing_5 : decode cX9_thing 5 = .ok (.iload_n 2, 1) := by decide +kernel
theorem dX9_thing_6 : decode cX9_thing 6 = .ok (.tableswitch 104 0 4 #[34, 44, 54, 64, 84], 34) := by decide +kernel
theorem dX9_thing_40 : decode cX9_thing 40 = .ok (.aload_n 0, 1) := by decide +kernel
theorem dX9_thing_41 : decode cX9_thing 41 = .ok (.getfield 16, 3) := by decide +kernel
theorem dX9_thing_44 : decode cX9_thing 44 = .ok (.getfield 193, 3) := by decide +kernel
theorem dX9_thing_47 : decode cX9_thing 47 = .ok (.iload_n 1, 1) := by decide +kernel
theorem dX9_thing_48 : decode cX9_thing 48 = .ok (.iaload, 1) := by decide +kernel
theorem dX9_thing_49 : decode cX9_thing 49 = .ok (.ireturn, 1) := by decide +kernel
theorem dX9_thing_50 : decode cX9_thing 50 = .ok (.aload_n 0, 1) := by decide +kernel
theorem dX9_thing_51 : decode cX9_thing 51 = .ok (.getfield 16, 3) := by decide +kernel
theorem dX9_thing_54 : decode cX9_thing 54 = .ok (.getfield 197, 3) := by decide +kernel
theorem dX9_thing_57 : decode cX9_thing 57 = .ok (.iload_n 1, 1) := by decide +kernel
theorem dX9_thing_58 : decode cX9_thing 58 = .ok (.iaload, 1) := by decide +kernel
theorem dX9_thing_59 : decode cX9_thing 59 = .ok (.ireturn, 1) := by decide +kernel
theorem dX9_thing_60 : decode cX9_thing 60 = .ok (.aload_n 0, 1) := by decide +kernel
theorem dX9_thing_61 : decode cX9_thing 61 = .ok (.getfield 16, 3) := by decide +kernel
theorem dX9_thing_64 : decode cX9_thing 64 = .ok (.getfield 200, 3) := by decide +kernel
theorem dX9_thing_67 : decode cX9_thing 67 = .ok (.iload_n 1, 1) := by decide +kernel
theorem dX9_thing_68 : decode cX9_thing 68 = .ok (.iaload, 1) := by decide +kernel
theorem dX9_thing_69 : decode cX9_thing 69 = .ok (.ireturn, 1) := by decide +kernel
theorem dX9_thing_70 : decode cX9_thing 70 = .ok (.aload_n 0, 1) := by decide +kernel
theorem dX9_thing_71 : decode cX9_thing 71 = .ok (.getfield 16, 3) := by decide +kernel
theorem dX9_thing_74 : decode cX9_thing 74 = .ok (.getfield 203, 3) := by decide +kernel
theorem dX9_thing_77 : decode cX9_thing 77 = .ok (.iload_n 1, 1) := by decide +kernel
theorem dX9_thing_78 : decode cX9_thing 78 = .ok (.invokestatic 206, 3) := by decide +kernel
theorem dX9_thing_81 : decode cX9_thing 81 = .ok (.ifCond .eq 7, 3) := by decide +kernel
theorem dX9_thing_84 : decode cX9_thing 84 = .ok (.iconst 1, 1) := by decide +kernel
theorem dX9_thing_85 : decode cX9_thing 85 = .ok (.goto 4, 3) := by decide +kernel
theorem dX9_thing_88 : decode cX9_thing 88 = .ok (.iconst 0, 1) := by decide +kernel
theorem dX9_thing_89 : decode cX9_thing 89 = .ok (.ireturn, 1) := by decide +kernel
theorem dX9_thing_90 : decode cX9_thing 90 = .ok (.aload_n 0, 1) := by decide +kernel
theorem dX9_thing_91 : decode cX9_thing 91 = .ok (.getfield 16, 3) := by decide +kernel
theorem dX9_thing_94 : decode cX9_thing 94 = .ok (.getfield 210, 3) := by decide +kernel
theorem dX9_thing_97 : decode cX9_thing 97 = .ok (.iload_n 1, 1) := by decide +kernel
theorem dX9_thing_98 : decode cX9_thing 98 = .ok (.invokestatic 206, 3) := by decide +kernel
theorem dX9_thing_101 : decode cX9_thing 101 = .ok (.ifCond .eq 7, 3) := by decide +kernel
theorem dX9_thing_104 : decode cX9_thing 104 = .ok (.iconst 1, 1) := by decide +kernel
theorem dX9_thing_105 : decode cX9_thing 105 = .ok (.goto 4, 3) := by decide +kernel
theorem dX9_thing_108 : decode cX9_thing 108 = .ok (.iconst 0, 1) := by decide +kernel
theorem dX9_thing_109 : decode cX9_thing 109 = .ok (.ireturn, 1) := by decide +kernel
theorem dX9_thing_110 : decode cX9_thing 110 = .ok (.new 167, 3) := by decide +kernel
theorem dX9_thing_113 : decode cX9_thing 113 = .ok (.dup, 1) := by decide +kernel
theorem dX9_thing_114 : decode cX9_thing 114 = .ok (.invokespecial 169, 3) := by decide +kernel
theorem dX9_thing_117 : decode cX9_thing 117 = .ok (.athrow, 1) := by decide +kernel
theorem dX9_unsay_0 : decode cX9_unsay 0 = .ok (.aload_n 0, 1) := by decide +kernel
theorem dX9_unsay_1 : decode cX9_unsay 1 = .ok (.getfield 49, 3) := by decide +kernel
theorem dX9_unsay_4 : decode cX9_unsay 4 = .ok (.getfield 111, 3) := by decide +kernel
theorem dX9_unsay_7 : decode cX9_unsay 7 = .ok (.ifCond .ne 5, 3) := by decide +kernel
theorem dX9_unsay_10 : decode cX9_unsay 10 = .ok (.iconst (-1), 1) := by decide +kernel
theorem dX9_unsay_11 : decode cX9_unsay 11 = .ok (.ireturn, 1) := by decide +kernel
theorem dX9_unsay_12 : decode cX9_unsay 12 = .ok (.aload_n 0, 1) := by decide +kernel
theorem dX9_unsay_13 : decode cX9_unsay 13 = .ok (.getfield 49, 3) := by decide +kernel
theorem dX9_unsay_16 : decode cX9_unsay 16 = .ok (.dup, 1) := by decide +kernel
theorem dX9_unsay_17 : decode cX9_unsay 17 = .ok (.getfield 111, 3) := by decide +kernel
theorem dX9_unsay_20 : decode cX9_unsay 20 = .ok (.iconst 1, 1) := by decide +kernel
theorem dX9_unsay_21 : decode cX9_unsay 21 = .ok (.isub, 1) := by decide +kernel
theorem dX9_unsay_22 : decode cX9_unsay 22 = .ok (.putfield 111, 3) := by decide +kernel
theorem dX9_unsay_25 : decode cX9_unsay 25 = .ok (.aload_n 0, 1) := by decide +kernel
theorem dX9_unsay_26 : decode cX9_unsay 26 = .ok (.getfield 73, 3) := by decide +kernel
theorem dX9_unsay_29 : decode cX9_unsay 29 = .ok (.invokevirtual 122, 3) := by decide +kernel
theorem dX9_unsay_32 : decode cX9_unsay 32 = .ok (.aload_n 0, 1) := by decide +kernel
theorem dX9_unsay_33 : decode cX9_unsay 33 = .ok (.getfield 49, 3) := by decide +kernel
theorem dX9_unsay_36 : decode cX9_unsay 36 = .ok (.getfield 111, 3) := by decide +kernel
theorem dX9_unsay_39 : decode cX9_unsay 39 = .ok (.ireturn, 1) := by decide +kernel
theorem dX9_isBlank_0 : decode cX9_isBlank 0 = .ok (.iload_n 0, 1) := by decide +kernel
theorem dX9_isBlank_1 : decode cX9_isBlank 1 = .ok (.bipush 32, 2) := by decide +kernel
theorem dX9_isBlank_3 : decode cX9_isBlank 3 = .ok (.if_icmp .eq 9, 3) := by decide +kernel
theorem dX9_isBlank_6 : decode cX9_isBlank 6 = .ok (.iload_n 0, 1) := by decide +kernel
theorem dX9_isBlank_7 : decode cX9_isBlank 7 = .ok (.bipush 10, 2) := by decide +kernel
theorem dX9_isBlank_9 : decode cX9_isBlank 9 = .ok (.if_icmp .ne 7, 3) := by decide +kernel
theorem dX9_isBlank_12 : decode cX9_isBlank 12 = .ok (.iconst 1, 1) := by decide +kernel
theorem dX9_isBlank_13 : decode cX9_isBlank 13 = .ok (.goto 4, 3) := by decide +kernel
theorem dX9_isBlank_16 : decode cX9_isBlank 16 = .ok (.iconst 0, 1) := by decide +kernel
theorem dX9_isBlank_17 : decode cX9_isBlank 17 = .ok (.ireturn, 1) := by decide +kernel
theorem dX7_skipBlanks_0 : decode cX7_skipBlanks 0 = .ok (.aload_n 0, 1) := by decide +kernel
theorem dX7_skipBlanks_1 : decode cX7_skipBlanks 1 = .ok (.getfield 22, 3) := by decide +kernel
theorem dX7_skipBlanks_4 : decode cX7_skipBlanks 4 = .ok (.aload_n 0, 1) := by decide +kernel
theorem dX7_skipBlanks_5 : decode cX7_skipBlanks 5 = .ok (.getfield 32, 3) := by decide +kernel
theorem dX7_skipBlanks_8 : decode cX7_skipBlanks 8 = .ok (.if_icmp .ge 31, 3) := by decide +kernel
theorem dX7_skipBlanks_11 : decode cX7_skipBlanks 11 = .ok (.aload_n 0, 1) := by decide +kernel
theorem dX7_skipBlanks_12 : decode cX7_skipBlanks 12 = .ok (.getfield 18, 3) := by decide +kernel
theorem dX7_skipBlanks_15 : decode cX7_skipBlanks 15 = .ok (.aload_n 0, 1) := by decide +kernel
theorem dX7_skipBlanks_16 : decode cX7_skipBlanks 16 = .ok (.getfield 22, 3) := by decide +kernel
theorem dX7_skipBlanks_19 : decode cX7_skipBlanks 19 = .ok (.baload, 1) := by decide +kernel
theorem dX7_skipBlanks_20 : decode cX7_skipBlanks 20 = .ok (.invokestatic 83, 3) := by decide +kernel
theorem dX7_skipBlanks_23 : decode cX7_skipBlanks 23 = .ok (.ifCond .eq 16, 3) := by decide +kernel
theorem dX7_skipBlanks_26 : decode cX7_skipBlanks 26 = .ok (.aload_n 0, 1) := by decide +kernel
theorem dX7_skipBlanks_27 : decode cX7_skipBlanks 27 = .ok (.dup, 1) := by decide +kernel
theorem dX7_skipBlanks_28 : decode cX7_skipBlanks 28 = .ok (.getfield 22, 3) := by decide +kernel
theorem dX7_skipBlanks_31 : decode cX7_skipBlanks 31 = .ok (.iconst 1, 1) := by decide +kernel
theorem dX7_skipBlanks_32 : decode cX7_skipBlanks 32 = .ok (.iadd, 1) := by decide +kernel
theorem dX7_skipBlanks_33 : decode cX7_skipBlanks 33 = .ok (.putfield 22, 3) := by decide +kernel
theorem dX7_skipBlanks_36 : decode cX7_skipBlanks 36 = .ok (.goto (-36), 3) := by decide +kernel
theorem dX7_skipBlanks_39 : decode cX7_skipBlanks 39 = .ok (.return_, 1) := by decide +kernel
theorem dX9_isLetter_0 : decode cX9_isLetter 0 = .ok (.iload_n 0, 1) := by decide +kernel
theorem dX9_isLetter_1 : decode cX9_isLetter 1 = .ok (.bipush 97, 2) := by decide +kernel
theorem dX9_isLetter_3 : decode cX9_isLetter 3 = .ok (.if_icmp .lt 13, 3) := by decide +kernel
theorem dX9_isLetter_6 : decode cX9_isLetter 6 = .ok (.iload_n 0, 1) := by decide +kernel
theorem dX9_isLetter_7 : decode cX9_isLetter 7 = .ok (.bipush 122, 2) := by decide +kernel
theorem dX9_isLetter_9 : decode cX9_isLetter 9 = .ok (.if_icmp .gt 7, 3) := by decide +kernel
theorem dX9_isLetter_12 : decode cX9_isLetter 12 = .ok (.iconst 1, 1) := by decide +kernel
theorem dX9_isLetter_13 : decode cX9_isLetter 13 = .ok (.goto 4, 3) := by decide +kernel
theorem dX9_isLetter_16 : decode cX9_isLetter 16 = .ok (.iconst 0, 1) := by decide +kernel
theorem dX9_isLetter_17 : decode cX9_isLetter 17 = .ok (.ireturn, 1) := by decide +kernel
theorem dX7_takeWord_0 : decode cX7_takeWord 0 = .ok (.aload_n 0, 1) := by decide +kernel
theorem dX7_takeWord_1 : decode cX7_takeWord 1 = .ok (.getfield 22, 3) := by decide +kernel
theorem dX7_takeWord_4 : decode cX7_takeWord 4 = .ok (.istore_n 1, 1) := by decide +kernel
theorem dX7_takeWord_5 : decode cX7_takeWord 5 = .ok (.aload_n 0, 1) := by decide +kernel
theorem dX7_takeWord_6 : decode cX7_takeWord 6 = .ok (.getfield 22, 3) := by decide +kernel
theorem dX7_takeWord_9 : decode cX7_takeWord 9 = .ok (.aload_n 0, 1) := by decide +kernel
theorem dX7_takeWord_10 : decode cX7_takeWord 10 = .ok (.getfield 32, 3) := by decide +kernel
theorem dX7_takeWord_13 : decode cX7_takeWord 13 = .ok (.if_icmp .ge 31, 3) := by decide +kernel
theorem dX7_takeWord_16 : decode cX7_takeWord 16 = .ok (.aload_n 0, 1) := by decide +kernel
theorem dX7_takeWord_17 : decode cX7_takeWord 17 = .ok (.getfield 18, 3) := by decide +kernel
theorem dX7_takeWord_20 : decode cX7_takeWord 20 = .ok (.aload_n 0, 1) := by decide +kernel
theorem dX7_takeWord_21 : decode cX7_takeWord 21 = .ok (.getfield 22, 3) := by decide +kernel
theorem dX7_takeWord_24 : decode cX7_takeWord 24 = .ok (.baload, 1) := by decide +kernel
theorem dX7_takeWord_25 : decode cX7_takeWord 25 = .ok (.invokestatic 87, 3) := by decide +kernel
theorem dX7_takeWord_28 : decode cX7_takeWord 28 = .ok (.ifCond .eq 16, 3) := by decide +kernel
theorem dX7_takeWord_31 : decode cX7_takeWord 31 = .ok (.aload_n 0, 1) := by decide +kernel
theorem dX7_takeWord_32 : decode cX7_takeWord 32 = .ok (.dup, 1) := by decide +kernel
theorem dX7_takeWord_33 : decode cX7_takeWord 33 = .ok (.getfield 22, 3) := by decide +kernel
theorem dX7_takeWord_36 : decode cX7_takeWord 36 = .ok (.iconst 1, 1) := by decide +kernel
theorem dX7_takeWord_37 : decode cX7_takeWord 37 = .ok (.iadd, 1) := by decide +kernel
theorem dX7_takeWord_38 : decode cX7_takeWord 38 = .ok (.putfield 22, 3) := by decide +kernel
theorem dX7_takeWord_41 : decode cX7_takeWord 41 = .ok (.goto (-36), 3) := by decide +kernel
theorem dX7_takeWord_44 : decode cX7_takeWord 44 = .ok (.aload_n 0, 1) := by decide +kernel
theorem dX7_takeWord_45 : decode cX7_takeWord 45 = .ok (.getfield 22, 3) := by decide +kernel
theorem dX7_takeWord_48 : decode cX7_takeWord 48 = .ok (.iload_n 1, 1) := by decide +kernel
theorem dX7_takeWord_49 : decode cX7_takeWord 49 = .ok (.isub, 1) := by decide +kernel
theorem dX7_takeWord_50 : decode cX7_takeWord 50 = .ok (.ireturn, 1) := by decide +kernel
theorem dX6_thingOfStem_0 : decode cX6_thingOfStem 0 = .ok (.iconst 0, 1) := by decide +kernel
theorem dX6_thingOfStem_1 : decode cX6_thingOfStem 1 = .ok (.istore_n 2, 1) := by decide +kernel
theorem dX6_thingOfStem_2 : decode cX6_thingOfStem 2 = .ok (.iload_n 2, 1) := by decide +kernel
theorem dX6_thingOfStem_3 : decode cX6_thingOfStem 3 = .ok (.aload_n 0, 1) := by decide +kernel
theorem dX6_thingOfStem_4 : decode cX6_thingOfStem 4 = .ok (.getfield 53, 3) := by decide +kernel
theorem dX6_thingOfStem_7 : decode cX6_thingOfStem 7 = .ok (.if_icmp .ge 21, 3) := by decide +kernel
theorem dX6_thingOfStem_10 : decode cX6_thingOfStem 10 = .ok (.aload_n 0, 1) := by decide +kernel
theorem dX6_thingOfStem_11 : decode cX6_thingOfStem 11 = .ok (.getfield 29, 3) := by decide +kernel
theorem dX6_thingOfStem_14 : decode cX6_thingOfStem 14 = .ok (.iload_n 2, 1) := by decide +kernel
theorem dX6_thingOfStem_15 : decode cX6_thingOfStem 15 = .ok (.iaload, 1) := by decide +kernel
theorem dX6_thingOfStem_16 : decode cX6_thingOfStem 16 = .ok (.iload_n 1, 1) := by decide +kernel
theorem dX6_thingOfStem_17 : decode cX6_thingOfStem 17 = .ok (.if_icmp .ne 5, 3) := by decide +kernel
theorem dX6_thingOfStem_20 : decode cX6_thingOfStem 20 = .ok (.iload_n 2, 1) := by decide +kernel
theorem dX6_thingOfStem_21 : decode cX6_thingOfStem 21 = .ok (.ireturn, 1) := by decide +kernel
theorem dX6_thingOfStem_22 : decode cX6_thingOfStem 22 = .ok (.iinc 2 1, 3) := by decide +kernel
theorem dX6_thingOfStem_25 : decode cX6_thingOfStem 25 = .ok (.goto (-23), 3) := by decide +kernel
theorem dX6_thingOfStem_28 : decode cX6_thingOfStem 28 = .ok (.iconst (-1), 1) := by decide +kernel
theorem dX6_thingOfStem_29 : decode cX6_thingOfStem 29 = .ok (.ireturn, 1) := by decide +kernel
theorem dX7_isOneWay_0 : decode cX7_isOneWay 0 = .ok (.aload_n 0, 1) := by decide +kernel
theorem dX7_isOneWay_1 : decode cX7_isOneWay 1 = .ok (.getfield 12, 3) := by decide +kernel
theorem dX7_isOneWay_4 : decode cX7_isOneWay 4 = .ok (.getfield 66, 3) := by decide +kernel
theorem dX7_isOneWay_7 : decode cX7_isOneWay 7 = .ok (.iconst 1, 1) := by decide +kernel
theorem dX7_isOneWay_8 : decode cX7_isOneWay 8 = .ok (.if_icmp .eq 5, 3) := by decide +kernel
theorem dX7_isOneWay_11 : decode cX7_isOneWay 11 = .ok (.iconst 0, 1) := by decide +kernel
theorem dX7_isOneWay_12 : decode cX7_isOneWay 12 = .ok (.ireturn, 1) := by decide +kernel
theorem dX7_isOneWay_13 : decode cX7_isOneWay 13 = .ok (.aload_n 0, 1) := by decide +kernel
theorem dX7_isOneWay_14 : decode cX7_isOneWay 14 = .ok (.getfield 12, 3) := by decide +kernel
theorem dX7_isOneWay_17 : decode cX7_isOneWay 17 = .ok (.getfield 69, 3) := by decide +kernel
theorem dX7_isOneWay_20 : decode cX7_isOneWay 20 = .ok (.iconst 0, 1) := by decide +kernel
theorem dX7_isOneWay_21 : decode cX7_isOneWay 21 = .ok (.iaload, 1) := by decide +kernel
theorem dX7_isOneWay_22 : decode cX7_isOneWay 22 = .ok (.istore_n 2, 1) := by decide +kernel
theorem dX7_isOneWay_23 : decode cX7_isOneWay 23 = .ok (.aload_n 0, 1) := by decide +kernel
theorem dX7_isOneWay_24 : decode cX7_isOneWay 24 = .ok (.iload_n 2, 1) := by decide +kernel
theorem dX7_isOneWay_25 : decode cX7_isOneWay 25 = .ok (.iconst 5, 1) := by decide +kernel
theorem dX7_isOneWay_26 : decode cX7_isOneWay 26 = .ok (.irem, 1) := by decide +kernel
theorem dX7_isOneWay_27 : decode cX7_isOneWay 27 = .ok (.putfield 73, 3) := by decide +kernel
theorem dX7_isOneWay_30 : decode cX7_isOneWay 30 = .ok (.aload_n 0, 1) := by decide +kernel
theorem dX7_isOneWay_31 : decode cX7_isOneWay 31 = .ok (.aload_n 1, 1) := by decide +kernel
theorem dX7_isOneWay_32 : decode cX7_isOneWay 32 = .ok (.iload_n 2, 1) := by decide +kernel
theorem dX7_isOneWay_33 : decode cX7_isOneWay 33 = .ok (.bipush 15, 2) := by decide +kernel
theorem dX7_isOneWay_35 : decode cX7_isOneWay 35 = .ok (.idiv, 1) := by decide +kernel
theorem dX7_isOneWay_36 : decode cX7_isOneWay 36 = .ok (.invokevirtual 76, 3) := by decide +kernel
theorem dX7_isOneWay_39 : decode cX7_isOneWay 39 = .ok (.putfield 80, 3) := by decide +kernel
theorem dX7_isOneWay_42 : decode cX7_isOneWay 42 = .ok (.iload_n 2, 1) := by decide +kernel
theorem dX7_isOneWay_43 : decode cX7_isOneWay 43 = .ok (.iconst 5, 1) := by decide +kernel
theorem dX7_isOneWay_44 : decode cX7_isOneWay 44 = .ok (.idiv, 1) := by decide +kernel
theorem dX7_isOneWay_45 : decode cX7_isOneWay 45 = .ok (.iconst 3, 1) := by decide +kernel
theorem dX7_isOneWay_46 : decode cX7_isOneWay 46 = .ok (.irem, 1) := by decide +kernel
theorem dX7_isOneWay_47 : decode cX7_isOneWay 47 = .ok (.iconst 2, 1) := by decide +kernel
theorem dX7_isOneWay_48 : decode cX7_isOneWay 48 = .ok (.if_icmp .ne 15, 3) := by decide +kernel
theorem dX7_isOneWay_51 : decode cX7_isOneWay 51 = .ok (.aload_n 0, 1) := by decide +kernel
theorem dX7_isOneWay_52 : decode cX7_isOneWay 52 = .ok (.getfield 80, 3) := by decide +kernel
theorem dX7_isOneWay_55 : decode cX7_isOneWay 55 = .ok (.iconst (-1), 1) := by decide +kernel
theorem dX7_isOneWay_56 : decode cX7_isOneWay 56 = .ok (.if_icmp .eq 7, 3) := by decide +kernel
theorem dX7_isOneWay_59 : decode cX7_isOneWay 59 = .ok (.iconst 1, 1) := by decide +kernel
theorem dX7_isOneWay_60 : decode cX7_isOneWay 60 = .ok (.goto 4, 3) := by decide +kernel
theorem dX7_isOneWay_63 : decode cX7_isOneWay 63 = .ok (.iconst 0, 1) := by decide +kernel
theorem dX7_isOneWay_64 : decode cX7_isOneWay 64 = .ok (.ireturn, 1) := by decide +kernel
theorem dX5_hasNot_0 : decode cX5_hasNot 0 = .ok (.aload_n 0, 1) := by decide +kernel
theorem dX5_hasNot_1 : decode cX5_hasNot 1 = .ok (.getfield 15, 3) := by decide +kernel
theorem dX5_hasNot_4 : decode cX5_hasNot 4 = .ok (.bipush 45, 2) := by decide +kernel
theorem dX5_hasNot_6 : decode cX5_hasNot 6 = .ok (.iaload, 1) := by decide +kernel
theorem dX5_hasNot_7 : decode cX5_hasNot 7 = .ok (.ifCond .le 7, 3) := by decide +kernel
theorem dX5_hasNot_10 : decode cX5_hasNot 10 = .ok (.iconst 1, 1) := by decide +kernel
theorem dX5_hasNot_11 : decode cX5_hasNot 11 = .ok (.goto 4, 3) := by decide +kernel
theorem dX5_hasNot_14 : decode cX5_hasNot 14 = .ok (.iconst 0, 1) := by decide +kernel
theorem dX5_hasNot_15 : decode cX5_hasNot 15 = .ok (.ireturn, 1) := by decide +kernel
theorem dX5_isNot_0 : decode cX5_isNot 0 = .ok (.aload_n 0, 1) := by decide +kernel
theorem dX5_isNot_1 : decode cX5_isNot 1 = .ok (.invokevirtual 66, 3) := by decide +kernel
theorem dX5_isNot_4 : decode cX5_isNot 4 = .ok (.ifCond .eq 34, 3) := by decide +kernel
theorem dX5_isNot_7 : decode cX5_isNot 7 = .ok (.iload_n 3, 1) := by decide +kernel
theorem dX5_isNot_8 : decode cX5_isNot 8 = .ok (.aload_n 0, 1) := by decide +kernel
theorem dX5_isNot_9 : decode cX5_isNot 9 = .ok (.getfield 15, 3) := by decide +kernel
theorem dX5_isNot_12 : decode cX5_isNot 12 = .ok (.bipush 45, 2) := by decide +kernel
theorem dX5_isNot_14 : decode cX5_isNot 14 = .ok (.iaload, 1) := by decide +kernel
theorem dX5_isNot_15 : decode cX5_isNot 15 = .ok (.if_icmp .ne 23, 3) := by decide +kernel
theorem dX5_isNot_18 : decode cX5_isNot 18 = .ok (.aload_n 0, 1) := by decide +kernel
theorem dX5_isNot_19 : decode cX5_isNot 19 = .ok (.getfield 11, 3) := by decide +kernel
theorem dX5_isNot_22 : decode cX5_isNot 22 = .ok (.sipush 360, 3) := by decide +kernel
theorem dX5_isNot_25 : decode cX5_isNot 25 = .ok (.aload_n 1, 1) := by decide +kernel
theorem dX5_isNot_26 : decode cX5_isNot 26 = .ok (.iload_n 2, 1) := by decide +kernel
theorem dX5_isNot_27 : decode cX5_isNot 27 = .ok (.iload_n 3, 1) := by decide +kernel
theorem dX5_isNot_28 : decode cX5_isNot 28 = .ok (.invokestatic 45, 3) := by decide +kernel
theorem dX5_isNot_31 : decode cX5_isNot 31 = .ok (.ifCond .eq 7, 3) := by decide +kernel
theorem dX5_isNot_34 : decode cX5_isNot 34 = .ok (.iconst 1, 1) := by decide +kernel
theorem dX5_isNot_35 : decode cX5_isNot 35 = .ok (.goto 4, 3) := by decide +kernel
theorem dX5_isNot_38 : decode cX5_isNot 38 = .ok (.iconst 0, 1) := by decide +kernel
theorem dX5_isNot_39 : decode cX5_isNot 39 = .ok (.ireturn, 1) := by decide +kernel
theorem dX7_isClear_0 : decode cX7_isClear 0 = .ok (.aload_n 0, 1) := by decide +kernel
theorem dX7_isClear_1 : decode cX7_isClear 1 = .ok (.iconst 0, 1) := by decide +kernel
theorem dX7_isClear_2 : decode cX7_isClear 2 = .ok (.putfield 22, 3) := by decide +kernel
theorem dX7_isClear_5 : decode cX7_isClear 5 = .ok (.aload_n 0, 1) := by decide +kernel
theorem dX7_isClear_6 : decode cX7_isClear 6 = .ok (.iload_n 1, 1) := by decide +kernel
theorem dX7_isClear_7 : decode cX7_isClear 7 = .ok (.aload_n 0, 1) := by decide +kernel
theorem dX7_isClear_8 : decode cX7_isClear 8 = .ok (.getfield 18, 3) := by decide +kernel
theorem dX7_isClear_11 : decode cX7_isClear 11 = .ok (.arraylength, 1) := by decide +kernel
theorem dX7_isClear_12 : decode cX7_isClear 12 = .ok (.invokestatic 26, 3) := by decide +kernel
theorem dX7_isClear_15 : decode cX7_isClear 15 = .ok (.putfield 32, 3) := by decide +kernel
theorem dX7_isClear_18 : decode cX7_isClear 18 = .ok (.aload_n 0, 1) := by decide +kernel
theorem dX7_isClear_19 : decode cX7_isClear 19 = .ok (.iconst 0, 1) := by decide +kernel
theorem dX7_isClear_20 : decode cX7_isClear 20 = .ok (.putfield 35, 3) := by decide +kernel
theorem dX7_isClear_23 : decode cX7_isClear 23 = .ok (.aload_n 0, 1) := by decide +kernel
theorem dX7_isClear_24 : decode cX7_isClear 24 = .ok (.invokevirtual 39, 3) := by decide +kernel
theorem dX7_isClear_27 : decode cX7_isClear 27 = .ok (.aload_n 0, 1) := by decide +kernel
theorem dX7_isClear_28 : decode cX7_isClear 28 = .ok (.getfield 22, 3) := by decide +kernel
theorem dX7_isClear_31 : decode cX7_isClear 31 = .ok (.istore_n 3, 1) := by decide +kernel
theorem dX7_isClear_32 : decode cX7_isClear 32 = .ok (.aload_n 0, 1) := by decide +kernel
theorem dX7_isClear_33 : decode cX7_isClear 33 = .ok (.invokevirtual 42, 3) := by decide +kernel
theorem dX7_isClear_36 : decode cX7_isClear 36 = .ok (.istore 4, 2) := by decide +kernel
theorem dX7_isClear_38 : decode cX7_isClear 38 = .ok (.aload_n 0, 1) := by decide +kernel
theorem dX7_isClear_39 : decode cX7_isClear 39 = .ok (.invokevirtual 39, 3) := by decide +kernel
theorem dX7_isClear_42 : decode cX7_isClear 42 = .ok (.aload_n 0, 1) := by decide +kernel
theorem dX7_isClear_43 : decode cX7_isClear 43 = .ok (.getfield 22, 3) := by decide +kernel
theorem dX7_isClear_46 : decode cX7_isClear 46 = .ok (.aload_n 0, 1) := by decide +kernel
theorem dX7_isClear_47 : decode cX7_isClear 47 = .ok (.getfield 32, 3) := by decide +kernel
theorem dX7_isClear_50 : decode cX7_isClear 50 = .ok (.if_icmp .ge 42, 3) := by decide +kernel
theorem dX7_isClear_53 : decode cX7_isClear 53 = .ok (.aload_n 0, 1) := by decide +kernel
theorem dX7_isClear_54 : decode cX7_isClear 54 = .ok (.iconst 1, 1) := by decide +kernel
theorem dX7_isClear_55 : decode cX7_isClear 55 = .ok (.putfield 35, 3) := by decide +kernel
theorem dX7_isClear_58 : decode cX7_isClear 58 = .ok (.aload_n 2, 1) := by decide +kernel
theorem dX7_isClear_59 : decode cX7_isClear 59 = .ok (.getfield 46, 3) := by decide +kernel
theorem dX7_isClear_62 : decode cX7_isClear 62 = .ok (.aload_n 0, 1) := by decide +kernel
theorem dX7_isClear_63 : decode cX7_isClear 63 = .ok (.getfield 18, 3) := by decide +kernel
theorem dX7_isClear_66 : decode cX7_isClear 66 = .ok (.iload_n 3, 1) := by decide +kernel
theorem dX7_isClear_67 : decode cX7_isClear 67 = .ok (.iload 4, 2) := by decide +kernel
theorem dX7_isClear_69 : decode cX7_isClear 69 = .ok (.invokevirtual 52, 3) := by decide +kernel
theorem dX7_isClear_72 : decode cX7_isClear 72 = .ok (.ifCond .ne 5, 3) := by decide +kernel
theorem dX7_isClear_75 : decode cX7_isClear 75 = .ok (.iconst 0, 1) := by decide +kernel
theorem dX7_isClear_76 : decode cX7_isClear 76 = .ok (.ireturn, 1) := by decide +kernel
theorem dX7_isClear_77 : decode cX7_isClear 77 = .ok (.aload_n 0, 1) := by decide +kernel
theorem dX7_isClear_78 : decode cX7_isClear 78 = .ok (.getfield 22, 3) := by decide +kernel
theorem dX7_isClear_81 : decode cX7_isClear 81 = .ok (.istore_n 3, 1) := by decide +kernel
theorem dX7_isClear_82 : decode cX7_isClear 82 = .ok (.aload_n 0, 1) := by decide +kernel
theorem dX7_isClear_83 : decode cX7_isClear 83 = .ok (.invokevirtual 42, 3) := by decide +kernel
theorem dX7_isClear_86 : decode cX7_isClear 86 = .ok (.istore 4, 2) := by decide +kernel
theorem dX7_isClear_88 : decode cX7_isClear 88 = .ok (.aload_n 0, 1) := by decide +kernel
theorem dX7_isClear_89 : decode cX7_isClear 89 = .ok (.invokevirtual 39, 3) := by decide +kernel
theorem dX7_isClear_92 : decode cX7_isClear 92 = .ok (.iload 4, 2) := by decide +kernel
theorem dX7_isClear_94 : decode cX7_isClear 94 = .ok (.ifCond .eq 14, 3) := by decide +kernel
theorem dX7_isClear_97 : decode cX7_isClear 97 = .ok (.aload_n 0, 1) := by decide +kernel
theorem dX7_isClear_98 : decode cX7_isClear 98 = .ok (.getfield 22, 3) := by decide +kernel
theorem dX7_isClear_101 : decode cX7_isClear 101 = .ok (.aload_n 0, 1) := by decide +kernel
theorem dX7_isClear_102 : decode cX7_isClear 102 = .ok (.getfield 32, 3) := by decide +kernel
theorem dX7_isClear_105 : decode cX7_isClear 105 = .ok (.if_icmp .ge 5, 3) := by decide +kernel
theorem dX7_isClear_108 : decode cX7_isClear 108 = .ok (.iconst 0, 1) := by decide +kernel
theorem dX7_isClear_109 : decode cX7_isClear 109 = .ok (.ireturn, 1) := by decide +kernel
theorem dX7_isClear_110 : decode cX7_isClear 110 = .ok (.aload_n 0, 1) := by decide +kernel
theorem dX7_isClear_111 : decode cX7_isClear 111 = .ok (.getfield 12, 3) := by decide +kernel
theorem dX7_isClear_114 : decode cX7_isClear 114 = .ok (.aload_n 2, 1) := by decide +kernel
theorem dX7_isClear_115 : decode cX7_isClear 115 = .ok (.getfield 46, 3) := by decide +kernel
theorem dX7_isClear_118 : decode cX7_isClear 118 = .ok (.aload_n 0, 1) := by decide +kernel
theorem dX7_isClear_119 : decode cX7_isClear 119 = .ok (.getfield 18, 3) := by decide +kernel
theorem dX7_isClear_122 : decode cX7_isClear 122 = .ok (.iload_n 3, 1) := by decide +kernel
theorem dX7_isClear_123 : decode cX7_isClear 123 = .ok (.iload 4, 2) := by decide +kernel
theorem dX7_isClear_125 : decode cX7_isClear 125 = .ok (.invokevirtual 58, 3) := by decide +kernel
theorem dX7_isClear_128 : decode cX7_isClear 128 = .ok (.aload_n 0, 1) := by decide +kernel
theorem dX7_isClear_129 : decode cX7_isClear 129 = .ok (.aload_n 2, 1) := by decide +kernel
theorem dX7_isClear_130 : decode cX7_isClear 130 = .ok (.invokevirtual 62, 3) := by decide +kernel
theorem dX7_isClear_133 : decode cX7_isClear 133 = .ok (.ireturn, 1) := by decide +kernel
theorem dX9_utter_0 : decode cX9_utter 0 = .ok (.aload_n 0, 1) := by decide +kernel
theorem dX9_utter_1 : decode cX9_utter 1 = .ok (.iload_n 1, 1) := by decide +kernel
theorem dX9_utter_2 : decode cX9_utter 2 = .ok (.invokevirtual 170, 3) := by decide +kernel
theorem dX9_utter_5 : decode cX9_utter 5 = .ok (.aload_n 0, 1) := by decide +kernel
theorem dX9_utter_6 : decode cX9_utter 6 = .ok (.iload_n 2, 1) := by decide +kernel
theorem dX9_utter_7 : decode cX9_utter 7 = .ok (.invokevirtual 173, 3) := by decide +kernel
theorem dX9_utter_10 : decode cX9_utter 10 = .ok (.aload_n 0, 1) := by decide +kernel
theorem dX9_utter_11 : decode cX9_utter 11 = .ok (.iload_n 3, 1) := by decide +kernel
theorem dX9_utter_12 : decode cX9_utter 12 = .ok (.invokevirtual 97, 3) := by decide +kernel
theorem dX9_utter_15 : decode cX9_utter 15 = .ok (.aload_n 0, 1) := by decide +kernel
theorem dX9_utter_16 : decode cX9_utter 16 = .ok (.getfield 42, 3) := by decide +kernel
theorem dX9_utter_19 : decode cX9_utter 19 = .ok (.iload_n 3, 1) := by decide +kernel
theorem dX9_utter_20 : decode cX9_utter 20 = .ok (.aload_n 0, 1) := by decide +kernel
theorem dX9_utter_21 : decode cX9_utter 21 = .ok (.getfield 16, 3) := by decide +kernel
theorem dX9_utter_24 : decode cX9_utter 24 = .ok (.invokevirtual 237, 3) := by decide +kernel
theorem dX9_utter_27 : decode cX9_utter 27 = .ok (.ifCond .eq 36, 3) := by decide +kernel
theorem dX9_utter_30 : decode cX9_utter 30 = .ok (.aload_n 0, 1) := by decide +kernel
theorem dX9_utter_31 : decode cX9_utter 31 = .ok (.getfield 49, 3) := by decide +kernel
theorem dX9_utter_34 : decode cX9_utter 34 = .ok (.iload_n 1, 1) := by decide +kernel
theorem dX9_utter_35 : decode cX9_utter 35 = .ok (.iload_n 2, 1) := by decide +kernel
theorem dX9_utter_36 : decode cX9_utter 36 = .ok (.aload_n 0, 1) := by decide +kernel
theorem dX9_utter_37 : decode cX9_utter 37 = .ok (.getfield 42, 3) := by decide +kernel
theorem dX9_utter_40 : decode cX9_utter 40 = .ok (.getfield 241, 3) := by decide +kernel
theorem dX9_utter_43 : decode cX9_utter 43 = .ok (.aload_n 0, 1) := by decide +kernel
theorem dX9_utter_44 : decode cX9_utter 44 = .ok (.getfield 42, 3) := by decide +kernel
theorem dX9_utter_47 : decode cX9_utter 47 = .ok (.getfield 244, 3) := by decide +kernel
theorem dX9_utter_50 : decode cX9_utter 50 = .ok (.aload_n 0, 1) := by decide +kernel
theorem dX9_utter_51 : decode cX9_utter 51 = .ok (.getfield 42, 3) := by decide +kernel
theorem dX9_utter_54 : decode cX9_utter 54 = .ok (.getfield 247, 3) := by decide +kernel
theorem dX9_utter_57 : decode cX9_utter 57 = .ok (.invokevirtual 233, 3) := by decide +kernel
theorem dX9_utter_60 : decode cX9_utter 60 = .ok (.ifCond .ne 15, 3) := by decide +kernel
theorem dX9_utter_63 : decode cX9_utter 63 = .ok (.aload_n 0, 1) := by decide +kernel
theorem dX9_utter_64 : decode cX9_utter 64 = .ok (.dup, 1) := by decide +kernel
theorem dX9_utter_65 : decode cX9_utter 65 = .ok (.getfield 152, 3) := by decide +kernel
theorem dX9_utter_68 : decode cX9_utter 68 = .ok (.iconst 1, 1) := by decide +kernel
theorem dX9_utter_69 : decode cX9_utter 69 = .ok (.iadd, 1) := by decide +kernel
theorem dX9_utter_70 : decode cX9_utter 70 = .ok (.putfield 152, 3) := by decide +kernel
theorem dX9_utter_73 : decode cX9_utter 73 = .ok (.iconst (-1), 1) := by decide +kernel
theorem dX9_utter_74 : decode cX9_utter 74 = .ok (.ireturn, 1) := by decide +kernel
theorem dX9_utter_75 : decode cX9_utter 75 = .ok (.aload_n 0, 1) := by decide +kernel
theorem dX9_utter_76 : decode cX9_utter 76 = .ok (.getfield 73, 3) := by decide +kernel
theorem dX9_utter_79 : decode cX9_utter 79 = .ok (.invokevirtual 122, 3) := by decide +kernel
theorem dX9_utter_82 : decode cX9_utter 82 = .ok (.aload_n 0, 1) := by decide +kernel
theorem dX9_utter_83 : decode cX9_utter 83 = .ok (.getfield 49, 3) := by decide +kernel
theorem dX9_utter_86 : decode cX9_utter 86 = .ok (.getfield 111, 3) := by decide +kernel
theorem dX9_utter_89 : decode cX9_utter 89 = .ok (.ireturn, 1) := by decide +kernel
theorem dX5_clear_0 : decode cX5_clear 0 = .ok (.aload_n 0, 1) := by decide +kernel
theorem dX5_clear_1 : decode cX5_clear 1 = .ok (.getfield 15, 3) := by decide +kernel
theorem dX5_clear_4 : decode cX5_clear 4 = .ok (.iconst 0, 1) := by decide +kernel
theorem dX5_clear_5 : decode cX5_clear 5 = .ok (.invokestatic 22, 3) := by decide +kernel
theorem dX5_clear_8 : decode cX5_clear 8 = .ok (.aload_n 0, 1) := by decide +kernel
theorem dX5_clear_9 : decode cX5_clear 9 = .ok (.iconst 0, 1) := by decide +kernel
theorem dX5_clear_10 : decode cX5_clear 10 = .ok (.putfield 28, 3) := by decide +kernel
theorem dX5_clear_13 : decode cX5_clear 13 = .ok (.aload_n 0, 1) := by decide +kernel
theorem dX5_clear_14 : decode cX5_clear 14 = .ok (.iconst 0, 1) := by decide +kernel
theorem dX5_clear_15 : decode cX5_clear 15 = .ok (.putfield 32, 3) := by decide +kernel
theorem dX5_clear_18 : decode cX5_clear 18 = .ok (.return_, 1) := by decide +kernel
theorem dX6_clear_0 : decode cX6_clear 0 = .ok (.aload_n 0, 1) := by decide +kernel
theorem dX6_clear_1 : decode cX6_clear 1 = .ok (.getfield 12, 3) := by decide +kernel
theorem dX6_clear_4 : decode cX6_clear 4 = .ok (.invokevirtual 47, 3) := by decide +kernel
theorem dX6_clear_7 : decode cX6_clear 7 = .ok (.aload_n 0, 1) := by decide +kernel
theorem dX6_clear_8 : decode cX6_clear 8 = .ok (.iconst 1, 1) := by decide +kernel
theorem dX6_clear_9 : decode cX6_clear 9 = .ok (.putfield 18, 3) := by decide +kernel
theorem dX6_clear_12 : decode cX6_clear 12 = .ok (.aload_n 0, 1) := by decide +kernel
theorem dX6_clear_13 : decode cX6_clear 13 = .ok (.iconst 0, 1) := by decide +kernel
theorem dX6_clear_14 : decode cX6_clear 14 = .ok (.putfield 50, 3) := by decide +kernel
theorem dX6_clear_17 : decode cX6_clear 17 = .ok (.aload_n 0, 1) := by decide +kernel
theorem dX6_clear_18 : decode cX6_clear 18 = .ok (.iconst 0, 1) := by decide +kernel
theorem dX6_clear_19 : decode cX6_clear 19 = .ok (.putfield 53, 3) := by decide +kernel
theorem dX6_clear_22 : decode cX6_clear 22 = .ok (.aload_n 0, 1) := by decide +kernel
theorem dX6_clear_23 : decode cX6_clear 23 = .ok (.iconst 0, 1) := by decide +kernel
theorem dX6_clear_24 : decode cX6_clear 24 = .ok (.putfield 56, 3) := by decide +kernel
theorem dX6_clear_27 : decode cX6_clear 27 = .ok (.aload_n 0, 1) := by decide +kernel
theorem dX6_clear_28 : decode cX6_clear 28 = .ok (.iconst 0, 1) := by decide +kernel
theorem dX6_clear_29 : decode cX6_clear 29 = .ok (.putfield 59, 3) := by decide +kernel
theorem dX6_clear_32 : decode cX6_clear 32 = .ok (.aload_n 0, 1) := by decide +kernel
theorem dX6_clear_33 : decode cX6_clear 33 = .ok (.iconst 0, 1) := by decide +kernel
theorem dX6_clear_34 : decode cX6_clear 34 = .ok (.putfield 62, 3) := by decide +kernel
theorem dX6_clear_37 : decode cX6_clear 37 = .ok (.aload_n 0, 1) := by decide +kernel
theorem dX6_clear_38 : decode cX6_clear 38 = .ok (.getfield 22, 3) := by decide +kernel
theorem dX6_clear_41 : decode cX6_clear 41 = .ok (.iconst 0, 1) := by decide +kernel
theorem dX6_clear_42 : decode cX6_clear 42 = .ok (.invokestatic 65, 3) := by decide +kernel
theorem dX6_clear_45 : decode cX6_clear 45 = .ok (.aload_n 0, 1) := by decide +kernel
theorem dX6_clear_46 : decode cX6_clear 46 = .ok (.getfield 26, 3) := by decide +kernel
theorem dX6_clear_49 : decode cX6_clear 49 = .ok (.iconst (-1), 1) := by decide +kernel
theorem dX6_clear_50 : decode cX6_clear 50 = .ok (.invokestatic 65, 3) := by decide +kernel
theorem dX6_clear_53 : decode cX6_clear 53 = .ok (.aload_n 0, 1) := by decide +kernel
theorem dX6_clear_54 : decode cX6_clear 54 = .ok (.getfield 44, 3) := by decide +kernel
theorem dX6_clear_57 : decode cX6_clear 57 = .ok (.sipush 500, 3) := by decide +kernel
theorem dX6_clear_60 : decode cX6_clear 60 = .ok (.invokestatic 65, 3) := by decide +kernel
theorem dX6_clear_63 : decode cX6_clear 63 = .ok (.return_, 1) := by decide +kernel
theorem dX6_fillHours_0 : decode cX6_fillHours 0 = .ok (.iconst 0, 1) := by decide +kernel
theorem dX6_fillHours_1 : decode cX6_fillHours 1 = .ok (.istore_n 1, 1) := by decide +kernel
theorem dX6_fillHours_2 : decode cX6_fillHours 2 = .ok (.iload_n 1, 1) := by decide +kernel
theorem dX6_fillHours_3 : decode cX6_fillHours 3 = .ok (.aload_n 0, 1) := by decide +kernel
theorem dX6_fillHours_4 : decode cX6_fillHours 4 = .ok (.getfield 50, 3) := by decide +kernel
theorem dX6_fillHours_7 : decode cX6_fillHours 7 = .ok (.if_icmp .ge 60, 3) := by decide +kernel
theorem dX6_fillHours_10 : decode cX6_fillHours 10 = .ok (.iconst 0, 1) := by decide +kernel
theorem dX6_fillHours_11 : decode cX6_fillHours 11 = .ok (.istore_n 2, 1) := by decide +kernel
theorem dX6_fillHours_12 : decode cX6_fillHours 12 = .ok (.iconst 0, 1) := by decide +kernel
theorem dX6_fillHours_13 : decode cX6_fillHours 13 = .ok (.istore_n 3, 1) := by decide +kernel
theorem dX6_fillHours_14 : decode cX6_fillHours 14 = .ok (.iload_n 3, 1) := by decide +kernel
theorem dX6_fillHours_15 : decode cX6_fillHours 15 = .ok (.bipush 24, 2) := by decide +kernel
theorem dX6_fillHours_17 : decode cX6_fillHours 17 = .ok (.if_icmp .ge 44, 3) := by decide +kernel
theorem dX6_fillHours_20 : decode cX6_fillHours 20 = .ok (.iload_n 1, 1) := by decide +kernel
theorem dX6_fillHours_21 : decode cX6_fillHours 21 = .ok (.bipush 24, 2) := by decide +kernel
theorem dX6_fillHours_23 : decode cX6_fillHours 23 = .ok (.imul, 1) := by decide +kernel
theorem dX6_fillHours_24 : decode cX6_fillHours 24 = .ok (.iload_n 3, 1) := by decide +kernel
theorem dX6_fillHours_25 : decode cX6_fillHours 25 = .ok (.iadd, 1) := by decide +kernel
theorem dX6_fillHours_26 : decode cX6_fillHours 26 = .ok (.istore 4, 2) := by decide +kernel
theorem dX6_fillHours_28 : decode cX6_fillHours 28 = .ok (.aload_n 0, 1) := by decide +kernel
theorem dX6_fillHours_29 : decode cX6_fillHours 29 = .ok (.getfield 26, 3) := by decide +kernel
theorem dX6_fillHours_32 : decode cX6_fillHours 32 = .ok (.iload 4, 2) := by decide +kernel
theorem dX6_fillHours_34 : decode cX6_fillHours 34 = .ok (.iaload, 1) := by decide +kernel
theorem dX6_fillHours_35 : decode cX6_fillHours 35 = .ok (.iconst (-1), 1) := by decide +kernel
theorem dX6_fillHours_36 : decode cX6_fillHours 36 = .ok (.if_icmp .ne 11, 3) := by decide +kernel
theorem dX6_fillHours_39 : decode cX6_fillHours 39 = .ok (.aload_n 0, 1) := by decide +kernel
theorem dX6_fillHours_40 : decode cX6_fillHours 40 = .ok (.getfield 26, 3) := by decide +kernel
theorem dX6_fillHours_43 : decode cX6_fillHours 43 = .ok (.iload 4, 2) := by decide +kernel
theorem dX6_fillHours_45 : decode cX6_fillHours 45 = .ok (.iload_n 2, 1) := by decide +kernel
theorem dX6_fillHours_46 : decode cX6_fillHours 46 = .ok (.iastore, 1) := by decide +kernel
theorem dX6_fillHours_47 : decode cX6_fillHours 47 = .ok (.aload_n 0, 1) := by decide +kernel
theorem dX6_fillHours_48 : decode cX6_fillHours 48 = .ok (.getfield 26, 3) := by decide +kernel
theorem dX6_fillHours_51 : decode cX6_fillHours 51 = .ok (.iload 4, 2) := by decide +kernel
theorem dX6_fillHours_53 : decode cX6_fillHours 53 = .ok (.iaload, 1) := by decide +kernel
theorem dX6_fillHours_54 : decode cX6_fillHours 54 = .ok (.istore_n 2, 1) := by decide +kernel
theorem dX6_fillHours_55 : decode cX6_fillHours 55 = .ok (.iinc 3 1, 3) := by decide +kernel
theorem dX6_fillHours_58 : decode cX6_fillHours 58 = .ok (.goto (-44), 3) := by decide +kernel
theorem dX6_fillHours_61 : decode cX6_fillHours 61 = .ok (.iinc 1 1, 3) := by decide +kernel
theorem dX6_fillHours_64 : decode cX6_fillHours 64 = .ok (.goto (-62), 3) := by decide +kernel
theorem dX6_fillHours_67 : decode cX6_fillHours 67 = .ok (.return_, 1) := by decide +kernel
theorem dX9_isDigit_0 : decode cX9_isDigit 0 = .ok (.iload_n 0, 1) := by decide +kernel
theorem dX9_isDigit_1 : decode cX9_isDigit 1 = .ok (.bipush 48, 2) := by decide +kernel
theorem dX9_isDigit_3 : decode cX9_isDigit 3 = .ok (.if_icmp .lt 13, 3) := by decide +kernel
theorem dX9_isDigit_6 : decode cX9_isDigit 6 = .ok (.iload_n 0, 1) := by decide +kernel
theorem dX9_isDigit_7 : decode cX9_isDigit 7 = .ok (.bipush 57, 2) := by decide +kernel
theorem dX9_isDigit_9 : decode cX9_isDigit 9 = .ok (.if_icmp .gt 7, 3) := by decide +kernel
theorem dX9_isDigit_12 : decode cX9_isDigit 12 = .ok (.iconst 1, 1) := by decide +kernel
theorem dX9_isDigit_13 : decode cX9_isDigit 13 = .ok (.goto 4, 3) := by decide +kernel
theorem dX9_isDigit_16 : decode cX9_isDigit 16 = .ok (.iconst 0, 1) := by decide +kernel
theorem dX9_isDigit_17 : decode cX9_isDigit 17 = .ok (.ireturn, 1) := by decide +kernel
theorem dX4_takeDigits_0 : decode cX4_takeDigits 0 = .ok (.aload_n 0, 1) := by decide +kernel
theorem dX4_takeDigits_1 : decode cX4_takeDigits 1 = .ok (.getfield 28, 3) := by decide +kernel
theorem dX4_takeDigits_4 : decode cX4_takeDigits 4 = .ok (.aload_n 0, 1) := by decide +kernel
theorem dX4_takeDigits_5 : decode cX4_takeDigits 5 = .ok (.getfield 25, 3) := by decide +kernel
theorem dX4_takeDigits_8 : decode cX4_takeDigits 8 = .ok (.if_icmp .ge 68, 3) := by decide +kernel
theorem dX4_takeDigits_11 : decode cX4_takeDigits 11 = .ok (.aload_n 0, 1) := by decide +kernel
theorem dX4_takeDigits_12 : decode cX4_takeDigits 12 = .ok (.getfield 15, 3) := by decide +kernel
theorem dX4_takeDigits_15 : decode cX4_takeDigits 15 = .ok (.aload_n 0, 1) := by decide +kernel
theorem dX4_takeDigits_16 : decode cX4_takeDigits 16 = .ok (.getfield 28, 3) := by decide +kernel
theorem dX4_takeDigits_19 : decode cX4_takeDigits 19 = .ok (.baload, 1) := by decide +kernel
theorem dX4_takeDigits_20 : decode cX4_takeDigits 20 = .ok (.invokestatic 72, 3) := by decide +kernel
theorem dX4_takeDigits_23 : decode cX4_takeDigits 23 = .ok (.ifCond .eq 53, 3) := by decide +kernel
theorem dX4_takeDigits_26 : decode cX4_takeDigits 26 = .ok (.aload_n 0, 1) := by decide +kernel
theorem dX4_takeDigits_27 : decode cX4_takeDigits 27 = .ok (.getfield 28, 3) := by decide +kernel
theorem dX4_takeDigits_30 : decode cX4_takeDigits 30 = .ok (.aload_n 0, 1) := by decide +kernel
theorem dX4_takeDigits_31 : decode cX4_takeDigits 31 = .ok (.getfield 59, 3) := by decide +kernel
theorem dX4_takeDigits_34 : decode cX4_takeDigits 34 = .ok (.isub, 1) := by decide +kernel
theorem dX4_takeDigits_35 : decode cX4_takeDigits 35 = .ok (.iconst 3, 1) := by decide +kernel
theorem dX4_takeDigits_36 : decode cX4_takeDigits 36 = .ok (.if_icmp .ge 27, 3) := by decide +kernel
theorem dX4_takeDigits_39 : decode cX4_takeDigits 39 = .ok (.aload_n 0, 1) := by decide +kernel
theorem dX4_takeDigits_40 : decode cX4_takeDigits 40 = .ok (.bipush 10, 2) := by decide +kernel
theorem dX4_takeDigits_42 : decode cX4_takeDigits 42 = .ok (.aload_n 0, 1) := by decide +kernel
theorem dX4_takeDigits_43 : decode cX4_takeDigits 43 = .ok (.getfield 66, 3) := by decide +kernel
theorem dX4_takeDigits_46 : decode cX4_takeDigits 46 = .ok (.imul, 1) := by decide +kernel
theorem dX4_takeDigits_47 : decode cX4_takeDigits 47 = .ok (.aload_n 0, 1) := by decide +kernel
theorem dX4_takeDigits_48 : decode cX4_takeDigits 48 = .ok (.getfield 15, 3) := by decide +kernel
theorem dX4_takeDigits_51 : decode cX4_takeDigits 51 = .ok (.aload_n 0, 1) := by decide +kernel
theorem dX4_takeDigits_52 : decode cX4_takeDigits 52 = .ok (.getfield 28, 3) := by decide +kernel
theorem dX4_takeDigits_55 : decode cX4_takeDigits 55 = .ok (.baload, 1) := by decide +kernel
theorem dX4_takeDigits_56 : decode cX4_takeDigits 56 = .ok (.iadd, 1) := by decide +kernel
theorem dX4_takeDigits_57 : decode cX4_takeDigits 57 = .ok (.bipush 48, 2) := by decide +kernel
theorem dX4_takeDigits_59 : decode cX4_takeDigits 59 = .ok (.isub, 1) := by decide +kernel
theorem dX4_takeDigits_60 : decode cX4_takeDigits 60 = .ok (.putfield 66, 3) := by decide +kernel
theorem dX4_takeDigits_63 : decode cX4_takeDigits 63 = .ok (.aload_n 0, 1) := by decide +kernel
theorem dX4_takeDigits_64 : decode cX4_takeDigits 64 = .ok (.dup, 1) := by decide +kernel
theorem dX4_takeDigits_65 : decode cX4_takeDigits 65 = .ok (.getfield 28, 3) := by decide +kernel
theorem dX4_takeDigits_68 : decode cX4_takeDigits 68 = .ok (.iconst 1, 1) := by decide +kernel
theorem dX4_takeDigits_69 : decode cX4_takeDigits 69 = .ok (.iadd, 1) := by decide +kernel
theorem dX4_takeDigits_70 : decode cX4_takeDigits 70 = .ok (.putfield 28, 3) := by decide +kernel
theorem dX4_takeDigits_73 : decode cX4_takeDigits 73 = .ok (.goto (-73), 3) := by decide +kernel
theorem dX4_takeDigits_76 : decode cX4_takeDigits 76 = .ok (.return_, 1) := by decide +kernel
theorem dX4_step_0 : decode cX4_step 0 = .ok (.aload_n 0, 1) := by decide +kernel
theorem dX4_step_1 : decode cX4_step 1 = .ok (.getfield 28, 3) := by decide +kernel
theorem dX4_step_4 : decode cX4_step 4 = .ok (.aload_n 0, 1) := by decide +kernel
theorem dX4_step_5 : decode cX4_step 5 = .ok (.getfield 25, 3) := by decide +kernel
theorem dX4_step_8 : decode cX4_step 8 = .ok (.if_icmp .ge 31, 3) := by decide +kernel
theorem dX4_step_11 : decode cX4_step 11 = .ok (.aload_n 0, 1) := by decide +kernel
theorem dX4_step_12 : decode cX4_step 12 = .ok (.getfield 15, 3) := by decide +kernel
theorem dX4_step_15 : decode cX4_step 15 = .ok (.aload_n 0, 1) := by decide +kernel
theorem dX4_step_16 : decode cX4_step 16 = .ok (.getfield 28, 3) := by decide +kernel
theorem dX4_step_19 : decode cX4_step 19 = .ok (.baload, 1) := by decide +kernel
theorem dX4_step_20 : decode cX4_step 20 = .ok (.invokestatic 62, 3) := by decide +kernel
theorem dX4_step_23 : decode cX4_step 23 = .ok (.ifCond .eq 16, 3) := by decide +kernel
theorem dX4_step_26 : decode cX4_step 26 = .ok (.aload_n 0, 1) := by decide +kernel
theorem dX4_step_27 : decode cX4_step 27 = .ok (.dup, 1) := by decide +kernel
theorem dX4_step_28 : decode cX4_step 28 = .ok (.getfield 28, 3) := by decide +kernel
theorem dX4_step_31 : decode cX4_step 31 = .ok (.iconst 1, 1) := by decide +kernel
theorem dX4_step_32 : decode cX4_step 32 = .ok (.iadd, 1) := by decide +kernel
theorem dX4_step_33 : decode cX4_step 33 = .ok (.putfield 28, 3) := by decide +kernel
theorem dX4_step_36 : decode cX4_step 36 = .ok (.goto (-36), 3) := by decide +kernel
theorem dX4_step_39 : decode cX4_step 39 = .ok (.aload_n 0, 1) := by decide +kernel
theorem dX4_step_40 : decode cX4_step 40 = .ok (.aload_n 0, 1) := by decide +kernel
theorem dX4_step_41 : decode cX4_step 41 = .ok (.getfield 28, 3) := by decide +kernel
theorem dX4_step_44 : decode cX4_step 44 = .ok (.putfield 59, 3) := by decide +kernel
theorem dX4_step_47 : decode cX4_step 47 = .ok (.aload_n 0, 1) := by decide +kernel
theorem dX4_step_48 : decode cX4_step 48 = .ok (.iconst 0, 1) := by decide +kernel
theorem dX4_step_49 : decode cX4_step 49 = .ok (.putfield 66, 3) := by decide +kernel
theorem dX4_step_52 : decode cX4_step 52 = .ok (.aload_n 0, 1) := by decide +kernel
theorem dX4_step_53 : decode cX4_step 53 = .ok (.getfield 28, 3) := by decide +kernel
theorem dX4_step_56 : decode cX4_step 56 = .ok (.aload_n 0, 1) := by decide +kernel
theorem dX4_step_57 : decode cX4_step 57 = .ok (.getfield 25, 3) := by decide +kernel
theorem dX4_step_60 : decode cX4_step 60 = .ok (.if_icmp .lt 11, 3) := by decide +kernel
theorem dX4_step_63 : decode cX4_step 63 = .ok (.aload_n 0, 1) := by decide +kernel
theorem dX4_step_64 : decode cX4_step 64 = .ok (.iconst 0, 1) := by decide +kernel
theorem dX4_step_65 : decode cX4_step 65 = .ok (.putfield 49, 3) := by decide +kernel
theorem dX4_step_68 : decode cX4_step 68 = .ok (.goto 126, 3) := by decide +kernel
theorem dX4_step_71 : decode cX4_step 71 = .ok (.aload_n 0, 1) := by decide +kernel
theorem dX4_step_72 : decode cX4_step 72 = .ok (.getfield 15, 3) := by decide +kernel
theorem dX4_step_75 : decode cX4_step 75 = .ok (.aload_n 0, 1) := by decide +kernel
theorem dX4_step_76 : decode cX4_step 76 = .ok (.getfield 28, 3) := by decide +kernel
theorem dX4_step_79 : decode cX4_step 79 = .ok (.baload, 1) := by decide +kernel
theorem dX4_step_80 : decode cX4_step 80 = .ok (.invokestatic 69, 3) := by decide +kernel
theorem dX4_step_83 : decode cX4_step 83 = .ok (.ifCond .eq 47, 3) := by decide +kernel
theorem dX4_step_86 : decode cX4_step 86 = .ok (.aload_n 0, 1) := by decide +kernel
theorem dX4_step_87 : decode cX4_step 87 = .ok (.iconst 1, 1) := by decide +kernel
theorem dX4_step_88 : decode cX4_step 88 = .ok (.putfield 49, 3) := by decide +kernel
theorem dX4_step_91 : decode cX4_step 91 = .ok (.aload_n 0, 1) := by decide +kernel
theorem dX4_step_92 : decode cX4_step 92 = .ok (.getfield 28, 3) := by decide +kernel
theorem dX4_step_95 : decode cX4_step 95 = .ok (.aload_n 0, 1) := by decide +kernel
theorem dX4_step_96 : decode cX4_step 96 = .ok (.getfield 25, 3) := by decide +kernel
theorem dX4_step_99 : decode cX4_step 99 = .ok (.if_icmp .ge 95, 3) := by decide +kernel
theorem dX4_step_102 : decode cX4_step 102 = .ok (.aload_n 0, 1) := by decide +kernel
theorem dX4_step_103 : decode cX4_step 103 = .ok (.getfield 15, 3) := by decide +kernel
theorem dX4_step_106 : decode cX4_step 106 = .ok (.aload_n 0, 1) := by decide +kernel
theorem dX4_step_107 : decode cX4_step 107 = .ok (.getfield 28, 3) := by decide +kernel
theorem dX4_step_110 : decode cX4_step 110 = .ok (.baload, 1) := by decide +kernel
theorem dX4_step_111 : decode cX4_step 111 = .ok (.invokestatic 69, 3) := by decide +kernel
theorem dX4_step_114 : decode cX4_step 114 = .ok (.ifCond .eq 80, 3) := by decide +kernel
theorem dX4_step_117 : decode cX4_step 117 = .ok (.aload_n 0, 1) := by decide +kernel
theorem dX4_step_118 : decode cX4_step 118 = .ok (.dup, 1) := by decide +kernel
theorem dX4_step_119 : decode cX4_step 119 = .ok (.getfield 28, 3) := by decide +kernel
theorem dX4_step_122 : decode cX4_step 122 = .ok (.iconst 1, 1) := by decide +kernel
theorem dX4_step_123 : decode cX4_step 123 = .ok (.iadd, 1) := by decide +kernel
theorem dX4_step_124 : decode cX4_step 124 = .ok (.putfield 28, 3) := by decide +kernel
theorem dX4_step_127 : decode cX4_step 127 = .ok (.goto (-36), 3) := by decide +kernel
theorem dX4_step_130 : decode cX4_step 130 = .ok (.aload_n 0, 1) := by decide +kernel
theorem dX4_step_131 : decode cX4_step 131 = .ok (.getfield 15, 3) := by decide +kernel
theorem dX4_step_134 : decode cX4_step 134 = .ok (.aload_n 0, 1) := by decide +kernel
theorem dX4_step_135 : decode cX4_step 135 = .ok (.getfield 28, 3) := by decide +kernel
theorem dX4_step_138 : decode cX4_step 138 = .ok (.baload, 1) := by decide +kernel
theorem dX4_step_139 : decode cX4_step 139 = .ok (.invokestatic 72, 3) := by decide +kernel
theorem dX4_step_142 : decode cX4_step 142 = .ok (.ifCond .eq 15, 3) := by decide +kernel
theorem dX4_step_145 : decode cX4_step 145 = .ok (.aload_n 0, 1) := by decide +kernel
theorem dX4_step_146 : decode cX4_step 146 = .ok (.iconst 2, 1) := by decide +kernel
theorem dX4_step_147 : decode cX4_step 147 = .ok (.putfield 49, 3) := by decide +kernel
theorem dX4_step_150 : decode cX4_step 150 = .ok (.aload_n 0, 1) := by decide +kernel
theorem dX4_step_151 : decode cX4_step 151 = .ok (.invokevirtual 75, 3) := by decide +kernel
theorem dX4_step_154 : decode cX4_step 154 = .ok (.goto 40, 3) := by decide +kernel
theorem dX4_step_157 : decode cX4_step 157 = .ok (.aload_n 0, 1) := by decide +kernel
theorem dX4_step_158 : decode cX4_step 158 = .ok (.getfield 15, 3) := by decide +kernel
theorem dX4_step_161 : decode cX4_step 161 = .ok (.aload_n 0, 1) := by decide +kernel
theorem dX4_step_162 : decode cX4_step 162 = .ok (.getfield 28, 3) := by decide +kernel
theorem dX4_step_165 : decode cX4_step 165 = .ok (.baload, 1) := by decide +kernel
theorem dX4_step_166 : decode cX4_step 166 = .ok (.bipush 59, 2) := by decide +kernel
theorem dX4_step_168 : decode cX4_step 168 = .ok (.if_icmp .ne 21, 3) := by decide +kernel
theorem dX4_step_171 : decode cX4_step 171 = .ok (.aload_n 0, 1) := by decide +kernel
theorem dX4_step_172 : decode cX4_step 172 = .ok (.iconst 3, 1) := by decide +kernel
theorem dX4_step_173 : decode cX4_step 173 = .ok (.putfield 49, 3) := by decide +kernel
theorem dX4_step_176 : decode cX4_step 176 = .ok (.aload_n 0, 1) := by decide +kernel
theorem dX4_step_177 : decode cX4_step 177 = .ok (.dup, 1) := by decide +kernel
theorem dX4_step_178 : decode cX4_step 178 = .ok (.getfield 28, 3) := by decide +kernel
theorem dX4_step_181 : decode cX4_step 181 = .ok (.iconst 1, 1) := by decide +kernel
theorem dX4_step_182 : decode cX4_step 182 = .ok (.iadd, 1) := by decide +kernel
theorem dX4_step_183 : decode cX4_step 183 = .ok (.putfield 28, 3) := by decide +kernel
theorem dX4_step_186 : decode cX4_step 186 = .ok (.goto 8, 3) := by decide +kernel
theorem dX4_step_189 : decode cX4_step 189 = .ok (.aload_n 0, 1) := by decide +kernel
theorem dX4_step_190 : decode cX4_step 190 = .ok (.iconst 4, 1) := by decide +kernel
theorem dX4_step_191 : decode cX4_step 191 = .ok (.putfield 49, 3) := by decide +kernel
theorem dX4_step_194 : decode cX4_step 194 = .ok (.aload_n 0, 1) := by decide +kernel
theorem dX4_step_195 : decode cX4_step 195 = .ok (.aload_n 0, 1) := by decide +kernel
theorem dX4_step_196 : decode cX4_step 196 = .ok (.getfield 28, 3) := by decide +kernel
theorem dX4_step_199 : decode cX4_step 199 = .ok (.aload_n 0, 1) := by decide +kernel
theorem dX4_step_200 : decode cX4_step 200 = .ok (.getfield 59, 3) := by decide +kernel
theorem dX4_step_203 : decode cX4_step 203 = .ok (.isub, 1) := by decide +kernel
theorem dX4_step_204 : decode cX4_step 204 = .ok (.putfield 78, 3) := by decide +kernel
theorem dX4_step_207 : decode cX4_step 207 = .ok (.return_, 1) := by decide +kernel
theorem dX4_refuse_0 : decode cX4_refuse 0 = .ok (.aload_n 0, 1) := by decide +kernel
theorem dX4_refuse_1 : decode cX4_refuse 1 = .ok (.iload_n 1, 1) := by decide +kernel
theorem dX4_refuse_2 : decode cX4_refuse 2 = .ok (.putfield 38, 3) := by decide +kernel
theorem dX4_refuse_5 : decode cX4_refuse 5 = .ok (.aload_n 0, 1) := by decide +kernel
theorem dX4_refuse_6 : decode cX4_refuse 6 = .ok (.aload_n 0, 1) := by decide +kernel
theorem dX4_refuse_7 : decode cX4_refuse 7 = .ok (.getfield 59, 3) := by decide +kernel
theorem dX4_refuse_10 : decode cX4_refuse 10 = .ok (.putfield 9, 3) := by decide +kernel
theorem dX4_refuse_13 : decode cX4_refuse 13 = .ok (.iconst 0, 1) := by decide +kernel
theorem dX4_refuse_14 : decode cX4_refuse 14 = .ok (.ireturn, 1) := by decide +kernel
theorem dX4_isNumber_0 : decode cX4_isNumber 0 = .ok (.aload_n 0, 1) := by decide +kernel
theorem dX4_isNumber_1 : decode cX4_isNumber 1 = .ok (.getfield 49, 3) := by decide +kernel
theorem dX4_isNumber_4 : decode cX4_isNumber 4 = .ok (.iconst 2, 1) := by decide +kernel
theorem dX4_isNumber_5 : decode cX4_isNumber 5 = .ok (.if_icmp .eq 9, 3) := by decide +kernel
theorem dX4_isNumber_8 : decode cX4_isNumber 8 = .ok (.aload_n 0, 1) := by decide +kernel
theorem dX4_isNumber_9 : decode cX4_isNumber 9 = .ok (.iconst 1, 1) := by decide +kernel
theorem dX4_isNumber_10 : decode cX4_isNumber 10 = .ok (.invokevirtual 153, 3) := by decide +kernel
theorem dX4_isNumber_13 : decode cX4_isNumber 13 = .ok (.ireturn, 1) := by decide +kernel
theorem dX4_isNumber_14 : decode cX4_isNumber 14 = .ok (.aload_n 0, 1) := by decide +kernel
theorem dX4_isNumber_15 : decode cX4_isNumber 15 = .ok (.getfield 78, 3) := by decide +kernel
theorem dX4_isNumber_18 : decode cX4_isNumber 18 = .ok (.iconst 3, 1) := by decide +kernel
theorem dX4_isNumber_19 : decode cX4_isNumber 19 = .ok (.if_icmp .gt 11, 3) := by decide +kernel
theorem dX4_isNumber_22 : decode cX4_isNumber 22 = .ok (.aload_n 0, 1) := by decide +kernel
theorem dX4_isNumber_23 : decode cX4_isNumber 23 = .ok (.getfield 66, 3) := by decide +kernel
theorem dX4_isNumber_26 : decode cX4_isNumber 26 = .ok (.iload_n 1, 1) := by decide +kernel
theorem dX4_isNumber_27 : decode cX4_isNumber 27 = .ok (.if_icmp .le 11, 3) := by decide +kernel
theorem dX4_isNumber_30 : decode cX4_isNumber 30 = .ok (.aload_n 0, 1) := by decide +kernel
theorem dX4_isNumber_31 : decode cX4_isNumber 31 = .ok (.iconst 2, 1) := by decide +kernel
theorem dX4_isNumber_32 : decode cX4_isNumber 32 = .ok (.invokevirtual 153, 3) := by decide +kernel
theorem dX4_isNumber_35 : decode cX4_isNumber 35 = .ok (.ifCond .eq 7, 3) := by decide +kernel
theorem dX4_isNumber_38 : decode cX4_isNumber 38 = .ok (.iconst 1, 1) := by decide +kernel
theorem dX4_isNumber_39 : decode cX4_isNumber 39 = .ok (.goto 4, 3) := by decide +kernel
theorem dX4_isNumber_42 : decode cX4_isNumber 42 = .ok (.iconst 0, 1) := by decide +kernel
theorem dX4_isNumber_43 : decode cX4_isNumber 43 = .ok (.ireturn, 1) := by decide +kernel
theorem dX4_number_0 : decode cX4_number 0 = .ok (.aload_n 0, 1) := by decide +kernel
theorem dX4_number_1 : decode cX4_number 1 = .ok (.invokevirtual 46, 3) := by decide +kernel
theorem dX4_number_4 : decode cX4_number 4 = .ok (.aload_n 0, 1) := by decide +kernel
theorem dX4_number_5 : decode cX4_number 5 = .ok (.iload_n 1, 1) := by decide +kernel
theorem dX4_number_6 : decode cX4_number 6 = .ok (.invokevirtual 163, 3) := by decide +kernel
theorem dX4_number_9 : decode cX4_number 9 = .ok (.ireturn, 1) := by decide +kernel
theorem dX4_isSemicolon_0 : decode cX4_isSemicolon 0 = .ok (.aload_n 0, 1) := by decide +kernel
theorem dX4_isSemicolon_1 : decode cX4_isSemicolon 1 = .ok (.getfield 49, 3) := by decide +kernel
theorem dX4_isSemicolon_4 : decode cX4_isSemicolon 4 = .ok (.iconst 3, 1) := by decide +kernel
theorem dX4_isSemicolon_5 : decode cX4_isSemicolon 5 = .ok (.if_icmp .eq 11, 3) := by decide +kernel
theorem dX4_isSemicolon_8 : decode cX4_isSemicolon 8 = .ok (.aload_n 0, 1) := by decide +kernel
theorem dX4_isSemicolon_9 : decode cX4_isSemicolon 9 = .ok (.iconst 1, 1) := by decide +kernel
theorem dX4_isSemicolon_10 : decode cX4_isSemicolon 10 = .ok (.invokevirtual 153, 3) := by decide +kernel
theorem dX4_isSemicolon_13 : decode cX4_isSemicolon 13 = .ok (.ifCond .eq 7, 3) := by decide +kernel
theorem dX4_isSemicolon_16 : decode cX4_isSemicolon 16 = .ok (.iconst 1, 1) := by decide +kernel
theorem dX4_isSemicolon_17 : decode cX4_isSemicolon 17 = .ok (.goto 4, 3) := by decide +kernel
theorem dX4_isSemicolon_20 : decode cX4_isSemicolon 20 = .ok (.iconst 0, 1) := by decide +kernel
theorem dX4_isSemicolon_21 : decode cX4_isSemicolon 21 = .ok (.ireturn, 1) := by decide +kernel
theorem dX4_semicolon_0 : decode cX4_semicolon 0 = .ok (.aload_n 0, 1) := by decide +kernel
theorem dX4_semicolon_1 : decode cX4_semicolon 1 = .ok (.invokevirtual 46, 3) := by decide +kernel
theorem dX4_semicolon_4 : decode cX4_semicolon 4 = .ok (.aload_n 0, 1) := by decide +kernel
theorem dX4_semicolon_5 : decode cX4_semicolon 5 = .ok (.invokevirtual 166, 3) := by decide +kernel
theorem dX4_semicolon_8 : decode cX4_semicolon 8 = .ok (.ireturn, 1) := by decide +kernel
theorem dX4_weighLine_0 : decode cX4_weighLine 0 = .ok (.aload_n 0, 1) := by decide +kernel
theorem dX4_weighLine_1 : decode cX4_weighLine 1 = .ok (.iconst 4, 1) := by decide +kernel
theorem dX4_weighLine_2 : decode cX4_weighLine 2 = .ok (.invokevirtual 180, 3) := by decide +kernel
theorem dX4_weighLine_5 : decode cX4_weighLine 5 = .ok (.ifCond .ne 5, 3) := by decide +kernel
theorem dX4_weighLine_8 : decode cX4_weighLine 8 = .ok (.iconst 0, 1) := by decide +kernel
theorem dX4_weighLine_9 : decode cX4_weighLine 9 = .ok (.ireturn, 1) := by decide +kernel
theorem dX4_weighLine_10 : decode cX4_weighLine 10 = .ok (.aload_n 0, 1) := by decide +kernel
theorem dX4_weighLine_11 : decode cX4_weighLine 11 = .ok (.getfield 66, 3) := by decide +kernel
theorem dX4_weighLine_14 : decode cX4_weighLine 14 = .ok (.istore_n 2, 1) := by decide +kernel
theorem dX4_weighLine_15 : decode cX4_weighLine 15 = .ok (.aload_n 0, 1) := by decide +kernel
theorem dX4_weighLine_16 : decode cX4_weighLine 16 = .ok (.sipush 1000, 3) := by decide +kernel
theorem dX4_weighLine_19 : decode cX4_weighLine 19 = .ok (.invokevirtual 180, 3) := by decide +kernel
theorem dX4_weighLine_22 : decode cX4_weighLine 22 = .ok (.ifCond .ne 5, 3) := by decide +kernel
theorem dX4_weighLine_25 : decode cX4_weighLine 25 = .ok (.iconst 0, 1) := by decide +kernel
theorem dX4_weighLine_26 : decode cX4_weighLine 26 = .ok (.ireturn, 1) := by decide +kernel
theorem dX4_weighLine_27 : decode cX4_weighLine 27 = .ok (.aload_n 1, 1) := by decide +kernel
theorem dX4_weighLine_28 : decode cX4_weighLine 28 = .ok (.getfield 257, 3) := by decide +kernel
theorem dX4_weighLine_31 : decode cX4_weighLine 31 = .ok (.iconst 2, 1) := by decide +kernel
theorem dX4_weighLine_32 : decode cX4_weighLine 32 = .ok (.iload_n 2, 1) := by decide +kernel
theorem dX4_weighLine_33 : decode cX4_weighLine 33 = .ok (.imul, 1) := by decide +kernel
theorem dX4_weighLine_34 : decode cX4_weighLine 34 = .ok (.aload_n 0, 1) := by decide +kernel
theorem dX4_weighLine_35 : decode cX4_weighLine 35 = .ok (.getfield 66, 3) := by decide +kernel
theorem dX4_weighLine_38 : decode cX4_weighLine 38 = .ok (.iastore, 1) := by decide +kernel
theorem dX4_weighLine_39 : decode cX4_weighLine 39 = .ok (.aload_n 0, 1) := by decide +kernel
theorem dX4_weighLine_40 : decode cX4_weighLine 40 = .ok (.sipush 1000, 3) := by decide +kernel
theorem dX4_weighLine_43 : decode cX4_weighLine 43 = .ok (.invokevirtual 180, 3) := by decide +kernel
theorem dX4_weighLine_46 : decode cX4_weighLine 46 = .ok (.ifCond .ne 5, 3) := by decide +kernel
theorem dX4_weighLine_49 : decode cX4_weighLine 49 = .ok (.iconst 0, 1) := by decide +kernel
theorem dX4_weighLine_50 : decode cX4_weighLine 50 = .ok (.ireturn, 1) := by decide +kernel
theorem dX4_weighLine_51 : decode cX4_weighLine 51 = .ok (.aload_n 1, 1) := by decide +kernel
theorem dX4_weighLine_52 : decode cX4_weighLine 52 = .ok (.getfield 257, 3) := by decide +kernel
theorem dX4_weighLine_55 : decode cX4_weighLine 55 = .ok (.iconst 2, 1) := by decide +kernel
theorem dX4_weighLine_56 : decode cX4_weighLine 56 = .ok (.iload_n 2, 1) := by decide +kernel
theorem dX4_weighLine_57 : decode cX4_weighLine 57 = .ok (.imul, 1) := by decide +kernel
theorem dX4_weighLine_58 : decode cX4_weighLine 58 = .ok (.iconst 1, 1) := by decide +kernel
theorem dX4_weighLine_59 : decode cX4_weighLine 59 = .ok (.iadd, 1) := by decide +kernel
theorem dX4_weighLine_60 : decode cX4_weighLine 60 = .ok (.aload_n 0, 1) := by decide +kernel
theorem dX4_weighLine_61 : decode cX4_weighLine 61 = .ok (.getfield 66, 3) := by decide +kernel
theorem dX4_weighLine_64 : decode cX4_weighLine 64 = .ok (.iastore, 1) := by decide +kernel
theorem dX4_weighLine_65 : decode cX4_weighLine 65 = .ok (.aload_n 0, 1) := by decide +kernel
theorem dX4_weighLine_66 : decode cX4_weighLine 66 = .ok (.invokevirtual 177, 3) := by decide +kernel
theorem dX4_weighLine_69 : decode cX4_weighLine 69 = .ok (.ireturn, 1) := by decide +kernel
theorem dX4_oneOf_0 : decode cX4_oneOf 0 = .ok (.aload_n 0, 1) := by decide +kernel
theorem dX4_oneOf_1 : decode cX4_oneOf 1 = .ok (.invokevirtual 46, 3) := by decide +kernel
theorem dX4_oneOf_4 : decode cX4_oneOf 4 = .ok (.aload_n 0, 1) := by decide +kernel
theorem dX4_oneOf_5 : decode cX4_oneOf 5 = .ok (.sipush 999, 3) := by decide +kernel
theorem dX4_oneOf_8 : decode cX4_oneOf 8 = .ok (.invokevirtual 163, 3) := by decide +kernel
theorem dX4_oneOf_11 : decode cX4_oneOf 11 = .ok (.ifCond .eq 23, 3) := by decide +kernel
theorem dX4_oneOf_14 : decode cX4_oneOf 14 = .ok (.aload_n 0, 1) := by decide +kernel
theorem dX4_oneOf_15 : decode cX4_oneOf 15 = .ok (.getfield 66, 3) := by decide +kernel
theorem dX4_oneOf_18 : decode cX4_oneOf 18 = .ok (.iload_n 1, 1) := by decide +kernel
theorem dX4_oneOf_19 : decode cX4_oneOf 19 = .ok (.if_icmp .lt 11, 3) := by decide +kernel
theorem dX4_oneOf_22 : decode cX4_oneOf 22 = .ok (.aload_n 0, 1) := by decide +kernel
theorem dX4_oneOf_23 : decode cX4_oneOf 23 = .ok (.iconst 3, 1) := by decide +kernel
theorem dX4_oneOf_24 : decode cX4_oneOf 24 = .ok (.invokevirtual 153, 3) := by decide +kernel
theorem dX4_oneOf_27 : decode cX4_oneOf 27 = .ok (.ifCond .eq 7, 3) := by decide +kernel
theorem dX4_oneOf_30 : decode cX4_oneOf 30 = .ok (.iconst 1, 1) := by decide +kernel
theorem dX4_oneOf_31 : decode cX4_oneOf 31 = .ok (.goto 4, 3) := by decide +kernel
theorem dX4_oneOf_34 : decode cX4_oneOf 34 = .ok (.iconst 0, 1) := by decide +kernel
theorem dX4_oneOf_35 : decode cX4_oneOf 35 = .ok (.ireturn, 1) := by decide +kernel
theorem dX4_atLine_0 : decode cX4_atLine 0 = .ok (.aload_n 0, 1) := by decide +kernel
theorem dX4_atLine_1 : decode cX4_atLine 1 = .ok (.iconst 1, 1) := by decide +kernel
theorem dX4_atLine_2 : decode cX4_atLine 2 = .ok (.putfield 35, 3) := by decide +kernel
theorem dX4_atLine_5 : decode cX4_atLine 5 = .ok (.aload_n 0, 1) := by decide +kernel
theorem dX4_atLine_6 : decode cX4_atLine 6 = .ok (.aload_n 1, 1) := by decide +kernel
theorem dX4_atLine_7 : decode cX4_atLine 7 = .ok (.getfield 207, 3) := by decide +kernel
theorem dX4_atLine_10 : decode cX4_atLine 10 = .ok (.invokevirtual 201, 3) := by decide +kernel
theorem dX4_atLine_13 : decode cX4_atLine 13 = .ok (.ifCond .ne 5, 3) := by decide +kernel
theorem dX4_atLine_16 : decode cX4_atLine 16 = .ok (.iconst 0, 1) := by decide +kernel
theorem dX4_atLine_17 : decode cX4_atLine 17 = .ok (.ireturn, 1) := by decide +kernel
theorem dX4_atLine_18 : decode cX4_atLine 18 = .ok (.aload_n 0, 1) := by decide +kernel
theorem dX4_atLine_19 : decode cX4_atLine 19 = .ok (.getfield 66, 3) := by decide +kernel
theorem dX4_atLine_22 : decode cX4_atLine 22 = .ok (.istore_n 2, 1) := by decide +kernel
theorem dX4_atLine_23 : decode cX4_atLine 23 = .ok (.aload_n 0, 1) := by decide +kernel
theorem dX4_atLine_24 : decode cX4_atLine 24 = .ok (.bipush 23, 2) := by decide +kernel
theorem dX4_atLine_26 : decode cX4_atLine 26 = .ok (.invokevirtual 180, 3) := by decide +kernel
theorem dX4_atLine_29 : decode cX4_atLine 29 = .ok (.ifCond .ne 5, 3) := by decide +kernel
theorem dX4_atLine_32 : decode cX4_atLine 32 = .ok (.iconst 0, 1) := by decide +kernel
theorem dX4_atLine_33 : decode cX4_atLine 33 = .ok (.ireturn, 1) := by decide +kernel
theorem dX4_atLine_34 : decode cX4_atLine 34 = .ok (.aload_n 0, 1) := by decide +kernel
theorem dX4_atLine_35 : decode cX4_atLine 35 = .ok (.getfield 66, 3) := by decide +kernel
theorem dX4_atLine_38 : decode cX4_atLine 38 = .ok (.istore_n 3, 1) := by decide +kernel
theorem dX4_atLine_39 : decode cX4_atLine 39 = .ok (.aload_n 0, 1) := by decide +kernel
theorem dX4_atLine_40 : decode cX4_atLine 40 = .ok (.aload_n 1, 1) := by decide +kernel
theorem dX4_atLine_41 : decode cX4_atLine 41 = .ok (.getfield 199, 3) := by decide +kernel
theorem dX4_atLine_44 : decode cX4_atLine 44 = .ok (.invokevirtual 201, 3) := by decide +kernel
theorem dX4_atLine_47 : decode cX4_atLine 47 = .ok (.ifCond .ne 5, 3) := by decide +kernel
theorem dX4_atLine_50 : decode cX4_atLine 50 = .ok (.iconst 0, 1) := by decide +kernel
theorem dX4_atLine_51 : decode cX4_atLine 51 = .ok (.ireturn, 1) := by decide +kernel
theorem dX4_atLine_52 : decode cX4_atLine 52 = .ok (.aload_n 1, 1) := by decide +kernel
theorem dX4_atLine_53 : decode cX4_atLine 53 = .ok (.getfield 254, 3) := by decide +kernel
theorem dX4_atLine_56 : decode cX4_atLine 56 = .ok (.iload_n 2, 1) := by decide +kernel
theorem dX4_atLine_57 : decode cX4_atLine 57 = .ok (.bipush 24, 2) := by decide +kernel
theorem dX4_atLine_59 : decode cX4_atLine 59 = .ok (.imul, 1) := by decide +kernel
theorem dX4_atLine_60 : decode cX4_atLine 60 = .ok (.iload_n 3, 1) := by decide +kernel
theorem dX4_atLine_61 : decode cX4_atLine 61 = .ok (.iadd, 1) := by decide +kernel
theorem dX4_atLine_62 : decode cX4_atLine 62 = .ok (.aload_n 0, 1) := by decide +kernel
theorem dX4_atLine_63 : decode cX4_atLine 63 = .ok (.getfield 66, 3) := by decide +kernel
theorem dX4_atLine_66 : decode cX4_atLine 66 = .ok (.iastore, 1) := by decide +kernel
theorem dX4_atLine_67 : decode cX4_atLine 67 = .ok (.aload_n 0, 1) := by decide +kernel
theorem dX4_atLine_68 : decode cX4_atLine 68 = .ok (.invokevirtual 177, 3) := by decide +kernel
theorem dX4_atLine_71 : decode cX4_atLine 71 = .ok (.ireturn, 1) := by decide +kernel
theorem dX4_ruleGround_0 : decode cX4_ruleGround 0 = .ok (.aload_n 0, 1) := by decide +kernel
theorem dX4_ruleGround_1 : decode cX4_ruleGround 1 = .ok (.sipush 999, 3) := by decide +kernel
theorem dX4_ruleGround_4 : decode cX4_ruleGround 4 = .ok (.invokevirtual 163, 3) := by decide +kernel
theorem dX4_ruleGround_7 : decode cX4_ruleGround 7 = .ok (.ifCond .ne 5, 3) := by decide +kernel
theorem dX4_ruleGround_10 : decode cX4_ruleGround 10 = .ok (.iconst 0, 1) := by decide +kernel
theorem dX4_ruleGround_11 : decode cX4_ruleGround 11 = .ok (.ireturn, 1) := by decide +kernel
theorem dX4_ruleGround_12 : decode cX4_ruleGround 12 = .ok (.iload_n 3, 1) := by decide +kernel
theorem dX4_ruleGround_13 : decode cX4_ruleGround 13 = .ok (.iconst 3, 1) := by decide +kernel
theorem dX4_ruleGround_14 : decode cX4_ruleGround 14 = .ok (.if_icmp .lt 9, 3) := by decide +kernel
theorem dX4_ruleGround_17 : decode cX4_ruleGround 17 = .ok (.aload_n 0, 1) := by decide +kernel
theorem dX4_ruleGround_18 : decode cX4_ruleGround 18 = .ok (.iconst 2, 1) := by decide +kernel
theorem dX4_ruleGround_19 : decode cX4_ruleGround 19 = .ok (.invokevirtual 153, 3) := by decide +kernel
theorem dX4_ruleGround_22 : decode cX4_ruleGround 22 = .ok (.ireturn, 1) := by decide +kernel
theorem dX4_ruleGround_23 : decode cX4_ruleGround 23 = .ok (.aload_n 0, 1) := by decide +kernel
theorem dX4_ruleGround_24 : decode cX4_ruleGround 24 = .ok (.getfield 66, 3) := by decide +kernel
theorem dX4_ruleGround_27 : decode cX4_ruleGround 27 = .ok (.aload_n 1, 1) := by decide +kernel
theorem dX4_ruleGround_28 : decode cX4_ruleGround 28 = .ok (.getfield 210, 3) := by decide +kernel
theorem dX4_ruleGround_31 : decode cX4_ruleGround 31 = .ok (.if_icmp .lt 9, 3) := by decide +kernel
theorem dX4_ruleGround_34 : decode cX4_ruleGround 34 = .ok (.aload_n 0, 1) := by decide +kernel
theorem dX4_ruleGround_35 : decode cX4_ruleGround 35 = .ok (.iconst 3, 1) := by decide +kernel
theorem dX4_ruleGround_36 : decode cX4_ruleGround 36 = .ok (.invokevirtual 153, 3) := by decide +kernel
theorem dX4_ruleGround_39 : decode cX4_ruleGround 39 = .ok (.ireturn, 1) := by decide +kernel
theorem dX4_ruleGround_40 : decode cX4_ruleGround 40 = .ok (.aload_n 0, 1) := by decide +kernel
theorem dX4_ruleGround_41 : decode cX4_ruleGround 41 = .ok (.getfield 66, 3) := by decide +kernel
theorem dX4_ruleGround_44 : decode cX4_ruleGround 44 = .ok (.aload_n 1, 1) := by decide +kernel
theorem dX4_ruleGround_45 : decode cX4_ruleGround 45 = .ok (.getfield 241, 3) := by decide +kernel
theorem dX4_ruleGround_48 : decode cX4_ruleGround 48 = .ok (.iload_n 2, 1) := by decide +kernel
theorem dX4_ruleGround_49 : decode cX4_ruleGround 49 = .ok (.iaload, 1) := by decide +kernel
theorem dX4_ruleGround_50 : decode cX4_ruleGround 50 = .ok (.if_icmp .eq 19, 3) := by decide +kernel
theorem dX4_ruleGround_53 : decode cX4_ruleGround 53 = .ok (.aload_n 1, 1) := by decide +kernel
theorem dX4_ruleGround_54 : decode cX4_ruleGround 54 = .ok (.getfield 244, 3) := by decide +kernel
theorem dX4_ruleGround_57 : decode cX4_ruleGround 57 = .ok (.iload_n 2, 1) := by decide +kernel
theorem dX4_ruleGround_58 : decode cX4_ruleGround 58 = .ok (.iaload, 1) := by decide +kernel
theorem dX4_ruleGround_59 : decode cX4_ruleGround 59 = .ok (.aload_n 0, 1) := by decide +kernel
theorem dX4_ruleGround_60 : decode cX4_ruleGround 60 = .ok (.getfield 66, 3) := by decide +kernel
theorem dX4_ruleGround_63 : decode cX4_ruleGround 63 = .ok (.invokestatic 251, 3) := by decide +kernel
theorem dX4_ruleGround_66 : decode cX4_ruleGround 66 = .ok (.ifCond .eq 9, 3) := by decide +kernel
theorem dX4_ruleGround_69 : decode cX4_ruleGround 69 = .ok (.aload_n 0, 1) := by decide +kernel
theorem dX4_ruleGround_70 : decode cX4_ruleGround 70 = .ok (.iconst 4, 1) := by decide +kernel
theorem dX4_ruleGround_71 : decode cX4_ruleGround 71 = .ok (.invokevirtual 153, 3) := by decide +kernel
theorem dX4_ruleGround_74 : decode cX4_ruleGround 74 = .ok (.ireturn, 1) := by decide +kernel
theorem dX4_ruleGround_75 : decode cX4_ruleGround 75 = .ok (.aload_n 1, 1) := by decide +kernel
theorem dX4_ruleGround_76 : decode cX4_ruleGround 76 = .ok (.getfield 244, 3) := by decide +kernel
theorem dX4_ruleGround_79 : decode cX4_ruleGround 79 = .ok (.iload_n 2, 1) := by decide +kernel
theorem dX4_ruleGround_80 : decode cX4_ruleGround 80 = .ok (.dup2, 1) := by decide +kernel
theorem dX4_ruleGround_81 : decode cX4_ruleGround 81 = .ok (.iaload, 1) := by decide +kernel
theorem dX4_ruleGround_82 : decode cX4_ruleGround 82 = .ok (.iconst 1, 1) := by decide +kernel
theorem dX4_ruleGround_83 : decode cX4_ruleGround 83 = .ok (.aload_n 0, 1) := by decide +kernel
theorem dX4_ruleGround_84 : decode cX4_ruleGround 84 = .ok (.getfield 66, 3) := by decide +kernel
theorem dX4_ruleGround_87 : decode cX4_ruleGround 87 = .ok (.ishl, 1) := by decide +kernel
theorem dX4_ruleGround_88 : decode cX4_ruleGround 88 = .ok (.ior, 1) := by decide +kernel
theorem dX4_ruleGround_89 : decode cX4_ruleGround 89 = .ok (.iastore, 1) := by decide +kernel
theorem dX4_ruleGround_90 : decode cX4_ruleGround 90 = .ok (.iconst 1, 1) := by decide +kernel
theorem dX4_ruleGround_91 : decode cX4_ruleGround 91 = .ok (.ireturn, 1) := by decide +kernel
theorem dX4_ruleLine_0 : decode cX4_ruleLine 0 = .ok (.aload_n 1, 1) := by decide +kernel
theorem dX4_ruleLine_1 : decode cX4_ruleLine 1 = .ok (.getfield 238, 3) := by decide +kernel
theorem dX4_ruleLine_4 : decode cX4_ruleLine 4 = .ok (.istore_n 2, 1) := by decide +kernel
theorem dX4_ruleLine_5 : decode cX4_ruleLine 5 = .ok (.iload_n 2, 1) := by decide +kernel
theorem dX4_ruleLine_6 : decode cX4_ruleLine 6 = .ok (.bipush 6, 2) := by decide +kernel
theorem dX4_ruleLine_8 : decode cX4_ruleLine 8 = .ok (.if_icmp .lt 9, 3) := by decide +kernel
theorem dX4_ruleLine_11 : decode cX4_ruleLine 11 = .ok (.aload_n 0, 1) := by decide +kernel
theorem dX4_ruleLine_12 : decode cX4_ruleLine 12 = .ok (.iconst 2, 1) := by decide +kernel
theorem dX4_ruleLine_13 : decode cX4_ruleLine 13 = .ok (.invokevirtual 153, 3) := by decide +kernel
theorem dX4_ruleLine_16 : decode cX4_ruleLine 16 = .ok (.ireturn, 1) := by decide +kernel
theorem dX4_ruleLine_17 : decode cX4_ruleLine 17 = .ok (.aload_n 0, 1) := by decide +kernel
theorem dX4_ruleLine_18 : decode cX4_ruleLine 18 = .ok (.aload_n 1, 1) := by decide +kernel
theorem dX4_ruleLine_19 : decode cX4_ruleLine 19 = .ok (.getfield 210, 3) := by decide +kernel
theorem dX4_ruleLine_22 : decode cX4_ruleLine 22 = .ok (.invokevirtual 201, 3) := by decide +kernel
theorem dX4_ruleLine_25 : decode cX4_ruleLine 25 = .ok (.ifCond .ne 5, 3) := by decide +kernel
theorem dX4_ruleLine_28 : decode cX4_ruleLine 28 = .ok (.iconst 0, 1) := by decide +kernel
theorem dX4_ruleLine_29 : decode cX4_ruleLine 29 = .ok (.ireturn, 1) := by decide +kernel
theorem dX4_ruleLine_30 : decode cX4_ruleLine 30 = .ok (.aload_n 1, 1) := by decide +kernel
theorem dX4_ruleLine_31 : decode cX4_ruleLine 31 = .ok (.getfield 241, 3) := by decide +kernel
theorem dX4_ruleLine_34 : decode cX4_ruleLine 34 = .ok (.iload_n 2, 1) := by decide +kernel
theorem dX4_ruleLine_35 : decode cX4_ruleLine 35 = .ok (.aload_n 0, 1) := by decide +kernel
theorem dX4_ruleLine_36 : decode cX4_ruleLine 36 = .ok (.getfield 66, 3) := by decide +kernel
theorem dX4_ruleLine_39 : decode cX4_ruleLine 39 = .ok (.iastore, 1) := by decide +kernel
theorem dX4_ruleLine_40 : decode cX4_ruleLine 40 = .ok (.aload_n 1, 1) := by decide +kernel
theorem dX4_ruleLine_41 : decode cX4_ruleLine 41 = .ok (.getfield 244, 3) := by decide +kernel
theorem dX4_ruleLine_44 : decode cX4_ruleLine 44 = .ok (.iload_n 2, 1) := by decide +kernel
theorem dX4_ruleLine_45 : decode cX4_ruleLine 45 = .ok (.iconst 0, 1) := by decide +kernel
theorem dX4_ruleLine_46 : decode cX4_ruleLine 46 = .ok (.iastore, 1) := by decide +kernel
theorem dX4_ruleLine_47 : decode cX4_ruleLine 47 = .ok (.aload_n 0, 1) := by decide +kernel
theorem dX4_ruleLine_48 : decode cX4_ruleLine 48 = .ok (.invokevirtual 46, 3) := by decide +kernel
theorem dX4_ruleLine_51 : decode cX4_ruleLine 51 = .ok (.iconst 0, 1) := by decide +kernel
theorem dX4_ruleLine_52 : decode cX4_ruleLine 52 = .ok (.istore_n 3, 1) := by decide +kernel
theorem dX4_ruleLine_53 : decode cX4_ruleLine 53 = .ok (.iload_n 3, 1) := by decide +kernel
theorem dX4_ruleLine_54 : decode cX4_ruleLine 54 = .ok (.iconst 3, 1) := by decide +kernel
theorem dX4_ruleLine_55 : decode cX4_ruleLine 55 = .ok (.if_icmp .gt 37, 3) := by decide +kernel
theorem dX4_ruleLine_58 : decode cX4_ruleLine 58 = .ok (.iload_n 3, 1) := by decide +kernel
theorem dX4_ruleLine_59 : decode cX4_ruleLine 59 = .ok (.ifCond .eq 11, 3) := by decide +kernel
theorem dX4_ruleLine_62 : decode cX4_ruleLine 62 = .ok (.aload_n 0, 1) := by decide +kernel
theorem dX4_ruleLine_63 : decode cX4_ruleLine 63 = .ok (.getfield 49, 3) := by decide +kernel
theorem dX4_ruleLine_66 : decode cX4_ruleLine 66 = .ok (.iconst 2, 1) := by decide +kernel
theorem dX4_ruleLine_67 : decode cX4_ruleLine 67 = .ok (.if_icmp .ne 25, 3) := by decide +kernel
theorem dX4_ruleLine_70 : decode cX4_ruleLine 70 = .ok (.aload_n 0, 1) := by decide +kernel
theorem dX4_ruleLine_71 : decode cX4_ruleLine 71 = .ok (.aload_n 1, 1) := by decide +kernel
theorem dX4_ruleLine_72 : decode cX4_ruleLine 72 = .ok (.iload_n 2, 1) := by decide +kernel
theorem dX4_ruleLine_73 : decode cX4_ruleLine 73 = .ok (.iload_n 3, 1) := by decide +kernel
theorem dX4_ruleLine_74 : decode cX4_ruleLine 74 = .ok (.invokevirtual 247, 3) := by decide +kernel
theorem dX4_ruleLine_77 : decode cX4_ruleLine 77 = .ok (.ifCond .ne 5, 3) := by decide +kernel
theorem dX4_ruleLine_80 : decode cX4_ruleLine 80 = .ok (.iconst 0, 1) := by decide +kernel
theorem dX4_ruleLine_81 : decode cX4_ruleLine 81 = .ok (.ireturn, 1) := by decide +kernel
theorem dX4_ruleLine_82 : decode cX4_ruleLine 82 = .ok (.aload_n 0, 1) := by decide +kernel
theorem dX4_ruleLine_83 : decode cX4_ruleLine 83 = .ok (.invokevirtual 46, 3) := by decide +kernel
theorem dX4_ruleLine_86 : decode cX4_ruleLine 86 = .ok (.iinc 3 1, 3) := by decide +kernel
theorem dX4_ruleLine_89 : decode cX4_ruleLine 89 = .ok (.goto (-36), 3) := by decide +kernel
theorem dX4_ruleLine_92 : decode cX4_ruleLine 92 = .ok (.aload_n 1, 1) := by decide +kernel
theorem dX4_ruleLine_93 : decode cX4_ruleLine 93 = .ok (.dup, 1) := by decide +kernel
theorem dX4_ruleLine_94 : decode cX4_ruleLine 94 = .ok (.getfield 238, 3) := by decide +kernel
theorem dX4_ruleLine_97 : decode cX4_ruleLine 97 = .ok (.iconst 1, 1) := by decide +kernel
theorem dX4_ruleLine_98 : decode cX4_ruleLine 98 = .ok (.iadd, 1) := by decide +kernel
theorem dX4_ruleLine_99 : decode cX4_ruleLine 99 = .ok (.putfield 238, 3) := by decide +kernel
theorem dX4_ruleLine_102 : decode cX4_ruleLine 102 = .ok (.aload_n 0, 1) := by decide +kernel
theorem dX4_ruleLine_103 : decode cX4_ruleLine 103 = .ok (.invokevirtual 166, 3) := by decide +kernel
theorem dX4_ruleLine_106 : decode cX4_ruleLine 106 = .ok (.ireturn, 1) := by decide +kernel
theorem dX4_thingSigns_0 : decode cX4_thingSigns 0 = .ok (.aload_n 0, 1) := by decide +kernel
theorem dX4_thingSigns_1 : decode cX4_thingSigns 1 = .ok (.invokevirtual 46, 3) := by decide +kernel
theorem dX4_thingSigns_4 : decode cX4_thingSigns 4 = .ok (.aload_n 0, 1) := by decide +kernel
theorem dX4_thingSigns_5 : decode cX4_thingSigns 5 = .ok (.ldc 230, 2) := by decide +kernel
theorem dX4_thingSigns_7 : decode cX4_thingSigns 7 = .ok (.invokevirtual 92, 3) := by decide +kernel
theorem dX4_thingSigns_10 : decode cX4_thingSigns 10 = .ok (.ifCond .eq 19, 3) := by decide +kernel
theorem dX4_thingSigns_13 : decode cX4_thingSigns 13 = .ok (.aload_n 1, 1) := by decide +kernel
theorem dX4_thingSigns_14 : decode cX4_thingSigns 14 = .ok (.dup, 1) := by decide +kernel
theorem dX4_thingSigns_15 : decode cX4_thingSigns 15 = .ok (.getfield 232, 3) := by decide +kernel
theorem dX4_thingSigns_18 : decode cX4_thingSigns 18 = .ok (.iconst 1, 1) := by decide +kernel
theorem dX4_thingSigns_19 : decode cX4_thingSigns 19 = .ok (.iload_n 2, 1) := by decide +kernel
theorem dX4_thingSigns_20 : decode cX4_thingSigns 20 = .ok (.ishl, 1) := by decide +kernel
theorem dX4_thingSigns_21 : decode cX4_thingSigns 21 = .ok (.ior, 1) := by decide +kernel
theorem dX4_thingSigns_22 : decode cX4_thingSigns 22 = .ok (.putfield 232, 3) := by decide +kernel
theorem dX4_thingSigns_25 : decode cX4_thingSigns 25 = .ok (.aload_n 0, 1) := by decide +kernel
theorem dX4_thingSigns_26 : decode cX4_thingSigns 26 = .ok (.invokevirtual 46, 3) := by decide +kernel
theorem dX4_thingSigns_29 : decode cX4_thingSigns 29 = .ok (.aload_n 0, 1) := by decide +kernel
theorem dX4_thingSigns_30 : decode cX4_thingSigns 30 = .ok (.ldc 234, 2) := by decide +kernel
theorem dX4_thingSigns_32 : decode cX4_thingSigns 32 = .ok (.invokevirtual 92, 3) := by decide +kernel
theorem dX4_thingSigns_35 : decode cX4_thingSigns 35 = .ok (.ifCond .eq 19, 3) := by decide +kernel
theorem dX4_thingSigns_38 : decode cX4_thingSigns 38 = .ok (.aload_n 1, 1) := by decide +kernel
theorem dX4_thingSigns_39 : decode cX4_thingSigns 39 = .ok (.dup, 1) := by decide +kernel
theorem dX4_thingSigns_40 : decode cX4_thingSigns 40 = .ok (.getfield 236, 3) := by decide +kernel
theorem dX4_thingSigns_43 : decode cX4_thingSigns 43 = .ok (.iconst 1, 1) := by decide +kernel
theorem dX4_thingSigns_44 : decode cX4_thingSigns 44 = .ok (.iload_n 2, 1) := by decide +kernel
theorem dX4_thingSigns_45 : decode cX4_thingSigns 45 = .ok (.ishl, 1) := by decide +kernel
theorem dX4_thingSigns_46 : decode cX4_thingSigns 46 = .ok (.ior, 1) := by decide +kernel
theorem dX4_thingSigns_47 : decode cX4_thingSigns 47 = .ok (.putfield 236, 3) := by decide +kernel
theorem dX4_thingSigns_50 : decode cX4_thingSigns 50 = .ok (.aload_n 0, 1) := by decide +kernel
theorem dX4_thingSigns_51 : decode cX4_thingSigns 51 = .ok (.invokevirtual 46, 3) := by decide +kernel
theorem dX4_thingSigns_54 : decode cX4_thingSigns 54 = .ok (.aload_n 0, 1) := by decide +kernel
theorem dX4_thingSigns_55 : decode cX4_thingSigns 55 = .ok (.invokevirtual 166, 3) := by decide +kernel
theorem dX4_thingSigns_58 : decode cX4_thingSigns 58 = .ok (.ireturn, 1) := by decide +kernel
theorem dX4_thingLine_0 : decode cX4_thingLine 0 = .ok (.aload_n 0, 1) := by decide +kernel
theorem dX4_thingLine_1 : decode cX4_thingLine 1 = .ok (.iconst 1, 1) := by decide +kernel
theorem dX4_thingLine_2 : decode cX4_thingLine 2 = .ok (.putfield 35, 3) := by decide +kernel
theorem dX4_thingLine_5 : decode cX4_thingLine 5 = .ok (.aload_n 1, 1) := by decide +kernel
theorem dX4_thingLine_6 : decode cX4_thingLine 6 = .ok (.getfield 210, 3) := by decide +kernel
theorem dX4_thingLine_9 : decode cX4_thingLine 9 = .ok (.istore_n 2, 1) := by decide +kernel
theorem dX4_thingLine_10 : decode cX4_thingLine 10 = .ok (.iload_n 2, 1) := by decide +kernel
theorem dX4_thingLine_11 : decode cX4_thingLine 11 = .ok (.bipush 8, 2) := by decide +kernel
theorem dX4_thingLine_13 : decode cX4_thingLine 13 = .ok (.if_icmp .lt 9, 3) := by decide +kernel
theorem dX4_thingLine_16 : decode cX4_thingLine 16 = .ok (.aload_n 0, 1) := by decide +kernel
theorem dX4_thingLine_17 : decode cX4_thingLine 17 = .ok (.iconst 2, 1) := by decide +kernel
theorem dX4_thingLine_18 : decode cX4_thingLine 18 = .ok (.invokevirtual 153, 3) := by decide +kernel
theorem dX4_thingLine_21 : decode cX4_thingLine 21 = .ok (.ireturn, 1) := by decide +kernel
theorem dX4_thingLine_22 : decode cX4_thingLine 22 = .ok (.aload_n 0, 1) := by decide +kernel
theorem dX4_thingLine_23 : decode cX4_thingLine 23 = .ok (.aload_n 1, 1) := by decide +kernel
theorem dX4_thingLine_24 : decode cX4_thingLine 24 = .ok (.getfield 96, 3) := by decide +kernel
theorem dX4_thingLine_27 : decode cX4_thingLine 27 = .ok (.getfield 170, 3) := by decide +kernel
theorem dX4_thingLine_30 : decode cX4_thingLine 30 = .ok (.invokevirtual 201, 3) := by decide +kernel
theorem dX4_thingLine_33 : decode cX4_thingLine 33 = .ok (.ifCond .ne 5, 3) := by decide +kernel
theorem dX4_thingLine_36 : decode cX4_thingLine 36 = .ok (.iconst 0, 1) := by decide +kernel
theorem dX4_thingLine_37 : decode cX4_thingLine 37 = .ok (.ireturn, 1) := by decide +kernel
theorem dX4_thingLine_38 : decode cX4_thingLine 38 = .ok (.aload_n 1, 1) := by decide +kernel
theorem dX4_thingLine_39 : decode cX4_thingLine 39 = .ok (.aload_n 0, 1) := by decide +kernel
theorem dX4_thingLine_40 : decode cX4_thingLine 40 = .ok (.getfield 66, 3) := by decide +kernel
theorem dX4_thingLine_43 : decode cX4_thingLine 43 = .ok (.invokevirtual 213, 3) := by decide +kernel
theorem dX4_thingLine_46 : decode cX4_thingLine 46 = .ok (.iconst (-1), 1) := by decide +kernel
theorem dX4_thingLine_47 : decode cX4_thingLine 47 = .ok (.if_icmp .eq 9, 3) := by decide +kernel
theorem dX4_thingLine_50 : decode cX4_thingLine 50 = .ok (.aload_n 0, 1) := by decide +kernel
theorem dX4_thingLine_51 : decode cX4_thingLine 51 = .ok (.iconst 4, 1) := by decide +kernel
theorem dX4_thingLine_52 : decode cX4_thingLine 52 = .ok (.invokevirtual 153, 3) := by decide +kernel
theorem dX4_thingLine_55 : decode cX4_thingLine 55 = .ok (.ireturn, 1) := by decide +kernel
theorem dX4_thingLine_56 : decode cX4_thingLine 56 = .ok (.aload_n 1, 1) := by decide +kernel
theorem dX4_thingLine_57 : decode cX4_thingLine 57 = .ok (.getfield 217, 3) := by decide +kernel
theorem dX4_thingLine_60 : decode cX4_thingLine 60 = .ok (.iload_n 2, 1) := by decide +kernel
theorem dX4_thingLine_61 : decode cX4_thingLine 61 = .ok (.aload_n 0, 1) := by decide +kernel
theorem dX4_thingLine_62 : decode cX4_thingLine 62 = .ok (.getfield 66, 3) := by decide +kernel
theorem dX4_thingLine_65 : decode cX4_thingLine 65 = .ok (.iastore, 1) := by decide +kernel
theorem dX4_thingLine_66 : decode cX4_thingLine 66 = .ok (.aload_n 0, 1) := by decide +kernel
theorem dX4_thingLine_67 : decode cX4_thingLine 67 = .ok (.aload_n 1, 1) := by decide +kernel
theorem dX4_thingLine_68 : decode cX4_thingLine 68 = .ok (.getfield 199, 3) := by decide +kernel
theorem dX4_thingLine_71 : decode cX4_thingLine 71 = .ok (.invokevirtual 201, 3) := by decide +kernel
theorem dX4_thingLine_74 : decode cX4_thingLine 74 = .ok (.ifCond .ne 5, 3) := by decide +kernel
theorem dX4_thingLine_77 : decode cX4_thingLine 77 = .ok (.iconst 0, 1) := by decide +kernel
theorem dX4_thingLine_78 : decode cX4_thingLine 78 = .ok (.ireturn, 1) := by decide +kernel
theorem dX4_thingLine_79 : decode cX4_thingLine 79 = .ok (.aload_n 1, 1) := by decide +kernel
theorem dX4_thingLine_80 : decode cX4_thingLine 80 = .ok (.getfield 220, 3) := by decide +kernel
theorem dX4_thingLine_83 : decode cX4_thingLine 83 = .ok (.iload_n 2, 1) := by decide +kernel
theorem dX4_thingLine_84 : decode cX4_thingLine 84 = .ok (.aload_n 0, 1) := by decide +kernel
theorem dX4_thingLine_85 : decode cX4_thingLine 85 = .ok (.getfield 66, 3) := by decide +kernel
theorem dX4_thingLine_88 : decode cX4_thingLine 88 = .ok (.iastore, 1) := by decide +kernel
theorem dX4_thingLine_89 : decode cX4_thingLine 89 = .ok (.aload_n 0, 1) := by decide +kernel
theorem dX4_thingLine_90 : decode cX4_thingLine 90 = .ok (.bipush 23, 2) := by decide +kernel
theorem dX4_thingLine_92 : decode cX4_thingLine 92 = .ok (.invokevirtual 180, 3) := by decide +kernel
theorem dX4_thingLine_95 : decode cX4_thingLine 95 = .ok (.ifCond .ne 5, 3) := by decide +kernel
theorem dX4_thingLine_98 : decode cX4_thingLine 98 = .ok (.iconst 0, 1) := by decide +kernel
theorem dX4_thingLine_99 : decode cX4_thingLine 99 = .ok (.ireturn, 1) := by decide +kernel
theorem dX4_thingLine_100 : decode cX4_thingLine 100 = .ok (.aload_n 1, 1) := by decide +kernel
theorem dX4_thingLine_101 : decode cX4_thingLine 101 = .ok (.getfield 223, 3) := by decide +kernel
theorem dX4_thingLine_104 : decode cX4_thingLine 104 = .ok (.iload_n 2, 1) := by decide +kernel
theorem dX4_thingLine_105 : decode cX4_thingLine 105 = .ok (.aload_n 0, 1) := by decide +kernel
theorem dX4_thingLine_106 : decode cX4_thingLine 106 = .ok (.getfield 66, 3) := by decide +kernel
theorem dX4_thingLine_109 : decode cX4_thingLine 109 = .ok (.iastore, 1) := by decide +kernel
theorem dX4_thingLine_110 : decode cX4_thingLine 110 = .ok (.aload_n 1, 1) := by decide +kernel
theorem dX4_thingLine_111 : decode cX4_thingLine 111 = .ok (.dup, 1) := by decide +kernel
theorem dX4_thingLine_112 : decode cX4_thingLine 112 = .ok (.getfield 210, 3) := by decide +kernel
theorem dX4_thingLine_115 : decode cX4_thingLine 115 = .ok (.iconst 1, 1) := by decide +kernel
theorem dX4_thingLine_116 : decode cX4_thingLine 116 = .ok (.iadd, 1) := by decide +kernel
theorem dX4_thingLine_117 : decode cX4_thingLine 117 = .ok (.putfield 210, 3) := by decide +kernel
theorem dX4_thingLine_120 : decode cX4_thingLine 120 = .ok (.aload_n 0, 1) := by decide +kernel
theorem dX4_thingLine_121 : decode cX4_thingLine 121 = .ok (.aload_n 1, 1) := by decide +kernel
theorem dX4_thingLine_122 : decode cX4_thingLine 122 = .ok (.iload_n 2, 1) := by decide +kernel
theorem dX4_thingLine_123 : decode cX4_thingLine 123 = .ok (.invokevirtual 226, 3) := by decide +kernel
theorem dX4_thingLine_126 : decode cX4_thingLine 126 = .ok (.ireturn, 1) := by decide +kernel
theorem dX4_personLine_0 : decode cX4_personLine 0 = .ok (.aload_n 1, 1) := by decide +kernel
theorem dX4_personLine_1 : decode cX4_personLine 1 = .ok (.getfield 207, 3) := by decide +kernel
theorem dX4_personLine_4 : decode cX4_personLine 4 = .ok (.bipush 6, 2) := by decide +kernel
theorem dX4_personLine_6 : decode cX4_personLine 6 = .ok (.if_icmp .lt 9, 3) := by decide +kernel
theorem dX4_personLine_9 : decode cX4_personLine 9 = .ok (.aload_n 0, 1) := by decide +kernel
theorem dX4_personLine_10 : decode cX4_personLine 10 = .ok (.iconst 2, 1) := by decide +kernel
theorem dX4_personLine_11 : decode cX4_personLine 11 = .ok (.invokevirtual 153, 3) := by decide +kernel
theorem dX4_personLine_14 : decode cX4_personLine 14 = .ok (.ireturn, 1) := by decide +kernel
theorem dX4_personLine_15 : decode cX4_personLine 15 = .ok (.aload_n 1, 1) := by decide +kernel
theorem dX4_personLine_16 : decode cX4_personLine 16 = .ok (.dup, 1) := by decide +kernel
theorem dX4_personLine_17 : decode cX4_personLine 17 = .ok (.getfield 207, 3) := by decide +kernel
theorem dX4_personLine_20 : decode cX4_personLine 20 = .ok (.iconst 1, 1) := by decide +kernel
theorem dX4_personLine_21 : decode cX4_personLine 21 = .ok (.iadd, 1) := by decide +kernel
theorem dX4_personLine_22 : decode cX4_personLine 22 = .ok (.putfield 207, 3) := by decide +kernel
theorem dX4_personLine_25 : decode cX4_personLine 25 = .ok (.aload_n 0, 1) := by decide +kernel
theorem dX4_personLine_26 : decode cX4_personLine 26 = .ok (.invokevirtual 177, 3) := by decide +kernel
theorem dX4_personLine_29 : decode cX4_personLine 29 = .ok (.ireturn, 1) := by decide +kernel
theorem dX4_nearLine_0 : decode cX4_nearLine 0 = .ok (.aload_n 0, 1) := by decide +kernel
theorem dX4_nearLine_1 : decode cX4_nearLine 1 = .ok (.iconst 1, 1) := by decide +kernel
theorem dX4_nearLine_2 : decode cX4_nearLine 2 = .ok (.putfield 35, 3) := by decide +kernel
theorem dX4_nearLine_5 : decode cX4_nearLine 5 = .ok (.aload_n 0, 1) := by decide +kernel
theorem dX4_nearLine_6 : decode cX4_nearLine 6 = .ok (.aload_n 1, 1) := by decide +kernel
theorem dX4_nearLine_7 : decode cX4_nearLine 7 = .ok (.getfield 199, 3) := by decide +kernel
theorem dX4_nearLine_10 : decode cX4_nearLine 10 = .ok (.invokevirtual 201, 3) := by decide +kernel
theorem dX4_nearLine_13 : decode cX4_nearLine 13 = .ok (.ifCond .ne 5, 3) := by decide +kernel
theorem dX4_nearLine_16 : decode cX4_nearLine 16 = .ok (.iconst 0, 1) := by decide +kernel
theorem dX4_nearLine_17 : decode cX4_nearLine 17 = .ok (.ireturn, 1) := by decide +kernel
theorem dX4_nearLine_18 : decode cX4_nearLine 18 = .ok (.aload_n 0, 1) := by decide +kernel
theorem dX4_nearLine_19 : decode cX4_nearLine 19 = .ok (.getfield 66, 3) := by decide +kernel
theorem dX4_nearLine_22 : decode cX4_nearLine 22 = .ok (.istore_n 2, 1) := by decide +kernel
theorem dX4_nearLine_23 : decode cX4_nearLine 23 = .ok (.aload_n 0, 1) := by decide +kernel
theorem dX4_nearLine_24 : decode cX4_nearLine 24 = .ok (.aload_n 1, 1) := by decide +kernel
theorem dX4_nearLine_25 : decode cX4_nearLine 25 = .ok (.getfield 199, 3) := by decide +kernel
theorem dX4_nearLine_28 : decode cX4_nearLine 28 = .ok (.invokevirtual 201, 3) := by decide +kernel
theorem dX4_nearLine_31 : decode cX4_nearLine 31 = .ok (.ifCond .ne 5, 3) := by decide +kernel
theorem dX4_nearLine_34 : decode cX4_nearLine 34 = .ok (.iconst 0, 1) := by decide +kernel
theorem dX4_nearLine_35 : decode cX4_nearLine 35 = .ok (.ireturn, 1) := by decide +kernel
theorem dX4_nearLine_36 : decode cX4_nearLine 36 = .ok (.aload_n 0, 1) := by decide +kernel
theorem dX4_nearLine_37 : decode cX4_nearLine 37 = .ok (.getfield 66, 3) := by decide +kernel
theorem dX4_nearLine_40 : decode cX4_nearLine 40 = .ok (.iload_n 2, 1) := by decide +kernel
theorem dX4_nearLine_41 : decode cX4_nearLine 41 = .ok (.if_icmp .ne 9, 3) := by decide +kernel
theorem dX4_nearLine_44 : decode cX4_nearLine 44 = .ok (.aload_n 0, 1) := by decide +kernel
theorem dX4_nearLine_45 : decode cX4_nearLine 45 = .ok (.iconst 4, 1) := by decide +kernel
theorem dX4_nearLine_46 : decode cX4_nearLine 46 = .ok (.invokevirtual 153, 3) := by decide +kernel
theorem dX4_nearLine_49 : decode cX4_nearLine 49 = .ok (.ireturn, 1) := by decide +kernel
theorem dX4_nearLine_50 : decode cX4_nearLine 50 = .ok (.aload_n 1, 1) := by decide +kernel
theorem dX4_nearLine_51 : decode cX4_nearLine 51 = .ok (.getfield 204, 3) := by decide +kernel
theorem dX4_nearLine_54 : decode cX4_nearLine 54 = .ok (.iload_n 2, 1) := by decide +kernel
theorem dX4_nearLine_55 : decode cX4_nearLine 55 = .ok (.dup2, 1) := by decide +kernel
theorem dX4_nearLine_56 : decode cX4_nearLine 56 = .ok (.iaload, 1) := by decide +kernel
theorem dX4_nearLine_57 : decode cX4_nearLine 57 = .ok (.iconst 1, 1) := by decide +kernel
theorem dX4_nearLine_58 : decode cX4_nearLine 58 = .ok (.aload_n 0, 1) := by decide +kernel
theorem dX4_nearLine_59 : decode cX4_nearLine 59 = .ok (.getfield 66, 3) := by decide +kernel
theorem dX4_nearLine_62 : decode cX4_nearLine 62 = .ok (.ishl, 1) := by decide +kernel
theorem dX4_nearLine_63 : decode cX4_nearLine 63 = .ok (.ior, 1) := by decide +kernel
theorem dX4_nearLine_64 : decode cX4_nearLine 64 = .ok (.iastore, 1) := by decide +kernel
theorem dX4_nearLine_65 : decode cX4_nearLine 65 = .ok (.aload_n 1, 1) := by decide +kernel
theorem dX4_nearLine_66 : decode cX4_nearLine 66 = .ok (.getfield 204, 3) := by decide +kernel
theorem dX4_nearLine_69 : decode cX4_nearLine 69 = .ok (.aload_n 0, 1) := by decide +kernel
theorem dX4_nearLine_70 : decode cX4_nearLine 70 = .ok (.getfield 66, 3) := by decide +kernel
theorem dX4_nearLine_73 : decode cX4_nearLine 73 = .ok (.dup2, 1) := by decide +kernel
theorem dX4_nearLine_74 : decode cX4_nearLine 74 = .ok (.iaload, 1) := by decide +kernel
theorem dX4_nearLine_75 : decode cX4_nearLine 75 = .ok (.iconst 1, 1) := by decide +kernel
theorem dX4_nearLine_76 : decode cX4_nearLine 76 = .ok (.iload_n 2, 1) := by decide +kernel
theorem dX4_nearLine_77 : decode cX4_nearLine 77 = .ok (.ishl, 1) := by decide +kernel
theorem dX4_nearLine_78 : decode cX4_nearLine 78 = .ok (.ior, 1) := by decide +kernel
theorem dX4_nearLine_79 : decode cX4_nearLine 79 = .ok (.iastore, 1) := by decide +kernel
theorem dX4_nearLine_80 : decode cX4_nearLine 80 = .ok (.aload_n 0, 1) := by decide +kernel
theorem dX4_nearLine_81 : decode cX4_nearLine 81 = .ok (.invokevirtual 177, 3) := by decide +kernel
theorem dX4_nearLine_84 : decode cX4_nearLine 84 = .ok (.ireturn, 1) := by decide +kernel
theorem dX4_placesLine_0 : decode cX4_placesLine 0 = .ok (.aload_n 0, 1) := by decide +kernel
theorem dX4_placesLine_1 : decode cX4_placesLine 1 = .ok (.getfield 31, 3) := by decide +kernel
theorem dX4_placesLine_4 : decode cX4_placesLine 4 = .ok (.ifCond .eq 9, 3) := by decide +kernel
theorem dX4_placesLine_7 : decode cX4_placesLine 7 = .ok (.aload_n 0, 1) := by decide +kernel
theorem dX4_placesLine_8 : decode cX4_placesLine 8 = .ok (.iconst 4, 1) := by decide +kernel
theorem dX4_placesLine_9 : decode cX4_placesLine 9 = .ok (.invokevirtual 153, 3) := by decide +kernel
theorem dX4_placesLine_12 : decode cX4_placesLine 12 = .ok (.ireturn, 1) := by decide +kernel
theorem dX4_placesLine_13 : decode cX4_placesLine 13 = .ok (.aload_n 0, 1) := by decide +kernel
theorem dX4_placesLine_14 : decode cX4_placesLine 14 = .ok (.getfield 35, 3) := by decide +kernel
theorem dX4_placesLine_17 : decode cX4_placesLine 17 = .ok (.ifCond .eq 9, 3) := by decide +kernel
theorem dX4_placesLine_20 : decode cX4_placesLine 20 = .ok (.aload_n 0, 1) := by decide +kernel
theorem dX4_placesLine_21 : decode cX4_placesLine 21 = .ok (.iconst 5, 1) := by decide +kernel
theorem dX4_placesLine_22 : decode cX4_placesLine 22 = .ok (.invokevirtual 153, 3) := by decide +kernel
theorem dX4_placesLine_25 : decode cX4_placesLine 25 = .ok (.ireturn, 1) := by decide +kernel
theorem dX4_placesLine_26 : decode cX4_placesLine 26 = .ok (.aload_n 0, 1) := by decide +kernel
theorem dX4_placesLine_27 : decode cX4_placesLine 27 = .ok (.iconst 1, 1) := by decide +kernel
theorem dX4_placesLine_28 : decode cX4_placesLine 28 = .ok (.putfield 31, 3) := by decide +kernel
theorem dX4_placesLine_31 : decode cX4_placesLine 31 = .ok (.aload_n 0, 1) := by decide +kernel
theorem dX4_placesLine_32 : decode cX4_placesLine 32 = .ok (.bipush 6, 2) := by decide +kernel
theorem dX4_placesLine_34 : decode cX4_placesLine 34 = .ok (.invokevirtual 180, 3) := by decide +kernel
theorem dX4_placesLine_37 : decode cX4_placesLine 37 = .ok (.ifCond .ne 5, 3) := by decide +kernel
theorem dX4_placesLine_40 : decode cX4_placesLine 40 = .ok (.iconst 0, 1) := by decide +kernel
theorem dX4_placesLine_41 : decode cX4_placesLine 41 = .ok (.ireturn, 1) := by decide +kernel
theorem dX4_placesLine_42 : decode cX4_placesLine 42 = .ok (.aload_n 0, 1) := by decide +kernel
theorem dX4_placesLine_43 : decode cX4_placesLine 43 = .ok (.getfield 66, 3) := by decide +kernel
theorem dX4_placesLine_46 : decode cX4_placesLine 46 = .ok (.iconst 1, 1) := by decide +kernel
theorem dX4_placesLine_47 : decode cX4_placesLine 47 = .ok (.if_icmp .ge 9, 3) := by decide +kernel
theorem dX4_placesLine_50 : decode cX4_placesLine 50 = .ok (.aload_n 0, 1) := by decide +kernel
theorem dX4_placesLine_51 : decode cX4_placesLine 51 = .ok (.iconst 2, 1) := by decide +kernel
theorem dX4_placesLine_52 : decode cX4_placesLine 52 = .ok (.invokevirtual 153, 3) := by decide +kernel
theorem dX4_placesLine_55 : decode cX4_placesLine 55 = .ok (.ireturn, 1) := by decide +kernel
theorem dX4_placesLine_56 : decode cX4_placesLine 56 = .ok (.aload_n 1, 1) := by decide +kernel
theorem dX4_placesLine_57 : decode cX4_placesLine 57 = .ok (.aload_n 0, 1) := by decide +kernel
theorem dX4_placesLine_58 : decode cX4_placesLine 58 = .ok (.getfield 66, 3) := by decide +kernel
theorem dX4_placesLine_61 : decode cX4_placesLine 61 = .ok (.putfield 199, 3) := by decide +kernel
theorem dX4_placesLine_64 : decode cX4_placesLine 64 = .ok (.aload_n 0, 1) := by decide +kernel
theorem dX4_placesLine_65 : decode cX4_placesLine 65 = .ok (.invokevirtual 177, 3) := by decide +kernel
theorem dX4_placesLine_68 : decode cX4_placesLine 68 = .ok (.ireturn, 1) := by decide +kernel
theorem dX5_put_0 : decode cX5_put 0 = .ok (.iload 4, 2) := by decide +kernel
theorem dX5_put_2 : decode cX5_put 2 = .ok (.bipush 8, 2) := by decide +kernel
theorem dX5_put_4 : decode cX5_put 4 = .ok (.if_icmp .gt 16, 3) := by decide +kernel
theorem dX5_put_7 : decode cX5_put 7 = .ok (.iload_n 3, 1) := by decide +kernel
theorem dX5_put_8 : decode cX5_put 8 = .ok (.ifCond .lt 12, 3) := by decide +kernel
theorem dX5_put_11 : decode cX5_put 11 = .ok (.iload_n 3, 1) := by decide +kernel
theorem dX5_put_12 : decode cX5_put 12 = .ok (.iload 4, 2) := by decide +kernel
theorem dX5_put_14 : decode cX5_put 14 = .ok (.iadd, 1) := by decide +kernel
theorem dX5_put_15 : decode cX5_put 15 = .ok (.aload_n 2, 1) := by decide +kernel
theorem dX5_put_16 : decode cX5_put 16 = .ok (.arraylength, 1) := by decide +kernel
theorem dX5_put_17 : decode cX5_put 17 = .ok (.if_icmp .le 4, 3) := by decide +kernel
theorem dX5_put_20 : decode cX5_put 20 = .ok (.return_, 1) := by decide +kernel
theorem dX5_put_21 : decode cX5_put 21 = .ok (.aload_n 0, 1) := by decide +kernel
theorem dX5_put_22 : decode cX5_put 22 = .ok (.getfield 15, 3) := by decide +kernel
theorem dX5_put_25 : decode cX5_put 25 = .ok (.iload_n 1, 1) := by decide +kernel
theorem dX5_put_26 : decode cX5_put 26 = .ok (.iload 4, 2) := by decide +kernel
theorem dX5_put_28 : decode cX5_put 28 = .ok (.iastore, 1) := by decide +kernel
theorem dX5_put_29 : decode cX5_put 29 = .ok (.aload_n 2, 1) := by decide +kernel
theorem dX5_put_30 : decode cX5_put 30 = .ok (.iload_n 3, 1) := by decide +kernel
theorem dX5_put_31 : decode cX5_put 31 = .ok (.aload_n 0, 1) := by decide +kernel
theorem dX5_put_32 : decode cX5_put 32 = .ok (.getfield 11, 3) := by decide +kernel
theorem dX5_put_35 : decode cX5_put 35 = .ok (.iload_n 1, 1) := by decide +kernel
theorem dX5_put_36 : decode cX5_put 36 = .ok (.bipush 8, 2) := by decide +kernel
theorem dX5_put_38 : decode cX5_put 38 = .ok (.imul, 1) := by decide +kernel
theorem dX5_put_39 : decode cX5_put 39 = .ok (.iload 4, 2) := by decide +kernel
theorem dX5_put_41 : decode cX5_put 41 = .ok (.invokestatic 35, 3) := by decide +kernel
theorem dX5_put_44 : decode cX5_put 44 = .ok (.return_, 1) := by decide +kernel
theorem dX4_letters_0 : decode cX4_letters 0 = .ok (.aload_n 0, 1) := by decide +kernel
theorem dX4_letters_1 : decode cX4_letters 1 = .ok (.invokevirtual 46, 3) := by decide +kernel
theorem dX4_letters_4 : decode cX4_letters 4 = .ok (.aload_n 0, 1) := by decide +kernel
theorem dX4_letters_5 : decode cX4_letters 5 = .ok (.getfield 49, 3) := by decide +kernel
theorem dX4_letters_8 : decode cX4_letters 8 = .ok (.iconst 1, 1) := by decide +kernel
theorem dX4_letters_9 : decode cX4_letters 9 = .ok (.if_icmp .eq 9, 3) := by decide +kernel
theorem dX4_letters_12 : decode cX4_letters 12 = .ok (.aload_n 0, 1) := by decide +kernel
theorem dX4_letters_13 : decode cX4_letters 13 = .ok (.iconst 1, 1) := by decide +kernel
theorem dX4_letters_14 : decode cX4_letters 14 = .ok (.invokevirtual 153, 3) := by decide +kernel
theorem dX4_letters_17 : decode cX4_letters 17 = .ok (.ireturn, 1) := by decide +kernel
theorem dX4_letters_18 : decode cX4_letters 18 = .ok (.aload_n 0, 1) := by decide +kernel
theorem dX4_letters_19 : decode cX4_letters 19 = .ok (.getfield 78, 3) := by decide +kernel
theorem dX4_letters_22 : decode cX4_letters 22 = .ok (.bipush 8, 2) := by decide +kernel
theorem dX4_letters_24 : decode cX4_letters 24 = .ok (.if_icmp .le 9, 3) := by decide +kernel
theorem dX4_letters_27 : decode cX4_letters 27 = .ok (.aload_n 0, 1) := by decide +kernel
theorem dX4_letters_28 : decode cX4_letters 28 = .ok (.iconst 2, 1) := by decide +kernel
theorem dX4_letters_29 : decode cX4_letters 29 = .ok (.invokevirtual 153, 3) := by decide +kernel
theorem dX4_letters_32 : decode cX4_letters 32 = .ok (.ireturn, 1) := by decide +kernel
theorem dX4_letters_33 : decode cX4_letters 33 = .ok (.aload_n 1, 1) := by decide +kernel
theorem dX4_letters_34 : decode cX4_letters 34 = .ok (.iload_n 2, 1) := by decide +kernel
theorem dX4_letters_35 : decode cX4_letters 35 = .ok (.aload_n 0, 1) := by decide +kernel
theorem dX4_letters_36 : decode cX4_letters 36 = .ok (.getfield 15, 3) := by decide +kernel
theorem dX4_letters_39 : decode cX4_letters 39 = .ok (.aload_n 0, 1) := by decide +kernel
theorem dX4_letters_40 : decode cX4_letters 40 = .ok (.getfield 59, 3) := by decide +kernel
theorem dX4_letters_43 : decode cX4_letters 43 = .ok (.aload_n 0, 1) := by decide +kernel
theorem dX4_letters_44 : decode cX4_letters 44 = .ok (.getfield 78, 3) := by decide +kernel
theorem dX4_letters_47 : decode cX4_letters 47 = .ok (.invokevirtual 157, 3) := by decide +kernel
theorem dX4_letters_50 : decode cX4_letters 50 = .ok (.iconst 1, 1) := by decide +kernel
theorem dX4_letters_51 : decode cX4_letters 51 = .ok (.ireturn, 1) := by decide +kernel
theorem dX4_notLine_0 : decode cX4_notLine 0 = .ok (.aload_n 1, 1) := by decide +kernel
theorem dX4_notLine_1 : decode cX4_notLine 1 = .ok (.invokevirtual 196, 3) := by decide +kernel
theorem dX4_notLine_4 : decode cX4_notLine 4 = .ok (.ifCond .eq 9, 3) := by decide +kernel
theorem dX4_notLine_7 : decode cX4_notLine 7 = .ok (.aload_n 0, 1) := by decide +kernel
theorem dX4_notLine_8 : decode cX4_notLine 8 = .ok (.iconst 4, 1) := by decide +kernel
theorem dX4_notLine_9 : decode cX4_notLine 9 = .ok (.invokevirtual 153, 3) := by decide +kernel
theorem dX4_notLine_12 : decode cX4_notLine 12 = .ok (.ireturn, 1) := by decide +kernel
theorem dX4_notLine_13 : decode cX4_notLine 13 = .ok (.aload_n 0, 1) := by decide +kernel
theorem dX4_notLine_14 : decode cX4_notLine 14 = .ok (.aload_n 1, 1) := by decide +kernel
theorem dX4_notLine_15 : decode cX4_notLine 15 = .ok (.bipush 45, 2) := by decide +kernel
theorem dX4_notLine_17 : decode cX4_notLine 17 = .ok (.invokevirtual 173, 3) := by decide +kernel
theorem dX4_notLine_20 : decode cX4_notLine 20 = .ok (.ifCond .eq 14, 3) := by decide +kernel
theorem dX4_notLine_23 : decode cX4_notLine 23 = .ok (.aload_n 0, 1) := by decide +kernel
theorem dX4_notLine_24 : decode cX4_notLine 24 = .ok (.invokevirtual 177, 3) := by decide +kernel
theorem dX4_notLine_27 : decode cX4_notLine 27 = .ok (.ifCond .eq 7, 3) := by decide +kernel
theorem dX4_notLine_30 : decode cX4_notLine 30 = .ok (.iconst 1, 1) := by decide +kernel
theorem dX4_notLine_31 : decode cX4_notLine 31 = .ok (.goto 4, 3) := by decide +kernel
theorem dX4_notLine_34 : decode cX4_notLine 34 = .ok (.iconst 0, 1) := by decide +kernel
theorem dX4_notLine_35 : decode cX4_notLine 35 = .ok (.ireturn, 1) := by decide +kernel
theorem dX4_changeLine_0 : decode cX4_changeLine 0 = .ok (.aload_n 1, 1) := by decide +kernel
theorem dX4_changeLine_1 : decode cX4_changeLine 1 = .ok (.getfield 190, 3) := by decide +kernel
theorem dX4_changeLine_4 : decode cX4_changeLine 4 = .ok (.istore_n 2, 1) := by decide +kernel
theorem dX4_changeLine_5 : decode cX4_changeLine 5 = .ok (.iload_n 2, 1) := by decide +kernel
theorem dX4_changeLine_6 : decode cX4_changeLine 6 = .ok (.bipush 6, 2) := by decide +kernel
theorem dX4_changeLine_8 : decode cX4_changeLine 8 = .ok (.if_icmp .lt 9, 3) := by decide +kernel
theorem dX4_changeLine_11 : decode cX4_changeLine 11 = .ok (.aload_n 0, 1) := by decide +kernel
theorem dX4_changeLine_12 : decode cX4_changeLine 12 = .ok (.iconst 2, 1) := by decide +kernel
theorem dX4_changeLine_13 : decode cX4_changeLine 13 = .ok (.invokevirtual 153, 3) := by decide +kernel
theorem dX4_changeLine_16 : decode cX4_changeLine 16 = .ok (.ireturn, 1) := by decide +kernel
theorem dX4_changeLine_17 : decode cX4_changeLine 17 = .ok (.iconst 0, 1) := by decide +kernel
theorem dX4_changeLine_18 : decode cX4_changeLine 18 = .ok (.istore_n 3, 1) := by decide +kernel
theorem dX4_changeLine_19 : decode cX4_changeLine 19 = .ok (.iload_n 3, 1) := by decide +kernel
theorem dX4_changeLine_20 : decode cX4_changeLine 20 = .ok (.iconst 3, 1) := by decide +kernel
theorem dX4_changeLine_21 : decode cX4_changeLine 21 = .ok (.if_icmp .ge 24, 3) := by decide +kernel
theorem dX4_changeLine_24 : decode cX4_changeLine 24 = .ok (.aload_n 0, 1) := by decide +kernel
theorem dX4_changeLine_25 : decode cX4_changeLine 25 = .ok (.aload_n 1, 1) := by decide +kernel
theorem dX4_changeLine_26 : decode cX4_changeLine 26 = .ok (.iload_n 2, 1) := by decide +kernel
theorem dX4_changeLine_27 : decode cX4_changeLine 27 = .ok (.iload_n 3, 1) := by decide +kernel
theorem dX4_changeLine_28 : decode cX4_changeLine 28 = .ok (.invokestatic 193, 3) := by decide +kernel
theorem dX4_changeLine_31 : decode cX4_changeLine 31 = .ok (.invokevirtual 173, 3) := by decide +kernel
theorem dX4_changeLine_34 : decode cX4_changeLine 34 = .ok (.ifCond .ne 5, 3) := by decide +kernel
theorem dX4_changeLine_37 : decode cX4_changeLine 37 = .ok (.iconst 0, 1) := by decide +kernel
theorem dX4_changeLine_38 : decode cX4_changeLine 38 = .ok (.ireturn, 1) := by decide +kernel
theorem dX4_changeLine_39 : decode cX4_changeLine 39 = .ok (.iinc 3 1, 3) := by decide +kernel
theorem dX4_changeLine_42 : decode cX4_changeLine 42 = .ok (.goto (-23), 3) := by decide +kernel
theorem dX4_changeLine_45 : decode cX4_changeLine 45 = .ok (.aload_n 1, 1) := by decide +kernel
theorem dX4_changeLine_46 : decode cX4_changeLine 46 = .ok (.dup, 1) := by decide +kernel
theorem dX4_changeLine_47 : decode cX4_changeLine 47 = .ok (.getfield 190, 3) := by decide +kernel
theorem dX4_changeLine_50 : decode cX4_changeLine 50 = .ok (.iconst 1, 1) := by decide +kernel
theorem dX4_changeLine_51 : decode cX4_changeLine 51 = .ok (.iadd, 1) := by decide +kernel
theorem dX4_changeLine_52 : decode cX4_changeLine 52 = .ok (.putfield 190, 3) := by decide +kernel
theorem dX4_changeLine_55 : decode cX4_changeLine 55 = .ok (.aload_n 0, 1) := by decide +kernel
theorem dX4_changeLine_56 : decode cX4_changeLine 56 = .ok (.invokevirtual 177, 3) := by decide +kernel
theorem dX4_changeLine_59 : decode cX4_changeLine 59 = .ok (.ireturn, 1) := by decide +kernel
theorem dX5_hasEnding_0 : decode cX5_hasEnding 0 = .ok (.aload_n 0, 1) := by decide +kernel
theorem dX5_hasEnding_1 : decode cX5_hasEnding 1 = .ok (.getfield 15, 3) := by decide +kernel
theorem dX5_hasEnding_4 : decode cX5_hasEnding 4 = .ok (.iload_n 1, 1) := by decide +kernel
theorem dX5_hasEnding_5 : decode cX5_hasEnding 5 = .ok (.iload_n 2, 1) := by decide +kernel
theorem dX5_hasEnding_6 : decode cX5_hasEnding 6 = .ok (.invokestatic 41, 3) := by decide +kernel
theorem dX5_hasEnding_9 : decode cX5_hasEnding 9 = .ok (.iaload, 1) := by decide +kernel
theorem dX5_hasEnding_10 : decode cX5_hasEnding 10 = .ok (.ifCond .le 7, 3) := by decide +kernel
theorem dX5_hasEnding_13 : decode cX5_hasEnding 13 = .ok (.iconst 1, 1) := by decide +kernel
theorem dX5_hasEnding_14 : decode cX5_hasEnding 14 = .ok (.goto 4, 3) := by decide +kernel
theorem dX5_hasEnding_17 : decode cX5_hasEnding 17 = .ok (.iconst 0, 1) := by decide +kernel
theorem dX5_hasEnding_18 : decode cX5_hasEnding 18 = .ok (.ireturn, 1) := by decide +kernel
theorem dX4_endingLine_0 : decode cX4_endingLine 0 = .ok (.aload_n 0, 1) := by decide +kernel
theorem dX4_endingLine_1 : decode cX4_endingLine 1 = .ok (.iconst 2, 1) := by decide +kernel
theorem dX4_endingLine_2 : decode cX4_endingLine 2 = .ok (.invokevirtual 180, 3) := by decide +kernel
theorem dX4_endingLine_5 : decode cX4_endingLine 5 = .ok (.ifCond .ne 5, 3) := by decide +kernel
theorem dX4_endingLine_8 : decode cX4_endingLine 8 = .ok (.iconst 0, 1) := by decide +kernel
theorem dX4_endingLine_9 : decode cX4_endingLine 9 = .ok (.ireturn, 1) := by decide +kernel
theorem dX4_endingLine_10 : decode cX4_endingLine 10 = .ok (.aload_n 0, 1) := by decide +kernel
theorem dX4_endingLine_11 : decode cX4_endingLine 11 = .ok (.getfield 66, 3) := by decide +kernel
theorem dX4_endingLine_14 : decode cX4_endingLine 14 = .ok (.istore_n 2, 1) := by decide +kernel
theorem dX4_endingLine_15 : decode cX4_endingLine 15 = .ok (.aload_n 0, 1) := by decide +kernel
theorem dX4_endingLine_16 : decode cX4_endingLine 16 = .ok (.iconst 4, 1) := by decide +kernel
theorem dX4_endingLine_17 : decode cX4_endingLine 17 = .ok (.invokevirtual 180, 3) := by decide +kernel
theorem dX4_endingLine_20 : decode cX4_endingLine 20 = .ok (.ifCond .ne 5, 3) := by decide +kernel
theorem dX4_endingLine_23 : decode cX4_endingLine 23 = .ok (.iconst 0, 1) := by decide +kernel
theorem dX4_endingLine_24 : decode cX4_endingLine 24 = .ok (.ireturn, 1) := by decide +kernel
theorem dX4_endingLine_25 : decode cX4_endingLine 25 = .ok (.aload_n 0, 1) := by decide +kernel
theorem dX4_endingLine_26 : decode cX4_endingLine 26 = .ok (.getfield 66, 3) := by decide +kernel
theorem dX4_endingLine_29 : decode cX4_endingLine 29 = .ok (.istore_n 3, 1) := by decide +kernel
theorem dX4_endingLine_30 : decode cX4_endingLine 30 = .ok (.aload_n 1, 1) := by decide +kernel
theorem dX4_endingLine_31 : decode cX4_endingLine 31 = .ok (.iload_n 2, 1) := by decide +kernel
theorem dX4_endingLine_32 : decode cX4_endingLine 32 = .ok (.iload_n 3, 1) := by decide +kernel
theorem dX4_endingLine_33 : decode cX4_endingLine 33 = .ok (.invokevirtual 183, 3) := by decide +kernel
theorem dX4_endingLine_36 : decode cX4_endingLine 36 = .ok (.ifCond .eq 9, 3) := by decide +kernel
theorem dX4_endingLine_39 : decode cX4_endingLine 39 = .ok (.aload_n 0, 1) := by decide +kernel
theorem dX4_endingLine_40 : decode cX4_endingLine 40 = .ok (.iconst 4, 1) := by decide +kernel
theorem dX4_endingLine_41 : decode cX4_endingLine 41 = .ok (.invokevirtual 153, 3) := by decide +kernel
theorem dX4_endingLine_44 : decode cX4_endingLine 44 = .ok (.ireturn, 1) := by decide +kernel
theorem dX4_endingLine_45 : decode cX4_endingLine 45 = .ok (.aload_n 0, 1) := by decide +kernel
theorem dX4_endingLine_46 : decode cX4_endingLine 46 = .ok (.aload_n 1, 1) := by decide +kernel
theorem dX4_endingLine_47 : decode cX4_endingLine 47 = .ok (.iload_n 2, 1) := by decide +kernel
theorem dX4_endingLine_48 : decode cX4_endingLine 48 = .ok (.iload_n 3, 1) := by decide +kernel
theorem dX4_endingLine_49 : decode cX4_endingLine 49 = .ok (.invokestatic 187, 3) := by decide +kernel
theorem dX4_endingLine_52 : decode cX4_endingLine 52 = .ok (.invokevirtual 173, 3) := by decide +kernel
theorem dX4_endingLine_55 : decode cX4_endingLine 55 = .ok (.ifCond .eq 14, 3) := by decide +kernel
theorem dX4_endingLine_58 : decode cX4_endingLine 58 = .ok (.aload_n 0, 1) := by decide +kernel
theorem dX4_endingLine_59 : decode cX4_endingLine 59 = .ok (.invokevirtual 177, 3) := by decide +kernel
theorem dX4_endingLine_62 : decode cX4_endingLine 62 = .ok (.ifCond .eq 7, 3) := by decide +kernel
theorem dX4_endingLine_65 : decode cX4_endingLine 65 = .ok (.iconst 1, 1) := by decide +kernel
theorem dX4_endingLine_66 : decode cX4_endingLine 66 = .ok (.goto 4, 3) := by decide +kernel
theorem dX4_endingLine_69 : decode cX4_endingLine 69 = .ok (.iconst 0, 1) := by decide +kernel
theorem dX4_endingLine_70 : decode cX4_endingLine 70 = .ok (.ireturn, 1) := by decide +kernel
theorem dX4_stemLine_0 : decode cX4_stemLine 0 = .ok (.aload_n 1, 1) := by decide +kernel
theorem dX4_stemLine_1 : decode cX4_stemLine 1 = .ok (.getfield 170, 3) := by decide +kernel
theorem dX4_stemLine_4 : decode cX4_stemLine 4 = .ok (.bipush 12, 2) := by decide +kernel
theorem dX4_stemLine_6 : decode cX4_stemLine 6 = .ok (.if_icmp .lt 9, 3) := by decide +kernel
theorem dX4_stemLine_9 : decode cX4_stemLine 9 = .ok (.aload_n 0, 1) := by decide +kernel
theorem dX4_stemLine_10 : decode cX4_stemLine 10 = .ok (.iconst 2, 1) := by decide +kernel
theorem dX4_stemLine_11 : decode cX4_stemLine 11 = .ok (.invokevirtual 153, 3) := by decide +kernel
theorem dX4_stemLine_14 : decode cX4_stemLine 14 = .ok (.ireturn, 1) := by decide +kernel
theorem dX4_stemLine_15 : decode cX4_stemLine 15 = .ok (.aload_n 0, 1) := by decide +kernel
theorem dX4_stemLine_16 : decode cX4_stemLine 16 = .ok (.aload_n 1, 1) := by decide +kernel
theorem dX4_stemLine_17 : decode cX4_stemLine 17 = .ok (.aload_n 1, 1) := by decide +kernel
theorem dX4_stemLine_18 : decode cX4_stemLine 18 = .ok (.getfield 170, 3) := by decide +kernel
theorem dX4_stemLine_21 : decode cX4_stemLine 21 = .ok (.invokevirtual 173, 3) := by decide +kernel
theorem dX4_stemLine_24 : decode cX4_stemLine 24 = .ok (.ifCond .ne 5, 3) := by decide +kernel
theorem dX4_stemLine_27 : decode cX4_stemLine 27 = .ok (.iconst 0, 1) := by decide +kernel
theorem dX4_stemLine_28 : decode cX4_stemLine 28 = .ok (.ireturn, 1) := by decide +kernel
theorem dX4_stemLine_29 : decode cX4_stemLine 29 = .ok (.aload_n 1, 1) := by decide +kernel
theorem dX4_stemLine_30 : decode cX4_stemLine 30 = .ok (.dup, 1) := by decide +kernel
theorem dX4_stemLine_31 : decode cX4_stemLine 31 = .ok (.getfield 170, 3) := by decide +kernel
theorem dX4_stemLine_34 : decode cX4_stemLine 34 = .ok (.iconst 1, 1) := by decide +kernel
theorem dX4_stemLine_35 : decode cX4_stemLine 35 = .ok (.iadd, 1) := by decide +kernel
theorem dX4_stemLine_36 : decode cX4_stemLine 36 = .ok (.putfield 170, 3) := by decide +kernel
theorem dX4_stemLine_39 : decode cX4_stemLine 39 = .ok (.aload_n 0, 1) := by decide +kernel
theorem dX4_stemLine_40 : decode cX4_stemLine 40 = .ok (.invokevirtual 177, 3) := by decide +kernel
theorem dX4_stemLine_43 : decode cX4_stemLine 43 = .ok (.ireturn, 1) := by decide +kernel
theorem dX4_readLine_0 : decode cX4_readLine 0 = .ok (.aload_n 0, 1) := by decide +kernel
theorem dX4_readLine_1 : decode cX4_readLine 1 = .ok (.ldc 90, 2) := by decide +kernel
theorem dX4_readLine_3 : decode cX4_readLine 3 = .ok (.invokevirtual 92, 3) := by decide +kernel
theorem dX4_readLine_6 : decode cX4_readLine 6 = .ok (.ifCond .eq 12, 3) := by decide +kernel
theorem dX4_readLine_9 : decode cX4_readLine 9 = .ok (.aload_n 0, 1) := by decide +kernel
theorem dX4_readLine_10 : decode cX4_readLine 10 = .ok (.aload_n 1, 1) := by decide +kernel
theorem dX4_readLine_11 : decode cX4_readLine 11 = .ok (.getfield 96, 3) := by decide +kernel
theorem dX4_readLine_14 : decode cX4_readLine 14 = .ok (.invokevirtual 100, 3) := by decide +kernel
theorem dX4_readLine_17 : decode cX4_readLine 17 = .ok (.ireturn, 1) := by decide +kernel
theorem dX4_readLine_18 : decode cX4_readLine 18 = .ok (.aload_n 0, 1) := by decide +kernel
theorem dX4_readLine_19 : decode cX4_readLine 19 = .ok (.ldc 104, 2) := by decide +kernel
theorem dX4_readLine_21 : decode cX4_readLine 21 = .ok (.invokevirtual 92, 3) := by decide +kernel
theorem dX4_readLine_24 : decode cX4_readLine 24 = .ok (.ifCond .eq 12, 3) := by decide +kernel
theorem dX4_readLine_27 : decode cX4_readLine 27 = .ok (.aload_n 0, 1) := by decide +kernel
theorem dX4_readLine_28 : decode cX4_readLine 28 = .ok (.aload_n 1, 1) := by decide +kernel
theorem dX4_readLine_29 : decode cX4_readLine 29 = .ok (.getfield 96, 3) := by decide +kernel
theorem dX4_readLine_32 : decode cX4_readLine 32 = .ok (.invokevirtual 106, 3) := by decide +kernel
theorem dX4_readLine_35 : decode cX4_readLine 35 = .ok (.ireturn, 1) := by decide +kernel
theorem dX4_readLine_36 : decode cX4_readLine 36 = .ok (.aload_n 0, 1) := by decide +kernel
theorem dX4_readLine_37 : decode cX4_readLine 37 = .ok (.ldc 109, 2) := by decide +kernel
theorem dX4_readLine_39 : decode cX4_readLine 39 = .ok (.invokevirtual 92, 3) := by decide +kernel
theorem dX4_readLine_42 : decode cX4_readLine 42 = .ok (.ifCond .eq 12, 3) := by decide +kernel
theorem dX4_readLine_45 : decode cX4_readLine 45 = .ok (.aload_n 0, 1) := by decide +kernel
theorem dX4_readLine_46 : decode cX4_readLine 46 = .ok (.aload_n 1, 1) := by decide +kernel
theorem dX4_readLine_47 : decode cX4_readLine 47 = .ok (.getfield 96, 3) := by decide +kernel
theorem dX4_readLine_50 : decode cX4_readLine 50 = .ok (.invokevirtual 111, 3) := by decide +kernel
theorem dX4_readLine_53 : decode cX4_readLine 53 = .ok (.ireturn, 1) := by decide +kernel
theorem dX4_readLine_54 : decode cX4_readLine 54 = .ok (.aload_n 0, 1) := by decide +kernel
theorem dX4_readLine_55 : decode cX4_readLine 55 = .ok (.ldc 114, 2) := by decide +kernel
theorem dX4_readLine_57 : decode cX4_readLine 57 = .ok (.invokevirtual 92, 3) := by decide +kernel
theorem dX4_readLine_60 : decode cX4_readLine 60 = .ok (.ifCond .eq 12, 3) := by decide +kernel
theorem dX4_readLine_63 : decode cX4_readLine 63 = .ok (.aload_n 0, 1) := by decide +kernel
theorem dX4_readLine_64 : decode cX4_readLine 64 = .ok (.aload_n 1, 1) := by decide +kernel
theorem dX4_readLine_65 : decode cX4_readLine 65 = .ok (.getfield 96, 3) := by decide +kernel
theorem dX4_readLine_68 : decode cX4_readLine 68 = .ok (.invokevirtual 116, 3) := by decide +kernel
theorem dX4_readLine_71 : decode cX4_readLine 71 = .ok (.ireturn, 1) := by decide +kernel
theorem dX4_readLine_72 : decode cX4_readLine 72 = .ok (.aload_n 0, 1) := by decide +kernel
theorem dX4_readLine_73 : decode cX4_readLine 73 = .ok (.ldc 119, 2) := by decide +kernel
theorem dX4_readLine_75 : decode cX4_readLine 75 = .ok (.invokevirtual 92, 3) := by decide +kernel
theorem dX4_readLine_78 : decode cX4_readLine 78 = .ok (.ifCond .eq 9, 3) := by decide +kernel
theorem dX4_readLine_81 : decode cX4_readLine 81 = .ok (.aload_n 0, 1) := by decide +kernel
theorem dX4_readLine_82 : decode cX4_readLine 82 = .ok (.aload_n 1, 1) := by decide +kernel
theorem dX4_readLine_83 : decode cX4_readLine 83 = .ok (.invokevirtual 121, 3) := by decide +kernel
theorem dX4_readLine_86 : decode cX4_readLine 86 = .ok (.ireturn, 1) := by decide +kernel
theorem dX4_readLine_87 : decode cX4_readLine 87 = .ok (.aload_n 0, 1) := by decide +kernel
theorem dX4_readLine_88 : decode cX4_readLine 88 = .ok (.ldc 124, 2) := by decide +kernel
theorem dX4_readLine_90 : decode cX4_readLine 90 = .ok (.invokevirtual 92, 3) := by decide +kernel
theorem dX4_readLine_93 : decode cX4_readLine 93 = .ok (.ifCond .eq 9, 3) := by decide +kernel
theorem dX4_readLine_96 : decode cX4_readLine 96 = .ok (.aload_n 0, 1) := by decide +kernel
theorem dX4_readLine_97 : decode cX4_readLine 97 = .ok (.aload_n 1, 1) := by decide +kernel
theorem dX4_readLine_98 : decode cX4_readLine 98 = .ok (.invokevirtual 126, 3) := by decide +kernel
theorem dX4_readLine_101 : decode cX4_readLine 101 = .ok (.ireturn, 1) := by decide +kernel
theorem dX4_readLine_102 : decode cX4_readLine 102 = .ok (.aload_n 0, 1) := by decide +kernel
theorem dX4_readLine_103 : decode cX4_readLine 103 = .ok (.ldc 129, 2) := by decide +kernel
theorem dX4_readLine_105 : decode cX4_readLine 105 = .ok (.invokevirtual 92, 3) := by decide +kernel
theorem dX4_readLine_108 : decode cX4_readLine 108 = .ok (.ifCond .eq 9, 3) := by decide +kernel
theorem dX4_readLine_111 : decode cX4_readLine 111 = .ok (.aload_n 0, 1) := by decide +kernel
theorem dX4_readLine_112 : decode cX4_readLine 112 = .ok (.aload_n 1, 1) := by decide +kernel
theorem dX4_readLine_113 : decode cX4_readLine 113 = .ok (.invokevirtual 131, 3) := by decide +kernel
theorem dX4_readLine_116 : decode cX4_readLine 116 = .ok (.ireturn, 1) := by decide +kernel
theorem dX4_readLine_117 : decode cX4_readLine 117 = .ok (.aload_n 0, 1) := by decide +kernel
theorem dX4_readLine_118 : decode cX4_readLine 118 = .ok (.ldc 134, 2) := by decide +kernel
theorem dX4_readLine_120 : decode cX4_readLine 120 = .ok (.invokevirtual 92, 3) := by decide +kernel
theorem dX4_readLine_123 : decode cX4_readLine 123 = .ok (.ifCond .eq 9, 3) := by decide +kernel
theorem dX4_readLine_126 : decode cX4_readLine 126 = .ok (.aload_n 0, 1) := by decide +kernel
theorem dX4_readLine_127 : decode cX4_readLine 127 = .ok (.aload_n 1, 1) := by decide +kernel
theorem dX4_readLine_128 : decode cX4_readLine 128 = .ok (.invokevirtual 136, 3) := by decide +kernel
theorem dX4_readLine_131 : decode cX4_readLine 131 = .ok (.ireturn, 1) := by decide +kernel
theorem dX4_readLine_132 : decode cX4_readLine 132 = .ok (.aload_n 0, 1) := by decide +kernel
theorem dX4_readLine_133 : decode cX4_readLine 133 = .ok (.ldc 139, 2) := by decide +kernel
theorem dX4_readLine_135 : decode cX4_readLine 135 = .ok (.invokevirtual 92, 3) := by decide +kernel
theorem dX4_readLine_138 : decode cX4_readLine 138 = .ok (.ifCond .eq 9, 3) := by decide +kernel
theorem dX4_readLine_141 : decode cX4_readLine 141 = .ok (.aload_n 0, 1) := by decide +kernel
theorem dX4_readLine_142 : decode cX4_readLine 142 = .ok (.aload_n 1, 1) := by decide +kernel
theorem dX4_readLine_143 : decode cX4_readLine 143 = .ok (.invokevirtual 141, 3) := by decide +kernel
theorem dX4_readLine_146 : decode cX4_readLine 146 = .ok (.ireturn, 1) := by decide +kernel
theorem dX4_readLine_147 : decode cX4_readLine 147 = .ok (.aload_n 0, 1) := by decide +kernel
theorem dX4_readLine_148 : decode cX4_readLine 148 = .ok (.ldc 144, 2) := by decide +kernel
theorem dX4_readLine_150 : decode cX4_readLine 150 = .ok (.invokevirtual 92, 3) := by decide +kernel
theorem dX4_readLine_153 : decode cX4_readLine 153 = .ok (.ifCond .eq 9, 3) := by decide +kernel
theorem dX4_readLine_156 : decode cX4_readLine 156 = .ok (.aload_n 0, 1) := by decide +kernel
theorem dX4_readLine_157 : decode cX4_readLine 157 = .ok (.aload_n 1, 1) := by decide +kernel
theorem dX4_readLine_158 : decode cX4_readLine 158 = .ok (.invokevirtual 145, 3) := by decide +kernel
theorem dX4_readLine_161 : decode cX4_readLine 161 = .ok (.ireturn, 1) := by decide +kernel
theorem dX4_readLine_162 : decode cX4_readLine 162 = .ok (.aload_n 0, 1) := by decide +kernel
theorem dX4_readLine_163 : decode cX4_readLine 163 = .ok (.ldc 148, 2) := by decide +kernel
theorem dX4_readLine_165 : decode cX4_readLine 165 = .ok (.invokevirtual 92, 3) := by decide +kernel
theorem dX4_readLine_168 : decode cX4_readLine 168 = .ok (.ifCond .eq 11, 3) := by decide +kernel
theorem dX4_readLine_171 : decode cX4_readLine 171 = .ok (.aload_n 0, 1) := by decide +kernel
theorem dX4_readLine_172 : decode cX4_readLine 172 = .ok (.aload_n 1, 1) := by decide +kernel
theorem dX4_readLine_173 : decode cX4_readLine 173 = .ok (.invokevirtual 150, 3) := by decide +kernel
theorem dX4_readLine_176 : decode cX4_readLine 176 = .ok (.goto 8, 3) := by decide +kernel
theorem dX4_readLine_179 : decode cX4_readLine 179 = .ok (.aload_n 0, 1) := by decide +kernel
theorem dX4_readLine_180 : decode cX4_readLine 180 = .ok (.iconst 1, 1) := by decide +kernel
theorem dX4_readLine_181 : decode cX4_readLine 181 = .ok (.invokevirtual 153, 3) := by decide +kernel
theorem dX4_readLine_184 : decode cX4_readLine 184 = .ok (.ireturn, 1) := by decide +kernel
theorem dX4_read_0 : decode cX4_read 0 = .ok (.aload_n 0, 1) := by decide +kernel
theorem dX4_read_1 : decode cX4_read 1 = .ok (.iload_n 1, 1) := by decide +kernel
theorem dX4_read_2 : decode cX4_read 2 = .ok (.aload_n 0, 1) := by decide +kernel
theorem dX4_read_3 : decode cX4_read 3 = .ok (.getfield 15, 3) := by decide +kernel
theorem dX4_read_6 : decode cX4_read 6 = .ok (.arraylength, 1) := by decide +kernel
theorem dX4_read_7 : decode cX4_read 7 = .ok (.invokestatic 19, 3) := by decide +kernel
theorem dX4_read_10 : decode cX4_read 10 = .ok (.putfield 25, 3) := by decide +kernel
theorem dX4_read_13 : decode cX4_read 13 = .ok (.aload_n 0, 1) := by decide +kernel
theorem dX4_read_14 : decode cX4_read 14 = .ok (.iconst 0, 1) := by decide +kernel
theorem dX4_read_15 : decode cX4_read 15 = .ok (.putfield 28, 3) := by decide +kernel
theorem dX4_read_18 : decode cX4_read 18 = .ok (.aload_n 0, 1) := by decide +kernel
theorem dX4_read_19 : decode cX4_read 19 = .ok (.iconst 0, 1) := by decide +kernel
theorem dX4_read_20 : decode cX4_read 20 = .ok (.putfield 31, 3) := by decide +kernel
theorem dX4_read_23 : decode cX4_read 23 = .ok (.aload_n 0, 1) := by decide +kernel
theorem dX4_read_24 : decode cX4_read 24 = .ok (.iconst 0, 1) := by decide +kernel
theorem dX4_read_25 : decode cX4_read 25 = .ok (.putfield 35, 3) := by decide +kernel
theorem dX4_read_28 : decode cX4_read 28 = .ok (.aload_n 0, 1) := by decide +kernel
theorem dX4_read_29 : decode cX4_read 29 = .ok (.iconst 0, 1) := by decide +kernel
theorem dX4_read_30 : decode cX4_read 30 = .ok (.putfield 38, 3) := by decide +kernel
theorem dX4_read_33 : decode cX4_read 33 = .ok (.aload_n 0, 1) := by decide +kernel
theorem dX4_read_34 : decode cX4_read 34 = .ok (.iconst (-1), 1) := by decide +kernel
theorem dX4_read_35 : decode cX4_read 35 = .ok (.putfield 9, 3) := by decide +kernel
theorem dX4_read_38 : decode cX4_read 38 = .ok (.aload_n 2, 1) := by decide +kernel
theorem dX4_read_39 : decode cX4_read 39 = .ok (.invokevirtual 41, 3) := by decide +kernel
theorem dX4_read_42 : decode cX4_read 42 = .ok (.iconst 1, 1) := by decide +kernel
theorem dX4_read_43 : decode cX4_read 43 = .ok (.istore_n 3, 1) := by decide +kernel
theorem dX4_read_44 : decode cX4_read 44 = .ok (.iconst 0, 1) := by decide +kernel
theorem dX4_read_45 : decode cX4_read 45 = .ok (.istore 4, 2) := by decide +kernel
theorem dX4_read_47 : decode cX4_read 47 = .ok (.iload_n 3, 1) := by decide +kernel
theorem dX4_read_48 : decode cX4_read 48 = .ok (.ifCond .eq 43, 3) := by decide +kernel
theorem dX4_read_51 : decode cX4_read 51 = .ok (.iload 4, 2) := by decide +kernel
theorem dX4_read_53 : decode cX4_read 53 = .ok (.aload_n 0, 1) := by decide +kernel
theorem dX4_read_54 : decode cX4_read 54 = .ok (.getfield 25, 3) := by decide +kernel
theorem dX4_read_57 : decode cX4_read 57 = .ok (.if_icmp .gt 34, 3) := by decide +kernel
theorem dX4_read_60 : decode cX4_read 60 = .ok (.aload_n 0, 1) := by decide +kernel
theorem dX4_read_61 : decode cX4_read 61 = .ok (.invokevirtual 46, 3) := by decide +kernel
theorem dX4_read_64 : decode cX4_read 64 = .ok (.aload_n 0, 1) := by decide +kernel
theorem dX4_read_65 : decode cX4_read 65 = .ok (.getfield 49, 3) := by decide +kernel
theorem dX4_read_68 : decode cX4_read 68 = .ok (.ifCond .eq 15, 3) := by decide +kernel
theorem dX4_read_71 : decode cX4_read 71 = .ok (.aload_n 0, 1) := by decide +kernel
theorem dX4_read_72 : decode cX4_read 72 = .ok (.aload_n 2, 1) := by decide +kernel
theorem dX4_read_73 : decode cX4_read 73 = .ok (.invokevirtual 52, 3) := by decide +kernel
theorem dX4_read_76 : decode cX4_read 76 = .ok (.ifCond .eq 7, 3) := by decide +kernel
theorem dX4_read_79 : decode cX4_read 79 = .ok (.iconst 1, 1) := by decide +kernel
theorem dX4_read_80 : decode cX4_read 80 = .ok (.goto 4, 3) := by decide +kernel
theorem dX4_read_83 : decode cX4_read 83 = .ok (.iconst 0, 1) := by decide +kernel
theorem dX4_read_84 : decode cX4_read 84 = .ok (.istore_n 3, 1) := by decide +kernel
theorem dX4_read_85 : decode cX4_read 85 = .ok (.iinc 4 1, 3) := by decide +kernel
theorem dX4_read_88 : decode cX4_read 88 = .ok (.goto (-41), 3) := by decide +kernel
theorem dX4_read_91 : decode cX4_read 91 = .ok (.aload_n 2, 1) := by decide +kernel
theorem dX4_read_92 : decode cX4_read 92 = .ok (.invokevirtual 56, 3) := by decide +kernel
theorem dX4_read_95 : decode cX4_read 95 = .ok (.aload_n 0, 1) := by decide +kernel
theorem dX4_read_96 : decode cX4_read 96 = .ok (.getfield 38, 3) := by decide +kernel
theorem dX4_read_99 : decode cX4_read 99 = .ok (.ireturn, 1) := by decide +kernel
theorem dX5_copyFrom_0 : decode cX5_copyFrom 0 = .ok (.aload_n 1, 1) := by decide +kernel
theorem dX5_copyFrom_1 : decode cX5_copyFrom 1 = .ok (.getfield 11, 3) := by decide +kernel
theorem dX5_copyFrom_4 : decode cX5_copyFrom 4 = .ok (.iconst 0, 1) := by decide +kernel
theorem dX5_copyFrom_5 : decode cX5_copyFrom 5 = .ok (.aload_n 0, 1) := by decide +kernel
theorem dX5_copyFrom_6 : decode cX5_copyFrom 6 = .ok (.getfield 11, 3) := by decide +kernel
theorem dX5_copyFrom_9 : decode cX5_copyFrom 9 = .ok (.iconst 0, 1) := by decide +kernel
theorem dX5_copyFrom_10 : decode cX5_copyFrom 10 = .ok (.aload_n 0, 1) := by decide +kernel
theorem dX5_copyFrom_11 : decode cX5_copyFrom 11 = .ok (.getfield 11, 3) := by decide +kernel
theorem dX5_copyFrom_14 : decode cX5_copyFrom 14 = .ok (.arraylength, 1) := by decide +kernel
theorem dX5_copyFrom_15 : decode cX5_copyFrom 15 = .ok (.invokestatic 35, 3) := by decide +kernel
theorem dX5_copyFrom_18 : decode cX5_copyFrom 18 = .ok (.aload_n 1, 1) := by decide +kernel
theorem dX5_copyFrom_19 : decode cX5_copyFrom 19 = .ok (.getfield 15, 3) := by decide +kernel
theorem dX5_copyFrom_22 : decode cX5_copyFrom 22 = .ok (.iconst 0, 1) := by decide +kernel
theorem dX5_copyFrom_23 : decode cX5_copyFrom 23 = .ok (.aload_n 0, 1) := by decide +kernel
theorem dX5_copyFrom_24 : decode cX5_copyFrom 24 = .ok (.getfield 15, 3) := by decide +kernel
theorem dX5_copyFrom_27 : decode cX5_copyFrom 27 = .ok (.iconst 0, 1) := by decide +kernel
theorem dX5_copyFrom_28 : decode cX5_copyFrom 28 = .ok (.aload_n 0, 1) := by decide +kernel
theorem dX5_copyFrom_29 : decode cX5_copyFrom 29 = .ok (.getfield 15, 3) := by decide +kernel
theorem dX5_copyFrom_32 : decode cX5_copyFrom 32 = .ok (.arraylength, 1) := by decide +kernel
theorem dX5_copyFrom_33 : decode cX5_copyFrom 33 = .ok (.invokestatic 35, 3) := by decide +kernel
theorem dX5_copyFrom_36 : decode cX5_copyFrom 36 = .ok (.aload_n 0, 1) := by decide +kernel
theorem dX5_copyFrom_37 : decode cX5_copyFrom 37 = .ok (.aload_n 1, 1) := by decide +kernel
theorem dX5_copyFrom_38 : decode cX5_copyFrom 38 = .ok (.getfield 28, 3) := by decide +kernel
theorem dX5_copyFrom_41 : decode cX5_copyFrom 41 = .ok (.putfield 28, 3) := by decide +kernel
theorem dX5_copyFrom_44 : decode cX5_copyFrom 44 = .ok (.aload_n 0, 1) := by decide +kernel
theorem dX5_copyFrom_45 : decode cX5_copyFrom 45 = .ok (.aload_n 1, 1) := by decide +kernel
theorem dX5_copyFrom_46 : decode cX5_copyFrom 46 = .ok (.getfield 32, 3) := by decide +kernel
theorem dX5_copyFrom_49 : decode cX5_copyFrom 49 = .ok (.putfield 32, 3) := by decide +kernel
theorem dX5_copyFrom_52 : decode cX5_copyFrom 52 = .ok (.return_, 1) := by decide +kernel

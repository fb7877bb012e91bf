theorem dX0_lay_0 : decode cX0_lay 0 = .ok (.aload_n 0, 1) := by decide +kernel
theorem dX0_lay_1 : decode cX0_lay 1 = .ok (.getfield 21, 3) := by decide +kernel
theorem dX0_lay_4 : decode cX0_lay 4 = .ok (.iconst 0, 1) := by decide +kernel
theorem dX0_lay_5 : decode cX0_lay 5 = .ok (.invokestatic 80, 3) := by decide +kernel
theorem dX0_lay_8 : decode cX0_lay 8 = .ok (.aload_n 0, 1) := by decide +kernel
theorem dX0_lay_9 : decode cX0_lay 9 = .ok (.iconst 0, 1) := by decide +kernel
theorem dX0_lay_10 : decode cX0_lay 10 = .ok (.putfield 86, 3) := by decide +kernel
theorem dX0_lay_13 : decode cX0_lay 13 = .ok (.iconst 0, 1) := by decide +kernel
theorem dX0_lay_14 : decode cX0_lay 14 = .ok (.istore_n 1, 1) := by decide +kernel
theorem dX0_lay_15 : decode cX0_lay 15 = .ok (.iload_n 1, 1) := by decide +kernel
theorem dX0_lay_16 : decode cX0_lay 16 = .ok (.aload_n 0, 1) := by decide +kernel
theorem dX0_lay_17 : decode cX0_lay 17 = .ok (.getfield 46, 3) := by decide +kernel
theorem dX0_lay_20 : decode cX0_lay 20 = .ok (.getfield 89, 3) := by decide +kernel
theorem dX0_lay_23 : decode cX0_lay 23 = .ok (.if_icmp .ge 146, 3) := by decide +kernel
theorem dX0_lay_26 : decode cX0_lay 26 = .ok (.aload_n 0, 1) := by decide +kernel
theorem dX0_lay_27 : decode cX0_lay 27 = .ok (.getfield 46, 3) := by decide +kernel
theorem dX0_lay_30 : decode cX0_lay 30 = .ok (.getfield 92, 3) := by decide +kernel
theorem dX0_lay_33 : decode cX0_lay 33 = .ok (.iload_n 1, 1) := by decide +kernel
theorem dX0_lay_34 : decode cX0_lay 34 = .ok (.iaload, 1) := by decide +kernel
theorem dX0_lay_35 : decode cX0_lay 35 = .ok (.istore_n 2, 1) := by decide +kernel
theorem dX0_lay_36 : decode cX0_lay 36 = .ok (.aload_n 0, 1) := by decide +kernel
theorem dX0_lay_37 : decode cX0_lay 37 = .ok (.getfield 46, 3) := by decide +kernel
theorem dX0_lay_40 : decode cX0_lay 40 = .ok (.getfield 95, 3) := by decide +kernel
theorem dX0_lay_43 : decode cX0_lay 43 = .ok (.iload_n 1, 1) := by decide +kernel
theorem dX0_lay_44 : decode cX0_lay 44 = .ok (.iaload, 1) := by decide +kernel
theorem dX0_lay_45 : decode cX0_lay 45 = .ok (.istore_n 3, 1) := by decide +kernel
theorem dX0_lay_46 : decode cX0_lay 46 = .ok (.aload_n 0, 1) := by decide +kernel
theorem dX0_lay_47 : decode cX0_lay 47 = .ok (.getfield 11, 3) := by decide +kernel
theorem dX0_lay_50 : decode cX0_lay 50 = .ok (.iload_n 1, 1) := by decide +kernel
theorem dX0_lay_51 : decode cX0_lay 51 = .ok (.aload_n 0, 1) := by decide +kernel
theorem dX0_lay_52 : decode cX0_lay 52 = .ok (.iload_n 2, 1) := by decide +kernel
theorem dX0_lay_53 : decode cX0_lay 53 = .ok (.iload_n 3, 1) := by decide +kernel
theorem dX0_lay_54 : decode cX0_lay 54 = .ok (.invokevirtual 98, 3) := by decide +kernel
theorem dX0_lay_57 : decode cX0_lay 57 = .ok (.iastore, 1) := by decide +kernel
theorem dX0_lay_58 : decode cX0_lay 58 = .ok (.aload_n 0, 1) := by decide +kernel
theorem dX0_lay_59 : decode cX0_lay 59 = .ok (.getfield 15, 3) := by decide +kernel
theorem dX0_lay_62 : decode cX0_lay 62 = .ok (.iload_n 1, 1) := by decide +kernel
theorem dX0_lay_63 : decode cX0_lay 63 = .ok (.aload_n 0, 1) := by decide +kernel
theorem dX0_lay_64 : decode cX0_lay 64 = .ok (.getfield 42, 3) := by decide +kernel
theorem dX0_lay_67 : decode cX0_lay 67 = .ok (.iload_n 2, 1) := by decide +kernel
theorem dX0_lay_68 : decode cX0_lay 68 = .ok (.iload_n 3, 1) := by decide +kernel
theorem dX0_lay_69 : decode cX0_lay 69 = .ok (.invokevirtual 102, 3) := by decide +kernel
theorem dX0_lay_72 : decode cX0_lay 72 = .ok (.iastore, 1) := by decide +kernel
theorem dX0_lay_73 : decode cX0_lay 73 = .ok (.aload_n 0, 1) := by decide +kernel
theorem dX0_lay_74 : decode cX0_lay 74 = .ok (.getfield 18, 3) := by decide +kernel
theorem dX0_lay_77 : decode cX0_lay 77 = .ok (.iload_n 1, 1) := by decide +kernel
theorem dX0_lay_78 : decode cX0_lay 78 = .ok (.aload_n 0, 1) := by decide +kernel
theorem dX0_lay_79 : decode cX0_lay 79 = .ok (.getfield 42, 3) := by decide +kernel
theorem dX0_lay_82 : decode cX0_lay 82 = .ok (.iload_n 2, 1) := by decide +kernel
theorem dX0_lay_83 : decode cX0_lay 83 = .ok (.iload_n 3, 1) := by decide +kernel
theorem dX0_lay_84 : decode cX0_lay 84 = .ok (.aload_n 0, 1) := by decide +kernel
theorem dX0_lay_85 : decode cX0_lay 85 = .ok (.getfield 46, 3) := by decide +kernel
theorem dX0_lay_88 : decode cX0_lay 88 = .ok (.getfield 107, 3) := by decide +kernel
theorem dX0_lay_91 : decode cX0_lay 91 = .ok (.iload_n 1, 1) := by decide +kernel
theorem dX0_lay_92 : decode cX0_lay 92 = .ok (.iaload, 1) := by decide +kernel
theorem dX0_lay_93 : decode cX0_lay 93 = .ok (.aload_n 0, 1) := by decide +kernel
theorem dX0_lay_94 : decode cX0_lay 94 = .ok (.getfield 46, 3) := by decide +kernel
theorem dX0_lay_97 : decode cX0_lay 97 = .ok (.getfield 110, 3) := by decide +kernel
theorem dX0_lay_100 : decode cX0_lay 100 = .ok (.iload_n 1, 1) := by decide +kernel
theorem dX0_lay_101 : decode cX0_lay 101 = .ok (.baload, 1) := by decide +kernel
theorem dX0_lay_102 : decode cX0_lay 102 = .ok (.invokevirtual 114, 3) := by decide +kernel
theorem dX0_lay_105 : decode cX0_lay 105 = .ok (.iastore, 1) := by decide +kernel
theorem dX0_lay_106 : decode cX0_lay 106 = .ok (.aload_n 0, 1) := by decide +kernel
theorem dX0_lay_107 : decode cX0_lay 107 = .ok (.getfield 21, 3) := by decide +kernel
theorem dX0_lay_110 : decode cX0_lay 110 = .ok (.aload_n 0, 1) := by decide +kernel
theorem dX0_lay_111 : decode cX0_lay 111 = .ok (.getfield 46, 3) := by decide +kernel
theorem dX0_lay_114 : decode cX0_lay 114 = .ok (.getfield 107, 3) := by decide +kernel
theorem dX0_lay_117 : decode cX0_lay 117 = .ok (.iload_n 1, 1) := by decide +kernel
theorem dX0_lay_118 : decode cX0_lay 118 = .ok (.iaload, 1) := by decide +kernel
theorem dX0_lay_119 : decode cX0_lay 119 = .ok (.aload_n 0, 1) := by decide +kernel
theorem dX0_lay_120 : decode cX0_lay 120 = .ok (.getfield 46, 3) := by decide +kernel
theorem dX0_lay_123 : decode cX0_lay 123 = .ok (.getfield 110, 3) := by decide +kernel
theorem dX0_lay_126 : decode cX0_lay 126 = .ok (.iload_n 1, 1) := by decide +kernel
theorem dX0_lay_127 : decode cX0_lay 127 = .ok (.baload, 1) := by decide +kernel
theorem dX0_lay_128 : decode cX0_lay 128 = .ok (.invokestatic 117, 3) := by decide +kernel
theorem dX0_lay_131 : decode cX0_lay 131 = .ok (.dup2, 1) := by decide +kernel
theorem dX0_lay_132 : decode cX0_lay 132 = .ok (.iaload, 1) := by decide +kernel
theorem dX0_lay_133 : decode cX0_lay 133 = .ok (.iconst 1, 1) := by decide +kernel
theorem dX0_lay_134 : decode cX0_lay 134 = .ok (.iload_n 1, 1) := by decide +kernel
theorem dX0_lay_135 : decode cX0_lay 135 = .ok (.ishl, 1) := by decide +kernel
theorem dX0_lay_136 : decode cX0_lay 136 = .ok (.ior, 1) := by decide +kernel
theorem dX0_lay_137 : decode cX0_lay 137 = .ok (.iastore, 1) := by decide +kernel
theorem dX0_lay_138 : decode cX0_lay 138 = .ok (.aload_n 0, 1) := by decide +kernel
theorem dX0_lay_139 : decode cX0_lay 139 = .ok (.getfield 46, 3) := by decide +kernel
theorem dX0_lay_142 : decode cX0_lay 142 = .ok (.getfield 121, 3) := by decide +kernel
theorem dX0_lay_145 : decode cX0_lay 145 = .ok (.iload_n 1, 1) := by decide +kernel
theorem dX0_lay_146 : decode cX0_lay 146 = .ok (.iaload, 1) := by decide +kernel
theorem dX0_lay_147 : decode cX0_lay 147 = .ok (.iconst 4, 1) := by decide +kernel
theorem dX0_lay_148 : decode cX0_lay 148 = .ok (.if_icmp .ne 15, 3) := by decide +kernel
theorem dX0_lay_151 : decode cX0_lay 151 = .ok (.aload_n 0, 1) := by decide +kernel
theorem dX0_lay_152 : decode cX0_lay 152 = .ok (.dup, 1) := by decide +kernel
theorem dX0_lay_153 : decode cX0_lay 153 = .ok (.getfield 86, 3) := by decide +kernel
theorem dX0_lay_156 : decode cX0_lay 156 = .ok (.iconst 1, 1) := by decide +kernel
theorem dX0_lay_157 : decode cX0_lay 157 = .ok (.iload_n 1, 1) := by decide +kernel
theorem dX0_lay_158 : decode cX0_lay 158 = .ok (.ishl, 1) := by decide +kernel
theorem dX0_lay_159 : decode cX0_lay 159 = .ok (.ior, 1) := by decide +kernel
theorem dX0_lay_160 : decode cX0_lay 160 = .ok (.putfield 86, 3) := by decide +kernel
theorem dX0_lay_163 : decode cX0_lay 163 = .ok (.iinc 1 1, 3) := by decide +kernel
theorem dX0_lay_166 : decode cX0_lay 166 = .ok (.goto (-151), 3) := by decide +kernel
theorem dX0_lay_169 : decode cX0_lay 169 = .ok (.iconst 0, 1) := by decide +kernel
theorem dX0_lay_170 : decode cX0_lay 170 = .ok (.istore_n 1, 1) := by decide +kernel
theorem dX0_lay_171 : decode cX0_lay 171 = .ok (.iload_n 1, 1) := by decide +kernel
theorem dX0_lay_172 : decode cX0_lay 172 = .ok (.aload_n 0, 1) := by decide +kernel
theorem dX0_lay_173 : decode cX0_lay 173 = .ok (.getfield 46, 3) := by decide +kernel
theorem dX0_lay_176 : decode cX0_lay 176 = .ok (.getfield 89, 3) := by decide +kernel
theorem dX0_lay_179 : decode cX0_lay 179 = .ok (.if_icmp .ge 48, 3) := by decide +kernel
theorem dX0_lay_182 : decode cX0_lay 182 = .ok (.aload_n 0, 1) := by decide +kernel
theorem dX0_lay_183 : decode cX0_lay 183 = .ok (.getfield 24, 3) := by decide +kernel
theorem dX0_lay_186 : decode cX0_lay 186 = .ok (.iload_n 1, 1) := by decide +kernel
theorem dX0_lay_187 : decode cX0_lay 187 = .ok (.aload_n 0, 1) := by decide +kernel
theorem dX0_lay_188 : decode cX0_lay 188 = .ok (.getfield 11, 3) := by decide +kernel
theorem dX0_lay_191 : decode cX0_lay 191 = .ok (.iload_n 1, 1) := by decide +kernel
theorem dX0_lay_192 : decode cX0_lay 192 = .ok (.iaload, 1) := by decide +kernel
theorem dX0_lay_193 : decode cX0_lay 193 = .ok (.aload_n 0, 1) := by decide +kernel
theorem dX0_lay_194 : decode cX0_lay 194 = .ok (.getfield 21, 3) := by decide +kernel
theorem dX0_lay_197 : decode cX0_lay 197 = .ok (.aload_n 0, 1) := by decide +kernel
theorem dX0_lay_198 : decode cX0_lay 198 = .ok (.getfield 46, 3) := by decide +kernel
theorem dX0_lay_201 : decode cX0_lay 201 = .ok (.getfield 107, 3) := by decide +kernel
theorem dX0_lay_204 : decode cX0_lay 204 = .ok (.iload_n 1, 1) := by decide +kernel
theorem dX0_lay_205 : decode cX0_lay 205 = .ok (.iaload, 1) := by decide +kernel
theorem dX0_lay_206 : decode cX0_lay 206 = .ok (.aload_n 0, 1) := by decide +kernel
theorem dX0_lay_207 : decode cX0_lay 207 = .ok (.getfield 46, 3) := by decide +kernel
theorem dX0_lay_210 : decode cX0_lay 210 = .ok (.getfield 110, 3) := by decide +kernel
theorem dX0_lay_213 : decode cX0_lay 213 = .ok (.iload_n 1, 1) := by decide +kernel
theorem dX0_lay_214 : decode cX0_lay 214 = .ok (.baload, 1) := by decide +kernel
theorem dX0_lay_215 : decode cX0_lay 215 = .ok (.invokestatic 117, 3) := by decide +kernel
theorem dX0_lay_218 : decode cX0_lay 218 = .ok (.iaload, 1) := by decide +kernel
theorem dX0_lay_219 : decode cX0_lay 219 = .ok (.iand, 1) := by decide +kernel
theorem dX0_lay_220 : decode cX0_lay 220 = .ok (.iastore, 1) := by decide +kernel
theorem dX0_lay_221 : decode cX0_lay 221 = .ok (.iinc 1 1, 3) := by decide +kernel
theorem dX0_lay_224 : decode cX0_lay 224 = .ok (.goto (-53), 3) := by decide +kernel
theorem dX0_lay_227 : decode cX0_lay 227 = .ok (.return_, 1) := by decide +kernel
theorem dX1_every_0 : decode cX1_every 0 = .ok (.iconst 1, 1) := by decide +kernel
theorem dX1_every_1 : decode cX1_every 1 = .ok (.aload_n 0, 1) := by decide +kernel
theorem dX1_every_2 : decode cX1_every 2 = .ok (.getfield 28, 3) := by decide +kernel
theorem dX1_every_5 : decode cX1_every 5 = .ok (.ishl, 1) := by decide +kernel
theorem dX1_every_6 : decode cX1_every 6 = .ok (.iconst 1, 1) := by decide +kernel
theorem dX1_every_7 : decode cX1_every 7 = .ok (.isub, 1) := by decide +kernel
theorem dX1_every_8 : decode cX1_every 8 = .ok (.ireturn, 1) := by decide +kernel
theorem dX6_follows_0 : decode cX6_follows 0 = .ok (.aload_n 0, 1) := by decide +kernel
theorem dX6_follows_1 : decode cX6_follows 1 = .ok (.getfield 38, 3) := by decide +kernel
theorem dX6_follows_4 : decode cX6_follows 4 = .ok (.iload_n 1, 1) := by decide +kernel
theorem dX6_follows_5 : decode cX6_follows 5 = .ok (.iaload, 1) := by decide +kernel
theorem dX6_follows_6 : decode cX6_follows 6 = .ok (.iload_n 2, 1) := by decide +kernel
theorem dX6_follows_7 : decode cX6_follows 7 = .ok (.if_icmp .ne 20, 3) := by decide +kernel
theorem dX6_follows_10 : decode cX6_follows 10 = .ok (.aload_n 0, 1) := by decide +kernel
theorem dX6_follows_11 : decode cX6_follows 11 = .ok (.getfield 41, 3) := by decide +kernel
theorem dX6_follows_14 : decode cX6_follows 14 = .ok (.iload_n 1, 1) := by decide +kernel
theorem dX6_follows_15 : decode cX6_follows 15 = .ok (.iaload, 1) := by decide +kernel
theorem dX6_follows_16 : decode cX6_follows 16 = .ok (.iload_n 3, 1) := by decide +kernel
theorem dX6_follows_17 : decode cX6_follows 17 = .ok (.iconst (-1), 1) := by decide +kernel
theorem dX6_follows_18 : decode cX6_follows 18 = .ok (.ixor, 1) := by decide +kernel
theorem dX6_follows_19 : decode cX6_follows 19 = .ok (.iand, 1) := by decide +kernel
theorem dX6_follows_20 : decode cX6_follows 20 = .ok (.ifCond .ne 7, 3) := by decide +kernel
theorem dX6_follows_23 : decode cX6_follows 23 = .ok (.iconst 1, 1) := by decide +kernel
theorem dX6_follows_24 : decode cX6_follows 24 = .ok (.goto 4, 3) := by decide +kernel
theorem dX6_follows_27 : decode cX6_follows 27 = .ok (.iconst 0, 1) := by decide +kernel
theorem dX6_follows_28 : decode cX6_follows 28 = .ok (.ireturn, 1) := by decide +kernel
theorem dX6_isWorkedOut_0 : decode cX6_isWorkedOut 0 = .ok (.iconst 0, 1) := by decide +kernel
theorem dX6_isWorkedOut_1 : decode cX6_isWorkedOut 1 = .ok (.istore_n 3, 1) := by decide +kernel
theorem dX6_isWorkedOut_2 : decode cX6_isWorkedOut 2 = .ok (.iload_n 3, 1) := by decide +kernel
theorem dX6_isWorkedOut_3 : decode cX6_isWorkedOut 3 = .ok (.aload_n 0, 1) := by decide +kernel
theorem dX6_isWorkedOut_4 : decode cX6_isWorkedOut 4 = .ok (.getfield 56, 3) := by decide +kernel
theorem dX6_isWorkedOut_7 : decode cX6_isWorkedOut 7 = .ok (.if_icmp .ge 21, 3) := by decide +kernel
theorem dX6_isWorkedOut_10 : decode cX6_isWorkedOut 10 = .ok (.aload_n 0, 1) := by decide +kernel
theorem dX6_isWorkedOut_11 : decode cX6_isWorkedOut 11 = .ok (.iload_n 3, 1) := by decide +kernel
theorem dX6_isWorkedOut_12 : decode cX6_isWorkedOut 12 = .ok (.iload_n 1, 1) := by decide +kernel
theorem dX6_isWorkedOut_13 : decode cX6_isWorkedOut 13 = .ok (.iload_n 2, 1) := by decide +kernel
theorem dX6_isWorkedOut_14 : decode cX6_isWorkedOut 14 = .ok (.invokevirtual 99, 3) := by decide +kernel
theorem dX6_isWorkedOut_17 : decode cX6_isWorkedOut 17 = .ok (.ifCond .eq 5, 3) := by decide +kernel
theorem dX6_isWorkedOut_20 : decode cX6_isWorkedOut 20 = .ok (.iconst 1, 1) := by decide +kernel
theorem dX6_isWorkedOut_21 : decode cX6_isWorkedOut 21 = .ok (.ireturn, 1) := by decide +kernel
theorem dX6_isWorkedOut_22 : decode cX6_isWorkedOut 22 = .ok (.iinc 3 1, 3) := by decide +kernel
theorem dX6_isWorkedOut_25 : decode cX6_isWorkedOut 25 = .ok (.goto (-23), 3) := by decide +kernel
theorem dX6_isWorkedOut_28 : decode cX6_isWorkedOut 28 = .ok (.iconst 0, 1) := by decide +kernel
theorem dX6_isWorkedOut_29 : decode cX6_isWorkedOut 29 = .ok (.ireturn, 1) := by decide +kernel
theorem dX0_standingHows_0 : decode cX0_standingHows 0 = .ok (.bipush 16, 2) := by decide +kernel
theorem dX0_standingHows_2 : decode cX0_standingHows 2 = .ok (.aload_n 0, 1) := by decide +kernel
theorem dX0_standingHows_3 : decode cX0_standingHows 3 = .ok (.getfield 18, 3) := by decide +kernel
theorem dX0_standingHows_6 : decode cX0_standingHows 6 = .ok (.iload_n 1, 1) := by decide +kernel
theorem dX0_standingHows_7 : decode cX0_standingHows 7 = .ok (.iaload, 1) := by decide +kernel
theorem dX0_standingHows_8 : decode cX0_standingHows 8 = .ok (.ior, 1) := by decide +kernel
theorem dX0_standingHows_9 : decode cX0_standingHows 9 = .ok (.istore 4, 2) := by decide +kernel
theorem dX0_standingHows_11 : decode cX0_standingHows 11 = .ok (.aload_n 0, 1) := by decide +kernel
theorem dX0_standingHows_12 : decode cX0_standingHows 12 = .ok (.getfield 24, 3) := by decide +kernel
theorem dX0_standingHows_15 : decode cX0_standingHows 15 = .ok (.iload_n 1, 1) := by decide +kernel
theorem dX0_standingHows_16 : decode cX0_standingHows 16 = .ok (.iaload, 1) := by decide +kernel
theorem dX0_standingHows_17 : decode cX0_standingHows 17 = .ok (.iload_n 2, 1) := by decide +kernel
theorem dX0_standingHows_18 : decode cX0_standingHows 18 = .ok (.iand, 1) := by decide +kernel
theorem dX0_standingHows_19 : decode cX0_standingHows 19 = .ok (.ifCond .eq 9, 3) := by decide +kernel
theorem dX0_standingHows_22 : decode cX0_standingHows 22 = .ok (.iload 4, 2) := by decide +kernel
theorem dX0_standingHows_24 : decode cX0_standingHows 24 = .ok (.iconst 4, 1) := by decide +kernel
theorem dX0_standingHows_25 : decode cX0_standingHows 25 = .ok (.ior, 1) := by decide +kernel
theorem dX0_standingHows_26 : decode cX0_standingHows 26 = .ok (.istore 4, 2) := by decide +kernel
theorem dX0_standingHows_28 : decode cX0_standingHows 28 = .ok (.aload_n 0, 1) := by decide +kernel
theorem dX0_standingHows_29 : decode cX0_standingHows 29 = .ok (.getfield 46, 3) := by decide +kernel
theorem dX0_standingHows_32 : decode cX0_standingHows 32 = .ok (.getfield 110, 3) := by decide +kernel
theorem dX0_standingHows_35 : decode cX0_standingHows 35 = .ok (.iload_n 1, 1) := by decide +kernel
theorem dX0_standingHows_36 : decode cX0_standingHows 36 = .ok (.baload, 1) := by decide +kernel
theorem dX0_standingHows_37 : decode cX0_standingHows 37 = .ok (.ifCond .ne 30, 3) := by decide +kernel
theorem dX0_standingHows_40 : decode cX0_standingHows 40 = .ok (.aload_n 0, 1) := by decide +kernel
theorem dX0_standingHows_41 : decode cX0_standingHows 41 = .ok (.getfield 42, 3) := by decide +kernel
theorem dX0_standingHows_44 : decode cX0_standingHows 44 = .ok (.aload_n 0, 1) := by decide +kernel
theorem dX0_standingHows_45 : decode cX0_standingHows 45 = .ok (.getfield 46, 3) := by decide +kernel
theorem dX0_standingHows_48 : decode cX0_standingHows 48 = .ok (.getfield 107, 3) := by decide +kernel
theorem dX0_standingHows_51 : decode cX0_standingHows 51 = .ok (.iload_n 1, 1) := by decide +kernel
theorem dX0_standingHows_52 : decode cX0_standingHows 52 = .ok (.iaload, 1) := by decide +kernel
theorem dX0_standingHows_53 : decode cX0_standingHows 53 = .ok (.iload_n 3, 1) := by decide +kernel
theorem dX0_standingHows_54 : decode cX0_standingHows 54 = .ok (.invokevirtual 149, 3) := by decide +kernel
theorem dX0_standingHows_57 : decode cX0_standingHows 57 = .ok (.ifCond .eq 10, 3) := by decide +kernel
theorem dX0_standingHows_60 : decode cX0_standingHows 60 = .ok (.iload 4, 2) := by decide +kernel
theorem dX0_standingHows_62 : decode cX0_standingHows 62 = .ok (.bipush 8, 2) := by decide +kernel
theorem dX0_standingHows_64 : decode cX0_standingHows 64 = .ok (.ior, 1) := by decide +kernel
theorem dX0_standingHows_65 : decode cX0_standingHows 65 = .ok (.istore 4, 2) := by decide +kernel
theorem dX0_standingHows_67 : decode cX0_standingHows 67 = .ok (.iload 4, 2) := by decide +kernel
theorem dX0_standingHows_69 : decode cX0_standingHows 69 = .ok (.ireturn, 1) := by decide +kernel
theorem dX0_firstBit_0 : decode cX0_firstBit 0 = .ok (.iconst 0, 1) := by decide +kernel
theorem dX0_firstBit_1 : decode cX0_firstBit 1 = .ok (.istore_n 1, 1) := by decide +kernel
theorem dX0_firstBit_2 : decode cX0_firstBit 2 = .ok (.iload_n 1, 1) := by decide +kernel
theorem dX0_firstBit_3 : decode cX0_firstBit 3 = .ok (.iconst 4, 1) := by decide +kernel
theorem dX0_firstBit_4 : decode cX0_firstBit 4 = .ok (.if_icmp .ge 17, 3) := by decide +kernel
theorem dX0_firstBit_7 : decode cX0_firstBit 7 = .ok (.iload_n 0, 1) := by decide +kernel
theorem dX0_firstBit_8 : decode cX0_firstBit 8 = .ok (.iload_n 1, 1) := by decide +kernel
theorem dX0_firstBit_9 : decode cX0_firstBit 9 = .ok (.invokestatic 139, 3) := by decide +kernel
theorem dX0_firstBit_12 : decode cX0_firstBit 12 = .ok (.ifCond .ne 9, 3) := by decide +kernel
theorem dX0_firstBit_15 : decode cX0_firstBit 15 = .ok (.iinc 1 1, 3) := by decide +kernel
theorem dX0_firstBit_18 : decode cX0_firstBit 18 = .ok (.goto (-16), 3) := by decide +kernel
theorem dX0_firstBit_21 : decode cX0_firstBit 21 = .ok (.iload_n 1, 1) := by decide +kernel
theorem dX0_firstBit_22 : decode cX0_firstBit 22 = .ok (.ireturn, 1) := by decide +kernel
theorem dX0_rising_0 : decode cX0_rising 0 = .ok (.iconst 0, 1) := by decide +kernel
theorem dX0_rising_1 : decode cX0_rising 1 = .ok (.istore 4, 2) := by decide +kernel
theorem dX0_rising_3 : decode cX0_rising 3 = .ok (.iconst 0, 1) := by decide +kernel
theorem dX0_rising_4 : decode cX0_rising 4 = .ok (.istore 5, 2) := by decide +kernel
theorem dX0_rising_6 : decode cX0_rising 6 = .ok (.iload 5, 2) := by decide +kernel
theorem dX0_rising_8 : decode cX0_rising 8 = .ok (.aload_n 0, 1) := by decide +kernel
theorem dX0_rising_9 : decode cX0_rising 9 = .ok (.getfield 46, 3) := by decide +kernel
theorem dX0_rising_12 : decode cX0_rising 12 = .ok (.getfield 89, 3) := by decide +kernel
theorem dX0_rising_15 : decode cX0_rising 15 = .ok (.if_icmp .ge 120, 3) := by decide +kernel
theorem dX0_rising_18 : decode cX0_rising 18 = .ok (.iload_n 2, 1) := by decide +kernel
theorem dX0_rising_19 : decode cX0_rising 19 = .ok (.iload 5, 2) := by decide +kernel
theorem dX0_rising_21 : decode cX0_rising 21 = .ok (.invokestatic 139, 3) := by decide +kernel
theorem dX0_rising_24 : decode cX0_rising 24 = .ok (.ifCond .ne 6, 3) := by decide +kernel
theorem dX0_rising_27 : decode cX0_rising 27 = .ok (.goto 102, 3) := by decide +kernel
theorem dX0_rising_30 : decode cX0_rising 30 = .ok (.aload_n 0, 1) := by decide +kernel
theorem dX0_rising_31 : decode cX0_rising 31 = .ok (.iload 5, 2) := by decide +kernel
theorem dX0_rising_33 : decode cX0_rising 33 = .ok (.aload_n 0, 1) := by decide +kernel
theorem dX0_rising_34 : decode cX0_rising 34 = .ok (.getfield 128, 3) := by decide +kernel
theorem dX0_rising_37 : decode cX0_rising 37 = .ok (.aload_n 0, 1) := by decide +kernel
theorem dX0_rising_38 : decode cX0_rising 38 = .ok (.getfield 27, 3) := by decide +kernel
theorem dX0_rising_41 : decode cX0_rising 41 = .ok (.iload 5, 2) := by decide +kernel
theorem dX0_rising_43 : decode cX0_rising 43 = .ok (.iaload, 1) := by decide +kernel
theorem dX0_rising_44 : decode cX0_rising 44 = .ok (.invokevirtual 142, 3) := by decide +kernel
theorem dX0_rising_47 : decode cX0_rising 47 = .ok (.istore 6, 2) := by decide +kernel
theorem dX0_rising_49 : decode cX0_rising 49 = .ok (.iload_n 1, 1) := by decide +kernel
theorem dX0_rising_50 : decode cX0_rising 50 = .ok (.iload 5, 2) := by decide +kernel
theorem dX0_rising_52 : decode cX0_rising 52 = .ok (.invokestatic 139, 3) := by decide +kernel
theorem dX0_rising_55 : decode cX0_rising 55 = .ok (.ifCond .eq 11, 3) := by decide +kernel
theorem dX0_rising_58 : decode cX0_rising 58 = .ok (.iload 6, 2) := by decide +kernel
theorem dX0_rising_60 : decode cX0_rising 60 = .ok (.invokestatic 145, 3) := by decide +kernel
theorem dX0_rising_63 : decode cX0_rising 63 = .ok (.goto 13, 3) := by decide +kernel
theorem dX0_rising_66 : decode cX0_rising 66 = .ok (.aload_n 0, 1) := by decide +kernel
theorem dX0_rising_67 : decode cX0_rising 67 = .ok (.getfield 46, 3) := by decide +kernel
theorem dX0_rising_70 : decode cX0_rising 70 = .ok (.getfield 121, 3) := by decide +kernel
theorem dX0_rising_73 : decode cX0_rising 73 = .ok (.iload 5, 2) := by decide +kernel
theorem dX0_rising_75 : decode cX0_rising 75 = .ok (.iaload, 1) := by decide +kernel
theorem dX0_rising_76 : decode cX0_rising 76 = .ok (.istore 7, 2) := by decide +kernel
theorem dX0_rising_78 : decode cX0_rising 78 = .ok (.iload 6, 2) := by decide +kernel
theorem dX0_rising_80 : decode cX0_rising 80 = .ok (.iload 7, 2) := by decide +kernel
theorem dX0_rising_82 : decode cX0_rising 82 = .ok (.invokestatic 139, 3) := by decide +kernel
theorem dX0_rising_85 : decode cX0_rising 85 = .ok (.ifCond .eq 44, 3) := by decide +kernel
theorem dX0_rising_88 : decode cX0_rising 88 = .ok (.iload 7, 2) := by decide +kernel
theorem dX0_rising_90 : decode cX0_rising 90 = .ok (.iconst 4, 1) := by decide +kernel
theorem dX0_rising_91 : decode cX0_rising 91 = .ok (.if_icmp .ne 12, 3) := by decide +kernel
theorem dX0_rising_94 : decode cX0_rising 94 = .ok (.iload_n 1, 1) := by decide +kernel
theorem dX0_rising_95 : decode cX0_rising 95 = .ok (.iload 5, 2) := by decide +kernel
theorem dX0_rising_97 : decode cX0_rising 97 = .ok (.invokestatic 139, 3) := by decide +kernel
theorem dX0_rising_100 : decode cX0_rising 100 = .ok (.ifCond .ne 29, 3) := by decide +kernel
theorem dX0_rising_103 : decode cX0_rising 103 = .ok (.iload 4, 2) := by decide +kernel
theorem dX0_rising_105 : decode cX0_rising 105 = .ok (.iconst 1, 1) := by decide +kernel
theorem dX0_rising_106 : decode cX0_rising 106 = .ok (.iload 5, 2) := by decide +kernel
theorem dX0_rising_108 : decode cX0_rising 108 = .ok (.ishl, 1) := by decide +kernel
theorem dX0_rising_109 : decode cX0_rising 109 = .ok (.ior, 1) := by decide +kernel
theorem dX0_rising_110 : decode cX0_rising 110 = .ok (.istore 4, 2) := by decide +kernel
theorem dX0_rising_112 : decode cX0_rising 112 = .ok (.aload_n 0, 1) := by decide +kernel
theorem dX0_rising_113 : decode cX0_rising 113 = .ok (.getfield 30, 3) := by decide +kernel
theorem dX0_rising_116 : decode cX0_rising 116 = .ok (.iload 5, 2) := by decide +kernel
theorem dX0_rising_118 : decode cX0_rising 118 = .ok (.iload_n 3, 1) := by decide +kernel
theorem dX0_rising_119 : decode cX0_rising 119 = .ok (.iastore, 1) := by decide +kernel
theorem dX0_rising_120 : decode cX0_rising 120 = .ok (.aload_n 0, 1) := by decide +kernel
theorem dX0_rising_121 : decode cX0_rising 121 = .ok (.getfield 33, 3) := by decide +kernel
theorem dX0_rising_124 : decode cX0_rising 124 = .ok (.iload 5, 2) := by decide +kernel
theorem dX0_rising_126 : decode cX0_rising 126 = .ok (.iload 7, 2) := by decide +kernel
theorem dX0_rising_128 : decode cX0_rising 128 = .ok (.iastore, 1) := by decide +kernel
theorem dX0_rising_129 : decode cX0_rising 129 = .ok (.iinc 5 1, 3) := by decide +kernel
theorem dX0_rising_132 : decode cX0_rising 132 = .ok (.goto (-126), 3) := by decide +kernel
theorem dX0_rising_135 : decode cX0_rising 135 = .ok (.iload 4, 2) := by decide +kernel
theorem dX0_rising_137 : decode cX0_rising 137 = .ok (.ireturn, 1) := by decide +kernel
theorem dX6_followers_0 : decode cX6_followers 0 = .ok (.iconst 0, 1) := by decide +kernel
theorem dX6_followers_1 : decode cX6_followers 1 = .ok (.istore_n 2, 1) := by decide +kernel
theorem dX6_followers_2 : decode cX6_followers 2 = .ok (.iconst 0, 1) := by decide +kernel
theorem dX6_followers_3 : decode cX6_followers 3 = .ok (.istore_n 3, 1) := by decide +kernel
theorem dX6_followers_4 : decode cX6_followers 4 = .ok (.iload_n 3, 1) := by decide +kernel
theorem dX6_followers_5 : decode cX6_followers 5 = .ok (.aload_n 0, 1) := by decide +kernel
theorem dX6_followers_6 : decode cX6_followers 6 = .ok (.getfield 56, 3) := by decide +kernel
theorem dX6_followers_9 : decode cX6_followers 9 = .ok (.if_icmp .ge 33, 3) := by decide +kernel
theorem dX6_followers_12 : decode cX6_followers 12 = .ok (.aload_n 0, 1) := by decide +kernel
theorem dX6_followers_13 : decode cX6_followers 13 = .ok (.getfield 41, 3) := by decide +kernel
theorem dX6_followers_16 : decode cX6_followers 16 = .ok (.iload_n 3, 1) := by decide +kernel
theorem dX6_followers_17 : decode cX6_followers 17 = .ok (.iaload, 1) := by decide +kernel
theorem dX6_followers_18 : decode cX6_followers 18 = .ok (.iload_n 1, 1) := by decide +kernel
theorem dX6_followers_19 : decode cX6_followers 19 = .ok (.iconst (-1), 1) := by decide +kernel
theorem dX6_followers_20 : decode cX6_followers 20 = .ok (.ixor, 1) := by decide +kernel
theorem dX6_followers_21 : decode cX6_followers 21 = .ok (.iand, 1) := by decide +kernel
theorem dX6_followers_22 : decode cX6_followers 22 = .ok (.ifCond .ne 14, 3) := by decide +kernel
theorem dX6_followers_25 : decode cX6_followers 25 = .ok (.iload_n 2, 1) := by decide +kernel
theorem dX6_followers_26 : decode cX6_followers 26 = .ok (.iconst 1, 1) := by decide +kernel
theorem dX6_followers_27 : decode cX6_followers 27 = .ok (.aload_n 0, 1) := by decide +kernel
theorem dX6_followers_28 : decode cX6_followers 28 = .ok (.getfield 38, 3) := by decide +kernel
theorem dX6_followers_31 : decode cX6_followers 31 = .ok (.iload_n 3, 1) := by decide +kernel
theorem dX6_followers_32 : decode cX6_followers 32 = .ok (.iaload, 1) := by decide +kernel
theorem dX6_followers_33 : decode cX6_followers 33 = .ok (.ishl, 1) := by decide +kernel
theorem dX6_followers_34 : decode cX6_followers 34 = .ok (.ior, 1) := by decide +kernel
theorem dX6_followers_35 : decode cX6_followers 35 = .ok (.istore_n 2, 1) := by decide +kernel
theorem dX6_followers_36 : decode cX6_followers 36 = .ok (.iinc 3 1, 3) := by decide +kernel
theorem dX6_followers_39 : decode cX6_followers 39 = .ok (.goto (-35), 3) := by decide +kernel
theorem dX6_followers_42 : decode cX6_followers 42 = .ok (.iload_n 2, 1) := by decide +kernel
theorem dX6_followers_43 : decode cX6_followers 43 = .ok (.ireturn, 1) := by decide +kernel
theorem dX0_widened_0 : decode cX0_widened 0 = .ok (.iload_n 1, 1) := by decide +kernel
theorem dX0_widened_1 : decode cX0_widened 1 = .ok (.iload_n 3, 1) := by decide +kernel
theorem dX0_widened_2 : decode cX0_widened 2 = .ok (.ior, 1) := by decide +kernel
theorem dX0_widened_3 : decode cX0_widened 3 = .ok (.aload_n 0, 1) := by decide +kernel
theorem dX0_widened_4 : decode cX0_widened 4 = .ok (.getfield 42, 3) := by decide +kernel
theorem dX0_widened_7 : decode cX0_widened 7 = .ok (.iload_n 1, 1) := by decide +kernel
theorem dX0_widened_8 : decode cX0_widened 8 = .ok (.invokevirtual 155, 3) := by decide +kernel
theorem dX0_widened_11 : decode cX0_widened 11 = .ok (.ior, 1) := by decide +kernel
theorem dX0_widened_12 : decode cX0_widened 12 = .ok (.istore 4, 2) := by decide +kernel
theorem dX0_widened_14 : decode cX0_widened 14 = .ok (.iconst 0, 1) := by decide +kernel
theorem dX0_widened_15 : decode cX0_widened 15 = .ok (.istore 5, 2) := by decide +kernel
theorem dX0_widened_17 : decode cX0_widened 17 = .ok (.iload_n 2, 1) := by decide +kernel
theorem dX0_widened_18 : decode cX0_widened 18 = .ok (.ifCond .eq 46, 3) := by decide +kernel
theorem dX0_widened_21 : decode cX0_widened 21 = .ok (.iload 5, 2) := by decide +kernel
theorem dX0_widened_23 : decode cX0_widened 23 = .ok (.aload_n 0, 1) := by decide +kernel
theorem dX0_widened_24 : decode cX0_widened 24 = .ok (.getfield 42, 3) := by decide +kernel
theorem dX0_widened_27 : decode cX0_widened 27 = .ok (.getfield 158, 3) := by decide +kernel
theorem dX0_widened_30 : decode cX0_widened 30 = .ok (.if_icmp .ge 34, 3) := by decide +kernel
theorem dX0_widened_33 : decode cX0_widened 33 = .ok (.aload_n 0, 1) := by decide +kernel
theorem dX0_widened_34 : decode cX0_widened 34 = .ok (.getfield 21, 3) := by decide +kernel
theorem dX0_widened_37 : decode cX0_widened 37 = .ok (.iload 5, 2) := by decide +kernel
theorem dX0_widened_39 : decode cX0_widened 39 = .ok (.iconst 0, 1) := by decide +kernel
theorem dX0_widened_40 : decode cX0_widened 40 = .ok (.invokestatic 117, 3) := by decide +kernel
theorem dX0_widened_43 : decode cX0_widened 43 = .ok (.iaload, 1) := by decide +kernel
theorem dX0_widened_44 : decode cX0_widened 44 = .ok (.iload_n 2, 1) := by decide +kernel
theorem dX0_widened_45 : decode cX0_widened 45 = .ok (.iand, 1) := by decide +kernel
theorem dX0_widened_46 : decode cX0_widened 46 = .ok (.ifCond .eq 12, 3) := by decide +kernel
theorem dX0_widened_49 : decode cX0_widened 49 = .ok (.iload 4, 2) := by decide +kernel
theorem dX0_widened_51 : decode cX0_widened 51 = .ok (.iconst 1, 1) := by decide +kernel
theorem dX0_widened_52 : decode cX0_widened 52 = .ok (.iload 5, 2) := by decide +kernel
theorem dX0_widened_54 : decode cX0_widened 54 = .ok (.ishl, 1) := by decide +kernel
theorem dX0_widened_55 : decode cX0_widened 55 = .ok (.ior, 1) := by decide +kernel
theorem dX0_widened_56 : decode cX0_widened 56 = .ok (.istore 4, 2) := by decide +kernel
theorem dX0_widened_58 : decode cX0_widened 58 = .ok (.iinc 5 1, 3) := by decide +kernel
theorem dX0_widened_61 : decode cX0_widened 61 = .ok (.goto (-44), 3) := by decide +kernel
theorem dX0_widened_64 : decode cX0_widened 64 = .ok (.iload 4, 2) := by decide +kernel
theorem dX0_widened_66 : decode cX0_widened 66 = .ok (.ireturn, 1) := by decide +kernel
theorem dX0_widenAll_0 : decode cX0_widenAll 0 = .ok (.iconst 0, 1) := by decide +kernel
theorem dX0_widenAll_1 : decode cX0_widenAll 1 = .ok (.istore_n 3, 1) := by decide +kernel
theorem dX0_widenAll_2 : decode cX0_widenAll 2 = .ok (.iconst 0, 1) := by decide +kernel
theorem dX0_widenAll_3 : decode cX0_widenAll 3 = .ok (.istore 4, 2) := by decide +kernel
theorem dX0_widenAll_5 : decode cX0_widenAll 5 = .ok (.iload 4, 2) := by decide +kernel
theorem dX0_widenAll_7 : decode cX0_widenAll 7 = .ok (.aload_n 0, 1) := by decide +kernel
theorem dX0_widenAll_8 : decode cX0_widenAll 8 = .ok (.getfield 46, 3) := by decide +kernel
theorem dX0_widenAll_11 : decode cX0_widenAll 11 = .ok (.getfield 89, 3) := by decide +kernel
theorem dX0_widenAll_14 : decode cX0_widenAll 14 = .ok (.if_icmp .ge 104, 3) := by decide +kernel
theorem dX0_widenAll_17 : decode cX0_widenAll 17 = .ok (.iload_n 2, 1) := by decide +kernel
theorem dX0_widenAll_18 : decode cX0_widenAll 18 = .ok (.iload 4, 2) := by decide +kernel
theorem dX0_widenAll_20 : decode cX0_widenAll 20 = .ok (.invokestatic 139, 3) := by decide +kernel
theorem dX0_widenAll_23 : decode cX0_widenAll 23 = .ok (.ifCond .eq 89, 3) := by decide +kernel
theorem dX0_widenAll_26 : decode cX0_widenAll 26 = .ok (.aload_n 0, 1) := by decide +kernel
theorem dX0_widenAll_27 : decode cX0_widenAll 27 = .ok (.getfield 46, 3) := by decide +kernel
theorem dX0_widenAll_30 : decode cX0_widenAll 30 = .ok (.getfield 121, 3) := by decide +kernel
theorem dX0_widenAll_33 : decode cX0_widenAll 33 = .ok (.iload 4, 2) := by decide +kernel
theorem dX0_widenAll_35 : decode cX0_widenAll 35 = .ok (.iaload, 1) := by decide +kernel
theorem dX0_widenAll_36 : decode cX0_widenAll 36 = .ok (.iconst 3, 1) := by decide +kernel
theorem dX0_widenAll_37 : decode cX0_widenAll 37 = .ok (.if_icmp .eq 12, 3) := by decide +kernel
theorem dX0_widenAll_40 : decode cX0_widenAll 40 = .ok (.iload_n 1, 1) := by decide +kernel
theorem dX0_widenAll_41 : decode cX0_widenAll 41 = .ok (.iload 4, 2) := by decide +kernel
theorem dX0_widenAll_43 : decode cX0_widenAll 43 = .ok (.invokestatic 139, 3) := by decide +kernel
theorem dX0_widenAll_46 : decode cX0_widenAll 46 = .ok (.ifCond .eq 66, 3) := by decide +kernel
theorem dX0_widenAll_49 : decode cX0_widenAll 49 = .ok (.aload_n 0, 1) := by decide +kernel
theorem dX0_widenAll_50 : decode cX0_widenAll 50 = .ok (.aload_n 0, 1) := by decide +kernel
theorem dX0_widenAll_51 : decode cX0_widenAll 51 = .ok (.getfield 27, 3) := by decide +kernel
theorem dX0_widenAll_54 : decode cX0_widenAll 54 = .ok (.iload 4, 2) := by decide +kernel
theorem dX0_widenAll_56 : decode cX0_widenAll 56 = .ok (.iaload, 1) := by decide +kernel
theorem dX0_widenAll_57 : decode cX0_widenAll 57 = .ok (.aload_n 0, 1) := by decide +kernel
theorem dX0_widenAll_58 : decode cX0_widenAll 58 = .ok (.getfield 11, 3) := by decide +kernel
theorem dX0_widenAll_61 : decode cX0_widenAll 61 = .ok (.iload 4, 2) := by decide +kernel
theorem dX0_widenAll_63 : decode cX0_widenAll 63 = .ok (.iaload, 1) := by decide +kernel
theorem dX0_widenAll_64 : decode cX0_widenAll 64 = .ok (.aload_n 0, 1) := by decide +kernel
theorem dX0_widenAll_65 : decode cX0_widenAll 65 = .ok (.getfield 128, 3) := by decide +kernel
theorem dX0_widenAll_68 : decode cX0_widenAll 68 = .ok (.iand, 1) := by decide +kernel
theorem dX0_widenAll_69 : decode cX0_widenAll 69 = .ok (.aload_n 0, 1) := by decide +kernel
theorem dX0_widenAll_70 : decode cX0_widenAll 70 = .ok (.getfield 15, 3) := by decide +kernel
theorem dX0_widenAll_73 : decode cX0_widenAll 73 = .ok (.iload 4, 2) := by decide +kernel
theorem dX0_widenAll_75 : decode cX0_widenAll 75 = .ok (.iaload, 1) := by decide +kernel
theorem dX0_widenAll_76 : decode cX0_widenAll 76 = .ok (.invokevirtual 152, 3) := by decide +kernel
theorem dX0_widenAll_79 : decode cX0_widenAll 79 = .ok (.istore 5, 2) := by decide +kernel
theorem dX0_widenAll_81 : decode cX0_widenAll 81 = .ok (.iload_n 3, 1) := by decide +kernel
theorem dX0_widenAll_82 : decode cX0_widenAll 82 = .ok (.ifCond .ne 15, 3) := by decide +kernel
theorem dX0_widenAll_85 : decode cX0_widenAll 85 = .ok (.iload 5, 2) := by decide +kernel
theorem dX0_widenAll_87 : decode cX0_widenAll 87 = .ok (.aload_n 0, 1) := by decide +kernel
theorem dX0_widenAll_88 : decode cX0_widenAll 88 = .ok (.getfield 27, 3) := by decide +kernel
theorem dX0_widenAll_91 : decode cX0_widenAll 91 = .ok (.iload 4, 2) := by decide +kernel
theorem dX0_widenAll_93 : decode cX0_widenAll 93 = .ok (.iaload, 1) := by decide +kernel
theorem dX0_widenAll_94 : decode cX0_widenAll 94 = .ok (.if_icmp .eq 7, 3) := by decide +kernel
theorem dX0_widenAll_97 : decode cX0_widenAll 97 = .ok (.iconst 1, 1) := by decide +kernel
theorem dX0_widenAll_98 : decode cX0_widenAll 98 = .ok (.goto 4, 3) := by decide +kernel
theorem dX0_widenAll_101 : decode cX0_widenAll 101 = .ok (.iconst 0, 1) := by decide +kernel
theorem dX0_widenAll_102 : decode cX0_widenAll 102 = .ok (.istore_n 3, 1) := by decide +kernel
theorem dX0_widenAll_103 : decode cX0_widenAll 103 = .ok (.aload_n 0, 1) := by decide +kernel
theorem dX0_widenAll_104 : decode cX0_widenAll 104 = .ok (.getfield 27, 3) := by decide +kernel
theorem dX0_widenAll_107 : decode cX0_widenAll 107 = .ok (.iload 4, 2) := by decide +kernel
theorem dX0_widenAll_109 : decode cX0_widenAll 109 = .ok (.iload 5, 2) := by decide +kernel
theorem dX0_widenAll_111 : decode cX0_widenAll 111 = .ok (.iastore, 1) := by decide +kernel
theorem dX0_widenAll_112 : decode cX0_widenAll 112 = .ok (.iinc 4 1, 3) := by decide +kernel
theorem dX0_widenAll_115 : decode cX0_widenAll 115 = .ok (.goto (-110), 3) := by decide +kernel
theorem dX0_widenAll_118 : decode cX0_widenAll 118 = .ok (.iload_n 3, 1) := by decide +kernel
theorem dX0_widenAll_119 : decode cX0_widenAll 119 = .ok (.ireturn, 1) := by decide +kernel
theorem dX0_rise_0 : decode cX0_rise 0 = .ok (.aload_n 0, 1) := by decide +kernel
theorem dX0_rise_1 : decode cX0_rise 1 = .ok (.iconst 0, 1) := by decide +kernel
theorem dX0_rise_2 : decode cX0_rise 2 = .ok (.putfield 76, 3) := by decide +kernel
theorem dX0_rise_5 : decode cX0_rise 5 = .ok (.aload_n 0, 1) := by decide +kernel
theorem dX0_rise_6 : decode cX0_rise 6 = .ok (.iconst 0, 1) := by decide +kernel
theorem dX0_rise_7 : decode cX0_rise 7 = .ok (.putfield 128, 3) := by decide +kernel
theorem dX0_rise_10 : decode cX0_rise 10 = .ok (.aload_n 0, 1) := by decide +kernel
theorem dX0_rise_11 : decode cX0_rise 11 = .ok (.getfield 27, 3) := by decide +kernel
theorem dX0_rise_14 : decode cX0_rise 14 = .ok (.iconst 0, 1) := by decide +kernel
theorem dX0_rise_15 : decode cX0_rise 15 = .ok (.invokestatic 80, 3) := by decide +kernel
theorem dX0_rise_18 : decode cX0_rise 18 = .ok (.aload_n 0, 1) := by decide +kernel
theorem dX0_rise_19 : decode cX0_rise 19 = .ok (.getfield 30, 3) := by decide +kernel
theorem dX0_rise_22 : decode cX0_rise 22 = .ok (.iconst 0, 1) := by decide +kernel
theorem dX0_rise_23 : decode cX0_rise 23 = .ok (.invokestatic 80, 3) := by decide +kernel
theorem dX0_rise_26 : decode cX0_rise 26 = .ok (.iconst 1, 1) := by decide +kernel
theorem dX0_rise_27 : decode cX0_rise 27 = .ok (.istore_n 3, 1) := by decide +kernel
theorem dX0_rise_28 : decode cX0_rise 28 = .ok (.iconst 1, 1) := by decide +kernel
theorem dX0_rise_29 : decode cX0_rise 29 = .ok (.istore 4, 2) := by decide +kernel
theorem dX0_rise_31 : decode cX0_rise 31 = .ok (.iload_n 3, 1) := by decide +kernel
theorem dX0_rise_32 : decode cX0_rise 32 = .ok (.ifCond .eq 93, 3) := by decide +kernel
theorem dX0_rise_35 : decode cX0_rise 35 = .ok (.iload 4, 2) := by decide +kernel
theorem dX0_rise_37 : decode cX0_rise 37 = .ok (.sipush 181, 3) := by decide +kernel
theorem dX0_rise_40 : decode cX0_rise 40 = .ok (.if_icmp .gt 85, 3) := by decide +kernel
theorem dX0_rise_43 : decode cX0_rise 43 = .ok (.aload_n 0, 1) := by decide +kernel
theorem dX0_rise_44 : decode cX0_rise 44 = .ok (.iload_n 1, 1) := by decide +kernel
theorem dX0_rise_45 : decode cX0_rise 45 = .ok (.iload_n 2, 1) := by decide +kernel
theorem dX0_rise_46 : decode cX0_rise 46 = .ok (.aload_n 0, 1) := by decide +kernel
theorem dX0_rise_47 : decode cX0_rise 47 = .ok (.getfield 76, 3) := by decide +kernel
theorem dX0_rise_50 : decode cX0_rise 50 = .ok (.iconst (-1), 1) := by decide +kernel
theorem dX0_rise_51 : decode cX0_rise 51 = .ok (.ixor, 1) := by decide +kernel
theorem dX0_rise_52 : decode cX0_rise 52 = .ok (.iand, 1) := by decide +kernel
theorem dX0_rise_53 : decode cX0_rise 53 = .ok (.iload 4, 2) := by decide +kernel
theorem dX0_rise_55 : decode cX0_rise 55 = .ok (.invokevirtual 131, 3) := by decide +kernel
theorem dX0_rise_58 : decode cX0_rise 58 = .ok (.istore 5, 2) := by decide +kernel
theorem dX0_rise_60 : decode cX0_rise 60 = .ok (.aload_n 0, 1) := by decide +kernel
theorem dX0_rise_61 : decode cX0_rise 61 = .ok (.iload_n 1, 1) := by decide +kernel
theorem dX0_rise_62 : decode cX0_rise 62 = .ok (.iload_n 2, 1) := by decide +kernel
theorem dX0_rise_63 : decode cX0_rise 63 = .ok (.aload_n 0, 1) := by decide +kernel
theorem dX0_rise_64 : decode cX0_rise 64 = .ok (.getfield 76, 3) := by decide +kernel
theorem dX0_rise_67 : decode cX0_rise 67 = .ok (.iconst (-1), 1) := by decide +kernel
theorem dX0_rise_68 : decode cX0_rise 68 = .ok (.ixor, 1) := by decide +kernel
theorem dX0_rise_69 : decode cX0_rise 69 = .ok (.iand, 1) := by decide +kernel
theorem dX0_rise_70 : decode cX0_rise 70 = .ok (.invokevirtual 135, 3) := by decide +kernel
theorem dX0_rise_73 : decode cX0_rise 73 = .ok (.istore 6, 2) := by decide +kernel
theorem dX0_rise_75 : decode cX0_rise 75 = .ok (.iload 6, 2) := by decide +kernel
theorem dX0_rise_77 : decode cX0_rise 77 = .ok (.ifCond .ne 8, 3) := by decide +kernel
theorem dX0_rise_80 : decode cX0_rise 80 = .ok (.iload 5, 2) := by decide +kernel
theorem dX0_rise_82 : decode cX0_rise 82 = .ok (.ifCond .eq 7, 3) := by decide +kernel
theorem dX0_rise_85 : decode cX0_rise 85 = .ok (.iconst 1, 1) := by decide +kernel
theorem dX0_rise_86 : decode cX0_rise 86 = .ok (.goto 4, 3) := by decide +kernel
theorem dX0_rise_89 : decode cX0_rise 89 = .ok (.iconst 0, 1) := by decide +kernel
theorem dX0_rise_90 : decode cX0_rise 90 = .ok (.istore_n 3, 1) := by decide +kernel
theorem dX0_rise_91 : decode cX0_rise 91 = .ok (.aload_n 0, 1) := by decide +kernel
theorem dX0_rise_92 : decode cX0_rise 92 = .ok (.dup, 1) := by decide +kernel
theorem dX0_rise_93 : decode cX0_rise 93 = .ok (.getfield 76, 3) := by decide +kernel
theorem dX0_rise_96 : decode cX0_rise 96 = .ok (.iload 5, 2) := by decide +kernel
theorem dX0_rise_98 : decode cX0_rise 98 = .ok (.ior, 1) := by decide +kernel
theorem dX0_rise_99 : decode cX0_rise 99 = .ok (.putfield 76, 3) := by decide +kernel
theorem dX0_rise_102 : decode cX0_rise 102 = .ok (.aload_n 0, 1) := by decide +kernel
theorem dX0_rise_103 : decode cX0_rise 103 = .ok (.aload_n 0, 1) := by decide +kernel
theorem dX0_rise_104 : decode cX0_rise 104 = .ok (.getfield 76, 3) := by decide +kernel
theorem dX0_rise_107 : decode cX0_rise 107 = .ok (.aload_n 0, 1) := by decide +kernel
theorem dX0_rise_108 : decode cX0_rise 108 = .ok (.getfield 86, 3) := by decide +kernel
theorem dX0_rise_111 : decode cX0_rise 111 = .ok (.iconst (-1), 1) := by decide +kernel
theorem dX0_rise_112 : decode cX0_rise 112 = .ok (.ixor, 1) := by decide +kernel
theorem dX0_rise_113 : decode cX0_rise 113 = .ok (.iload_n 1, 1) := by decide +kernel
theorem dX0_rise_114 : decode cX0_rise 114 = .ok (.ior, 1) := by decide +kernel
theorem dX0_rise_115 : decode cX0_rise 115 = .ok (.iand, 1) := by decide +kernel
theorem dX0_rise_116 : decode cX0_rise 116 = .ok (.putfield 128, 3) := by decide +kernel
theorem dX0_rise_119 : decode cX0_rise 119 = .ok (.iinc 4 1, 3) := by decide +kernel
theorem dX0_rise_122 : decode cX0_rise 122 = .ok (.goto (-91), 3) := by decide +kernel
theorem dX0_rise_125 : decode cX0_rise 125 = .ok (.return_, 1) := by decide +kernel
theorem dX0_settle_0 : decode cX0_settle 0 = .ok (.aload_n 0, 1) := by decide +kernel
theorem dX0_settle_1 : decode cX0_settle 1 = .ok (.getfield 50, 3) := by decide +kernel
theorem dX0_settle_4 : decode cX0_settle 4 = .ok (.ifCond .eq 4, 3) := by decide +kernel
theorem dX0_settle_7 : decode cX0_settle 7 = .ok (.return_, 1) := by decide +kernel
theorem dX0_settle_8 : decode cX0_settle 8 = .ok (.aload_n 0, 1) := by decide +kernel
theorem dX0_settle_9 : decode cX0_settle 9 = .ok (.invokevirtual 54, 3) := by decide +kernel
theorem dX0_settle_12 : decode cX0_settle 12 = .ok (.aload_n 0, 1) := by decide +kernel
theorem dX0_settle_13 : decode cX0_settle 13 = .ok (.iconst 0, 1) := by decide +kernel
theorem dX0_settle_14 : decode cX0_settle 14 = .ok (.aload_n 0, 1) := by decide +kernel
theorem dX0_settle_15 : decode cX0_settle 15 = .ok (.getfield 46, 3) := by decide +kernel
theorem dX0_settle_18 : decode cX0_settle 18 = .ok (.invokevirtual 57, 3) := by decide +kernel
theorem dX0_settle_21 : decode cX0_settle 21 = .ok (.invokevirtual 63, 3) := by decide +kernel
theorem dX0_settle_24 : decode cX0_settle 24 = .ok (.aload_n 0, 1) := by decide +kernel
theorem dX0_settle_25 : decode cX0_settle 25 = .ok (.iconst 1, 1) := by decide +kernel
theorem dX0_settle_26 : decode cX0_settle 26 = .ok (.putfield 50, 3) := by decide +kernel
theorem dX0_settle_29 : decode cX0_settle 29 = .ok (.aload_n 0, 1) := by decide +kernel
theorem dX0_settle_30 : decode cX0_settle 30 = .ok (.iconst 0, 1) := by decide +kernel
theorem dX0_settle_31 : decode cX0_settle 31 = .ok (.putfield 67, 3) := by decide +kernel
theorem dX0_settle_34 : decode cX0_settle 34 = .ok (.return_, 1) := by decide +kernel
theorem dX0_widest_0 : decode cX0_widest 0 = .ok (.aload_n 0, 1) := by decide +kernel
theorem dX0_widest_1 : decode cX0_widest 1 = .ok (.iconst 0, 1) := by decide +kernel
theorem dX0_widest_2 : decode cX0_widest 2 = .ok (.iload_n 1, 1) := by decide +kernel
theorem dX0_widest_3 : decode cX0_widest 3 = .ok (.iload_n 2, 1) := by decide +kernel
theorem dX0_widest_4 : decode cX0_widest 4 = .ok (.invokevirtual 152, 3) := by decide +kernel
theorem dX0_widest_7 : decode cX0_widest 7 = .ok (.istore_n 3, 1) := by decide +kernel
theorem dX0_widest_8 : decode cX0_widest 8 = .ok (.aload_n 0, 1) := by decide +kernel
theorem dX0_widest_9 : decode cX0_widest 9 = .ok (.iload_n 3, 1) := by decide +kernel
theorem dX0_widest_10 : decode cX0_widest 10 = .ok (.iload_n 1, 1) := by decide +kernel
theorem dX0_widest_11 : decode cX0_widest 11 = .ok (.iload_n 2, 1) := by decide +kernel
theorem dX0_widest_12 : decode cX0_widest 12 = .ok (.invokevirtual 152, 3) := by decide +kernel
theorem dX0_widest_15 : decode cX0_widest 15 = .ok (.istore 4, 2) := by decide +kernel
theorem dX0_widest_17 : decode cX0_widest 17 = .ok (.iconst 0, 1) := by decide +kernel
theorem dX0_widest_18 : decode cX0_widest 18 = .ok (.istore 5, 2) := by decide +kernel
theorem dX0_widest_20 : decode cX0_widest 20 = .ok (.iload 4, 2) := by decide +kernel
theorem dX0_widest_22 : decode cX0_widest 22 = .ok (.iload_n 3, 1) := by decide +kernel
theorem dX0_widest_23 : decode cX0_widest 23 = .ok (.if_icmp .eq 28, 3) := by decide +kernel
theorem dX0_widest_26 : decode cX0_widest 26 = .ok (.iload 5, 2) := by decide +kernel
theorem dX0_widest_28 : decode cX0_widest 28 = .ok (.bipush 8, 2) := by decide +kernel
theorem dX0_widest_30 : decode cX0_widest 30 = .ok (.if_icmp .ge 21, 3) := by decide +kernel
theorem dX0_widest_33 : decode cX0_widest 33 = .ok (.iload 4, 2) := by decide +kernel
theorem dX0_widest_35 : decode cX0_widest 35 = .ok (.istore_n 3, 1) := by decide +kernel
theorem dX0_widest_36 : decode cX0_widest 36 = .ok (.aload_n 0, 1) := by decide +kernel
theorem dX0_widest_37 : decode cX0_widest 37 = .ok (.iload_n 3, 1) := by decide +kernel
theorem dX0_widest_38 : decode cX0_widest 38 = .ok (.iload_n 1, 1) := by decide +kernel
theorem dX0_widest_39 : decode cX0_widest 39 = .ok (.iload_n 2, 1) := by decide +kernel
theorem dX0_widest_40 : decode cX0_widest 40 = .ok (.invokevirtual 152, 3) := by decide +kernel
theorem dX0_widest_43 : decode cX0_widest 43 = .ok (.istore 4, 2) := by decide +kernel
theorem dX0_widest_45 : decode cX0_widest 45 = .ok (.iinc 5 1, 3) := by decide +kernel
theorem dX0_widest_48 : decode cX0_widest 48 = .ok (.goto (-28), 3) := by decide +kernel
theorem dX0_widest_51 : decode cX0_widest 51 = .ok (.iload 4, 2) := by decide +kernel
theorem dX0_widest_53 : decode cX0_widest 53 = .ok (.ireturn, 1) := by decide +kernel
theorem dX0_howsFor_0 : decode cX0_howsFor 0 = .ok (.aload_n 0, 1) := by decide +kernel
theorem dX0_howsFor_1 : decode cX0_howsFor 1 = .ok (.invokevirtual 70, 3) := by decide +kernel
theorem dX0_howsFor_4 : decode cX0_howsFor 4 = .ok (.bipush 16, 2) := by decide +kernel
theorem dX0_howsFor_6 : decode cX0_howsFor 6 = .ok (.aload_n 0, 1) := by decide +kernel
theorem dX0_howsFor_7 : decode cX0_howsFor 7 = .ok (.getfield 42, 3) := by decide +kernel
theorem dX0_howsFor_10 : decode cX0_howsFor 10 = .ok (.iload_n 1, 1) := by decide +kernel
theorem dX0_howsFor_11 : decode cX0_howsFor 11 = .ok (.iload_n 2, 1) := by decide +kernel
theorem dX0_howsFor_12 : decode cX0_howsFor 12 = .ok (.iload_n 3, 1) := by decide +kernel
theorem dX0_howsFor_13 : decode cX0_howsFor 13 = .ok (.iload 4, 2) := by decide +kernel
theorem dX0_howsFor_15 : decode cX0_howsFor 15 = .ok (.invokevirtual 114, 3) := by decide +kernel
theorem dX0_howsFor_18 : decode cX0_howsFor 18 = .ok (.ior, 1) := by decide +kernel
theorem dX0_howsFor_19 : decode cX0_howsFor 19 = .ok (.istore 5, 2) := by decide +kernel
theorem dX0_howsFor_21 : decode cX0_howsFor 21 = .ok (.aload_n 0, 1) := by decide +kernel
theorem dX0_howsFor_22 : decode cX0_howsFor 22 = .ok (.iload_n 1, 1) := by decide +kernel
theorem dX0_howsFor_23 : decode cX0_howsFor 23 = .ok (.iload_n 2, 1) := by decide +kernel
theorem dX0_howsFor_24 : decode cX0_howsFor 24 = .ok (.invokevirtual 98, 3) := by decide +kernel
theorem dX0_howsFor_27 : decode cX0_howsFor 27 = .ok (.aload_n 0, 1) := by decide +kernel
theorem dX0_howsFor_28 : decode cX0_howsFor 28 = .ok (.getfield 128, 3) := by decide +kernel
theorem dX0_howsFor_31 : decode cX0_howsFor 31 = .ok (.iand, 1) := by decide +kernel
theorem dX0_howsFor_32 : decode cX0_howsFor 32 = .ok (.istore 6, 2) := by decide +kernel
theorem dX0_howsFor_34 : decode cX0_howsFor 34 = .ok (.iload 6, 2) := by decide +kernel
theorem dX0_howsFor_36 : decode cX0_howsFor 36 = .ok (.aload_n 0, 1) := by decide +kernel
theorem dX0_howsFor_37 : decode cX0_howsFor 37 = .ok (.getfield 21, 3) := by decide +kernel
theorem dX0_howsFor_40 : decode cX0_howsFor 40 = .ok (.iload_n 3, 1) := by decide +kernel
theorem dX0_howsFor_41 : decode cX0_howsFor 41 = .ok (.iload 4, 2) := by decide +kernel
theorem dX0_howsFor_43 : decode cX0_howsFor 43 = .ok (.invokestatic 117, 3) := by decide +kernel
theorem dX0_howsFor_46 : decode cX0_howsFor 46 = .ok (.iaload, 1) := by decide +kernel
theorem dX0_howsFor_47 : decode cX0_howsFor 47 = .ok (.iand, 1) := by decide +kernel
theorem dX0_howsFor_48 : decode cX0_howsFor 48 = .ok (.ifCond .eq 9, 3) := by decide +kernel
theorem dX0_howsFor_51 : decode cX0_howsFor 51 = .ok (.iload 5, 2) := by decide +kernel
theorem dX0_howsFor_53 : decode cX0_howsFor 53 = .ok (.iconst 4, 1) := by decide +kernel
theorem dX0_howsFor_54 : decode cX0_howsFor 54 = .ok (.ior, 1) := by decide +kernel
theorem dX0_howsFor_55 : decode cX0_howsFor 55 = .ok (.istore 5, 2) := by decide +kernel
theorem dX0_howsFor_57 : decode cX0_howsFor 57 = .ok (.iload 4, 2) := by decide +kernel
theorem dX0_howsFor_59 : decode cX0_howsFor 59 = .ok (.ifCond .ne 36, 3) := by decide +kernel
theorem dX0_howsFor_62 : decode cX0_howsFor 62 = .ok (.aload_n 0, 1) := by decide +kernel
theorem dX0_howsFor_63 : decode cX0_howsFor 63 = .ok (.getfield 42, 3) := by decide +kernel
theorem dX0_howsFor_66 : decode cX0_howsFor 66 = .ok (.iload_n 3, 1) := by decide +kernel
theorem dX0_howsFor_67 : decode cX0_howsFor 67 = .ok (.aload_n 0, 1) := by decide +kernel
theorem dX0_howsFor_68 : decode cX0_howsFor 68 = .ok (.iload 6, 2) := by decide +kernel
theorem dX0_howsFor_70 : decode cX0_howsFor 70 = .ok (.aload_n 0, 1) := by decide +kernel
theorem dX0_howsFor_71 : decode cX0_howsFor 71 = .ok (.getfield 42, 3) := by decide +kernel
theorem dX0_howsFor_74 : decode cX0_howsFor 74 = .ok (.iload_n 1, 1) := by decide +kernel
theorem dX0_howsFor_75 : decode cX0_howsFor 75 = .ok (.iload_n 2, 1) := by decide +kernel
theorem dX0_howsFor_76 : decode cX0_howsFor 76 = .ok (.invokevirtual 102, 3) := by decide +kernel
theorem dX0_howsFor_79 : decode cX0_howsFor 79 = .ok (.invokevirtual 161, 3) := by decide +kernel
theorem dX0_howsFor_82 : decode cX0_howsFor 82 = .ok (.invokevirtual 149, 3) := by decide +kernel
theorem dX0_howsFor_85 : decode cX0_howsFor 85 = .ok (.ifCond .eq 10, 3) := by decide +kernel
theorem dX0_howsFor_88 : decode cX0_howsFor 88 = .ok (.iload 5, 2) := by decide +kernel
theorem dX0_howsFor_90 : decode cX0_howsFor 90 = .ok (.bipush 8, 2) := by decide +kernel
theorem dX0_howsFor_92 : decode cX0_howsFor 92 = .ok (.ior, 1) := by decide +kernel
theorem dX0_howsFor_93 : decode cX0_howsFor 93 = .ok (.istore 5, 2) := by decide +kernel
theorem dX0_howsFor_95 : decode cX0_howsFor 95 = .ok (.iload 5, 2) := by decide +kernel
theorem dX0_howsFor_97 : decode cX0_howsFor 97 = .ok (.ireturn, 1) := by decide +kernel
theorem dX9_could_0 : decode cX9_could 0 = .ok (.aload_n 0, 1) := by decide +kernel
theorem dX9_could_1 : decode cX9_could 1 = .ok (.iload_n 1, 1) := by decide +kernel
theorem dX9_could_2 : decode cX9_could 2 = .ok (.invokevirtual 170, 3) := by decide +kernel
theorem dX9_could_5 : decode cX9_could 5 = .ok (.aload_n 0, 1) := by decide +kernel
theorem dX9_could_6 : decode cX9_could 6 = .ok (.iload_n 2, 1) := by decide +kernel
theorem dX9_could_7 : decode cX9_could 7 = .ok (.invokevirtual 173, 3) := by decide +kernel
theorem dX9_could_10 : decode cX9_could 10 = .ok (.aload_n 0, 1) := by decide +kernel
theorem dX9_could_11 : decode cX9_could 11 = .ok (.iload_n 3, 1) := by decide +kernel
theorem dX9_could_12 : decode cX9_could 12 = .ok (.invokevirtual 190, 3) := by decide +kernel
theorem dX9_could_15 : decode cX9_could 15 = .ok (.aload_n 0, 1) := by decide +kernel
theorem dX9_could_16 : decode cX9_could 16 = .ok (.getfield 73, 3) := by decide +kernel
theorem dX9_could_19 : decode cX9_could 19 = .ok (.iload_n 1, 1) := by decide +kernel
theorem dX9_could_20 : decode cX9_could 20 = .ok (.iload_n 2, 1) := by decide +kernel
theorem dX9_could_21 : decode cX9_could 21 = .ok (.iload_n 3, 1) := by decide +kernel
theorem dX9_could_22 : decode cX9_could 22 = .ok (.iload 4, 2) := by decide +kernel
theorem dX9_could_24 : decode cX9_could 24 = .ok (.invokevirtual 269, 3) := by decide +kernel
theorem dX9_could_27 : decode cX9_could 27 = .ok (.ireturn, 1) := by decide +kernel
theorem dJ6_bitCount_0f7a4_0 : decode cJ6_bitCount_0f7a4 0 = .ok (.iload_n 0, 1) := by decide +kernel
theorem dJ6_bitCount_0f7a4_1 : decode cJ6_bitCount_0f7a4 1 = .ok (.iload_n 0, 1) := by decide +kernel
theorem dJ6_bitCount_0f7a4_2 : decode cJ6_bitCount_0f7a4 2 = .ok (.iconst 1, 1) := by decide +kernel
theorem dJ6_bitCount_0f7a4_3 : decode cJ6_bitCount_0f7a4 3 = .ok (.iushr, 1) := by decide +kernel
theorem dJ6_bitCount_0f7a4_4 : decode cJ6_bitCount_0f7a4 4 = .ok (.ldc_w 265, 3) := by decide +kernel
theorem dJ6_bitCount_0f7a4_7 : decode cJ6_bitCount_0f7a4 7 = .ok (.iand, 1) := by decide +kernel
theorem dJ6_bitCount_0f7a4_8 : decode cJ6_bitCount_0f7a4 8 = .ok (.isub, 1) := by decide +kernel
theorem dJ6_bitCount_0f7a4_9 : decode cJ6_bitCount_0f7a4 9 = .ok (.istore_n 0, 1) := by decide +kernel
theorem dJ6_bitCount_0f7a4_10 : decode cJ6_bitCount_0f7a4 10 = .ok (.iload_n 0, 1) := by decide +kernel
theorem dJ6_bitCount_0f7a4_11 : decode cJ6_bitCount_0f7a4 11 = .ok (.ldc_w 266, 3) := by decide +kernel
theorem dJ6_bitCount_0f7a4_14 : decode cJ6_bitCount_0f7a4 14 = .ok (.iand, 1) := by decide +kernel
theorem dJ6_bitCount_0f7a4_15 : decode cJ6_bitCount_0f7a4 15 = .ok (.iload_n 0, 1) := by decide +kernel
theorem dJ6_bitCount_0f7a4_16 : decode cJ6_bitCount_0f7a4 16 = .ok (.iconst 2, 1) := by decide +kernel
theorem dJ6_bitCount_0f7a4_17 : decode cJ6_bitCount_0f7a4 17 = .ok (.iushr, 1) := by decide +kernel
theorem dJ6_bitCount_0f7a4_18 : decode cJ6_bitCount_0f7a4 18 = .ok (.ldc_w 266, 3) := by decide +kernel
theorem dJ6_bitCount_0f7a4_21 : decode cJ6_bitCount_0f7a4 21 = .ok (.iand, 1) := by decide +kernel
theorem dJ6_bitCount_0f7a4_22 : decode cJ6_bitCount_0f7a4 22 = .ok (.iadd, 1) := by decide +kernel
theorem dJ6_bitCount_0f7a4_23 : decode cJ6_bitCount_0f7a4 23 = .ok (.istore_n 0, 1) := by decide +kernel
theorem dJ6_bitCount_0f7a4_24 : decode cJ6_bitCount_0f7a4 24 = .ok (.iload_n 0, 1) := by decide +kernel
theorem dJ6_bitCount_0f7a4_25 : decode cJ6_bitCount_0f7a4 25 = .ok (.iload_n 0, 1) := by decide +kernel
theorem dJ6_bitCount_0f7a4_26 : decode cJ6_bitCount_0f7a4 26 = .ok (.iconst 4, 1) := by decide +kernel
theorem dJ6_bitCount_0f7a4_27 : decode cJ6_bitCount_0f7a4 27 = .ok (.iushr, 1) := by decide +kernel
theorem dJ6_bitCount_0f7a4_28 : decode cJ6_bitCount_0f7a4 28 = .ok (.iadd, 1) := by decide +kernel
theorem dJ6_bitCount_0f7a4_29 : decode cJ6_bitCount_0f7a4 29 = .ok (.ldc_w 267, 3) := by decide +kernel
theorem dJ6_bitCount_0f7a4_32 : decode cJ6_bitCount_0f7a4 32 = .ok (.iand, 1) := by decide +kernel
theorem dJ6_bitCount_0f7a4_33 : decode cJ6_bitCount_0f7a4 33 = .ok (.istore_n 0, 1) := by decide +kernel
theorem dJ6_bitCount_0f7a4_34 : decode cJ6_bitCount_0f7a4 34 = .ok (.iload_n 0, 1) := by decide +kernel
theorem dJ6_bitCount_0f7a4_35 : decode cJ6_bitCount_0f7a4 35 = .ok (.iload_n 0, 1) := by decide +kernel
theorem dJ6_bitCount_0f7a4_36 : decode cJ6_bitCount_0f7a4 36 = .ok (.bipush 8, 2) := by decide +kernel
theorem dJ6_bitCount_0f7a4_38 : decode cJ6_bitCount_0f7a4 38 = .ok (.iushr, 1) := by decide +kernel
theorem dJ6_bitCount_0f7a4_39 : decode cJ6_bitCount_0f7a4 39 = .ok (.iadd, 1) := by decide +kernel
theorem dJ6_bitCount_0f7a4_40 : decode cJ6_bitCount_0f7a4 40 = .ok (.istore_n 0, 1) := by decide +kernel
theorem dJ6_bitCount_0f7a4_41 : decode cJ6_bitCount_0f7a4 41 = .ok (.iload_n 0, 1) := by decide +kernel
theorem dJ6_bitCount_0f7a4_42 : decode cJ6_bitCount_0f7a4 42 = .ok (.iload_n 0, 1) := by decide +kernel
theorem dJ6_bitCount_0f7a4_43 : decode cJ6_bitCount_0f7a4 43 = .ok (.bipush 16, 2) := by decide +kernel
theorem dJ6_bitCount_0f7a4_45 : decode cJ6_bitCount_0f7a4 45 = .ok (.iushr, 1) := by decide +kernel
theorem dJ6_bitCount_0f7a4_46 : decode cJ6_bitCount_0f7a4 46 = .ok (.iadd, 1) := by decide +kernel
theorem dJ6_bitCount_0f7a4_47 : decode cJ6_bitCount_0f7a4 47 = .ok (.istore_n 0, 1) := by decide +kernel
theorem dJ6_bitCount_0f7a4_48 : decode cJ6_bitCount_0f7a4 48 = .ok (.iload_n 0, 1) := by decide +kernel
theorem dJ6_bitCount_0f7a4_49 : decode cJ6_bitCount_0f7a4 49 = .ok (.bipush 63, 2) := by decide +kernel
theorem dJ6_bitCount_0f7a4_51 : decode cJ6_bitCount_0f7a4 51 = .ok (.iand, 1) := by decide +kernel
theorem dJ6_bitCount_0f7a4_52 : decode cJ6_bitCount_0f7a4 52 = .ok (.ireturn, 1) := by decide +kernel
theorem dX9_count_0 : decode cX9_count 0 = .ok (.iload_n 1, 1) := by decide +kernel
theorem dX9_count_1 : decode cX9_count 1 = .ok (.tableswitch 156 0 11 #[63, 74, 85, 93, 101, 109, 117, 125, 130, 135, 140, 145], 63) := by decide +kernel
theorem dX9_count_64 : decode cX9_count 64 = .ok (.aload_n 0, 1) := by decide +kernel
theorem dX9_count_65 : decode cX9_count 65 = .ok (.getfield 16, 3) := by decide +kernel
theorem dX9_count_68 : decode cX9_count 68 = .ok (.getfield 128, 3) := by decide +kernel
theorem dX9_count_71 : decode cX9_count 71 = .ok (.getfield 132, 3) := by decide +kernel
theorem dX9_count_74 : decode cX9_count 74 = .ok (.ireturn, 1) := by decide +kernel
theorem dX9_count_75 : decode cX9_count 75 = .ok (.aload_n 0, 1) := by decide +kernel
theorem dX9_count_76 : decode cX9_count 76 = .ok (.getfield 16, 3) := by decide +kernel
theorem dX9_count_79 : decode cX9_count 79 = .ok (.getfield 128, 3) := by decide +kernel
theorem dX9_count_82 : decode cX9_count 82 = .ok (.getfield 137, 3) := by decide +kernel
theorem dX9_count_85 : decode cX9_count 85 = .ok (.ireturn, 1) := by decide +kernel
theorem dX9_count_86 : decode cX9_count 86 = .ok (.aload_n 0, 1) := by decide +kernel
theorem dX9_count_87 : decode cX9_count 87 = .ok (.getfield 16, 3) := by decide +kernel
theorem dX9_count_90 : decode cX9_count 90 = .ok (.getfield 140, 3) := by decide +kernel
theorem dX9_count_93 : decode cX9_count 93 = .ok (.ireturn, 1) := by decide +kernel
theorem dX9_count_94 : decode cX9_count 94 = .ok (.aload_n 0, 1) := by decide +kernel
theorem dX9_count_95 : decode cX9_count 95 = .ok (.getfield 16, 3) := by decide +kernel
theorem dX9_count_98 : decode cX9_count 98 = .ok (.getfield 143, 3) := by decide +kernel
theorem dX9_count_101 : decode cX9_count 101 = .ok (.ireturn, 1) := by decide +kernel
theorem dX9_count_102 : decode cX9_count 102 = .ok (.aload_n 0, 1) := by decide +kernel
theorem dX9_count_103 : decode cX9_count 103 = .ok (.getfield 16, 3) := by decide +kernel
theorem dX9_count_106 : decode cX9_count 106 = .ok (.getfield 146, 3) := by decide +kernel
theorem dX9_count_109 : decode cX9_count 109 = .ok (.ireturn, 1) := by decide +kernel
theorem dX9_count_110 : decode cX9_count 110 = .ok (.aload_n 0, 1) := by decide +kernel
theorem dX9_count_111 : decode cX9_count 111 = .ok (.getfield 16, 3) := by decide +kernel
theorem dX9_count_114 : decode cX9_count 114 = .ok (.getfield 149, 3) := by decide +kernel
theorem dX9_count_117 : decode cX9_count 117 = .ok (.ireturn, 1) := by decide +kernel
theorem dX9_count_118 : decode cX9_count 118 = .ok (.aload_n 0, 1) := by decide +kernel
theorem dX9_count_119 : decode cX9_count 119 = .ok (.getfield 49, 3) := by decide +kernel
theorem dX9_count_122 : decode cX9_count 122 = .ok (.getfield 111, 3) := by decide +kernel
theorem dX9_count_125 : decode cX9_count 125 = .ok (.ireturn, 1) := by decide +kernel
theorem dX9_count_126 : decode cX9_count 126 = .ok (.aload_n 0, 1) := by decide +kernel
theorem dX9_count_127 : decode cX9_count 127 = .ok (.getfield 90, 3) := by decide +kernel
theorem dX9_count_130 : decode cX9_count 130 = .ok (.ireturn, 1) := by decide +kernel
theorem dX9_count_131 : decode cX9_count 131 = .ok (.aload_n 0, 1) := by decide +kernel
theorem dX9_count_132 : decode cX9_count 132 = .ok (.getfield 105, 3) := by decide +kernel
theorem dX9_count_135 : decode cX9_count 135 = .ok (.ireturn, 1) := by decide +kernel
theorem dX9_count_136 : decode cX9_count 136 = .ok (.aload_n 0, 1) := by decide +kernel
theorem dX9_count_137 : decode cX9_count 137 = .ok (.getfield 152, 3) := by decide +kernel
theorem dX9_count_140 : decode cX9_count 140 = .ok (.ireturn, 1) := by decide +kernel
theorem dX9_count_141 : decode cX9_count 141 = .ok (.aload_n 0, 1) := by decide +kernel
theorem dX9_count_142 : decode cX9_count 142 = .ok (.getfield 155, 3) := by decide +kernel
theorem dX9_count_145 : decode cX9_count 145 = .ok (.ireturn, 1) := by decide +kernel
theorem dX9_count_146 : decode cX9_count 146 = .ok (.aload_n 0, 1) := by decide +kernel
theorem dX9_count_147 : decode cX9_count 147 = .ok (.getfield 61, 3) := by decide +kernel
theorem dX9_count_150 : decode cX9_count 150 = .ok (.getfield 158, 3) := by decide +kernel
theorem dX9_count_153 : decode cX9_count 153 = .ok (.invokestatic 161, 3) := by decide +kernel
theorem dX9_count_156 : decode cX9_count 156 = .ok (.ireturn, 1) := by decide +kernel
theorem dX9_count_157 : decode cX9_count 157 = .ok (.new 167, 3) := by decide +kernel
theorem dX9_count_160 : decode cX9_count 160 = .ok (.dup, 1) := by decide +kernel
theorem dX9_count_161 : decode cX9_count 161 = .ok (.invokespecial 169, 3) := by decide +kernel
theorem dX9_count_164 : decode cX9_count 164 = .ok (.athrow, 1) := by decide +kernel
theorem dX9_fault_0 : decode cX9_fault 0 = .ok (.aload_n 0, 1) := by decide +kernel
theorem dX9_fault_1 : decode cX9_fault 1 = .ok (.getfield 86, 3) := by decide +kernel
theorem dX9_fault_4 : decode cX9_fault 4 = .ok (.ireturn, 1) := by decide +kernel
theorem dX9_putBytes_0 : decode cX9_putBytes 0 = .ok (.bipush 24, 2) := by decide +kernel
theorem dX9_putBytes_2 : decode cX9_putBytes 2 = .ok (.istore_n 2, 1) := by decide +kernel
theorem dX9_putBytes_3 : decode cX9_putBytes 3 = .ok (.iload_n 2, 1) := by decide +kernel
theorem dX9_putBytes_4 : decode cX9_putBytes 4 = .ok (.ifCond .lt 44, 3) := by decide +kernel
theorem dX9_putBytes_7 : decode cX9_putBytes 7 = .ok (.aload_n 0, 1) := by decide +kernel
theorem dX9_putBytes_8 : decode cX9_putBytes 8 = .ok (.getfield 90, 3) := by decide +kernel
theorem dX9_putBytes_11 : decode cX9_putBytes 11 = .ok (.aload_n 0, 1) := by decide +kernel
theorem dX9_putBytes_12 : decode cX9_putBytes 12 = .ok (.getfield 9, 3) := by decide +kernel
theorem dX9_putBytes_15 : decode cX9_putBytes 15 = .ok (.arraylength, 1) := by decide +kernel
theorem dX9_putBytes_16 : decode cX9_putBytes 16 = .ok (.if_icmp .ge 26, 3) := by decide +kernel
theorem dX9_putBytes_19 : decode cX9_putBytes 19 = .ok (.aload_n 0, 1) := by decide +kernel
theorem dX9_putBytes_20 : decode cX9_putBytes 20 = .ok (.getfield 9, 3) := by decide +kernel
theorem dX9_putBytes_23 : decode cX9_putBytes 23 = .ok (.aload_n 0, 1) := by decide +kernel
theorem dX9_putBytes_24 : decode cX9_putBytes 24 = .ok (.getfield 90, 3) := by decide +kernel
theorem dX9_putBytes_27 : decode cX9_putBytes 27 = .ok (.iload_n 1, 1) := by decide +kernel
theorem dX9_putBytes_28 : decode cX9_putBytes 28 = .ok (.iload_n 2, 1) := by decide +kernel
theorem dX9_putBytes_29 : decode cX9_putBytes 29 = .ok (.iushr, 1) := by decide +kernel
theorem dX9_putBytes_30 : decode cX9_putBytes 30 = .ok (.i2b, 1) := by decide +kernel
theorem dX9_putBytes_31 : decode cX9_putBytes 31 = .ok (.bastore, 1) := by decide +kernel
theorem dX9_putBytes_32 : decode cX9_putBytes 32 = .ok (.aload_n 0, 1) := by decide +kernel
theorem dX9_putBytes_33 : decode cX9_putBytes 33 = .ok (.dup, 1) := by decide +kernel
theorem dX9_putBytes_34 : decode cX9_putBytes 34 = .ok (.getfield 90, 3) := by decide +kernel
theorem dX9_putBytes_37 : decode cX9_putBytes 37 = .ok (.iconst 1, 1) := by decide +kernel
theorem dX9_putBytes_38 : decode cX9_putBytes 38 = .ok (.iadd, 1) := by decide +kernel
theorem dX9_putBytes_39 : decode cX9_putBytes 39 = .ok (.putfield 90, 3) := by decide +kernel
theorem dX9_putBytes_42 : decode cX9_putBytes 42 = .ok (.iinc 2 (-8), 3) := by decide +kernel
theorem dX9_putBytes_45 : decode cX9_putBytes 45 = .ok (.goto (-42), 3) := by decide +kernel
theorem dX9_putBytes_48 : decode cX9_putBytes 48 = .ok (.return_, 1) := by decide +kernel
theorem dX9_feed_0 : decode cX9_feed 0 = .ok (.aload_n 0, 1) := by decide +kernel
theorem dX9_feed_1 : decode cX9_feed 1 = .ok (.getfield 90, 3) := by decide +kernel
theorem dX9_feed_4 : decode cX9_feed 4 = .ok (.bipush 20, 2) := by decide +kernel
theorem dX9_feed_6 : decode cX9_feed 6 = .ok (.iadd, 1) := by decide +kernel
theorem dX9_feed_7 : decode cX9_feed 7 = .ok (.sipush 800, 3) := by decide +kernel
theorem dX9_feed_10 : decode cX9_feed 10 = .ok (.if_icmp .le 5, 3) := by decide +kernel
theorem dX9_feed_13 : decode cX9_feed 13 = .ok (.iconst (-1), 1) := by decide +kernel
theorem dX9_feed_14 : decode cX9_feed 14 = .ok (.ireturn, 1) := by decide +kernel
theorem dX9_feed_15 : decode cX9_feed 15 = .ok (.aload_n 0, 1) := by decide +kernel
theorem dX9_feed_16 : decode cX9_feed 16 = .ok (.iload_n 1, 1) := by decide +kernel
theorem dX9_feed_17 : decode cX9_feed 17 = .ok (.invokevirtual 93, 3) := by decide +kernel
theorem dX9_feed_20 : decode cX9_feed 20 = .ok (.aload_n 0, 1) := by decide +kernel
theorem dX9_feed_21 : decode cX9_feed 21 = .ok (.iload_n 2, 1) := by decide +kernel
theorem dX9_feed_22 : decode cX9_feed 22 = .ok (.invokevirtual 93, 3) := by decide +kernel
theorem dX9_feed_25 : decode cX9_feed 25 = .ok (.aload_n 0, 1) := by decide +kernel
theorem dX9_feed_26 : decode cX9_feed 26 = .ok (.iload_n 3, 1) := by decide +kernel
theorem dX9_feed_27 : decode cX9_feed 27 = .ok (.invokevirtual 93, 3) := by decide +kernel
theorem dX9_feed_30 : decode cX9_feed 30 = .ok (.aload_n 0, 1) := by decide +kernel
theorem dX9_feed_31 : decode cX9_feed 31 = .ok (.iload 4, 2) := by decide +kernel
theorem dX9_feed_33 : decode cX9_feed 33 = .ok (.invokevirtual 93, 3) := by decide +kernel
theorem dX9_feed_36 : decode cX9_feed 36 = .ok (.aload_n 0, 1) := by decide +kernel
theorem dX9_feed_37 : decode cX9_feed 37 = .ok (.iload 5, 2) := by decide +kernel
theorem dX9_feed_39 : decode cX9_feed 39 = .ok (.invokevirtual 93, 3) := by decide +kernel
theorem dX9_feed_42 : decode cX9_feed 42 = .ok (.aload_n 0, 1) := by decide +kernel
theorem dX9_feed_43 : decode cX9_feed 43 = .ok (.getfield 90, 3) := by decide +kernel
theorem dX9_feed_46 : decode cX9_feed 46 = .ok (.ireturn, 1) := by decide +kernel
theorem dX1_copyFrom_0 : decode cX1_copyFrom 0 = .ok (.aload_n 0, 1) := by decide +kernel
theorem dX1_copyFrom_1 : decode cX1_copyFrom 1 = .ok (.aload_n 1, 1) := by decide +kernel
theorem dX1_copyFrom_2 : decode cX1_copyFrom 2 = .ok (.getfield 28, 3) := by decide +kernel
theorem dX1_copyFrom_5 : decode cX1_copyFrom 5 = .ok (.putfield 28, 3) := by decide +kernel
theorem dX1_copyFrom_8 : decode cX1_copyFrom 8 = .ok (.aload_n 1, 1) := by decide +kernel
theorem dX1_copyFrom_9 : decode cX1_copyFrom 9 = .ok (.getfield 9, 3) := by decide +kernel
theorem dX1_copyFrom_12 : decode cX1_copyFrom 12 = .ok (.iconst 0, 1) := by decide +kernel
theorem dX1_copyFrom_13 : decode cX1_copyFrom 13 = .ok (.aload_n 0, 1) := by decide +kernel
theorem dX1_copyFrom_14 : decode cX1_copyFrom 14 = .ok (.getfield 9, 3) := by decide +kernel
theorem dX1_copyFrom_17 : decode cX1_copyFrom 17 = .ok (.iconst 0, 1) := by decide +kernel
theorem dX1_copyFrom_18 : decode cX1_copyFrom 18 = .ok (.aload_n 0, 1) := by decide +kernel
theorem dX1_copyFrom_19 : decode cX1_copyFrom 19 = .ok (.getfield 9, 3) := by decide +kernel
theorem dX1_copyFrom_22 : decode cX1_copyFrom 22 = .ok (.arraylength, 1) := by decide +kernel
theorem dX1_copyFrom_23 : decode cX1_copyFrom 23 = .ok (.invokestatic 32, 3) := by decide +kernel
theorem dX1_copyFrom_26 : decode cX1_copyFrom 26 = .ok (.aload_n 1, 1) := by decide +kernel
theorem dX1_copyFrom_27 : decode cX1_copyFrom 27 = .ok (.getfield 15, 3) := by decide +kernel
theorem dX1_copyFrom_30 : decode cX1_copyFrom 30 = .ok (.iconst 0, 1) := by decide +kernel
theorem dX1_copyFrom_31 : decode cX1_copyFrom 31 = .ok (.aload_n 0, 1) := by decide +kernel
theorem dX1_copyFrom_32 : decode cX1_copyFrom 32 = .ok (.getfield 15, 3) := by decide +kernel
theorem dX1_copyFrom_35 : decode cX1_copyFrom 35 = .ok (.iconst 0, 1) := by decide +kernel
theorem dX1_copyFrom_36 : decode cX1_copyFrom 36 = .ok (.aload_n 0, 1) := by decide +kernel
theorem dX1_copyFrom_37 : decode cX1_copyFrom 37 = .ok (.getfield 15, 3) := by decide +kernel
theorem dX1_copyFrom_40 : decode cX1_copyFrom 40 = .ok (.arraylength, 1) := by decide +kernel
theorem dX1_copyFrom_41 : decode cX1_copyFrom 41 = .ok (.invokestatic 32, 3) := by decide +kernel
theorem dX1_copyFrom_44 : decode cX1_copyFrom 44 = .ok (.aload_n 1, 1) := by decide +kernel
theorem dX1_copyFrom_45 : decode cX1_copyFrom 45 = .ok (.getfield 18, 3) := by decide +kernel
theorem dX1_copyFrom_48 : decode cX1_copyFrom 48 = .ok (.iconst 0, 1) := by decide +kernel
theorem dX1_copyFrom_49 : decode cX1_copyFrom 49 = .ok (.aload_n 0, 1) := by decide +kernel
theorem dX1_copyFrom_50 : decode cX1_copyFrom 50 = .ok (.getfield 18, 3) := by decide +kernel
theorem dX1_copyFrom_53 : decode cX1_copyFrom 53 = .ok (.iconst 0, 1) := by decide +kernel
theorem dX1_copyFrom_54 : decode cX1_copyFrom 54 = .ok (.aload_n 0, 1) := by decide +kernel
theorem dX1_copyFrom_55 : decode cX1_copyFrom 55 = .ok (.getfield 18, 3) := by decide +kernel
theorem dX1_copyFrom_58 : decode cX1_copyFrom 58 = .ok (.arraylength, 1) := by decide +kernel
theorem dX1_copyFrom_59 : decode cX1_copyFrom 59 = .ok (.invokestatic 32, 3) := by decide +kernel
theorem dX1_copyFrom_62 : decode cX1_copyFrom 62 = .ok (.aload_n 1, 1) := by decide +kernel
theorem dX1_copyFrom_63 : decode cX1_copyFrom 63 = .ok (.getfield 21, 3) := by decide +kernel
theorem dX1_copyFrom_66 : decode cX1_copyFrom 66 = .ok (.iconst 0, 1) := by decide +kernel
theorem dX1_copyFrom_67 : decode cX1_copyFrom 67 = .ok (.aload_n 0, 1) := by decide +kernel
theorem dX1_copyFrom_68 : decode cX1_copyFrom 68 = .ok (.getfield 21, 3) := by decide +kernel
theorem dX1_copyFrom_71 : decode cX1_copyFrom 71 = .ok (.iconst 0, 1) := by decide +kernel
theorem dX1_copyFrom_72 : decode cX1_copyFrom 72 = .ok (.aload_n 0, 1) := by decide +kernel
theorem dX1_copyFrom_73 : decode cX1_copyFrom 73 = .ok (.getfield 21, 3) := by decide +kernel
theorem dX1_copyFrom_76 : decode cX1_copyFrom 76 = .ok (.arraylength, 1) := by decide +kernel
theorem dX1_copyFrom_77 : decode cX1_copyFrom 77 = .ok (.invokestatic 32, 3) := by decide +kernel
theorem dX1_copyFrom_80 : decode cX1_copyFrom 80 = .ok (.iconst 0, 1) := by decide +kernel
theorem dX1_copyFrom_81 : decode cX1_copyFrom 81 = .ok (.istore_n 2, 1) := by decide +kernel
theorem dX1_copyFrom_82 : decode cX1_copyFrom 82 = .ok (.iload_n 2, 1) := by decide +kernel
theorem dX1_copyFrom_83 : decode cX1_copyFrom 83 = .ok (.aload_n 0, 1) := by decide +kernel
theorem dX1_copyFrom_84 : decode cX1_copyFrom 84 = .ok (.getfield 24, 3) := by decide +kernel
theorem dX1_copyFrom_87 : decode cX1_copyFrom 87 = .ok (.arraylength, 1) := by decide +kernel
theorem dX1_copyFrom_88 : decode cX1_copyFrom 88 = .ok (.if_icmp .ge 21, 3) := by decide +kernel
theorem dX1_copyFrom_91 : decode cX1_copyFrom 91 = .ok (.aload_n 0, 1) := by decide +kernel
theorem dX1_copyFrom_92 : decode cX1_copyFrom 92 = .ok (.getfield 24, 3) := by decide +kernel
theorem dX1_copyFrom_95 : decode cX1_copyFrom 95 = .ok (.iload_n 2, 1) := by decide +kernel
theorem dX1_copyFrom_96 : decode cX1_copyFrom 96 = .ok (.aload_n 1, 1) := by decide +kernel
theorem dX1_copyFrom_97 : decode cX1_copyFrom 97 = .ok (.getfield 24, 3) := by decide +kernel
theorem dX1_copyFrom_100 : decode cX1_copyFrom 100 = .ok (.iload_n 2, 1) := by decide +kernel
theorem dX1_copyFrom_101 : decode cX1_copyFrom 101 = .ok (.baload, 1) := by decide +kernel
theorem dX1_copyFrom_102 : decode cX1_copyFrom 102 = .ok (.bastore, 1) := by decide +kernel
theorem dX1_copyFrom_103 : decode cX1_copyFrom 103 = .ok (.iinc 2 1, 3) := by decide +kernel
theorem dX1_copyFrom_106 : decode cX1_copyFrom 106 = .ok (.goto (-24), 3) := by decide +kernel
theorem dX1_copyFrom_109 : decode cX1_copyFrom 109 = .ok (.return_, 1) := by decide +kernel
theorem dX3_copyFrom_0 : decode cX3_copyFrom 0 = .ok (.aload_n 0, 1) := by decide +kernel
theorem dX3_copyFrom_1 : decode cX3_copyFrom 1 = .ok (.aload_n 1, 1) := by decide +kernel
theorem dX3_copyFrom_2 : decode cX3_copyFrom 2 = .ok (.getfield 15, 3) := by decide +kernel
theorem dX3_copyFrom_5 : decode cX3_copyFrom 5 = .ok (.putfield 15, 3) := by decide +kernel
theorem dX3_copyFrom_8 : decode cX3_copyFrom 8 = .ok (.aload_n 0, 1) := by decide +kernel
theorem dX3_copyFrom_9 : decode cX3_copyFrom 9 = .ok (.aload_n 1, 1) := by decide +kernel
theorem dX3_copyFrom_10 : decode cX3_copyFrom 10 = .ok (.getfield 19, 3) := by decide +kernel
theorem dX3_copyFrom_13 : decode cX3_copyFrom 13 = .ok (.putfield 19, 3) := by decide +kernel
theorem dX3_copyFrom_16 : decode cX3_copyFrom 16 = .ok (.return_, 1) := by decide +kernel
theorem dX9_image_0 : decode cX9_image 0 = .ok (.aload_n 0, 1) := by decide +kernel
theorem dX9_image_1 : decode cX9_image 1 = .ok (.getfield 53, 3) := by decide +kernel
theorem dX9_image_4 : decode cX9_image 4 = .ok (.aload_n 0, 1) := by decide +kernel
theorem dX9_image_5 : decode cX9_image 5 = .ok (.getfield 49, 3) := by decide +kernel
theorem dX9_image_8 : decode cX9_image 8 = .ok (.invokevirtual 313, 3) := by decide +kernel
theorem dX9_image_11 : decode cX9_image 11 = .ok (.aload_n 0, 1) := by decide +kernel
theorem dX9_image_12 : decode cX9_image 12 = .ok (.getfield 65, 3) := by decide +kernel
theorem dX9_image_15 : decode cX9_image 15 = .ok (.aload_n 0, 1) := by decide +kernel
theorem dX9_image_16 : decode cX9_image 16 = .ok (.getfield 61, 3) := by decide +kernel
theorem dX9_image_19 : decode cX9_image 19 = .ok (.invokevirtual 316, 3) := by decide +kernel
theorem dX9_image_22 : decode cX9_image 22 = .ok (.aload_n 0, 1) := by decide +kernel
theorem dX9_image_23 : decode cX9_image 23 = .ok (.iconst 1, 1) := by decide +kernel
theorem dX9_image_24 : decode cX9_image 24 = .ok (.putfield 118, 3) := by decide +kernel
theorem dX9_image_27 : decode cX9_image 27 = .ok (.return_, 1) := by decide +kernel
theorem dX3_slot_0 : decode cX3_slot 0 = .ok (.aload_n 0, 1) := by decide +kernel
theorem dX3_slot_1 : decode cX3_slot 1 = .ok (.getfield 15, 3) := by decide +kernel
theorem dX3_slot_4 : decode cX3_slot 4 = .ok (.iconst 1, 1) := by decide +kernel
theorem dX3_slot_5 : decode cX3_slot 5 = .ok (.iload_n 1, 1) := by decide +kernel
theorem dX3_slot_6 : decode cX3_slot 6 = .ok (.ishl, 1) := by decide +kernel
theorem dX3_slot_7 : decode cX3_slot 7 = .ok (.iconst 1, 1) := by decide +kernel
theorem dX3_slot_8 : decode cX3_slot 8 = .ok (.isub, 1) := by decide +kernel
theorem dX3_slot_9 : decode cX3_slot 9 = .ok (.iand, 1) := by decide +kernel
theorem dX3_slot_10 : decode cX3_slot 10 = .ok (.invokestatic 22, 3) := by decide +kernel
theorem dX3_slot_13 : decode cX3_slot 13 = .ok (.ireturn, 1) := by decide +kernel
theorem dX3_worldsWith_0 : decode cX3_worldsWith 0 = .ok (.aload_n 0, 1) := by decide +kernel
theorem dX3_worldsWith_1 : decode cX3_worldsWith 1 = .ok (.iload_n 1, 1) := by decide +kernel
theorem dX3_worldsWith_2 : decode cX3_worldsWith 2 = .ok (.invokevirtual 38, 3) := by decide +kernel
theorem dX3_worldsWith_5 : decode cX3_worldsWith 5 = .ok (.istore_n 3, 1) := by decide +kernel
theorem dX3_worldsWith_6 : decode cX3_worldsWith 6 = .ok (.iconst 0, 1) := by decide +kernel
theorem dX3_worldsWith_7 : decode cX3_worldsWith 7 = .ok (.istore 4, 2) := by decide +kernel
theorem dX3_worldsWith_9 : decode cX3_worldsWith 9 = .ok (.iconst 0, 1) := by decide +kernel
theorem dX3_worldsWith_10 : decode cX3_worldsWith 10 = .ok (.istore 5, 2) := by decide +kernel
theorem dX3_worldsWith_12 : decode cX3_worldsWith 12 = .ok (.iload 5, 2) := by decide +kernel
theorem dX3_worldsWith_14 : decode cX3_worldsWith 14 = .ok (.bipush 16, 2) := by decide +kernel
theorem dX3_worldsWith_16 : decode cX3_worldsWith 16 = .ok (.if_icmp .ge 28, 3) := by decide +kernel
theorem dX3_worldsWith_19 : decode cX3_worldsWith 19 = .ok (.iload 5, 2) := by decide +kernel
theorem dX3_worldsWith_21 : decode cX3_worldsWith 21 = .ok (.iload_n 3, 1) := by decide +kernel
theorem dX3_worldsWith_22 : decode cX3_worldsWith 22 = .ok (.invokestatic 34, 3) := by decide +kernel
theorem dX3_worldsWith_25 : decode cX3_worldsWith 25 = .ok (.iload_n 2, 1) := by decide +kernel
theorem dX3_worldsWith_26 : decode cX3_worldsWith 26 = .ok (.if_icmp .eq 12, 3) := by decide +kernel
theorem dX3_worldsWith_29 : decode cX3_worldsWith 29 = .ok (.iload 4, 2) := by decide +kernel
theorem dX3_worldsWith_31 : decode cX3_worldsWith 31 = .ok (.iconst 1, 1) := by decide +kernel
theorem dX3_worldsWith_32 : decode cX3_worldsWith 32 = .ok (.iload 5, 2) := by decide +kernel
theorem dX3_worldsWith_34 : decode cX3_worldsWith 34 = .ok (.ishl, 1) := by decide +kernel
theorem dX3_worldsWith_35 : decode cX3_worldsWith 35 = .ok (.ior, 1) := by decide +kernel
theorem dX3_worldsWith_36 : decode cX3_worldsWith 36 = .ok (.istore 4, 2) := by decide +kernel
theorem dX3_worldsWith_38 : decode cX3_worldsWith 38 = .ok (.iinc 5 1, 3) := by decide +kernel
theorem dX3_worldsWith_41 : decode cX3_worldsWith 41 = .ok (.goto (-29), 3) := by decide +kernel
theorem dX3_worldsWith_44 : decode cX3_worldsWith 44 = .ok (.iload 4, 2) := by decide +kernel
theorem dX3_worldsWith_46 : decode cX3_worldsWith 46 = .ok (.aload_n 0, 1) := by decide +kernel
theorem dX3_worldsWith_47 : decode cX3_worldsWith 47 = .ok (.getfield 19, 3) := by decide +kernel
theorem dX3_worldsWith_50 : decode cX3_worldsWith 50 = .ok (.iand, 1) := by decide +kernel
theorem dX3_worldsWith_51 : decode cX3_worldsWith 51 = .ok (.ireturn, 1) := by decide +kernel
theorem dX3_realWorld_0 : decode cX3_realWorld 0 = .ok (.iconst 0, 1) := by decide +kernel
theorem dX3_realWorld_1 : decode cX3_realWorld 1 = .ok (.istore_n 1, 1) := by decide +kernel
theorem dX3_realWorld_2 : decode cX3_realWorld 2 = .ok (.iconst 0, 1) := by decide +kernel
theorem dX3_realWorld_3 : decode cX3_realWorld 3 = .ok (.istore_n 2, 1) := by decide +kernel
theorem dX3_realWorld_4 : decode cX3_realWorld 4 = .ok (.iload_n 2, 1) := by decide +kernel
theorem dX3_realWorld_5 : decode cX3_realWorld 5 = .ok (.aload_n 0, 1) := by decide +kernel
theorem dX3_realWorld_6 : decode cX3_realWorld 6 = .ok (.getfield 9, 3) := by decide +kernel
theorem dX3_realWorld_9 : decode cX3_realWorld 9 = .ok (.getfield 28, 3) := by decide +kernel
theorem dX3_realWorld_12 : decode cX3_realWorld 12 = .ok (.if_icmp .ge 40, 3) := by decide +kernel
theorem dX3_realWorld_15 : decode cX3_realWorld 15 = .ok (.aload_n 0, 1) := by decide +kernel
theorem dX3_realWorld_16 : decode cX3_realWorld 16 = .ok (.getfield 15, 3) := by decide +kernel
theorem dX3_realWorld_19 : decode cX3_realWorld 19 = .ok (.aload_n 0, 1) := by decide +kernel
theorem dX3_realWorld_20 : decode cX3_realWorld 20 = .ok (.getfield 9, 3) := by decide +kernel
theorem dX3_realWorld_23 : decode cX3_realWorld 23 = .ok (.getfield 31, 3) := by decide +kernel
theorem dX3_realWorld_26 : decode cX3_realWorld 26 = .ok (.iconst (-1), 1) := by decide +kernel
theorem dX3_realWorld_27 : decode cX3_realWorld 27 = .ok (.ixor, 1) := by decide +kernel
theorem dX3_realWorld_28 : decode cX3_realWorld 28 = .ok (.iand, 1) := by decide +kernel
theorem dX3_realWorld_29 : decode cX3_realWorld 29 = .ok (.iload_n 2, 1) := by decide +kernel
theorem dX3_realWorld_30 : decode cX3_realWorld 30 = .ok (.invokestatic 34, 3) := by decide +kernel
theorem dX3_realWorld_33 : decode cX3_realWorld 33 = .ok (.ifCond .eq 13, 3) := by decide +kernel
theorem dX3_realWorld_36 : decode cX3_realWorld 36 = .ok (.iload_n 1, 1) := by decide +kernel
theorem dX3_realWorld_37 : decode cX3_realWorld 37 = .ok (.iconst 1, 1) := by decide +kernel
theorem dX3_realWorld_38 : decode cX3_realWorld 38 = .ok (.aload_n 0, 1) := by decide +kernel
theorem dX3_realWorld_39 : decode cX3_realWorld 39 = .ok (.iload_n 2, 1) := by decide +kernel
theorem dX3_realWorld_40 : decode cX3_realWorld 40 = .ok (.invokevirtual 38, 3) := by decide +kernel
theorem dX3_realWorld_43 : decode cX3_realWorld 43 = .ok (.ishl, 1) := by decide +kernel
theorem dX3_realWorld_44 : decode cX3_realWorld 44 = .ok (.ior, 1) := by decide +kernel
theorem dX3_realWorld_45 : decode cX3_realWorld 45 = .ok (.istore_n 1, 1) := by decide +kernel
theorem dX3_realWorld_46 : decode cX3_realWorld 46 = .ok (.iinc 2 1, 3) := by decide +kernel
theorem dX3_realWorld_49 : decode cX3_realWorld 49 = .ok (.goto (-45), 3) := by decide +kernel
theorem dX3_realWorld_52 : decode cX3_realWorld 52 = .ok (.iload_n 1, 1) := by decide +kernel
theorem dX3_realWorld_53 : decode cX3_realWorld 53 = .ok (.ireturn, 1) := by decide +kernel
theorem dX3_figure_0 : decode cX3_figure 0 = .ok (.iload_n 0, 1) := by decide +kernel
theorem dX3_figure_1 : decode cX3_figure 1 = .ok (.iconst 3, 1) := by decide +kernel
theorem dX3_figure_2 : decode cX3_figure 2 = .ok (.iload_n 1, 1) := by decide +kernel
theorem dX3_figure_3 : decode cX3_figure 3 = .ok (.imul, 1) := by decide +kernel
theorem dX3_figure_4 : decode cX3_figure 4 = .ok (.iushr, 1) := by decide +kernel
theorem dX3_figure_5 : decode cX3_figure 5 = .ok (.bipush 7, 2) := by decide +kernel
theorem dX3_figure_7 : decode cX3_figure 7 = .ok (.iand, 1) := by decide +kernel
theorem dX3_figure_8 : decode cX3_figure 8 = .ok (.ireturn, 1) := by decide +kernel
theorem dX3_distinguished_0 : decode cX3_distinguished 0 = .ok (.iconst 0, 1) := by decide +kernel
theorem dX3_distinguished_1 : decode cX3_distinguished 1 = .ok (.istore_n 2, 1) := by decide +kernel
theorem dX3_distinguished_2 : decode cX3_distinguished 2 = .ok (.iconst 0, 1) := by decide +kernel
theorem dX3_distinguished_3 : decode cX3_distinguished 3 = .ok (.istore_n 3, 1) := by decide +kernel
theorem dX3_distinguished_4 : decode cX3_distinguished 4 = .ok (.iload_n 3, 1) := by decide +kernel
theorem dX3_distinguished_5 : decode cX3_distinguished 5 = .ok (.aload_n 0, 1) := by decide +kernel
theorem dX3_distinguished_6 : decode cX3_distinguished 6 = .ok (.getfield 9, 3) := by decide +kernel
theorem dX3_distinguished_9 : decode cX3_distinguished 9 = .ok (.getfield 28, 3) := by decide +kernel
theorem dX3_distinguished_12 : decode cX3_distinguished 12 = .ok (.if_icmp .ge 42, 3) := by decide +kernel
theorem dX3_distinguished_15 : decode cX3_distinguished 15 = .ok (.aload_n 0, 1) := by decide +kernel
theorem dX3_distinguished_16 : decode cX3_distinguished 16 = .ok (.getfield 15, 3) := by decide +kernel
theorem dX3_distinguished_19 : decode cX3_distinguished 19 = .ok (.iload_n 3, 1) := by decide +kernel
theorem dX3_distinguished_20 : decode cX3_distinguished 20 = .ok (.invokestatic 34, 3) := by decide +kernel
theorem dX3_distinguished_23 : decode cX3_distinguished 23 = .ok (.ifCond .eq 25, 3) := by decide +kernel
theorem dX3_distinguished_26 : decode cX3_distinguished 26 = .ok (.aload_n 0, 1) := by decide +kernel
theorem dX3_distinguished_27 : decode cX3_distinguished 27 = .ok (.getfield 9, 3) := by decide +kernel
theorem dX3_distinguished_30 : decode cX3_distinguished 30 = .ok (.iload_n 1, 1) := by decide +kernel
theorem dX3_distinguished_31 : decode cX3_distinguished 31 = .ok (.iload_n 3, 1) := by decide +kernel
theorem dX3_distinguished_32 : decode cX3_distinguished 32 = .ok (.invokevirtual 41, 3) := by decide +kernel
theorem dX3_distinguished_35 : decode cX3_distinguished 35 = .ok (.ifCond .eq 13, 3) := by decide +kernel
theorem dX3_distinguished_38 : decode cX3_distinguished 38 = .ok (.iload_n 2, 1) := by decide +kernel
theorem dX3_distinguished_39 : decode cX3_distinguished 39 = .ok (.iconst 1, 1) := by decide +kernel
theorem dX3_distinguished_40 : decode cX3_distinguished 40 = .ok (.aload_n 0, 1) := by decide +kernel
theorem dX3_distinguished_41 : decode cX3_distinguished 41 = .ok (.iload_n 3, 1) := by decide +kernel
theorem dX3_distinguished_42 : decode cX3_distinguished 42 = .ok (.invokevirtual 38, 3) := by decide +kernel
theorem dX3_distinguished_45 : decode cX3_distinguished 45 = .ok (.ishl, 1) := by decide +kernel
theorem dX3_distinguished_46 : decode cX3_distinguished 46 = .ok (.ior, 1) := by decide +kernel
theorem dX3_distinguished_47 : decode cX3_distinguished 47 = .ok (.istore_n 2, 1) := by decide +kernel
theorem dX3_distinguished_48 : decode cX3_distinguished 48 = .ok (.iinc 3 1, 3) := by decide +kernel
theorem dX3_distinguished_51 : decode cX3_distinguished 51 = .ok (.goto (-47), 3) := by decide +kernel
theorem dX3_distinguished_54 : decode cX3_distinguished 54 = .ok (.iload_n 2, 1) := by decide +kernel
theorem dX3_distinguished_55 : decode cX3_distinguished 55 = .ok (.ireturn, 1) := by decide +kernel
theorem dX3_alike_0 : decode cX3_alike 0 = .ok (.iconst 0, 1) := by decide +kernel
theorem dX3_alike_1 : decode cX3_alike 1 = .ok (.istore_n 3, 1) := by decide +kernel
theorem dX3_alike_2 : decode cX3_alike 2 = .ok (.iconst 0, 1) := by decide +kernel
theorem dX3_alike_3 : decode cX3_alike 3 = .ok (.istore 4, 2) := by decide +kernel
theorem dX3_alike_5 : decode cX3_alike 5 = .ok (.iload 4, 2) := by decide +kernel
theorem dX3_alike_7 : decode cX3_alike 7 = .ok (.bipush 16, 2) := by decide +kernel
theorem dX3_alike_9 : decode cX3_alike 9 = .ok (.if_icmp .ge 37, 3) := by decide +kernel
theorem dX3_alike_12 : decode cX3_alike 12 = .ok (.aload_n 0, 1) := by decide +kernel
theorem dX3_alike_13 : decode cX3_alike 13 = .ok (.getfield 19, 3) := by decide +kernel
theorem dX3_alike_16 : decode cX3_alike 16 = .ok (.iload 4, 2) := by decide +kernel
theorem dX3_alike_18 : decode cX3_alike 18 = .ok (.invokestatic 34, 3) := by decide +kernel
theorem dX3_alike_21 : decode cX3_alike 21 = .ok (.ifCond .eq 19, 3) := by decide +kernel
theorem dX3_alike_24 : decode cX3_alike 24 = .ok (.iload 4, 2) := by decide +kernel
theorem dX3_alike_26 : decode cX3_alike 26 = .ok (.iload_n 1, 1) := by decide +kernel
theorem dX3_alike_27 : decode cX3_alike 27 = .ok (.ixor, 1) := by decide +kernel
theorem dX3_alike_28 : decode cX3_alike 28 = .ok (.iload_n 2, 1) := by decide +kernel
theorem dX3_alike_29 : decode cX3_alike 29 = .ok (.iand, 1) := by decide +kernel
theorem dX3_alike_30 : decode cX3_alike 30 = .ok (.ifCond .ne 10, 3) := by decide +kernel
theorem dX3_alike_33 : decode cX3_alike 33 = .ok (.iload_n 3, 1) := by decide +kernel
theorem dX3_alike_34 : decode cX3_alike 34 = .ok (.iconst 1, 1) := by decide +kernel
theorem dX3_alike_35 : decode cX3_alike 35 = .ok (.iload 4, 2) := by decide +kernel
theorem dX3_alike_37 : decode cX3_alike 37 = .ok (.ishl, 1) := by decide +kernel
theorem dX3_alike_38 : decode cX3_alike 38 = .ok (.ior, 1) := by decide +kernel
theorem dX3_alike_39 : decode cX3_alike 39 = .ok (.istore_n 3, 1) := by decide +kernel
theorem dX3_alike_40 : decode cX3_alike 40 = .ok (.iinc 4 1, 3) := by decide +kernel
theorem dX3_alike_43 : decode cX3_alike 43 = .ok (.goto (-38), 3) := by decide +kernel
theorem dX3_alike_46 : decode cX3_alike 46 = .ok (.iload_n 3, 1) := by decide +kernel
theorem dX3_alike_47 : decode cX3_alike 47 = .ok (.ireturn, 1) := by decide +kernel
theorem dX3_knowing_0 : decode cX3_knowing 0 = .ok (.aload_n 0, 1) := by decide +kernel
theorem dX3_knowing_1 : decode cX3_knowing 1 = .ok (.iload_n 1, 1) := by decide +kernel
theorem dX3_knowing_2 : decode cX3_knowing 2 = .ok (.invokevirtual 44, 3) := by decide +kernel
theorem dX3_knowing_5 : decode cX3_knowing 5 = .ok (.istore_n 3, 1) := by decide +kernel
theorem dX3_knowing_6 : decode cX3_knowing 6 = .ok (.iconst 0, 1) := by decide +kernel
theorem dX3_knowing_7 : decode cX3_knowing 7 = .ok (.istore 4, 2) := by decide +kernel
theorem dX3_knowing_9 : decode cX3_knowing 9 = .ok (.iconst 0, 1) := by decide +kernel
theorem dX3_knowing_10 : decode cX3_knowing 10 = .ok (.istore 5, 2) := by decide +kernel
theorem dX3_knowing_12 : decode cX3_knowing 12 = .ok (.iload 5, 2) := by decide +kernel
theorem dX3_knowing_14 : decode cX3_knowing 14 = .ok (.bipush 16, 2) := by decide +kernel
theorem dX3_knowing_16 : decode cX3_knowing 16 = .ok (.if_icmp .ge 44, 3) := by decide +kernel
theorem dX3_knowing_19 : decode cX3_knowing 19 = .ok (.aload_n 0, 1) := by decide +kernel
theorem dX3_knowing_20 : decode cX3_knowing 20 = .ok (.getfield 19, 3) := by decide +kernel
theorem dX3_knowing_23 : decode cX3_knowing 23 = .ok (.iload 5, 2) := by decide +kernel
theorem dX3_knowing_25 : decode cX3_knowing 25 = .ok (.invokestatic 34, 3) := by decide +kernel
theorem dX3_knowing_28 : decode cX3_knowing 28 = .ok (.ifCond .eq 26, 3) := by decide +kernel
theorem dX3_knowing_31 : decode cX3_knowing 31 = .ok (.aload_n 0, 1) := by decide +kernel
theorem dX3_knowing_32 : decode cX3_knowing 32 = .ok (.iload 5, 2) := by decide +kernel
theorem dX3_knowing_34 : decode cX3_knowing 34 = .ok (.iload_n 3, 1) := by decide +kernel
theorem dX3_knowing_35 : decode cX3_knowing 35 = .ok (.invokevirtual 47, 3) := by decide +kernel
theorem dX3_knowing_38 : decode cX3_knowing 38 = .ok (.iload_n 2, 1) := by decide +kernel
theorem dX3_knowing_39 : decode cX3_knowing 39 = .ok (.iconst (-1), 1) := by decide +kernel
theorem dX3_knowing_40 : decode cX3_knowing 40 = .ok (.ixor, 1) := by decide +kernel
theorem dX3_knowing_41 : decode cX3_knowing 41 = .ok (.iand, 1) := by decide +kernel
theorem dX3_knowing_42 : decode cX3_knowing 42 = .ok (.ifCond .ne 12, 3) := by decide +kernel
theorem dX3_knowing_45 : decode cX3_knowing 45 = .ok (.iload 4, 2) := by decide +kernel
theorem dX3_knowing_47 : decode cX3_knowing 47 = .ok (.iconst 1, 1) := by decide +kernel
theorem dX3_knowing_48 : decode cX3_knowing 48 = .ok (.iload 5, 2) := by decide +kernel
theorem dX3_knowing_50 : decode cX3_knowing 50 = .ok (.ishl, 1) := by decide +kernel
theorem dX3_knowing_51 : decode cX3_knowing 51 = .ok (.ior, 1) := by decide +kernel
theorem dX3_knowing_52 : decode cX3_knowing 52 = .ok (.istore 4, 2) := by decide +kernel
theorem dX3_knowing_54 : decode cX3_knowing 54 = .ok (.iinc 5 1, 3) := by decide +kernel
theorem dX3_knowing_57 : decode cX3_knowing 57 = .ok (.goto (-45), 3) := by decide +kernel
theorem dX3_knowing_60 : decode cX3_knowing 60 = .ok (.iload 4, 2) := by decide +kernel
theorem dX3_knowing_62 : decode cX3_knowing 62 = .ok (.ireturn, 1) := by decide +kernel
theorem dX3_isKnown_0 : decode cX3_isKnown 0 = .ok (.aload_n 0, 1) := by decide +kernel
theorem dX3_isKnown_1 : decode cX3_isKnown 1 = .ok (.getfield 15, 3) := by decide +kernel
theorem dX3_isKnown_4 : decode cX3_isKnown 4 = .ok (.iload_n 3, 1) := by decide +kernel
theorem dX3_isKnown_5 : decode cX3_isKnown 5 = .ok (.invokestatic 34, 3) := by decide +kernel
theorem dX3_isKnown_8 : decode cX3_isKnown 8 = .ok (.ifCond .ne 5, 3) := by decide +kernel
theorem dX3_isKnown_11 : decode cX3_isKnown 11 = .ok (.iconst 0, 1) := by decide +kernel
theorem dX3_isKnown_12 : decode cX3_isKnown 12 = .ok (.ireturn, 1) := by decide +kernel
theorem dX3_isKnown_13 : decode cX3_isKnown 13 = .ok (.aload_n 0, 1) := by decide +kernel
theorem dX3_isKnown_14 : decode cX3_isKnown 14 = .ok (.iload_n 3, 1) := by decide +kernel
theorem dX3_isKnown_15 : decode cX3_isKnown 15 = .ok (.iload 4, 2) := by decide +kernel
theorem dX3_isKnown_17 : decode cX3_isKnown 17 = .ok (.invokevirtual 51, 3) := by decide +kernel
theorem dX3_isKnown_20 : decode cX3_isKnown 20 = .ok (.istore 5, 2) := by decide +kernel
theorem dX3_isKnown_22 : decode cX3_isKnown 22 = .ok (.iload_n 2, 1) := by decide +kernel
theorem dX3_isKnown_23 : decode cX3_isKnown 23 = .ok (.iconst 1, 1) := by decide +kernel
theorem dX3_isKnown_24 : decode cX3_isKnown 24 = .ok (.isub, 1) := by decide +kernel
theorem dX3_isKnown_25 : decode cX3_isKnown 25 = .ok (.istore 6, 2) := by decide +kernel
theorem dX3_isKnown_27 : decode cX3_isKnown 27 = .ok (.iload 6, 2) := by decide +kernel
theorem dX3_isKnown_29 : decode cX3_isKnown 29 = .ok (.ifCond .lt 23, 3) := by decide +kernel
theorem dX3_isKnown_32 : decode cX3_isKnown 32 = .ok (.aload_n 0, 1) := by decide +kernel
theorem dX3_isKnown_33 : decode cX3_isKnown 33 = .ok (.iload_n 1, 1) := by decide +kernel
theorem dX3_isKnown_34 : decode cX3_isKnown 34 = .ok (.iload 6, 2) := by decide +kernel
theorem dX3_isKnown_36 : decode cX3_isKnown 36 = .ok (.invokestatic 62, 3) := by decide +kernel
theorem dX3_isKnown_39 : decode cX3_isKnown 39 = .ok (.iload 5, 2) := by decide +kernel
theorem dX3_isKnown_41 : decode cX3_isKnown 41 = .ok (.invokevirtual 55, 3) := by decide +kernel
theorem dX3_isKnown_44 : decode cX3_isKnown 44 = .ok (.istore 5, 2) := by decide +kernel
theorem dX3_isKnown_46 : decode cX3_isKnown 46 = .ok (.iinc 6 (-1), 3) := by decide +kernel
theorem dX3_isKnown_49 : decode cX3_isKnown 49 = .ok (.goto (-22), 3) := by decide +kernel
theorem dX3_isKnown_52 : decode cX3_isKnown 52 = .ok (.iload 5, 2) := by decide +kernel
theorem dX3_isKnown_54 : decode cX3_isKnown 54 = .ok (.aload_n 0, 1) := by decide +kernel
theorem dX3_isKnown_55 : decode cX3_isKnown 55 = .ok (.invokevirtual 58, 3) := by decide +kernel
theorem dX3_isKnown_58 : decode cX3_isKnown 58 = .ok (.invokestatic 34, 3) := by decide +kernel
theorem dX3_isKnown_61 : decode cX3_isKnown 61 = .ok (.ireturn, 1) := by decide +kernel
theorem dX9_known_0 : decode cX9_known 0 = .ok (.aload_n 0, 1) := by decide +kernel
theorem dX9_known_1 : decode cX9_known 1 = .ok (.iload_n 3, 1) := by decide +kernel
theorem dX9_known_2 : decode cX9_known 2 = .ok (.invokevirtual 190, 3) := by decide +kernel
theorem dX9_known_5 : decode cX9_known 5 = .ok (.iload_n 2, 1) := by decide +kernel
theorem dX9_known_6 : decode cX9_known 6 = .ok (.iconst 1, 1) := by decide +kernel
theorem dX9_known_7 : decode cX9_known 7 = .ok (.if_icmp .lt 8, 3) := by decide +kernel
theorem dX9_known_10 : decode cX9_known 10 = .ok (.iload_n 2, 1) := by decide +kernel
theorem dX9_known_11 : decode cX9_known 11 = .ok (.iconst 4, 1) := by decide +kernel
theorem dX9_known_12 : decode cX9_known 12 = .ok (.if_icmp .le 11, 3) := by decide +kernel
theorem dX9_known_15 : decode cX9_known 15 = .ok (.new 125, 3) := by decide +kernel
theorem dX9_known_18 : decode cX9_known 18 = .ok (.dup, 1) := by decide +kernel
theorem dX9_known_19 : decode cX9_known 19 = .ok (.invokespecial 127, 3) := by decide +kernel
theorem dX9_known_22 : decode cX9_known 22 = .ok (.athrow, 1) := by decide +kernel
theorem dX9_known_23 : decode cX9_known 23 = .ok (.iconst 0, 1) := by decide +kernel
theorem dX9_known_24 : decode cX9_known 24 = .ok (.istore 5, 2) := by decide +kernel
theorem dX9_known_26 : decode cX9_known 26 = .ok (.iload 5, 2) := by decide +kernel
theorem dX9_known_28 : decode cX9_known 28 = .ok (.iload_n 2, 1) := by decide +kernel
theorem dX9_known_29 : decode cX9_known 29 = .ok (.if_icmp .ge 33, 3) := by decide +kernel
theorem dX9_known_32 : decode cX9_known 32 = .ok (.aload_n 0, 1) := by decide +kernel
theorem dX9_known_33 : decode cX9_known 33 = .ok (.getfield 16, 3) := by decide +kernel
theorem dX9_known_36 : decode cX9_known 36 = .ok (.iload_n 1, 1) := by decide +kernel
theorem dX9_known_37 : decode cX9_known 37 = .ok (.iload 5, 2) := by decide +kernel
theorem dX9_known_39 : decode cX9_known 39 = .ok (.invokestatic 306, 3) := by decide +kernel
theorem dX9_known_42 : decode cX9_known 42 = .ok (.invokevirtual 180, 3) := by decide +kernel
theorem dX9_known_45 : decode cX9_known 45 = .ok (.ifCond .ne 11, 3) := by decide +kernel
theorem dX9_known_48 : decode cX9_known 48 = .ok (.new 125, 3) := by decide +kernel
theorem dX9_known_51 : decode cX9_known 51 = .ok (.dup, 1) := by decide +kernel
theorem dX9_known_52 : decode cX9_known 52 = .ok (.invokespecial 127, 3) := by decide +kernel
theorem dX9_known_55 : decode cX9_known 55 = .ok (.athrow, 1) := by decide +kernel
theorem dX9_known_56 : decode cX9_known 56 = .ok (.iinc 5 1, 3) := by decide +kernel
theorem dX9_known_59 : decode cX9_known 59 = .ok (.goto (-33), 3) := by decide +kernel
theorem dX9_known_62 : decode cX9_known 62 = .ok (.aload_n 0, 1) := by decide +kernel
theorem dX9_known_63 : decode cX9_known 63 = .ok (.getfield 61, 3) := by decide +kernel
theorem dX9_known_66 : decode cX9_known 66 = .ok (.iload_n 1, 1) := by decide +kernel
theorem dX9_known_67 : decode cX9_known 67 = .ok (.iload_n 2, 1) := by decide +kernel
theorem dX9_known_68 : decode cX9_known 68 = .ok (.iload_n 3, 1) := by decide +kernel
theorem dX9_known_69 : decode cX9_known 69 = .ok (.iload 4, 2) := by decide +kernel
theorem dX9_known_71 : decode cX9_known 71 = .ok (.invokevirtual 309, 3) := by decide +kernel
theorem dX9_known_74 : decode cX9_known 74 = .ok (.ireturn, 1) := by decide +kernel
theorem dX6_weighed_0 : decode cX6_weighed 0 = .ok (.iload_n 3, 1) := by decide +kernel
theorem dX6_weighed_1 : decode cX6_weighed 1 = .ok (.ifCond .eq 11, 3) := by decide +kernel
theorem dX6_weighed_4 : decode cX6_weighed 4 = .ok (.ldc 103, 2) := by decide +kernel
theorem dX6_weighed_6 : decode cX6_weighed 6 = .ok (.iload_n 1, 1) := by decide +kernel
theorem dX6_weighed_7 : decode cX6_weighed 7 = .ok (.isub, 1) := by decide +kernel
theorem dX6_weighed_8 : decode cX6_weighed 8 = .ok (.i2l, 1) := by decide +kernel
theorem dX6_weighed_9 : decode cX6_weighed 9 = .ok (.goto 5, 3) := by decide +kernel
theorem dX6_weighed_12 : decode cX6_weighed 12 = .ok (.iload_n 1, 1) := by decide +kernel
theorem dX6_weighed_13 : decode cX6_weighed 13 = .ok (.i2l, 1) := by decide +kernel
theorem dX6_weighed_14 : decode cX6_weighed 14 = .ok (.lstore 4, 2) := by decide +kernel
theorem dX6_weighed_16 : decode cX6_weighed 16 = .ok (.lload 4, 2) := by decide +kernel
theorem dX6_weighed_18 : decode cX6_weighed 18 = .ok (.aload_n 0, 1) := by decide +kernel
theorem dX6_weighed_19 : decode cX6_weighed 19 = .ok (.getfield 44, 3) := by decide +kernel
theorem dX6_weighed_22 : decode cX6_weighed 22 = .ok (.iconst 2, 1) := by decide +kernel
theorem dX6_weighed_23 : decode cX6_weighed 23 = .ok (.iload_n 2, 1) := by decide +kernel
theorem dX6_weighed_24 : decode cX6_weighed 24 = .ok (.imul, 1) := by decide +kernel
theorem dX6_weighed_25 : decode cX6_weighed 25 = .ok (.iaload, 1) := by decide +kernel
theorem dX6_weighed_26 : decode cX6_weighed 26 = .ok (.i2l, 1) := by decide +kernel
theorem dX6_weighed_27 : decode cX6_weighed 27 = .ok (.lmul, 1) := by decide +kernel
theorem dX6_weighed_28 : decode cX6_weighed 28 = .ok (.lstore 6, 2) := by decide +kernel
theorem dX6_weighed_30 : decode cX6_weighed 30 = .ok (.lload 6, 2) := by decide +kernel
theorem dX6_weighed_32 : decode cX6_weighed 32 = .ok (.ldc2_w 104, 3) := by decide +kernel
theorem dX6_weighed_35 : decode cX6_weighed 35 = .ok (.lload 4, 2) := by decide +kernel
theorem dX6_weighed_37 : decode cX6_weighed 37 = .ok (.lsub, 1) := by decide +kernel
theorem dX6_weighed_38 : decode cX6_weighed 38 = .ok (.aload_n 0, 1) := by decide +kernel
theorem dX6_weighed_39 : decode cX6_weighed 39 = .ok (.getfield 44, 3) := by decide +kernel
theorem dX6_weighed_42 : decode cX6_weighed 42 = .ok (.iconst 2, 1) := by decide +kernel
theorem dX6_weighed_43 : decode cX6_weighed 43 = .ok (.iload_n 2, 1) := by decide +kernel
theorem dX6_weighed_44 : decode cX6_weighed 44 = .ok (.imul, 1) := by decide +kernel
theorem dX6_weighed_45 : decode cX6_weighed 45 = .ok (.iconst 1, 1) := by decide +kernel
theorem dX6_weighed_46 : decode cX6_weighed 46 = .ok (.iadd, 1) := by decide +kernel
theorem dX6_weighed_47 : decode cX6_weighed 47 = .ok (.iaload, 1) := by decide +kernel
theorem dX6_weighed_48 : decode cX6_weighed 48 = .ok (.i2l, 1) := by decide +kernel
theorem dX6_weighed_49 : decode cX6_weighed 49 = .ok (.lmul, 1) := by decide +kernel
theorem dX6_weighed_50 : decode cX6_weighed 50 = .ok (.ladd, 1) := by decide +kernel
theorem dX6_weighed_51 : decode cX6_weighed 51 = .ok (.lstore 8, 2) := by decide +kernel
theorem dX6_weighed_53 : decode cX6_weighed 53 = .ok (.lload 8, 2) := by decide +kernel
theorem dX6_weighed_55 : decode cX6_weighed 55 = .ok (.lconst 0, 1) := by decide +kernel
theorem dX6_weighed_56 : decode cX6_weighed 56 = .ok (.lcmp, 1) := by decide +kernel
theorem dX6_weighed_57 : decode cX6_weighed 57 = .ok (.ifCond .ne 5, 3) := by decide +kernel
theorem dX6_weighed_60 : decode cX6_weighed 60 = .ok (.iload_n 1, 1) := by decide +kernel
theorem dX6_weighed_61 : decode cX6_weighed 61 = .ok (.ireturn, 1) := by decide +kernel
theorem dX6_weighed_62 : decode cX6_weighed 62 = .ok (.lload 6, 2) := by decide +kernel
theorem dX6_weighed_64 : decode cX6_weighed 64 = .ok (.ldc2_w 104, 3) := by decide +kernel
theorem dX6_weighed_67 : decode cX6_weighed 67 = .ok (.lmul, 1) := by decide +kernel
theorem dX6_weighed_68 : decode cX6_weighed 68 = .ok (.lload 8, 2) := by decide +kernel
theorem dX6_weighed_70 : decode cX6_weighed 70 = .ok (.ldiv, 1) := by decide +kernel
theorem dX6_weighed_71 : decode cX6_weighed 71 = .ok (.l2i, 1) := by decide +kernel
theorem dX6_weighed_72 : decode cX6_weighed 72 = .ok (.istore 10, 2) := by decide +kernel
theorem dX6_weighed_74 : decode cX6_weighed 74 = .ok (.iload_n 3, 1) := by decide +kernel
theorem dX6_weighed_75 : decode cX6_weighed 75 = .ok (.ifCond .eq 11, 3) := by decide +kernel
theorem dX6_weighed_78 : decode cX6_weighed 78 = .ok (.ldc 103, 2) := by decide +kernel
theorem dX6_weighed_80 : decode cX6_weighed 80 = .ok (.iload 10, 2) := by decide +kernel
theorem dX6_weighed_82 : decode cX6_weighed 82 = .ok (.isub, 1) := by decide +kernel
theorem dX6_weighed_83 : decode cX6_weighed 83 = .ok (.goto 5, 3) := by decide +kernel
theorem dX6_weighed_86 : decode cX6_weighed 86 = .ok (.iload 10, 2) := by decide +kernel
theorem dX6_weighed_88 : decode cX6_weighed 88 = .ok (.ireturn, 1) := by decide +kernel
theorem dX9_likely_0 : decode cX9_likely 0 = .ok (.aload_n 0, 1) := by decide +kernel
theorem dX9_likely_1 : decode cX9_likely 1 = .ok (.iload_n 1, 1) := by decide +kernel
theorem dX9_likely_2 : decode cX9_likely 2 = .ok (.invokevirtual 170, 3) := by decide +kernel
theorem dX9_likely_5 : decode cX9_likely 5 = .ok (.aload_n 0, 1) := by decide +kernel
theorem dX9_likely_6 : decode cX9_likely 6 = .ok (.iload_n 2, 1) := by decide +kernel
theorem dX9_likely_7 : decode cX9_likely 7 = .ok (.invokevirtual 190, 3) := by decide +kernel
theorem dX9_likely_10 : decode cX9_likely 10 = .ok (.ldc_w 290, 3) := by decide +kernel
theorem dX9_likely_13 : decode cX9_likely 13 = .ok (.istore_n 3, 1) := by decide +kernel
theorem dX9_likely_14 : decode cX9_likely 14 = .ok (.iconst 0, 1) := by decide +kernel
theorem dX9_likely_15 : decode cX9_likely 15 = .ok (.istore 4, 2) := by decide +kernel
theorem dX9_likely_17 : decode cX9_likely 17 = .ok (.iload 4, 2) := by decide +kernel
theorem dX9_likely_19 : decode cX9_likely 19 = .ok (.aload_n 0, 1) := by decide +kernel
theorem dX9_likely_20 : decode cX9_likely 20 = .ok (.getfield 49, 3) := by decide +kernel
theorem dX9_likely_23 : decode cX9_likely 23 = .ok (.getfield 111, 3) := by decide +kernel
theorem dX9_likely_26 : decode cX9_likely 26 = .ok (.if_icmp .ge 69, 3) := by decide +kernel
theorem dX9_likely_29 : decode cX9_likely 29 = .ok (.aload_n 0, 1) := by decide +kernel
theorem dX9_likely_30 : decode cX9_likely 30 = .ok (.getfield 49, 3) := by decide +kernel
theorem dX9_likely_33 : decode cX9_likely 33 = .ok (.getfield 256, 3) := by decide +kernel
theorem dX9_likely_36 : decode cX9_likely 36 = .ok (.iload 4, 2) := by decide +kernel
theorem dX9_likely_38 : decode cX9_likely 38 = .ok (.iaload, 1) := by decide +kernel
theorem dX9_likely_39 : decode cX9_likely 39 = .ok (.iload_n 2, 1) := by decide +kernel
theorem dX9_likely_40 : decode cX9_likely 40 = .ok (.if_icmp .ne 49, 3) := by decide +kernel
theorem dX9_likely_43 : decode cX9_likely 43 = .ok (.aload_n 0, 1) := by decide +kernel
theorem dX9_likely_44 : decode cX9_likely 44 = .ok (.getfield 49, 3) := by decide +kernel
theorem dX9_likely_47 : decode cX9_likely 47 = .ok (.iload 4, 2) := by decide +kernel
theorem dX9_likely_49 : decode cX9_likely 49 = .ok (.iload_n 1, 1) := by decide +kernel
theorem dX9_likely_50 : decode cX9_likely 50 = .ok (.aload_n 0, 1) := by decide +kernel
theorem dX9_likely_51 : decode cX9_likely 51 = .ok (.getfield 16, 3) := by decide +kernel
theorem dX9_likely_54 : decode cX9_likely 54 = .ok (.invokevirtual 291, 3) := by decide +kernel
theorem dX9_likely_57 : decode cX9_likely 57 = .ok (.ifCond .eq 32, 3) := by decide +kernel
theorem dX9_likely_60 : decode cX9_likely 60 = .ok (.aload_n 0, 1) := by decide +kernel
theorem dX9_likely_61 : decode cX9_likely 61 = .ok (.getfield 16, 3) := by decide +kernel
theorem dX9_likely_64 : decode cX9_likely 64 = .ok (.iload_n 3, 1) := by decide +kernel
theorem dX9_likely_65 : decode cX9_likely 65 = .ok (.aload_n 0, 1) := by decide +kernel
theorem dX9_likely_66 : decode cX9_likely 66 = .ok (.getfield 49, 3) := by decide +kernel
theorem dX9_likely_69 : decode cX9_likely 69 = .ok (.getfield 258, 3) := by decide +kernel
theorem dX9_likely_72 : decode cX9_likely 72 = .ok (.iload 4, 2) := by decide +kernel
theorem dX9_likely_74 : decode cX9_likely 74 = .ok (.iaload, 1) := by decide +kernel
theorem dX9_likely_75 : decode cX9_likely 75 = .ok (.aload_n 0, 1) := by decide +kernel
theorem dX9_likely_76 : decode cX9_likely 76 = .ok (.getfield 49, 3) := by decide +kernel
theorem dX9_likely_79 : decode cX9_likely 79 = .ok (.getfield 260, 3) := by decide +kernel
theorem dX9_likely_82 : decode cX9_likely 82 = .ok (.iload 4, 2) := by decide +kernel
theorem dX9_likely_84 : decode cX9_likely 84 = .ok (.baload, 1) := by decide +kernel
theorem dX9_likely_85 : decode cX9_likely 85 = .ok (.invokevirtual 295, 3) := by decide +kernel
theorem dX9_likely_88 : decode cX9_likely 88 = .ok (.istore_n 3, 1) := by decide +kernel
theorem dX9_likely_89 : decode cX9_likely 89 = .ok (.iinc 4 1, 3) := by decide +kernel
theorem dX9_likely_92 : decode cX9_likely 92 = .ok (.goto (-75), 3) := by decide +kernel
theorem dX9_likely_95 : decode cX9_likely 95 = .ok (.iload_n 3, 1) := by decide +kernel
theorem dX9_likely_96 : decode cX9_likely 96 = .ok (.ireturn, 1) := by decide +kernel
theorem dX0_forget_0 : decode cX0_forget 0 = .ok (.aload_n 0, 1) := by decide +kernel
theorem dX0_forget_1 : decode cX0_forget 1 = .ok (.iconst 0, 1) := by decide +kernel
theorem dX0_forget_2 : decode cX0_forget 2 = .ok (.putfield 50, 3) := by decide +kernel
theorem dX0_forget_5 : decode cX0_forget 5 = .ok (.return_, 1) := by decide +kernel
theorem dX0_standing_0 : decode cX0_standing 0 = .ok (.iconst 0, 1) := by decide +kernel
theorem dX0_standing_1 : decode cX0_standing 1 = .ok (.istore_n 3, 1) := by decide +kernel
theorem dX0_standing_2 : decode cX0_standing 2 = .ok (.iconst 0, 1) := by decide +kernel
theorem dX0_standing_3 : decode cX0_standing 3 = .ok (.istore 4, 2) := by decide +kernel
theorem dX0_standing_5 : decode cX0_standing 5 = .ok (.iload 4, 2) := by decide +kernel
theorem dX0_standing_7 : decode cX0_standing 7 = .ok (.aload_n 0, 1) := by decide +kernel
theorem dX0_standing_8 : decode cX0_standing 8 = .ok (.getfield 46, 3) := by decide +kernel
theorem dX0_standing_11 : decode cX0_standing 11 = .ok (.getfield 89, 3) := by decide +kernel
theorem dX0_standing_14 : decode cX0_standing 14 = .ok (.if_icmp .ge 93, 3) := by decide +kernel
theorem dX0_standing_17 : decode cX0_standing 17 = .ok (.iload_n 1, 1) := by decide +kernel
theorem dX0_standing_18 : decode cX0_standing 18 = .ok (.iload 4, 2) := by decide +kernel
theorem dX0_standing_20 : decode cX0_standing 20 = .ok (.invokestatic 139, 3) := by decide +kernel
theorem dX0_standing_23 : decode cX0_standing 23 = .ok (.ifCond .ne 6, 3) := by decide +kernel
theorem dX0_standing_26 : decode cX0_standing 26 = .ok (.goto 75, 3) := by decide +kernel
theorem dX0_standing_29 : decode cX0_standing 29 = .ok (.aload_n 0, 1) := by decide +kernel
theorem dX0_standing_30 : decode cX0_standing 30 = .ok (.getfield 46, 3) := by decide +kernel
theorem dX0_standing_33 : decode cX0_standing 33 = .ok (.getfield 121, 3) := by decide +kernel
theorem dX0_standing_36 : decode cX0_standing 36 = .ok (.iload 4, 2) := by decide +kernel
theorem dX0_standing_38 : decode cX0_standing 38 = .ok (.iaload, 1) := by decide +kernel
theorem dX0_standing_39 : decode cX0_standing 39 = .ok (.iconst 3, 1) := by decide +kernel
theorem dX0_standing_40 : decode cX0_standing 40 = .ok (.if_icmp .ne 26, 3) := by decide +kernel
theorem dX0_standing_43 : decode cX0_standing 43 = .ok (.aload_n 0, 1) := by decide +kernel
theorem dX0_standing_44 : decode cX0_standing 44 = .ok (.aload_n 0, 1) := by decide +kernel
theorem dX0_standing_45 : decode cX0_standing 45 = .ok (.getfield 11, 3) := by decide +kernel
theorem dX0_standing_48 : decode cX0_standing 48 = .ok (.iload 4, 2) := by decide +kernel
theorem dX0_standing_50 : decode cX0_standing 50 = .ok (.iaload, 1) := by decide +kernel
theorem dX0_standing_51 : decode cX0_standing 51 = .ok (.iload_n 2, 1) := by decide +kernel
theorem dX0_standing_52 : decode cX0_standing 52 = .ok (.iand, 1) := by decide +kernel
theorem dX0_standing_53 : decode cX0_standing 53 = .ok (.aload_n 0, 1) := by decide +kernel
theorem dX0_standing_54 : decode cX0_standing 54 = .ok (.getfield 15, 3) := by decide +kernel
theorem dX0_standing_57 : decode cX0_standing 57 = .ok (.iload 4, 2) := by decide +kernel
theorem dX0_standing_59 : decode cX0_standing 59 = .ok (.iaload, 1) := by decide +kernel
theorem dX0_standing_60 : decode cX0_standing 60 = .ok (.invokevirtual 161, 3) := by decide +kernel
theorem dX0_standing_63 : decode cX0_standing 63 = .ok (.goto 4, 3) := by decide +kernel
theorem dX0_standing_66 : decode cX0_standing 66 = .ok (.iconst 0, 1) := by decide +kernel
theorem dX0_standing_67 : decode cX0_standing 67 = .ok (.istore 5, 2) := by decide +kernel
theorem dX0_standing_69 : decode cX0_standing 69 = .ok (.aload_n 0, 1) := by decide +kernel
theorem dX0_standing_70 : decode cX0_standing 70 = .ok (.iload 4, 2) := by decide +kernel
theorem dX0_standing_72 : decode cX0_standing 72 = .ok (.iload_n 2, 1) := by decide +kernel
theorem dX0_standing_73 : decode cX0_standing 73 = .ok (.iload 5, 2) := by decide +kernel
theorem dX0_standing_75 : decode cX0_standing 75 = .ok (.invokevirtual 142, 3) := by decide +kernel
theorem dX0_standing_78 : decode cX0_standing 78 = .ok (.aload_n 0, 1) := by decide +kernel
theorem dX0_standing_79 : decode cX0_standing 79 = .ok (.getfield 46, 3) := by decide +kernel
theorem dX0_standing_82 : decode cX0_standing 82 = .ok (.getfield 121, 3) := by decide +kernel
theorem dX0_standing_85 : decode cX0_standing 85 = .ok (.iload 4, 2) := by decide +kernel
theorem dX0_standing_87 : decode cX0_standing 87 = .ok (.iaload, 1) := by decide +kernel
theorem dX0_standing_88 : decode cX0_standing 88 = .ok (.invokestatic 139, 3) := by decide +kernel
theorem dX0_standing_91 : decode cX0_standing 91 = .ok (.ifCond .eq 10, 3) := by decide +kernel
theorem dX0_standing_94 : decode cX0_standing 94 = .ok (.iload_n 3, 1) := by decide +kernel
theorem dX0_standing_95 : decode cX0_standing 95 = .ok (.iconst 1, 1) := by decide +kernel
theorem dX0_standing_96 : decode cX0_standing 96 = .ok (.iload 4, 2) := by decide +kernel
theorem dX0_standing_98 : decode cX0_standing 98 = .ok (.ishl, 1) := by decide +kernel
theorem dX0_standing_99 : decode cX0_standing 99 = .ok (.ior, 1) := by decide +kernel
theorem dX0_standing_100 : decode cX0_standing 100 = .ok (.istore_n 3, 1) := by decide +kernel
theorem dX0_standing_101 : decode cX0_standing 101 = .ok (.iinc 4 1, 3) := by decide +kernel
theorem dX0_standing_104 : decode cX0_standing 104 = .ok (.goto (-99), 3) := by decide +kernel
theorem dX0_standing_107 : decode cX0_standing 107 = .ok (.iload_n 3, 1) := by decide +kernel
theorem dX0_standing_108 : decode cX0_standing 108 = .ok (.ireturn, 1) := by decide +kernel
theorem dX2_fewest_0 : decode cX2_fewest 0 = .ok (.aload_n 0, 1) := by decide +kernel
theorem dX2_fewest_1 : decode cX2_fewest 1 = .ok (.getfield 23, 3) := by decide +kernel
theorem dX2_fewest_4 : decode cX2_fewest 4 = .ok (.invokevirtual 39, 3) := by decide +kernel
theorem dX2_fewest_7 : decode cX2_fewest 7 = .ok (.istore_n 1, 1) := by decide +kernel
theorem dX2_fewest_8 : decode cX2_fewest 8 = .ok (.aload_n 0, 1) := by decide +kernel
theorem dX2_fewest_9 : decode cX2_fewest 9 = .ok (.getfield 19, 3) := by decide +kernel
theorem dX2_fewest_12 : decode cX2_fewest 12 = .ok (.iload_n 1, 1) := by decide +kernel
theorem dX2_fewest_13 : decode cX2_fewest 13 = .ok (.iload_n 1, 1) := by decide +kernel
theorem dX2_fewest_14 : decode cX2_fewest 14 = .ok (.invokevirtual 44, 3) := by decide +kernel
theorem dX2_fewest_17 : decode cX2_fewest 17 = .ok (.aload_n 0, 1) := by decide +kernel
theorem dX2_fewest_18 : decode cX2_fewest 18 = .ok (.getfield 19, 3) := by decide +kernel
theorem dX2_fewest_21 : decode cX2_fewest 21 = .ok (.getfield 62, 3) := by decide +kernel
theorem dX2_fewest_24 : decode cX2_fewest 24 = .ok (.istore_n 2, 1) := by decide +kernel
theorem dX2_fewest_25 : decode cX2_fewest 25 = .ok (.iload_n 1, 1) := by decide +kernel
theorem dX2_fewest_26 : decode cX2_fewest 26 = .ok (.aload_n 0, 1) := by decide +kernel
theorem dX2_fewest_27 : decode cX2_fewest 27 = .ok (.getfield 19, 3) := by decide +kernel
theorem dX2_fewest_30 : decode cX2_fewest 30 = .ok (.iload_n 1, 1) := by decide +kernel
theorem dX2_fewest_31 : decode cX2_fewest 31 = .ok (.iload_n 2, 1) := by decide +kernel
theorem dX2_fewest_32 : decode cX2_fewest 32 = .ok (.invokevirtual 74, 3) := by decide +kernel
theorem dX2_fewest_35 : decode cX2_fewest 35 = .ok (.iconst (-1), 1) := by decide +kernel
theorem dX2_fewest_36 : decode cX2_fewest 36 = .ok (.ixor, 1) := by decide +kernel
theorem dX2_fewest_37 : decode cX2_fewest 37 = .ok (.iand, 1) := by decide +kernel
theorem dX2_fewest_38 : decode cX2_fewest 38 = .ok (.istore_n 3, 1) := by decide +kernel
theorem dX2_fewest_39 : decode cX2_fewest 39 = .ok (.aload_n 0, 1) := by decide +kernel
theorem dX2_fewest_40 : decode cX2_fewest 40 = .ok (.getfield 19, 3) := by decide +kernel
theorem dX2_fewest_43 : decode cX2_fewest 43 = .ok (.iload_n 3, 1) := by decide +kernel
theorem dX2_fewest_44 : decode cX2_fewest 44 = .ok (.iload_n 1, 1) := by decide +kernel
theorem dX2_fewest_45 : decode cX2_fewest 45 = .ok (.invokevirtual 44, 3) := by decide +kernel
theorem dX2_fewest_48 : decode cX2_fewest 48 = .ok (.iload_n 1, 1) := by decide +kernel
theorem dX2_fewest_49 : decode cX2_fewest 49 = .ok (.iload_n 3, 1) := by decide +kernel
theorem dX2_fewest_50 : decode cX2_fewest 50 = .ok (.iconst (-1), 1) := by decide +kernel
theorem dX2_fewest_51 : decode cX2_fewest 51 = .ok (.ixor, 1) := by decide +kernel
theorem dX2_fewest_52 : decode cX2_fewest 52 = .ok (.iand, 1) := by decide +kernel
theorem dX2_fewest_53 : decode cX2_fewest 53 = .ok (.iload_n 2, 1) := by decide +kernel
theorem dX2_fewest_54 : decode cX2_fewest 54 = .ok (.iand, 1) := by decide +kernel
theorem dX2_fewest_55 : decode cX2_fewest 55 = .ok (.aload_n 0, 1) := by decide +kernel
theorem dX2_fewest_56 : decode cX2_fewest 56 = .ok (.getfield 19, 3) := by decide +kernel
theorem dX2_fewest_59 : decode cX2_fewest 59 = .ok (.getfield 77, 3) := by decide +kernel
theorem dX2_fewest_62 : decode cX2_fewest 62 = .ok (.iconst (-1), 1) := by decide +kernel
theorem dX2_fewest_63 : decode cX2_fewest 63 = .ok (.ixor, 1) := by decide +kernel
theorem dX2_fewest_64 : decode cX2_fewest 64 = .ok (.iand, 1) := by decide +kernel
theorem dX2_fewest_65 : decode cX2_fewest 65 = .ok (.istore 4, 2) := by decide +kernel
theorem dX2_fewest_67 : decode cX2_fewest 67 = .ok (.iload 4, 2) := by decide +kernel
theorem dX2_fewest_69 : decode cX2_fewest 69 = .ok (.invokestatic 68, 3) := by decide +kernel
theorem dX2_fewest_72 : decode cX2_fewest 72 = .ok (.istore 5, 2) := by decide +kernel
theorem dX2_fewest_74 : decode cX2_fewest 74 = .ok (.iconst 0, 1) := by decide +kernel
theorem dX2_fewest_75 : decode cX2_fewest 75 = .ok (.istore 6, 2) := by decide +kernel
theorem dX2_fewest_77 : decode cX2_fewest 77 = .ok (.iload 6, 2) := by decide +kernel
theorem dX2_fewest_79 : decode cX2_fewest 79 = .ok (.iload 5, 2) := by decide +kernel
theorem dX2_fewest_81 : decode cX2_fewest 81 = .ok (.if_icmp .ge 83, 3) := by decide +kernel
theorem dX2_fewest_84 : decode cX2_fewest 84 = .ok (.iconst 0, 1) := by decide +kernel
theorem dX2_fewest_85 : decode cX2_fewest 85 = .ok (.istore 7, 2) := by decide +kernel
theorem dX2_fewest_87 : decode cX2_fewest 87 = .ok (.iconst 0, 1) := by decide +kernel
theorem dX2_fewest_88 : decode cX2_fewest 88 = .ok (.istore 8, 2) := by decide +kernel
theorem dX2_fewest_90 : decode cX2_fewest 90 = .ok (.iload 8, 2) := by decide +kernel
theorem dX2_fewest_92 : decode cX2_fewest 92 = .ok (.iconst 1, 1) := by decide +kernel
theorem dX2_fewest_93 : decode cX2_fewest 93 = .ok (.iload 5, 2) := by decide +kernel
theorem dX2_fewest_95 : decode cX2_fewest 95 = .ok (.ishl, 1) := by decide +kernel
theorem dX2_fewest_96 : decode cX2_fewest 96 = .ok (.if_icmp .ge 62, 3) := by decide +kernel
theorem dX2_fewest_99 : decode cX2_fewest 99 = .ok (.iload_n 3, 1) := by decide +kernel
theorem dX2_fewest_100 : decode cX2_fewest 100 = .ok (.iload 7, 2) := by decide +kernel
theorem dX2_fewest_102 : decode cX2_fewest 102 = .ok (.ior, 1) := by decide +kernel
theorem dX2_fewest_103 : decode cX2_fewest 103 = .ok (.istore 9, 2) := by decide +kernel
theorem dX2_fewest_105 : decode cX2_fewest 105 = .ok (.iload 7, 2) := by decide +kernel
theorem dX2_fewest_107 : decode cX2_fewest 107 = .ok (.invokestatic 68, 3) := by decide +kernel
theorem dX2_fewest_110 : decode cX2_fewest 110 = .ok (.iload 6, 2) := by decide +kernel
theorem dX2_fewest_112 : decode cX2_fewest 112 = .ok (.if_icmp .ne 30, 3) := by decide +kernel
theorem dX2_fewest_115 : decode cX2_fewest 115 = .ok (.aload_n 0, 1) := by decide +kernel
theorem dX2_fewest_116 : decode cX2_fewest 116 = .ok (.getfield 19, 3) := by decide +kernel
theorem dX2_fewest_119 : decode cX2_fewest 119 = .ok (.iload 9, 2) := by decide +kernel
theorem dX2_fewest_121 : decode cX2_fewest 121 = .ok (.iload_n 1, 1) := by decide +kernel
theorem dX2_fewest_122 : decode cX2_fewest 122 = .ok (.invokevirtual 44, 3) := by decide +kernel
theorem dX2_fewest_125 : decode cX2_fewest 125 = .ok (.aload_n 0, 1) := by decide +kernel
theorem dX2_fewest_126 : decode cX2_fewest 126 = .ok (.getfield 19, 3) := by decide +kernel
theorem dX2_fewest_129 : decode cX2_fewest 129 = .ok (.getfield 62, 3) := by decide +kernel
theorem dX2_fewest_132 : decode cX2_fewest 132 = .ok (.iload 9, 2) := by decide +kernel
theorem dX2_fewest_134 : decode cX2_fewest 134 = .ok (.ior, 1) := by decide +kernel
theorem dX2_fewest_135 : decode cX2_fewest 135 = .ok (.iload_n 1, 1) := by decide +kernel
theorem dX2_fewest_136 : decode cX2_fewest 136 = .ok (.if_icmp .ne 6, 3) := by decide +kernel
theorem dX2_fewest_139 : decode cX2_fewest 139 = .ok (.iload 9, 2) := by decide +kernel
theorem dX2_fewest_141 : decode cX2_fewest 141 = .ok (.ireturn, 1) := by decide +kernel
theorem dX2_fewest_142 : decode cX2_fewest 142 = .ok (.iload 7, 2) := by decide +kernel
theorem dX2_fewest_144 : decode cX2_fewest 144 = .ok (.iload 4, 2) := by decide +kernel
theorem dX2_fewest_146 : decode cX2_fewest 146 = .ok (.isub, 1) := by decide +kernel
theorem dX2_fewest_147 : decode cX2_fewest 147 = .ok (.iload 4, 2) := by decide +kernel
theorem dX2_fewest_149 : decode cX2_fewest 149 = .ok (.iand, 1) := by decide +kernel
theorem dX2_fewest_150 : decode cX2_fewest 150 = .ok (.istore 7, 2) := by decide +kernel
theorem dX2_fewest_152 : decode cX2_fewest 152 = .ok (.iinc 8 1, 3) := by decide +kernel
theorem dX2_fewest_155 : decode cX2_fewest 155 = .ok (.goto (-65), 3) := by decide +kernel
theorem dX2_fewest_158 : decode cX2_fewest 158 = .ok (.iinc 6 1, 3) := by decide +kernel
theorem dX2_fewest_161 : decode cX2_fewest 161 = .ok (.goto (-84), 3) := by decide +kernel
theorem dX2_fewest_164 : decode cX2_fewest 164 = .ok (.iload_n 3, 1) := by decide +kernel
theorem dX2_fewest_165 : decode cX2_fewest 165 = .ok (.iload 4, 2) := by decide +kernel
theorem dX2_fewest_167 : decode cX2_fewest 167 = .ok (.ior, 1) := by decide +kernel
theorem dX2_fewest_168 : decode cX2_fewest 168 = .ok (.ireturn, 1) := by decide +kernel
theorem dX2_keepFewest_0 : decode cX2_keepFewest 0 = .ok (.aload_n 0, 1) := by decide +kernel
theorem dX2_keepFewest_1 : decode cX2_keepFewest 1 = .ok (.getfield 19, 3) := by decide +kernel
theorem dX2_keepFewest_4 : decode cX2_keepFewest 4 = .ok (.invokevirtual 27, 3) := by decide +kernel
theorem dX2_keepFewest_7 : decode cX2_keepFewest 7 = .ok (.aload_n 0, 1) := by decide +kernel
theorem dX2_keepFewest_8 : decode cX2_keepFewest 8 = .ok (.getfield 19, 3) := by decide +kernel
theorem dX2_keepFewest_11 : decode cX2_keepFewest 11 = .ok (.invokevirtual 32, 3) := by decide +kernel
theorem dX2_keepFewest_14 : decode cX2_keepFewest 14 = .ok (.aload_n 0, 1) := by decide +kernel
theorem dX2_keepFewest_15 : decode cX2_keepFewest 15 = .ok (.invokevirtual 35, 3) := by decide +kernel
theorem dX2_keepFewest_18 : decode cX2_keepFewest 18 = .ok (.istore_n 1, 1) := by decide +kernel
theorem dX2_keepFewest_19 : decode cX2_keepFewest 19 = .ok (.aload_n 0, 1) := by decide +kernel
theorem dX2_keepFewest_20 : decode cX2_keepFewest 20 = .ok (.getfield 19, 3) := by decide +kernel
theorem dX2_keepFewest_23 : decode cX2_keepFewest 23 = .ok (.iload_n 1, 1) := by decide +kernel
theorem dX2_keepFewest_24 : decode cX2_keepFewest 24 = .ok (.aload_n 0, 1) := by decide +kernel
theorem dX2_keepFewest_25 : decode cX2_keepFewest 25 = .ok (.getfield 23, 3) := by decide +kernel
theorem dX2_keepFewest_28 : decode cX2_keepFewest 28 = .ok (.invokevirtual 39, 3) := by decide +kernel
theorem dX2_keepFewest_31 : decode cX2_keepFewest 31 = .ok (.invokevirtual 44, 3) := by decide +kernel
theorem dX2_keepFewest_34 : decode cX2_keepFewest 34 = .ok (.aload_n 0, 1) := by decide +kernel
theorem dX2_keepFewest_35 : decode cX2_keepFewest 35 = .ok (.aload_n 0, 1) := by decide +kernel
theorem dX2_keepFewest_36 : decode cX2_keepFewest 36 = .ok (.getfield 23, 3) := by decide +kernel
theorem dX2_keepFewest_39 : decode cX2_keepFewest 39 = .ok (.getfield 48, 3) := by decide +kernel
theorem dX2_keepFewest_42 : decode cX2_keepFewest 42 = .ok (.bipush 12, 2) := by decide +kernel
theorem dX2_keepFewest_44 : decode cX2_keepFewest 44 = .ok (.invokestatic 49, 3) := by decide +kernel
theorem dX2_keepFewest_47 : decode cX2_keepFewest 47 = .ok (.putfield 15, 3) := by decide +kernel
theorem dX2_keepFewest_50 : decode cX2_keepFewest 50 = .ok (.iconst 0, 1) := by decide +kernel
theorem dX2_keepFewest_51 : decode cX2_keepFewest 51 = .ok (.istore_n 2, 1) := by decide +kernel
theorem dX2_keepFewest_52 : decode cX2_keepFewest 52 = .ok (.iload_n 2, 1) := by decide +kernel
theorem dX2_keepFewest_53 : decode cX2_keepFewest 53 = .ok (.aload_n 0, 1) := by decide +kernel
theorem dX2_keepFewest_54 : decode cX2_keepFewest 54 = .ok (.getfield 15, 3) := by decide +kernel
theorem dX2_keepFewest_57 : decode cX2_keepFewest 57 = .ok (.if_icmp .ge 68, 3) := by decide +kernel
theorem dX2_keepFewest_60 : decode cX2_keepFewest 60 = .ok (.iload_n 1, 1) := by decide +kernel
theorem dX2_keepFewest_61 : decode cX2_keepFewest 61 = .ok (.iload_n 2, 1) := by decide +kernel
theorem dX2_keepFewest_62 : decode cX2_keepFewest 62 = .ok (.invokestatic 55, 3) := by decide +kernel
theorem dX2_keepFewest_65 : decode cX2_keepFewest 65 = .ok (.ifCond .ne 21, 3) := by decide +kernel
theorem dX2_keepFewest_68 : decode cX2_keepFewest 68 = .ok (.aload_n 0, 1) := by decide +kernel
theorem dX2_keepFewest_69 : decode cX2_keepFewest 69 = .ok (.getfield 9, 3) := by decide +kernel
theorem dX2_keepFewest_72 : decode cX2_keepFewest 72 = .ok (.iload_n 2, 1) := by decide +kernel
theorem dX2_keepFewest_73 : decode cX2_keepFewest 73 = .ok (.aload_n 0, 1) := by decide +kernel
theorem dX2_keepFewest_74 : decode cX2_keepFewest 74 = .ok (.getfield 23, 3) := by decide +kernel
theorem dX2_keepFewest_77 : decode cX2_keepFewest 77 = .ok (.getfield 59, 3) := by decide +kernel
theorem dX2_keepFewest_80 : decode cX2_keepFewest 80 = .ok (.iload_n 2, 1) := by decide +kernel
theorem dX2_keepFewest_81 : decode cX2_keepFewest 81 = .ok (.iaload, 1) := by decide +kernel
theorem dX2_keepFewest_82 : decode cX2_keepFewest 82 = .ok (.iastore, 1) := by decide +kernel
theorem dX2_keepFewest_83 : decode cX2_keepFewest 83 = .ok (.goto 36, 3) := by decide +kernel
theorem dX2_keepFewest_86 : decode cX2_keepFewest 86 = .ok (.aload_n 0, 1) := by decide +kernel
theorem dX2_keepFewest_87 : decode cX2_keepFewest 87 = .ok (.getfield 9, 3) := by decide +kernel
theorem dX2_keepFewest_90 : decode cX2_keepFewest 90 = .ok (.iload_n 2, 1) := by decide +kernel
theorem dX2_keepFewest_91 : decode cX2_keepFewest 91 = .ok (.aload_n 0, 1) := by decide +kernel
theorem dX2_keepFewest_92 : decode cX2_keepFewest 92 = .ok (.getfield 19, 3) := by decide +kernel
theorem dX2_keepFewest_95 : decode cX2_keepFewest 95 = .ok (.getfield 62, 3) := by decide +kernel
theorem dX2_keepFewest_98 : decode cX2_keepFewest 98 = .ok (.iload_n 2, 1) := by decide +kernel
theorem dX2_keepFewest_99 : decode cX2_keepFewest 99 = .ok (.invokestatic 55, 3) := by decide +kernel
theorem dX2_keepFewest_102 : decode cX2_keepFewest 102 = .ok (.ifCond .eq 15, 3) := by decide +kernel
theorem dX2_keepFewest_105 : decode cX2_keepFewest 105 = .ok (.aload_n 0, 1) := by decide +kernel
theorem dX2_keepFewest_106 : decode cX2_keepFewest 106 = .ok (.getfield 19, 3) := by decide +kernel
theorem dX2_keepFewest_109 : decode cX2_keepFewest 109 = .ok (.getfield 65, 3) := by decide +kernel
theorem dX2_keepFewest_112 : decode cX2_keepFewest 112 = .ok (.iload_n 2, 1) := by decide +kernel
theorem dX2_keepFewest_113 : decode cX2_keepFewest 113 = .ok (.iaload, 1) := by decide +kernel
theorem dX2_keepFewest_114 : decode cX2_keepFewest 114 = .ok (.goto 4, 3) := by decide +kernel
theorem dX2_keepFewest_117 : decode cX2_keepFewest 117 = .ok (.iconst 4, 1) := by decide +kernel
theorem dX2_keepFewest_118 : decode cX2_keepFewest 118 = .ok (.iastore, 1) := by decide +kernel
theorem dX2_keepFewest_119 : decode cX2_keepFewest 119 = .ok (.iinc 2 1, 3) := by decide +kernel
theorem dX2_keepFewest_122 : decode cX2_keepFewest 122 = .ok (.goto (-70), 3) := by decide +kernel
theorem dX2_keepFewest_125 : decode cX2_keepFewest 125 = .ok (.iload_n 1, 1) := by decide +kernel
theorem dX2_keepFewest_126 : decode cX2_keepFewest 126 = .ok (.invokestatic 68, 3) := by decide +kernel
theorem dX2_keepFewest_129 : decode cX2_keepFewest 129 = .ok (.ireturn, 1) := by decide +kernel
theorem dX9_mend_0 : decode cX9_mend 0 = .ok (.aload_n 0, 1) := by decide +kernel
theorem dX9_mend_1 : decode cX9_mend 1 = .ok (.getfield 49, 3) := by decide +kernel
theorem dX9_mend_4 : decode cX9_mend 4 = .ok (.getfield 111, 3) := by decide +kernel
theorem dX9_mend_7 : decode cX9_mend 7 = .ok (.bipush 12, 2) := by decide +kernel
theorem dX9_mend_9 : decode cX9_mend 9 = .ok (.if_icmp .le 5, 3) := by decide +kernel
theorem dX9_mend_12 : decode cX9_mend 12 = .ok (.iconst (-1), 1) := by decide +kernel
theorem dX9_mend_13 : decode cX9_mend 13 = .ok (.ireturn, 1) := by decide +kernel
theorem dX9_mend_14 : decode cX9_mend 14 = .ok (.aload_n 0, 1) := by decide +kernel
theorem dX9_mend_15 : decode cX9_mend 15 = .ok (.getfield 82, 3) := by decide +kernel
theorem dX9_mend_18 : decode cX9_mend 18 = .ok (.invokevirtual 280, 3) := by decide +kernel
theorem dX9_mend_21 : decode cX9_mend 21 = .ok (.ireturn, 1) := by decide +kernel
theorem dX9_mended_0 : decode cX9_mended 0 = .ok (.iload_n 1, 1) := by decide +kernel
theorem dX9_mended_1 : decode cX9_mended 1 = .ok (.ifCond .lt 14, 3) := by decide +kernel
theorem dX9_mended_4 : decode cX9_mended 4 = .ok (.iload_n 1, 1) := by decide +kernel
theorem dX9_mended_5 : decode cX9_mended 5 = .ok (.aload_n 0, 1) := by decide +kernel
theorem dX9_mended_6 : decode cX9_mended 6 = .ok (.getfield 82, 3) := by decide +kernel
theorem dX9_mended_9 : decode cX9_mended 9 = .ok (.getfield 283, 3) := by decide +kernel
theorem dX9_mended_12 : decode cX9_mended 12 = .ok (.if_icmp .lt 11, 3) := by decide +kernel
theorem dX9_mended_15 : decode cX9_mended 15 = .ok (.new 167, 3) := by decide +kernel
theorem dX9_mended_18 : decode cX9_mended 18 = .ok (.dup, 1) := by decide +kernel
theorem dX9_mended_19 : decode cX9_mended 19 = .ok (.invokespecial 169, 3) := by decide +kernel
theorem dX9_mended_22 : decode cX9_mended 22 = .ok (.athrow, 1) := by decide +kernel
theorem dX9_mended_23 : decode cX9_mended 23 = .ok (.aload_n 0, 1) := by decide +kernel
theorem dX9_mended_24 : decode cX9_mended 24 = .ok (.getfield 82, 3) := by decide +kernel
theorem dX9_mended_27 : decode cX9_mended 27 = .ok (.getfield 284, 3) := by decide +kernel
theorem dX9_mended_30 : decode cX9_mended 30 = .ok (.iload_n 1, 1) := by decide +kernel
theorem dX9_mended_31 : decode cX9_mended 31 = .ok (.iaload, 1) := by decide +kernel
theorem dX9_mended_32 : decode cX9_mended 32 = .ok (.ireturn, 1) := by decide +kernel
theorem dX9_restore_0 : decode cX9_restore 0 = .ok (.aload_n 0, 1) := by decide +kernel
theorem dX9_restore_1 : decode cX9_restore 1 = .ok (.getfield 118, 3) := by decide +kernel
theorem dX9_restore_4 : decode cX9_restore 4 = .ok (.ifCond .ne 5, 3) := by decide +kernel
theorem dX9_restore_7 : decode cX9_restore 7 = .ok (.iconst 0, 1) := by decide +kernel
theorem dX9_restore_8 : decode cX9_restore 8 = .ok (.ireturn, 1) := by decide +kernel
theorem dX9_restore_9 : decode cX9_restore 9 = .ok (.aload_n 0, 1) := by decide +kernel
theorem dX9_restore_10 : decode cX9_restore 10 = .ok (.getfield 49, 3) := by decide +kernel
theorem dX9_restore_13 : decode cX9_restore 13 = .ok (.aload_n 0, 1) := by decide +kernel
theorem dX9_restore_14 : decode cX9_restore 14 = .ok (.getfield 53, 3) := by decide +kernel
theorem dX9_restore_17 : decode cX9_restore 17 = .ok (.invokevirtual 313, 3) := by decide +kernel
theorem dX9_restore_20 : decode cX9_restore 20 = .ok (.aload_n 0, 1) := by decide +kernel
theorem dX9_restore_21 : decode cX9_restore 21 = .ok (.getfield 61, 3) := by decide +kernel
theorem dX9_restore_24 : decode cX9_restore 24 = .ok (.aload_n 0, 1) := by decide +kernel
theorem dX9_restore_25 : decode cX9_restore 25 = .ok (.getfield 65, 3) := by decide +kernel
theorem dX9_restore_28 : decode cX9_restore 28 = .ok (.invokevirtual 316, 3) := by decide +kernel
theorem dX9_restore_31 : decode cX9_restore 31 = .ok (.aload_n 0, 1) := by decide +kernel
theorem dX9_restore_32 : decode cX9_restore 32 = .ok (.getfield 73, 3) := by decide +kernel
theorem dX9_restore_35 : decode cX9_restore 35 = .ok (.invokevirtual 122, 3) := by decide +kernel
theorem dX9_restore_38 : decode cX9_restore 38 = .ok (.iconst 1, 1) := by decide +kernel
theorem dX9_restore_39 : decode cX9_restore 39 = .ok (.ireturn, 1) := by decide +kernel
theorem dX1_add_0 : decode cX1_add 0 = .ok (.aload_n 0, 1) := by decide +kernel
theorem dX1_add_1 : decode cX1_add 1 = .ok (.getfield 28, 3) := by decide +kernel
theorem dX1_add_4 : decode cX1_add 4 = .ok (.bipush 20, 2) := by decide +kernel
theorem dX1_add_6 : decode cX1_add 6 = .ok (.if_icmp .lt 5, 3) := by decide +kernel
theorem dX1_add_9 : decode cX1_add 9 = .ok (.iconst 0, 1) := by decide +kernel
theorem dX1_add_10 : decode cX1_add 10 = .ok (.ireturn, 1) := by decide +kernel
theorem dX1_add_11 : decode cX1_add 11 = .ok (.aload_n 0, 1) := by decide +kernel
theorem dX1_add_12 : decode cX1_add 12 = .ok (.getfield 9, 3) := by decide +kernel
theorem dX1_add_15 : decode cX1_add 15 = .ok (.aload_n 0, 1) := by decide +kernel
theorem dX1_add_16 : decode cX1_add 16 = .ok (.getfield 28, 3) := by decide +kernel
theorem dX1_add_19 : decode cX1_add 19 = .ok (.iload_n 1, 1) := by decide +kernel
theorem dX1_add_20 : decode cX1_add 20 = .ok (.iastore, 1) := by decide +kernel
theorem dX1_add_21 : decode cX1_add 21 = .ok (.aload_n 0, 1) := by decide +kernel
theorem dX1_add_22 : decode cX1_add 22 = .ok (.getfield 15, 3) := by decide +kernel
theorem dX1_add_25 : decode cX1_add 25 = .ok (.aload_n 0, 1) := by decide +kernel
theorem dX1_add_26 : decode cX1_add 26 = .ok (.getfield 28, 3) := by decide +kernel
theorem dX1_add_29 : decode cX1_add 29 = .ok (.iload_n 2, 1) := by decide +kernel
theorem dX1_add_30 : decode cX1_add 30 = .ok (.iastore, 1) := by decide +kernel
theorem dX1_add_31 : decode cX1_add 31 = .ok (.aload_n 0, 1) := by decide +kernel
theorem dX1_add_32 : decode cX1_add 32 = .ok (.getfield 18, 3) := by decide +kernel
theorem dX1_add_35 : decode cX1_add 35 = .ok (.aload_n 0, 1) := by decide +kernel
theorem dX1_add_36 : decode cX1_add 36 = .ok (.getfield 28, 3) := by decide +kernel
theorem dX1_add_39 : decode cX1_add 39 = .ok (.iload_n 3, 1) := by decide +kernel
theorem dX1_add_40 : decode cX1_add 40 = .ok (.iastore, 1) := by decide +kernel
theorem dX1_add_41 : decode cX1_add 41 = .ok (.aload_n 0, 1) := by decide +kernel
theorem dX1_add_42 : decode cX1_add 42 = .ok (.getfield 21, 3) := by decide +kernel
theorem dX1_add_45 : decode cX1_add 45 = .ok (.aload_n 0, 1) := by decide +kernel
theorem dX1_add_46 : decode cX1_add 46 = .ok (.getfield 28, 3) := by decide +kernel
theorem dX1_add_49 : decode cX1_add 49 = .ok (.iload 4, 2) := by decide +kernel
theorem dX1_add_51 : decode cX1_add 51 = .ok (.iastore, 1) := by decide +kernel
theorem dX1_add_52 : decode cX1_add 52 = .ok (.aload_n 0, 1) := by decide +kernel
theorem dX1_add_53 : decode cX1_add 53 = .ok (.getfield 24, 3) := by decide +kernel
theorem dX1_add_56 : decode cX1_add 56 = .ok (.aload_n 0, 1) := by decide +kernel
theorem dX1_add_57 : decode cX1_add 57 = .ok (.getfield 28, 3) := by decide +kernel
theorem dX1_add_60 : decode cX1_add 60 = .ok (.iload 5, 2) := by decide +kernel
theorem dX1_add_62 : decode cX1_add 62 = .ok (.bastore, 1) := by decide +kernel
theorem dX1_add_63 : decode cX1_add 63 = .ok (.aload_n 0, 1) := by decide +kernel
theorem dX1_add_64 : decode cX1_add 64 = .ok (.dup, 1) := by decide +kernel
theorem dX1_add_65 : decode cX1_add 65 = .ok (.getfield 28, 3) := by decide +kernel
theorem dX1_add_68 : decode cX1_add 68 = .ok (.iconst 1, 1) := by decide +kernel
theorem dX1_add_69 : decode cX1_add 69 = .ok (.iadd, 1) := by decide +kernel
theorem dX1_add_70 : decode cX1_add 70 = .ok (.putfield 28, 3) := by decide +kernel
theorem dX1_add_73 : decode cX1_add 73 = .ok (.iconst 1, 1) := by decide +kernel
theorem dX1_add_74 : decode cX1_add 74 = .ok (.ireturn, 1) := by decide +kernel
theorem dX9_say_0 : decode cX9_say 0 = .ok (.aload_n 0, 1) := by decide +kernel
theorem dX9_say_1 : decode cX9_say 1 = .ok (.iload_n 1, 1) := by decide +kernel
theorem dX9_say_2 : decode cX9_say 2 = .ok (.invokevirtual 170, 3) := by decide +kernel
theorem dX9_say_5 : decode cX9_say 5 = .ok (.aload_n 0, 1) := by decide +kernel
theorem dX9_say_6 : decode cX9_say 6 = .ok (.iload_n 2, 1) := by decide +kernel
theorem dX9_say_7 : decode cX9_say 7 = .ok (.invokevirtual 173, 3) := by decide +kernel
theorem dX9_say_10 : decode cX9_say 10 = .ok (.aload_n 0, 1) := by decide +kernel
theorem dX9_say_11 : decode cX9_say 11 = .ok (.iload_n 3, 1) := by decide +kernel
theorem dX9_say_12 : decode cX9_say 12 = .ok (.invokevirtual 190, 3) := by decide +kernel
theorem dX9_say_15 : decode cX9_say 15 = .ok (.iload 4, 2) := by decide +kernel
theorem dX9_say_17 : decode cX9_say 17 = .ok (.ifCond .lt 26, 3) := by decide +kernel
theorem dX9_say_20 : decode cX9_say 20 = .ok (.iload 4, 2) := by decide +kernel
theorem dX9_say_22 : decode cX9_say 22 = .ok (.iconst 5, 1) := by decide +kernel
theorem dX9_say_23 : decode cX9_say 23 = .ok (.if_icmp .ge 20, 3) := by decide +kernel
theorem dX9_say_26 : decode cX9_say 26 = .ok (.aload_n 0, 1) := by decide +kernel
theorem dX9_say_27 : decode cX9_say 27 = .ok (.getfield 49, 3) := by decide +kernel
theorem dX9_say_30 : decode cX9_say 30 = .ok (.iload_n 1, 1) := by decide +kernel
theorem dX9_say_31 : decode cX9_say 31 = .ok (.iload_n 2, 1) := by decide +kernel
theorem dX9_say_32 : decode cX9_say 32 = .ok (.iload_n 3, 1) := by decide +kernel
theorem dX9_say_33 : decode cX9_say 33 = .ok (.iload 4, 2) := by decide +kernel
theorem dX9_say_35 : decode cX9_say 35 = .ok (.iload 5, 2) := by decide +kernel
theorem dX9_say_37 : decode cX9_say 37 = .ok (.invokevirtual 233, 3) := by decide +kernel
theorem dX9_say_40 : decode cX9_say 40 = .ok (.ifCond .ne 15, 3) := by decide +kernel
theorem dX9_say_43 : decode cX9_say 43 = .ok (.aload_n 0, 1) := by decide +kernel
theorem dX9_say_44 : decode cX9_say 44 = .ok (.dup, 1) := by decide +kernel
theorem dX9_say_45 : decode cX9_say 45 = .ok (.getfield 152, 3) := by decide +kernel
theorem dX9_say_48 : decode cX9_say 48 = .ok (.iconst 1, 1) := by decide +kernel
theorem dX9_say_49 : decode cX9_say 49 = .ok (.iadd, 1) := by decide +kernel
theorem dX9_say_50 : decode cX9_say 50 = .ok (.putfield 152, 3) := by decide +kernel
theorem dX9_say_53 : decode cX9_say 53 = .ok (.iconst (-1), 1) := by decide +kernel
theorem dX9_say_54 : decode cX9_say 54 = .ok (.ireturn, 1) := by decide +kernel
theorem dX9_say_55 : decode cX9_say 55 = .ok (.aload_n 0, 1) := by decide +kernel
theorem dX9_say_56 : decode cX9_say 56 = .ok (.getfield 73, 3) := by decide +kernel
theorem dX9_say_59 : decode cX9_say 59 = .ok (.invokevirtual 122, 3) := by decide +kernel
theorem dX9_say_62 : decode cX9_say 62 = .ok (.aload_n 0, 1) := by decide +kernel
theorem dX9_say_63 : decode cX9_say 63 = .ok (.getfield 49, 3) := by decide +kernel
theorem dX9_say_66 : decode cX9_say 66 = .ok (.getfield 111, 3) := by decide +kernel
theorem dX9_say_69 : decode cX9_say 69 = .ok (.ireturn, 1) := by decide +kernel
theorem dX0_chainOf_0 : decode cX0_chainOf 0 = .ok (.aload_n 0, 1) := by decide +kernel
theorem dX0_chainOf_1 : decode cX0_chainOf 1 = .ok (.invokevirtual 70, 3) := by decide +kernel
theorem dX0_chainOf_4 : decode cX0_chainOf 4 = .ok (.aload_n 0, 1) := by decide +kernel
theorem dX0_chainOf_5 : decode cX0_chainOf 5 = .ok (.getfield 30, 3) := by decide +kernel
theorem dX0_chainOf_8 : decode cX0_chainOf 8 = .ok (.iload_n 1, 1) := by decide +kernel
theorem dX0_chainOf_9 : decode cX0_chainOf 9 = .ok (.iaload, 1) := by decide +kernel
theorem dX0_chainOf_10 : decode cX0_chainOf 10 = .ok (.ireturn, 1) := by decide +kernel
theorem dX0_eyesOfAll_0 : decode cX0_eyesOfAll 0 = .ok (.iconst 0, 1) := by decide +kernel
theorem dX0_eyesOfAll_1 : decode cX0_eyesOfAll 1 = .ok (.istore_n 2, 1) := by decide +kernel
theorem dX0_eyesOfAll_2 : decode cX0_eyesOfAll 2 = .ok (.iconst 0, 1) := by decide +kernel
theorem dX0_eyesOfAll_3 : decode cX0_eyesOfAll 3 = .ok (.istore_n 3, 1) := by decide +kernel
theorem dX0_eyesOfAll_4 : decode cX0_eyesOfAll 4 = .ok (.iload_n 3, 1) := by decide +kernel
theorem dX0_eyesOfAll_5 : decode cX0_eyesOfAll 5 = .ok (.aload_n 0, 1) := by decide +kernel
theorem dX0_eyesOfAll_6 : decode cX0_eyesOfAll 6 = .ok (.getfield 46, 3) := by decide +kernel
theorem dX0_eyesOfAll_9 : decode cX0_eyesOfAll 9 = .ok (.getfield 89, 3) := by decide +kernel
theorem dX0_eyesOfAll_12 : decode cX0_eyesOfAll 12 = .ok (.if_icmp .ge 26, 3) := by decide +kernel
theorem dX0_eyesOfAll_15 : decode cX0_eyesOfAll 15 = .ok (.iload_n 1, 1) := by decide +kernel
theorem dX0_eyesOfAll_16 : decode cX0_eyesOfAll 16 = .ok (.iload_n 3, 1) := by decide +kernel
theorem dX0_eyesOfAll_17 : decode cX0_eyesOfAll 17 = .ok (.invokestatic 139, 3) := by decide +kernel
theorem dX0_eyesOfAll_20 : decode cX0_eyesOfAll 20 = .ok (.ifCond .eq 12, 3) := by decide +kernel
theorem dX0_eyesOfAll_23 : decode cX0_eyesOfAll 23 = .ok (.iload_n 2, 1) := by decide +kernel
theorem dX0_eyesOfAll_24 : decode cX0_eyesOfAll 24 = .ok (.aload_n 0, 1) := by decide +kernel
theorem dX0_eyesOfAll_25 : decode cX0_eyesOfAll 25 = .ok (.getfield 36, 3) := by decide +kernel
theorem dX0_eyesOfAll_28 : decode cX0_eyesOfAll 28 = .ok (.iload_n 3, 1) := by decide +kernel
theorem dX0_eyesOfAll_29 : decode cX0_eyesOfAll 29 = .ok (.iaload, 1) := by decide +kernel
theorem dX0_eyesOfAll_30 : decode cX0_eyesOfAll 30 = .ok (.ior, 1) := by decide +kernel
theorem dX0_eyesOfAll_31 : decode cX0_eyesOfAll 31 = .ok (.istore_n 2, 1) := by decide +kernel
theorem dX0_eyesOfAll_32 : decode cX0_eyesOfAll 32 = .ok (.iinc 3 1, 3) := by decide +kernel
theorem dX0_eyesOfAll_35 : decode cX0_eyesOfAll 35 = .ok (.goto (-31), 3) := by decide +kernel
theorem dX0_eyesOfAll_38 : decode cX0_eyesOfAll 38 = .ok (.iload_n 2, 1) := by decide +kernel
theorem dX0_eyesOfAll_39 : decode cX0_eyesOfAll 39 = .ok (.ireturn, 1) := by decide +kernel
theorem dX0_tailEyes_0 : decode cX0_tailEyes 0 = .ok (.iconst 0, 1) := by decide +kernel
theorem dX0_tailEyes_1 : decode cX0_tailEyes 1 = .ok (.istore_n 3, 1) := by decide +kernel
theorem dX0_tailEyes_2 : decode cX0_tailEyes 2 = .ok (.iconst 0, 1) := by decide +kernel
theorem dX0_tailEyes_3 : decode cX0_tailEyes 3 = .ok (.istore 4, 2) := by decide +kernel
theorem dX0_tailEyes_5 : decode cX0_tailEyes 5 = .ok (.iload 4, 2) := by decide +kernel
theorem dX0_tailEyes_7 : decode cX0_tailEyes 7 = .ok (.aload_n 0, 1) := by decide +kernel
theorem dX0_tailEyes_8 : decode cX0_tailEyes 8 = .ok (.getfield 42, 3) := by decide +kernel
theorem dX0_tailEyes_11 : decode cX0_tailEyes 11 = .ok (.getfield 158, 3) := by decide +kernel
theorem dX0_tailEyes_14 : decode cX0_tailEyes 14 = .ok (.if_icmp .ge 33, 3) := by decide +kernel
theorem dX0_tailEyes_17 : decode cX0_tailEyes 17 = .ok (.iload_n 2, 1) := by decide +kernel
theorem dX0_tailEyes_18 : decode cX0_tailEyes 18 = .ok (.iload 4, 2) := by decide +kernel
theorem dX0_tailEyes_20 : decode cX0_tailEyes 20 = .ok (.invokestatic 139, 3) := by decide +kernel
theorem dX0_tailEyes_23 : decode cX0_tailEyes 23 = .ok (.ifCond .eq 18, 3) := by decide +kernel
theorem dX0_tailEyes_26 : decode cX0_tailEyes 26 = .ok (.iload_n 3, 1) := by decide +kernel
theorem dX0_tailEyes_27 : decode cX0_tailEyes 27 = .ok (.aload_n 0, 1) := by decide +kernel
theorem dX0_tailEyes_28 : decode cX0_tailEyes 28 = .ok (.getfield 39, 3) := by decide +kernel
theorem dX0_tailEyes_31 : decode cX0_tailEyes 31 = .ok (.iload_n 1, 1) := by decide +kernel
theorem dX0_tailEyes_32 : decode cX0_tailEyes 32 = .ok (.bipush 8, 2) := by decide +kernel
theorem dX0_tailEyes_34 : decode cX0_tailEyes 34 = .ok (.imul, 1) := by decide +kernel
theorem dX0_tailEyes_35 : decode cX0_tailEyes 35 = .ok (.iload 4, 2) := by decide +kernel
theorem dX0_tailEyes_37 : decode cX0_tailEyes 37 = .ok (.iadd, 1) := by decide +kernel
theorem dX0_tailEyes_38 : decode cX0_tailEyes 38 = .ok (.iaload, 1) := by decide +kernel
theorem dX0_tailEyes_39 : decode cX0_tailEyes 39 = .ok (.ior, 1) := by decide +kernel
theorem dX0_tailEyes_40 : decode cX0_tailEyes 40 = .ok (.istore_n 3, 1) := by decide +kernel
theorem dX0_tailEyes_41 : decode cX0_tailEyes 41 = .ok (.iinc 4 1, 3) := by decide +kernel
theorem dX0_tailEyes_44 : decode cX0_tailEyes 44 = .ok (.goto (-39), 3) := by decide +kernel
theorem dX0_tailEyes_47 : decode cX0_tailEyes 47 = .ok (.iload_n 3, 1) := by decide +kernel
theorem dX0_tailEyes_48 : decode cX0_tailEyes 48 = .ok (.ireturn, 1) := by decide +kernel
theorem dX0_ruleEyes_0 : decode cX0_ruleEyes 0 = .ok (.iconst 0, 1) := by decide +kernel
theorem dX0_ruleEyes_1 : decode cX0_ruleEyes 1 = .ok (.istore_n 3, 1) := by decide +kernel
theorem dX0_ruleEyes_2 : decode cX0_ruleEyes 2 = .ok (.iconst 0, 1) := by decide +kernel
theorem dX0_ruleEyes_3 : decode cX0_ruleEyes 3 = .ok (.istore 4, 2) := by decide +kernel
theorem dX0_ruleEyes_5 : decode cX0_ruleEyes 5 = .ok (.iload 4, 2) := by decide +kernel
theorem dX0_ruleEyes_7 : decode cX0_ruleEyes 7 = .ok (.aload_n 0, 1) := by decide +kernel
theorem dX0_ruleEyes_8 : decode cX0_ruleEyes 8 = .ok (.getfield 42, 3) := by decide +kernel
theorem dX0_ruleEyes_11 : decode cX0_ruleEyes 11 = .ok (.getfield 177, 3) := by decide +kernel
theorem dX0_ruleEyes_14 : decode cX0_ruleEyes 14 = .ok (.if_icmp .ge 46, 3) := by decide +kernel
theorem dX0_ruleEyes_17 : decode cX0_ruleEyes 17 = .ok (.aload_n 0, 1) := by decide +kernel
theorem dX0_ruleEyes_18 : decode cX0_ruleEyes 18 = .ok (.getfield 42, 3) := by decide +kernel
theorem dX0_ruleEyes_21 : decode cX0_ruleEyes 21 = .ok (.iload 4, 2) := by decide +kernel
theorem dX0_ruleEyes_23 : decode cX0_ruleEyes 23 = .ok (.iload_n 2, 1) := by decide +kernel
theorem dX0_ruleEyes_24 : decode cX0_ruleEyes 24 = .ok (.aload_n 0, 1) := by decide +kernel
theorem dX0_ruleEyes_25 : decode cX0_ruleEyes 25 = .ok (.getfield 27, 3) := by decide +kernel
theorem dX0_ruleEyes_28 : decode cX0_ruleEyes 28 = .ok (.iload_n 1, 1) := by decide +kernel
theorem dX0_ruleEyes_29 : decode cX0_ruleEyes 29 = .ok (.iaload, 1) := by decide +kernel
theorem dX0_ruleEyes_30 : decode cX0_ruleEyes 30 = .ok (.invokevirtual 180, 3) := by decide +kernel
theorem dX0_ruleEyes_33 : decode cX0_ruleEyes 33 = .ok (.ifCond .eq 21, 3) := by decide +kernel
theorem dX0_ruleEyes_36 : decode cX0_ruleEyes 36 = .ok (.iload_n 3, 1) := by decide +kernel
theorem dX0_ruleEyes_37 : decode cX0_ruleEyes 37 = .ok (.aload_n 0, 1) := by decide +kernel
theorem dX0_ruleEyes_38 : decode cX0_ruleEyes 38 = .ok (.iload_n 1, 1) := by decide +kernel
theorem dX0_ruleEyes_39 : decode cX0_ruleEyes 39 = .ok (.aload_n 0, 1) := by decide +kernel
theorem dX0_ruleEyes_40 : decode cX0_ruleEyes 40 = .ok (.getfield 42, 3) := by decide +kernel
theorem dX0_ruleEyes_43 : decode cX0_ruleEyes 43 = .ok (.getfield 184, 3) := by decide +kernel
theorem dX0_ruleEyes_46 : decode cX0_ruleEyes 46 = .ok (.iload 4, 2) := by decide +kernel
theorem dX0_ruleEyes_48 : decode cX0_ruleEyes 48 = .ok (.iaload, 1) := by decide +kernel
theorem dX0_ruleEyes_49 : decode cX0_ruleEyes 49 = .ok (.invokevirtual 187, 3) := by decide +kernel
theorem dX0_ruleEyes_52 : decode cX0_ruleEyes 52 = .ok (.ior, 1) := by decide +kernel
theorem dX0_ruleEyes_53 : decode cX0_ruleEyes 53 = .ok (.istore_n 3, 1) := by decide +kernel
theorem dX0_ruleEyes_54 : decode cX0_ruleEyes 54 = .ok (.iinc 4 1, 3) := by decide +kernel
theorem dX0_ruleEyes_57 : decode cX0_ruleEyes 57 = .ok (.goto (-52), 3) := by decide +kernel
theorem dX0_ruleEyes_60 : decode cX0_ruleEyes 60 = .ok (.iload_n 3, 1) := by decide +kernel
theorem dX0_ruleEyes_61 : decode cX0_ruleEyes 61 = .ok (.ireturn, 1) := by decide +kernel
theorem dX0_eyesNow_0 : decode cX0_eyesNow 0 = .ok (.aload_n 0, 1) := by decide +kernel
theorem dX0_eyesNow_1 : decode cX0_eyesNow 1 = .ok (.getfield 46, 3) := by decide +kernel
theorem dX0_eyesNow_4 : decode cX0_eyesNow 4 = .ok (.getfield 121, 3) := by decide +kernel
theorem dX0_eyesNow_7 : decode cX0_eyesNow 7 = .ok (.iload_n 1, 1) := by decide +kernel
theorem dX0_eyesNow_8 : decode cX0_eyesNow 8 = .ok (.iaload, 1) := by decide +kernel
theorem dX0_eyesNow_9 : decode cX0_eyesNow 9 = .ok (.tableswitch 74 0 3 #[31, 31, 43, 59], 31) := by decide +kernel
theorem dX0_eyesNow_40 : decode cX0_eyesNow 40 = .ok (.iconst 1, 1) := by decide +kernel
theorem dX0_eyesNow_41 : decode cX0_eyesNow 41 = .ok (.aload_n 0, 1) := by decide +kernel
theorem dX0_eyesNow_42 : decode cX0_eyesNow 42 = .ok (.getfield 46, 3) := by decide +kernel
theorem dX0_eyesNow_45 : decode cX0_eyesNow 45 = .ok (.getfield 92, 3) := by decide +kernel
theorem dX0_eyesNow_48 : decode cX0_eyesNow 48 = .ok (.iload_n 1, 1) := by decide +kernel
theorem dX0_eyesNow_49 : decode cX0_eyesNow 49 = .ok (.iaload, 1) := by decide +kernel
theorem dX0_eyesNow_50 : decode cX0_eyesNow 50 = .ok (.ishl, 1) := by decide +kernel
theorem dX0_eyesNow_51 : decode cX0_eyesNow 51 = .ok (.ireturn, 1) := by decide +kernel
theorem dX0_eyesNow_52 : decode cX0_eyesNow 52 = .ok (.aload_n 0, 1) := by decide +kernel
theorem dX0_eyesNow_53 : decode cX0_eyesNow 53 = .ok (.aload_n 0, 1) := by decide +kernel
theorem dX0_eyesNow_54 : decode cX0_eyesNow 54 = .ok (.getfield 24, 3) := by decide +kernel
theorem dX0_eyesNow_57 : decode cX0_eyesNow 57 = .ok (.iload_n 1, 1) := by decide +kernel
theorem dX0_eyesNow_58 : decode cX0_eyesNow 58 = .ok (.iaload, 1) := by decide +kernel
theorem dX0_eyesNow_59 : decode cX0_eyesNow 59 = .ok (.aload_n 0, 1) := by decide +kernel
theorem dX0_eyesNow_60 : decode cX0_eyesNow 60 = .ok (.getfield 128, 3) := by decide +kernel
theorem dX0_eyesNow_63 : decode cX0_eyesNow 63 = .ok (.iand, 1) := by decide +kernel
theorem dX0_eyesNow_64 : decode cX0_eyesNow 64 = .ok (.invokevirtual 171, 3) := by decide +kernel
theorem dX0_eyesNow_67 : decode cX0_eyesNow 67 = .ok (.ireturn, 1) := by decide +kernel
theorem dX0_eyesNow_68 : decode cX0_eyesNow 68 = .ok (.aload_n 0, 1) := by decide +kernel
theorem dX0_eyesNow_69 : decode cX0_eyesNow 69 = .ok (.iload_n 1, 1) := by decide +kernel
theorem dX0_eyesNow_70 : decode cX0_eyesNow 70 = .ok (.aload_n 0, 1) := by decide +kernel
theorem dX0_eyesNow_71 : decode cX0_eyesNow 71 = .ok (.getfield 46, 3) := by decide +kernel
theorem dX0_eyesNow_74 : decode cX0_eyesNow 74 = .ok (.getfield 107, 3) := by decide +kernel
theorem dX0_eyesNow_77 : decode cX0_eyesNow 77 = .ok (.iload_n 1, 1) := by decide +kernel
theorem dX0_eyesNow_78 : decode cX0_eyesNow 78 = .ok (.iaload, 1) := by decide +kernel
theorem dX0_eyesNow_79 : decode cX0_eyesNow 79 = .ok (.invokevirtual 174, 3) := by decide +kernel
theorem dX0_eyesNow_82 : decode cX0_eyesNow 82 = .ok (.ireturn, 1) := by decide +kernel
theorem dX0_eyesNow_83 : decode cX0_eyesNow 83 = .ok (.iconst 0, 1) := by decide +kernel
theorem dX0_eyesNow_84 : decode cX0_eyesNow 84 = .ok (.ireturn, 1) := by decide +kernel
theorem dX0_openThingEyes_0 : decode cX0_openThingEyes 0 = .ok (.iconst 0, 1) := by decide +kernel
theorem dX0_openThingEyes_1 : decode cX0_openThingEyes 1 = .ok (.istore_n 2, 1) := by decide +kernel
theorem dX0_openThingEyes_2 : decode cX0_openThingEyes 2 = .ok (.iconst 0, 1) := by decide +kernel
theorem dX0_openThingEyes_3 : decode cX0_openThingEyes 3 = .ok (.istore_n 3, 1) := by decide +kernel
theorem dX0_openThingEyes_4 : decode cX0_openThingEyes 4 = .ok (.iload_n 3, 1) := by decide +kernel
theorem dX0_openThingEyes_5 : decode cX0_openThingEyes 5 = .ok (.aload_n 0, 1) := by decide +kernel
theorem dX0_openThingEyes_6 : decode cX0_openThingEyes 6 = .ok (.getfield 42, 3) := by decide +kernel
theorem dX0_openThingEyes_9 : decode cX0_openThingEyes 9 = .ok (.getfield 158, 3) := by decide +kernel
theorem dX0_openThingEyes_12 : decode cX0_openThingEyes 12 = .ok (.if_icmp .ge 120, 3) := by decide +kernel
theorem dX0_openThingEyes_15 : decode cX0_openThingEyes 15 = .ok (.iload_n 1, 1) := by decide +kernel
theorem dX0_openThingEyes_16 : decode cX0_openThingEyes 16 = .ok (.bipush 8, 2) := by decide +kernel
theorem dX0_openThingEyes_18 : decode cX0_openThingEyes 18 = .ok (.imul, 1) := by decide +kernel
theorem dX0_openThingEyes_19 : decode cX0_openThingEyes 19 = .ok (.iload_n 3, 1) := by decide +kernel
theorem dX0_openThingEyes_20 : decode cX0_openThingEyes 20 = .ok (.iadd, 1) := by decide +kernel
theorem dX0_openThingEyes_21 : decode cX0_openThingEyes 21 = .ok (.istore 4, 2) := by decide +kernel
theorem dX0_openThingEyes_23 : decode cX0_openThingEyes 23 = .ok (.aload_n 0, 1) := by decide +kernel
theorem dX0_openThingEyes_24 : decode cX0_openThingEyes 24 = .ok (.getfield 39, 3) := by decide +kernel
theorem dX0_openThingEyes_27 : decode cX0_openThingEyes 27 = .ok (.iload 4, 2) := by decide +kernel
theorem dX0_openThingEyes_29 : decode cX0_openThingEyes 29 = .ok (.iaload, 1) := by decide +kernel
theorem dX0_openThingEyes_30 : decode cX0_openThingEyes 30 = .ok (.aload_n 0, 1) := by decide +kernel
theorem dX0_openThingEyes_31 : decode cX0_openThingEyes 31 = .ok (.iload_n 1, 1) := by decide +kernel
theorem dX0_openThingEyes_32 : decode cX0_openThingEyes 32 = .ok (.iload_n 3, 1) := by decide +kernel
theorem dX0_openThingEyes_33 : decode cX0_openThingEyes 33 = .ok (.invokevirtual 174, 3) := by decide +kernel
theorem dX0_openThingEyes_36 : decode cX0_openThingEyes 36 = .ok (.ior, 1) := by decide +kernel
theorem dX0_openThingEyes_37 : decode cX0_openThingEyes 37 = .ok (.aload_n 0, 1) := by decide +kernel
theorem dX0_openThingEyes_38 : decode cX0_openThingEyes 38 = .ok (.aload_n 0, 1) := by decide +kernel
theorem dX0_openThingEyes_39 : decode cX0_openThingEyes 39 = .ok (.getfield 11, 3) := by decide +kernel
theorem dX0_openThingEyes_42 : decode cX0_openThingEyes 42 = .ok (.iload_n 1, 1) := by decide +kernel
theorem dX0_openThingEyes_43 : decode cX0_openThingEyes 43 = .ok (.iaload, 1) := by decide +kernel
theorem dX0_openThingEyes_44 : decode cX0_openThingEyes 44 = .ok (.aload_n 0, 1) := by decide +kernel
theorem dX0_openThingEyes_45 : decode cX0_openThingEyes 45 = .ok (.getfield 21, 3) := by decide +kernel
theorem dX0_openThingEyes_48 : decode cX0_openThingEyes 48 = .ok (.iload_n 3, 1) := by decide +kernel
theorem dX0_openThingEyes_49 : decode cX0_openThingEyes 49 = .ok (.iconst 0, 1) := by decide +kernel
theorem dX0_openThingEyes_50 : decode cX0_openThingEyes 50 = .ok (.invokestatic 117, 3) := by decide +kernel
theorem dX0_openThingEyes_53 : decode cX0_openThingEyes 53 = .ok (.iaload, 1) := by decide +kernel
theorem dX0_openThingEyes_54 : decode cX0_openThingEyes 54 = .ok (.iand, 1) := by decide +kernel
theorem dX0_openThingEyes_55 : decode cX0_openThingEyes 55 = .ok (.aload_n 0, 1) := by decide +kernel
theorem dX0_openThingEyes_56 : decode cX0_openThingEyes 56 = .ok (.getfield 128, 3) := by decide +kernel
theorem dX0_openThingEyes_59 : decode cX0_openThingEyes 59 = .ok (.iand, 1) := by decide +kernel
theorem dX0_openThingEyes_60 : decode cX0_openThingEyes 60 = .ok (.invokevirtual 171, 3) := by decide +kernel
theorem dX0_openThingEyes_63 : decode cX0_openThingEyes 63 = .ok (.ior, 1) := by decide +kernel
theorem dX0_openThingEyes_64 : decode cX0_openThingEyes 64 = .ok (.istore 5, 2) := by decide +kernel
theorem dX0_openThingEyes_66 : decode cX0_openThingEyes 66 = .ok (.aload_n 0, 1) := by decide +kernel
theorem dX0_openThingEyes_67 : decode cX0_openThingEyes 67 = .ok (.getfield 15, 3) := by decide +kernel
theorem dX0_openThingEyes_70 : decode cX0_openThingEyes 70 = .ok (.iload_n 1, 1) := by decide +kernel
theorem dX0_openThingEyes_71 : decode cX0_openThingEyes 71 = .ok (.iaload, 1) := by decide +kernel
theorem dX0_openThingEyes_72 : decode cX0_openThingEyes 72 = .ok (.iload_n 3, 1) := by decide +kernel
theorem dX0_openThingEyes_73 : decode cX0_openThingEyes 73 = .ok (.invokestatic 139, 3) := by decide +kernel
theorem dX0_openThingEyes_76 : decode cX0_openThingEyes 76 = .ok (.ifCond .eq 19, 3) := by decide +kernel
theorem dX0_openThingEyes_79 : decode cX0_openThingEyes 79 = .ok (.iload 5, 2) := by decide +kernel
theorem dX0_openThingEyes_81 : decode cX0_openThingEyes 81 = .ok (.iconst 1, 1) := by decide +kernel
theorem dX0_openThingEyes_82 : decode cX0_openThingEyes 82 = .ok (.aload_n 0, 1) := by decide +kernel
theorem dX0_openThingEyes_83 : decode cX0_openThingEyes 83 = .ok (.getfield 46, 3) := by decide +kernel
theorem dX0_openThingEyes_86 : decode cX0_openThingEyes 86 = .ok (.getfield 92, 3) := by decide +kernel
theorem dX0_openThingEyes_89 : decode cX0_openThingEyes 89 = .ok (.iload_n 1, 1) := by decide +kernel
theorem dX0_openThingEyes_90 : decode cX0_openThingEyes 90 = .ok (.iaload, 1) := by decide +kernel
theorem dX0_openThingEyes_91 : decode cX0_openThingEyes 91 = .ok (.ishl, 1) := by decide +kernel
theorem dX0_openThingEyes_92 : decode cX0_openThingEyes 92 = .ok (.ior, 1) := by decide +kernel
theorem dX0_openThingEyes_93 : decode cX0_openThingEyes 93 = .ok (.istore 5, 2) := by decide +kernel
theorem dX0_openThingEyes_95 : decode cX0_openThingEyes 95 = .ok (.iload_n 2, 1) := by decide +kernel
theorem dX0_openThingEyes_96 : decode cX0_openThingEyes 96 = .ok (.ifCond .ne 15, 3) := by decide +kernel
theorem dX0_openThingEyes_99 : decode cX0_openThingEyes 99 = .ok (.iload 5, 2) := by decide +kernel
theorem dX0_openThingEyes_101 : decode cX0_openThingEyes 101 = .ok (.aload_n 0, 1) := by decide +kernel
theorem dX0_openThingEyes_102 : decode cX0_openThingEyes 102 = .ok (.getfield 39, 3) := by decide +kernel
theorem dX0_openThingEyes_105 : decode cX0_openThingEyes 105 = .ok (.iload 4, 2) := by decide +kernel
theorem dX0_openThingEyes_107 : decode cX0_openThingEyes 107 = .ok (.iaload, 1) := by decide +kernel
theorem dX0_openThingEyes_108 : decode cX0_openThingEyes 108 = .ok (.if_icmp .eq 7, 3) := by decide +kernel
theorem dX0_openThingEyes_111 : decode cX0_openThingEyes 111 = .ok (.iconst 1, 1) := by decide +kernel
theorem dX0_openThingEyes_112 : decode cX0_openThingEyes 112 = .ok (.goto 4, 3) := by decide +kernel
theorem dX0_openThingEyes_115 : decode cX0_openThingEyes 115 = .ok (.iconst 0, 1) := by decide +kernel
theorem dX0_openThingEyes_116 : decode cX0_openThingEyes 116 = .ok (.istore_n 2, 1) := by decide +kernel
theorem dX0_openThingEyes_117 : decode cX0_openThingEyes 117 = .ok (.aload_n 0, 1) := by decide +kernel
theorem dX0_openThingEyes_118 : decode cX0_openThingEyes 118 = .ok (.getfield 39, 3) := by decide +kernel
theorem dX0_openThingEyes_121 : decode cX0_openThingEyes 121 = .ok (.iload 4, 2) := by decide +kernel
theorem dX0_openThingEyes_123 : decode cX0_openThingEyes 123 = .ok (.iload 5, 2) := by decide +kernel
theorem dX0_openThingEyes_125 : decode cX0_openThingEyes 125 = .ok (.iastore, 1) := by decide +kernel
theorem dX0_openThingEyes_126 : decode cX0_openThingEyes 126 = .ok (.iinc 3 1, 3) := by decide +kernel
theorem dX0_openThingEyes_129 : decode cX0_openThingEyes 129 = .ok (.goto (-125), 3) := by decide +kernel
theorem dX0_openThingEyes_132 : decode cX0_openThingEyes 132 = .ok (.iload_n 2, 1) := by decide +kernel
theorem dX0_openThingEyes_133 : decode cX0_openThingEyes 133 = .ok (.ireturn, 1) := by decide +kernel

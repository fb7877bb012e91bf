theorem dX10_readsThing_0 : decode cX10_readsThing 0 = .ok (.aload_n 0, 1) := by decide +kernel
theorem dX10_readsThing_1 : decode cX10_readsThing 1 = .ok (.getfield 207, 3) := by decide +kernel
theorem dX10_readsThing_4 : decode cX10_readsThing 4 = .ok (.bipush 8, 2) := by decide +kernel
theorem dX10_readsThing_6 : decode cX10_readsThing 6 = .ok (.if_icmp .ne 8, 3) := by decide +kernel
theorem dX10_readsThing_9 : decode cX10_readsThing 9 = .ok (.aload_n 0, 1) := by decide +kernel
theorem dX10_readsThing_10 : decode cX10_readsThing 10 = .ok (.iconst 2, 1) := by decide +kernel
theorem dX10_readsThing_11 : decode cX10_readsThing 11 = .ok (.invokevirtual 183, 3) := by decide +kernel
theorem dX10_readsThing_14 : decode cX10_readsThing 14 = .ok (.aload_n 0, 1) := by decide +kernel
theorem dX10_readsThing_15 : decode cX10_readsThing 15 = .ok (.invokevirtual 176, 3) := by decide +kernel
theorem dX10_readsThing_18 : decode cX10_readsThing 18 = .ok (.ifCond .ne 4, 3) := by decide +kernel
theorem dX10_readsThing_21 : decode cX10_readsThing 21 = .ok (.return_, 1) := by decide +kernel
theorem dX10_readsThing_22 : decode cX10_readsThing 22 = .ok (.aload_n 0, 1) := by decide +kernel
theorem dX10_readsThing_23 : decode cX10_readsThing 23 = .ok (.iconst 1, 1) := by decide +kernel
theorem dX10_readsThing_24 : decode cX10_readsThing 24 = .ok (.putfield 197, 3) := by decide +kernel
theorem dX10_readsThing_27 : decode cX10_readsThing 27 = .ok (.aload_n 0, 1) := by decide +kernel
theorem dX10_readsThing_28 : decode cX10_readsThing 28 = .ok (.invokevirtual 180, 3) := by decide +kernel
theorem dX10_readsThing_31 : decode cX10_readsThing 31 = .ok (.iconst 5, 1) := by decide +kernel
theorem dX10_readsThing_32 : decode cX10_readsThing 32 = .ok (.aload_n 0, 1) := by decide +kernel
theorem dX10_readsThing_33 : decode cX10_readsThing 33 = .ok (.getfield 207, 3) := by decide +kernel
theorem dX10_readsThing_36 : decode cX10_readsThing 36 = .ok (.imul, 1) := by decide +kernel
theorem dX10_readsThing_37 : decode cX10_readsThing 37 = .ok (.istore_n 1, 1) := by decide +kernel
theorem dX10_readsThing_38 : decode cX10_readsThing 38 = .ok (.aload_n 0, 1) := by decide +kernel
theorem dX10_readsThing_39 : decode cX10_readsThing 39 = .ok (.aload_n 0, 1) := by decide +kernel
theorem dX10_readsThing_40 : decode cX10_readsThing 40 = .ok (.getfield 210, 3) := by decide +kernel
theorem dX10_readsThing_43 : decode cX10_readsThing 43 = .ok (.invokevirtual 186, 3) := by decide +kernel
theorem dX10_readsThing_46 : decode cX10_readsThing 46 = .ok (.ifCond .eq 39, 3) := by decide +kernel
theorem dX10_readsThing_49 : decode cX10_readsThing 49 = .ok (.iconst 0, 1) := by decide +kernel
theorem dX10_readsThing_50 : decode cX10_readsThing 50 = .ok (.istore_n 2, 1) := by decide +kernel
theorem dX10_readsThing_51 : decode cX10_readsThing 51 = .ok (.iload_n 2, 1) := by decide +kernel
theorem dX10_readsThing_52 : decode cX10_readsThing 52 = .ok (.aload_n 0, 1) := by decide +kernel
theorem dX10_readsThing_53 : decode cX10_readsThing 53 = .ok (.getfield 207, 3) := by decide +kernel
theorem dX10_readsThing_56 : decode cX10_readsThing 56 = .ok (.if_icmp .ge 29, 3) := by decide +kernel
theorem dX10_readsThing_59 : decode cX10_readsThing 59 = .ok (.aload_n 0, 1) := by decide +kernel
theorem dX10_readsThing_60 : decode cX10_readsThing 60 = .ok (.getfield 62, 3) := by decide +kernel
theorem dX10_readsThing_63 : decode cX10_readsThing 63 = .ok (.iconst 5, 1) := by decide +kernel
theorem dX10_readsThing_64 : decode cX10_readsThing 64 = .ok (.iload_n 2, 1) := by decide +kernel
theorem dX10_readsThing_65 : decode cX10_readsThing 65 = .ok (.imul, 1) := by decide +kernel
theorem dX10_readsThing_66 : decode cX10_readsThing 66 = .ok (.iaload, 1) := by decide +kernel
theorem dX10_readsThing_67 : decode cX10_readsThing 67 = .ok (.aload_n 0, 1) := by decide +kernel
theorem dX10_readsThing_68 : decode cX10_readsThing 68 = .ok (.getfield 149, 3) := by decide +kernel
theorem dX10_readsThing_71 : decode cX10_readsThing 71 = .ok (.if_icmp .ne 8, 3) := by decide +kernel
theorem dX10_readsThing_74 : decode cX10_readsThing 74 = .ok (.aload_n 0, 1) := by decide +kernel
theorem dX10_readsThing_75 : decode cX10_readsThing 75 = .ok (.iconst 4, 1) := by decide +kernel
theorem dX10_readsThing_76 : decode cX10_readsThing 76 = .ok (.invokevirtual 183, 3) := by decide +kernel
theorem dX10_readsThing_79 : decode cX10_readsThing 79 = .ok (.iinc 2 1, 3) := by decide +kernel
theorem dX10_readsThing_82 : decode cX10_readsThing 82 = .ok (.goto (-31), 3) := by decide +kernel
theorem dX10_readsThing_85 : decode cX10_readsThing 85 = .ok (.aload_n 0, 1) := by decide +kernel
theorem dX10_readsThing_86 : decode cX10_readsThing 86 = .ok (.getfield 62, 3) := by decide +kernel
theorem dX10_readsThing_89 : decode cX10_readsThing 89 = .ok (.iload_n 1, 1) := by decide +kernel
theorem dX10_readsThing_90 : decode cX10_readsThing 90 = .ok (.aload_n 0, 1) := by decide +kernel
theorem dX10_readsThing_91 : decode cX10_readsThing 91 = .ok (.getfield 149, 3) := by decide +kernel
theorem dX10_readsThing_94 : decode cX10_readsThing 94 = .ok (.iastore, 1) := by decide +kernel
theorem dX10_readsThing_95 : decode cX10_readsThing 95 = .ok (.aload_n 0, 1) := by decide +kernel
theorem dX10_readsThing_96 : decode cX10_readsThing 96 = .ok (.invokevirtual 176, 3) := by decide +kernel
theorem dX10_readsThing_99 : decode cX10_readsThing 99 = .ok (.ifCond .eq 7, 3) := by decide +kernel
theorem dX10_readsThing_102 : decode cX10_readsThing 102 = .ok (.aload_n 0, 1) := by decide +kernel
theorem dX10_readsThing_103 : decode cX10_readsThing 103 = .ok (.invokevirtual 180, 3) := by decide +kernel
theorem dX10_readsThing_106 : decode cX10_readsThing 106 = .ok (.aload_n 0, 1) := by decide +kernel
theorem dX10_readsThing_107 : decode cX10_readsThing 107 = .ok (.getfield 62, 3) := by decide +kernel
theorem dX10_readsThing_110 : decode cX10_readsThing 110 = .ok (.iload_n 1, 1) := by decide +kernel
theorem dX10_readsThing_111 : decode cX10_readsThing 111 = .ok (.iconst 1, 1) := by decide +kernel
theorem dX10_readsThing_112 : decode cX10_readsThing 112 = .ok (.iadd, 1) := by decide +kernel
theorem dX10_readsThing_113 : decode cX10_readsThing 113 = .ok (.aload_n 0, 1) := by decide +kernel
theorem dX10_readsThing_114 : decode cX10_readsThing 114 = .ok (.aload_n 0, 1) := by decide +kernel
theorem dX10_readsThing_115 : decode cX10_readsThing 115 = .ok (.getfield 201, 3) := by decide +kernel
theorem dX10_readsThing_118 : decode cX10_readsThing 118 = .ok (.invokevirtual 204, 3) := by decide +kernel
theorem dX10_readsThing_121 : decode cX10_readsThing 121 = .ok (.iastore, 1) := by decide +kernel
theorem dX10_readsThing_122 : decode cX10_readsThing 122 = .ok (.aload_n 0, 1) := by decide +kernel
theorem dX10_readsThing_123 : decode cX10_readsThing 123 = .ok (.getfield 62, 3) := by decide +kernel
theorem dX10_readsThing_126 : decode cX10_readsThing 126 = .ok (.iload_n 1, 1) := by decide +kernel
theorem dX10_readsThing_127 : decode cX10_readsThing 127 = .ok (.iconst 2, 1) := by decide +kernel
theorem dX10_readsThing_128 : decode cX10_readsThing 128 = .ok (.iadd, 1) := by decide +kernel
theorem dX10_readsThing_129 : decode cX10_readsThing 129 = .ok (.aload_n 0, 1) := by decide +kernel
theorem dX10_readsThing_130 : decode cX10_readsThing 130 = .ok (.iconst 0, 1) := by decide +kernel
theorem dX10_readsThing_131 : decode cX10_readsThing 131 = .ok (.bipush 23, 2) := by decide +kernel
theorem dX10_readsThing_133 : decode cX10_readsThing 133 = .ok (.invokevirtual 189, 3) := by decide +kernel
theorem dX10_readsThing_136 : decode cX10_readsThing 136 = .ok (.iastore, 1) := by decide +kernel
theorem dX10_readsThing_137 : decode cX10_readsThing 137 = .ok (.aload_n 0, 1) := by decide +kernel
theorem dX10_readsThing_138 : decode cX10_readsThing 138 = .ok (.getfield 62, 3) := by decide +kernel
theorem dX10_readsThing_141 : decode cX10_readsThing 141 = .ok (.iload_n 1, 1) := by decide +kernel
theorem dX10_readsThing_142 : decode cX10_readsThing 142 = .ok (.iconst 3, 1) := by decide +kernel
theorem dX10_readsThing_143 : decode cX10_readsThing 143 = .ok (.iadd, 1) := by decide +kernel
theorem dX10_readsThing_144 : decode cX10_readsThing 144 = .ok (.aload_n 0, 1) := by decide +kernel
theorem dX10_readsThing_145 : decode cX10_readsThing 145 = .ok (.invokevirtual 176, 3) := by decide +kernel
theorem dX10_readsThing_148 : decode cX10_readsThing 148 = .ok (.ifCond .eq 16, 3) := by decide +kernel
theorem dX10_readsThing_151 : decode cX10_readsThing 151 = .ok (.aload_n 0, 1) := by decide +kernel
theorem dX10_readsThing_152 : decode cX10_readsThing 152 = .ok (.bipush 11, 2) := by decide +kernel
theorem dX10_readsThing_154 : decode cX10_readsThing 154 = .ok (.invokevirtual 213, 3) := by decide +kernel
theorem dX10_readsThing_157 : decode cX10_readsThing 157 = .ok (.ifCond .eq 7, 3) := by decide +kernel
theorem dX10_readsThing_160 : decode cX10_readsThing 160 = .ok (.iconst 1, 1) := by decide +kernel
theorem dX10_readsThing_161 : decode cX10_readsThing 161 = .ok (.goto 4, 3) := by decide +kernel
theorem dX10_readsThing_164 : decode cX10_readsThing 164 = .ok (.iconst 0, 1) := by decide +kernel
theorem dX10_readsThing_165 : decode cX10_readsThing 165 = .ok (.iastore, 1) := by decide +kernel
theorem dX10_readsThing_166 : decode cX10_readsThing 166 = .ok (.aload_n 0, 1) := by decide +kernel
theorem dX10_readsThing_167 : decode cX10_readsThing 167 = .ok (.getfield 62, 3) := by decide +kernel
theorem dX10_readsThing_170 : decode cX10_readsThing 170 = .ok (.iload_n 1, 1) := by decide +kernel
theorem dX10_readsThing_171 : decode cX10_readsThing 171 = .ok (.iconst 3, 1) := by decide +kernel
theorem dX10_readsThing_172 : decode cX10_readsThing 172 = .ok (.iadd, 1) := by decide +kernel
theorem dX10_readsThing_173 : decode cX10_readsThing 173 = .ok (.iaload, 1) := by decide +kernel
theorem dX10_readsThing_174 : decode cX10_readsThing 174 = .ok (.iconst 1, 1) := by decide +kernel
theorem dX10_readsThing_175 : decode cX10_readsThing 175 = .ok (.if_icmp .ne 7, 3) := by decide +kernel
theorem dX10_readsThing_178 : decode cX10_readsThing 178 = .ok (.aload_n 0, 1) := by decide +kernel
theorem dX10_readsThing_179 : decode cX10_readsThing 179 = .ok (.invokevirtual 180, 3) := by decide +kernel
theorem dX10_readsThing_182 : decode cX10_readsThing 182 = .ok (.aload_n 0, 1) := by decide +kernel
theorem dX10_readsThing_183 : decode cX10_readsThing 183 = .ok (.getfield 62, 3) := by decide +kernel
theorem dX10_readsThing_186 : decode cX10_readsThing 186 = .ok (.iload_n 1, 1) := by decide +kernel
theorem dX10_readsThing_187 : decode cX10_readsThing 187 = .ok (.iconst 4, 1) := by decide +kernel
theorem dX10_readsThing_188 : decode cX10_readsThing 188 = .ok (.iadd, 1) := by decide +kernel
theorem dX10_readsThing_189 : decode cX10_readsThing 189 = .ok (.aload_n 0, 1) := by decide +kernel
theorem dX10_readsThing_190 : decode cX10_readsThing 190 = .ok (.invokevirtual 176, 3) := by decide +kernel
theorem dX10_readsThing_193 : decode cX10_readsThing 193 = .ok (.ifCond .eq 16, 3) := by decide +kernel
theorem dX10_readsThing_196 : decode cX10_readsThing 196 = .ok (.aload_n 0, 1) := by decide +kernel
theorem dX10_readsThing_197 : decode cX10_readsThing 197 = .ok (.bipush 12, 2) := by decide +kernel
theorem dX10_readsThing_199 : decode cX10_readsThing 199 = .ok (.invokevirtual 213, 3) := by decide +kernel
theorem dX10_readsThing_202 : decode cX10_readsThing 202 = .ok (.ifCond .eq 7, 3) := by decide +kernel
theorem dX10_readsThing_205 : decode cX10_readsThing 205 = .ok (.iconst 1, 1) := by decide +kernel
theorem dX10_readsThing_206 : decode cX10_readsThing 206 = .ok (.goto 4, 3) := by decide +kernel
theorem dX10_readsThing_209 : decode cX10_readsThing 209 = .ok (.iconst 0, 1) := by decide +kernel
theorem dX10_readsThing_210 : decode cX10_readsThing 210 = .ok (.iastore, 1) := by decide +kernel
theorem dX10_readsThing_211 : decode cX10_readsThing 211 = .ok (.aload_n 0, 1) := by decide +kernel
theorem dX10_readsThing_212 : decode cX10_readsThing 212 = .ok (.getfield 62, 3) := by decide +kernel
theorem dX10_readsThing_215 : decode cX10_readsThing 215 = .ok (.iload_n 1, 1) := by decide +kernel
theorem dX10_readsThing_216 : decode cX10_readsThing 216 = .ok (.iconst 4, 1) := by decide +kernel
theorem dX10_readsThing_217 : decode cX10_readsThing 217 = .ok (.iadd, 1) := by decide +kernel
theorem dX10_readsThing_218 : decode cX10_readsThing 218 = .ok (.iaload, 1) := by decide +kernel
theorem dX10_readsThing_219 : decode cX10_readsThing 219 = .ok (.iconst 1, 1) := by decide +kernel
theorem dX10_readsThing_220 : decode cX10_readsThing 220 = .ok (.if_icmp .ne 7, 3) := by decide +kernel
theorem dX10_readsThing_223 : decode cX10_readsThing 223 = .ok (.aload_n 0, 1) := by decide +kernel
theorem dX10_readsThing_224 : decode cX10_readsThing 224 = .ok (.invokevirtual 180, 3) := by decide +kernel
theorem dX10_readsThing_227 : decode cX10_readsThing 227 = .ok (.aload_n 0, 1) := by decide +kernel
theorem dX10_readsThing_228 : decode cX10_readsThing 228 = .ok (.invokevirtual 176, 3) := by decide +kernel
theorem dX10_readsThing_231 : decode cX10_readsThing 231 = .ok (.ifCond .eq 13, 3) := by decide +kernel
theorem dX10_readsThing_234 : decode cX10_readsThing 234 = .ok (.aload_n 0, 1) := by decide +kernel
theorem dX10_readsThing_235 : decode cX10_readsThing 235 = .ok (.dup, 1) := by decide +kernel
theorem dX10_readsThing_236 : decode cX10_readsThing 236 = .ok (.getfield 207, 3) := by decide +kernel
theorem dX10_readsThing_239 : decode cX10_readsThing 239 = .ok (.iconst 1, 1) := by decide +kernel
theorem dX10_readsThing_240 : decode cX10_readsThing 240 = .ok (.iadd, 1) := by decide +kernel
theorem dX10_readsThing_241 : decode cX10_readsThing 241 = .ok (.putfield 207, 3) := by decide +kernel
theorem dX10_readsThing_244 : decode cX10_readsThing 244 = .ok (.return_, 1) := by decide +kernel
theorem dX10_readsNear_0 : decode cX10_readsNear 0 = .ok (.aload_n 0, 1) := by decide +kernel
theorem dX10_readsNear_1 : decode cX10_readsNear 1 = .ok (.iconst 1, 1) := by decide +kernel
theorem dX10_readsNear_2 : decode cX10_readsNear 2 = .ok (.putfield 197, 3) := by decide +kernel
theorem dX10_readsNear_5 : decode cX10_readsNear 5 = .ok (.aload_n 0, 1) := by decide +kernel
theorem dX10_readsNear_6 : decode cX10_readsNear 6 = .ok (.invokevirtual 180, 3) := by decide +kernel
theorem dX10_readsNear_9 : decode cX10_readsNear 9 = .ok (.aload_n 0, 1) := by decide +kernel
theorem dX10_readsNear_10 : decode cX10_readsNear 10 = .ok (.aload_n 0, 1) := by decide +kernel
theorem dX10_readsNear_11 : decode cX10_readsNear 11 = .ok (.getfield 201, 3) := by decide +kernel
theorem dX10_readsNear_14 : decode cX10_readsNear 14 = .ok (.invokevirtual 204, 3) := by decide +kernel
theorem dX10_readsNear_17 : decode cX10_readsNear 17 = .ok (.istore_n 1, 1) := by decide +kernel
theorem dX10_readsNear_18 : decode cX10_readsNear 18 = .ok (.aload_n 0, 1) := by decide +kernel
theorem dX10_readsNear_19 : decode cX10_readsNear 19 = .ok (.aload_n 0, 1) := by decide +kernel
theorem dX10_readsNear_20 : decode cX10_readsNear 20 = .ok (.getfield 201, 3) := by decide +kernel
theorem dX10_readsNear_23 : decode cX10_readsNear 23 = .ok (.invokevirtual 186, 3) := by decide +kernel
theorem dX10_readsNear_26 : decode cX10_readsNear 26 = .ok (.ifCond .eq 16, 3) := by decide +kernel
theorem dX10_readsNear_29 : decode cX10_readsNear 29 = .ok (.aload_n 0, 1) := by decide +kernel
theorem dX10_readsNear_30 : decode cX10_readsNear 30 = .ok (.getfield 149, 3) := by decide +kernel
theorem dX10_readsNear_33 : decode cX10_readsNear 33 = .ok (.iload_n 1, 1) := by decide +kernel
theorem dX10_readsNear_34 : decode cX10_readsNear 34 = .ok (.if_icmp .ne 8, 3) := by decide +kernel
theorem dX10_readsNear_37 : decode cX10_readsNear 37 = .ok (.aload_n 0, 1) := by decide +kernel
theorem dX10_readsNear_38 : decode cX10_readsNear 38 = .ok (.iconst 4, 1) := by decide +kernel
theorem dX10_readsNear_39 : decode cX10_readsNear 39 = .ok (.invokevirtual 183, 3) := by decide +kernel
theorem dX10_readsNear_42 : decode cX10_readsNear 42 = .ok (.aload_n 0, 1) := by decide +kernel
theorem dX10_readsNear_43 : decode cX10_readsNear 43 = .ok (.invokevirtual 176, 3) := by decide +kernel
theorem dX10_readsNear_46 : decode cX10_readsNear 46 = .ok (.ifCond .ne 4, 3) := by decide +kernel
theorem dX10_readsNear_49 : decode cX10_readsNear 49 = .ok (.return_, 1) := by decide +kernel
theorem dX10_readsNear_50 : decode cX10_readsNear 50 = .ok (.aload_n 0, 1) := by decide +kernel
theorem dX10_readsNear_51 : decode cX10_readsNear 51 = .ok (.getfield 68, 3) := by decide +kernel
theorem dX10_readsNear_54 : decode cX10_readsNear 54 = .ok (.iload_n 1, 1) := by decide +kernel
theorem dX10_readsNear_55 : decode cX10_readsNear 55 = .ok (.dup2, 1) := by decide +kernel
theorem dX10_readsNear_56 : decode cX10_readsNear 56 = .ok (.iaload, 1) := by decide +kernel
theorem dX10_readsNear_57 : decode cX10_readsNear 57 = .ok (.iconst 1, 1) := by decide +kernel
theorem dX10_readsNear_58 : decode cX10_readsNear 58 = .ok (.aload_n 0, 1) := by decide +kernel
theorem dX10_readsNear_59 : decode cX10_readsNear 59 = .ok (.getfield 149, 3) := by decide +kernel
theorem dX10_readsNear_62 : decode cX10_readsNear 62 = .ok (.ishl, 1) := by decide +kernel
theorem dX10_readsNear_63 : decode cX10_readsNear 63 = .ok (.ior, 1) := by decide +kernel
theorem dX10_readsNear_64 : decode cX10_readsNear 64 = .ok (.iastore, 1) := by decide +kernel
theorem dX10_readsNear_65 : decode cX10_readsNear 65 = .ok (.aload_n 0, 1) := by decide +kernel
theorem dX10_readsNear_66 : decode cX10_readsNear 66 = .ok (.getfield 68, 3) := by decide +kernel
theorem dX10_readsNear_69 : decode cX10_readsNear 69 = .ok (.aload_n 0, 1) := by decide +kernel
theorem dX10_readsNear_70 : decode cX10_readsNear 70 = .ok (.getfield 149, 3) := by decide +kernel
theorem dX10_readsNear_73 : decode cX10_readsNear 73 = .ok (.dup2, 1) := by decide +kernel
theorem dX10_readsNear_74 : decode cX10_readsNear 74 = .ok (.iaload, 1) := by decide +kernel
theorem dX10_readsNear_75 : decode cX10_readsNear 75 = .ok (.iconst 1, 1) := by decide +kernel
theorem dX10_readsNear_76 : decode cX10_readsNear 76 = .ok (.iload_n 1, 1) := by decide +kernel
theorem dX10_readsNear_77 : decode cX10_readsNear 77 = .ok (.ishl, 1) := by decide +kernel
theorem dX10_readsNear_78 : decode cX10_readsNear 78 = .ok (.ior, 1) := by decide +kernel
theorem dX10_readsNear_79 : decode cX10_readsNear 79 = .ok (.iastore, 1) := by decide +kernel
theorem dX10_readsNear_80 : decode cX10_readsNear 80 = .ok (.aload_n 0, 1) := by decide +kernel
theorem dX10_readsNear_81 : decode cX10_readsNear 81 = .ok (.invokevirtual 180, 3) := by decide +kernel
theorem dX10_readsNear_84 : decode cX10_readsNear 84 = .ok (.return_, 1) := by decide +kernel
theorem dX10_word0_0 : decode cX10_word0 0 = .ok (.aload_n 0, 1) := by decide +kernel
theorem dX10_word0_1 : decode cX10_word0 1 = .ok (.invokevirtual 176, 3) := by decide +kernel
theorem dX10_word0_4 : decode cX10_word0 4 = .ok (.ifCond .ne 4, 3) := by decide +kernel
theorem dX10_word0_7 : decode cX10_word0 7 = .ok (.return_, 1) := by decide +kernel
theorem dX10_word0_8 : decode cX10_word0 8 = .ok (.aload_n 0, 1) := by decide +kernel
theorem dX10_word0_9 : decode cX10_word0 9 = .ok (.getfield 152, 3) := by decide +kernel
theorem dX10_word0_12 : decode cX10_word0 12 = .ok (.iconst 1, 1) := by decide +kernel
theorem dX10_word0_13 : decode cX10_word0 13 = .ok (.if_icmp .eq 11, 3) := by decide +kernel
theorem dX10_word0_16 : decode cX10_word0 16 = .ok (.aload_n 0, 1) := by decide +kernel
theorem dX10_word0_17 : decode cX10_word0 17 = .ok (.iconst 1, 1) := by decide +kernel
theorem dX10_word0_18 : decode cX10_word0 18 = .ok (.invokevirtual 183, 3) := by decide +kernel
theorem dX10_word0_21 : decode cX10_word0 21 = .ok (.goto 17, 3) := by decide +kernel
theorem dX10_word0_24 : decode cX10_word0 24 = .ok (.aload_n 0, 1) := by decide +kernel
theorem dX10_word0_25 : decode cX10_word0 25 = .ok (.getfield 162, 3) := by decide +kernel
theorem dX10_word0_28 : decode cX10_word0 28 = .ok (.bipush 8, 2) := by decide +kernel
theorem dX10_word0_30 : decode cX10_word0 30 = .ok (.if_icmp .le 8, 3) := by decide +kernel
theorem dX10_word0_33 : decode cX10_word0 33 = .ok (.aload_n 0, 1) := by decide +kernel
theorem dX10_word0_34 : decode cX10_word0 34 = .ok (.iconst 2, 1) := by decide +kernel
theorem dX10_word0_35 : decode cX10_word0 35 = .ok (.invokevirtual 183, 3) := by decide +kernel
theorem dX10_word0_38 : decode cX10_word0 38 = .ok (.aload_n 0, 1) := by decide +kernel
theorem dX10_word0_39 : decode cX10_word0 39 = .ok (.invokevirtual 176, 3) := by decide +kernel
theorem dX10_word0_42 : decode cX10_word0 42 = .ok (.ifCond .ne 4, 3) := by decide +kernel
theorem dX10_word0_45 : decode cX10_word0 45 = .ok (.return_, 1) := by decide +kernel
theorem dX10_word0_46 : decode cX10_word0 46 = .ok (.aload_n 1, 1) := by decide +kernel
theorem dX10_word0_47 : decode cX10_word0 47 = .ok (.iload_n 2, 1) := by decide +kernel
theorem dX10_word0_48 : decode cX10_word0 48 = .ok (.aload_n 0, 1) := by decide +kernel
theorem dX10_word0_49 : decode cX10_word0 49 = .ok (.getfield 162, 3) := by decide +kernel
theorem dX10_word0_52 : decode cX10_word0 52 = .ok (.iastore, 1) := by decide +kernel
theorem dX10_word0_53 : decode cX10_word0 53 = .ok (.iconst 0, 1) := by decide +kernel
theorem dX10_word0_54 : decode cX10_word0 54 = .ok (.istore_n 3, 1) := by decide +kernel
theorem dX10_word0_55 : decode cX10_word0 55 = .ok (.iload_n 3, 1) := by decide +kernel
theorem dX10_word0_56 : decode cX10_word0 56 = .ok (.aload_n 0, 1) := by decide +kernel
theorem dX10_word0_57 : decode cX10_word0 57 = .ok (.getfield 162, 3) := by decide +kernel
theorem dX10_word0_60 : decode cX10_word0 60 = .ok (.if_icmp .ge 26, 3) := by decide +kernel
theorem dX10_word0_63 : decode cX10_word0 63 = .ok (.aload_n 1, 1) := by decide +kernel
theorem dX10_word0_64 : decode cX10_word0 64 = .ok (.iload_n 2, 1) := by decide +kernel
theorem dX10_word0_65 : decode cX10_word0 65 = .ok (.iconst 1, 1) := by decide +kernel
theorem dX10_word0_66 : decode cX10_word0 66 = .ok (.iadd, 1) := by decide +kernel
theorem dX10_word0_67 : decode cX10_word0 67 = .ok (.iload_n 3, 1) := by decide +kernel
theorem dX10_word0_68 : decode cX10_word0 68 = .ok (.iadd, 1) := by decide +kernel
theorem dX10_word0_69 : decode cX10_word0 69 = .ok (.aload_n 0, 1) := by decide +kernel
theorem dX10_word0_70 : decode cX10_word0 70 = .ok (.aload_n 0, 1) := by decide +kernel
theorem dX10_word0_71 : decode cX10_word0 71 = .ok (.getfield 142, 3) := by decide +kernel
theorem dX10_word0_74 : decode cX10_word0 74 = .ok (.iload_n 3, 1) := by decide +kernel
theorem dX10_word0_75 : decode cX10_word0 75 = .ok (.iadd, 1) := by decide +kernel
theorem dX10_word0_76 : decode cX10_word0 76 = .ok (.invokevirtual 138, 3) := by decide +kernel
theorem dX10_word0_79 : decode cX10_word0 79 = .ok (.iastore, 1) := by decide +kernel
theorem dX10_word0_80 : decode cX10_word0 80 = .ok (.iinc 3 1, 3) := by decide +kernel
theorem dX10_word0_83 : decode cX10_word0 83 = .ok (.goto (-28), 3) := by decide +kernel
theorem dX10_word0_86 : decode cX10_word0 86 = .ok (.aload_n 0, 1) := by decide +kernel
theorem dX10_word0_87 : decode cX10_word0 87 = .ok (.invokevirtual 180, 3) := by decide +kernel
theorem dX10_word0_90 : decode cX10_word0 90 = .ok (.return_, 1) := by decide +kernel
theorem dX10_readsEnding_0 : decode cX10_readsEnding 0 = .ok (.aload_n 0, 1) := by decide +kernel
theorem dX10_readsEnding_1 : decode cX10_readsEnding 1 = .ok (.invokevirtual 180, 3) := by decide +kernel
theorem dX10_readsEnding_4 : decode cX10_readsEnding 4 = .ok (.aload_n 0, 1) := by decide +kernel
theorem dX10_readsEnding_5 : decode cX10_readsEnding 5 = .ok (.iconst 0, 1) := by decide +kernel
theorem dX10_readsEnding_6 : decode cX10_readsEnding 6 = .ok (.iconst 2, 1) := by decide +kernel
theorem dX10_readsEnding_7 : decode cX10_readsEnding 7 = .ok (.invokevirtual 189, 3) := by decide +kernel
theorem dX10_readsEnding_10 : decode cX10_readsEnding 10 = .ok (.istore_n 1, 1) := by decide +kernel
theorem dX10_readsEnding_11 : decode cX10_readsEnding 11 = .ok (.aload_n 0, 1) := by decide +kernel
theorem dX10_readsEnding_12 : decode cX10_readsEnding 12 = .ok (.invokevirtual 176, 3) := by decide +kernel
theorem dX10_readsEnding_15 : decode cX10_readsEnding 15 = .ok (.ifCond .eq 51, 3) := by decide +kernel
theorem dX10_readsEnding_18 : decode cX10_readsEnding 18 = .ok (.aload_n 0, 1) := by decide +kernel
theorem dX10_readsEnding_19 : decode cX10_readsEnding 19 = .ok (.getfield 152, 3) := by decide +kernel
theorem dX10_readsEnding_22 : decode cX10_readsEnding 22 = .ok (.iconst 2, 1) := by decide +kernel
theorem dX10_readsEnding_23 : decode cX10_readsEnding 23 = .ok (.if_icmp .ne 43, 3) := by decide +kernel
theorem dX10_readsEnding_26 : decode cX10_readsEnding 26 = .ok (.aload_n 0, 1) := by decide +kernel
theorem dX10_readsEnding_27 : decode cX10_readsEnding 27 = .ok (.getfield 162, 3) := by decide +kernel
theorem dX10_readsEnding_30 : decode cX10_readsEnding 30 = .ok (.iconst 3, 1) := by decide +kernel
theorem dX10_readsEnding_31 : decode cX10_readsEnding 31 = .ok (.if_icmp .gt 35, 3) := by decide +kernel
theorem dX10_readsEnding_34 : decode cX10_readsEnding 34 = .ok (.aload_n 0, 1) := by decide +kernel
theorem dX10_readsEnding_35 : decode cX10_readsEnding 35 = .ok (.getfield 149, 3) := by decide +kernel
theorem dX10_readsEnding_38 : decode cX10_readsEnding 38 = .ok (.iconst 5, 1) := by decide +kernel
theorem dX10_readsEnding_39 : decode cX10_readsEnding 39 = .ok (.if_icmp .ge 27, 3) := by decide +kernel
theorem dX10_readsEnding_42 : decode cX10_readsEnding 42 = .ok (.aload_n 0, 1) := by decide +kernel
theorem dX10_readsEnding_43 : decode cX10_readsEnding 43 = .ok (.getfield 53, 3) := by decide +kernel
theorem dX10_readsEnding_46 : decode cX10_readsEnding 46 = .ok (.bipush 9, 2) := by decide +kernel
theorem dX10_readsEnding_48 : decode cX10_readsEnding 48 = .ok (.iconst 5, 1) := by decide +kernel
theorem dX10_readsEnding_49 : decode cX10_readsEnding 49 = .ok (.iload_n 1, 1) := by decide +kernel
theorem dX10_readsEnding_50 : decode cX10_readsEnding 50 = .ok (.imul, 1) := by decide +kernel
theorem dX10_readsEnding_51 : decode cX10_readsEnding 51 = .ok (.aload_n 0, 1) := by decide +kernel
theorem dX10_readsEnding_52 : decode cX10_readsEnding 52 = .ok (.getfield 149, 3) := by decide +kernel
theorem dX10_readsEnding_55 : decode cX10_readsEnding 55 = .ok (.iadd, 1) := by decide +kernel
theorem dX10_readsEnding_56 : decode cX10_readsEnding 56 = .ok (.imul, 1) := by decide +kernel
theorem dX10_readsEnding_57 : decode cX10_readsEnding 57 = .ok (.iaload, 1) := by decide +kernel
theorem dX10_readsEnding_58 : decode cX10_readsEnding 58 = .ok (.ifCond .le 8, 3) := by decide +kernel
theorem dX10_readsEnding_61 : decode cX10_readsEnding 61 = .ok (.aload_n 0, 1) := by decide +kernel
theorem dX10_readsEnding_62 : decode cX10_readsEnding 62 = .ok (.iconst 4, 1) := by decide +kernel
theorem dX10_readsEnding_63 : decode cX10_readsEnding 63 = .ok (.invokevirtual 183, 3) := by decide +kernel
theorem dX10_readsEnding_66 : decode cX10_readsEnding 66 = .ok (.aload_n 0, 1) := by decide +kernel
theorem dX10_readsEnding_67 : decode cX10_readsEnding 67 = .ok (.iconst 0, 1) := by decide +kernel
theorem dX10_readsEnding_68 : decode cX10_readsEnding 68 = .ok (.iconst 4, 1) := by decide +kernel
theorem dX10_readsEnding_69 : decode cX10_readsEnding 69 = .ok (.invokevirtual 189, 3) := by decide +kernel
theorem dX10_readsEnding_72 : decode cX10_readsEnding 72 = .ok (.istore_n 2, 1) := by decide +kernel
theorem dX10_readsEnding_73 : decode cX10_readsEnding 73 = .ok (.aload_n 0, 1) := by decide +kernel
theorem dX10_readsEnding_74 : decode cX10_readsEnding 74 = .ok (.aload_n 0, 1) := by decide +kernel
theorem dX10_readsEnding_75 : decode cX10_readsEnding 75 = .ok (.getfield 53, 3) := by decide +kernel
theorem dX10_readsEnding_78 : decode cX10_readsEnding 78 = .ok (.bipush 9, 2) := by decide +kernel
theorem dX10_readsEnding_80 : decode cX10_readsEnding 80 = .ok (.iconst 5, 1) := by decide +kernel
theorem dX10_readsEnding_81 : decode cX10_readsEnding 81 = .ok (.iload_n 1, 1) := by decide +kernel
theorem dX10_readsEnding_82 : decode cX10_readsEnding 82 = .ok (.imul, 1) := by decide +kernel
theorem dX10_readsEnding_83 : decode cX10_readsEnding 83 = .ok (.iload_n 2, 1) := by decide +kernel
theorem dX10_readsEnding_84 : decode cX10_readsEnding 84 = .ok (.iadd, 1) := by decide +kernel
theorem dX10_readsEnding_85 : decode cX10_readsEnding 85 = .ok (.imul, 1) := by decide +kernel
theorem dX10_readsEnding_86 : decode cX10_readsEnding 86 = .ok (.invokevirtual 193, 3) := by decide +kernel
theorem dX10_readsEnding_89 : decode cX10_readsEnding 89 = .ok (.return_, 1) := by decide +kernel
theorem dX10_line_0 : decode cX10_line 0 = .ok (.aload_n 0, 1) := by decide +kernel
theorem dX10_line_1 : decode cX10_line 1 = .ok (.iconst 0, 1) := by decide +kernel
theorem dX10_line_2 : decode cX10_line 2 = .ok (.invokevirtual 213, 3) := by decide +kernel
theorem dX10_line_5 : decode cX10_line 5 = .ok (.ifCond .eq 64, 3) := by decide +kernel
theorem dX10_line_8 : decode cX10_line 8 = .ok (.aload_n 0, 1) := by decide +kernel
theorem dX10_line_9 : decode cX10_line 9 = .ok (.getfield 210, 3) := by decide +kernel
theorem dX10_line_12 : decode cX10_line 12 = .ok (.bipush 12, 2) := by decide +kernel
theorem dX10_line_14 : decode cX10_line 14 = .ok (.if_icmp .ne 8, 3) := by decide +kernel
theorem dX10_line_17 : decode cX10_line 17 = .ok (.aload_n 0, 1) := by decide +kernel
theorem dX10_line_18 : decode cX10_line 18 = .ok (.iconst 2, 1) := by decide +kernel
theorem dX10_line_19 : decode cX10_line 19 = .ok (.invokevirtual 183, 3) := by decide +kernel
theorem dX10_line_22 : decode cX10_line 22 = .ok (.aload_n 0, 1) := by decide +kernel
theorem dX10_line_23 : decode cX10_line 23 = .ok (.invokevirtual 176, 3) := by decide +kernel
theorem dX10_line_26 : decode cX10_line 26 = .ok (.ifCond .ne 4, 3) := by decide +kernel
theorem dX10_line_29 : decode cX10_line 29 = .ok (.return_, 1) := by decide +kernel
theorem dX10_line_30 : decode cX10_line 30 = .ok (.aload_n 0, 1) := by decide +kernel
theorem dX10_line_31 : decode cX10_line 31 = .ok (.invokevirtual 180, 3) := by decide +kernel
theorem dX10_line_34 : decode cX10_line 34 = .ok (.aload_n 0, 1) := by decide +kernel
theorem dX10_line_35 : decode cX10_line 35 = .ok (.aload_n 0, 1) := by decide +kernel
theorem dX10_line_36 : decode cX10_line 36 = .ok (.getfield 50, 3) := by decide +kernel
theorem dX10_line_39 : decode cX10_line 39 = .ok (.bipush 9, 2) := by decide +kernel
theorem dX10_line_41 : decode cX10_line 41 = .ok (.aload_n 0, 1) := by decide +kernel
theorem dX10_line_42 : decode cX10_line 42 = .ok (.getfield 210, 3) := by decide +kernel
theorem dX10_line_45 : decode cX10_line 45 = .ok (.imul, 1) := by decide +kernel
theorem dX10_line_46 : decode cX10_line 46 = .ok (.invokevirtual 193, 3) := by decide +kernel
theorem dX10_line_49 : decode cX10_line 49 = .ok (.aload_n 0, 1) := by decide +kernel
theorem dX10_line_50 : decode cX10_line 50 = .ok (.invokevirtual 176, 3) := by decide +kernel
theorem dX10_line_53 : decode cX10_line 53 = .ok (.ifCond .eq 417, 3) := by decide +kernel
theorem dX10_line_56 : decode cX10_line 56 = .ok (.aload_n 0, 1) := by decide +kernel
theorem dX10_line_57 : decode cX10_line 57 = .ok (.dup, 1) := by decide +kernel
theorem dX10_line_58 : decode cX10_line 58 = .ok (.getfield 210, 3) := by decide +kernel
theorem dX10_line_61 : decode cX10_line 61 = .ok (.iconst 1, 1) := by decide +kernel
theorem dX10_line_62 : decode cX10_line 62 = .ok (.iadd, 1) := by decide +kernel
theorem dX10_line_63 : decode cX10_line 63 = .ok (.putfield 210, 3) := by decide +kernel
theorem dX10_line_66 : decode cX10_line 66 = .ok (.goto 404, 3) := by decide +kernel
theorem dX10_line_69 : decode cX10_line 69 = .ok (.aload_n 0, 1) := by decide +kernel
theorem dX10_line_70 : decode cX10_line 70 = .ok (.iconst 1, 1) := by decide +kernel
theorem dX10_line_71 : decode cX10_line 71 = .ok (.invokevirtual 213, 3) := by decide +kernel
theorem dX10_line_74 : decode cX10_line 74 = .ok (.ifCond .eq 10, 3) := by decide +kernel
theorem dX10_line_77 : decode cX10_line 77 = .ok (.aload_n 0, 1) := by decide +kernel
theorem dX10_line_78 : decode cX10_line 78 = .ok (.invokevirtual 222, 3) := by decide +kernel
theorem dX10_line_81 : decode cX10_line 81 = .ok (.goto 389, 3) := by decide +kernel
theorem dX10_line_84 : decode cX10_line 84 = .ok (.aload_n 0, 1) := by decide +kernel
theorem dX10_line_85 : decode cX10_line 85 = .ok (.iconst 2, 1) := by decide +kernel
theorem dX10_line_86 : decode cX10_line 86 = .ok (.invokevirtual 213, 3) := by decide +kernel
theorem dX10_line_89 : decode cX10_line 89 = .ok (.ifCond .eq 82, 3) := by decide +kernel
theorem dX10_line_92 : decode cX10_line 92 = .ok (.aload_n 0, 1) := by decide +kernel
theorem dX10_line_93 : decode cX10_line 93 = .ok (.getfield 225, 3) := by decide +kernel
theorem dX10_line_96 : decode cX10_line 96 = .ok (.bipush 6, 2) := by decide +kernel
theorem dX10_line_98 : decode cX10_line 98 = .ok (.if_icmp .ne 8, 3) := by decide +kernel
theorem dX10_line_101 : decode cX10_line 101 = .ok (.aload_n 0, 1) := by decide +kernel
theorem dX10_line_102 : decode cX10_line 102 = .ok (.iconst 2, 1) := by decide +kernel
theorem dX10_line_103 : decode cX10_line 103 = .ok (.invokevirtual 183, 3) := by decide +kernel
theorem dX10_line_106 : decode cX10_line 106 = .ok (.aload_n 0, 1) := by decide +kernel
theorem dX10_line_107 : decode cX10_line 107 = .ok (.invokevirtual 176, 3) := by decide +kernel
theorem dX10_line_110 : decode cX10_line 110 = .ok (.ifCond .ne 4, 3) := by decide +kernel
theorem dX10_line_113 : decode cX10_line 113 = .ok (.return_, 1) := by decide +kernel
theorem dX10_line_114 : decode cX10_line 114 = .ok (.aload_n 0, 1) := by decide +kernel
theorem dX10_line_115 : decode cX10_line 115 = .ok (.invokevirtual 180, 3) := by decide +kernel
theorem dX10_line_118 : decode cX10_line 118 = .ok (.iconst 0, 1) := by decide +kernel
theorem dX10_line_119 : decode cX10_line 119 = .ok (.istore_n 1, 1) := by decide +kernel
theorem dX10_line_120 : decode cX10_line 120 = .ok (.iload_n 1, 1) := by decide +kernel
theorem dX10_line_121 : decode cX10_line 121 = .ok (.iconst 3, 1) := by decide +kernel
theorem dX10_line_122 : decode cX10_line 122 = .ok (.if_icmp .ge 29, 3) := by decide +kernel
theorem dX10_line_125 : decode cX10_line 125 = .ok (.aload_n 0, 1) := by decide +kernel
theorem dX10_line_126 : decode cX10_line 126 = .ok (.aload_n 0, 1) := by decide +kernel
theorem dX10_line_127 : decode cX10_line 127 = .ok (.getfield 56, 3) := by decide +kernel
theorem dX10_line_130 : decode cX10_line 130 = .ok (.bipush 27, 2) := by decide +kernel
theorem dX10_line_132 : decode cX10_line 132 = .ok (.aload_n 0, 1) := by decide +kernel
theorem dX10_line_133 : decode cX10_line 133 = .ok (.getfield 225, 3) := by decide +kernel
theorem dX10_line_136 : decode cX10_line 136 = .ok (.imul, 1) := by decide +kernel
theorem dX10_line_137 : decode cX10_line 137 = .ok (.bipush 9, 2) := by decide +kernel
theorem dX10_line_139 : decode cX10_line 139 = .ok (.iload_n 1, 1) := by decide +kernel
theorem dX10_line_140 : decode cX10_line 140 = .ok (.imul, 1) := by decide +kernel
theorem dX10_line_141 : decode cX10_line 141 = .ok (.iadd, 1) := by decide +kernel
theorem dX10_line_142 : decode cX10_line 142 = .ok (.invokevirtual 193, 3) := by decide +kernel
theorem dX10_line_145 : decode cX10_line 145 = .ok (.iinc 1 1, 3) := by decide +kernel
theorem dX10_line_148 : decode cX10_line 148 = .ok (.goto (-28), 3) := by decide +kernel
theorem dX10_line_151 : decode cX10_line 151 = .ok (.aload_n 0, 1) := by decide +kernel
theorem dX10_line_152 : decode cX10_line 152 = .ok (.invokevirtual 176, 3) := by decide +kernel
theorem dX10_line_155 : decode cX10_line 155 = .ok (.ifCond .eq 315, 3) := by decide +kernel
theorem dX10_line_158 : decode cX10_line 158 = .ok (.aload_n 0, 1) := by decide +kernel
theorem dX10_line_159 : decode cX10_line 159 = .ok (.dup, 1) := by decide +kernel
theorem dX10_line_160 : decode cX10_line 160 = .ok (.getfield 225, 3) := by decide +kernel
theorem dX10_line_163 : decode cX10_line 163 = .ok (.iconst 1, 1) := by decide +kernel
theorem dX10_line_164 : decode cX10_line 164 = .ok (.iadd, 1) := by decide +kernel
theorem dX10_line_165 : decode cX10_line 165 = .ok (.putfield 225, 3) := by decide +kernel
theorem dX10_line_168 : decode cX10_line 168 = .ok (.goto 302, 3) := by decide +kernel
theorem dX10_line_171 : decode cX10_line 171 = .ok (.aload_n 0, 1) := by decide +kernel
theorem dX10_line_172 : decode cX10_line 172 = .ok (.iconst 3, 1) := by decide +kernel
theorem dX10_line_173 : decode cX10_line 173 = .ok (.invokevirtual 213, 3) := by decide +kernel
theorem dX10_line_176 : decode cX10_line 176 = .ok (.ifCond .eq 44, 3) := by decide +kernel
theorem dX10_line_179 : decode cX10_line 179 = .ok (.aload_n 0, 1) := by decide +kernel
theorem dX10_line_180 : decode cX10_line 180 = .ok (.getfield 228, 3) := by decide +kernel
theorem dX10_line_183 : decode cX10_line 183 = .ok (.ifCond .eq 8, 3) := by decide +kernel
theorem dX10_line_186 : decode cX10_line 186 = .ok (.aload_n 0, 1) := by decide +kernel
theorem dX10_line_187 : decode cX10_line 187 = .ok (.iconst 4, 1) := by decide +kernel
theorem dX10_line_188 : decode cX10_line 188 = .ok (.invokevirtual 183, 3) := by decide +kernel
theorem dX10_line_191 : decode cX10_line 191 = .ok (.aload_n 0, 1) := by decide +kernel
theorem dX10_line_192 : decode cX10_line 192 = .ok (.invokevirtual 176, 3) := by decide +kernel
theorem dX10_line_195 : decode cX10_line 195 = .ok (.ifCond .ne 4, 3) := by decide +kernel
theorem dX10_line_198 : decode cX10_line 198 = .ok (.return_, 1) := by decide +kernel
theorem dX10_line_199 : decode cX10_line 199 = .ok (.aload_n 0, 1) := by decide +kernel
theorem dX10_line_200 : decode cX10_line 200 = .ok (.iconst 1, 1) := by decide +kernel
theorem dX10_line_201 : decode cX10_line 201 = .ok (.putfield 228, 3) := by decide +kernel
theorem dX10_line_204 : decode cX10_line 204 = .ok (.aload_n 0, 1) := by decide +kernel
theorem dX10_line_205 : decode cX10_line 205 = .ok (.invokevirtual 180, 3) := by decide +kernel
theorem dX10_line_208 : decode cX10_line 208 = .ok (.aload_n 0, 1) := by decide +kernel
theorem dX10_line_209 : decode cX10_line 209 = .ok (.aload_n 0, 1) := by decide +kernel
theorem dX10_line_210 : decode cX10_line 210 = .ok (.getfield 59, 3) := by decide +kernel
theorem dX10_line_213 : decode cX10_line 213 = .ok (.iconst 0, 1) := by decide +kernel
theorem dX10_line_214 : decode cX10_line 214 = .ok (.invokevirtual 193, 3) := by decide +kernel
theorem dX10_line_217 : decode cX10_line 217 = .ok (.goto 253, 3) := by decide +kernel
theorem dX10_line_220 : decode cX10_line 220 = .ok (.aload_n 0, 1) := by decide +kernel
theorem dX10_line_221 : decode cX10_line 221 = .ok (.iconst 4, 1) := by decide +kernel
theorem dX10_line_222 : decode cX10_line 222 = .ok (.invokevirtual 213, 3) := by decide +kernel
theorem dX10_line_225 : decode cX10_line 225 = .ok (.ifCond .eq 61, 3) := by decide +kernel
theorem dX10_line_228 : decode cX10_line 228 = .ok (.aload_n 0, 1) := by decide +kernel
theorem dX10_line_229 : decode cX10_line 229 = .ok (.getfield 231, 3) := by decide +kernel
theorem dX10_line_232 : decode cX10_line 232 = .ok (.ifCond .eq 11, 3) := by decide +kernel
theorem dX10_line_235 : decode cX10_line 235 = .ok (.aload_n 0, 1) := by decide +kernel
theorem dX10_line_236 : decode cX10_line 236 = .ok (.iconst 4, 1) := by decide +kernel
theorem dX10_line_237 : decode cX10_line 237 = .ok (.invokevirtual 183, 3) := by decide +kernel
theorem dX10_line_240 : decode cX10_line 240 = .ok (.goto 15, 3) := by decide +kernel
theorem dX10_line_243 : decode cX10_line 243 = .ok (.aload_n 0, 1) := by decide +kernel
theorem dX10_line_244 : decode cX10_line 244 = .ok (.getfield 197, 3) := by decide +kernel
theorem dX10_line_247 : decode cX10_line 247 = .ok (.ifCond .eq 8, 3) := by decide +kernel
theorem dX10_line_250 : decode cX10_line 250 = .ok (.aload_n 0, 1) := by decide +kernel
theorem dX10_line_251 : decode cX10_line 251 = .ok (.iconst 5, 1) := by decide +kernel
theorem dX10_line_252 : decode cX10_line 252 = .ok (.invokevirtual 183, 3) := by decide +kernel
theorem dX10_line_255 : decode cX10_line 255 = .ok (.aload_n 0, 1) := by decide +kernel
theorem dX10_line_256 : decode cX10_line 256 = .ok (.invokevirtual 176, 3) := by decide +kernel
theorem dX10_line_259 : decode cX10_line 259 = .ok (.ifCond .ne 4, 3) := by decide +kernel
theorem dX10_line_262 : decode cX10_line 262 = .ok (.return_, 1) := by decide +kernel
theorem dX10_line_263 : decode cX10_line 263 = .ok (.aload_n 0, 1) := by decide +kernel
theorem dX10_line_264 : decode cX10_line 264 = .ok (.iconst 1, 1) := by decide +kernel
theorem dX10_line_265 : decode cX10_line 265 = .ok (.putfield 231, 3) := by decide +kernel
theorem dX10_line_268 : decode cX10_line 268 = .ok (.aload_n 0, 1) := by decide +kernel
theorem dX10_line_269 : decode cX10_line 269 = .ok (.invokevirtual 180, 3) := by decide +kernel
theorem dX10_line_272 : decode cX10_line 272 = .ok (.aload_n 0, 1) := by decide +kernel
theorem dX10_line_273 : decode cX10_line 273 = .ok (.aload_n 0, 1) := by decide +kernel
theorem dX10_line_274 : decode cX10_line 274 = .ok (.iconst 1, 1) := by decide +kernel
theorem dX10_line_275 : decode cX10_line 275 = .ok (.bipush 6, 2) := by decide +kernel
theorem dX10_line_277 : decode cX10_line 277 = .ok (.invokevirtual 189, 3) := by decide +kernel
theorem dX10_line_280 : decode cX10_line 280 = .ok (.putfield 201, 3) := by decide +kernel
theorem dX10_line_283 : decode cX10_line 283 = .ok (.goto 187, 3) := by decide +kernel
theorem dX10_line_286 : decode cX10_line 286 = .ok (.aload_n 0, 1) := by decide +kernel
theorem dX10_line_287 : decode cX10_line 287 = .ok (.iconst 5, 1) := by decide +kernel
theorem dX10_line_288 : decode cX10_line 288 = .ok (.invokevirtual 213, 3) := by decide +kernel
theorem dX10_line_291 : decode cX10_line 291 = .ok (.ifCond .eq 10, 3) := by decide +kernel
theorem dX10_line_294 : decode cX10_line 294 = .ok (.aload_n 0, 1) := by decide +kernel
theorem dX10_line_295 : decode cX10_line 295 = .ok (.invokevirtual 234, 3) := by decide +kernel
theorem dX10_line_298 : decode cX10_line 298 = .ok (.goto 172, 3) := by decide +kernel
theorem dX10_line_301 : decode cX10_line 301 = .ok (.aload_n 0, 1) := by decide +kernel
theorem dX10_line_302 : decode cX10_line 302 = .ok (.bipush 6, 2) := by decide +kernel
theorem dX10_line_304 : decode cX10_line 304 = .ok (.invokevirtual 213, 3) := by decide +kernel
theorem dX10_line_307 : decode cX10_line 307 = .ok (.ifCond .eq 42, 3) := by decide +kernel
theorem dX10_line_310 : decode cX10_line 310 = .ok (.aload_n 0, 1) := by decide +kernel
theorem dX10_line_311 : decode cX10_line 311 = .ok (.getfield 219, 3) := by decide +kernel
theorem dX10_line_314 : decode cX10_line 314 = .ok (.bipush 6, 2) := by decide +kernel
theorem dX10_line_316 : decode cX10_line 316 = .ok (.if_icmp .ne 8, 3) := by decide +kernel
theorem dX10_line_319 : decode cX10_line 319 = .ok (.aload_n 0, 1) := by decide +kernel
theorem dX10_line_320 : decode cX10_line 320 = .ok (.iconst 2, 1) := by decide +kernel
theorem dX10_line_321 : decode cX10_line 321 = .ok (.invokevirtual 183, 3) := by decide +kernel
theorem dX10_line_324 : decode cX10_line 324 = .ok (.aload_n 0, 1) := by decide +kernel
theorem dX10_line_325 : decode cX10_line 325 = .ok (.invokevirtual 176, 3) := by decide +kernel
theorem dX10_line_328 : decode cX10_line 328 = .ok (.ifCond .ne 4, 3) := by decide +kernel
theorem dX10_line_331 : decode cX10_line 331 = .ok (.return_, 1) := by decide +kernel
theorem dX10_line_332 : decode cX10_line 332 = .ok (.aload_n 0, 1) := by decide +kernel
theorem dX10_line_333 : decode cX10_line 333 = .ok (.invokevirtual 180, 3) := by decide +kernel
theorem dX10_line_336 : decode cX10_line 336 = .ok (.aload_n 0, 1) := by decide +kernel
theorem dX10_line_337 : decode cX10_line 337 = .ok (.dup, 1) := by decide +kernel
theorem dX10_line_338 : decode cX10_line 338 = .ok (.getfield 219, 3) := by decide +kernel
theorem dX10_line_341 : decode cX10_line 341 = .ok (.iconst 1, 1) := by decide +kernel
theorem dX10_line_342 : decode cX10_line 342 = .ok (.iadd, 1) := by decide +kernel
theorem dX10_line_343 : decode cX10_line 343 = .ok (.putfield 219, 3) := by decide +kernel
theorem dX10_line_346 : decode cX10_line 346 = .ok (.goto 124, 3) := by decide +kernel
theorem dX10_line_349 : decode cX10_line 349 = .ok (.aload_n 0, 1) := by decide +kernel
theorem dX10_line_350 : decode cX10_line 350 = .ok (.bipush 7, 2) := by decide +kernel
theorem dX10_line_352 : decode cX10_line 352 = .ok (.invokevirtual 213, 3) := by decide +kernel
theorem dX10_line_355 : decode cX10_line 355 = .ok (.ifCond .eq 10, 3) := by decide +kernel
theorem dX10_line_358 : decode cX10_line 358 = .ok (.aload_n 0, 1) := by decide +kernel
theorem dX10_line_359 : decode cX10_line 359 = .ok (.invokevirtual 237, 3) := by decide +kernel
theorem dX10_line_362 : decode cX10_line 362 = .ok (.goto 108, 3) := by decide +kernel
theorem dX10_line_365 : decode cX10_line 365 = .ok (.aload_n 0, 1) := by decide +kernel
theorem dX10_line_366 : decode cX10_line 366 = .ok (.bipush 8, 2) := by decide +kernel
theorem dX10_line_368 : decode cX10_line 368 = .ok (.invokevirtual 213, 3) := by decide +kernel
theorem dX10_line_371 : decode cX10_line 371 = .ok (.ifCond .eq 10, 3) := by decide +kernel
theorem dX10_line_374 : decode cX10_line 374 = .ok (.aload_n 0, 1) := by decide +kernel
theorem dX10_line_375 : decode cX10_line 375 = .ok (.invokevirtual 240, 3) := by decide +kernel
theorem dX10_line_378 : decode cX10_line 378 = .ok (.goto 92, 3) := by decide +kernel
theorem dX10_line_381 : decode cX10_line 381 = .ok (.aload_n 0, 1) := by decide +kernel
theorem dX10_line_382 : decode cX10_line 382 = .ok (.bipush 9, 2) := by decide +kernel
theorem dX10_line_384 : decode cX10_line 384 = .ok (.invokevirtual 213, 3) := by decide +kernel
theorem dX10_line_387 : decode cX10_line 387 = .ok (.ifCond .eq 10, 3) := by decide +kernel
theorem dX10_line_390 : decode cX10_line 390 = .ok (.aload_n 0, 1) := by decide +kernel
theorem dX10_line_391 : decode cX10_line 391 = .ok (.invokevirtual 243, 3) := by decide +kernel
theorem dX10_line_394 : decode cX10_line 394 = .ok (.goto 76, 3) := by decide +kernel
theorem dX10_line_397 : decode cX10_line 397 = .ok (.aload_n 0, 1) := by decide +kernel
theorem dX10_line_398 : decode cX10_line 398 = .ok (.bipush 10, 2) := by decide +kernel
theorem dX10_line_400 : decode cX10_line 400 = .ok (.invokevirtual 213, 3) := by decide +kernel
theorem dX10_line_403 : decode cX10_line 403 = .ok (.ifCond .eq 62, 3) := by decide +kernel
theorem dX10_line_406 : decode cX10_line 406 = .ok (.aload_n 0, 1) := by decide +kernel
theorem dX10_line_407 : decode cX10_line 407 = .ok (.invokevirtual 180, 3) := by decide +kernel
theorem dX10_line_410 : decode cX10_line 410 = .ok (.aload_n 0, 1) := by decide +kernel
theorem dX10_line_411 : decode cX10_line 411 = .ok (.iconst 0, 1) := by decide +kernel
theorem dX10_line_412 : decode cX10_line 412 = .ok (.iconst 4, 1) := by decide +kernel
theorem dX10_line_413 : decode cX10_line 413 = .ok (.invokevirtual 189, 3) := by decide +kernel
theorem dX10_line_416 : decode cX10_line 416 = .ok (.istore_n 1, 1) := by decide +kernel
theorem dX10_line_417 : decode cX10_line 417 = .ok (.aload_n 0, 1) := by decide +kernel
theorem dX10_line_418 : decode cX10_line 418 = .ok (.iconst 0, 1) := by decide +kernel
theorem dX10_line_419 : decode cX10_line 419 = .ok (.sipush 1000, 3) := by decide +kernel
theorem dX10_line_422 : decode cX10_line 422 = .ok (.invokevirtual 189, 3) := by decide +kernel
theorem dX10_line_425 : decode cX10_line 425 = .ok (.istore_n 2, 1) := by decide +kernel
theorem dX10_line_426 : decode cX10_line 426 = .ok (.aload_n 0, 1) := by decide +kernel
theorem dX10_line_427 : decode cX10_line 427 = .ok (.iconst 0, 1) := by decide +kernel
theorem dX10_line_428 : decode cX10_line 428 = .ok (.sipush 1000, 3) := by decide +kernel
theorem dX10_line_431 : decode cX10_line 431 = .ok (.invokevirtual 189, 3) := by decide +kernel
theorem dX10_line_434 : decode cX10_line 434 = .ok (.istore_n 3, 1) := by decide +kernel
theorem dX10_line_435 : decode cX10_line 435 = .ok (.aload_n 0, 1) := by decide +kernel
theorem dX10_line_436 : decode cX10_line 436 = .ok (.invokevirtual 176, 3) := by decide +kernel
theorem dX10_line_439 : decode cX10_line 439 = .ok (.ifCond .eq 23, 3) := by decide +kernel
theorem dX10_line_442 : decode cX10_line 442 = .ok (.aload_n 0, 1) := by decide +kernel
theorem dX10_line_443 : decode cX10_line 443 = .ok (.getfield 74, 3) := by decide +kernel
theorem dX10_line_446 : decode cX10_line 446 = .ok (.iconst 2, 1) := by decide +kernel
theorem dX10_line_447 : decode cX10_line 447 = .ok (.iload_n 1, 1) := by decide +kernel
theorem dX10_line_448 : decode cX10_line 448 = .ok (.imul, 1) := by decide +kernel
theorem dX10_line_449 : decode cX10_line 449 = .ok (.iload_n 2, 1) := by decide +kernel
theorem dX10_line_450 : decode cX10_line 450 = .ok (.iastore, 1) := by decide +kernel
theorem dX10_line_451 : decode cX10_line 451 = .ok (.aload_n 0, 1) := by decide +kernel
theorem dX10_line_452 : decode cX10_line 452 = .ok (.getfield 74, 3) := by decide +kernel
theorem dX10_line_455 : decode cX10_line 455 = .ok (.iconst 2, 1) := by decide +kernel
theorem dX10_line_456 : decode cX10_line 456 = .ok (.iload_n 1, 1) := by decide +kernel
theorem dX10_line_457 : decode cX10_line 457 = .ok (.imul, 1) := by decide +kernel
theorem dX10_line_458 : decode cX10_line 458 = .ok (.iconst 1, 1) := by decide +kernel
theorem dX10_line_459 : decode cX10_line 459 = .ok (.iadd, 1) := by decide +kernel
theorem dX10_line_460 : decode cX10_line 460 = .ok (.iload_n 3, 1) := by decide +kernel
theorem dX10_line_461 : decode cX10_line 461 = .ok (.iastore, 1) := by decide +kernel
theorem dX10_line_462 : decode cX10_line 462 = .ok (.goto 8, 3) := by decide +kernel
theorem dX10_line_465 : decode cX10_line 465 = .ok (.aload_n 0, 1) := by decide +kernel
theorem dX10_line_466 : decode cX10_line 466 = .ok (.iconst 1, 1) := by decide +kernel
theorem dX10_line_467 : decode cX10_line 467 = .ok (.invokevirtual 183, 3) := by decide +kernel
theorem dX10_line_470 : decode cX10_line 470 = .ok (.aload_n 0, 1) := by decide +kernel
theorem dX10_line_471 : decode cX10_line 471 = .ok (.aload_n 0, 1) := by decide +kernel
theorem dX10_line_472 : decode cX10_line 472 = .ok (.getfield 152, 3) := by decide +kernel
theorem dX10_line_475 : decode cX10_line 475 = .ok (.iconst 3, 1) := by decide +kernel
theorem dX10_line_476 : decode cX10_line 476 = .ok (.if_icmp .ne 7, 3) := by decide +kernel
theorem dX10_line_479 : decode cX10_line 479 = .ok (.iconst 1, 1) := by decide +kernel
theorem dX10_line_480 : decode cX10_line 480 = .ok (.goto 4, 3) := by decide +kernel
theorem dX10_line_483 : decode cX10_line 483 = .ok (.iconst 0, 1) := by decide +kernel
theorem dX10_line_484 : decode cX10_line 484 = .ok (.invokevirtual 246, 3) := by decide +kernel
theorem dX10_line_487 : decode cX10_line 487 = .ok (.return_, 1) := by decide +kernel
theorem dX10_village_0 : decode cX10_village 0 = .ok (.aload_n 0, 1) := by decide +kernel
theorem dX10_village_1 : decode cX10_village 1 = .ok (.iconst 0, 1) := by decide +kernel
theorem dX10_village_2 : decode cX10_village 2 = .ok (.putfield 122, 3) := by decide +kernel
theorem dX10_village_5 : decode cX10_village 5 = .ok (.aload_n 0, 1) := by decide +kernel
theorem dX10_village_6 : decode cX10_village 6 = .ok (.iload_n 1, 1) := by decide +kernel
theorem dX10_village_7 : decode cX10_village 7 = .ok (.ifCond .lt 15, 3) := by decide +kernel
theorem dX10_village_10 : decode cX10_village 10 = .ok (.iload_n 1, 1) := by decide +kernel
theorem dX10_village_11 : decode cX10_village 11 = .ok (.aload_n 0, 1) := by decide +kernel
theorem dX10_village_12 : decode cX10_village 12 = .ok (.getfield 125, 3) := by decide +kernel
theorem dX10_village_15 : decode cX10_village 15 = .ok (.if_icmp .gt 7, 3) := by decide +kernel
theorem dX10_village_18 : decode cX10_village 18 = .ok (.iconst 1, 1) := by decide +kernel
theorem dX10_village_19 : decode cX10_village 19 = .ok (.goto 4, 3) := by decide +kernel
theorem dX10_village_22 : decode cX10_village 22 = .ok (.iconst 0, 1) := by decide +kernel
theorem dX10_village_23 : decode cX10_village 23 = .ok (.iconst 1, 1) := by decide +kernel
theorem dX10_village_24 : decode cX10_village 24 = .ok (.invokevirtual 250, 3) := by decide +kernel
theorem dX10_village_27 : decode cX10_village 27 = .ok (.ifCond .ne 5, 3) := by decide +kernel
theorem dX10_village_30 : decode cX10_village 30 = .ok (.iconst 0, 1) := by decide +kernel
theorem dX10_village_31 : decode cX10_village 31 = .ok (.ireturn, 1) := by decide +kernel
theorem dX10_village_32 : decode cX10_village 32 = .ok (.aload_n 0, 1) := by decide +kernel
theorem dX10_village_33 : decode cX10_village 33 = .ok (.iconst 0, 1) := by decide +kernel
theorem dX10_village_34 : decode cX10_village 34 = .ok (.putfield 125, 3) := by decide +kernel
theorem dX10_village_37 : decode cX10_village 37 = .ok (.aload_n 0, 1) := by decide +kernel
theorem dX10_village_38 : decode cX10_village 38 = .ok (.iconst (-1), 1) := by decide +kernel
theorem dX10_village_39 : decode cX10_village 39 = .ok (.putfield 44, 3) := by decide +kernel
theorem dX10_village_42 : decode cX10_village 42 = .ok (.aload_n 0, 1) := by decide +kernel
theorem dX10_village_43 : decode cX10_village 43 = .ok (.iconst 0, 1) := by decide +kernel
theorem dX10_village_44 : decode cX10_village 44 = .ok (.putfield 173, 3) := by decide +kernel
theorem dX10_village_47 : decode cX10_village 47 = .ok (.aload_n 0, 1) := by decide +kernel
theorem dX10_village_48 : decode cX10_village 48 = .ok (.iload_n 1, 1) := by decide +kernel
theorem dX10_village_49 : decode cX10_village 49 = .ok (.putfield 132, 3) := by decide +kernel
theorem dX10_village_52 : decode cX10_village 52 = .ok (.aload_n 0, 1) := by decide +kernel
theorem dX10_village_53 : decode cX10_village 53 = .ok (.iconst 0, 1) := by decide +kernel
theorem dX10_village_54 : decode cX10_village 54 = .ok (.putfield 135, 3) := by decide +kernel
theorem dX10_village_57 : decode cX10_village 57 = .ok (.aload_n 0, 1) := by decide +kernel
theorem dX10_village_58 : decode cX10_village 58 = .ok (.invokevirtual 254, 3) := by decide +kernel
theorem dX10_village_61 : decode cX10_village 61 = .ok (.aload_n 0, 1) := by decide +kernel
theorem dX10_village_62 : decode cX10_village 62 = .ok (.invokevirtual 180, 3) := by decide +kernel
theorem dX10_village_65 : decode cX10_village 65 = .ok (.aload_n 0, 1) := by decide +kernel
theorem dX10_village_66 : decode cX10_village 66 = .ok (.invokevirtual 176, 3) := by decide +kernel
theorem dX10_village_69 : decode cX10_village 69 = .ok (.ifCond .eq 17, 3) := by decide +kernel
theorem dX10_village_72 : decode cX10_village 72 = .ok (.aload_n 0, 1) := by decide +kernel
theorem dX10_village_73 : decode cX10_village 73 = .ok (.getfield 152, 3) := by decide +kernel
theorem dX10_village_76 : decode cX10_village 76 = .ok (.ifCond .eq 10, 3) := by decide +kernel
theorem dX10_village_79 : decode cX10_village 79 = .ok (.aload_n 0, 1) := by decide +kernel
theorem dX10_village_80 : decode cX10_village 80 = .ok (.invokevirtual 257, 3) := by decide +kernel
theorem dX10_village_83 : decode cX10_village 83 = .ok (.goto (-18), 3) := by decide +kernel
theorem dX10_village_86 : decode cX10_village 86 = .ok (.aload_n 0, 1) := by decide +kernel
theorem dX10_village_87 : decode cX10_village 87 = .ok (.invokevirtual 176, 3) := by decide +kernel
theorem dX10_village_90 : decode cX10_village 90 = .ok (.ifCond .ne 18, 3) := by decide +kernel
theorem dX10_village_93 : decode cX10_village 93 = .ok (.aload_n 0, 1) := by decide +kernel
theorem dX10_village_94 : decode cX10_village 94 = .ok (.getfield 47, 3) := by decide +kernel
theorem dX10_village_97 : decode cX10_village 97 = .ok (.iconst 0, 1) := by decide +kernel
theorem dX10_village_98 : decode cX10_village 98 = .ok (.dup2, 1) := by decide +kernel
theorem dX10_village_99 : decode cX10_village 99 = .ok (.iaload, 1) := by decide +kernel
theorem dX10_village_100 : decode cX10_village 100 = .ok (.iconst 1, 1) := by decide +kernel
theorem dX10_village_101 : decode cX10_village 101 = .ok (.iadd, 1) := by decide +kernel
theorem dX10_village_102 : decode cX10_village 102 = .ok (.iastore, 1) := by decide +kernel
theorem dX10_village_103 : decode cX10_village 103 = .ok (.aload_n 0, 1) := by decide +kernel
theorem dX10_village_104 : decode cX10_village 104 = .ok (.getfield 173, 3) := by decide +kernel
theorem dX10_village_107 : decode cX10_village 107 = .ok (.ireturn, 1) := by decide +kernel
theorem dX10_village_108 : decode cX10_village 108 = .ok (.aload_n 0, 1) := by decide +kernel
theorem dX10_village_109 : decode cX10_village 109 = .ok (.aload_n 0, 1) := by decide +kernel
theorem dX10_village_110 : decode cX10_village 110 = .ok (.getfield 210, 3) := by decide +kernel
theorem dX10_village_113 : decode cX10_village 113 = .ok (.putfield 260, 3) := by decide +kernel
theorem dX10_village_116 : decode cX10_village 116 = .ok (.aload_n 0, 1) := by decide +kernel
theorem dX10_village_117 : decode cX10_village 117 = .ok (.aload_n 0, 1) := by decide +kernel
theorem dX10_village_118 : decode cX10_village 118 = .ok (.getfield 225, 3) := by decide +kernel
theorem dX10_village_121 : decode cX10_village 121 = .ok (.putfield 263, 3) := by decide +kernel
theorem dX10_village_124 : decode cX10_village 124 = .ok (.aload_n 0, 1) := by decide +kernel
theorem dX10_village_125 : decode cX10_village 125 = .ok (.aload_n 0, 1) := by decide +kernel
theorem dX10_village_126 : decode cX10_village 126 = .ok (.getfield 201, 3) := by decide +kernel
theorem dX10_village_129 : decode cX10_village 129 = .ok (.putfield 7, 3) := by decide +kernel
theorem dX10_village_132 : decode cX10_village 132 = .ok (.aload_n 0, 1) := by decide +kernel
theorem dX10_village_133 : decode cX10_village 133 = .ok (.aload_n 0, 1) := by decide +kernel
theorem dX10_village_134 : decode cX10_village 134 = .ok (.getfield 219, 3) := by decide +kernel
theorem dX10_village_137 : decode cX10_village 137 = .ok (.putfield 266, 3) := by decide +kernel
theorem dX10_village_140 : decode cX10_village 140 = .ok (.aload_n 0, 1) := by decide +kernel
theorem dX10_village_141 : decode cX10_village 141 = .ok (.aload_n 0, 1) := by decide +kernel
theorem dX10_village_142 : decode cX10_village 142 = .ok (.getfield 207, 3) := by decide +kernel
theorem dX10_village_145 : decode cX10_village 145 = .ok (.putfield 269, 3) := by decide +kernel
theorem dX10_village_148 : decode cX10_village 148 = .ok (.aload_n 0, 1) := by decide +kernel
theorem dX10_village_149 : decode cX10_village 149 = .ok (.aload_n 0, 1) := by decide +kernel
theorem dX10_village_150 : decode cX10_village 150 = .ok (.getfield 216, 3) := by decide +kernel
theorem dX10_village_153 : decode cX10_village 153 = .ok (.putfield 272, 3) := by decide +kernel
theorem dX10_village_156 : decode cX10_village 156 = .ok (.aload_n 0, 1) := by decide +kernel
theorem dX10_village_157 : decode cX10_village 157 = .ok (.aload_n 0, 1) := by decide +kernel
theorem dX10_village_158 : decode cX10_village 158 = .ok (.getfield 50, 3) := by decide +kernel
theorem dX10_village_161 : decode cX10_village 161 = .ok (.aload_n 0, 1) := by decide +kernel
theorem dX10_village_162 : decode cX10_village 162 = .ok (.getfield 13, 3) := by decide +kernel
theorem dX10_village_165 : decode cX10_village 165 = .ok (.invokevirtual 275, 3) := by decide +kernel
theorem dX10_village_168 : decode cX10_village 168 = .ok (.aload_n 0, 1) := by decide +kernel
theorem dX10_village_169 : decode cX10_village 169 = .ok (.aload_n 0, 1) := by decide +kernel
theorem dX10_village_170 : decode cX10_village 170 = .ok (.getfield 53, 3) := by decide +kernel
theorem dX10_village_173 : decode cX10_village 173 = .ok (.aload_n 0, 1) := by decide +kernel
theorem dX10_village_174 : decode cX10_village 174 = .ok (.getfield 17, 3) := by decide +kernel
theorem dX10_village_177 : decode cX10_village 177 = .ok (.invokevirtual 275, 3) := by decide +kernel
theorem dX10_village_180 : decode cX10_village 180 = .ok (.aload_n 0, 1) := by decide +kernel
theorem dX10_village_181 : decode cX10_village 181 = .ok (.aload_n 0, 1) := by decide +kernel
theorem dX10_village_182 : decode cX10_village 182 = .ok (.getfield 56, 3) := by decide +kernel
theorem dX10_village_185 : decode cX10_village 185 = .ok (.aload_n 0, 1) := by decide +kernel
theorem dX10_village_186 : decode cX10_village 186 = .ok (.getfield 20, 3) := by decide +kernel
theorem dX10_village_189 : decode cX10_village 189 = .ok (.invokevirtual 275, 3) := by decide +kernel
theorem dX10_village_192 : decode cX10_village 192 = .ok (.aload_n 0, 1) := by decide +kernel
theorem dX10_village_193 : decode cX10_village 193 = .ok (.aload_n 0, 1) := by decide +kernel
theorem dX10_village_194 : decode cX10_village 194 = .ok (.getfield 59, 3) := by decide +kernel
theorem dX10_village_197 : decode cX10_village 197 = .ok (.aload_n 0, 1) := by decide +kernel
theorem dX10_village_198 : decode cX10_village 198 = .ok (.getfield 23, 3) := by decide +kernel
theorem dX10_village_201 : decode cX10_village 201 = .ok (.invokevirtual 275, 3) := by decide +kernel
theorem dX10_village_204 : decode cX10_village 204 = .ok (.aload_n 0, 1) := by decide +kernel
theorem dX10_village_205 : decode cX10_village 205 = .ok (.aload_n 0, 1) := by decide +kernel
theorem dX10_village_206 : decode cX10_village 206 = .ok (.getfield 62, 3) := by decide +kernel
theorem dX10_village_209 : decode cX10_village 209 = .ok (.aload_n 0, 1) := by decide +kernel
theorem dX10_village_210 : decode cX10_village 210 = .ok (.getfield 26, 3) := by decide +kernel
theorem dX10_village_213 : decode cX10_village 213 = .ok (.invokevirtual 275, 3) := by decide +kernel
theorem dX10_village_216 : decode cX10_village 216 = .ok (.aload_n 0, 1) := by decide +kernel
theorem dX10_village_217 : decode cX10_village 217 = .ok (.aload_n 0, 1) := by decide +kernel
theorem dX10_village_218 : decode cX10_village 218 = .ok (.getfield 65, 3) := by decide +kernel
theorem dX10_village_221 : decode cX10_village 221 = .ok (.aload_n 0, 1) := by decide +kernel
theorem dX10_village_222 : decode cX10_village 222 = .ok (.getfield 29, 3) := by decide +kernel
theorem dX10_village_225 : decode cX10_village 225 = .ok (.invokevirtual 275, 3) := by decide +kernel
theorem dX10_village_228 : decode cX10_village 228 = .ok (.aload_n 0, 1) := by decide +kernel
theorem dX10_village_229 : decode cX10_village 229 = .ok (.aload_n 0, 1) := by decide +kernel
theorem dX10_village_230 : decode cX10_village 230 = .ok (.getfield 68, 3) := by decide +kernel
theorem dX10_village_233 : decode cX10_village 233 = .ok (.aload_n 0, 1) := by decide +kernel
theorem dX10_village_234 : decode cX10_village 234 = .ok (.getfield 32, 3) := by decide +kernel
theorem dX10_village_237 : decode cX10_village 237 = .ok (.invokevirtual 275, 3) := by decide +kernel
theorem dX10_village_240 : decode cX10_village 240 = .ok (.aload_n 0, 1) := by decide +kernel
theorem dX10_village_241 : decode cX10_village 241 = .ok (.aload_n 0, 1) := by decide +kernel
theorem dX10_village_242 : decode cX10_village 242 = .ok (.getfield 74, 3) := by decide +kernel
theorem dX10_village_245 : decode cX10_village 245 = .ok (.aload_n 0, 1) := by decide +kernel
theorem dX10_village_246 : decode cX10_village 246 = .ok (.getfield 38, 3) := by decide +kernel
theorem dX10_village_249 : decode cX10_village 249 = .ok (.invokevirtual 275, 3) := by decide +kernel
theorem dX10_village_252 : decode cX10_village 252 = .ok (.iconst 0, 1) := by decide +kernel
theorem dX10_village_253 : decode cX10_village 253 = .ok (.istore_n 2, 1) := by decide +kernel
theorem dX10_village_254 : decode cX10_village 254 = .ok (.iload_n 2, 1) := by decide +kernel
theorem dX10_village_255 : decode cX10_village 255 = .ok (.bipush 6, 2) := by decide +kernel
theorem dX10_village_257 : decode cX10_village 257 = .ok (.if_icmp .ge 73, 3) := by decide +kernel
theorem dX10_village_260 : decode cX10_village 260 = .ok (.iconst 0, 1) := by decide +kernel
theorem dX10_village_261 : decode cX10_village 261 = .ok (.istore_n 3, 1) := by decide +kernel
theorem dX10_village_262 : decode cX10_village 262 = .ok (.iconst 0, 1) := by decide +kernel
theorem dX10_village_263 : decode cX10_village 263 = .ok (.istore 4, 2) := by decide +kernel
theorem dX10_village_265 : decode cX10_village 265 = .ok (.iload 4, 2) := by decide +kernel
theorem dX10_village_267 : decode cX10_village 267 = .ok (.bipush 24, 2) := by decide +kernel
theorem dX10_village_269 : decode cX10_village 269 = .ok (.if_icmp .ge 55, 3) := by decide +kernel
theorem dX10_village_272 : decode cX10_village 272 = .ok (.aload_n 0, 1) := by decide +kernel
theorem dX10_village_273 : decode cX10_village 273 = .ok (.getfield 71, 3) := by decide +kernel
theorem dX10_village_276 : decode cX10_village 276 = .ok (.bipush 24, 2) := by decide +kernel
theorem dX10_village_278 : decode cX10_village 278 = .ok (.iload_n 2, 1) := by decide +kernel
theorem dX10_village_279 : decode cX10_village 279 = .ok (.imul, 1) := by decide +kernel
theorem dX10_village_280 : decode cX10_village 280 = .ok (.iload 4, 2) := by decide +kernel
theorem dX10_village_282 : decode cX10_village 282 = .ok (.iadd, 1) := by decide +kernel
theorem dX10_village_283 : decode cX10_village 283 = .ok (.iaload, 1) := by decide +kernel
theorem dX10_village_284 : decode cX10_village 284 = .ok (.iconst (-1), 1) := by decide +kernel
theorem dX10_village_285 : decode cX10_village 285 = .ok (.if_icmp .ne 7, 3) := by decide +kernel
theorem dX10_village_288 : decode cX10_village 288 = .ok (.iload_n 3, 1) := by decide +kernel
theorem dX10_village_289 : decode cX10_village 289 = .ok (.goto 15, 3) := by decide +kernel
theorem dX10_village_292 : decode cX10_village 292 = .ok (.aload_n 0, 1) := by decide +kernel
theorem dX10_village_293 : decode cX10_village 293 = .ok (.getfield 71, 3) := by decide +kernel
theorem dX10_village_296 : decode cX10_village 296 = .ok (.bipush 24, 2) := by decide +kernel
theorem dX10_village_298 : decode cX10_village 298 = .ok (.iload_n 2, 1) := by decide +kernel
theorem dX10_village_299 : decode cX10_village 299 = .ok (.imul, 1) := by decide +kernel
theorem dX10_village_300 : decode cX10_village 300 = .ok (.iload 4, 2) := by decide +kernel
theorem dX10_village_302 : decode cX10_village 302 = .ok (.iadd, 1) := by decide +kernel
theorem dX10_village_303 : decode cX10_village 303 = .ok (.iaload, 1) := by decide +kernel
theorem dX10_village_304 : decode cX10_village 304 = .ok (.istore_n 3, 1) := by decide +kernel
theorem dX10_village_305 : decode cX10_village 305 = .ok (.aload_n 0, 1) := by decide +kernel
theorem dX10_village_306 : decode cX10_village 306 = .ok (.getfield 35, 3) := by decide +kernel
theorem dX10_village_309 : decode cX10_village 309 = .ok (.bipush 24, 2) := by decide +kernel
theorem dX10_village_311 : decode cX10_village 311 = .ok (.iload_n 2, 1) := by decide +kernel
theorem dX10_village_312 : decode cX10_village 312 = .ok (.imul, 1) := by decide +kernel
theorem dX10_village_313 : decode cX10_village 313 = .ok (.iload 4, 2) := by decide +kernel
theorem dX10_village_315 : decode cX10_village 315 = .ok (.iadd, 1) := by decide +kernel
theorem dX10_village_316 : decode cX10_village 316 = .ok (.iload_n 3, 1) := by decide +kernel
theorem dX10_village_317 : decode cX10_village 317 = .ok (.iastore, 1) := by decide +kernel
theorem dX10_village_318 : decode cX10_village 318 = .ok (.iinc 4 1, 3) := by decide +kernel
theorem dX10_village_321 : decode cX10_village 321 = .ok (.goto (-56), 3) := by decide +kernel
theorem dX10_village_324 : decode cX10_village 324 = .ok (.iinc 2 1, 3) := by decide +kernel
theorem dX10_village_327 : decode cX10_village 327 = .ok (.goto (-73), 3) := by decide +kernel
theorem dX10_village_330 : decode cX10_village 330 = .ok (.aload_n 0, 1) := by decide +kernel
theorem dX10_village_331 : decode cX10_village 331 = .ok (.iconst 0, 1) := by decide +kernel
theorem dX10_village_332 : decode cX10_village 332 = .ok (.putfield 279, 3) := by decide +kernel
theorem dX10_village_335 : decode cX10_village 335 = .ok (.aload_n 0, 1) := by decide +kernel
theorem dX10_village_336 : decode cX10_village 336 = .ok (.iconst 0, 1) := by decide +kernel
theorem dX10_village_337 : decode cX10_village 337 = .ok (.putfield 282, 3) := by decide +kernel
theorem dX10_village_340 : decode cX10_village 340 = .ok (.aload_n 0, 1) := by decide +kernel
theorem dX10_village_341 : decode cX10_village 341 = .ok (.iconst 0, 1) := by decide +kernel
theorem dX10_village_342 : decode cX10_village 342 = .ok (.putfield 285, 3) := by decide +kernel
theorem dX10_village_345 : decode cX10_village 345 = .ok (.aload_n 0, 1) := by decide +kernel
theorem dX10_village_346 : decode cX10_village 346 = .ok (.iconst (-1), 1) := by decide +kernel
theorem dX10_village_347 : decode cX10_village 347 = .ok (.putfield 113, 3) := by decide +kernel
theorem dX10_village_350 : decode cX10_village 350 = .ok (.aload_n 0, 1) := by decide +kernel
theorem dX10_village_351 : decode cX10_village 351 = .ok (.iconst 0, 1) := by decide +kernel
theorem dX10_village_352 : decode cX10_village 352 = .ok (.putfield 288, 3) := by decide +kernel
theorem dX10_village_355 : decode cX10_village 355 = .ok (.iconst 0, 1) := by decide +kernel
theorem dX10_village_356 : decode cX10_village 356 = .ok (.ireturn, 1) := by decide +kernel
theorem dX10_way_0 : decode cX10_way 0 = .ok (.aload_n 0, 1) := by decide +kernel
theorem dX10_way_1 : decode cX10_way 1 = .ok (.iconst 0, 1) := by decide +kernel
theorem dX10_way_2 : decode cX10_way 2 = .ok (.putfield 122, 3) := by decide +kernel
theorem dX10_way_5 : decode cX10_way 5 = .ok (.aload_n 0, 1) := by decide +kernel
theorem dX10_way_6 : decode cX10_way 6 = .ok (.iload_n 1, 1) := by decide +kernel
theorem dX10_way_7 : decode cX10_way 7 = .ok (.ifCond .lt 15, 3) := by decide +kernel
theorem dX10_way_10 : decode cX10_way 10 = .ok (.iload_n 1, 1) := by decide +kernel
theorem dX10_way_11 : decode cX10_way 11 = .ok (.aload_n 0, 1) := by decide +kernel
theorem dX10_way_12 : decode cX10_way 12 = .ok (.getfield 321, 3) := by decide +kernel
theorem dX10_way_15 : decode cX10_way 15 = .ok (.if_icmp .ge 7, 3) := by decide +kernel
theorem dX10_way_18 : decode cX10_way 18 = .ok (.iconst 1, 1) := by decide +kernel
theorem dX10_way_19 : decode cX10_way 19 = .ok (.goto 4, 3) := by decide +kernel
theorem dX10_way_22 : decode cX10_way 22 = .ok (.iconst 0, 1) := by decide +kernel
theorem dX10_way_23 : decode cX10_way 23 = .ok (.iconst 1, 1) := by decide +kernel
theorem dX10_way_24 : decode cX10_way 24 = .ok (.invokevirtual 250, 3) := by decide +kernel
theorem dX10_way_27 : decode cX10_way 27 = .ok (.ifCond .eq 12, 3) := by decide +kernel
theorem dX10_way_30 : decode cX10_way 30 = .ok (.aload_n 0, 1) := by decide +kernel
theorem dX10_way_31 : decode cX10_way 31 = .ok (.getfield 80, 3) := by decide +kernel
theorem dX10_way_34 : decode cX10_way 34 = .ok (.iload_n 1, 1) := by decide +kernel
theorem dX10_way_35 : decode cX10_way 35 = .ok (.iaload, 1) := by decide +kernel
theorem dX10_way_36 : decode cX10_way 36 = .ok (.goto 4, 3) := by decide +kernel
theorem dX10_way_39 : decode cX10_way 39 = .ok (.iconst 0, 1) := by decide +kernel
theorem dX10_way_40 : decode cX10_way 40 = .ok (.ireturn, 1) := by decide +kernel
theorem dX10_where_0 : decode cX10_where 0 = .ok (.aload_n 0, 1) := by decide +kernel
theorem dX10_where_1 : decode cX10_where 1 = .ok (.iconst 0, 1) := by decide +kernel
theorem dX10_where_2 : decode cX10_where 2 = .ok (.putfield 122, 3) := by decide +kernel
theorem dX10_where_5 : decode cX10_where 5 = .ok (.aload_n 0, 1) := by decide +kernel
theorem dX10_where_6 : decode cX10_where 6 = .ok (.iload_n 1, 1) := by decide +kernel
theorem dX10_where_7 : decode cX10_where 7 = .ok (.iload_n 2, 1) := by decide +kernel
theorem dX10_where_8 : decode cX10_where 8 = .ok (.invokevirtual 298, 3) := by decide +kernel
theorem dX10_where_11 : decode cX10_where 11 = .ok (.ifCond .eq 17, 3) := by decide +kernel
theorem dX10_where_14 : decode cX10_where 14 = .ok (.aload_n 0, 1) := by decide +kernel
theorem dX10_where_15 : decode cX10_where 15 = .ok (.getfield 35, 3) := by decide +kernel
theorem dX10_where_18 : decode cX10_where 18 = .ok (.bipush 24, 2) := by decide +kernel
theorem dX10_where_20 : decode cX10_where 20 = .ok (.iload_n 1, 1) := by decide +kernel
theorem dX10_where_21 : decode cX10_where 21 = .ok (.imul, 1) := by decide +kernel
theorem dX10_where_22 : decode cX10_where 22 = .ok (.iload_n 2, 1) := by decide +kernel
theorem dX10_where_23 : decode cX10_where 23 = .ok (.iadd, 1) := by decide +kernel
theorem dX10_where_24 : decode cX10_where 24 = .ok (.iaload, 1) := by decide +kernel
theorem dX10_where_25 : decode cX10_where 25 = .ok (.goto 4, 3) := by decide +kernel
theorem dX10_where_28 : decode cX10_where 28 = .ok (.iconst 0, 1) := by decide +kernel
theorem dX10_where_29 : decode cX10_where 29 = .ok (.ireturn, 1) := by decide +kernel
theorem dX10_word_0 : decode cX10_word 0 = .ok (.aload_n 0, 1) := by decide +kernel
theorem dX10_word_1 : decode cX10_word 1 = .ok (.iconst 0, 1) := by decide +kernel
theorem dX10_word_2 : decode cX10_word 2 = .ok (.putfield 122, 3) := by decide +kernel
theorem dX10_word_5 : decode cX10_word 5 = .ok (.aload_n 0, 1) := by decide +kernel
theorem dX10_word_6 : decode cX10_word 6 = .ok (.iload_n 1, 1) := by decide +kernel
theorem dX10_word_7 : decode cX10_word 7 = .ok (.ifCond .lt 39, 3) := by decide +kernel
theorem dX10_word_10 : decode cX10_word 10 = .ok (.iload_n 1, 1) := by decide +kernel
theorem dX10_word_11 : decode cX10_word 11 = .ok (.aload_n 0, 1) := by decide +kernel
theorem dX10_word_12 : decode cX10_word 12 = .ok (.getfield 260, 3) := by decide +kernel
theorem dX10_word_15 : decode cX10_word 15 = .ok (.if_icmp .ge 31, 3) := by decide +kernel
theorem dX10_word_18 : decode cX10_word 18 = .ok (.iload_n 2, 1) := by decide +kernel
theorem dX10_word_19 : decode cX10_word 19 = .ok (.iconst 0, 1) := by decide +kernel
theorem dX10_word_20 : decode cX10_word 20 = .ok (.iconst 2, 1) := by decide +kernel
theorem dX10_word_21 : decode cX10_word 21 = .ok (.invokestatic 291, 3) := by decide +kernel
theorem dX10_word_24 : decode cX10_word 24 = .ok (.ifCond .eq 22, 3) := by decide +kernel
theorem dX10_word_27 : decode cX10_word 27 = .ok (.iload_n 3, 1) := by decide +kernel
theorem dX10_word_28 : decode cX10_word 28 = .ok (.iconst 0, 1) := by decide +kernel
theorem dX10_word_29 : decode cX10_word 29 = .ok (.iconst 4, 1) := by decide +kernel
theorem dX10_word_30 : decode cX10_word 30 = .ok (.invokestatic 291, 3) := by decide +kernel
theorem dX10_word_33 : decode cX10_word 33 = .ok (.ifCond .eq 13, 3) := by decide +kernel
theorem dX10_word_36 : decode cX10_word 36 = .ok (.iload 4, 2) := by decide +kernel
theorem dX10_word_38 : decode cX10_word 38 = .ok (.iconst (-1), 1) := by decide +kernel
theorem dX10_word_39 : decode cX10_word 39 = .ok (.if_icmp .lt 7, 3) := by decide +kernel
theorem dX10_word_42 : decode cX10_word 42 = .ok (.iconst 1, 1) := by decide +kernel
theorem dX10_word_43 : decode cX10_word 43 = .ok (.goto 4, 3) := by decide +kernel
theorem dX10_word_46 : decode cX10_word 46 = .ok (.iconst 0, 1) := by decide +kernel
theorem dX10_word_47 : decode cX10_word 47 = .ok (.iconst 1, 1) := by decide +kernel
theorem dX10_word_48 : decode cX10_word 48 = .ok (.invokevirtual 250, 3) := by decide +kernel
theorem dX10_word_51 : decode cX10_word 51 = .ok (.ifCond .ne 5, 3) := by decide +kernel
theorem dX10_word_54 : decode cX10_word 54 = .ok (.iconst 0, 1) := by decide +kernel
theorem dX10_word_55 : decode cX10_word 55 = .ok (.ireturn, 1) := by decide +kernel
theorem dX10_word_56 : decode cX10_word 56 = .ok (.aload_n 0, 1) := by decide +kernel
theorem dX10_word_57 : decode cX10_word 57 = .ok (.iload_n 1, 1) := by decide +kernel
theorem dX10_word_58 : decode cX10_word 58 = .ok (.iconst 5, 1) := by decide +kernel
theorem dX10_word_59 : decode cX10_word 59 = .ok (.iload_n 2, 1) := by decide +kernel
theorem dX10_word_60 : decode cX10_word 60 = .ok (.imul, 1) := by decide +kernel
theorem dX10_word_61 : decode cX10_word 61 = .ok (.iload_n 3, 1) := by decide +kernel
theorem dX10_word_62 : decode cX10_word 62 = .ok (.iadd, 1) := by decide +kernel
theorem dX10_word_63 : decode cX10_word 63 = .ok (.invokevirtual 317, 3) := by decide +kernel
theorem dX10_word_66 : decode cX10_word 66 = .ok (.aload_n 0, 1) := by decide +kernel
theorem dX10_word_67 : decode cX10_word 67 = .ok (.iload 4, 2) := by decide +kernel
theorem dX10_word_69 : decode cX10_word 69 = .ok (.aload_n 0, 1) := by decide +kernel
theorem dX10_word_70 : decode cX10_word 70 = .ok (.getfield 305, 3) := by decide +kernel
theorem dX10_word_73 : decode cX10_word 73 = .ok (.if_icmp .ge 7, 3) := by decide +kernel
theorem dX10_word_76 : decode cX10_word 76 = .ok (.iconst 1, 1) := by decide +kernel
theorem dX10_word_77 : decode cX10_word 77 = .ok (.goto 4, 3) := by decide +kernel
theorem dX10_word_80 : decode cX10_word 80 = .ok (.iconst 0, 1) := by decide +kernel
theorem dX10_word_81 : decode cX10_word 81 = .ok (.iconst 1, 1) := by decide +kernel
theorem dX10_word_82 : decode cX10_word 82 = .ok (.invokevirtual 250, 3) := by decide +kernel
theorem dX10_word_85 : decode cX10_word 85 = .ok (.ifCond .ne 5, 3) := by decide +kernel
theorem dX10_word_88 : decode cX10_word 88 = .ok (.iconst 0, 1) := by decide +kernel
theorem dX10_word_89 : decode cX10_word 89 = .ok (.ireturn, 1) := by decide +kernel
theorem dX10_word_90 : decode cX10_word 90 = .ok (.iload 4, 2) := by decide +kernel
theorem dX10_word_92 : decode cX10_word 92 = .ok (.iconst (-1), 1) := by decide +kernel
theorem dX10_word_93 : decode cX10_word 93 = .ok (.if_icmp .ne 10, 3) := by decide +kernel
theorem dX10_word_96 : decode cX10_word 96 = .ok (.aload_n 0, 1) := by decide +kernel
theorem dX10_word_97 : decode cX10_word 97 = .ok (.getfield 305, 3) := by decide +kernel
theorem dX10_word_100 : decode cX10_word 100 = .ok (.goto 10, 3) := by decide +kernel
theorem dX10_word_103 : decode cX10_word 103 = .ok (.aload_n 0, 1) := by decide +kernel
theorem dX10_word_104 : decode cX10_word 104 = .ok (.getfield 77, 3) := by decide +kernel
theorem dX10_word_107 : decode cX10_word 107 = .ok (.iload 4, 2) := by decide +kernel
theorem dX10_word_109 : decode cX10_word 109 = .ok (.iaload, 1) := by decide +kernel
theorem dX10_word_110 : decode cX10_word 110 = .ok (.ireturn, 1) := by decide +kernel
theorem dX10_worlds_0 : decode cX10_worlds 0 = .ok (.aload_n 0, 1) := by decide +kernel
theorem dX10_worlds_1 : decode cX10_worlds 1 = .ok (.iconst 0, 1) := by decide +kernel
theorem dX10_worlds_2 : decode cX10_worlds 2 = .ok (.putfield 122, 3) := by decide +kernel
theorem dX10_worlds_5 : decode cX10_worlds 5 = .ok (.aload_n 0, 1) := by decide +kernel
theorem dX10_worlds_6 : decode cX10_worlds 6 = .ok (.iload_n 1, 1) := by decide +kernel
theorem dX10_worlds_7 : decode cX10_worlds 7 = .ok (.ifCond .le 25, 3) := by decide +kernel
theorem dX10_worlds_10 : decode cX10_worlds 10 = .ok (.iload_n 1, 1) := by decide +kernel
theorem dX10_worlds_11 : decode cX10_worlds 11 = .ok (.iconst 1, 1) := by decide +kernel
theorem dX10_worlds_12 : decode cX10_worlds 12 = .ok (.aload_n 0, 1) := by decide +kernel
theorem dX10_worlds_13 : decode cX10_worlds 13 = .ok (.getfield 269, 3) := by decide +kernel
theorem dX10_worlds_16 : decode cX10_worlds 16 = .ok (.ishl, 1) := by decide +kernel
theorem dX10_worlds_17 : decode cX10_worlds 17 = .ok (.if_icmp .ge 15, 3) := by decide +kernel
theorem dX10_worlds_20 : decode cX10_worlds 20 = .ok (.iload_n 1, 1) := by decide +kernel
theorem dX10_worlds_21 : decode cX10_worlds 21 = .ok (.invokestatic 295, 3) := by decide +kernel
theorem dX10_worlds_24 : decode cX10_worlds 24 = .ok (.iconst 4, 1) := by decide +kernel
theorem dX10_worlds_25 : decode cX10_worlds 25 = .ok (.if_icmp .gt 7, 3) := by decide +kernel
theorem dX10_worlds_28 : decode cX10_worlds 28 = .ok (.iconst 1, 1) := by decide +kernel
theorem dX10_worlds_29 : decode cX10_worlds 29 = .ok (.goto 4, 3) := by decide +kernel
theorem dX10_worlds_32 : decode cX10_worlds 32 = .ok (.iconst 0, 1) := by decide +kernel
theorem dX10_worlds_33 : decode cX10_worlds 33 = .ok (.iconst 1, 1) := by decide +kernel
theorem dX10_worlds_34 : decode cX10_worlds 34 = .ok (.invokevirtual 250, 3) := by decide +kernel
theorem dX10_worlds_37 : decode cX10_worlds 37 = .ok (.ifCond .ne 5, 3) := by decide +kernel
theorem dX10_worlds_40 : decode cX10_worlds 40 = .ok (.iconst 0, 1) := by decide +kernel
theorem dX10_worlds_41 : decode cX10_worlds 41 = .ok (.ireturn, 1) := by decide +kernel
theorem dX10_worlds_42 : decode cX10_worlds 42 = .ok (.aload_n 0, 1) := by decide +kernel
theorem dX10_worlds_43 : decode cX10_worlds 43 = .ok (.iload_n 1, 1) := by decide +kernel
theorem dX10_worlds_44 : decode cX10_worlds 44 = .ok (.putfield 282, 3) := by decide +kernel
theorem dX10_worlds_47 : decode cX10_worlds 47 = .ok (.aload_n 0, 1) := by decide +kernel
theorem dX10_worlds_48 : decode cX10_worlds 48 = .ok (.iconst 1, 1) := by decide +kernel
theorem dX10_worlds_49 : decode cX10_worlds 49 = .ok (.iconst 1, 1) := by decide +kernel
theorem dX10_worlds_50 : decode cX10_worlds 50 = .ok (.iload_n 1, 1) := by decide +kernel
theorem dX10_worlds_51 : decode cX10_worlds 51 = .ok (.invokestatic 295, 3) := by decide +kernel
theorem dX10_worlds_54 : decode cX10_worlds 54 = .ok (.ishl, 1) := by decide +kernel
theorem dX10_worlds_55 : decode cX10_worlds 55 = .ok (.ishl, 1) := by decide +kernel
theorem dX10_worlds_56 : decode cX10_worlds 56 = .ok (.iconst 1, 1) := by decide +kernel
theorem dX10_worlds_57 : decode cX10_worlds 57 = .ok (.isub, 1) := by decide +kernel
theorem dX10_worlds_58 : decode cX10_worlds 58 = .ok (.putfield 285, 3) := by decide +kernel
theorem dX10_worlds_61 : decode cX10_worlds 61 = .ok (.aload_n 0, 1) := by decide +kernel
theorem dX10_worlds_62 : decode cX10_worlds 62 = .ok (.getfield 285, 3) := by decide +kernel
theorem dX10_worlds_65 : decode cX10_worlds 65 = .ok (.invokestatic 295, 3) := by decide +kernel
theorem dX10_worlds_68 : decode cX10_worlds 68 = .ok (.ireturn, 1) := by decide +kernel
theorem dX10_holding_0 : decode cX10_holding 0 = .ok (.aload_n 0, 1) := by decide +kernel
theorem dX10_holding_1 : decode cX10_holding 1 = .ok (.iload_n 1, 1) := by decide +kernel
theorem dX10_holding_2 : decode cX10_holding 2 = .ok (.putfield 352, 3) := by decide +kernel
theorem dX10_holding_5 : decode cX10_holding 5 = .ok (.aload_n 0, 1) := by decide +kernel
theorem dX10_holding_6 : decode cX10_holding 6 = .ok (.iconst 0, 1) := by decide +kernel
theorem dX10_holding_7 : decode cX10_holding 7 = .ok (.putfield 355, 3) := by decide +kernel
theorem dX10_holding_10 : decode cX10_holding 10 = .ok (.iconst 0, 1) := by decide +kernel
theorem dX10_holding_11 : decode cX10_holding 11 = .ok (.istore_n 2, 1) := by decide +kernel
theorem dX10_holding_12 : decode cX10_holding 12 = .ok (.iload_n 2, 1) := by decide +kernel
theorem dX10_holding_13 : decode cX10_holding 13 = .ok (.aload_n 0, 1) := by decide +kernel
theorem dX10_holding_14 : decode cX10_holding 14 = .ok (.getfield 279, 3) := by decide +kernel
theorem dX10_holding_17 : decode cX10_holding 17 = .ok (.if_icmp .ge 31, 3) := by decide +kernel
theorem dX10_holding_20 : decode cX10_holding 20 = .ok (.aload_n 0, 1) := by decide +kernel
theorem dX10_holding_21 : decode cX10_holding 21 = .ok (.getfield 89, 3) := by decide +kernel
theorem dX10_holding_24 : decode cX10_holding 24 = .ok (.iload_n 2, 1) := by decide +kernel
theorem dX10_holding_25 : decode cX10_holding 25 = .ok (.iload_n 1, 1) := by decide +kernel
theorem dX10_holding_26 : decode cX10_holding 26 = .ok (.iload_n 2, 1) := by decide +kernel
theorem dX10_holding_27 : decode cX10_holding 27 = .ok (.ishr, 1) := by decide +kernel
theorem dX10_holding_28 : decode cX10_holding 28 = .ok (.iconst 1, 1) := by decide +kernel
theorem dX10_holding_29 : decode cX10_holding 29 = .ok (.iand, 1) := by decide +kernel
theorem dX10_holding_30 : decode cX10_holding 30 = .ok (.iconst 1, 1) := by decide +kernel
theorem dX10_holding_31 : decode cX10_holding 31 = .ok (.if_icmp .ne 7, 3) := by decide +kernel
theorem dX10_holding_34 : decode cX10_holding 34 = .ok (.iconst 1, 1) := by decide +kernel
theorem dX10_holding_35 : decode cX10_holding 35 = .ok (.goto 6, 3) := by decide +kernel
theorem dX10_holding_38 : decode cX10_holding 38 = .ok (.sipush 1000, 3) := by decide +kernel
theorem dX10_holding_41 : decode cX10_holding 41 = .ok (.iastore, 1) := by decide +kernel
theorem dX10_holding_42 : decode cX10_holding 42 = .ok (.iinc 2 1, 3) := by decide +kernel
theorem dX10_holding_45 : decode cX10_holding 45 = .ok (.goto (-33), 3) := by decide +kernel
theorem dX10_holding_48 : decode cX10_holding 48 = .ok (.iconst 0, 1) := by decide +kernel
theorem dX10_holding_49 : decode cX10_holding 49 = .ok (.istore_n 2, 1) := by decide +kernel
theorem dX10_holding_50 : decode cX10_holding 50 = .ok (.iload_n 2, 1) := by decide +kernel
theorem dX10_holding_51 : decode cX10_holding 51 = .ok (.bipush 8, 2) := by decide +kernel
theorem dX10_holding_53 : decode cX10_holding 53 = .ok (.aload_n 0, 1) := by decide +kernel
theorem dX10_holding_54 : decode cX10_holding 54 = .ok (.getfield 343, 3) := by decide +kernel
theorem dX10_holding_57 : decode cX10_holding 57 = .ok (.imul, 1) := by decide +kernel
theorem dX10_holding_58 : decode cX10_holding 58 = .ok (.if_icmp .ge 18, 3) := by decide +kernel
theorem dX10_holding_61 : decode cX10_holding 61 = .ok (.aload_n 0, 1) := by decide +kernel
theorem dX10_holding_62 : decode cX10_holding 62 = .ok (.getfield 104, 3) := by decide +kernel
theorem dX10_holding_65 : decode cX10_holding 65 = .ok (.iload_n 2, 1) := by decide +kernel
theorem dX10_holding_66 : decode cX10_holding 66 = .ok (.sipush 1000, 3) := by decide +kernel
theorem dX10_holding_69 : decode cX10_holding 69 = .ok (.iastore, 1) := by decide +kernel
theorem dX10_holding_70 : decode cX10_holding 70 = .ok (.iinc 2 1, 3) := by decide +kernel
theorem dX10_holding_73 : decode cX10_holding 73 = .ok (.goto (-23), 3) := by decide +kernel
theorem dX10_holding_76 : decode cX10_holding 76 = .ok (.iconst 1, 1) := by decide +kernel
theorem dX10_holding_77 : decode cX10_holding 77 = .ok (.istore_n 2, 1) := by decide +kernel
theorem dX10_holding_78 : decode cX10_holding 78 = .ok (.iload_n 2, 1) := by decide +kernel
theorem dX10_holding_79 : decode cX10_holding 79 = .ok (.ifCond .eq 81, 3) := by decide +kernel
theorem dX10_holding_82 : decode cX10_holding 82 = .ok (.iconst 0, 1) := by decide +kernel
theorem dX10_holding_83 : decode cX10_holding 83 = .ok (.istore_n 2, 1) := by decide +kernel
theorem dX10_holding_84 : decode cX10_holding 84 = .ok (.iconst 0, 1) := by decide +kernel
theorem dX10_holding_85 : decode cX10_holding 85 = .ok (.istore_n 3, 1) := by decide +kernel
theorem dX10_holding_86 : decode cX10_holding 86 = .ok (.iload_n 3, 1) := by decide +kernel
theorem dX10_holding_87 : decode cX10_holding 87 = .ok (.bipush 8, 2) := by decide +kernel
theorem dX10_holding_89 : decode cX10_holding 89 = .ok (.aload_n 0, 1) := by decide +kernel
theorem dX10_holding_90 : decode cX10_holding 90 = .ok (.getfield 343, 3) := by decide +kernel
theorem dX10_holding_93 : decode cX10_holding 93 = .ok (.imul, 1) := by decide +kernel
theorem dX10_holding_94 : decode cX10_holding 94 = .ok (.if_icmp .ge 63, 3) := by decide +kernel
theorem dX10_holding_97 : decode cX10_holding 97 = .ok (.aload_n 0, 1) := by decide +kernel
theorem dX10_holding_98 : decode cX10_holding 98 = .ok (.getfield 104, 3) := by decide +kernel
theorem dX10_holding_101 : decode cX10_holding 101 = .ok (.iload_n 3, 1) := by decide +kernel
theorem dX10_holding_102 : decode cX10_holding 102 = .ok (.iaload, 1) := by decide +kernel
theorem dX10_holding_103 : decode cX10_holding 103 = .ok (.sipush 1000, 3) := by decide +kernel
theorem dX10_holding_106 : decode cX10_holding 106 = .ok (.if_icmp .lt 45, 3) := by decide +kernel
theorem dX10_holding_109 : decode cX10_holding 109 = .ok (.iload_n 3, 1) := by decide +kernel
theorem dX10_holding_110 : decode cX10_holding 110 = .ok (.bipush 8, 2) := by decide +kernel
theorem dX10_holding_112 : decode cX10_holding 112 = .ok (.irem, 1) := by decide +kernel
theorem dX10_holding_113 : decode cX10_holding 113 = .ok (.aload_n 0, 1) := by decide +kernel
theorem dX10_holding_114 : decode cX10_holding 114 = .ok (.getfield 269, 3) := by decide +kernel
theorem dX10_holding_117 : decode cX10_holding 117 = .ok (.if_icmp .ge 34, 3) := by decide +kernel
theorem dX10_holding_120 : decode cX10_holding 120 = .ok (.aload_n 0, 1) := by decide +kernel
theorem dX10_holding_121 : decode cX10_holding 121 = .ok (.iload_n 3, 1) := by decide +kernel
theorem dX10_holding_122 : decode cX10_holding 122 = .ok (.bipush 8, 2) := by decide +kernel
theorem dX10_holding_124 : decode cX10_holding 124 = .ok (.idiv, 1) := by decide +kernel
theorem dX10_holding_125 : decode cX10_holding 125 = .ok (.iload_n 3, 1) := by decide +kernel
theorem dX10_holding_126 : decode cX10_holding 126 = .ok (.bipush 8, 2) := by decide +kernel
theorem dX10_holding_128 : decode cX10_holding 128 = .ok (.irem, 1) := by decide +kernel
theorem dX10_holding_129 : decode cX10_holding 129 = .ok (.iconst 0, 1) := by decide +kernel
theorem dX10_holding_130 : decode cX10_holding 130 = .ok (.invokevirtual 378, 3) := by decide +kernel
theorem dX10_holding_133 : decode cX10_holding 133 = .ok (.sipush 1000, 3) := by decide +kernel
theorem dX10_holding_136 : decode cX10_holding 136 = .ok (.if_icmp .lt 6, 3) := by decide +kernel
theorem dX10_holding_139 : decode cX10_holding 139 = .ok (.goto 12, 3) := by decide +kernel
theorem dX10_holding_142 : decode cX10_holding 142 = .ok (.aload_n 0, 1) := by decide +kernel
theorem dX10_holding_143 : decode cX10_holding 143 = .ok (.getfield 104, 3) := by decide +kernel
theorem dX10_holding_146 : decode cX10_holding 146 = .ok (.iload_n 3, 1) := by decide +kernel
theorem dX10_holding_147 : decode cX10_holding 147 = .ok (.iconst 1, 1) := by decide +kernel
theorem dX10_holding_148 : decode cX10_holding 148 = .ok (.iastore, 1) := by decide +kernel
theorem dX10_holding_149 : decode cX10_holding 149 = .ok (.iconst 1, 1) := by decide +kernel
theorem dX10_holding_150 : decode cX10_holding 150 = .ok (.istore_n 2, 1) := by decide +kernel
theorem dX10_holding_151 : decode cX10_holding 151 = .ok (.iinc 3 1, 3) := by decide +kernel
theorem dX10_holding_154 : decode cX10_holding 154 = .ok (.goto (-68), 3) := by decide +kernel
theorem dX10_holding_157 : decode cX10_holding 157 = .ok (.goto (-79), 3) := by decide +kernel
theorem dX10_holding_160 : decode cX10_holding 160 = .ok (.iconst 0, 1) := by decide +kernel
theorem dX10_holding_161 : decode cX10_holding 161 = .ok (.istore_n 3, 1) := by decide +kernel
theorem dX10_holding_162 : decode cX10_holding 162 = .ok (.iconst 0, 1) := by decide +kernel
theorem dX10_holding_163 : decode cX10_holding 163 = .ok (.istore 4, 2) := by decide +kernel
theorem dX10_holding_165 : decode cX10_holding 165 = .ok (.iload 4, 2) := by decide +kernel
theorem dX10_holding_167 : decode cX10_holding 167 = .ok (.aload_n 0, 1) := by decide +kernel
theorem dX10_holding_168 : decode cX10_holding 168 = .ok (.getfield 279, 3) := by decide +kernel
theorem dX10_holding_171 : decode cX10_holding 171 = .ok (.if_icmp .ge 64, 3) := by decide +kernel
theorem dX10_holding_174 : decode cX10_holding 174 = .ok (.iload_n 1, 1) := by decide +kernel
theorem dX10_holding_175 : decode cX10_holding 175 = .ok (.iload 4, 2) := by decide +kernel
theorem dX10_holding_177 : decode cX10_holding 177 = .ok (.ishr, 1) := by decide +kernel
theorem dX10_holding_178 : decode cX10_holding 178 = .ok (.iconst 1, 1) := by decide +kernel
theorem dX10_holding_179 : decode cX10_holding 179 = .ok (.iand, 1) := by decide +kernel
theorem dX10_holding_180 : decode cX10_holding 180 = .ok (.iconst 1, 1) := by decide +kernel
theorem dX10_holding_181 : decode cX10_holding 181 = .ok (.if_icmp .ne 48, 3) := by decide +kernel
theorem dX10_holding_184 : decode cX10_holding 184 = .ok (.aload_n 0, 1) := by decide +kernel
theorem dX10_holding_185 : decode cX10_holding 185 = .ok (.aload_n 0, 1) := by decide +kernel
theorem dX10_holding_186 : decode cX10_holding 186 = .ok (.getfield 101, 3) := by decide +kernel
theorem dX10_holding_189 : decode cX10_holding 189 = .ok (.iload 4, 2) := by decide +kernel
theorem dX10_holding_191 : decode cX10_holding 191 = .ok (.iaload, 1) := by decide +kernel
theorem dX10_holding_192 : decode cX10_holding 192 = .ok (.aload_n 0, 1) := by decide +kernel
theorem dX10_holding_193 : decode cX10_holding 193 = .ok (.iload 4, 2) := by decide +kernel
theorem dX10_holding_195 : decode cX10_holding 195 = .ok (.iconst 2, 1) := by decide +kernel
theorem dX10_holding_196 : decode cX10_holding 196 = .ok (.invokevirtual 346, 3) := by decide +kernel
theorem dX10_holding_199 : decode cX10_holding 199 = .ok (.aload_n 0, 1) := by decide +kernel
theorem dX10_holding_200 : decode cX10_holding 200 = .ok (.iload 4, 2) := by decide +kernel
theorem dX10_holding_202 : decode cX10_holding 202 = .ok (.iconst 4, 1) := by decide +kernel
theorem dX10_holding_203 : decode cX10_holding 203 = .ok (.invokevirtual 346, 3) := by decide +kernel
theorem dX10_holding_206 : decode cX10_holding 206 = .ok (.aload_n 0, 1) := by decide +kernel
theorem dX10_holding_207 : decode cX10_holding 207 = .ok (.iload 4, 2) := by decide +kernel
theorem dX10_holding_209 : decode cX10_holding 209 = .ok (.iconst 3, 1) := by decide +kernel
theorem dX10_holding_210 : decode cX10_holding 210 = .ok (.invokevirtual 346, 3) := by decide +kernel
theorem dX10_holding_213 : decode cX10_holding 213 = .ok (.invokevirtual 372, 3) := by decide +kernel
theorem dX10_holding_216 : decode cX10_holding 216 = .ok (.sipush 1000, 3) := by decide +kernel
theorem dX10_holding_219 : decode cX10_holding 219 = .ok (.if_icmp .ge 10, 3) := by decide +kernel
theorem dX10_holding_222 : decode cX10_holding 222 = .ok (.iload_n 3, 1) := by decide +kernel
theorem dX10_holding_223 : decode cX10_holding 223 = .ok (.iconst 1, 1) := by decide +kernel
theorem dX10_holding_224 : decode cX10_holding 224 = .ok (.iload 4, 2) := by decide +kernel
theorem dX10_holding_226 : decode cX10_holding 226 = .ok (.ishl, 1) := by decide +kernel
theorem dX10_holding_227 : decode cX10_holding 227 = .ok (.ior, 1) := by decide +kernel
theorem dX10_holding_228 : decode cX10_holding 228 = .ok (.istore_n 3, 1) := by decide +kernel
theorem dX10_holding_229 : decode cX10_holding 229 = .ok (.iinc 4 1, 3) := by decide +kernel
theorem dX10_holding_232 : decode cX10_holding 232 = .ok (.goto (-67), 3) := by decide +kernel
theorem dX10_holding_235 : decode cX10_holding 235 = .ok (.iload_n 3, 1) := by decide +kernel
theorem dX10_holding_236 : decode cX10_holding 236 = .ok (.ireturn, 1) := by decide +kernel
theorem dX10_wrong_0 : decode cX10_wrong 0 = .ok (.aload_n 0, 1) := by decide +kernel
theorem dX10_wrong_1 : decode cX10_wrong 1 = .ok (.iconst 0, 1) := by decide +kernel
theorem dX10_wrong_2 : decode cX10_wrong 2 = .ok (.putfield 122, 3) := by decide +kernel
theorem dX10_wrong_5 : decode cX10_wrong 5 = .ok (.aload_n 0, 1) := by decide +kernel
theorem dX10_wrong_6 : decode cX10_wrong 6 = .ok (.iload_n 1, 1) := by decide +kernel
theorem dX10_wrong_7 : decode cX10_wrong 7 = .ok (.ifCond .eq 8, 3) := by decide +kernel
theorem dX10_wrong_10 : decode cX10_wrong 10 = .ok (.iload_n 1, 1) := by decide +kernel
theorem dX10_wrong_11 : decode cX10_wrong 11 = .ok (.iconst 1, 1) := by decide +kernel
theorem dX10_wrong_12 : decode cX10_wrong 12 = .ok (.if_icmp .ne 7, 3) := by decide +kernel
theorem dX10_wrong_15 : decode cX10_wrong 15 = .ok (.iconst 1, 1) := by decide +kernel
theorem dX10_wrong_16 : decode cX10_wrong 16 = .ok (.goto 4, 3) := by decide +kernel
theorem dX10_wrong_19 : decode cX10_wrong 19 = .ok (.iconst 0, 1) := by decide +kernel
theorem dX10_wrong_20 : decode cX10_wrong 20 = .ok (.iconst 1, 1) := by decide +kernel
theorem dX10_wrong_21 : decode cX10_wrong 21 = .ok (.invokevirtual 250, 3) := by decide +kernel
theorem dX10_wrong_24 : decode cX10_wrong 24 = .ok (.ifCond .ne 5, 3) := by decide +kernel
theorem dX10_wrong_27 : decode cX10_wrong 27 = .ok (.iconst 0, 1) := by decide +kernel
theorem dX10_wrong_28 : decode cX10_wrong 28 = .ok (.ireturn, 1) := by decide +kernel
theorem dX10_wrong_29 : decode cX10_wrong 29 = .ok (.aload_n 0, 1) := by decide +kernel
theorem dX10_wrong_30 : decode cX10_wrong 30 = .ok (.iconst (-1), 1) := by decide +kernel
theorem dX10_wrong_31 : decode cX10_wrong 31 = .ok (.iconst 0, 1) := by decide +kernel
theorem dX10_wrong_32 : decode cX10_wrong 32 = .ok (.invokevirtual 391, 3) := by decide +kernel
theorem dX10_wrong_35 : decode cX10_wrong 35 = .ok (.aload_n 0, 1) := by decide +kernel
theorem dX10_wrong_36 : decode cX10_wrong 36 = .ok (.aload_n 0, 1) := by decide +kernel
theorem dX10_wrong_37 : decode cX10_wrong 37 = .ok (.invokevirtual 394, 3) := by decide +kernel
theorem dX10_wrong_40 : decode cX10_wrong 40 = .ok (.iconst 0, 1) := by decide +kernel
theorem dX10_wrong_41 : decode cX10_wrong 41 = .ok (.invokevirtual 398, 3) := by decide +kernel
theorem dX10_wrong_44 : decode cX10_wrong 44 = .ok (.iconst 0, 1) := by decide +kernel
theorem dX10_wrong_45 : decode cX10_wrong 45 = .ok (.istore_n 2, 1) := by decide +kernel
theorem dX10_wrong_46 : decode cX10_wrong 46 = .ok (.iconst 0, 1) := by decide +kernel
theorem dX10_wrong_47 : decode cX10_wrong 47 = .ok (.istore_n 3, 1) := by decide +kernel
theorem dX10_wrong_48 : decode cX10_wrong 48 = .ok (.iload_n 3, 1) := by decide +kernel
theorem dX10_wrong_49 : decode cX10_wrong 49 = .ok (.aload_n 0, 1) := by decide +kernel
theorem dX10_wrong_50 : decode cX10_wrong 50 = .ok (.getfield 279, 3) := by decide +kernel
theorem dX10_wrong_53 : decode cX10_wrong 53 = .ok (.if_icmp .ge 31, 3) := by decide +kernel
theorem dX10_wrong_56 : decode cX10_wrong 56 = .ok (.iload_n 2, 1) := by decide +kernel
theorem dX10_wrong_57 : decode cX10_wrong 57 = .ok (.aload_n 0, 1) := by decide +kernel
theorem dX10_wrong_58 : decode cX10_wrong 58 = .ok (.getfield 89, 3) := by decide +kernel
theorem dX10_wrong_61 : decode cX10_wrong 61 = .ok (.iload_n 3, 1) := by decide +kernel
theorem dX10_wrong_62 : decode cX10_wrong 62 = .ok (.iaload, 1) := by decide +kernel
theorem dX10_wrong_63 : decode cX10_wrong 63 = .ok (.sipush 1000, 3) := by decide +kernel
theorem dX10_wrong_66 : decode cX10_wrong 66 = .ok (.if_icmp .ge 9, 3) := by decide +kernel
theorem dX10_wrong_69 : decode cX10_wrong 69 = .ok (.iconst 1, 1) := by decide +kernel
theorem dX10_wrong_70 : decode cX10_wrong 70 = .ok (.iload_n 3, 1) := by decide +kernel
theorem dX10_wrong_71 : decode cX10_wrong 71 = .ok (.ishl, 1) := by decide +kernel
theorem dX10_wrong_72 : decode cX10_wrong 72 = .ok (.goto 4, 3) := by decide +kernel
theorem dX10_wrong_75 : decode cX10_wrong 75 = .ok (.iconst 0, 1) := by decide +kernel
theorem dX10_wrong_76 : decode cX10_wrong 76 = .ok (.ior, 1) := by decide +kernel
theorem dX10_wrong_77 : decode cX10_wrong 77 = .ok (.istore_n 2, 1) := by decide +kernel
theorem dX10_wrong_78 : decode cX10_wrong 78 = .ok (.iinc 3 1, 3) := by decide +kernel
theorem dX10_wrong_81 : decode cX10_wrong 81 = .ok (.goto (-33), 3) := by decide +kernel
theorem dX10_wrong_84 : decode cX10_wrong 84 = .ok (.iload_n 1, 1) := by decide +kernel
theorem dX10_wrong_85 : decode cX10_wrong 85 = .ok (.ifCond .ne 12, 3) := by decide +kernel
theorem dX10_wrong_88 : decode cX10_wrong 88 = .ok (.aload_n 0, 1) := by decide +kernel
theorem dX10_wrong_89 : decode cX10_wrong 89 = .ok (.invokevirtual 394, 3) := by decide +kernel
theorem dX10_wrong_92 : decode cX10_wrong 92 = .ok (.iload_n 2, 1) := by decide +kernel
theorem dX10_wrong_93 : decode cX10_wrong 93 = .ok (.iconst (-1), 1) := by decide +kernel
theorem dX10_wrong_94 : decode cX10_wrong 94 = .ok (.ixor, 1) := by decide +kernel
theorem dX10_wrong_95 : decode cX10_wrong 95 = .ok (.iand, 1) := by decide +kernel
theorem dX10_wrong_96 : decode cX10_wrong 96 = .ok (.ireturn, 1) := by decide +kernel
theorem dX10_wrong_97 : decode cX10_wrong 97 = .ok (.aload_n 0, 1) := by decide +kernel
theorem dX10_wrong_98 : decode cX10_wrong 98 = .ok (.invokevirtual 394, 3) := by decide +kernel
theorem dX10_wrong_101 : decode cX10_wrong 101 = .ok (.istore_n 3, 1) := by decide +kernel
theorem dX10_wrong_102 : decode cX10_wrong 102 = .ok (.aload_n 0, 1) := by decide +kernel
theorem dX10_wrong_103 : decode cX10_wrong 103 = .ok (.iload_n 3, 1) := by decide +kernel
theorem dX10_wrong_104 : decode cX10_wrong 104 = .ok (.invokevirtual 404, 3) := by decide +kernel
theorem dX10_wrong_107 : decode cX10_wrong 107 = .ok (.istore 4, 2) := by decide +kernel
theorem dX10_wrong_109 : decode cX10_wrong 109 = .ok (.iload 4, 2) := by decide +kernel
theorem dX10_wrong_111 : decode cX10_wrong 111 = .ok (.iload_n 3, 1) := by decide +kernel
theorem dX10_wrong_112 : decode cX10_wrong 112 = .ok (.if_icmp .eq 16, 3) := by decide +kernel
theorem dX10_wrong_115 : decode cX10_wrong 115 = .ok (.iload 4, 2) := by decide +kernel
theorem dX10_wrong_117 : decode cX10_wrong 117 = .ok (.istore_n 3, 1) := by decide +kernel
theorem dX10_wrong_118 : decode cX10_wrong 118 = .ok (.aload_n 0, 1) := by decide +kernel
theorem dX10_wrong_119 : decode cX10_wrong 119 = .ok (.iload_n 3, 1) := by decide +kernel
theorem dX10_wrong_120 : decode cX10_wrong 120 = .ok (.invokevirtual 404, 3) := by decide +kernel
theorem dX10_wrong_123 : decode cX10_wrong 123 = .ok (.istore 4, 2) := by decide +kernel
theorem dX10_wrong_125 : decode cX10_wrong 125 = .ok (.goto (-16), 3) := by decide +kernel
theorem dX10_wrong_128 : decode cX10_wrong 128 = .ok (.iload_n 3, 1) := by decide +kernel
theorem dX10_wrong_129 : decode cX10_wrong 129 = .ok (.iload_n 2, 1) := by decide +kernel
theorem dX10_wrong_130 : decode cX10_wrong 130 = .ok (.iconst (-1), 1) := by decide +kernel
theorem dX10_wrong_131 : decode cX10_wrong 131 = .ok (.ixor, 1) := by decide +kernel
theorem dX10_wrong_132 : decode cX10_wrong 132 = .ok (.iand, 1) := by decide +kernel
theorem dX10_wrong_133 : decode cX10_wrong 133 = .ok (.ireturn, 1) := by decide +kernel
theorem dX9_takeTape_0 : decode cX9_takeTape 0 = .ok (.iload_n 1, 1) := by decide +kernel
theorem dX9_takeTape_1 : decode cX9_takeTape 1 = .ok (.ifCond .lt 11, 3) := by decide +kernel
theorem dX9_takeTape_4 : decode cX9_takeTape 4 = .ok (.iload_n 1, 1) := by decide +kernel
theorem dX9_takeTape_5 : decode cX9_takeTape 5 = .ok (.aload_n 0, 1) := by decide +kernel
theorem dX9_takeTape_6 : decode cX9_takeTape 6 = .ok (.getfield 90, 3) := by decide +kernel
theorem dX9_takeTape_9 : decode cX9_takeTape 9 = .ok (.if_icmp .le 11, 3) := by decide +kernel
theorem dX9_takeTape_12 : decode cX9_takeTape 12 = .ok (.new 125, 3) := by decide +kernel
theorem dX9_takeTape_15 : decode cX9_takeTape 15 = .ok (.dup, 1) := by decide +kernel
theorem dX9_takeTape_16 : decode cX9_takeTape 16 = .ok (.invokespecial 127, 3) := by decide +kernel
theorem dX9_takeTape_19 : decode cX9_takeTape 19 = .ok (.athrow, 1) := by decide +kernel
theorem dX9_takeTape_20 : decode cX9_takeTape 20 = .ok (.aload_n 0, 1) := by decide +kernel
theorem dX9_takeTape_21 : decode cX9_takeTape 21 = .ok (.iconst 0, 1) := by decide +kernel
theorem dX9_takeTape_22 : decode cX9_takeTape 22 = .ok (.putfield 90, 3) := by decide +kernel
theorem dX9_takeTape_25 : decode cX9_takeTape 25 = .ok (.return_, 1) := by decide +kernel
theorem dX5_endingSlot_0 : decode cX5_endingSlot 0 = .ok (.bipush 12, 2) := by decide +kernel
theorem dX5_endingSlot_2 : decode cX5_endingSlot 2 = .ok (.iconst 5, 1) := by decide +kernel
theorem dX5_endingSlot_3 : decode cX5_endingSlot 3 = .ok (.iload_n 0, 1) := by decide +kernel
theorem dX5_endingSlot_4 : decode cX5_endingSlot 4 = .ok (.imul, 1) := by decide +kernel
theorem dX5_endingSlot_5 : decode cX5_endingSlot 5 = .ok (.iadd, 1) := by decide +kernel
theorem dX5_endingSlot_6 : decode cX5_endingSlot 6 = .ok (.iload_n 1, 1) := by decide +kernel
theorem dX5_endingSlot_7 : decode cX5_endingSlot 7 = .ok (.iadd, 1) := by decide +kernel
theorem dX5_endingSlot_8 : decode cX5_endingSlot 8 = .ok (.ireturn, 1) := by decide +kernel
theorem dX5_changeSlot_0 : decode cX5_changeSlot 0 = .ok (.bipush 27, 2) := by decide +kernel
theorem dX5_changeSlot_2 : decode cX5_changeSlot 2 = .ok (.iconst 3, 1) := by decide +kernel
theorem dX5_changeSlot_3 : decode cX5_changeSlot 3 = .ok (.iload_n 0, 1) := by decide +kernel
theorem dX5_changeSlot_4 : decode cX5_changeSlot 4 = .ok (.imul, 1) := by decide +kernel
theorem dX5_changeSlot_5 : decode cX5_changeSlot 5 = .ok (.iadd, 1) := by decide +kernel
theorem dX5_changeSlot_6 : decode cX5_changeSlot 6 = .ok (.iload_n 1, 1) := by decide +kernel
theorem dX5_changeSlot_7 : decode cX5_changeSlot 7 = .ok (.iadd, 1) := by decide +kernel
theorem dX5_changeSlot_8 : decode cX5_changeSlot 8 = .ok (.ireturn, 1) := by decide +kernel
theorem dX9_areSame_0 : decode cX9_areSame 0 = .ok (.iload_n 1, 1) := by decide +kernel
theorem dX9_areSame_1 : decode cX9_areSame 1 = .ok (.ifCond .lt 25, 3) := by decide +kernel
theorem dX9_areSame_4 : decode cX9_areSame 4 = .ok (.iload_n 1, 1) := by decide +kernel
theorem dX9_areSame_5 : decode cX9_areSame 5 = .ok (.iload 4, 2) := by decide +kernel
theorem dX9_areSame_7 : decode cX9_areSame 7 = .ok (.iadd, 1) := by decide +kernel
theorem dX9_areSame_8 : decode cX9_areSame 8 = .ok (.aload_n 0, 1) := by decide +kernel
theorem dX9_areSame_9 : decode cX9_areSame 9 = .ok (.arraylength, 1) := by decide +kernel
theorem dX9_areSame_10 : decode cX9_areSame 10 = .ok (.if_icmp .gt 16, 3) := by decide +kernel
theorem dX9_areSame_13 : decode cX9_areSame 13 = .ok (.iload_n 3, 1) := by decide +kernel
theorem dX9_areSame_14 : decode cX9_areSame 14 = .ok (.ifCond .lt 12, 3) := by decide +kernel
theorem dX9_areSame_17 : decode cX9_areSame 17 = .ok (.iload_n 3, 1) := by decide +kernel
theorem dX9_areSame_18 : decode cX9_areSame 18 = .ok (.iload 4, 2) := by decide +kernel
theorem dX9_areSame_20 : decode cX9_areSame 20 = .ok (.iadd, 1) := by decide +kernel
theorem dX9_areSame_21 : decode cX9_areSame 21 = .ok (.aload_n 2, 1) := by decide +kernel
theorem dX9_areSame_22 : decode cX9_areSame 22 = .ok (.arraylength, 1) := by decide +kernel
theorem dX9_areSame_23 : decode cX9_areSame 23 = .ok (.if_icmp .le 5, 3) := by decide +kernel
theorem dX9_areSame_26 : decode cX9_areSame 26 = .ok (.iconst 0, 1) := by decide +kernel
theorem dX9_areSame_27 : decode cX9_areSame 27 = .ok (.ireturn, 1) := by decide +kernel
theorem dX9_areSame_28 : decode cX9_areSame 28 = .ok (.iconst 0, 1) := by decide +kernel
theorem dX9_areSame_29 : decode cX9_areSame 29 = .ok (.istore 5, 2) := by decide +kernel
theorem dX9_areSame_31 : decode cX9_areSame 31 = .ok (.iload 5, 2) := by decide +kernel
theorem dX9_areSame_33 : decode cX9_areSame 33 = .ok (.iload 4, 2) := by decide +kernel
theorem dX9_areSame_35 : decode cX9_areSame 35 = .ok (.if_icmp .ge 26, 3) := by decide +kernel
theorem dX9_areSame_38 : decode cX9_areSame 38 = .ok (.aload_n 0, 1) := by decide +kernel
theorem dX9_areSame_39 : decode cX9_areSame 39 = .ok (.iload_n 1, 1) := by decide +kernel
theorem dX9_areSame_40 : decode cX9_areSame 40 = .ok (.iload 5, 2) := by decide +kernel
theorem dX9_areSame_42 : decode cX9_areSame 42 = .ok (.iadd, 1) := by decide +kernel
theorem dX9_areSame_43 : decode cX9_areSame 43 = .ok (.baload, 1) := by decide +kernel
theorem dX9_areSame_44 : decode cX9_areSame 44 = .ok (.aload_n 2, 1) := by decide +kernel
theorem dX9_areSame_45 : decode cX9_areSame 45 = .ok (.iload_n 3, 1) := by decide +kernel
theorem dX9_areSame_46 : decode cX9_areSame 46 = .ok (.iload 5, 2) := by decide +kernel
theorem dX9_areSame_48 : decode cX9_areSame 48 = .ok (.iadd, 1) := by decide +kernel
theorem dX9_areSame_49 : decode cX9_areSame 49 = .ok (.baload, 1) := by decide +kernel
theorem dX9_areSame_50 : decode cX9_areSame 50 = .ok (.if_icmp .eq 5, 3) := by decide +kernel
theorem dX9_areSame_53 : decode cX9_areSame 53 = .ok (.iconst 0, 1) := by decide +kernel
theorem dX9_areSame_54 : decode cX9_areSame 54 = .ok (.ireturn, 1) := by decide +kernel
theorem dX9_areSame_55 : decode cX9_areSame 55 = .ok (.iinc 5 1, 3) := by decide +kernel
theorem dX9_areSame_58 : decode cX9_areSame 58 = .ok (.goto (-27), 3) := by decide +kernel
theorem dX9_areSame_61 : decode cX9_areSame 61 = .ok (.iconst 1, 1) := by decide +kernel
theorem dX9_areSame_62 : decode cX9_areSame 62 = .ok (.ireturn, 1) := by decide +kernel
theorem dX5_standsAt_0 : decode cX5_standsAt 0 = .ok (.iload_n 2, 1) := by decide +kernel
theorem dX5_standsAt_1 : decode cX5_standsAt 1 = .ok (.ifCond .lt 54, 3) := by decide +kernel
theorem dX5_standsAt_4 : decode cX5_standsAt 4 = .ok (.iload_n 2, 1) := by decide +kernel
theorem dX5_standsAt_5 : decode cX5_standsAt 5 = .ok (.aload_n 0, 1) := by decide +kernel
theorem dX5_standsAt_6 : decode cX5_standsAt 6 = .ok (.getfield 15, 3) := by decide +kernel
theorem dX5_standsAt_9 : decode cX5_standsAt 9 = .ok (.iload_n 3, 1) := by decide +kernel
theorem dX5_standsAt_10 : decode cX5_standsAt 10 = .ok (.iaload, 1) := by decide +kernel
theorem dX5_standsAt_11 : decode cX5_standsAt 11 = .ok (.iadd, 1) := by decide +kernel
theorem dX5_standsAt_12 : decode cX5_standsAt 12 = .ok (.aload_n 0, 1) := by decide +kernel
theorem dX5_standsAt_13 : decode cX5_standsAt 13 = .ok (.getfield 15, 3) := by decide +kernel
theorem dX5_standsAt_16 : decode cX5_standsAt 16 = .ok (.iload_n 1, 1) := by decide +kernel
theorem dX5_standsAt_17 : decode cX5_standsAt 17 = .ok (.iaload, 1) := by decide +kernel
theorem dX5_standsAt_18 : decode cX5_standsAt 18 = .ok (.if_icmp .gt 37, 3) := by decide +kernel
theorem dX5_standsAt_21 : decode cX5_standsAt 21 = .ok (.aload_n 0, 1) := by decide +kernel
theorem dX5_standsAt_22 : decode cX5_standsAt 22 = .ok (.getfield 11, 3) := by decide +kernel
theorem dX5_standsAt_25 : decode cX5_standsAt 25 = .ok (.iload_n 1, 1) := by decide +kernel
theorem dX5_standsAt_26 : decode cX5_standsAt 26 = .ok (.bipush 8, 2) := by decide +kernel
theorem dX5_standsAt_28 : decode cX5_standsAt 28 = .ok (.imul, 1) := by decide +kernel
theorem dX5_standsAt_29 : decode cX5_standsAt 29 = .ok (.iload_n 2, 1) := by decide +kernel
theorem dX5_standsAt_30 : decode cX5_standsAt 30 = .ok (.iadd, 1) := by decide +kernel
theorem dX5_standsAt_31 : decode cX5_standsAt 31 = .ok (.aload_n 0, 1) := by decide +kernel
theorem dX5_standsAt_32 : decode cX5_standsAt 32 = .ok (.getfield 11, 3) := by decide +kernel
theorem dX5_standsAt_35 : decode cX5_standsAt 35 = .ok (.iload_n 3, 1) := by decide +kernel
theorem dX5_standsAt_36 : decode cX5_standsAt 36 = .ok (.bipush 8, 2) := by decide +kernel
theorem dX5_standsAt_38 : decode cX5_standsAt 38 = .ok (.imul, 1) := by decide +kernel
theorem dX5_standsAt_39 : decode cX5_standsAt 39 = .ok (.aload_n 0, 1) := by decide +kernel
theorem dX5_standsAt_40 : decode cX5_standsAt 40 = .ok (.getfield 15, 3) := by decide +kernel
theorem dX5_standsAt_43 : decode cX5_standsAt 43 = .ok (.iload_n 3, 1) := by decide +kernel
theorem dX5_standsAt_44 : decode cX5_standsAt 44 = .ok (.iaload, 1) := by decide +kernel
theorem dX5_standsAt_45 : decode cX5_standsAt 45 = .ok (.invokestatic 45, 3) := by decide +kernel
theorem dX5_standsAt_48 : decode cX5_standsAt 48 = .ok (.ifCond .eq 7, 3) := by decide +kernel
theorem dX5_standsAt_51 : decode cX5_standsAt 51 = .ok (.iconst 1, 1) := by decide +kernel
theorem dX5_standsAt_52 : decode cX5_standsAt 52 = .ok (.goto 4, 3) := by decide +kernel
theorem dX5_standsAt_55 : decode cX5_standsAt 55 = .ok (.iconst 0, 1) := by decide +kernel
theorem dX5_standsAt_56 : decode cX5_standsAt 56 = .ok (.ireturn, 1) := by decide +kernel
theorem dX5_firstChange_0 : decode cX5_firstChange 0 = .ok (.iconst 0, 1) := by decide +kernel
theorem dX5_firstChange_1 : decode cX5_firstChange 1 = .ok (.istore_n 3, 1) := by decide +kernel
theorem dX5_firstChange_2 : decode cX5_firstChange 2 = .ok (.iload_n 3, 1) := by decide +kernel
theorem dX5_firstChange_3 : decode cX5_firstChange 3 = .ok (.aload_n 0, 1) := by decide +kernel
theorem dX5_firstChange_4 : decode cX5_firstChange 4 = .ok (.getfield 32, 3) := by decide +kernel
theorem dX5_firstChange_7 : decode cX5_firstChange 7 = .ok (.if_icmp .ge 56, 3) := by decide +kernel
theorem dX5_firstChange_10 : decode cX5_firstChange 10 = .ok (.iload_n 3, 1) := by decide +kernel
theorem dX5_firstChange_11 : decode cX5_firstChange 11 = .ok (.iconst 0, 1) := by decide +kernel
theorem dX5_firstChange_12 : decode cX5_firstChange 12 = .ok (.invokestatic 49, 3) := by decide +kernel
theorem dX5_firstChange_15 : decode cX5_firstChange 15 = .ok (.istore 4, 2) := by decide +kernel
theorem dX5_firstChange_17 : decode cX5_firstChange 17 = .ok (.aload_n 0, 1) := by decide +kernel
theorem dX5_firstChange_18 : decode cX5_firstChange 18 = .ok (.iload_n 1, 1) := by decide +kernel
theorem dX5_firstChange_19 : decode cX5_firstChange 19 = .ok (.aload_n 0, 1) := by decide +kernel
theorem dX5_firstChange_20 : decode cX5_firstChange 20 = .ok (.getfield 15, 3) := by decide +kernel
theorem dX5_firstChange_23 : decode cX5_firstChange 23 = .ok (.iload_n 1, 1) := by decide +kernel
theorem dX5_firstChange_24 : decode cX5_firstChange 24 = .ok (.iaload, 1) := by decide +kernel
theorem dX5_firstChange_25 : decode cX5_firstChange 25 = .ok (.aload_n 0, 1) := by decide +kernel
theorem dX5_firstChange_26 : decode cX5_firstChange 26 = .ok (.getfield 15, 3) := by decide +kernel
theorem dX5_firstChange_29 : decode cX5_firstChange 29 = .ok (.iload 4, 2) := by decide +kernel
theorem dX5_firstChange_31 : decode cX5_firstChange 31 = .ok (.iaload, 1) := by decide +kernel
theorem dX5_firstChange_32 : decode cX5_firstChange 32 = .ok (.isub, 1) := by decide +kernel
theorem dX5_firstChange_33 : decode cX5_firstChange 33 = .ok (.iload 4, 2) := by decide +kernel
theorem dX5_firstChange_35 : decode cX5_firstChange 35 = .ok (.invokevirtual 52, 3) := by decide +kernel
theorem dX5_firstChange_38 : decode cX5_firstChange 38 = .ok (.ifCond .eq 19, 3) := by decide +kernel
theorem dX5_firstChange_41 : decode cX5_firstChange 41 = .ok (.aload_n 0, 1) := by decide +kernel
theorem dX5_firstChange_42 : decode cX5_firstChange 42 = .ok (.iload_n 2, 1) := by decide +kernel
theorem dX5_firstChange_43 : decode cX5_firstChange 43 = .ok (.iconst 0, 1) := by decide +kernel
theorem dX5_firstChange_44 : decode cX5_firstChange 44 = .ok (.iload_n 3, 1) := by decide +kernel
theorem dX5_firstChange_45 : decode cX5_firstChange 45 = .ok (.iconst 1, 1) := by decide +kernel
theorem dX5_firstChange_46 : decode cX5_firstChange 46 = .ok (.invokestatic 49, 3) := by decide +kernel
theorem dX5_firstChange_49 : decode cX5_firstChange 49 = .ok (.invokevirtual 52, 3) := by decide +kernel
theorem dX5_firstChange_52 : decode cX5_firstChange 52 = .ok (.ifCond .eq 5, 3) := by decide +kernel
theorem dX5_firstChange_55 : decode cX5_firstChange 55 = .ok (.iload_n 3, 1) := by decide +kernel
theorem dX5_firstChange_56 : decode cX5_firstChange 56 = .ok (.ireturn, 1) := by decide +kernel
theorem dX5_firstChange_57 : decode cX5_firstChange 57 = .ok (.iinc 3 1, 3) := by decide +kernel
theorem dX5_firstChange_60 : decode cX5_firstChange 60 = .ok (.goto (-58), 3) := by decide +kernel
theorem dX5_firstChange_63 : decode cX5_firstChange 63 = .ok (.iconst (-1), 1) := by decide +kernel
theorem dX5_firstChange_64 : decode cX5_firstChange 64 = .ok (.ireturn, 1) := by decide +kernel
theorem dX5_add_0 : decode cX5_add 0 = .ok (.iload_n 2, 1) := by decide +kernel
theorem dX5_add_1 : decode cX5_add 1 = .ok (.istore 4, 2) := by decide +kernel
theorem dX5_add_3 : decode cX5_add 3 = .ok (.iload 4, 2) := by decide +kernel
theorem dX5_add_5 : decode cX5_add 5 = .ok (.iload_n 3, 1) := by decide +kernel
theorem dX5_add_6 : decode cX5_add 6 = .ok (.if_icmp .ge 49, 3) := by decide +kernel
theorem dX5_add_9 : decode cX5_add 9 = .ok (.aload_n 0, 1) := by decide +kernel
theorem dX5_add_10 : decode cX5_add 10 = .ok (.getfield 56, 3) := by decide +kernel
theorem dX5_add_13 : decode cX5_add 13 = .ok (.bipush 24, 2) := by decide +kernel
theorem dX5_add_15 : decode cX5_add 15 = .ok (.if_icmp .ge 34, 3) := by decide +kernel
theorem dX5_add_18 : decode cX5_add 18 = .ok (.aload_n 0, 1) := by decide +kernel
theorem dX5_add_19 : decode cX5_add 19 = .ok (.getfield 19, 3) := by decide +kernel
theorem dX5_add_22 : decode cX5_add 22 = .ok (.aload_n 0, 1) := by decide +kernel
theorem dX5_add_23 : decode cX5_add 23 = .ok (.getfield 56, 3) := by decide +kernel
theorem dX5_add_26 : decode cX5_add 26 = .ok (.aload_n 0, 1) := by decide +kernel
theorem dX5_add_27 : decode cX5_add 27 = .ok (.getfield 11, 3) := by decide +kernel
theorem dX5_add_30 : decode cX5_add 30 = .ok (.iload_n 1, 1) := by decide +kernel
theorem dX5_add_31 : decode cX5_add 31 = .ok (.bipush 8, 2) := by decide +kernel
theorem dX5_add_33 : decode cX5_add 33 = .ok (.imul, 1) := by decide +kernel
theorem dX5_add_34 : decode cX5_add 34 = .ok (.iload 4, 2) := by decide +kernel
theorem dX5_add_36 : decode cX5_add 36 = .ok (.iadd, 1) := by decide +kernel
theorem dX5_add_37 : decode cX5_add 37 = .ok (.baload, 1) := by decide +kernel
theorem dX5_add_38 : decode cX5_add 38 = .ok (.bastore, 1) := by decide +kernel
theorem dX5_add_39 : decode cX5_add 39 = .ok (.aload_n 0, 1) := by decide +kernel
theorem dX5_add_40 : decode cX5_add 40 = .ok (.dup, 1) := by decide +kernel
theorem dX5_add_41 : decode cX5_add 41 = .ok (.getfield 56, 3) := by decide +kernel
theorem dX5_add_44 : decode cX5_add 44 = .ok (.iconst 1, 1) := by decide +kernel
theorem dX5_add_45 : decode cX5_add 45 = .ok (.iadd, 1) := by decide +kernel
theorem dX5_add_46 : decode cX5_add 46 = .ok (.putfield 56, 3) := by decide +kernel
theorem dX5_add_49 : decode cX5_add 49 = .ok (.iinc 4 1, 3) := by decide +kernel
theorem dX5_add_52 : decode cX5_add 52 = .ok (.goto (-49), 3) := by decide +kernel
theorem dX5_add_55 : decode cX5_add 55 = .ok (.return_, 1) := by decide +kernel
theorem dX5_make_0 : decode cX5_make 0 = .ok (.iload_n 2, 1) := by decide +kernel
theorem dX5_make_1 : decode cX5_make 1 = .ok (.iload_n 3, 1) := by decide +kernel
theorem dX5_make_2 : decode cX5_make 2 = .ok (.invokestatic 41, 3) := by decide +kernel
theorem dX5_make_5 : decode cX5_make 5 = .ok (.istore 4, 2) := by decide +kernel
theorem dX5_make_7 : decode cX5_make 7 = .ok (.aload_n 0, 1) := by decide +kernel
theorem dX5_make_8 : decode cX5_make 8 = .ok (.iconst 0, 1) := by decide +kernel
theorem dX5_make_9 : decode cX5_make 9 = .ok (.putfield 56, 3) := by decide +kernel
theorem dX5_make_12 : decode cX5_make 12 = .ok (.aload_n 0, 1) := by decide +kernel
theorem dX5_make_13 : decode cX5_make 13 = .ok (.getfield 15, 3) := by decide +kernel
theorem dX5_make_16 : decode cX5_make 16 = .ok (.iload 4, 2) := by decide +kernel
theorem dX5_make_18 : decode cX5_make 18 = .ok (.iaload, 1) := by decide +kernel
theorem dX5_make_19 : decode cX5_make 19 = .ok (.ifCond .ne 5, 3) := by decide +kernel
theorem dX5_make_22 : decode cX5_make 22 = .ok (.iconst 0, 1) := by decide +kernel
theorem dX5_make_23 : decode cX5_make 23 = .ok (.ireturn, 1) := by decide +kernel
theorem dX5_make_24 : decode cX5_make 24 = .ok (.aload_n 0, 1) := by decide +kernel
theorem dX5_make_25 : decode cX5_make 25 = .ok (.iload_n 1, 1) := by decide +kernel
theorem dX5_make_26 : decode cX5_make 26 = .ok (.iload 4, 2) := by decide +kernel
theorem dX5_make_28 : decode cX5_make 28 = .ok (.invokevirtual 59, 3) := by decide +kernel
theorem dX5_make_31 : decode cX5_make 31 = .ok (.istore 5, 2) := by decide +kernel
theorem dX5_make_33 : decode cX5_make 33 = .ok (.iload 5, 2) := by decide +kernel
theorem dX5_make_35 : decode cX5_make 35 = .ok (.iconst (-1), 1) := by decide +kernel
theorem dX5_make_36 : decode cX5_make 36 = .ok (.if_icmp .ne 32, 3) := by decide +kernel
theorem dX5_make_39 : decode cX5_make 39 = .ok (.aload_n 0, 1) := by decide +kernel
theorem dX5_make_40 : decode cX5_make 40 = .ok (.iload_n 1, 1) := by decide +kernel
theorem dX5_make_41 : decode cX5_make 41 = .ok (.iconst 0, 1) := by decide +kernel
theorem dX5_make_42 : decode cX5_make 42 = .ok (.aload_n 0, 1) := by decide +kernel
theorem dX5_make_43 : decode cX5_make 43 = .ok (.getfield 15, 3) := by decide +kernel
theorem dX5_make_46 : decode cX5_make 46 = .ok (.iload_n 1, 1) := by decide +kernel
theorem dX5_make_47 : decode cX5_make 47 = .ok (.iaload, 1) := by decide +kernel
theorem dX5_make_48 : decode cX5_make 48 = .ok (.invokevirtual 62, 3) := by decide +kernel
theorem dX5_make_51 : decode cX5_make 51 = .ok (.aload_n 0, 1) := by decide +kernel
theorem dX5_make_52 : decode cX5_make 52 = .ok (.iload 4, 2) := by decide +kernel
theorem dX5_make_54 : decode cX5_make 54 = .ok (.iconst 0, 1) := by decide +kernel
theorem dX5_make_55 : decode cX5_make 55 = .ok (.aload_n 0, 1) := by decide +kernel
theorem dX5_make_56 : decode cX5_make 56 = .ok (.getfield 15, 3) := by decide +kernel
theorem dX5_make_59 : decode cX5_make 59 = .ok (.iload 4, 2) := by decide +kernel
theorem dX5_make_61 : decode cX5_make 61 = .ok (.iaload, 1) := by decide +kernel
theorem dX5_make_62 : decode cX5_make 62 = .ok (.invokevirtual 62, 3) := by decide +kernel
theorem dX5_make_65 : decode cX5_make 65 = .ok (.goto 73, 3) := by decide +kernel
theorem dX5_make_68 : decode cX5_make 68 = .ok (.iload 5, 2) := by decide +kernel
theorem dX5_make_70 : decode cX5_make 70 = .ok (.iconst 2, 1) := by decide +kernel
theorem dX5_make_71 : decode cX5_make 71 = .ok (.invokestatic 49, 3) := by decide +kernel
theorem dX5_make_74 : decode cX5_make 74 = .ok (.istore 6, 2) := by decide +kernel
theorem dX5_make_76 : decode cX5_make 76 = .ok (.aload_n 0, 1) := by decide +kernel
theorem dX5_make_77 : decode cX5_make 77 = .ok (.iload_n 1, 1) := by decide +kernel
theorem dX5_make_78 : decode cX5_make 78 = .ok (.iconst 0, 1) := by decide +kernel
theorem dX5_make_79 : decode cX5_make 79 = .ok (.aload_n 0, 1) := by decide +kernel
theorem dX5_make_80 : decode cX5_make 80 = .ok (.getfield 15, 3) := by decide +kernel
theorem dX5_make_83 : decode cX5_make 83 = .ok (.iload_n 1, 1) := by decide +kernel
theorem dX5_make_84 : decode cX5_make 84 = .ok (.iaload, 1) := by decide +kernel
theorem dX5_make_85 : decode cX5_make 85 = .ok (.aload_n 0, 1) := by decide +kernel
theorem dX5_make_86 : decode cX5_make 86 = .ok (.getfield 15, 3) := by decide +kernel
theorem dX5_make_89 : decode cX5_make 89 = .ok (.iload 5, 2) := by decide +kernel
theorem dX5_make_91 : decode cX5_make 91 = .ok (.iconst 0, 1) := by decide +kernel
theorem dX5_make_92 : decode cX5_make 92 = .ok (.invokestatic 49, 3) := by decide +kernel
theorem dX5_make_95 : decode cX5_make 95 = .ok (.iaload, 1) := by decide +kernel
theorem dX5_make_96 : decode cX5_make 96 = .ok (.isub, 1) := by decide +kernel
theorem dX5_make_97 : decode cX5_make 97 = .ok (.invokevirtual 62, 3) := by decide +kernel
theorem dX5_make_100 : decode cX5_make 100 = .ok (.aload_n 0, 1) := by decide +kernel
theorem dX5_make_101 : decode cX5_make 101 = .ok (.iload 6, 2) := by decide +kernel
theorem dX5_make_103 : decode cX5_make 103 = .ok (.iconst 0, 1) := by decide +kernel
theorem dX5_make_104 : decode cX5_make 104 = .ok (.aload_n 0, 1) := by decide +kernel
theorem dX5_make_105 : decode cX5_make 105 = .ok (.getfield 15, 3) := by decide +kernel
theorem dX5_make_108 : decode cX5_make 108 = .ok (.iload 6, 2) := by decide +kernel
theorem dX5_make_110 : decode cX5_make 110 = .ok (.iaload, 1) := by decide +kernel
theorem dX5_make_111 : decode cX5_make 111 = .ok (.invokevirtual 62, 3) := by decide +kernel
theorem dX5_make_114 : decode cX5_make 114 = .ok (.aload_n 0, 1) := by decide +kernel
theorem dX5_make_115 : decode cX5_make 115 = .ok (.iload 4, 2) := by decide +kernel
theorem dX5_make_117 : decode cX5_make 117 = .ok (.aload_n 0, 1) := by decide +kernel
theorem dX5_make_118 : decode cX5_make 118 = .ok (.getfield 15, 3) := by decide +kernel
theorem dX5_make_121 : decode cX5_make 121 = .ok (.iload 5, 2) := by decide +kernel
theorem dX5_make_123 : decode cX5_make 123 = .ok (.iconst 1, 1) := by decide +kernel
theorem dX5_make_124 : decode cX5_make 124 = .ok (.invokestatic 49, 3) := by decide +kernel
theorem dX5_make_127 : decode cX5_make 127 = .ok (.iaload, 1) := by decide +kernel
theorem dX5_make_128 : decode cX5_make 128 = .ok (.aload_n 0, 1) := by decide +kernel
theorem dX5_make_129 : decode cX5_make 129 = .ok (.getfield 15, 3) := by decide +kernel
theorem dX5_make_132 : decode cX5_make 132 = .ok (.iload 4, 2) := by decide +kernel
theorem dX5_make_134 : decode cX5_make 134 = .ok (.iaload, 1) := by decide +kernel
theorem dX5_make_135 : decode cX5_make 135 = .ok (.invokevirtual 62, 3) := by decide +kernel
theorem dX5_make_138 : decode cX5_make 138 = .ok (.aload_n 0, 1) := by decide +kernel
theorem dX5_make_139 : decode cX5_make 139 = .ok (.getfield 56, 3) := by decide +kernel
theorem dX5_make_142 : decode cX5_make 142 = .ok (.ireturn, 1) := by decide +kernel
theorem dX5_isMade_0 : decode cX5_isMade 0 = .ok (.iload_n 3, 1) := by decide +kernel
theorem dX5_isMade_1 : decode cX5_isMade 1 = .ok (.aload_n 0, 1) := by decide +kernel
theorem dX5_isMade_2 : decode cX5_isMade 2 = .ok (.getfield 56, 3) := by decide +kernel
theorem dX5_isMade_5 : decode cX5_isMade 5 = .ok (.if_icmp .ne 21, 3) := by decide +kernel
theorem dX5_isMade_8 : decode cX5_isMade 8 = .ok (.aload_n 0, 1) := by decide +kernel
theorem dX5_isMade_9 : decode cX5_isMade 9 = .ok (.getfield 19, 3) := by decide +kernel
theorem dX5_isMade_12 : decode cX5_isMade 12 = .ok (.iconst 0, 1) := by decide +kernel
theorem dX5_isMade_13 : decode cX5_isMade 13 = .ok (.aload_n 1, 1) := by decide +kernel
theorem dX5_isMade_14 : decode cX5_isMade 14 = .ok (.iload_n 2, 1) := by decide +kernel
theorem dX5_isMade_15 : decode cX5_isMade 15 = .ok (.iload_n 3, 1) := by decide +kernel
theorem dX5_isMade_16 : decode cX5_isMade 16 = .ok (.invokestatic 45, 3) := by decide +kernel
theorem dX5_isMade_19 : decode cX5_isMade 19 = .ok (.ifCond .eq 7, 3) := by decide +kernel
theorem dX5_isMade_22 : decode cX5_isMade 22 = .ok (.iconst 1, 1) := by decide +kernel
theorem dX5_isMade_23 : decode cX5_isMade 23 = .ok (.goto 4, 3) := by decide +kernel
theorem dX5_isMade_26 : decode cX5_isMade 26 = .ok (.iconst 0, 1) := by decide +kernel
theorem dX5_isMade_27 : decode cX5_isMade 27 = .ok (.ireturn, 1) := by decide +kernel
theorem dX8_keep_0 : decode cX8_keep 0 = .ok (.aload_n 0, 1) := by decide +kernel
theorem dX8_keep_1 : decode cX8_keep 1 = .ok (.getfield 15, 3) := by decide +kernel
theorem dX8_keep_4 : decode cX8_keep 4 = .ok (.aload_n 0, 1) := by decide +kernel
theorem dX8_keep_5 : decode cX8_keep 5 = .ok (.getfield 9, 3) := by decide +kernel
theorem dX8_keep_8 : decode cX8_keep 8 = .ok (.arraylength, 1) := by decide +kernel
theorem dX8_keep_9 : decode cX8_keep 9 = .ok (.if_icmp .ge 23, 3) := by decide +kernel
theorem dX8_keep_12 : decode cX8_keep 12 = .ok (.aload_n 0, 1) := by decide +kernel
theorem dX8_keep_13 : decode cX8_keep 13 = .ok (.getfield 9, 3) := by decide +kernel
theorem dX8_keep_16 : decode cX8_keep 16 = .ok (.aload_n 0, 1) := by decide +kernel
theorem dX8_keep_17 : decode cX8_keep 17 = .ok (.getfield 15, 3) := by decide +kernel
theorem dX8_keep_20 : decode cX8_keep 20 = .ok (.iload_n 1, 1) := by decide +kernel
theorem dX8_keep_21 : decode cX8_keep 21 = .ok (.iastore, 1) := by decide +kernel
theorem dX8_keep_22 : decode cX8_keep 22 = .ok (.aload_n 0, 1) := by decide +kernel
theorem dX8_keep_23 : decode cX8_keep 23 = .ok (.dup, 1) := by decide +kernel
theorem dX8_keep_24 : decode cX8_keep 24 = .ok (.getfield 15, 3) := by decide +kernel
theorem dX8_keep_27 : decode cX8_keep 27 = .ok (.iconst 1, 1) := by decide +kernel
theorem dX8_keep_28 : decode cX8_keep 28 = .ok (.iadd, 1) := by decide +kernel
theorem dX8_keep_29 : decode cX8_keep 29 = .ok (.putfield 15, 3) := by decide +kernel
theorem dX8_keep_32 : decode cX8_keep 32 = .ok (.return_, 1) := by decide +kernel
theorem dX8_find_0 : decode cX8_find 0 = .ok (.aload_n 0, 1) := by decide +kernel
theorem dX8_find_1 : decode cX8_find 1 = .ok (.iconst 0, 1) := by decide +kernel
theorem dX8_find_2 : decode cX8_find 2 = .ok (.putfield 15, 3) := by decide +kernel
theorem dX8_find_5 : decode cX8_find 5 = .ok (.iload 4, 2) := by decide +kernel
theorem dX8_find_7 : decode cX8_find 7 = .ok (.iconst 1, 1) := by decide +kernel
theorem dX8_find_8 : decode cX8_find 8 = .ok (.if_icmp .lt 10, 3) := by decide +kernel
theorem dX8_find_11 : decode cX8_find 11 = .ok (.iload 4, 2) := by decide +kernel
theorem dX8_find_13 : decode cX8_find 13 = .ok (.bipush 24, 2) := by decide +kernel
theorem dX8_find_15 : decode cX8_find 15 = .ok (.if_icmp .le 4, 3) := by decide +kernel
theorem dX8_find_18 : decode cX8_find 18 = .ok (.return_, 1) := by decide +kernel
theorem dX8_find_19 : decode cX8_find 19 = .ok (.iconst 0, 1) := by decide +kernel
theorem dX8_find_20 : decode cX8_find 20 = .ok (.istore 5, 2) := by decide +kernel
theorem dX8_find_22 : decode cX8_find 22 = .ok (.iload 5, 2) := by decide +kernel
theorem dX8_find_24 : decode cX8_find 24 = .ok (.aload_n 1, 1) := by decide +kernel
theorem dX8_find_25 : decode cX8_find 25 = .ok (.getfield 21, 3) := by decide +kernel
theorem dX8_find_28 : decode cX8_find 28 = .ok (.if_icmp .ge 82, 3) := by decide +kernel
theorem dX8_find_31 : decode cX8_find 31 = .ok (.iconst 0, 1) := by decide +kernel
theorem dX8_find_32 : decode cX8_find 32 = .ok (.istore 6, 2) := by decide +kernel
theorem dX8_find_34 : decode cX8_find 34 = .ok (.iload 6, 2) := by decide +kernel
theorem dX8_find_36 : decode cX8_find 36 = .ok (.iconst 3, 1) := by decide +kernel
theorem dX8_find_37 : decode cX8_find 37 = .ok (.if_icmp .ge 67, 3) := by decide +kernel
theorem dX8_find_40 : decode cX8_find 40 = .ok (.iconst 0, 1) := by decide +kernel
theorem dX8_find_41 : decode cX8_find 41 = .ok (.istore 7, 2) := by decide +kernel
theorem dX8_find_43 : decode cX8_find 43 = .ok (.iload 7, 2) := by decide +kernel
theorem dX8_find_45 : decode cX8_find 45 = .ok (.iconst 5, 1) := by decide +kernel
theorem dX8_find_46 : decode cX8_find 46 = .ok (.if_icmp .ge 52, 3) := by decide +kernel
theorem dX8_find_49 : decode cX8_find 49 = .ok (.aload_n 1, 1) := by decide +kernel
theorem dX8_find_50 : decode cX8_find 50 = .ok (.iload 5, 2) := by decide +kernel
theorem dX8_find_52 : decode cX8_find 52 = .ok (.iload 6, 2) := by decide +kernel
theorem dX8_find_54 : decode cX8_find 54 = .ok (.iload 7, 2) := by decide +kernel
theorem dX8_find_56 : decode cX8_find 56 = .ok (.invokevirtual 24, 3) := by decide +kernel
theorem dX8_find_59 : decode cX8_find 59 = .ok (.iload 4, 2) := by decide +kernel
theorem dX8_find_61 : decode cX8_find 61 = .ok (.if_icmp .ne 31, 3) := by decide +kernel
theorem dX8_find_64 : decode cX8_find 64 = .ok (.aload_n 1, 1) := by decide +kernel
theorem dX8_find_65 : decode cX8_find 65 = .ok (.aload_n 2, 1) := by decide +kernel
theorem dX8_find_66 : decode cX8_find 66 = .ok (.iload_n 3, 1) := by decide +kernel
theorem dX8_find_67 : decode cX8_find 67 = .ok (.iload 4, 2) := by decide +kernel
theorem dX8_find_69 : decode cX8_find 69 = .ok (.invokevirtual 28, 3) := by decide +kernel
theorem dX8_find_72 : decode cX8_find 72 = .ok (.ifCond .eq 20, 3) := by decide +kernel
theorem dX8_find_75 : decode cX8_find 75 = .ok (.aload_n 0, 1) := by decide +kernel
theorem dX8_find_76 : decode cX8_find 76 = .ok (.bipush 15, 2) := by decide +kernel
theorem dX8_find_78 : decode cX8_find 78 = .ok (.iload 5, 2) := by decide +kernel
theorem dX8_find_80 : decode cX8_find 80 = .ok (.imul, 1) := by decide +kernel
theorem dX8_find_81 : decode cX8_find 81 = .ok (.iconst 5, 1) := by decide +kernel
theorem dX8_find_82 : decode cX8_find 82 = .ok (.iload 6, 2) := by decide +kernel
theorem dX8_find_84 : decode cX8_find 84 = .ok (.imul, 1) := by decide +kernel
theorem dX8_find_85 : decode cX8_find 85 = .ok (.iadd, 1) := by decide +kernel
theorem dX8_find_86 : decode cX8_find 86 = .ok (.iload 7, 2) := by decide +kernel
theorem dX8_find_88 : decode cX8_find 88 = .ok (.iadd, 1) := by decide +kernel
theorem dX8_find_89 : decode cX8_find 89 = .ok (.invokevirtual 32, 3) := by decide +kernel
theorem dX8_find_92 : decode cX8_find 92 = .ok (.iinc 7 1, 3) := by decide +kernel
theorem dX8_find_95 : decode cX8_find 95 = .ok (.goto (-52), 3) := by decide +kernel
theorem dX8_find_98 : decode cX8_find 98 = .ok (.iinc 6 1, 3) := by decide +kernel
theorem dX8_find_101 : decode cX8_find 101 = .ok (.goto (-67), 3) := by decide +kernel
theorem dX8_find_104 : decode cX8_find 104 = .ok (.iinc 5 1, 3) := by decide +kernel
theorem dX8_find_107 : decode cX8_find 107 = .ok (.goto (-85), 3) := by decide +kernel
theorem dX8_find_110 : decode cX8_find 110 = .ok (.return_, 1) := by decide +kernel
theorem dX9_apart_0 : decode cX9_apart 0 = .ok (.aload_n 0, 1) := by decide +kernel
theorem dX9_apart_1 : decode cX9_apart 1 = .ok (.iload_n 1, 1) := by decide +kernel
theorem dX9_apart_2 : decode cX9_apart 2 = .ok (.invokevirtual 97, 3) := by decide +kernel
theorem dX9_apart_5 : decode cX9_apart 5 = .ok (.aload_n 0, 1) := by decide +kernel
theorem dX9_apart_6 : decode cX9_apart 6 = .ok (.getfield 35, 3) := by decide +kernel
theorem dX9_apart_9 : decode cX9_apart 9 = .ok (.aload_n 0, 1) := by decide +kernel
theorem dX9_apart_10 : decode cX9_apart 10 = .ok (.getfield 16, 3) := by decide +kernel
theorem dX9_apart_13 : decode cX9_apart 13 = .ok (.getfield 128, 3) := by decide +kernel
theorem dX9_apart_16 : decode cX9_apart 16 = .ok (.aload_n 0, 1) := by decide +kernel
theorem dX9_apart_17 : decode cX9_apart 17 = .ok (.getfield 9, 3) := by decide +kernel
theorem dX9_apart_20 : decode cX9_apart 20 = .ok (.iconst 0, 1) := by decide +kernel
theorem dX9_apart_21 : decode cX9_apart 21 = .ok (.iload_n 1, 1) := by decide +kernel
theorem dX9_apart_22 : decode cX9_apart 22 = .ok (.invokevirtual 223, 3) := by decide +kernel
theorem dX9_apart_25 : decode cX9_apart 25 = .ok (.aload_n 0, 1) := by decide +kernel
theorem dX9_apart_26 : decode cX9_apart 26 = .ok (.getfield 35, 3) := by decide +kernel
theorem dX9_apart_29 : decode cX9_apart 29 = .ok (.getfield 227, 3) := by decide +kernel
theorem dX9_apart_32 : decode cX9_apart 32 = .ok (.ireturn, 1) := by decide +kernel
theorem dX6_hasPerson_0 : decode cX6_hasPerson 0 = .ok (.iload_n 1, 1) := by decide +kernel
theorem dX6_hasPerson_1 : decode cX6_hasPerson 1 = .ok (.ifCond .lt 15, 3) := by decide +kernel
theorem dX6_hasPerson_4 : decode cX6_hasPerson 4 = .ok (.iload_n 1, 1) := by decide +kernel
theorem dX6_hasPerson_5 : decode cX6_hasPerson 5 = .ok (.aload_n 0, 1) := by decide +kernel
theorem dX6_hasPerson_6 : decode cX6_hasPerson 6 = .ok (.getfield 50, 3) := by decide +kernel
theorem dX6_hasPerson_9 : decode cX6_hasPerson 9 = .ok (.if_icmp .ge 7, 3) := by decide +kernel
theorem dX6_hasPerson_12 : decode cX6_hasPerson 12 = .ok (.iconst 1, 1) := by decide +kernel
theorem dX6_hasPerson_13 : decode cX6_hasPerson 13 = .ok (.goto 4, 3) := by decide +kernel
theorem dX6_hasPerson_16 : decode cX6_hasPerson 16 = .ok (.iconst 0, 1) := by decide +kernel
theorem dX6_hasPerson_17 : decode cX6_hasPerson 17 = .ok (.ireturn, 1) := by decide +kernel
theorem dX9_needPerson_0 : decode cX9_needPerson 0 = .ok (.aload_n 0, 1) := by decide +kernel
theorem dX9_needPerson_1 : decode cX9_needPerson 1 = .ok (.getfield 16, 3) := by decide +kernel
theorem dX9_needPerson_4 : decode cX9_needPerson 4 = .ok (.iload_n 1, 1) := by decide +kernel
theorem dX9_needPerson_5 : decode cX9_needPerson 5 = .ok (.invokevirtual 180, 3) := by decide +kernel
theorem dX9_needPerson_8 : decode cX9_needPerson 8 = .ok (.ifCond .ne 11, 3) := by decide +kernel
theorem dX9_needPerson_11 : decode cX9_needPerson 11 = .ok (.new 167, 3) := by decide +kernel
theorem dX9_needPerson_14 : decode cX9_needPerson 14 = .ok (.dup, 1) := by decide +kernel
theorem dX9_needPerson_15 : decode cX9_needPerson 15 = .ok (.invokespecial 169, 3) := by decide +kernel
theorem dX9_needPerson_18 : decode cX9_needPerson 18 = .ok (.athrow, 1) := by decide +kernel
theorem dX9_needPerson_19 : decode cX9_needPerson 19 = .ok (.return_, 1) := by decide +kernel
theorem dX6_isHour_0 : decode cX6_isHour 0 = .ok (.iload_n 0, 1) := by decide +kernel
theorem dX6_isHour_1 : decode cX6_isHour 1 = .ok (.ifCond .lt 13, 3) := by decide +kernel
theorem dX6_isHour_4 : decode cX6_isHour 4 = .ok (.iload_n 0, 1) := by decide +kernel
theorem dX6_isHour_5 : decode cX6_isHour 5 = .ok (.bipush 24, 2) := by decide +kernel
theorem dX6_isHour_7 : decode cX6_isHour 7 = .ok (.if_icmp .ge 7, 3) := by decide +kernel
theorem dX6_isHour_10 : decode cX6_isHour 10 = .ok (.iconst 1, 1) := by decide +kernel
theorem dX6_isHour_11 : decode cX6_isHour 11 = .ok (.goto 4, 3) := by decide +kernel
theorem dX6_isHour_14 : decode cX6_isHour 14 = .ok (.iconst 0, 1) := by decide +kernel
theorem dX6_isHour_15 : decode cX6_isHour 15 = .ok (.ireturn, 1) := by decide +kernel
theorem dX9_needHour_0 : decode cX9_needHour 0 = .ok (.iload_n 1, 1) := by decide +kernel
theorem dX9_needHour_1 : decode cX9_needHour 1 = .ok (.invokestatic 184, 3) := by decide +kernel
theorem dX9_needHour_4 : decode cX9_needHour 4 = .ok (.ifCond .ne 11, 3) := by decide +kernel
theorem dX9_needHour_7 : decode cX9_needHour 7 = .ok (.new 167, 3) := by decide +kernel
theorem dX9_needHour_10 : decode cX9_needHour 10 = .ok (.dup, 1) := by decide +kernel
theorem dX9_needHour_11 : decode cX9_needHour 11 = .ok (.invokespecial 169, 3) := by decide +kernel
theorem dX9_needHour_14 : decode cX9_needHour 14 = .ok (.athrow, 1) := by decide +kernel
theorem dX9_needHour_15 : decode cX9_needHour 15 = .ok (.return_, 1) := by decide +kernel
theorem dX6_hasThing_0 : decode cX6_hasThing 0 = .ok (.iload_n 1, 1) := by decide +kernel
theorem dX6_hasThing_1 : decode cX6_hasThing 1 = .ok (.ifCond .lt 15, 3) := by decide +kernel
theorem dX6_hasThing_4 : decode cX6_hasThing 4 = .ok (.iload_n 1, 1) := by decide +kernel
theorem dX6_hasThing_5 : decode cX6_hasThing 5 = .ok (.aload_n 0, 1) := by decide +kernel
theorem dX6_hasThing_6 : decode cX6_hasThing 6 = .ok (.getfield 53, 3) := by decide +kernel
theorem dX6_hasThing_9 : decode cX6_hasThing 9 = .ok (.if_icmp .ge 7, 3) := by decide +kernel
theorem dX6_hasThing_12 : decode cX6_hasThing 12 = .ok (.iconst 1, 1) := by decide +kernel
theorem dX6_hasThing_13 : decode cX6_hasThing 13 = .ok (.goto 4, 3) := by decide +kernel
theorem dX6_hasThing_16 : decode cX6_hasThing 16 = .ok (.iconst 0, 1) := by decide +kernel
theorem dX6_hasThing_17 : decode cX6_hasThing 17 = .ok (.ireturn, 1) := by decide +kernel
theorem dX9_needThing_0 : decode cX9_needThing 0 = .ok (.aload_n 0, 1) := by decide +kernel
theorem dX9_needThing_1 : decode cX9_needThing 1 = .ok (.getfield 16, 3) := by decide +kernel
theorem dX9_needThing_4 : decode cX9_needThing 4 = .ok (.iload_n 1, 1) := by decide +kernel
theorem dX9_needThing_5 : decode cX9_needThing 5 = .ok (.invokevirtual 187, 3) := by decide +kernel
theorem dX9_needThing_8 : decode cX9_needThing 8 = .ok (.ifCond .ne 11, 3) := by decide +kernel
theorem dX9_needThing_11 : decode cX9_needThing 11 = .ok (.new 167, 3) := by decide +kernel
theorem dX9_needThing_14 : decode cX9_needThing 14 = .ok (.dup, 1) := by decide +kernel
theorem dX9_needThing_15 : decode cX9_needThing 15 = .ok (.invokespecial 169, 3) := by decide +kernel
theorem dX9_needThing_18 : decode cX9_needThing 18 = .ok (.athrow, 1) := by decide +kernel
theorem dX9_needThing_19 : decode cX9_needThing 19 = .ok (.return_, 1) := by decide +kernel
theorem dJ7_fill_53178_0 : decode cJ7_fill_53178 0 = .ok (.iconst 0, 1) := by decide +kernel
theorem dJ7_fill_53178_1 : decode cJ7_fill_53178 1 = .ok (.istore_n 2, 1) := by decide +kernel
theorem dJ7_fill_53178_2 : decode cJ7_fill_53178 2 = .ok (.aload_n 0, 1) := by decide +kernel
theorem dJ7_fill_53178_3 : decode cJ7_fill_53178 3 = .ok (.arraylength, 1) := by decide +kernel
theorem dJ7_fill_53178_4 : decode cJ7_fill_53178 4 = .ok (.istore_n 3, 1) := by decide +kernel
theorem dJ7_fill_53178_5 : decode cJ7_fill_53178 5 = .ok (.iload_n 2, 1) := by decide +kernel
theorem dJ7_fill_53178_6 : decode cJ7_fill_53178 6 = .ok (.iload_n 3, 1) := by decide +kernel
theorem dJ7_fill_53178_7 : decode cJ7_fill_53178 7 = .ok (.if_icmp .ge 13, 3) := by decide +kernel
theorem dJ7_fill_53178_10 : decode cJ7_fill_53178 10 = .ok (.aload_n 0, 1) := by decide +kernel
theorem dJ7_fill_53178_11 : decode cJ7_fill_53178 11 = .ok (.iload_n 2, 1) := by decide +kernel
theorem dJ7_fill_53178_12 : decode cJ7_fill_53178 12 = .ok (.iload_n 1, 1) := by decide +kernel
theorem dJ7_fill_53178_13 : decode cJ7_fill_53178 13 = .ok (.iastore, 1) := by decide +kernel
theorem dJ7_fill_53178_14 : decode cJ7_fill_53178 14 = .ok (.iinc 2 1, 3) := by decide +kernel
theorem dJ7_fill_53178_17 : decode cJ7_fill_53178 17 = .ok (.goto (-12), 3) := by decide +kernel
theorem dJ7_fill_53178_20 : decode cJ7_fill_53178 20 = .ok (.return_, 1) := by decide +kernel
theorem dX0_aboutRow_0 : decode cX0_aboutRow 0 = .ok (.iconst 2, 1) := by decide +kernel
theorem dX0_aboutRow_1 : decode cX0_aboutRow 1 = .ok (.iload_n 0, 1) := by decide +kernel
theorem dX0_aboutRow_2 : decode cX0_aboutRow 2 = .ok (.imul, 1) := by decide +kernel
theorem dX0_aboutRow_3 : decode cX0_aboutRow 3 = .ok (.iload_n 1, 1) := by decide +kernel
theorem dX0_aboutRow_4 : decode cX0_aboutRow 4 = .ok (.ifCond .eq 7, 3) := by decide +kernel
theorem dX0_aboutRow_7 : decode cX0_aboutRow 7 = .ok (.iconst 1, 1) := by decide +kernel
theorem dX0_aboutRow_8 : decode cX0_aboutRow 8 = .ok (.goto 4, 3) := by decide +kernel
theorem dX0_aboutRow_11 : decode cX0_aboutRow 11 = .ok (.iconst 0, 1) := by decide +kernel
theorem dX0_aboutRow_12 : decode cX0_aboutRow 12 = .ok (.iadd, 1) := by decide +kernel
theorem dX0_aboutRow_13 : decode cX0_aboutRow 13 = .ok (.ireturn, 1) := by decide +kernel
theorem dX6_placeAt_0 : decode cX6_placeAt 0 = .ok (.iload_n 1, 1) := by decide +kernel
theorem dX6_placeAt_1 : decode cX6_placeAt 1 = .ok (.ifCond .lt 21, 3) := by decide +kernel
theorem dX6_placeAt_4 : decode cX6_placeAt 4 = .ok (.iload_n 1, 1) := by decide +kernel
theorem dX6_placeAt_5 : decode cX6_placeAt 5 = .ok (.aload_n 0, 1) := by decide +kernel
theorem dX6_placeAt_6 : decode cX6_placeAt 6 = .ok (.getfield 50, 3) := by decide +kernel
theorem dX6_placeAt_9 : decode cX6_placeAt 9 = .ok (.if_icmp .ge 13, 3) := by decide +kernel
theorem dX6_placeAt_12 : decode cX6_placeAt 12 = .ok (.iload_n 2, 1) := by decide +kernel
theorem dX6_placeAt_13 : decode cX6_placeAt 13 = .ok (.ifCond .lt 9, 3) := by decide +kernel
theorem dX6_placeAt_16 : decode cX6_placeAt 16 = .ok (.iload_n 2, 1) := by decide +kernel
theorem dX6_placeAt_17 : decode cX6_placeAt 17 = .ok (.bipush 24, 2) := by decide +kernel
theorem dX6_placeAt_19 : decode cX6_placeAt 19 = .ok (.if_icmp .lt 5, 3) := by decide +kernel
theorem dX6_placeAt_22 : decode cX6_placeAt 22 = .ok (.iconst (-1), 1) := by decide +kernel
theorem dX6_placeAt_23 : decode cX6_placeAt 23 = .ok (.ireturn, 1) := by decide +kernel
theorem dX6_placeAt_24 : decode cX6_placeAt 24 = .ok (.aload_n 0, 1) := by decide +kernel
theorem dX6_placeAt_25 : decode cX6_placeAt 25 = .ok (.getfield 26, 3) := by decide +kernel
theorem dX6_placeAt_28 : decode cX6_placeAt 28 = .ok (.iload_n 1, 1) := by decide +kernel
theorem dX6_placeAt_29 : decode cX6_placeAt 29 = .ok (.bipush 24, 2) := by decide +kernel
theorem dX6_placeAt_31 : decode cX6_placeAt 31 = .ok (.imul, 1) := by decide +kernel
theorem dX6_placeAt_32 : decode cX6_placeAt 32 = .ok (.iload_n 2, 1) := by decide +kernel
theorem dX6_placeAt_33 : decode cX6_placeAt 33 = .ok (.iadd, 1) := by decide +kernel
theorem dX6_placeAt_34 : decode cX6_placeAt 34 = .ok (.iaload, 1) := by decide +kernel
theorem dX6_placeAt_35 : decode cX6_placeAt 35 = .ok (.ireturn, 1) := by decide +kernel
theorem dX1_isHeardBy_0 : decode cX1_isHeardBy 0 = .ok (.aload_n 0, 1) := by decide +kernel
theorem dX1_isHeardBy_1 : decode cX1_isHeardBy 1 = .ok (.getfield 9, 3) := by decide +kernel
theorem dX1_isHeardBy_4 : decode cX1_isHeardBy 4 = .ok (.iload_n 1, 1) := by decide +kernel
theorem dX1_isHeardBy_5 : decode cX1_isHeardBy 5 = .ok (.iaload, 1) := by decide +kernel
theorem dX1_isHeardBy_6 : decode cX1_isHeardBy 6 = .ok (.iload_n 2, 1) := by decide +kernel
theorem dX1_isHeardBy_7 : decode cX1_isHeardBy 7 = .ok (.if_icmp .eq 37, 3) := by decide +kernel
theorem dX1_isHeardBy_10 : decode cX1_isHeardBy 10 = .ok (.aload_n 3, 1) := by decide +kernel
theorem dX1_isHeardBy_11 : decode cX1_isHeardBy 11 = .ok (.iload_n 2, 1) := by decide +kernel
theorem dX1_isHeardBy_12 : decode cX1_isHeardBy 12 = .ok (.aload_n 0, 1) := by decide +kernel
theorem dX1_isHeardBy_13 : decode cX1_isHeardBy 13 = .ok (.getfield 15, 3) := by decide +kernel
theorem dX1_isHeardBy_16 : decode cX1_isHeardBy 16 = .ok (.iload_n 1, 1) := by decide +kernel
theorem dX1_isHeardBy_17 : decode cX1_isHeardBy 17 = .ok (.iaload, 1) := by decide +kernel
theorem dX1_isHeardBy_18 : decode cX1_isHeardBy 18 = .ok (.invokevirtual 38, 3) := by decide +kernel
theorem dX1_isHeardBy_21 : decode cX1_isHeardBy 21 = .ok (.aload_n 3, 1) := by decide +kernel
theorem dX1_isHeardBy_22 : decode cX1_isHeardBy 22 = .ok (.aload_n 0, 1) := by decide +kernel
theorem dX1_isHeardBy_23 : decode cX1_isHeardBy 23 = .ok (.getfield 9, 3) := by decide +kernel
theorem dX1_isHeardBy_26 : decode cX1_isHeardBy 26 = .ok (.iload_n 1, 1) := by decide +kernel
theorem dX1_isHeardBy_27 : decode cX1_isHeardBy 27 = .ok (.iaload, 1) := by decide +kernel
theorem dX1_isHeardBy_28 : decode cX1_isHeardBy 28 = .ok (.aload_n 0, 1) := by decide +kernel
theorem dX1_isHeardBy_29 : decode cX1_isHeardBy 29 = .ok (.getfield 15, 3) := by decide +kernel
theorem dX1_isHeardBy_32 : decode cX1_isHeardBy 32 = .ok (.iload_n 1, 1) := by decide +kernel
theorem dX1_isHeardBy_33 : decode cX1_isHeardBy 33 = .ok (.iaload, 1) := by decide +kernel
theorem dX1_isHeardBy_34 : decode cX1_isHeardBy 34 = .ok (.invokevirtual 38, 3) := by decide +kernel
theorem dX1_isHeardBy_37 : decode cX1_isHeardBy 37 = .ok (.if_icmp .ne 7, 3) := by decide +kernel
theorem dX1_isHeardBy_40 : decode cX1_isHeardBy 40 = .ok (.iconst 1, 1) := by decide +kernel
theorem dX1_isHeardBy_41 : decode cX1_isHeardBy 41 = .ok (.goto 4, 3) := by decide +kernel
theorem dX1_isHeardBy_44 : decode cX1_isHeardBy 44 = .ok (.iconst 0, 1) := by decide +kernel
theorem dX1_isHeardBy_45 : decode cX1_isHeardBy 45 = .ok (.ireturn, 1) := by decide +kernel
theorem dX0_heardBy_0 : decode cX0_heardBy 0 = .ok (.iconst 0, 1) := by decide +kernel
theorem dX0_heardBy_1 : decode cX0_heardBy 1 = .ok (.istore_n 3, 1) := by decide +kernel
theorem dX0_heardBy_2 : decode cX0_heardBy 2 = .ok (.iconst 0, 1) := by decide +kernel
theorem dX0_heardBy_3 : decode cX0_heardBy 3 = .ok (.istore 4, 2) := by decide +kernel
theorem dX0_heardBy_5 : decode cX0_heardBy 5 = .ok (.iload 4, 2) := by decide +kernel
theorem dX0_heardBy_7 : decode cX0_heardBy 7 = .ok (.aload_n 0, 1) := by decide +kernel
theorem dX0_heardBy_8 : decode cX0_heardBy 8 = .ok (.getfield 46, 3) := by decide +kernel
theorem dX0_heardBy_11 : decode cX0_heardBy 11 = .ok (.getfield 89, 3) := by decide +kernel
theorem dX0_heardBy_14 : decode cX0_heardBy 14 = .ok (.if_icmp .ge 47, 3) := by decide +kernel
theorem dX0_heardBy_17 : decode cX0_heardBy 17 = .ok (.aload_n 0, 1) := by decide +kernel
theorem dX0_heardBy_18 : decode cX0_heardBy 18 = .ok (.getfield 46, 3) := by decide +kernel
theorem dX0_heardBy_21 : decode cX0_heardBy 21 = .ok (.getfield 95, 3) := by decide +kernel
theorem dX0_heardBy_24 : decode cX0_heardBy 24 = .ok (.iload 4, 2) := by decide +kernel
theorem dX0_heardBy_26 : decode cX0_heardBy 26 = .ok (.iaload, 1) := by decide +kernel
theorem dX0_heardBy_27 : decode cX0_heardBy 27 = .ok (.iload_n 2, 1) := by decide +kernel
theorem dX0_heardBy_28 : decode cX0_heardBy 28 = .ok (.if_icmp .gt 27, 3) := by decide +kernel
theorem dX0_heardBy_31 : decode cX0_heardBy 31 = .ok (.aload_n 0, 1) := by decide +kernel
theorem dX0_heardBy_32 : decode cX0_heardBy 32 = .ok (.getfield 46, 3) := by decide +kernel
theorem dX0_heardBy_35 : decode cX0_heardBy 35 = .ok (.iload 4, 2) := by decide +kernel
theorem dX0_heardBy_37 : decode cX0_heardBy 37 = .ok (.iload_n 1, 1) := by decide +kernel
theorem dX0_heardBy_38 : decode cX0_heardBy 38 = .ok (.aload_n 0, 1) := by decide +kernel
theorem dX0_heardBy_39 : decode cX0_heardBy 39 = .ok (.getfield 42, 3) := by decide +kernel
theorem dX0_heardBy_42 : decode cX0_heardBy 42 = .ok (.invokevirtual 124, 3) := by decide +kernel
theorem dX0_heardBy_45 : decode cX0_heardBy 45 = .ok (.ifCond .eq 10, 3) := by decide +kernel
theorem dX0_heardBy_48 : decode cX0_heardBy 48 = .ok (.iload_n 3, 1) := by decide +kernel
theorem dX0_heardBy_49 : decode cX0_heardBy 49 = .ok (.iconst 1, 1) := by decide +kernel
theorem dX0_heardBy_50 : decode cX0_heardBy 50 = .ok (.iload 4, 2) := by decide +kernel
theorem dX0_heardBy_52 : decode cX0_heardBy 52 = .ok (.ishl, 1) := by decide +kernel
theorem dX0_heardBy_53 : decode cX0_heardBy 53 = .ok (.ior, 1) := by decide +kernel
theorem dX0_heardBy_54 : decode cX0_heardBy 54 = .ok (.istore_n 3, 1) := by decide +kernel
theorem dX0_heardBy_55 : decode cX0_heardBy 55 = .ok (.iinc 4 1, 3) := by decide +kernel
theorem dX0_heardBy_58 : decode cX0_heardBy 58 = .ok (.goto (-53), 3) := by decide +kernel
theorem dX0_heardBy_61 : decode cX0_heardBy 61 = .ok (.iload_n 3, 1) := by decide +kernel
theorem dX0_heardBy_62 : decode cX0_heardBy 62 = .ok (.ireturn, 1) := by decide +kernel
theorem dX6_wasThere_0 : decode cX6_wasThere 0 = .ok (.aload_n 0, 1) := by decide +kernel
theorem dX6_wasThere_1 : decode cX6_wasThere 1 = .ok (.iload_n 1, 1) := by decide +kernel
theorem dX6_wasThere_2 : decode cX6_wasThere 2 = .ok (.aload_n 0, 1) := by decide +kernel
theorem dX6_wasThere_3 : decode cX6_wasThere 3 = .ok (.getfield 35, 3) := by decide +kernel
theorem dX6_wasThere_6 : decode cX6_wasThere 6 = .ok (.iload_n 2, 1) := by decide +kernel
theorem dX6_wasThere_7 : decode cX6_wasThere 7 = .ok (.iaload, 1) := by decide +kernel
theorem dX6_wasThere_8 : decode cX6_wasThere 8 = .ok (.invokevirtual 85, 3) := by decide +kernel
theorem dX6_wasThere_11 : decode cX6_wasThere 11 = .ok (.aload_n 0, 1) := by decide +kernel
theorem dX6_wasThere_12 : decode cX6_wasThere 12 = .ok (.getfield 32, 3) := by decide +kernel
theorem dX6_wasThere_15 : decode cX6_wasThere 15 = .ok (.iload_n 2, 1) := by decide +kernel
theorem dX6_wasThere_16 : decode cX6_wasThere 16 = .ok (.iaload, 1) := by decide +kernel
theorem dX6_wasThere_17 : decode cX6_wasThere 17 = .ok (.if_icmp .ne 7, 3) := by decide +kernel
theorem dX6_wasThere_20 : decode cX6_wasThere 20 = .ok (.iconst 1, 1) := by decide +kernel
theorem dX6_wasThere_21 : decode cX6_wasThere 21 = .ok (.goto 4, 3) := by decide +kernel
theorem dX6_wasThere_24 : decode cX6_wasThere 24 = .ok (.iconst 0, 1) := by decide +kernel
theorem dX6_wasThere_25 : decode cX6_wasThere 25 = .ok (.ireturn, 1) := by decide +kernel
theorem dX9_hasBit_0 : decode cX9_hasBit 0 = .ok (.iload_n 0, 1) := by decide +kernel
theorem dX9_hasBit_1 : decode cX9_hasBit 1 = .ok (.iload_n 1, 1) := by decide +kernel
theorem dX9_hasBit_2 : decode cX9_hasBit 2 = .ok (.iushr, 1) := by decide +kernel
theorem dX9_hasBit_3 : decode cX9_hasBit 3 = .ok (.iconst 1, 1) := by decide +kernel
theorem dX9_hasBit_4 : decode cX9_hasBit 4 = .ok (.iand, 1) := by decide +kernel
theorem dX9_hasBit_5 : decode cX9_hasBit 5 = .ok (.ifCond .eq 7, 3) := by decide +kernel
theorem dX9_hasBit_8 : decode cX9_hasBit 8 = .ok (.iconst 1, 1) := by decide +kernel
theorem dX9_hasBit_9 : decode cX9_hasBit 9 = .ok (.goto 4, 3) := by decide +kernel
theorem dX9_hasBit_12 : decode cX9_hasBit 12 = .ok (.iconst 0, 1) := by decide +kernel
theorem dX9_hasBit_13 : decode cX9_hasBit 13 = .ok (.ireturn, 1) := by decide +kernel
theorem dX6_isNear_0 : decode cX6_isNear 0 = .ok (.iload_n 1, 1) := by decide +kernel
theorem dX6_isNear_1 : decode cX6_isNear 1 = .ok (.ifCond .lt 28, 3) := by decide +kernel
theorem dX6_isNear_4 : decode cX6_isNear 4 = .ok (.iload_n 1, 1) := by decide +kernel
theorem dX6_isNear_5 : decode cX6_isNear 5 = .ok (.aload_n 0, 1) := by decide +kernel
theorem dX6_isNear_6 : decode cX6_isNear 6 = .ok (.getfield 18, 3) := by decide +kernel
theorem dX6_isNear_9 : decode cX6_isNear 9 = .ok (.if_icmp .ge 20, 3) := by decide +kernel
theorem dX6_isNear_12 : decode cX6_isNear 12 = .ok (.aload_n 0, 1) := by decide +kernel
theorem dX6_isNear_13 : decode cX6_isNear 13 = .ok (.getfield 22, 3) := by decide +kernel
theorem dX6_isNear_16 : decode cX6_isNear 16 = .ok (.iload_n 1, 1) := by decide +kernel
theorem dX6_isNear_17 : decode cX6_isNear 17 = .ok (.iaload, 1) := by decide +kernel
theorem dX6_isNear_18 : decode cX6_isNear 18 = .ok (.iload_n 2, 1) := by decide +kernel
theorem dX6_isNear_19 : decode cX6_isNear 19 = .ok (.invokestatic 81, 3) := by decide +kernel
theorem dX6_isNear_22 : decode cX6_isNear 22 = .ok (.ifCond .eq 7, 3) := by decide +kernel
theorem dX6_isNear_25 : decode cX6_isNear 25 = .ok (.iconst 1, 1) := by decide +kernel
theorem dX6_isNear_26 : decode cX6_isNear 26 = .ok (.goto 4, 3) := by decide +kernel
theorem dX6_isNear_29 : decode cX6_isNear 29 = .ok (.iconst 0, 1) := by decide +kernel
theorem dX6_isNear_30 : decode cX6_isNear 30 = .ok (.ireturn, 1) := by decide +kernel
theorem dX6_ownHows_0 : decode cX6_ownHows 0 = .ok (.aload_n 0, 1) := by decide +kernel
theorem dX6_ownHows_1 : decode cX6_ownHows 1 = .ok (.getfield 35, 3) := by decide +kernel
theorem dX6_ownHows_4 : decode cX6_ownHows 4 = .ok (.iload_n 3, 1) := by decide +kernel
theorem dX6_ownHows_5 : decode cX6_ownHows 5 = .ok (.iaload, 1) := by decide +kernel
theorem dX6_ownHows_6 : decode cX6_ownHows 6 = .ok (.iload_n 2, 1) := by decide +kernel
theorem dX6_ownHows_7 : decode cX6_ownHows 7 = .ok (.if_icmp .le 5, 3) := by decide +kernel
theorem dX6_ownHows_10 : decode cX6_ownHows 10 = .ok (.iconst 0, 1) := by decide +kernel
theorem dX6_ownHows_11 : decode cX6_ownHows 11 = .ok (.ireturn, 1) := by decide +kernel
theorem dX6_ownHows_12 : decode cX6_ownHows 12 = .ok (.iconst 0, 1) := by decide +kernel
theorem dX6_ownHows_13 : decode cX6_ownHows 13 = .ok (.istore 5, 2) := by decide +kernel
theorem dX6_ownHows_15 : decode cX6_ownHows 15 = .ok (.aload_n 0, 1) := by decide +kernel
theorem dX6_ownHows_16 : decode cX6_ownHows 16 = .ok (.iload_n 1, 1) := by decide +kernel
theorem dX6_ownHows_17 : decode cX6_ownHows 17 = .ok (.iload_n 3, 1) := by decide +kernel
theorem dX6_ownHows_18 : decode cX6_ownHows 18 = .ok (.invokevirtual 89, 3) := by decide +kernel
theorem dX6_ownHows_21 : decode cX6_ownHows 21 = .ok (.ifCond .eq 22, 3) := by decide +kernel
theorem dX6_ownHows_24 : decode cX6_ownHows 24 = .ok (.aload_n 0, 1) := by decide +kernel
theorem dX6_ownHows_25 : decode cX6_ownHows 25 = .ok (.getfield 62, 3) := by decide +kernel
theorem dX6_ownHows_28 : decode cX6_ownHows 28 = .ok (.iload_n 3, 1) := by decide +kernel
theorem dX6_ownHows_29 : decode cX6_ownHows 29 = .ok (.invokestatic 81, 3) := by decide +kernel
theorem dX6_ownHows_32 : decode cX6_ownHows 32 = .ok (.iload 4, 2) := by decide +kernel
theorem dX6_ownHows_34 : decode cX6_ownHows 34 = .ok (.if_icmp .ne 9, 3) := by decide +kernel
theorem dX6_ownHows_37 : decode cX6_ownHows 37 = .ok (.iload 5, 2) := by decide +kernel
theorem dX6_ownHows_39 : decode cX6_ownHows 39 = .ok (.iconst 1, 1) := by decide +kernel
theorem dX6_ownHows_40 : decode cX6_ownHows 40 = .ok (.ior, 1) := by decide +kernel
theorem dX6_ownHows_41 : decode cX6_ownHows 41 = .ok (.istore 5, 2) := by decide +kernel
theorem dX6_ownHows_43 : decode cX6_ownHows 43 = .ok (.iload 4, 2) := by decide +kernel
theorem dX6_ownHows_45 : decode cX6_ownHows 45 = .ok (.ifCond .ne 55, 3) := by decide +kernel
theorem dX6_ownHows_48 : decode cX6_ownHows 48 = .ok (.aload_n 0, 1) := by decide +kernel
theorem dX6_ownHows_49 : decode cX6_ownHows 49 = .ok (.getfield 59, 3) := by decide +kernel
theorem dX6_ownHows_52 : decode cX6_ownHows 52 = .ok (.iload_n 3, 1) := by decide +kernel
theorem dX6_ownHows_53 : decode cX6_ownHows 53 = .ok (.invokestatic 81, 3) := by decide +kernel
theorem dX6_ownHows_56 : decode cX6_ownHows 56 = .ok (.ifCond .eq 44, 3) := by decide +kernel
theorem dX6_ownHows_59 : decode cX6_ownHows 59 = .ok (.aload_n 0, 1) := by decide +kernel
theorem dX6_ownHows_60 : decode cX6_ownHows 60 = .ok (.getfield 62, 3) := by decide +kernel
theorem dX6_ownHows_63 : decode cX6_ownHows 63 = .ok (.iload_n 3, 1) := by decide +kernel
theorem dX6_ownHows_64 : decode cX6_ownHows 64 = .ok (.invokestatic 81, 3) := by decide +kernel
theorem dX6_ownHows_67 : decode cX6_ownHows 67 = .ok (.ifCond .ne 33, 3) := by decide +kernel
theorem dX6_ownHows_70 : decode cX6_ownHows 70 = .ok (.aload_n 0, 1) := by decide +kernel
theorem dX6_ownHows_71 : decode cX6_ownHows 71 = .ok (.aload_n 0, 1) := by decide +kernel
theorem dX6_ownHows_72 : decode cX6_ownHows 72 = .ok (.iload_n 1, 1) := by decide +kernel
theorem dX6_ownHows_73 : decode cX6_ownHows 73 = .ok (.aload_n 0, 1) := by decide +kernel
theorem dX6_ownHows_74 : decode cX6_ownHows 74 = .ok (.getfield 35, 3) := by decide +kernel
theorem dX6_ownHows_77 : decode cX6_ownHows 77 = .ok (.iload_n 3, 1) := by decide +kernel
theorem dX6_ownHows_78 : decode cX6_ownHows 78 = .ok (.iaload, 1) := by decide +kernel
theorem dX6_ownHows_79 : decode cX6_ownHows 79 = .ok (.invokevirtual 85, 3) := by decide +kernel
theorem dX6_ownHows_82 : decode cX6_ownHows 82 = .ok (.aload_n 0, 1) := by decide +kernel
theorem dX6_ownHows_83 : decode cX6_ownHows 83 = .ok (.getfield 32, 3) := by decide +kernel
theorem dX6_ownHows_86 : decode cX6_ownHows 86 = .ok (.iload_n 3, 1) := by decide +kernel
theorem dX6_ownHows_87 : decode cX6_ownHows 87 = .ok (.iaload, 1) := by decide +kernel
theorem dX6_ownHows_88 : decode cX6_ownHows 88 = .ok (.invokevirtual 92, 3) := by decide +kernel
theorem dX6_ownHows_91 : decode cX6_ownHows 91 = .ok (.ifCond .eq 9, 3) := by decide +kernel
theorem dX6_ownHows_94 : decode cX6_ownHows 94 = .ok (.iload 5, 2) := by decide +kernel
theorem dX6_ownHows_96 : decode cX6_ownHows 96 = .ok (.iconst 2, 1) := by decide +kernel
theorem dX6_ownHows_97 : decode cX6_ownHows 97 = .ok (.ior, 1) := by decide +kernel
theorem dX6_ownHows_98 : decode cX6_ownHows 98 = .ok (.istore 5, 2) := by decide +kernel
theorem dX6_ownHows_100 : decode cX6_ownHows 100 = .ok (.iload 5, 2) := by decide +kernel
theorem dX6_ownHows_102 : decode cX6_ownHows 102 = .ok (.ireturn, 1) := by decide +kernel
theorem dX6_ownThings_0 : decode cX6_ownThings 0 = .ok (.iconst 0, 1) := by decide +kernel
theorem dX6_ownThings_1 : decode cX6_ownThings 1 = .ok (.istore_n 3, 1) := by decide +kernel
theorem dX6_ownThings_2 : decode cX6_ownThings 2 = .ok (.iconst 0, 1) := by decide +kernel
theorem dX6_ownThings_3 : decode cX6_ownThings 3 = .ok (.istore 4, 2) := by decide +kernel
theorem dX6_ownThings_5 : decode cX6_ownThings 5 = .ok (.iload 4, 2) := by decide +kernel
theorem dX6_ownThings_7 : decode cX6_ownThings 7 = .ok (.aload_n 0, 1) := by decide +kernel
theorem dX6_ownThings_8 : decode cX6_ownThings 8 = .ok (.getfield 53, 3) := by decide +kernel
theorem dX6_ownThings_11 : decode cX6_ownThings 11 = .ok (.if_icmp .ge 28, 3) := by decide +kernel
theorem dX6_ownThings_14 : decode cX6_ownThings 14 = .ok (.aload_n 0, 1) := by decide +kernel
theorem dX6_ownThings_15 : decode cX6_ownThings 15 = .ok (.iload_n 1, 1) := by decide +kernel
theorem dX6_ownThings_16 : decode cX6_ownThings 16 = .ok (.iload_n 2, 1) := by decide +kernel
theorem dX6_ownThings_17 : decode cX6_ownThings 17 = .ok (.iload 4, 2) := by decide +kernel
theorem dX6_ownThings_19 : decode cX6_ownThings 19 = .ok (.iconst 0, 1) := by decide +kernel
theorem dX6_ownThings_20 : decode cX6_ownThings 20 = .ok (.invokevirtual 95, 3) := by decide +kernel
theorem dX6_ownThings_23 : decode cX6_ownThings 23 = .ok (.ifCond .eq 10, 3) := by decide +kernel
theorem dX6_ownThings_26 : decode cX6_ownThings 26 = .ok (.iload_n 3, 1) := by decide +kernel
theorem dX6_ownThings_27 : decode cX6_ownThings 27 = .ok (.iconst 1, 1) := by decide +kernel
theorem dX6_ownThings_28 : decode cX6_ownThings 28 = .ok (.iload 4, 2) := by decide +kernel
theorem dX6_ownThings_30 : decode cX6_ownThings 30 = .ok (.ishl, 1) := by decide +kernel
theorem dX6_ownThings_31 : decode cX6_ownThings 31 = .ok (.ior, 1) := by decide +kernel
theorem dX6_ownThings_32 : decode cX6_ownThings 32 = .ok (.istore_n 3, 1) := by decide +kernel
theorem dX6_ownThings_33 : decode cX6_ownThings 33 = .ok (.iinc 4 1, 3) := by decide +kernel
theorem dX6_ownThings_36 : decode cX6_ownThings 36 = .ok (.goto (-31), 3) := by decide +kernel
theorem dX6_ownThings_39 : decode cX6_ownThings 39 = .ok (.iload_n 3, 1) := by decide +kernel
theorem dX6_ownThings_40 : decode cX6_ownThings 40 = .ok (.ireturn, 1) := by decide +kernel

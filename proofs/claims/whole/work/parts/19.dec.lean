theorem dX6_copyFrom_0 : decode cX6_copyFrom 0 = .ok (.aload_n 0, 1) := by decide +kernel
theorem dX6_copyFrom_1 : decode cX6_copyFrom 1 = .ok (.getfield 12, 3) := by decide +kernel
theorem dX6_copyFrom_4 : decode cX6_copyFrom 4 = .ok (.aload_n 1, 1) := by decide +kernel
theorem dX6_copyFrom_5 : decode cX6_copyFrom 5 = .ok (.getfield 12, 3) := by decide +kernel
theorem dX6_copyFrom_8 : decode cX6_copyFrom 8 = .ok (.invokevirtual 71, 3) := by decide +kernel
theorem dX6_copyFrom_11 : decode cX6_copyFrom 11 = .ok (.aload_n 0, 1) := by decide +kernel
theorem dX6_copyFrom_12 : decode cX6_copyFrom 12 = .ok (.aload_n 1, 1) := by decide +kernel
theorem dX6_copyFrom_13 : decode cX6_copyFrom 13 = .ok (.getfield 18, 3) := by decide +kernel
theorem dX6_copyFrom_16 : decode cX6_copyFrom 16 = .ok (.putfield 18, 3) := by decide +kernel
theorem dX6_copyFrom_19 : decode cX6_copyFrom 19 = .ok (.aload_n 0, 1) := by decide +kernel
theorem dX6_copyFrom_20 : decode cX6_copyFrom 20 = .ok (.aload_n 1, 1) := by decide +kernel
theorem dX6_copyFrom_21 : decode cX6_copyFrom 21 = .ok (.getfield 50, 3) := by decide +kernel
theorem dX6_copyFrom_24 : decode cX6_copyFrom 24 = .ok (.putfield 50, 3) := by decide +kernel
theorem dX6_copyFrom_27 : decode cX6_copyFrom 27 = .ok (.aload_n 0, 1) := by decide +kernel
theorem dX6_copyFrom_28 : decode cX6_copyFrom 28 = .ok (.aload_n 1, 1) := by decide +kernel
theorem dX6_copyFrom_29 : decode cX6_copyFrom 29 = .ok (.getfield 53, 3) := by decide +kernel
theorem dX6_copyFrom_32 : decode cX6_copyFrom 32 = .ok (.putfield 53, 3) := by decide +kernel
theorem dX6_copyFrom_35 : decode cX6_copyFrom 35 = .ok (.aload_n 0, 1) := by decide +kernel
theorem dX6_copyFrom_36 : decode cX6_copyFrom 36 = .ok (.aload_n 1, 1) := by decide +kernel
theorem dX6_copyFrom_37 : decode cX6_copyFrom 37 = .ok (.getfield 56, 3) := by decide +kernel
theorem dX6_copyFrom_40 : decode cX6_copyFrom 40 = .ok (.putfield 56, 3) := by decide +kernel
theorem dX6_copyFrom_43 : decode cX6_copyFrom 43 = .ok (.aload_n 0, 1) := by decide +kernel
theorem dX6_copyFrom_44 : decode cX6_copyFrom 44 = .ok (.aload_n 1, 1) := by decide +kernel
theorem dX6_copyFrom_45 : decode cX6_copyFrom 45 = .ok (.getfield 59, 3) := by decide +kernel
theorem dX6_copyFrom_48 : decode cX6_copyFrom 48 = .ok (.putfield 59, 3) := by decide +kernel
theorem dX6_copyFrom_51 : decode cX6_copyFrom 51 = .ok (.aload_n 0, 1) := by decide +kernel
theorem dX6_copyFrom_52 : decode cX6_copyFrom 52 = .ok (.aload_n 1, 1) := by decide +kernel
theorem dX6_copyFrom_53 : decode cX6_copyFrom 53 = .ok (.getfield 62, 3) := by decide +kernel
theorem dX6_copyFrom_56 : decode cX6_copyFrom 56 = .ok (.putfield 62, 3) := by decide +kernel
theorem dX6_copyFrom_59 : decode cX6_copyFrom 59 = .ok (.aload_n 1, 1) := by decide +kernel
theorem dX6_copyFrom_60 : decode cX6_copyFrom 60 = .ok (.getfield 22, 3) := by decide +kernel
theorem dX6_copyFrom_63 : decode cX6_copyFrom 63 = .ok (.iconst 0, 1) := by decide +kernel
theorem dX6_copyFrom_64 : decode cX6_copyFrom 64 = .ok (.aload_n 0, 1) := by decide +kernel
theorem dX6_copyFrom_65 : decode cX6_copyFrom 65 = .ok (.getfield 22, 3) := by decide +kernel
theorem dX6_copyFrom_68 : decode cX6_copyFrom 68 = .ok (.iconst 0, 1) := by decide +kernel
theorem dX6_copyFrom_69 : decode cX6_copyFrom 69 = .ok (.aload_n 0, 1) := by decide +kernel
theorem dX6_copyFrom_70 : decode cX6_copyFrom 70 = .ok (.getfield 22, 3) := by decide +kernel
theorem dX6_copyFrom_73 : decode cX6_copyFrom 73 = .ok (.arraylength, 1) := by decide +kernel
theorem dX6_copyFrom_74 : decode cX6_copyFrom 74 = .ok (.invokestatic 75, 3) := by decide +kernel
theorem dX6_copyFrom_77 : decode cX6_copyFrom 77 = .ok (.aload_n 1, 1) := by decide +kernel
theorem dX6_copyFrom_78 : decode cX6_copyFrom 78 = .ok (.getfield 26, 3) := by decide +kernel
theorem dX6_copyFrom_81 : decode cX6_copyFrom 81 = .ok (.iconst 0, 1) := by decide +kernel
theorem dX6_copyFrom_82 : decode cX6_copyFrom 82 = .ok (.aload_n 0, 1) := by decide +kernel
theorem dX6_copyFrom_83 : decode cX6_copyFrom 83 = .ok (.getfield 26, 3) := by decide +kernel
theorem dX6_copyFrom_86 : decode cX6_copyFrom 86 = .ok (.iconst 0, 1) := by decide +kernel
theorem dX6_copyFrom_87 : decode cX6_copyFrom 87 = .ok (.aload_n 0, 1) := by decide +kernel
theorem dX6_copyFrom_88 : decode cX6_copyFrom 88 = .ok (.getfield 26, 3) := by decide +kernel
theorem dX6_copyFrom_91 : decode cX6_copyFrom 91 = .ok (.arraylength, 1) := by decide +kernel
theorem dX6_copyFrom_92 : decode cX6_copyFrom 92 = .ok (.invokestatic 75, 3) := by decide +kernel
theorem dX6_copyFrom_95 : decode cX6_copyFrom 95 = .ok (.aload_n 1, 1) := by decide +kernel
theorem dX6_copyFrom_96 : decode cX6_copyFrom 96 = .ok (.getfield 29, 3) := by decide +kernel
theorem dX6_copyFrom_99 : decode cX6_copyFrom 99 = .ok (.iconst 0, 1) := by decide +kernel
theorem dX6_copyFrom_100 : decode cX6_copyFrom 100 = .ok (.aload_n 0, 1) := by decide +kernel
theorem dX6_copyFrom_101 : decode cX6_copyFrom 101 = .ok (.getfield 29, 3) := by decide +kernel
theorem dX6_copyFrom_104 : decode cX6_copyFrom 104 = .ok (.iconst 0, 1) := by decide +kernel
theorem dX6_copyFrom_105 : decode cX6_copyFrom 105 = .ok (.aload_n 0, 1) := by decide +kernel
theorem dX6_copyFrom_106 : decode cX6_copyFrom 106 = .ok (.getfield 29, 3) := by decide +kernel
theorem dX6_copyFrom_109 : decode cX6_copyFrom 109 = .ok (.arraylength, 1) := by decide +kernel
theorem dX6_copyFrom_110 : decode cX6_copyFrom 110 = .ok (.invokestatic 75, 3) := by decide +kernel
theorem dX6_copyFrom_113 : decode cX6_copyFrom 113 = .ok (.aload_n 1, 1) := by decide +kernel
theorem dX6_copyFrom_114 : decode cX6_copyFrom 114 = .ok (.getfield 32, 3) := by decide +kernel
theorem dX6_copyFrom_117 : decode cX6_copyFrom 117 = .ok (.iconst 0, 1) := by decide +kernel
theorem dX6_copyFrom_118 : decode cX6_copyFrom 118 = .ok (.aload_n 0, 1) := by decide +kernel
theorem dX6_copyFrom_119 : decode cX6_copyFrom 119 = .ok (.getfield 32, 3) := by decide +kernel
theorem dX6_copyFrom_122 : decode cX6_copyFrom 122 = .ok (.iconst 0, 1) := by decide +kernel
theorem dX6_copyFrom_123 : decode cX6_copyFrom 123 = .ok (.aload_n 0, 1) := by decide +kernel
theorem dX6_copyFrom_124 : decode cX6_copyFrom 124 = .ok (.getfield 32, 3) := by decide +kernel
theorem dX6_copyFrom_127 : decode cX6_copyFrom 127 = .ok (.arraylength, 1) := by decide +kernel
theorem dX6_copyFrom_128 : decode cX6_copyFrom 128 = .ok (.invokestatic 75, 3) := by decide +kernel
theorem dX6_copyFrom_131 : decode cX6_copyFrom 131 = .ok (.aload_n 1, 1) := by decide +kernel
theorem dX6_copyFrom_132 : decode cX6_copyFrom 132 = .ok (.getfield 35, 3) := by decide +kernel
theorem dX6_copyFrom_135 : decode cX6_copyFrom 135 = .ok (.iconst 0, 1) := by decide +kernel
theorem dX6_copyFrom_136 : decode cX6_copyFrom 136 = .ok (.aload_n 0, 1) := by decide +kernel
theorem dX6_copyFrom_137 : decode cX6_copyFrom 137 = .ok (.getfield 35, 3) := by decide +kernel
theorem dX6_copyFrom_140 : decode cX6_copyFrom 140 = .ok (.iconst 0, 1) := by decide +kernel
theorem dX6_copyFrom_141 : decode cX6_copyFrom 141 = .ok (.aload_n 0, 1) := by decide +kernel
theorem dX6_copyFrom_142 : decode cX6_copyFrom 142 = .ok (.getfield 35, 3) := by decide +kernel
theorem dX6_copyFrom_145 : decode cX6_copyFrom 145 = .ok (.arraylength, 1) := by decide +kernel
theorem dX6_copyFrom_146 : decode cX6_copyFrom 146 = .ok (.invokestatic 75, 3) := by decide +kernel
theorem dX6_copyFrom_149 : decode cX6_copyFrom 149 = .ok (.aload_n 1, 1) := by decide +kernel
theorem dX6_copyFrom_150 : decode cX6_copyFrom 150 = .ok (.getfield 38, 3) := by decide +kernel
theorem dX6_copyFrom_153 : decode cX6_copyFrom 153 = .ok (.iconst 0, 1) := by decide +kernel
theorem dX6_copyFrom_154 : decode cX6_copyFrom 154 = .ok (.aload_n 0, 1) := by decide +kernel
theorem dX6_copyFrom_155 : decode cX6_copyFrom 155 = .ok (.getfield 38, 3) := by decide +kernel
theorem dX6_copyFrom_158 : decode cX6_copyFrom 158 = .ok (.iconst 0, 1) := by decide +kernel
theorem dX6_copyFrom_159 : decode cX6_copyFrom 159 = .ok (.aload_n 0, 1) := by decide +kernel
theorem dX6_copyFrom_160 : decode cX6_copyFrom 160 = .ok (.getfield 38, 3) := by decide +kernel
theorem dX6_copyFrom_163 : decode cX6_copyFrom 163 = .ok (.arraylength, 1) := by decide +kernel
theorem dX6_copyFrom_164 : decode cX6_copyFrom 164 = .ok (.invokestatic 75, 3) := by decide +kernel
theorem dX6_copyFrom_167 : decode cX6_copyFrom 167 = .ok (.aload_n 1, 1) := by decide +kernel
theorem dX6_copyFrom_168 : decode cX6_copyFrom 168 = .ok (.getfield 41, 3) := by decide +kernel
theorem dX6_copyFrom_171 : decode cX6_copyFrom 171 = .ok (.iconst 0, 1) := by decide +kernel
theorem dX6_copyFrom_172 : decode cX6_copyFrom 172 = .ok (.aload_n 0, 1) := by decide +kernel
theorem dX6_copyFrom_173 : decode cX6_copyFrom 173 = .ok (.getfield 41, 3) := by decide +kernel
theorem dX6_copyFrom_176 : decode cX6_copyFrom 176 = .ok (.iconst 0, 1) := by decide +kernel
theorem dX6_copyFrom_177 : decode cX6_copyFrom 177 = .ok (.aload_n 0, 1) := by decide +kernel
theorem dX6_copyFrom_178 : decode cX6_copyFrom 178 = .ok (.getfield 41, 3) := by decide +kernel
theorem dX6_copyFrom_181 : decode cX6_copyFrom 181 = .ok (.arraylength, 1) := by decide +kernel
theorem dX6_copyFrom_182 : decode cX6_copyFrom 182 = .ok (.invokestatic 75, 3) := by decide +kernel
theorem dX6_copyFrom_185 : decode cX6_copyFrom 185 = .ok (.aload_n 1, 1) := by decide +kernel
theorem dX6_copyFrom_186 : decode cX6_copyFrom 186 = .ok (.getfield 44, 3) := by decide +kernel
theorem dX6_copyFrom_189 : decode cX6_copyFrom 189 = .ok (.iconst 0, 1) := by decide +kernel
theorem dX6_copyFrom_190 : decode cX6_copyFrom 190 = .ok (.aload_n 0, 1) := by decide +kernel
theorem dX6_copyFrom_191 : decode cX6_copyFrom 191 = .ok (.getfield 44, 3) := by decide +kernel
theorem dX6_copyFrom_194 : decode cX6_copyFrom 194 = .ok (.iconst 0, 1) := by decide +kernel
theorem dX6_copyFrom_195 : decode cX6_copyFrom 195 = .ok (.aload_n 0, 1) := by decide +kernel
theorem dX6_copyFrom_196 : decode cX6_copyFrom 196 = .ok (.getfield 44, 3) := by decide +kernel
theorem dX6_copyFrom_199 : decode cX6_copyFrom 199 = .ok (.arraylength, 1) := by decide +kernel
theorem dX6_copyFrom_200 : decode cX6_copyFrom 200 = .ok (.invokestatic 75, 3) := by decide +kernel
theorem dX6_copyFrom_203 : decode cX6_copyFrom 203 = .ok (.return_, 1) := by decide +kernel
theorem dX3_clear_0 : decode cX3_clear 0 = .ok (.aload_n 0, 1) := by decide +kernel
theorem dX3_clear_1 : decode cX3_clear 1 = .ok (.iconst 0, 1) := by decide +kernel
theorem dX3_clear_2 : decode cX3_clear 2 = .ok (.putfield 15, 3) := by decide +kernel
theorem dX3_clear_5 : decode cX3_clear 5 = .ok (.aload_n 0, 1) := by decide +kernel
theorem dX3_clear_6 : decode cX3_clear 6 = .ok (.iconst 0, 1) := by decide +kernel
theorem dX3_clear_7 : decode cX3_clear 7 = .ok (.putfield 19, 3) := by decide +kernel
theorem dX3_clear_10 : decode cX3_clear 10 = .ok (.return_, 1) := by decide +kernel
theorem dX2_clear_0 : decode cX2_clear 0 = .ok (.aload_n 0, 1) := by decide +kernel
theorem dX2_clear_1 : decode cX2_clear 1 = .ok (.iconst (-1), 1) := by decide +kernel
theorem dX2_clear_2 : decode cX2_clear 2 = .ok (.putfield 15, 3) := by decide +kernel
theorem dX2_clear_5 : decode cX2_clear 5 = .ok (.return_, 1) := by decide +kernel
theorem dX9_village_0 : decode cX9_village 0 = .ok (.aload_n 0, 1) := by decide +kernel
theorem dX9_village_1 : decode cX9_village 1 = .ok (.iload_n 1, 1) := by decide +kernel
theorem dX9_village_2 : decode cX9_village 2 = .ok (.invokevirtual 97, 3) := by decide +kernel
theorem dX9_village_5 : decode cX9_village 5 = .ok (.aload_n 0, 1) := by decide +kernel
theorem dX9_village_6 : decode cX9_village 6 = .ok (.getfield 28, 3) := by decide +kernel
theorem dX9_village_9 : decode cX9_village 9 = .ok (.iload_n 1, 1) := by decide +kernel
theorem dX9_village_10 : decode cX9_village 10 = .ok (.aload_n 0, 1) := by decide +kernel
theorem dX9_village_11 : decode cX9_village 11 = .ok (.getfield 20, 3) := by decide +kernel
theorem dX9_village_14 : decode cX9_village 14 = .ok (.invokevirtual 100, 3) := by decide +kernel
theorem dX9_village_17 : decode cX9_village 17 = .ok (.istore_n 2, 1) := by decide +kernel
theorem dX9_village_18 : decode cX9_village 18 = .ok (.aload_n 0, 1) := by decide +kernel
theorem dX9_village_19 : decode cX9_village 19 = .ok (.aload_n 0, 1) := by decide +kernel
theorem dX9_village_20 : decode cX9_village 20 = .ok (.getfield 28, 3) := by decide +kernel
theorem dX9_village_23 : decode cX9_village 23 = .ok (.getfield 104, 3) := by decide +kernel
theorem dX9_village_26 : decode cX9_village 26 = .ok (.putfield 86, 3) := by decide +kernel
theorem dX9_village_29 : decode cX9_village 29 = .ok (.iload_n 2, 1) := by decide +kernel
theorem dX9_village_30 : decode cX9_village 30 = .ok (.ifCond .eq 15, 3) := by decide +kernel
theorem dX9_village_33 : decode cX9_village 33 = .ok (.aload_n 0, 1) := by decide +kernel
theorem dX9_village_34 : decode cX9_village 34 = .ok (.dup, 1) := by decide +kernel
theorem dX9_village_35 : decode cX9_village 35 = .ok (.getfield 105, 3) := by decide +kernel
theorem dX9_village_38 : decode cX9_village 38 = .ok (.iconst 1, 1) := by decide +kernel
theorem dX9_village_39 : decode cX9_village 39 = .ok (.iadd, 1) := by decide +kernel
theorem dX9_village_40 : decode cX9_village 40 = .ok (.putfield 105, 3) := by decide +kernel
theorem dX9_village_43 : decode cX9_village 43 = .ok (.iload_n 2, 1) := by decide +kernel
theorem dX9_village_44 : decode cX9_village 44 = .ok (.ireturn, 1) := by decide +kernel
theorem dX9_village_45 : decode cX9_village 45 = .ok (.aload_n 0, 1) := by decide +kernel
theorem dX9_village_46 : decode cX9_village 46 = .ok (.getfield 16, 3) := by decide +kernel
theorem dX9_village_49 : decode cX9_village 49 = .ok (.aload_n 0, 1) := by decide +kernel
theorem dX9_village_50 : decode cX9_village 50 = .ok (.getfield 20, 3) := by decide +kernel
theorem dX9_village_53 : decode cX9_village 53 = .ok (.invokevirtual 108, 3) := by decide +kernel
theorem dX9_village_56 : decode cX9_village 56 = .ok (.aload_n 0, 1) := by decide +kernel
theorem dX9_village_57 : decode cX9_village 57 = .ok (.getfield 49, 3) := by decide +kernel
theorem dX9_village_60 : decode cX9_village 60 = .ok (.iconst 0, 1) := by decide +kernel
theorem dX9_village_61 : decode cX9_village 61 = .ok (.putfield 111, 3) := by decide +kernel
theorem dX9_village_64 : decode cX9_village 64 = .ok (.aload_n 0, 1) := by decide +kernel
theorem dX9_village_65 : decode cX9_village 65 = .ok (.getfield 61, 3) := by decide +kernel
theorem dX9_village_68 : decode cX9_village 68 = .ok (.invokevirtual 114, 3) := by decide +kernel
theorem dX9_village_71 : decode cX9_village 71 = .ok (.aload_n 0, 1) := by decide +kernel
theorem dX9_village_72 : decode cX9_village 72 = .ok (.getfield 82, 3) := by decide +kernel
theorem dX9_village_75 : decode cX9_village 75 = .ok (.invokevirtual 117, 3) := by decide +kernel
theorem dX9_village_78 : decode cX9_village 78 = .ok (.aload_n 0, 1) := by decide +kernel
theorem dX9_village_79 : decode cX9_village 79 = .ok (.iconst 0, 1) := by decide +kernel
theorem dX9_village_80 : decode cX9_village 80 = .ok (.putfield 118, 3) := by decide +kernel
theorem dX9_village_83 : decode cX9_village 83 = .ok (.aload_n 0, 1) := by decide +kernel
theorem dX9_village_84 : decode cX9_village 84 = .ok (.getfield 73, 3) := by decide +kernel
theorem dX9_village_87 : decode cX9_village 87 = .ok (.invokevirtual 122, 3) := by decide +kernel
theorem dX9_village_90 : decode cX9_village 90 = .ok (.iconst 0, 1) := by decide +kernel
theorem dX9_village_91 : decode cX9_village 91 = .ok (.ireturn, 1) := by decide +kernel
theorem dX9_way_0 : decode cX9_way 0 = .ok (.iload_n 1, 1) := by decide +kernel
theorem dX9_way_1 : decode cX9_way 1 = .ok (.ifCond .lt 14, 3) := by decide +kernel
theorem dX9_way_4 : decode cX9_way 4 = .ok (.iload_n 1, 1) := by decide +kernel
theorem dX9_way_5 : decode cX9_way 5 = .ok (.aload_n 0, 1) := by decide +kernel
theorem dX9_way_6 : decode cX9_way 6 = .ok (.getfield 35, 3) := by decide +kernel
theorem dX9_way_9 : decode cX9_way 9 = .ok (.getfield 227, 3) := by decide +kernel
theorem dX9_way_12 : decode cX9_way 12 = .ok (.if_icmp .lt 11, 3) := by decide +kernel
theorem dX9_way_15 : decode cX9_way 15 = .ok (.new 167, 3) := by decide +kernel
theorem dX9_way_18 : decode cX9_way 18 = .ok (.dup, 1) := by decide +kernel
theorem dX9_way_19 : decode cX9_way 19 = .ok (.invokespecial 169, 3) := by decide +kernel
theorem dX9_way_22 : decode cX9_way 22 = .ok (.athrow, 1) := by decide +kernel
theorem dX9_way_23 : decode cX9_way 23 = .ok (.aload_n 0, 1) := by decide +kernel
theorem dX9_way_24 : decode cX9_way 24 = .ok (.getfield 35, 3) := by decide +kernel
theorem dX9_way_27 : decode cX9_way 27 = .ok (.getfield 230, 3) := by decide +kernel
theorem dX9_way_30 : decode cX9_way 30 = .ok (.iload_n 1, 1) := by decide +kernel
theorem dX9_way_31 : decode cX9_way 31 = .ok (.iaload, 1) := by decide +kernel
theorem dX9_way_32 : decode cX9_way 32 = .ok (.ireturn, 1) := by decide +kernel
theorem dX9_where_0 : decode cX9_where 0 = .ok (.aload_n 0, 1) := by decide +kernel
theorem dX9_where_1 : decode cX9_where 1 = .ok (.iload_n 1, 1) := by decide +kernel
theorem dX9_where_2 : decode cX9_where 2 = .ok (.invokevirtual 170, 3) := by decide +kernel
theorem dX9_where_5 : decode cX9_where 5 = .ok (.aload_n 0, 1) := by decide +kernel
theorem dX9_where_6 : decode cX9_where 6 = .ok (.iload_n 2, 1) := by decide +kernel
theorem dX9_where_7 : decode cX9_where 7 = .ok (.invokevirtual 173, 3) := by decide +kernel
theorem dX9_where_10 : decode cX9_where 10 = .ok (.aload_n 0, 1) := by decide +kernel
theorem dX9_where_11 : decode cX9_where 11 = .ok (.getfield 16, 3) := by decide +kernel
theorem dX9_where_14 : decode cX9_where 14 = .ok (.iload_n 1, 1) := by decide +kernel
theorem dX9_where_15 : decode cX9_where 15 = .ok (.iload_n 2, 1) := by decide +kernel
theorem dX9_where_16 : decode cX9_where 16 = .ok (.invokevirtual 176, 3) := by decide +kernel
theorem dX9_where_19 : decode cX9_where 19 = .ok (.ireturn, 1) := by decide +kernel
theorem dX5_hasStem_0 : decode cX5_hasStem 0 = .ok (.iload_n 1, 1) := by decide +kernel
theorem dX5_hasStem_1 : decode cX5_hasStem 1 = .ok (.ifCond .lt 15, 3) := by decide +kernel
theorem dX5_hasStem_4 : decode cX5_hasStem 4 = .ok (.iload_n 1, 1) := by decide +kernel
theorem dX5_hasStem_5 : decode cX5_hasStem 5 = .ok (.aload_n 0, 1) := by decide +kernel
theorem dX5_hasStem_6 : decode cX5_hasStem 6 = .ok (.getfield 28, 3) := by decide +kernel
theorem dX5_hasStem_9 : decode cX5_hasStem 9 = .ok (.if_icmp .ge 7, 3) := by decide +kernel
theorem dX5_hasStem_12 : decode cX5_hasStem 12 = .ok (.iconst 1, 1) := by decide +kernel
theorem dX5_hasStem_13 : decode cX5_hasStem 13 = .ok (.goto 4, 3) := by decide +kernel
theorem dX5_hasStem_16 : decode cX5_hasStem 16 = .ok (.iconst 0, 1) := by decide +kernel
theorem dX5_hasStem_17 : decode cX5_hasStem 17 = .ok (.ireturn, 1) := by decide +kernel
theorem dX9_word_0 : decode cX9_word 0 = .ok (.aload_n 0, 1) := by decide +kernel
theorem dX9_word_1 : decode cX9_word 1 = .ok (.getfield 16, 3) := by decide +kernel
theorem dX9_word_4 : decode cX9_word 4 = .ok (.getfield 128, 3) := by decide +kernel
theorem dX9_word_7 : decode cX9_word 7 = .ok (.astore 5, 2) := by decide +kernel
theorem dX9_word_9 : decode cX9_word 9 = .ok (.aload 5, 2) := by decide +kernel
theorem dX9_word_11 : decode cX9_word 11 = .ok (.iload_n 1, 1) := by decide +kernel
theorem dX9_word_12 : decode cX9_word 12 = .ok (.invokevirtual 213, 3) := by decide +kernel
theorem dX9_word_15 : decode cX9_word 15 = .ok (.ifCond .eq 21, 3) := by decide +kernel
theorem dX9_word_18 : decode cX9_word 18 = .ok (.iload_n 2, 1) := by decide +kernel
theorem dX9_word_19 : decode cX9_word 19 = .ok (.ifCond .lt 17, 3) := by decide +kernel
theorem dX9_word_22 : decode cX9_word 22 = .ok (.iload_n 2, 1) := by decide +kernel
theorem dX9_word_23 : decode cX9_word 23 = .ok (.iconst 3, 1) := by decide +kernel
theorem dX9_word_24 : decode cX9_word 24 = .ok (.if_icmp .ge 12, 3) := by decide +kernel
theorem dX9_word_27 : decode cX9_word 27 = .ok (.iload_n 3, 1) := by decide +kernel
theorem dX9_word_28 : decode cX9_word 28 = .ok (.ifCond .lt 8, 3) := by decide +kernel
theorem dX9_word_31 : decode cX9_word 31 = .ok (.iload_n 3, 1) := by decide +kernel
theorem dX9_word_32 : decode cX9_word 32 = .ok (.iconst 5, 1) := by decide +kernel
theorem dX9_word_33 : decode cX9_word 33 = .ok (.if_icmp .lt 11, 3) := by decide +kernel
theorem dX9_word_36 : decode cX9_word 36 = .ok (.new 167, 3) := by decide +kernel
theorem dX9_word_39 : decode cX9_word 39 = .ok (.dup, 1) := by decide +kernel
theorem dX9_word_40 : decode cX9_word 40 = .ok (.invokespecial 169, 3) := by decide +kernel
theorem dX9_word_43 : decode cX9_word 43 = .ok (.athrow, 1) := by decide +kernel
theorem dX9_word_44 : decode cX9_word 44 = .ok (.aload 5, 2) := by decide +kernel
theorem dX9_word_46 : decode cX9_word 46 = .ok (.iload_n 1, 1) := by decide +kernel
theorem dX9_word_47 : decode cX9_word 47 = .ok (.iload_n 2, 1) := by decide +kernel
theorem dX9_word_48 : decode cX9_word 48 = .ok (.iload_n 3, 1) := by decide +kernel
theorem dX9_word_49 : decode cX9_word 49 = .ok (.invokevirtual 216, 3) := by decide +kernel
theorem dX9_word_52 : decode cX9_word 52 = .ok (.istore 6, 2) := by decide +kernel
theorem dX9_word_54 : decode cX9_word 54 = .ok (.iload 4, 2) := by decide +kernel
theorem dX9_word_56 : decode cX9_word 56 = .ok (.iconst (-1), 1) := by decide +kernel
theorem dX9_word_57 : decode cX9_word 57 = .ok (.if_icmp .ne 6, 3) := by decide +kernel
theorem dX9_word_60 : decode cX9_word 60 = .ok (.iload 6, 2) := by decide +kernel
theorem dX9_word_62 : decode cX9_word 62 = .ok (.ireturn, 1) := by decide +kernel
theorem dX9_word_63 : decode cX9_word 63 = .ok (.iload 4, 2) := by decide +kernel
theorem dX9_word_65 : decode cX9_word 65 = .ok (.ifCond .lt 10, 3) := by decide +kernel
theorem dX9_word_68 : decode cX9_word 68 = .ok (.iload 4, 2) := by decide +kernel
theorem dX9_word_70 : decode cX9_word 70 = .ok (.iload 6, 2) := by decide +kernel
theorem dX9_word_72 : decode cX9_word 72 = .ok (.if_icmp .lt 11, 3) := by decide +kernel
theorem dX9_word_75 : decode cX9_word 75 = .ok (.new 167, 3) := by decide +kernel
theorem dX9_word_78 : decode cX9_word 78 = .ok (.dup, 1) := by decide +kernel
theorem dX9_word_79 : decode cX9_word 79 = .ok (.invokespecial 169, 3) := by decide +kernel
theorem dX9_word_82 : decode cX9_word 82 = .ok (.athrow, 1) := by decide +kernel
theorem dX9_word_83 : decode cX9_word 83 = .ok (.aload 5, 2) := by decide +kernel
theorem dX9_word_85 : decode cX9_word 85 = .ok (.getfield 220, 3) := by decide +kernel
theorem dX9_word_88 : decode cX9_word 88 = .ok (.iload 4, 2) := by decide +kernel
theorem dX9_word_90 : decode cX9_word 90 = .ok (.baload, 1) := by decide +kernel
theorem dX9_word_91 : decode cX9_word 91 = .ok (.ireturn, 1) := by decide +kernel
theorem dX3_open_0 : decode cX3_open 0 = .ok (.aload_n 0, 1) := by decide +kernel
theorem dX3_open_1 : decode cX3_open 1 = .ok (.iload_n 1, 1) := by decide +kernel
theorem dX3_open_2 : decode cX3_open 2 = .ok (.putfield 15, 3) := by decide +kernel
theorem dX3_open_5 : decode cX3_open 5 = .ok (.aload_n 0, 1) := by decide +kernel
theorem dX3_open_6 : decode cX3_open 6 = .ok (.iconst 1, 1) := by decide +kernel
theorem dX3_open_7 : decode cX3_open 7 = .ok (.iconst 1, 1) := by decide +kernel
theorem dX3_open_8 : decode cX3_open 8 = .ok (.iload_n 1, 1) := by decide +kernel
theorem dX3_open_9 : decode cX3_open 9 = .ok (.invokestatic 22, 3) := by decide +kernel
theorem dX3_open_12 : decode cX3_open 12 = .ok (.ishl, 1) := by decide +kernel
theorem dX3_open_13 : decode cX3_open 13 = .ok (.ishl, 1) := by decide +kernel
theorem dX3_open_14 : decode cX3_open 14 = .ok (.iconst 1, 1) := by decide +kernel
theorem dX3_open_15 : decode cX3_open 15 = .ok (.isub, 1) := by decide +kernel
theorem dX3_open_16 : decode cX3_open 16 = .ok (.putfield 19, 3) := by decide +kernel
theorem dX3_open_19 : decode cX3_open 19 = .ok (.return_, 1) := by decide +kernel
theorem dX9_worlds_0 : decode cX9_worlds 0 = .ok (.iconst 1, 1) := by decide +kernel
theorem dX9_worlds_1 : decode cX9_worlds 1 = .ok (.aload_n 0, 1) := by decide +kernel
theorem dX9_worlds_2 : decode cX9_worlds 2 = .ok (.getfield 16, 3) := by decide +kernel
theorem dX9_worlds_5 : decode cX9_worlds 5 = .ok (.getfield 146, 3) := by decide +kernel
theorem dX9_worlds_8 : decode cX9_worlds 8 = .ok (.ishl, 1) := by decide +kernel
theorem dX9_worlds_9 : decode cX9_worlds 9 = .ok (.iconst 1, 1) := by decide +kernel
theorem dX9_worlds_10 : decode cX9_worlds 10 = .ok (.isub, 1) := by decide +kernel
theorem dX9_worlds_11 : decode cX9_worlds 11 = .ok (.istore_n 2, 1) := by decide +kernel
theorem dX9_worlds_12 : decode cX9_worlds 12 = .ok (.iload_n 1, 1) := by decide +kernel
theorem dX9_worlds_13 : decode cX9_worlds 13 = .ok (.ifCond .eq 19, 3) := by decide +kernel
theorem dX9_worlds_16 : decode cX9_worlds 16 = .ok (.iload_n 1, 1) := by decide +kernel
theorem dX9_worlds_17 : decode cX9_worlds 17 = .ok (.iload_n 2, 1) := by decide +kernel
theorem dX9_worlds_18 : decode cX9_worlds 18 = .ok (.iconst (-1), 1) := by decide +kernel
theorem dX9_worlds_19 : decode cX9_worlds 19 = .ok (.ixor, 1) := by decide +kernel
theorem dX9_worlds_20 : decode cX9_worlds 20 = .ok (.iand, 1) := by decide +kernel
theorem dX9_worlds_21 : decode cX9_worlds 21 = .ok (.ifCond .ne 11, 3) := by decide +kernel
theorem dX9_worlds_24 : decode cX9_worlds 24 = .ok (.iload_n 1, 1) := by decide +kernel
theorem dX9_worlds_25 : decode cX9_worlds 25 = .ok (.invokestatic 161, 3) := by decide +kernel
theorem dX9_worlds_28 : decode cX9_worlds 28 = .ok (.iconst 4, 1) := by decide +kernel
theorem dX9_worlds_29 : decode cX9_worlds 29 = .ok (.if_icmp .le 11, 3) := by decide +kernel
theorem dX9_worlds_32 : decode cX9_worlds 32 = .ok (.new 125, 3) := by decide +kernel
theorem dX9_worlds_35 : decode cX9_worlds 35 = .ok (.dup, 1) := by decide +kernel
theorem dX9_worlds_36 : decode cX9_worlds 36 = .ok (.invokespecial 127, 3) := by decide +kernel
theorem dX9_worlds_39 : decode cX9_worlds 39 = .ok (.athrow, 1) := by decide +kernel
theorem dX9_worlds_40 : decode cX9_worlds 40 = .ok (.aload_n 0, 1) := by decide +kernel
theorem dX9_worlds_41 : decode cX9_worlds 41 = .ok (.getfield 61, 3) := by decide +kernel
theorem dX9_worlds_44 : decode cX9_worlds 44 = .ok (.iload_n 1, 1) := by decide +kernel
theorem dX9_worlds_45 : decode cX9_worlds 45 = .ok (.invokevirtual 299, 3) := by decide +kernel
theorem dX9_worlds_48 : decode cX9_worlds 48 = .ok (.aload_n 0, 1) := by decide +kernel
theorem dX9_worlds_49 : decode cX9_worlds 49 = .ok (.getfield 61, 3) := by decide +kernel
theorem dX9_worlds_52 : decode cX9_worlds 52 = .ok (.getfield 158, 3) := by decide +kernel
theorem dX9_worlds_55 : decode cX9_worlds 55 = .ok (.invokestatic 161, 3) := by decide +kernel
theorem dX9_worlds_58 : decode cX9_worlds 58 = .ok (.ireturn, 1) := by decide +kernel
theorem dX0_unheld_0 : decode cX0_unheld 0 = .ok (.aload_n 0, 1) := by decide +kernel
theorem dX0_unheld_1 : decode cX0_unheld 1 = .ok (.invokevirtual 70, 3) := by decide +kernel
theorem dX0_unheld_4 : decode cX0_unheld 4 = .ok (.aload_n 0, 1) := by decide +kernel
theorem dX0_unheld_5 : decode cX0_unheld 5 = .ok (.getfield 46, 3) := by decide +kernel
theorem dX0_unheld_8 : decode cX0_unheld 8 = .ok (.invokevirtual 57, 3) := by decide +kernel
theorem dX0_unheld_11 : decode cX0_unheld 11 = .ok (.aload_n 0, 1) := by decide +kernel
theorem dX0_unheld_12 : decode cX0_unheld 12 = .ok (.getfield 76, 3) := by decide +kernel
theorem dX0_unheld_15 : decode cX0_unheld 15 = .ok (.iconst (-1), 1) := by decide +kernel
theorem dX0_unheld_16 : decode cX0_unheld 16 = .ok (.ixor, 1) := by decide +kernel
theorem dX0_unheld_17 : decode cX0_unheld 17 = .ok (.iand, 1) := by decide +kernel
theorem dX0_unheld_18 : decode cX0_unheld 18 = .ok (.ireturn, 1) := by decide +kernel
theorem dX0_rings_0 : decode cX0_rings 0 = .ok (.aload_n 0, 1) := by decide +kernel
theorem dX0_rings_1 : decode cX0_rings 1 = .ok (.invokevirtual 70, 3) := by decide +kernel
theorem dX0_rings_4 : decode cX0_rings 4 = .ok (.aload_n 0, 1) := by decide +kernel
theorem dX0_rings_5 : decode cX0_rings 5 = .ok (.getfield 46, 3) := by decide +kernel
theorem dX0_rings_8 : decode cX0_rings 8 = .ok (.invokevirtual 57, 3) := by decide +kernel
theorem dX0_rings_11 : decode cX0_rings 11 = .ok (.istore_n 1, 1) := by decide +kernel
theorem dX0_rings_12 : decode cX0_rings 12 = .ok (.iconst 0, 1) := by decide +kernel
theorem dX0_rings_13 : decode cX0_rings 13 = .ok (.istore_n 2, 1) := by decide +kernel
theorem dX0_rings_14 : decode cX0_rings 14 = .ok (.iload_n 2, 1) := by decide +kernel
theorem dX0_rings_15 : decode cX0_rings 15 = .ok (.bipush 20, 2) := by decide +kernel
theorem dX0_rings_17 : decode cX0_rings 17 = .ok (.if_icmp .gt 23, 3) := by decide +kernel
theorem dX0_rings_20 : decode cX0_rings 20 = .ok (.aload_n 0, 1) := by decide +kernel
theorem dX0_rings_21 : decode cX0_rings 21 = .ok (.iload_n 1, 1) := by decide +kernel
theorem dX0_rings_22 : decode cX0_rings 22 = .ok (.iload_n 1, 1) := by decide +kernel
theorem dX0_rings_23 : decode cX0_rings 23 = .ok (.aload_n 0, 1) := by decide +kernel
theorem dX0_rings_24 : decode cX0_rings 24 = .ok (.getfield 86, 3) := by decide +kernel
theorem dX0_rings_27 : decode cX0_rings 27 = .ok (.iconst (-1), 1) := by decide +kernel
theorem dX0_rings_28 : decode cX0_rings 28 = .ok (.ixor, 1) := by decide +kernel
theorem dX0_rings_29 : decode cX0_rings 29 = .ok (.iand, 1) := by decide +kernel
theorem dX0_rings_30 : decode cX0_rings 30 = .ok (.invokevirtual 190, 3) := by decide +kernel
theorem dX0_rings_33 : decode cX0_rings 33 = .ok (.istore_n 1, 1) := by decide +kernel
theorem dX0_rings_34 : decode cX0_rings 34 = .ok (.iinc 2 1, 3) := by decide +kernel
theorem dX0_rings_37 : decode cX0_rings 37 = .ok (.goto (-23), 3) := by decide +kernel
theorem dX0_rings_40 : decode cX0_rings 40 = .ok (.iload_n 1, 1) := by decide +kernel
theorem dX0_rings_41 : decode cX0_rings 41 = .ok (.aload_n 0, 1) := by decide +kernel
theorem dX0_rings_42 : decode cX0_rings 42 = .ok (.getfield 76, 3) := by decide +kernel
theorem dX0_rings_45 : decode cX0_rings 45 = .ok (.iconst (-1), 1) := by decide +kernel
theorem dX0_rings_46 : decode cX0_rings 46 = .ok (.ixor, 1) := by decide +kernel
theorem dX0_rings_47 : decode cX0_rings 47 = .ok (.iand, 1) := by decide +kernel
theorem dX0_rings_48 : decode cX0_rings 48 = .ok (.ireturn, 1) := by decide +kernel
theorem dX9_wrong_0 : decode cX9_wrong 0 = .ok (.iload_n 1, 1) := by decide +kernel
theorem dX9_wrong_1 : decode cX9_wrong 1 = .ok (.lookupswitch 43 #[(0, 27), (1, 35)], 27) := by decide +kernel
theorem dX9_wrong_28 : decode cX9_wrong 28 = .ok (.aload_n 0, 1) := by decide +kernel
theorem dX9_wrong_29 : decode cX9_wrong 29 = .ok (.getfield 73, 3) := by decide +kernel
theorem dX9_wrong_32 : decode cX9_wrong 32 = .ok (.invokevirtual 273, 3) := by decide +kernel
theorem dX9_wrong_35 : decode cX9_wrong 35 = .ok (.ireturn, 1) := by decide +kernel
theorem dX9_wrong_36 : decode cX9_wrong 36 = .ok (.aload_n 0, 1) := by decide +kernel
theorem dX9_wrong_37 : decode cX9_wrong 37 = .ok (.getfield 73, 3) := by decide +kernel
theorem dX9_wrong_40 : decode cX9_wrong 40 = .ok (.invokevirtual 277, 3) := by decide +kernel
theorem dX9_wrong_43 : decode cX9_wrong 43 = .ok (.ireturn, 1) := by decide +kernel
theorem dX9_wrong_44 : decode cX9_wrong 44 = .ok (.new 167, 3) := by decide +kernel
theorem dX9_wrong_47 : decode cX9_wrong 47 = .ok (.dup, 1) := by decide +kernel
theorem dX9_wrong_48 : decode cX9_wrong 48 = .ok (.invokespecial 169, 3) := by decide +kernel
theorem dX9_wrong_51 : decode cX9_wrong 51 = .ok (.athrow, 1) := by decide +kernel

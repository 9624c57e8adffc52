theorem dX0_init_0 : decode cX0_init 0 = .ok (.aload_n 0, 1) := by decide +kernel
theorem dX0_init_1 : decode cX0_init 1 = .ok (.invokespecial 3, 3) := by decide +kernel
theorem dX0_init_4 : decode cX0_init 4 = .ok (.aload_n 0, 1) := by decide +kernel
theorem dX0_init_5 : decode cX0_init 5 = .ok (.iconst 2, 1) := by decide +kernel
theorem dX0_init_6 : decode cX0_init 6 = .ok (.newarray .int, 2) := by decide +kernel
theorem dX0_init_8 : decode cX0_init 8 = .ok (.putfield 9, 3) := by decide +kernel
theorem dX0_init_11 : decode cX0_init 11 = .ok (.aload_n 0, 1) := by decide +kernel
theorem dX0_init_12 : decode cX0_init 12 = .ok (.bipush 16, 2) := by decide +kernel
theorem dX0_init_14 : decode cX0_init 14 = .ok (.newarray .int, 2) := by decide +kernel
theorem dX0_init_16 : decode cX0_init 16 = .ok (.putfield 15, 3) := by decide +kernel
theorem dX0_init_19 : decode cX0_init 19 = .ok (.aload_n 0, 1) := by decide +kernel
theorem dX0_init_20 : decode cX0_init 20 = .ok (.bipush 16, 2) := by decide +kernel
theorem dX0_init_22 : decode cX0_init 22 = .ok (.newarray .int, 2) := by decide +kernel
theorem dX0_init_24 : decode cX0_init 24 = .ok (.putfield 18, 3) := by decide +kernel
theorem dX0_init_27 : decode cX0_init 27 = .ok (.aload_n 0, 1) := by decide +kernel
theorem dX0_init_28 : decode cX0_init 28 = .ok (.bipush 16, 2) := by decide +kernel
theorem dX0_init_30 : decode cX0_init 30 = .ok (.newarray .int, 2) := by decide +kernel
theorem dX0_init_32 : decode cX0_init 32 = .ok (.putfield 21, 3) := by decide +kernel
theorem dX0_init_35 : decode cX0_init 35 = .ok (.aload_n 0, 1) := by decide +kernel
theorem dX0_init_36 : decode cX0_init 36 = .ok (.iconst (-1), 1) := by decide +kernel
theorem dX0_init_37 : decode cX0_init 37 = .ok (.putfield 24, 3) := by decide +kernel
theorem dX0_init_40 : decode cX0_init 40 = .ok (.aload_n 0, 1) := by decide +kernel
theorem dX0_init_41 : decode cX0_init 41 = .ok (.iconst (-1), 1) := by decide +kernel
theorem dX0_init_42 : decode cX0_init 42 = .ok (.putfield 28, 3) := by decide +kernel
theorem dX0_init_45 : decode cX0_init 45 = .ok (.return_, 1) := by decide +kernel
theorem dX0_leastPlace_0 : decode cX0_leastPlace 0 = .ok (.getstatic 31, 3) := by decide +kernel
theorem dX0_leastPlace_3 : decode cX0_leastPlace 3 = .ok (.iload_n 0, 1) := by decide +kernel
theorem dX0_leastPlace_4 : decode cX0_leastPlace 4 = .ok (.bipush 7, 2) := by decide +kernel
theorem dX0_leastPlace_6 : decode cX0_leastPlace 6 = .ok (.iand, 1) := by decide +kernel
theorem dX0_leastPlace_7 : decode cX0_leastPlace 7 = .ok (.iaload, 1) := by decide +kernel
theorem dX0_leastPlace_8 : decode cX0_leastPlace 8 = .ok (.ireturn, 1) := by decide +kernel
theorem dX0_greatestPlace_0 : decode cX0_greatestPlace 0 = .ok (.getstatic 34, 3) := by decide +kernel
theorem dX0_greatestPlace_3 : decode cX0_greatestPlace 3 = .ok (.iload_n 0, 1) := by decide +kernel
theorem dX0_greatestPlace_4 : decode cX0_greatestPlace 4 = .ok (.bipush 7, 2) := by decide +kernel
theorem dX0_greatestPlace_6 : decode cX0_greatestPlace 6 = .ok (.iand, 1) := by decide +kernel
theorem dX0_greatestPlace_7 : decode cX0_greatestPlace 7 = .ok (.iaload, 1) := by decide +kernel
theorem dX0_greatestPlace_8 : decode cX0_greatestPlace 8 = .ok (.ireturn, 1) := by decide +kernel
theorem dX0_weigh_0 : decode cX0_weigh 0 = .ok (.iconst 0, 1) := by decide +kernel
theorem dX0_weigh_1 : decode cX0_weigh 1 = .ok (.istore_n 2, 1) := by decide +kernel
theorem dX0_weigh_2 : decode cX0_weigh 2 = .ok (.iconst 0, 1) := by decide +kernel
theorem dX0_weigh_3 : decode cX0_weigh 3 = .ok (.istore_n 3, 1) := by decide +kernel
theorem dX0_weigh_4 : decode cX0_weigh 4 = .ok (.iconst 0, 1) := by decide +kernel
theorem dX0_weigh_5 : decode cX0_weigh 5 = .ok (.istore 4, 2) := by decide +kernel
theorem dX0_weigh_7 : decode cX0_weigh 7 = .ok (.iconst 0, 1) := by decide +kernel
theorem dX0_weigh_8 : decode cX0_weigh 8 = .ok (.istore 5, 2) := by decide +kernel
theorem dX0_weigh_10 : decode cX0_weigh 10 = .ok (.aload_n 0, 1) := by decide +kernel
theorem dX0_weigh_11 : decode cX0_weigh 11 = .ok (.iconst (-1), 1) := by decide +kernel
theorem dX0_weigh_12 : decode cX0_weigh 12 = .ok (.putfield 24, 3) := by decide +kernel
theorem dX0_weigh_15 : decode cX0_weigh 15 = .ok (.aload_n 0, 1) := by decide +kernel
theorem dX0_weigh_16 : decode cX0_weigh 16 = .ok (.iconst 0, 1) := by decide +kernel
theorem dX0_weigh_17 : decode cX0_weigh 17 = .ok (.putfield 37, 3) := by decide +kernel
theorem dX0_weigh_20 : decode cX0_weigh 20 = .ok (.aload_n 0, 1) := by decide +kernel
theorem dX0_weigh_21 : decode cX0_weigh 21 = .ok (.iconst (-1), 1) := by decide +kernel
theorem dX0_weigh_22 : decode cX0_weigh 22 = .ok (.putfield 28, 3) := by decide +kernel
theorem dX0_weigh_25 : decode cX0_weigh 25 = .ok (.aload_n 0, 1) := by decide +kernel
theorem dX0_weigh_26 : decode cX0_weigh 26 = .ok (.iconst 0, 1) := by decide +kernel
theorem dX0_weigh_27 : decode cX0_weigh 27 = .ok (.putfield 40, 3) := by decide +kernel
theorem dX0_weigh_30 : decode cX0_weigh 30 = .ok (.aload_n 1, 1) := by decide +kernel
theorem dX0_weigh_31 : decode cX0_weigh 31 = .ok (.getfield 43, 3) := by decide +kernel
theorem dX0_weigh_34 : decode cX0_weigh 34 = .ok (.iconst 1, 1) := by decide +kernel
theorem dX0_weigh_35 : decode cX0_weigh 35 = .ok (.isub, 1) := by decide +kernel
theorem dX0_weigh_36 : decode cX0_weigh 36 = .ok (.istore 6, 2) := by decide +kernel
theorem dX0_weigh_38 : decode cX0_weigh 38 = .ok (.iload 6, 2) := by decide +kernel
theorem dX0_weigh_40 : decode cX0_weigh 40 = .ok (.ifCond .lt 168, 3) := by decide +kernel
theorem dX0_weigh_43 : decode cX0_weigh 43 = .ok (.iload 6, 2) := by decide +kernel
theorem dX0_weigh_45 : decode cX0_weigh 45 = .ok (.iconst 2, 1) := by decide +kernel
theorem dX0_weigh_46 : decode cX0_weigh 46 = .ok (.irem, 1) := by decide +kernel
theorem dX0_weigh_47 : decode cX0_weigh 47 = .ok (.ifCond .ne 7, 3) := by decide +kernel
theorem dX0_weigh_50 : decode cX0_weigh 50 = .ok (.iconst 1, 1) := by decide +kernel
theorem dX0_weigh_51 : decode cX0_weigh 51 = .ok (.goto 4, 3) := by decide +kernel
theorem dX0_weigh_54 : decode cX0_weigh 54 = .ok (.iconst 0, 1) := by decide +kernel
theorem dX0_weigh_55 : decode cX0_weigh 55 = .ok (.istore 7, 2) := by decide +kernel
theorem dX0_weigh_57 : decode cX0_weigh 57 = .ok (.iload_n 3, 1) := by decide +kernel
theorem dX0_weigh_58 : decode cX0_weigh 58 = .ok (.iload_n 2, 1) := by decide +kernel
theorem dX0_weigh_59 : decode cX0_weigh 59 = .ok (.iadd, 1) := by decide +kernel
theorem dX0_weigh_60 : decode cX0_weigh 60 = .ok (.istore_n 3, 1) := by decide +kernel
theorem dX0_weigh_61 : decode cX0_weigh 61 = .ok (.aload_n 0, 1) := by decide +kernel
theorem dX0_weigh_62 : decode cX0_weigh 62 = .ok (.getfield 15, 3) := by decide +kernel
theorem dX0_weigh_65 : decode cX0_weigh 65 = .ok (.iload 6, 2) := by decide +kernel
theorem dX0_weigh_67 : decode cX0_weigh 67 = .ok (.iload_n 2, 1) := by decide +kernel
theorem dX0_weigh_68 : decode cX0_weigh 68 = .ok (.iastore, 1) := by decide +kernel
theorem dX0_weigh_69 : decode cX0_weigh 69 = .ok (.aload_n 0, 1) := by decide +kernel
theorem dX0_weigh_70 : decode cX0_weigh 70 = .ok (.getfield 18, 3) := by decide +kernel
theorem dX0_weigh_73 : decode cX0_weigh 73 = .ok (.iload 6, 2) := by decide +kernel
theorem dX0_weigh_75 : decode cX0_weigh 75 = .ok (.bipush 10, 2) := by decide +kernel
theorem dX0_weigh_77 : decode cX0_weigh 77 = .ok (.iload 7, 2) := by decide +kernel
theorem dX0_weigh_79 : decode cX0_weigh 79 = .ok (.ifCond .eq 8, 3) := by decide +kernel
theorem dX0_weigh_82 : decode cX0_weigh 82 = .ok (.iload 4, 2) := by decide +kernel
theorem dX0_weigh_84 : decode cX0_weigh 84 = .ok (.goto 5, 3) := by decide +kernel
theorem dX0_weigh_87 : decode cX0_weigh 87 = .ok (.iload 5, 2) := by decide +kernel
theorem dX0_weigh_89 : decode cX0_weigh 89 = .ok (.imul, 1) := by decide +kernel
theorem dX0_weigh_90 : decode cX0_weigh 90 = .ok (.aload_n 0, 1) := by decide +kernel
theorem dX0_weigh_91 : decode cX0_weigh 91 = .ok (.getfield 9, 3) := by decide +kernel
theorem dX0_weigh_94 : decode cX0_weigh 94 = .ok (.iload 6, 2) := by decide +kernel
theorem dX0_weigh_96 : decode cX0_weigh 96 = .ok (.iconst 2, 1) := by decide +kernel
theorem dX0_weigh_97 : decode cX0_weigh 97 = .ok (.irem, 1) := by decide +kernel
theorem dX0_weigh_98 : decode cX0_weigh 98 = .ok (.iaload, 1) := by decide +kernel
theorem dX0_weigh_99 : decode cX0_weigh 99 = .ok (.iload_n 3, 1) := by decide +kernel
theorem dX0_weigh_100 : decode cX0_weigh 100 = .ok (.imul, 1) := by decide +kernel
theorem dX0_weigh_101 : decode cX0_weigh 101 = .ok (.iadd, 1) := by decide +kernel
theorem dX0_weigh_102 : decode cX0_weigh 102 = .ok (.iastore, 1) := by decide +kernel
theorem dX0_weigh_103 : decode cX0_weigh 103 = .ok (.aload_n 0, 1) := by decide +kernel
theorem dX0_weigh_104 : decode cX0_weigh 104 = .ok (.getfield 21, 3) := by decide +kernel
theorem dX0_weigh_107 : decode cX0_weigh 107 = .ok (.iload 6, 2) := by decide +kernel
theorem dX0_weigh_109 : decode cX0_weigh 109 = .ok (.aload_n 1, 1) := by decide +kernel
theorem dX0_weigh_110 : decode cX0_weigh 110 = .ok (.getfield 48, 3) := by decide +kernel
theorem dX0_weigh_113 : decode cX0_weigh 113 = .ok (.iload 6, 2) := by decide +kernel
theorem dX0_weigh_115 : decode cX0_weigh 115 = .ok (.iaload, 1) := by decide +kernel
theorem dX0_weigh_116 : decode cX0_weigh 116 = .ok (.iload_n 2, 1) := by decide +kernel
theorem dX0_weigh_117 : decode cX0_weigh 117 = .ok (.aload_n 0, 1) := by decide +kernel
theorem dX0_weigh_118 : decode cX0_weigh 118 = .ok (.getfield 18, 3) := by decide +kernel
theorem dX0_weigh_121 : decode cX0_weigh 121 = .ok (.iload 6, 2) := by decide +kernel
theorem dX0_weigh_123 : decode cX0_weigh 123 = .ok (.iaload, 1) := by decide +kernel
theorem dX0_weigh_124 : decode cX0_weigh 124 = .ok (.invokestatic 51, 3) := by decide +kernel
theorem dX0_weigh_127 : decode cX0_weigh 127 = .ok (.iastore, 1) := by decide +kernel
theorem dX0_weigh_128 : decode cX0_weigh 128 = .ok (.aload_n 0, 1) := by decide +kernel
theorem dX0_weigh_129 : decode cX0_weigh 129 = .ok (.iload 6, 2) := by decide +kernel
theorem dX0_weigh_131 : decode cX0_weigh 131 = .ok (.iload 6, 2) := by decide +kernel
theorem dX0_weigh_133 : decode cX0_weigh 133 = .ok (.aload_n 1, 1) := by decide +kernel
theorem dX0_weigh_134 : decode cX0_weigh 134 = .ok (.getfield 43, 3) := by decide +kernel
theorem dX0_weigh_137 : decode cX0_weigh 137 = .ok (.iconst 1, 1) := by decide +kernel
theorem dX0_weigh_138 : decode cX0_weigh 138 = .ok (.isub, 1) := by decide +kernel
theorem dX0_weigh_139 : decode cX0_weigh 139 = .ok (.if_icmp .ne 7, 3) := by decide +kernel
theorem dX0_weigh_142 : decode cX0_weigh 142 = .ok (.iconst 1, 1) := by decide +kernel
theorem dX0_weigh_143 : decode cX0_weigh 143 = .ok (.goto 4, 3) := by decide +kernel
theorem dX0_weigh_146 : decode cX0_weigh 146 = .ok (.iconst 0, 1) := by decide +kernel
theorem dX0_weigh_147 : decode cX0_weigh 147 = .ok (.invokevirtual 55, 3) := by decide +kernel
theorem dX0_weigh_150 : decode cX0_weigh 150 = .ok (.iload_n 2, 1) := by decide +kernel
theorem dX0_weigh_151 : decode cX0_weigh 151 = .ok (.aload_n 1, 1) := by decide +kernel
theorem dX0_weigh_152 : decode cX0_weigh 152 = .ok (.getfield 59, 3) := by decide +kernel
theorem dX0_weigh_155 : decode cX0_weigh 155 = .ok (.iload 6, 2) := by decide +kernel
theorem dX0_weigh_157 : decode cX0_weigh 157 = .ok (.iaload, 1) := by decide +kernel
theorem dX0_weigh_158 : decode cX0_weigh 158 = .ok (.iadd, 1) := by decide +kernel
theorem dX0_weigh_159 : decode cX0_weigh 159 = .ok (.istore_n 2, 1) := by decide +kernel
theorem dX0_weigh_160 : decode cX0_weigh 160 = .ok (.iload 4, 2) := by decide +kernel
theorem dX0_weigh_162 : decode cX0_weigh 162 = .ok (.iload 7, 2) := by decide +kernel
theorem dX0_weigh_164 : decode cX0_weigh 164 = .ok (.ifCond .eq 13, 3) := by decide +kernel
theorem dX0_weigh_167 : decode cX0_weigh 167 = .ok (.aload_n 1, 1) := by decide +kernel
theorem dX0_weigh_168 : decode cX0_weigh 168 = .ok (.getfield 62, 3) := by decide +kernel
theorem dX0_weigh_171 : decode cX0_weigh 171 = .ok (.iload 6, 2) := by decide +kernel
theorem dX0_weigh_173 : decode cX0_weigh 173 = .ok (.iaload, 1) := by decide +kernel
theorem dX0_weigh_174 : decode cX0_weigh 174 = .ok (.goto 4, 3) := by decide +kernel
theorem dX0_weigh_177 : decode cX0_weigh 177 = .ok (.iconst 0, 1) := by decide +kernel
theorem dX0_weigh_178 : decode cX0_weigh 178 = .ok (.iadd, 1) := by decide +kernel
theorem dX0_weigh_179 : decode cX0_weigh 179 = .ok (.istore 4, 2) := by decide +kernel
theorem dX0_weigh_181 : decode cX0_weigh 181 = .ok (.iload 5, 2) := by decide +kernel
theorem dX0_weigh_183 : decode cX0_weigh 183 = .ok (.iload 7, 2) := by decide +kernel
theorem dX0_weigh_185 : decode cX0_weigh 185 = .ok (.ifCond .eq 7, 3) := by decide +kernel
theorem dX0_weigh_188 : decode cX0_weigh 188 = .ok (.iconst 0, 1) := by decide +kernel
theorem dX0_weigh_189 : decode cX0_weigh 189 = .ok (.goto 10, 3) := by decide +kernel
theorem dX0_weigh_192 : decode cX0_weigh 192 = .ok (.aload_n 1, 1) := by decide +kernel
theorem dX0_weigh_193 : decode cX0_weigh 193 = .ok (.getfield 62, 3) := by decide +kernel
theorem dX0_weigh_196 : decode cX0_weigh 196 = .ok (.iload 6, 2) := by decide +kernel
theorem dX0_weigh_198 : decode cX0_weigh 198 = .ok (.iaload, 1) := by decide +kernel
theorem dX0_weigh_199 : decode cX0_weigh 199 = .ok (.iadd, 1) := by decide +kernel
theorem dX0_weigh_200 : decode cX0_weigh 200 = .ok (.istore 5, 2) := by decide +kernel
theorem dX0_weigh_202 : decode cX0_weigh 202 = .ok (.iinc 6 (-1), 3) := by decide +kernel
theorem dX0_weigh_205 : decode cX0_weigh 205 = .ok (.goto (-167), 3) := by decide +kernel
theorem dX0_weigh_208 : decode cX0_weigh 208 = .ok (.aload_n 0, 1) := by decide +kernel
theorem dX0_weigh_209 : decode cX0_weigh 209 = .ok (.getfield 24, 3) := by decide +kernel
theorem dX0_weigh_212 : decode cX0_weigh 212 = .ok (.iconst (-1), 1) := by decide +kernel
theorem dX0_weigh_213 : decode cX0_weigh 213 = .ok (.if_icmp .ne 7, 3) := by decide +kernel
theorem dX0_weigh_216 : decode cX0_weigh 216 = .ok (.iconst 1, 1) := by decide +kernel
theorem dX0_weigh_217 : decode cX0_weigh 217 = .ok (.goto 4, 3) := by decide +kernel
theorem dX0_weigh_220 : decode cX0_weigh 220 = .ok (.iconst 0, 1) := by decide +kernel
theorem dX0_weigh_221 : decode cX0_weigh 221 = .ok (.ireturn, 1) := by decide +kernel
theorem dX0_marginOf_0 : decode cX0_marginOf 0 = .ok (.bipush 10, 2) := by decide +kernel
theorem dX0_marginOf_2 : decode cX0_marginOf 2 = .ok (.iload_n 1, 1) := by decide +kernel
theorem dX0_marginOf_3 : decode cX0_marginOf 3 = .ok (.imul, 1) := by decide +kernel
theorem dX0_marginOf_4 : decode cX0_marginOf 4 = .ok (.iconst 2, 1) := by decide +kernel
theorem dX0_marginOf_5 : decode cX0_marginOf 5 = .ok (.getstatic 31, 3) := by decide +kernel
theorem dX0_marginOf_8 : decode cX0_marginOf 8 = .ok (.iload_n 0, 1) := by decide +kernel
theorem dX0_marginOf_9 : decode cX0_marginOf 9 = .ok (.bipush 7, 2) := by decide +kernel
theorem dX0_marginOf_11 : decode cX0_marginOf 11 = .ok (.iand, 1) := by decide +kernel
theorem dX0_marginOf_12 : decode cX0_marginOf 12 = .ok (.iaload, 1) := by decide +kernel
theorem dX0_marginOf_13 : decode cX0_marginOf 13 = .ok (.iconst 1, 1) := by decide +kernel
theorem dX0_marginOf_14 : decode cX0_marginOf 14 = .ok (.isub, 1) := by decide +kernel
theorem dX0_marginOf_15 : decode cX0_marginOf 15 = .ok (.imul, 1) := by decide +kernel
theorem dX0_marginOf_16 : decode cX0_marginOf 16 = .ok (.iconst 1, 1) := by decide +kernel
theorem dX0_marginOf_17 : decode cX0_marginOf 17 = .ok (.isub, 1) := by decide +kernel
theorem dX0_marginOf_18 : decode cX0_marginOf 18 = .ok (.imul, 1) := by decide +kernel
theorem dX0_marginOf_19 : decode cX0_marginOf 19 = .ok (.istore_n 3, 1) := by decide +kernel
theorem dX0_marginOf_20 : decode cX0_marginOf 20 = .ok (.bipush 10, 2) := by decide +kernel
theorem dX0_marginOf_22 : decode cX0_marginOf 22 = .ok (.iload_n 1, 1) := by decide +kernel
theorem dX0_marginOf_23 : decode cX0_marginOf 23 = .ok (.imul, 1) := by decide +kernel
theorem dX0_marginOf_24 : decode cX0_marginOf 24 = .ok (.iconst 2, 1) := by decide +kernel
theorem dX0_marginOf_25 : decode cX0_marginOf 25 = .ok (.getstatic 34, 3) := by decide +kernel
theorem dX0_marginOf_28 : decode cX0_marginOf 28 = .ok (.iload_n 0, 1) := by decide +kernel
theorem dX0_marginOf_29 : decode cX0_marginOf 29 = .ok (.bipush 7, 2) := by decide +kernel
theorem dX0_marginOf_31 : decode cX0_marginOf 31 = .ok (.iand, 1) := by decide +kernel
theorem dX0_marginOf_32 : decode cX0_marginOf 32 = .ok (.iaload, 1) := by decide +kernel
theorem dX0_marginOf_33 : decode cX0_marginOf 33 = .ok (.iconst 1, 1) := by decide +kernel
theorem dX0_marginOf_34 : decode cX0_marginOf 34 = .ok (.isub, 1) := by decide +kernel
theorem dX0_marginOf_35 : decode cX0_marginOf 35 = .ok (.imul, 1) := by decide +kernel
theorem dX0_marginOf_36 : decode cX0_marginOf 36 = .ok (.iconst 1, 1) := by decide +kernel
theorem dX0_marginOf_37 : decode cX0_marginOf 37 = .ok (.iadd, 1) := by decide +kernel
theorem dX0_marginOf_38 : decode cX0_marginOf 38 = .ok (.imul, 1) := by decide +kernel
theorem dX0_marginOf_39 : decode cX0_marginOf 39 = .ok (.istore 4, 2) := by decide +kernel
theorem dX0_marginOf_41 : decode cX0_marginOf 41 = .ok (.iconst 2, 1) := by decide +kernel
theorem dX0_marginOf_42 : decode cX0_marginOf 42 = .ok (.iload_n 2, 1) := by decide +kernel
theorem dX0_marginOf_43 : decode cX0_marginOf 43 = .ok (.imul, 1) := by decide +kernel
theorem dX0_marginOf_44 : decode cX0_marginOf 44 = .ok (.iload_n 3, 1) := by decide +kernel
theorem dX0_marginOf_45 : decode cX0_marginOf 45 = .ok (.isub, 1) := by decide +kernel
theorem dX0_marginOf_46 : decode cX0_marginOf 46 = .ok (.iload 4, 2) := by decide +kernel
theorem dX0_marginOf_48 : decode cX0_marginOf 48 = .ok (.iconst 2, 1) := by decide +kernel
theorem dX0_marginOf_49 : decode cX0_marginOf 49 = .ok (.iload_n 2, 1) := by decide +kernel
theorem dX0_marginOf_50 : decode cX0_marginOf 50 = .ok (.imul, 1) := by decide +kernel
theorem dX0_marginOf_51 : decode cX0_marginOf 51 = .ok (.isub, 1) := by decide +kernel
theorem dX0_marginOf_52 : decode cX0_marginOf 52 = .ok (.invokestatic 65, 3) := by decide +kernel
theorem dX0_marginOf_55 : decode cX0_marginOf 55 = .ok (.ireturn, 1) := by decide +kernel
theorem dX0_note_0 : decode cX0_note 0 = .ok (.aload_n 0, 1) := by decide +kernel
theorem dX0_note_1 : decode cX0_note 1 = .ok (.getfield 21, 3) := by decide +kernel
theorem dX0_note_4 : decode cX0_note 4 = .ok (.iload_n 1, 1) := by decide +kernel
theorem dX0_note_5 : decode cX0_note 5 = .ok (.iaload, 1) := by decide +kernel
theorem dX0_note_6 : decode cX0_note 6 = .ok (.ifCond .ge 18, 3) := by decide +kernel
theorem dX0_note_9 : decode cX0_note 9 = .ok (.aload_n 0, 1) := by decide +kernel
theorem dX0_note_10 : decode cX0_note 10 = .ok (.iload_n 1, 1) := by decide +kernel
theorem dX0_note_11 : decode cX0_note 11 = .ok (.putfield 24, 3) := by decide +kernel
theorem dX0_note_14 : decode cX0_note 14 = .ok (.aload_n 0, 1) := by decide +kernel
theorem dX0_note_15 : decode cX0_note 15 = .ok (.aload_n 0, 1) := by decide +kernel
theorem dX0_note_16 : decode cX0_note 16 = .ok (.getfield 21, 3) := by decide +kernel
theorem dX0_note_19 : decode cX0_note 19 = .ok (.iload_n 1, 1) := by decide +kernel
theorem dX0_note_20 : decode cX0_note 20 = .ok (.iaload, 1) := by decide +kernel
theorem dX0_note_21 : decode cX0_note 21 = .ok (.putfield 37, 3) := by decide +kernel
theorem dX0_note_24 : decode cX0_note 24 = .ok (.iload_n 2, 1) := by decide +kernel
theorem dX0_note_25 : decode cX0_note 25 = .ok (.ifCond .ne 39, 3) := by decide +kernel
theorem dX0_note_28 : decode cX0_note 28 = .ok (.aload_n 0, 1) := by decide +kernel
theorem dX0_note_29 : decode cX0_note 29 = .ok (.getfield 28, 3) := by decide +kernel
theorem dX0_note_32 : decode cX0_note 32 = .ok (.iconst (-1), 1) := by decide +kernel
theorem dX0_note_33 : decode cX0_note 33 = .ok (.if_icmp .eq 16, 3) := by decide +kernel
theorem dX0_note_36 : decode cX0_note 36 = .ok (.aload_n 0, 1) := by decide +kernel
theorem dX0_note_37 : decode cX0_note 37 = .ok (.getfield 21, 3) := by decide +kernel
theorem dX0_note_40 : decode cX0_note 40 = .ok (.iload_n 1, 1) := by decide +kernel
theorem dX0_note_41 : decode cX0_note 41 = .ok (.iaload, 1) := by decide +kernel
theorem dX0_note_42 : decode cX0_note 42 = .ok (.aload_n 0, 1) := by decide +kernel
theorem dX0_note_43 : decode cX0_note 43 = .ok (.getfield 40, 3) := by decide +kernel
theorem dX0_note_46 : decode cX0_note 46 = .ok (.if_icmp .gt 18, 3) := by decide +kernel
theorem dX0_note_49 : decode cX0_note 49 = .ok (.aload_n 0, 1) := by decide +kernel
theorem dX0_note_50 : decode cX0_note 50 = .ok (.iload_n 1, 1) := by decide +kernel
theorem dX0_note_51 : decode cX0_note 51 = .ok (.putfield 28, 3) := by decide +kernel
theorem dX0_note_54 : decode cX0_note 54 = .ok (.aload_n 0, 1) := by decide +kernel
theorem dX0_note_55 : decode cX0_note 55 = .ok (.aload_n 0, 1) := by decide +kernel
theorem dX0_note_56 : decode cX0_note 56 = .ok (.getfield 21, 3) := by decide +kernel
theorem dX0_note_59 : decode cX0_note 59 = .ok (.iload_n 1, 1) := by decide +kernel
theorem dX0_note_60 : decode cX0_note 60 = .ok (.iaload, 1) := by decide +kernel
theorem dX0_note_61 : decode cX0_note 61 = .ok (.putfield 40, 3) := by decide +kernel
theorem dX0_note_64 : decode cX0_note 64 = .ok (.return_, 1) := by decide +kernel
theorem dX1_init_0 : decode cX1_init 0 = .ok (.aload_n 0, 1) := by decide +kernel
theorem dX1_init_1 : decode cX1_init 1 = .ok (.invokespecial 3, 3) := by decide +kernel
theorem dX1_init_4 : decode cX1_init 4 = .ok (.aload_n 0, 1) := by decide +kernel
theorem dX1_init_5 : decode cX1_init 5 = .ok (.bipush 10, 2) := by decide +kernel
theorem dX1_init_7 : decode cX1_init 7 = .ok (.newarray .int, 2) := by decide +kernel
theorem dX1_init_9 : decode cX1_init 9 = .ok (.putfield 9, 3) := by decide +kernel
theorem dX1_init_12 : decode cX1_init 12 = .ok (.aload_n 0, 1) := by decide +kernel
theorem dX1_init_13 : decode cX1_init 13 = .ok (.aload_n 1, 1) := by decide +kernel
theorem dX1_init_14 : decode cX1_init 14 = .ok (.putfield 15, 3) := by decide +kernel
theorem dX1_init_17 : decode cX1_init 17 = .ok (.aload_n 0, 1) := by decide +kernel
theorem dX1_init_18 : decode cX1_init 18 = .ok (.aload_n 2, 1) := by decide +kernel
theorem dX1_init_19 : decode cX1_init 19 = .ok (.putfield 19, 3) := by decide +kernel
theorem dX1_init_22 : decode cX1_init 22 = .ok (.return_, 1) := by decide +kernel
theorem dX1_isSafe_0 : decode cX1_isSafe 0 = .ok (.iload_n 2, 1) := by decide +kernel
theorem dX1_isSafe_1 : decode cX1_isSafe 1 = .ok (.bipush 10, 2) := by decide +kernel
theorem dX1_isSafe_3 : decode cX1_isSafe 3 = .ok (.idiv, 1) := by decide +kernel
theorem dX1_isSafe_4 : decode cX1_isSafe 4 = .ok (.istore_n 3, 1) := by decide +kernel
theorem dX1_isSafe_5 : decode cX1_isSafe 5 = .ok (.aload_n 1, 1) := by decide +kernel
theorem dX1_isSafe_6 : decode cX1_isSafe 6 = .ok (.iload_n 2, 1) := by decide +kernel
theorem dX1_isSafe_7 : decode cX1_isSafe 7 = .ok (.invokevirtual 23, 3) := by decide +kernel
theorem dX1_isSafe_10 : decode cX1_isSafe 10 = .ok (.ifCond .eq 14, 3) := by decide +kernel
theorem dX1_isSafe_13 : decode cX1_isSafe 13 = .ok (.aload_n 1, 1) := by decide +kernel
theorem dX1_isSafe_14 : decode cX1_isSafe 14 = .ok (.iload_n 3, 1) := by decide +kernel
theorem dX1_isSafe_15 : decode cX1_isSafe 15 = .ok (.iconst 3, 1) := by decide +kernel
theorem dX1_isSafe_16 : decode cX1_isSafe 16 = .ok (.idiv, 1) := by decide +kernel
theorem dX1_isSafe_17 : decode cX1_isSafe 17 = .ok (.invokevirtual 29, 3) := by decide +kernel
theorem dX1_isSafe_20 : decode cX1_isSafe 20 = .ok (.iconst 2, 1) := by decide +kernel
theorem dX1_isSafe_21 : decode cX1_isSafe 21 = .ok (.if_icmp .ge 5, 3) := by decide +kernel
theorem dX1_isSafe_24 : decode cX1_isSafe 24 = .ok (.iconst 0, 1) := by decide +kernel
theorem dX1_isSafe_25 : decode cX1_isSafe 25 = .ok (.ireturn, 1) := by decide +kernel
theorem dX1_isSafe_26 : decode cX1_isSafe 26 = .ok (.aload_n 1, 1) := by decide +kernel
theorem dX1_isSafe_27 : decode cX1_isSafe 27 = .ok (.iload_n 2, 1) := by decide +kernel
theorem dX1_isSafe_28 : decode cX1_isSafe 28 = .ok (.invokevirtual 33, 3) := by decide +kernel
theorem dX1_isSafe_31 : decode cX1_isSafe 31 = .ok (.istore 4, 2) := by decide +kernel
theorem dX1_isSafe_33 : decode cX1_isSafe 33 = .ok (.aload_n 1, 1) := by decide +kernel
theorem dX1_isSafe_34 : decode cX1_isSafe 34 = .ok (.iload_n 3, 1) := by decide +kernel
theorem dX1_isSafe_35 : decode cX1_isSafe 35 = .ok (.invokevirtual 36, 3) := by decide +kernel
theorem dX1_isSafe_38 : decode cX1_isSafe 38 = .ok (.istore 5, 2) := by decide +kernel
theorem dX1_isSafe_40 : decode cX1_isSafe 40 = .ok (.aload_n 0, 1) := by decide +kernel
theorem dX1_isSafe_41 : decode cX1_isSafe 41 = .ok (.getfield 15, 3) := by decide +kernel
theorem dX1_isSafe_44 : decode cX1_isSafe 44 = .ok (.aload_n 1, 1) := by decide +kernel
theorem dX1_isSafe_45 : decode cX1_isSafe 45 = .ok (.invokevirtual 39, 3) := by decide +kernel
theorem dX1_isSafe_48 : decode cX1_isSafe 48 = .ok (.istore 6, 2) := by decide +kernel
theorem dX1_isSafe_50 : decode cX1_isSafe 50 = .ok (.iload 6, 2) := by decide +kernel
theorem dX1_isSafe_52 : decode cX1_isSafe 52 = .ok (.ifCond .eq 28, 3) := by decide +kernel
theorem dX1_isSafe_55 : decode cX1_isSafe 55 = .ok (.aload_n 1, 1) := by decide +kernel
theorem dX1_isSafe_56 : decode cX1_isSafe 56 = .ok (.iload 4, 2) := by decide +kernel
theorem dX1_isSafe_58 : decode cX1_isSafe 58 = .ok (.iload 5, 2) := by decide +kernel
theorem dX1_isSafe_60 : decode cX1_isSafe 60 = .ok (.invokevirtual 45, 3) := by decide +kernel
theorem dX1_isSafe_63 : decode cX1_isSafe 63 = .ok (.aload_n 0, 1) := by decide +kernel
theorem dX1_isSafe_64 : decode cX1_isSafe 64 = .ok (.getfield 15, 3) := by decide +kernel
theorem dX1_isSafe_67 : decode cX1_isSafe 67 = .ok (.aload_n 1, 1) := by decide +kernel
theorem dX1_isSafe_68 : decode cX1_isSafe 68 = .ok (.invokevirtual 39, 3) := by decide +kernel
theorem dX1_isSafe_71 : decode cX1_isSafe 71 = .ok (.istore 6, 2) := by decide +kernel
theorem dX1_isSafe_73 : decode cX1_isSafe 73 = .ok (.aload_n 1, 1) := by decide +kernel
theorem dX1_isSafe_74 : decode cX1_isSafe 74 = .ok (.iload 4, 2) := by decide +kernel
theorem dX1_isSafe_76 : decode cX1_isSafe 76 = .ok (.invokevirtual 36, 3) := by decide +kernel
theorem dX1_isSafe_79 : decode cX1_isSafe 79 = .ok (.pop, 1) := by decide +kernel
theorem dX1_isSafe_80 : decode cX1_isSafe 80 = .ok (.aload_n 1, 1) := by decide +kernel
theorem dX1_isSafe_81 : decode cX1_isSafe 81 = .ok (.iload_n 3, 1) := by decide +kernel
theorem dX1_isSafe_82 : decode cX1_isSafe 82 = .ok (.iload 5, 2) := by decide +kernel
theorem dX1_isSafe_84 : decode cX1_isSafe 84 = .ok (.invokevirtual 45, 3) := by decide +kernel
theorem dX1_isSafe_87 : decode cX1_isSafe 87 = .ok (.iload 6, 2) := by decide +kernel
theorem dX1_isSafe_89 : decode cX1_isSafe 89 = .ok (.ireturn, 1) := by decide +kernel
theorem dX1_survey_0 : decode cX1_survey 0 = .ok (.aload_n 1, 1) := by decide +kernel
theorem dX1_survey_1 : decode cX1_survey 1 = .ok (.invokevirtual 49, 3) := by decide +kernel
theorem dX1_survey_4 : decode cX1_survey 4 = .ok (.istore_n 2, 1) := by decide +kernel
theorem dX1_survey_5 : decode cX1_survey 5 = .ok (.aload_n 0, 1) := by decide +kernel
theorem dX1_survey_6 : decode cX1_survey 6 = .ok (.iconst 0, 1) := by decide +kernel
theorem dX1_survey_7 : decode cX1_survey 7 = .ok (.putfield 53, 3) := by decide +kernel
theorem dX1_survey_10 : decode cX1_survey 10 = .ok (.aload_n 0, 1) := by decide +kernel
theorem dX1_survey_11 : decode cX1_survey 11 = .ok (.iconst 0, 1) := by decide +kernel
theorem dX1_survey_12 : decode cX1_survey 12 = .ok (.putfield 57, 3) := by decide +kernel
theorem dX1_survey_15 : decode cX1_survey 15 = .ok (.aload_n 0, 1) := by decide +kernel
theorem dX1_survey_16 : decode cX1_survey 16 = .ok (.iconst (-1), 1) := by decide +kernel
theorem dX1_survey_17 : decode cX1_survey 17 = .ok (.putfield 60, 3) := by decide +kernel
theorem dX1_survey_20 : decode cX1_survey 20 = .ok (.aload_n 0, 1) := by decide +kernel
theorem dX1_survey_21 : decode cX1_survey 21 = .ok (.iconst (-1), 1) := by decide +kernel
theorem dX1_survey_22 : decode cX1_survey 22 = .ok (.putfield 63, 3) := by decide +kernel
theorem dX1_survey_25 : decode cX1_survey 25 = .ok (.iconst 0, 1) := by decide +kernel
theorem dX1_survey_26 : decode cX1_survey 26 = .ok (.istore_n 3, 1) := by decide +kernel
theorem dX1_survey_27 : decode cX1_survey 27 = .ok (.iload_n 3, 1) := by decide +kernel
theorem dX1_survey_28 : decode cX1_survey 28 = .ok (.iload_n 2, 1) := by decide +kernel
theorem dX1_survey_29 : decode cX1_survey 29 = .ok (.if_icmp .ge 75, 3) := by decide +kernel
theorem dX1_survey_32 : decode cX1_survey 32 = .ok (.aload_n 0, 1) := by decide +kernel
theorem dX1_survey_33 : decode cX1_survey 33 = .ok (.dup, 1) := by decide +kernel
theorem dX1_survey_34 : decode cX1_survey 34 = .ok (.getfield 57, 3) := by decide +kernel
theorem dX1_survey_37 : decode cX1_survey 37 = .ok (.aload_n 1, 1) := by decide +kernel
theorem dX1_survey_38 : decode cX1_survey 38 = .ok (.iload_n 3, 1) := by decide +kernel
theorem dX1_survey_39 : decode cX1_survey 39 = .ok (.invokevirtual 23, 3) := by decide +kernel
theorem dX1_survey_42 : decode cX1_survey 42 = .ok (.ifCond .eq 7, 3) := by decide +kernel
theorem dX1_survey_45 : decode cX1_survey 45 = .ok (.iconst 1, 1) := by decide +kernel
theorem dX1_survey_46 : decode cX1_survey 46 = .ok (.goto 4, 3) := by decide +kernel
theorem dX1_survey_49 : decode cX1_survey 49 = .ok (.iconst 0, 1) := by decide +kernel
theorem dX1_survey_50 : decode cX1_survey 50 = .ok (.iadd, 1) := by decide +kernel
theorem dX1_survey_51 : decode cX1_survey 51 = .ok (.putfield 57, 3) := by decide +kernel
theorem dX1_survey_54 : decode cX1_survey 54 = .ok (.aload_n 0, 1) := by decide +kernel
theorem dX1_survey_55 : decode cX1_survey 55 = .ok (.aload_n 1, 1) := by decide +kernel
theorem dX1_survey_56 : decode cX1_survey 56 = .ok (.iload_n 3, 1) := by decide +kernel
theorem dX1_survey_57 : decode cX1_survey 57 = .ok (.invokevirtual 66, 3) := by decide +kernel
theorem dX1_survey_60 : decode cX1_survey 60 = .ok (.ifCond .eq 38, 3) := by decide +kernel
theorem dX1_survey_63 : decode cX1_survey 63 = .ok (.aload_n 0, 1) := by decide +kernel
theorem dX1_survey_64 : decode cX1_survey 64 = .ok (.dup, 1) := by decide +kernel
theorem dX1_survey_65 : decode cX1_survey 65 = .ok (.getfield 53, 3) := by decide +kernel
theorem dX1_survey_68 : decode cX1_survey 68 = .ok (.iconst 1, 1) := by decide +kernel
theorem dX1_survey_69 : decode cX1_survey 69 = .ok (.iadd, 1) := by decide +kernel
theorem dX1_survey_70 : decode cX1_survey 70 = .ok (.putfield 53, 3) := by decide +kernel
theorem dX1_survey_73 : decode cX1_survey 73 = .ok (.aload_n 0, 1) := by decide +kernel
theorem dX1_survey_74 : decode cX1_survey 74 = .ok (.aload_n 0, 1) := by decide +kernel
theorem dX1_survey_75 : decode cX1_survey 75 = .ok (.getfield 60, 3) := by decide +kernel
theorem dX1_survey_78 : decode cX1_survey 78 = .ok (.iconst (-1), 1) := by decide +kernel
theorem dX1_survey_79 : decode cX1_survey 79 = .ok (.if_icmp .ne 7, 3) := by decide +kernel
theorem dX1_survey_82 : decode cX1_survey 82 = .ok (.iload_n 3, 1) := by decide +kernel
theorem dX1_survey_83 : decode cX1_survey 83 = .ok (.goto 7, 3) := by decide +kernel
theorem dX1_survey_86 : decode cX1_survey 86 = .ok (.aload_n 0, 1) := by decide +kernel
theorem dX1_survey_87 : decode cX1_survey 87 = .ok (.getfield 60, 3) := by decide +kernel
theorem dX1_survey_90 : decode cX1_survey 90 = .ok (.putfield 60, 3) := by decide +kernel
theorem dX1_survey_93 : decode cX1_survey 93 = .ok (.aload_n 0, 1) := by decide +kernel
theorem dX1_survey_94 : decode cX1_survey 94 = .ok (.iload_n 3, 1) := by decide +kernel
theorem dX1_survey_95 : decode cX1_survey 95 = .ok (.putfield 63, 3) := by decide +kernel
theorem dX1_survey_98 : decode cX1_survey 98 = .ok (.iinc 3 1, 3) := by decide +kernel
theorem dX1_survey_101 : decode cX1_survey 101 = .ok (.goto (-74), 3) := by decide +kernel
theorem dX1_survey_104 : decode cX1_survey 104 = .ok (.return_, 1) := by decide +kernel
theorem dX1_noteFacts_0 : decode cX1_noteFacts 0 = .ok (.iload_n 2, 1) := by decide +kernel
theorem dX1_noteFacts_1 : decode cX1_noteFacts 1 = .ok (.bipush 10, 2) := by decide +kernel
theorem dX1_noteFacts_3 : decode cX1_noteFacts 3 = .ok (.idiv, 1) := by decide +kernel
theorem dX1_noteFacts_4 : decode cX1_noteFacts 4 = .ok (.istore 4, 2) := by decide +kernel
theorem dX1_noteFacts_6 : decode cX1_noteFacts 6 = .ok (.iload 4, 2) := by decide +kernel
theorem dX1_noteFacts_8 : decode cX1_noteFacts 8 = .ok (.iconst 3, 1) := by decide +kernel
theorem dX1_noteFacts_9 : decode cX1_noteFacts 9 = .ok (.idiv, 1) := by decide +kernel
theorem dX1_noteFacts_10 : decode cX1_noteFacts 10 = .ok (.istore 5, 2) := by decide +kernel
theorem dX1_noteFacts_12 : decode cX1_noteFacts 12 = .ok (.aload_n 0, 1) := by decide +kernel
theorem dX1_noteFacts_13 : decode cX1_noteFacts 13 = .ok (.getfield 15, 3) := by decide +kernel
theorem dX1_noteFacts_16 : decode cX1_noteFacts 16 = .ok (.aload_n 1, 1) := by decide +kernel
theorem dX1_noteFacts_17 : decode cX1_noteFacts 17 = .ok (.invokevirtual 39, 3) := by decide +kernel
theorem dX1_noteFacts_20 : decode cX1_noteFacts 20 = .ok (.pop, 1) := by decide +kernel
theorem dX1_noteFacts_21 : decode cX1_noteFacts 21 = .ok (.aload_n 0, 1) := by decide +kernel
theorem dX1_noteFacts_22 : decode cX1_noteFacts 22 = .ok (.getfield 9, 3) := by decide +kernel
theorem dX1_noteFacts_25 : decode cX1_noteFacts 25 = .ok (.iconst 0, 1) := by decide +kernel
theorem dX1_noteFacts_26 : decode cX1_noteFacts 26 = .ok (.aload_n 1, 1) := by decide +kernel
theorem dX1_noteFacts_27 : decode cX1_noteFacts 27 = .ok (.iload 4, 2) := by decide +kernel
theorem dX1_noteFacts_29 : decode cX1_noteFacts 29 = .ok (.invokevirtual 70, 3) := by decide +kernel
theorem dX1_noteFacts_32 : decode cX1_noteFacts 32 = .ok (.ifCond .eq 7, 3) := by decide +kernel
theorem dX1_noteFacts_35 : decode cX1_noteFacts 35 = .ok (.iconst 1, 1) := by decide +kernel
theorem dX1_noteFacts_36 : decode cX1_noteFacts 36 = .ok (.goto 4, 3) := by decide +kernel
theorem dX1_noteFacts_39 : decode cX1_noteFacts 39 = .ok (.iconst 0, 1) := by decide +kernel
theorem dX1_noteFacts_40 : decode cX1_noteFacts 40 = .ok (.iastore, 1) := by decide +kernel
theorem dX1_noteFacts_41 : decode cX1_noteFacts 41 = .ok (.aload_n 0, 1) := by decide +kernel
theorem dX1_noteFacts_42 : decode cX1_noteFacts 42 = .ok (.getfield 9, 3) := by decide +kernel
theorem dX1_noteFacts_45 : decode cX1_noteFacts 45 = .ok (.iconst 1, 1) := by decide +kernel
theorem dX1_noteFacts_46 : decode cX1_noteFacts 46 = .ok (.aload_n 1, 1) := by decide +kernel
theorem dX1_noteFacts_47 : decode cX1_noteFacts 47 = .ok (.iload 4, 2) := by decide +kernel
theorem dX1_noteFacts_49 : decode cX1_noteFacts 49 = .ok (.invokevirtual 73, 3) := by decide +kernel
theorem dX1_noteFacts_52 : decode cX1_noteFacts 52 = .ok (.ifCond .eq 13, 3) := by decide +kernel
theorem dX1_noteFacts_55 : decode cX1_noteFacts 55 = .ok (.aload_n 1, 1) := by decide +kernel
theorem dX1_noteFacts_56 : decode cX1_noteFacts 56 = .ok (.getfield 76, 3) := by decide +kernel
theorem dX1_noteFacts_59 : decode cX1_noteFacts 59 = .ok (.iload 4, 2) := by decide +kernel
theorem dX1_noteFacts_61 : decode cX1_noteFacts 61 = .ok (.iaload, 1) := by decide +kernel
theorem dX1_noteFacts_62 : decode cX1_noteFacts 62 = .ok (.goto 4, 3) := by decide +kernel
theorem dX1_noteFacts_65 : decode cX1_noteFacts 65 = .ok (.iconst 0, 1) := by decide +kernel
theorem dX1_noteFacts_66 : decode cX1_noteFacts 66 = .ok (.iastore, 1) := by decide +kernel
theorem dX1_noteFacts_67 : decode cX1_noteFacts 67 = .ok (.aload_n 0, 1) := by decide +kernel
theorem dX1_noteFacts_68 : decode cX1_noteFacts 68 = .ok (.getfield 9, 3) := by decide +kernel
theorem dX1_noteFacts_71 : decode cX1_noteFacts 71 = .ok (.iconst 2, 1) := by decide +kernel
theorem dX1_noteFacts_72 : decode cX1_noteFacts 72 = .ok (.iload 5, 2) := by decide +kernel
theorem dX1_noteFacts_74 : decode cX1_noteFacts 74 = .ok (.iastore, 1) := by decide +kernel
theorem dX1_noteFacts_75 : decode cX1_noteFacts 75 = .ok (.aload_n 0, 1) := by decide +kernel
theorem dX1_noteFacts_76 : decode cX1_noteFacts 76 = .ok (.getfield 9, 3) := by decide +kernel
theorem dX1_noteFacts_79 : decode cX1_noteFacts 79 = .ok (.iconst 3, 1) := by decide +kernel
theorem dX1_noteFacts_80 : decode cX1_noteFacts 80 = .ok (.iload 4, 2) := by decide +kernel
theorem dX1_noteFacts_82 : decode cX1_noteFacts 82 = .ok (.iconst 3, 1) := by decide +kernel
theorem dX1_noteFacts_83 : decode cX1_noteFacts 83 = .ok (.irem, 1) := by decide +kernel
theorem dX1_noteFacts_84 : decode cX1_noteFacts 84 = .ok (.iastore, 1) := by decide +kernel
theorem dX1_noteFacts_85 : decode cX1_noteFacts 85 = .ok (.aload_n 0, 1) := by decide +kernel
theorem dX1_noteFacts_86 : decode cX1_noteFacts 86 = .ok (.getfield 9, 3) := by decide +kernel
theorem dX1_noteFacts_89 : decode cX1_noteFacts 89 = .ok (.iconst 4, 1) := by decide +kernel
theorem dX1_noteFacts_90 : decode cX1_noteFacts 90 = .ok (.iload_n 2, 1) := by decide +kernel
theorem dX1_noteFacts_91 : decode cX1_noteFacts 91 = .ok (.bipush 10, 2) := by decide +kernel
theorem dX1_noteFacts_93 : decode cX1_noteFacts 93 = .ok (.irem, 1) := by decide +kernel
theorem dX1_noteFacts_94 : decode cX1_noteFacts 94 = .ok (.iastore, 1) := by decide +kernel
theorem dX1_noteFacts_95 : decode cX1_noteFacts 95 = .ok (.aload_n 0, 1) := by decide +kernel
theorem dX1_noteFacts_96 : decode cX1_noteFacts 96 = .ok (.getfield 9, 3) := by decide +kernel
theorem dX1_noteFacts_99 : decode cX1_noteFacts 99 = .ok (.iconst 5, 1) := by decide +kernel
theorem dX1_noteFacts_100 : decode cX1_noteFacts 100 = .ok (.iconst 3, 1) := by decide +kernel
theorem dX1_noteFacts_101 : decode cX1_noteFacts 101 = .ok (.aload_n 1, 1) := by decide +kernel
theorem dX1_noteFacts_102 : decode cX1_noteFacts 102 = .ok (.iload 5, 2) := by decide +kernel
theorem dX1_noteFacts_104 : decode cX1_noteFacts 104 = .ok (.invokevirtual 29, 3) := by decide +kernel
theorem dX1_noteFacts_107 : decode cX1_noteFacts 107 = .ok (.isub, 1) := by decide +kernel
theorem dX1_noteFacts_108 : decode cX1_noteFacts 108 = .ok (.iastore, 1) := by decide +kernel
theorem dX1_noteFacts_109 : decode cX1_noteFacts 109 = .ok (.aload_n 0, 1) := by decide +kernel
theorem dX1_noteFacts_110 : decode cX1_noteFacts 110 = .ok (.getfield 9, 3) := by decide +kernel
theorem dX1_noteFacts_113 : decode cX1_noteFacts 113 = .ok (.bipush 6, 2) := by decide +kernel
theorem dX1_noteFacts_115 : decode cX1_noteFacts 115 = .ok (.aload_n 1, 1) := by decide +kernel
theorem dX1_noteFacts_116 : decode cX1_noteFacts 116 = .ok (.getfield 79, 3) := by decide +kernel
theorem dX1_noteFacts_119 : decode cX1_noteFacts 119 = .ok (.iastore, 1) := by decide +kernel
theorem dX1_noteFacts_120 : decode cX1_noteFacts 120 = .ok (.aload_n 0, 1) := by decide +kernel
theorem dX1_noteFacts_121 : decode cX1_noteFacts 121 = .ok (.getfield 9, 3) := by decide +kernel
theorem dX1_noteFacts_124 : decode cX1_noteFacts 124 = .ok (.bipush 7, 2) := by decide +kernel
theorem dX1_noteFacts_126 : decode cX1_noteFacts 126 = .ok (.aload_n 1, 1) := by decide +kernel
theorem dX1_noteFacts_127 : decode cX1_noteFacts 127 = .ok (.iload 5, 2) := by decide +kernel
theorem dX1_noteFacts_129 : decode cX1_noteFacts 129 = .ok (.invokevirtual 82, 3) := by decide +kernel
theorem dX1_noteFacts_132 : decode cX1_noteFacts 132 = .ok (.ifCond .eq 19, 3) := by decide +kernel
theorem dX1_noteFacts_135 : decode cX1_noteFacts 135 = .ok (.aload_n 0, 1) := by decide +kernel
theorem dX1_noteFacts_136 : decode cX1_noteFacts 136 = .ok (.getfield 15, 3) := by decide +kernel
theorem dX1_noteFacts_139 : decode cX1_noteFacts 139 = .ok (.getfield 85, 3) := by decide +kernel
theorem dX1_noteFacts_142 : decode cX1_noteFacts 142 = .ok (.iload 5, 2) := by decide +kernel
theorem dX1_noteFacts_144 : decode cX1_noteFacts 144 = .ok (.iaload, 1) := by decide +kernel
theorem dX1_noteFacts_145 : decode cX1_noteFacts 145 = .ok (.bipush 100, 2) := by decide +kernel
theorem dX1_noteFacts_147 : decode cX1_noteFacts 147 = .ok (.idiv, 1) := by decide +kernel
theorem dX1_noteFacts_148 : decode cX1_noteFacts 148 = .ok (.goto 4, 3) := by decide +kernel
theorem dX1_noteFacts_151 : decode cX1_noteFacts 151 = .ok (.iconst 0, 1) := by decide +kernel
theorem dX1_noteFacts_152 : decode cX1_noteFacts 152 = .ok (.iastore, 1) := by decide +kernel
theorem dX1_noteFacts_153 : decode cX1_noteFacts 153 = .ok (.aload_n 0, 1) := by decide +kernel
theorem dX1_noteFacts_154 : decode cX1_noteFacts 154 = .ok (.getfield 9, 3) := by decide +kernel
theorem dX1_noteFacts_157 : decode cX1_noteFacts 157 = .ok (.bipush 8, 2) := by decide +kernel
theorem dX1_noteFacts_159 : decode cX1_noteFacts 159 = .ok (.iload_n 3, 1) := by decide +kernel
theorem dX1_noteFacts_160 : decode cX1_noteFacts 160 = .ok (.iastore, 1) := by decide +kernel
theorem dX1_noteFacts_161 : decode cX1_noteFacts 161 = .ok (.return_, 1) := by decide +kernel
theorem dX1_oddsNow_0 : decode cX1_oddsNow 0 = .ok (.aload_n 0, 1) := by decide +kernel
theorem dX1_oddsNow_1 : decode cX1_oddsNow 1 = .ok (.getfield 9, 3) := by decide +kernel
theorem dX1_oddsNow_4 : decode cX1_oddsNow 4 = .ok (.bipush 9, 2) := by decide +kernel
theorem dX1_oddsNow_6 : decode cX1_oddsNow 6 = .ok (.iload_n 1, 1) := by decide +kernel
theorem dX1_oddsNow_7 : decode cX1_oddsNow 7 = .ok (.iastore, 1) := by decide +kernel
theorem dX1_oddsNow_8 : decode cX1_oddsNow 8 = .ok (.iconst 0, 1) := by decide +kernel
theorem dX1_oddsNow_9 : decode cX1_oddsNow 9 = .ok (.bipush 100, 2) := by decide +kernel
theorem dX1_oddsNow_11 : decode cX1_oddsNow 11 = .ok (.aload_n 0, 1) := by decide +kernel
theorem dX1_oddsNow_12 : decode cX1_oddsNow 12 = .ok (.getfield 19, 3) := by decide +kernel
theorem dX1_oddsNow_15 : decode cX1_oddsNow 15 = .ok (.aload_n 0, 1) := by decide +kernel
theorem dX1_oddsNow_16 : decode cX1_oddsNow 16 = .ok (.getfield 9, 3) := by decide +kernel
theorem dX1_oddsNow_19 : decode cX1_oddsNow 19 = .ok (.invokevirtual 88, 3) := by decide +kernel
theorem dX1_oddsNow_22 : decode cX1_oddsNow 22 = .ok (.invokestatic 94, 3) := by decide +kernel
theorem dX1_oddsNow_25 : decode cX1_oddsNow 25 = .ok (.invokestatic 100, 3) := by decide +kernel
theorem dX1_oddsNow_28 : decode cX1_oddsNow 28 = .ok (.ireturn, 1) := by decide +kernel
theorem dX1_findBest_0 : decode cX1_findBest 0 = .ok (.aload_n 1, 1) := by decide +kernel
theorem dX1_findBest_1 : decode cX1_findBest 1 = .ok (.invokevirtual 49, 3) := by decide +kernel
theorem dX1_findBest_4 : decode cX1_findBest 4 = .ok (.istore_n 3, 1) := by decide +kernel
theorem dX1_findBest_5 : decode cX1_findBest 5 = .ok (.aload_n 0, 1) := by decide +kernel
theorem dX1_findBest_6 : decode cX1_findBest 6 = .ok (.iconst (-1), 1) := by decide +kernel
theorem dX1_findBest_7 : decode cX1_findBest 7 = .ok (.putfield 103, 3) := by decide +kernel
theorem dX1_findBest_10 : decode cX1_findBest 10 = .ok (.iconst 0, 1) := by decide +kernel
theorem dX1_findBest_11 : decode cX1_findBest 11 = .ok (.istore 4, 2) := by decide +kernel
theorem dX1_findBest_13 : decode cX1_findBest 13 = .ok (.iload 4, 2) := by decide +kernel
theorem dX1_findBest_15 : decode cX1_findBest 15 = .ok (.iload_n 3, 1) := by decide +kernel
theorem dX1_findBest_16 : decode cX1_findBest 16 = .ok (.if_icmp .ge 41, 3) := by decide +kernel
theorem dX1_findBest_19 : decode cX1_findBest 19 = .ok (.aload_n 0, 1) := by decide +kernel
theorem dX1_findBest_20 : decode cX1_findBest 20 = .ok (.aload_n 1, 1) := by decide +kernel
theorem dX1_findBest_21 : decode cX1_findBest 21 = .ok (.iload 4, 2) := by decide +kernel
theorem dX1_findBest_23 : decode cX1_findBest 23 = .ok (.invokevirtual 66, 3) := by decide +kernel
theorem dX1_findBest_26 : decode cX1_findBest 26 = .ok (.ifCond .eq 25, 3) := by decide +kernel
theorem dX1_findBest_29 : decode cX1_findBest 29 = .ok (.aload_n 0, 1) := by decide +kernel
theorem dX1_findBest_30 : decode cX1_findBest 30 = .ok (.aload_n 1, 1) := by decide +kernel
theorem dX1_findBest_31 : decode cX1_findBest 31 = .ok (.iload 4, 2) := by decide +kernel
theorem dX1_findBest_33 : decode cX1_findBest 33 = .ok (.iload_n 2, 1) := by decide +kernel
theorem dX1_findBest_34 : decode cX1_findBest 34 = .ok (.invokevirtual 106, 3) := by decide +kernel
theorem dX1_findBest_37 : decode cX1_findBest 37 = .ok (.aload_n 0, 1) := by decide +kernel
theorem dX1_findBest_38 : decode cX1_findBest 38 = .ok (.iload 4, 2) := by decide +kernel
theorem dX1_findBest_40 : decode cX1_findBest 40 = .ok (.iconst 0, 1) := by decide +kernel
theorem dX1_findBest_41 : decode cX1_findBest 41 = .ok (.invokevirtual 110, 3) := by decide +kernel
theorem dX1_findBest_44 : decode cX1_findBest 44 = .ok (.aload_n 0, 1) := by decide +kernel
theorem dX1_findBest_45 : decode cX1_findBest 45 = .ok (.iload 4, 2) := by decide +kernel
theorem dX1_findBest_47 : decode cX1_findBest 47 = .ok (.iconst 1, 1) := by decide +kernel
theorem dX1_findBest_48 : decode cX1_findBest 48 = .ok (.invokevirtual 110, 3) := by decide +kernel
theorem dX1_findBest_51 : decode cX1_findBest 51 = .ok (.iinc 4 1, 3) := by decide +kernel
theorem dX1_findBest_54 : decode cX1_findBest 54 = .ok (.goto (-41), 3) := by decide +kernel
theorem dX1_findBest_57 : decode cX1_findBest 57 = .ok (.return_, 1) := by decide +kernel
theorem dX1_preferLower_0 : decode cX1_preferLower 0 = .ok (.aload_n 0, 1) := by decide +kernel
theorem dX1_preferLower_1 : decode cX1_preferLower 1 = .ok (.iload_n 2, 1) := by decide +kernel
theorem dX1_preferLower_2 : decode cX1_preferLower 2 = .ok (.invokevirtual 113, 3) := by decide +kernel
theorem dX1_preferLower_5 : decode cX1_preferLower 5 = .ok (.istore_n 3, 1) := by decide +kernel
theorem dX1_preferLower_6 : decode cX1_preferLower 6 = .ok (.aload_n 0, 1) := by decide +kernel
theorem dX1_preferLower_7 : decode cX1_preferLower 7 = .ok (.getfield 103, 3) := by decide +kernel
theorem dX1_preferLower_10 : decode cX1_preferLower 10 = .ok (.iconst (-1), 1) := by decide +kernel
theorem dX1_preferLower_11 : decode cX1_preferLower 11 = .ok (.if_icmp .eq 27, 3) := by decide +kernel
theorem dX1_preferLower_14 : decode cX1_preferLower 14 = .ok (.iload_n 3, 1) := by decide +kernel
theorem dX1_preferLower_15 : decode cX1_preferLower 15 = .ok (.aload_n 0, 1) := by decide +kernel
theorem dX1_preferLower_16 : decode cX1_preferLower 16 = .ok (.getfield 116, 3) := by decide +kernel
theorem dX1_preferLower_19 : decode cX1_preferLower 19 = .ok (.if_icmp .lt 19, 3) := by decide +kernel
theorem dX1_preferLower_22 : decode cX1_preferLower 22 = .ok (.iload_n 3, 1) := by decide +kernel
theorem dX1_preferLower_23 : decode cX1_preferLower 23 = .ok (.aload_n 0, 1) := by decide +kernel
theorem dX1_preferLower_24 : decode cX1_preferLower 24 = .ok (.getfield 116, 3) := by decide +kernel
theorem dX1_preferLower_27 : decode cX1_preferLower 27 = .ok (.if_icmp .ne 26, 3) := by decide +kernel
theorem dX1_preferLower_30 : decode cX1_preferLower 30 = .ok (.iload_n 2, 1) := by decide +kernel
theorem dX1_preferLower_31 : decode cX1_preferLower 31 = .ok (.aload_n 0, 1) := by decide +kernel
theorem dX1_preferLower_32 : decode cX1_preferLower 32 = .ok (.getfield 119, 3) := by decide +kernel
theorem dX1_preferLower_35 : decode cX1_preferLower 35 = .ok (.if_icmp .ge 18, 3) := by decide +kernel
theorem dX1_preferLower_38 : decode cX1_preferLower 38 = .ok (.aload_n 0, 1) := by decide +kernel
theorem dX1_preferLower_39 : decode cX1_preferLower 39 = .ok (.iload_n 1, 1) := by decide +kernel
theorem dX1_preferLower_40 : decode cX1_preferLower 40 = .ok (.putfield 103, 3) := by decide +kernel
theorem dX1_preferLower_43 : decode cX1_preferLower 43 = .ok (.aload_n 0, 1) := by decide +kernel
theorem dX1_preferLower_44 : decode cX1_preferLower 44 = .ok (.iload_n 3, 1) := by decide +kernel
theorem dX1_preferLower_45 : decode cX1_preferLower 45 = .ok (.putfield 116, 3) := by decide +kernel
theorem dX1_preferLower_48 : decode cX1_preferLower 48 = .ok (.aload_n 0, 1) := by decide +kernel
theorem dX1_preferLower_49 : decode cX1_preferLower 49 = .ok (.iload_n 2, 1) := by decide +kernel
theorem dX1_preferLower_50 : decode cX1_preferLower 50 = .ok (.putfield 119, 3) := by decide +kernel
theorem dX1_preferLower_53 : decode cX1_preferLower 53 = .ok (.return_, 1) := by decide +kernel
theorem dX1_findMeanest_0 : decode cX1_findMeanest 0 = .ok (.aload_n 1, 1) := by decide +kernel
theorem dX1_findMeanest_1 : decode cX1_findMeanest 1 = .ok (.invokevirtual 49, 3) := by decide +kernel
theorem dX1_findMeanest_4 : decode cX1_findMeanest 4 = .ok (.istore_n 3, 1) := by decide +kernel
theorem dX1_findMeanest_5 : decode cX1_findMeanest 5 = .ok (.aload_n 0, 1) := by decide +kernel
theorem dX1_findMeanest_6 : decode cX1_findMeanest 6 = .ok (.iconst (-1), 1) := by decide +kernel
theorem dX1_findMeanest_7 : decode cX1_findMeanest 7 = .ok (.putfield 103, 3) := by decide +kernel
theorem dX1_findMeanest_10 : decode cX1_findMeanest 10 = .ok (.iconst 0, 1) := by decide +kernel
theorem dX1_findMeanest_11 : decode cX1_findMeanest 11 = .ok (.istore 4, 2) := by decide +kernel
theorem dX1_findMeanest_13 : decode cX1_findMeanest 13 = .ok (.iload 4, 2) := by decide +kernel
theorem dX1_findMeanest_15 : decode cX1_findMeanest 15 = .ok (.iload_n 3, 1) := by decide +kernel
theorem dX1_findMeanest_16 : decode cX1_findMeanest 16 = .ok (.if_icmp .ge 128, 3) := by decide +kernel
theorem dX1_findMeanest_19 : decode cX1_findMeanest 19 = .ok (.aload_n 0, 1) := by decide +kernel
theorem dX1_findMeanest_20 : decode cX1_findMeanest 20 = .ok (.aload_n 1, 1) := by decide +kernel
theorem dX1_findMeanest_21 : decode cX1_findMeanest 21 = .ok (.iload 4, 2) := by decide +kernel
theorem dX1_findMeanest_23 : decode cX1_findMeanest 23 = .ok (.invokevirtual 66, 3) := by decide +kernel
theorem dX1_findMeanest_26 : decode cX1_findMeanest 26 = .ok (.ifCond .eq 112, 3) := by decide +kernel
theorem dX1_findMeanest_29 : decode cX1_findMeanest 29 = .ok (.aload_n 0, 1) := by decide +kernel
theorem dX1_findMeanest_30 : decode cX1_findMeanest 30 = .ok (.aload_n 1, 1) := by decide +kernel
theorem dX1_findMeanest_31 : decode cX1_findMeanest 31 = .ok (.iload 4, 2) := by decide +kernel
theorem dX1_findMeanest_33 : decode cX1_findMeanest 33 = .ok (.iload_n 2, 1) := by decide +kernel
theorem dX1_findMeanest_34 : decode cX1_findMeanest 34 = .ok (.invokevirtual 106, 3) := by decide +kernel
theorem dX1_findMeanest_37 : decode cX1_findMeanest 37 = .ok (.aload_n 0, 1) := by decide +kernel
theorem dX1_findMeanest_38 : decode cX1_findMeanest 38 = .ok (.iconst 0, 1) := by decide +kernel
theorem dX1_findMeanest_39 : decode cX1_findMeanest 39 = .ok (.invokevirtual 113, 3) := by decide +kernel
theorem dX1_findMeanest_42 : decode cX1_findMeanest 42 = .ok (.istore 5, 2) := by decide +kernel
theorem dX1_findMeanest_44 : decode cX1_findMeanest 44 = .ok (.aload_n 1, 1) := by decide +kernel
theorem dX1_findMeanest_45 : decode cX1_findMeanest 45 = .ok (.iload 4, 2) := by decide +kernel
theorem dX1_findMeanest_47 : decode cX1_findMeanest 47 = .ok (.invokevirtual 33, 3) := by decide +kernel
theorem dX1_findMeanest_50 : decode cX1_findMeanest 50 = .ok (.istore 6, 2) := by decide +kernel
theorem dX1_findMeanest_52 : decode cX1_findMeanest 52 = .ok (.aload_n 1, 1) := by decide +kernel
theorem dX1_findMeanest_53 : decode cX1_findMeanest 53 = .ok (.iload 4, 2) := by decide +kernel
theorem dX1_findMeanest_55 : decode cX1_findMeanest 55 = .ok (.bipush 10, 2) := by decide +kernel
theorem dX1_findMeanest_57 : decode cX1_findMeanest 57 = .ok (.idiv, 1) := by decide +kernel
theorem dX1_findMeanest_58 : decode cX1_findMeanest 58 = .ok (.iload 6, 2) := by decide +kernel
theorem dX1_findMeanest_60 : decode cX1_findMeanest 60 = .ok (.invokevirtual 122, 3) := by decide +kernel
theorem dX1_findMeanest_63 : decode cX1_findMeanest 63 = .ok (.aload_n 0, 1) := by decide +kernel
theorem dX1_findMeanest_64 : decode cX1_findMeanest 64 = .ok (.aload_n 1, 1) := by decide +kernel
theorem dX1_findMeanest_65 : decode cX1_findMeanest 65 = .ok (.invokevirtual 125, 3) := by decide +kernel
theorem dX1_findMeanest_68 : decode cX1_findMeanest 68 = .ok (.aload_n 1, 1) := by decide +kernel
theorem dX1_findMeanest_69 : decode cX1_findMeanest 69 = .ok (.iload 6, 2) := by decide +kernel
theorem dX1_findMeanest_71 : decode cX1_findMeanest 71 = .ok (.iload 4, 2) := by decide +kernel
theorem dX1_findMeanest_73 : decode cX1_findMeanest 73 = .ok (.bipush 10, 2) := by decide +kernel
theorem dX1_findMeanest_75 : decode cX1_findMeanest 75 = .ok (.idiv, 1) := by decide +kernel
theorem dX1_findMeanest_76 : decode cX1_findMeanest 76 = .ok (.invokevirtual 122, 3) := by decide +kernel
theorem dX1_findMeanest_79 : decode cX1_findMeanest 79 = .ok (.aload_n 0, 1) := by decide +kernel
theorem dX1_findMeanest_80 : decode cX1_findMeanest 80 = .ok (.getfield 103, 3) := by decide +kernel
theorem dX1_findMeanest_83 : decode cX1_findMeanest 83 = .ok (.iconst (-1), 1) := by decide +kernel
theorem dX1_findMeanest_84 : decode cX1_findMeanest 84 = .ok (.if_icmp .eq 34, 3) := by decide +kernel
theorem dX1_findMeanest_87 : decode cX1_findMeanest 87 = .ok (.aload_n 0, 1) := by decide +kernel
theorem dX1_findMeanest_88 : decode cX1_findMeanest 88 = .ok (.getfield 53, 3) := by decide +kernel
theorem dX1_findMeanest_91 : decode cX1_findMeanest 91 = .ok (.aload_n 0, 1) := by decide +kernel
theorem dX1_findMeanest_92 : decode cX1_findMeanest 92 = .ok (.getfield 129, 3) := by decide +kernel
theorem dX1_findMeanest_95 : decode cX1_findMeanest 95 = .ok (.if_icmp .lt 23, 3) := by decide +kernel
theorem dX1_findMeanest_98 : decode cX1_findMeanest 98 = .ok (.aload_n 0, 1) := by decide +kernel
theorem dX1_findMeanest_99 : decode cX1_findMeanest 99 = .ok (.getfield 53, 3) := by decide +kernel
theorem dX1_findMeanest_102 : decode cX1_findMeanest 102 = .ok (.aload_n 0, 1) := by decide +kernel
theorem dX1_findMeanest_103 : decode cX1_findMeanest 103 = .ok (.getfield 129, 3) := by decide +kernel
theorem dX1_findMeanest_106 : decode cX1_findMeanest 106 = .ok (.if_icmp .ne 32, 3) := by decide +kernel
theorem dX1_findMeanest_109 : decode cX1_findMeanest 109 = .ok (.iload 5, 2) := by decide +kernel
theorem dX1_findMeanest_111 : decode cX1_findMeanest 111 = .ok (.aload_n 0, 1) := by decide +kernel
theorem dX1_findMeanest_112 : decode cX1_findMeanest 112 = .ok (.getfield 116, 3) := by decide +kernel
theorem dX1_findMeanest_115 : decode cX1_findMeanest 115 = .ok (.if_icmp .ge 23, 3) := by decide +kernel
theorem dX1_findMeanest_118 : decode cX1_findMeanest 118 = .ok (.aload_n 0, 1) := by decide +kernel
theorem dX1_findMeanest_119 : decode cX1_findMeanest 119 = .ok (.iload 4, 2) := by decide +kernel
theorem dX1_findMeanest_121 : decode cX1_findMeanest 121 = .ok (.putfield 103, 3) := by decide +kernel
theorem dX1_findMeanest_124 : decode cX1_findMeanest 124 = .ok (.aload_n 0, 1) := by decide +kernel
theorem dX1_findMeanest_125 : decode cX1_findMeanest 125 = .ok (.iload 5, 2) := by decide +kernel
theorem dX1_findMeanest_127 : decode cX1_findMeanest 127 = .ok (.putfield 116, 3) := by decide +kernel
theorem dX1_findMeanest_130 : decode cX1_findMeanest 130 = .ok (.aload_n 0, 1) := by decide +kernel
theorem dX1_findMeanest_131 : decode cX1_findMeanest 131 = .ok (.aload_n 0, 1) := by decide +kernel
theorem dX1_findMeanest_132 : decode cX1_findMeanest 132 = .ok (.getfield 53, 3) := by decide +kernel
theorem dX1_findMeanest_135 : decode cX1_findMeanest 135 = .ok (.putfield 129, 3) := by decide +kernel
theorem dX1_findMeanest_138 : decode cX1_findMeanest 138 = .ok (.iinc 4 1, 3) := by decide +kernel
theorem dX1_findMeanest_141 : decode cX1_findMeanest 141 = .ok (.goto (-128), 3) := by decide +kernel
theorem dX1_findMeanest_144 : decode cX1_findMeanest 144 = .ok (.return_, 1) := by decide +kernel
theorem dX1_findSteadiest_0 : decode cX1_findSteadiest 0 = .ok (.aload_n 0, 1) := by decide +kernel
theorem dX1_findSteadiest_1 : decode cX1_findSteadiest 1 = .ok (.iconst (-1), 1) := by decide +kernel
theorem dX1_findSteadiest_2 : decode cX1_findSteadiest 2 = .ok (.putfield 103, 3) := by decide +kernel
theorem dX1_findSteadiest_5 : decode cX1_findSteadiest 5 = .ok (.iconst 0, 1) := by decide +kernel
theorem dX1_findSteadiest_6 : decode cX1_findSteadiest 6 = .ok (.istore_n 3, 1) := by decide +kernel
theorem dX1_findSteadiest_7 : decode cX1_findSteadiest 7 = .ok (.iload_n 3, 1) := by decide +kernel
theorem dX1_findSteadiest_8 : decode cX1_findSteadiest 8 = .ok (.iconst 3, 1) := by decide +kernel
theorem dX1_findSteadiest_9 : decode cX1_findSteadiest 9 = .ok (.if_icmp .ge 61, 3) := by decide +kernel
theorem dX1_findSteadiest_12 : decode cX1_findSteadiest 12 = .ok (.aload_n 0, 1) := by decide +kernel
theorem dX1_findSteadiest_13 : decode cX1_findSteadiest 13 = .ok (.aload_n 1, 1) := by decide +kernel
theorem dX1_findSteadiest_14 : decode cX1_findSteadiest 14 = .ok (.bipush 10, 2) := by decide +kernel
theorem dX1_findSteadiest_16 : decode cX1_findSteadiest 16 = .ok (.iload_n 2, 1) := by decide +kernel
theorem dX1_findSteadiest_17 : decode cX1_findSteadiest 17 = .ok (.imul, 1) := by decide +kernel
theorem dX1_findSteadiest_18 : decode cX1_findSteadiest 18 = .ok (.iload_n 3, 1) := by decide +kernel
theorem dX1_findSteadiest_19 : decode cX1_findSteadiest 19 = .ok (.iadd, 1) := by decide +kernel
theorem dX1_findSteadiest_20 : decode cX1_findSteadiest 20 = .ok (.invokevirtual 66, 3) := by decide +kernel
theorem dX1_findSteadiest_23 : decode cX1_findSteadiest 23 = .ok (.ifCond .eq 41, 3) := by decide +kernel
theorem dX1_findSteadiest_26 : decode cX1_findSteadiest 26 = .ok (.aload_n 0, 1) := by decide +kernel
theorem dX1_findSteadiest_27 : decode cX1_findSteadiest 27 = .ok (.getfield 103, 3) := by decide +kernel
theorem dX1_findSteadiest_30 : decode cX1_findSteadiest 30 = .ok (.iconst (-1), 1) := by decide +kernel
theorem dX1_findSteadiest_31 : decode cX1_findSteadiest 31 = .ok (.if_icmp .eq 17, 3) := by decide +kernel
theorem dX1_findSteadiest_34 : decode cX1_findSteadiest 34 = .ok (.aload_n 0, 1) := by decide +kernel
theorem dX1_findSteadiest_35 : decode cX1_findSteadiest 35 = .ok (.getfield 15, 3) := by decide +kernel
theorem dX1_findSteadiest_38 : decode cX1_findSteadiest 38 = .ok (.getfield 132, 3) := by decide +kernel
theorem dX1_findSteadiest_41 : decode cX1_findSteadiest 41 = .ok (.aload_n 0, 1) := by decide +kernel
theorem dX1_findSteadiest_42 : decode cX1_findSteadiest 42 = .ok (.getfield 129, 3) := by decide +kernel
theorem dX1_findSteadiest_45 : decode cX1_findSteadiest 45 = .ok (.if_icmp .le 19, 3) := by decide +kernel
theorem dX1_findSteadiest_48 : decode cX1_findSteadiest 48 = .ok (.aload_n 0, 1) := by decide +kernel
theorem dX1_findSteadiest_49 : decode cX1_findSteadiest 49 = .ok (.iload_n 3, 1) := by decide +kernel
theorem dX1_findSteadiest_50 : decode cX1_findSteadiest 50 = .ok (.putfield 103, 3) := by decide +kernel
theorem dX1_findSteadiest_53 : decode cX1_findSteadiest 53 = .ok (.aload_n 0, 1) := by decide +kernel
theorem dX1_findSteadiest_54 : decode cX1_findSteadiest 54 = .ok (.aload_n 0, 1) := by decide +kernel
theorem dX1_findSteadiest_55 : decode cX1_findSteadiest 55 = .ok (.getfield 15, 3) := by decide +kernel
theorem dX1_findSteadiest_58 : decode cX1_findSteadiest 58 = .ok (.getfield 132, 3) := by decide +kernel
theorem dX1_findSteadiest_61 : decode cX1_findSteadiest 61 = .ok (.putfield 129, 3) := by decide +kernel
theorem dX1_findSteadiest_64 : decode cX1_findSteadiest 64 = .ok (.iinc 3 1, 3) := by decide +kernel
theorem dX1_findSteadiest_67 : decode cX1_findSteadiest 67 = .ok (.goto (-60), 3) := by decide +kernel
theorem dX1_findSteadiest_70 : decode cX1_findSteadiest 70 = .ok (.return_, 1) := by decide +kernel
theorem dX1_findLikeliest_0 : decode cX1_findLikeliest 0 = .ok (.aload_n 1, 1) := by decide +kernel
theorem dX1_findLikeliest_1 : decode cX1_findLikeliest 1 = .ok (.invokevirtual 49, 3) := by decide +kernel
theorem dX1_findLikeliest_4 : decode cX1_findLikeliest 4 = .ok (.istore 5, 2) := by decide +kernel
theorem dX1_findLikeliest_6 : decode cX1_findLikeliest 6 = .ok (.iconst (-1), 1) := by decide +kernel
theorem dX1_findLikeliest_7 : decode cX1_findLikeliest 7 = .ok (.istore 6, 2) := by decide +kernel
theorem dX1_findLikeliest_9 : decode cX1_findLikeliest 9 = .ok (.iconst 0, 1) := by decide +kernel
theorem dX1_findLikeliest_10 : decode cX1_findLikeliest 10 = .ok (.istore 7, 2) := by decide +kernel
theorem dX1_findLikeliest_12 : decode cX1_findLikeliest 12 = .ok (.iconst 0, 1) := by decide +kernel
theorem dX1_findLikeliest_13 : decode cX1_findLikeliest 13 = .ok (.istore 8, 2) := by decide +kernel
theorem dX1_findLikeliest_15 : decode cX1_findLikeliest 15 = .ok (.iload 8, 2) := by decide +kernel
theorem dX1_findLikeliest_17 : decode cX1_findLikeliest 17 = .ok (.iload 5, 2) := by decide +kernel
theorem dX1_findLikeliest_19 : decode cX1_findLikeliest 19 = .ok (.if_icmp .ge 79, 3) := by decide +kernel
theorem dX1_findLikeliest_22 : decode cX1_findLikeliest 22 = .ok (.aload_n 0, 1) := by decide +kernel
theorem dX1_findLikeliest_23 : decode cX1_findLikeliest 23 = .ok (.aload_n 1, 1) := by decide +kernel
theorem dX1_findLikeliest_24 : decode cX1_findLikeliest 24 = .ok (.iload 8, 2) := by decide +kernel
theorem dX1_findLikeliest_26 : decode cX1_findLikeliest 26 = .ok (.invokevirtual 66, 3) := by decide +kernel
theorem dX1_findLikeliest_29 : decode cX1_findLikeliest 29 = .ok (.ifCond .eq 63, 3) := by decide +kernel
theorem dX1_findLikeliest_32 : decode cX1_findLikeliest 32 = .ok (.aload_n 0, 1) := by decide +kernel
theorem dX1_findLikeliest_33 : decode cX1_findLikeliest 33 = .ok (.aload_n 1, 1) := by decide +kernel
theorem dX1_findLikeliest_34 : decode cX1_findLikeliest 34 = .ok (.iload 8, 2) := by decide +kernel
theorem dX1_findLikeliest_36 : decode cX1_findLikeliest 36 = .ok (.iload_n 2, 1) := by decide +kernel
theorem dX1_findLikeliest_37 : decode cX1_findLikeliest 37 = .ok (.invokevirtual 106, 3) := by decide +kernel
theorem dX1_findLikeliest_40 : decode cX1_findLikeliest 40 = .ok (.bipush 100, 2) := by decide +kernel
theorem dX1_findLikeliest_42 : decode cX1_findLikeliest 42 = .ok (.aload_n 0, 1) := by decide +kernel
theorem dX1_findLikeliest_43 : decode cX1_findLikeliest 43 = .ok (.iconst 0, 1) := by decide +kernel
theorem dX1_findLikeliest_44 : decode cX1_findLikeliest 44 = .ok (.invokevirtual 113, 3) := by decide +kernel
theorem dX1_findLikeliest_47 : decode cX1_findLikeliest 47 = .ok (.aload_n 0, 1) := by decide +kernel
theorem dX1_findLikeliest_48 : decode cX1_findLikeliest 48 = .ok (.iconst 1, 1) := by decide +kernel
theorem dX1_findLikeliest_49 : decode cX1_findLikeliest 49 = .ok (.invokevirtual 113, 3) := by decide +kernel
theorem dX1_findLikeliest_52 : decode cX1_findLikeliest 52 = .ok (.invokestatic 94, 3) := by decide +kernel
theorem dX1_findLikeliest_55 : decode cX1_findLikeliest 55 = .ok (.isub, 1) := by decide +kernel
theorem dX1_findLikeliest_56 : decode cX1_findLikeliest 56 = .ok (.istore 9, 2) := by decide +kernel
theorem dX1_findLikeliest_58 : decode cX1_findLikeliest 58 = .ok (.iload 4, 2) := by decide +kernel
theorem dX1_findLikeliest_60 : decode cX1_findLikeliest 60 = .ok (.iconst 2, 1) := by decide +kernel
theorem dX1_findLikeliest_61 : decode cX1_findLikeliest 61 = .ok (.if_icmp .ne 16, 3) := by decide +kernel
theorem dX1_findLikeliest_64 : decode cX1_findLikeliest 64 = .ok (.iload 9, 2) := by decide +kernel
theorem dX1_findLikeliest_66 : decode cX1_findLikeliest 66 = .ok (.aload_n 0, 1) := by decide +kernel
theorem dX1_findLikeliest_67 : decode cX1_findLikeliest 67 = .ok (.aload_n 1, 1) := by decide +kernel
theorem dX1_findLikeliest_68 : decode cX1_findLikeliest 68 = .ok (.iload 8, 2) := by decide +kernel
theorem dX1_findLikeliest_70 : decode cX1_findLikeliest 70 = .ok (.iload_n 3, 1) := by decide +kernel
theorem dX1_findLikeliest_71 : decode cX1_findLikeliest 71 = .ok (.invokevirtual 135, 3) := by decide +kernel
theorem dX1_findLikeliest_74 : decode cX1_findLikeliest 74 = .ok (.imul, 1) := by decide +kernel
theorem dX1_findLikeliest_75 : decode cX1_findLikeliest 75 = .ok (.istore 9, 2) := by decide +kernel
theorem dX1_findLikeliest_77 : decode cX1_findLikeliest 77 = .ok (.iload 9, 2) := by decide +kernel
theorem dX1_findLikeliest_79 : decode cX1_findLikeliest 79 = .ok (.iload 7, 2) := by decide +kernel
theorem dX1_findLikeliest_81 : decode cX1_findLikeliest 81 = .ok (.if_icmp .le 11, 3) := by decide +kernel
theorem dX1_findLikeliest_84 : decode cX1_findLikeliest 84 = .ok (.iload 9, 2) := by decide +kernel
theorem dX1_findLikeliest_86 : decode cX1_findLikeliest 86 = .ok (.istore 7, 2) := by decide +kernel
theorem dX1_findLikeliest_88 : decode cX1_findLikeliest 88 = .ok (.iload 8, 2) := by decide +kernel
theorem dX1_findLikeliest_90 : decode cX1_findLikeliest 90 = .ok (.istore 6, 2) := by decide +kernel
theorem dX1_findLikeliest_92 : decode cX1_findLikeliest 92 = .ok (.iinc 8 1, 3) := by decide +kernel
theorem dX1_findLikeliest_95 : decode cX1_findLikeliest 95 = .ok (.goto (-80), 3) := by decide +kernel
theorem dX1_findLikeliest_98 : decode cX1_findLikeliest 98 = .ok (.aload_n 0, 1) := by decide +kernel
theorem dX1_findLikeliest_99 : decode cX1_findLikeliest 99 = .ok (.iload 6, 2) := by decide +kernel
theorem dX1_findLikeliest_101 : decode cX1_findLikeliest 101 = .ok (.putfield 103, 3) := by decide +kernel
theorem dX1_findLikeliest_104 : decode cX1_findLikeliest 104 = .ok (.aload_n 0, 1) := by decide +kernel
theorem dX1_findLikeliest_105 : decode cX1_findLikeliest 105 = .ok (.iload 7, 2) := by decide +kernel
theorem dX1_findLikeliest_107 : decode cX1_findLikeliest 107 = .ok (.putfield 129, 3) := by decide +kernel
theorem dX1_findLikeliest_110 : decode cX1_findLikeliest 110 = .ok (.return_, 1) := by decide +kernel
theorem dX1_chancesBehind_0 : decode cX1_chancesBehind 0 = .ok (.aload_n 1, 1) := by decide +kernel
theorem dX1_chancesBehind_1 : decode cX1_chancesBehind 1 = .ok (.iload_n 2, 1) := by decide +kernel
theorem dX1_chancesBehind_2 : decode cX1_chancesBehind 2 = .ok (.invokevirtual 33, 3) := by decide +kernel
theorem dX1_chancesBehind_5 : decode cX1_chancesBehind 5 = .ok (.istore 4, 2) := by decide +kernel
theorem dX1_chancesBehind_7 : decode cX1_chancesBehind 7 = .ok (.aload_n 1, 1) := by decide +kernel
theorem dX1_chancesBehind_8 : decode cX1_chancesBehind 8 = .ok (.iload_n 2, 1) := by decide +kernel
theorem dX1_chancesBehind_9 : decode cX1_chancesBehind 9 = .ok (.bipush 10, 2) := by decide +kernel
theorem dX1_chancesBehind_11 : decode cX1_chancesBehind 11 = .ok (.idiv, 1) := by decide +kernel
theorem dX1_chancesBehind_12 : decode cX1_chancesBehind 12 = .ok (.iload 4, 2) := by decide +kernel
theorem dX1_chancesBehind_14 : decode cX1_chancesBehind 14 = .ok (.invokevirtual 122, 3) := by decide +kernel
theorem dX1_chancesBehind_17 : decode cX1_chancesBehind 17 = .ok (.aload_n 0, 1) := by decide +kernel
theorem dX1_chancesBehind_18 : decode cX1_chancesBehind 18 = .ok (.aload_n 1, 1) := by decide +kernel
theorem dX1_chancesBehind_19 : decode cX1_chancesBehind 19 = .ok (.iload_n 3, 1) := by decide +kernel
theorem dX1_chancesBehind_20 : decode cX1_chancesBehind 20 = .ok (.invokevirtual 139, 3) := by decide +kernel
theorem dX1_chancesBehind_23 : decode cX1_chancesBehind 23 = .ok (.aload_n 1, 1) := by decide +kernel
theorem dX1_chancesBehind_24 : decode cX1_chancesBehind 24 = .ok (.iload 4, 2) := by decide +kernel
theorem dX1_chancesBehind_26 : decode cX1_chancesBehind 26 = .ok (.iload_n 2, 1) := by decide +kernel
theorem dX1_chancesBehind_27 : decode cX1_chancesBehind 27 = .ok (.bipush 10, 2) := by decide +kernel
theorem dX1_chancesBehind_29 : decode cX1_chancesBehind 29 = .ok (.idiv, 1) := by decide +kernel
theorem dX1_chancesBehind_30 : decode cX1_chancesBehind 30 = .ok (.invokevirtual 122, 3) := by decide +kernel
theorem dX1_chancesBehind_33 : decode cX1_chancesBehind 33 = .ok (.aload_n 0, 1) := by decide +kernel
theorem dX1_chancesBehind_34 : decode cX1_chancesBehind 34 = .ok (.getfield 103, 3) := by decide +kernel
theorem dX1_chancesBehind_37 : decode cX1_chancesBehind 37 = .ok (.iconst (-1), 1) := by decide +kernel
theorem dX1_chancesBehind_38 : decode cX1_chancesBehind 38 = .ok (.if_icmp .ne 7, 3) := by decide +kernel
theorem dX1_chancesBehind_41 : decode cX1_chancesBehind 41 = .ok (.iconst 0, 1) := by decide +kernel
theorem dX1_chancesBehind_42 : decode cX1_chancesBehind 42 = .ok (.goto 10, 3) := by decide +kernel
theorem dX1_chancesBehind_45 : decode cX1_chancesBehind 45 = .ok (.bipush 100, 2) := by decide +kernel
theorem dX1_chancesBehind_47 : decode cX1_chancesBehind 47 = .ok (.aload_n 0, 1) := by decide +kernel
theorem dX1_chancesBehind_48 : decode cX1_chancesBehind 48 = .ok (.getfield 116, 3) := by decide +kernel
theorem dX1_chancesBehind_51 : decode cX1_chancesBehind 51 = .ok (.isub, 1) := by decide +kernel
theorem dX1_chancesBehind_52 : decode cX1_chancesBehind 52 = .ok (.ireturn, 1) := by decide +kernel
theorem dX2_init_0 : decode cX2_init 0 = .ok (.aload_n 0, 1) := by decide +kernel
theorem dX2_init_1 : decode cX2_init 1 = .ok (.invokespecial 3, 3) := by decide +kernel
theorem dX2_init_4 : decode cX2_init 4 = .ok (.aload_n 0, 1) := by decide +kernel
theorem dX2_init_5 : decode cX2_init 5 = .ok (.new 9, 3) := by decide +kernel
theorem dX2_init_8 : decode cX2_init 8 = .ok (.dup, 1) := by decide +kernel
theorem dX2_init_9 : decode cX2_init 9 = .ok (.invokespecial 11, 3) := by decide +kernel
theorem dX2_init_12 : decode cX2_init 12 = .ok (.putfield 12, 3) := by decide +kernel
theorem dX2_init_15 : decode cX2_init 15 = .ok (.aload_n 0, 1) := by decide +kernel
theorem dX2_init_16 : decode cX2_init 16 = .ok (.sipush 1200, 3) := by decide +kernel
theorem dX2_init_19 : decode cX2_init 19 = .ok (.newarray .long, 2) := by decide +kernel
theorem dX2_init_21 : decode cX2_init 21 = .ok (.putfield 18, 3) := by decide +kernel
theorem dX2_init_24 : decode cX2_init 24 = .ok (.aload_n 0, 1) := by decide +kernel
theorem dX2_init_25 : decode cX2_init 25 = .ok (.iconst 3, 1) := by decide +kernel
theorem dX2_init_26 : decode cX2_init 26 = .ok (.newarray .long, 2) := by decide +kernel
theorem dX2_init_28 : decode cX2_init 28 = .ok (.putfield 22, 3) := by decide +kernel
theorem dX2_init_31 : decode cX2_init 31 = .ok (.aload_n 0, 1) := by decide +kernel
theorem dX2_init_32 : decode cX2_init 32 = .ok (.sipush 1024, 3) := by decide +kernel
theorem dX2_init_35 : decode cX2_init 35 = .ok (.newarray .int, 2) := by decide +kernel
theorem dX2_init_37 : decode cX2_init 37 = .ok (.putfield 25, 3) := by decide +kernel
theorem dX2_init_40 : decode cX2_init 40 = .ok (.aload_n 0, 1) := by decide +kernel
theorem dX2_init_41 : decode cX2_init 41 = .ok (.sipush 400, 3) := by decide +kernel
theorem dX2_init_44 : decode cX2_init 44 = .ok (.newarray .int, 2) := by decide +kernel
theorem dX2_init_46 : decode cX2_init 46 = .ok (.putfield 29, 3) := by decide +kernel
theorem dX2_init_49 : decode cX2_init 49 = .ok (.aload_n 0, 1) := by decide +kernel
theorem dX2_init_50 : decode cX2_init 50 = .ok (.sipush 400, 3) := by decide +kernel
theorem dX2_init_53 : decode cX2_init 53 = .ok (.newarray .int, 2) := by decide +kernel
theorem dX2_init_55 : decode cX2_init 55 = .ok (.putfield 32, 3) := by decide +kernel
theorem dX2_init_58 : decode cX2_init 58 = .ok (.aload_n 0, 1) := by decide +kernel
theorem dX2_init_59 : decode cX2_init 59 = .ok (.sipush 400, 3) := by decide +kernel
theorem dX2_init_62 : decode cX2_init 62 = .ok (.newarray .int, 2) := by decide +kernel
theorem dX2_init_64 : decode cX2_init 64 = .ok (.putfield 35, 3) := by decide +kernel
theorem dX2_init_67 : decode cX2_init 67 = .ok (.aload_n 0, 1) := by decide +kernel
theorem dX2_init_68 : decode cX2_init 68 = .ok (.sipush 400, 3) := by decide +kernel
theorem dX2_init_71 : decode cX2_init 71 = .ok (.newarray .int, 2) := by decide +kernel
theorem dX2_init_73 : decode cX2_init 73 = .ok (.putfield 38, 3) := by decide +kernel
theorem dX2_init_76 : decode cX2_init 76 = .ok (.aload_n 0, 1) := by decide +kernel
theorem dX2_init_77 : decode cX2_init 77 = .ok (.sipush 400, 3) := by decide +kernel
theorem dX2_init_80 : decode cX2_init 80 = .ok (.newarray .int, 2) := by decide +kernel
theorem dX2_init_82 : decode cX2_init 82 = .ok (.putfield 41, 3) := by decide +kernel
theorem dX2_init_85 : decode cX2_init 85 = .ok (.aload_n 0, 1) := by decide +kernel
theorem dX2_init_86 : decode cX2_init 86 = .ok (.sipush 401, 3) := by decide +kernel
theorem dX2_init_89 : decode cX2_init 89 = .ok (.newarray .int, 2) := by decide +kernel
theorem dX2_init_91 : decode cX2_init 91 = .ok (.putfield 44, 3) := by decide +kernel
theorem dX2_init_94 : decode cX2_init 94 = .ok (.aload_n 0, 1) := by decide +kernel
theorem dX2_init_95 : decode cX2_init 95 = .ok (.ldc 47, 2) := by decide +kernel
theorem dX2_init_97 : decode cX2_init 97 = .ok (.newarray .int, 2) := by decide +kernel
theorem dX2_init_99 : decode cX2_init 99 = .ok (.putfield 48, 3) := by decide +kernel
theorem dX2_init_102 : decode cX2_init 102 = .ok (.aload_n 0, 1) := by decide +kernel
theorem dX2_init_103 : decode cX2_init 103 = .ok (.bipush 48, 2) := by decide +kernel
theorem dX2_init_105 : decode cX2_init 105 = .ok (.newarray .int, 2) := by decide +kernel
theorem dX2_init_107 : decode cX2_init 107 = .ok (.putfield 51, 3) := by decide +kernel
theorem dX2_init_110 : decode cX2_init 110 = .ok (.aload_n 0, 1) := by decide +kernel
theorem dX2_init_111 : decode cX2_init 111 = .ok (.aload_n 1, 1) := by decide +kernel
theorem dX2_init_112 : decode cX2_init 112 = .ok (.putfield 54, 3) := by decide +kernel
theorem dX2_init_115 : decode cX2_init 115 = .ok (.return_, 1) := by decide +kernel
theorem dX2_search_0 : decode cX2_search 0 = .ok (.aload_n 0, 1) := by decide +kernel
theorem dX2_search_1 : decode cX2_search 1 = .ok (.getfield 25, 3) := by decide +kernel
theorem dX2_search_4 : decode cX2_search 4 = .ok (.iconst 0, 1) := by decide +kernel
theorem dX2_search_5 : decode cX2_search 5 = .ok (.invokestatic 58, 3) := by decide +kernel
theorem dX2_search_8 : decode cX2_search 8 = .ok (.aload_n 0, 1) := by decide +kernel
theorem dX2_search_9 : decode cX2_search 9 = .ok (.iconst 0, 1) := by decide +kernel
theorem dX2_search_10 : decode cX2_search 10 = .ok (.putfield 64, 3) := by decide +kernel
theorem dX2_search_13 : decode cX2_search 13 = .ok (.aload_n 0, 1) := by decide +kernel
theorem dX2_search_14 : decode cX2_search 14 = .ok (.iconst 0, 1) := by decide +kernel
theorem dX2_search_15 : decode cX2_search 15 = .ok (.putfield 68, 3) := by decide +kernel
theorem dX2_search_18 : decode cX2_search 18 = .ok (.aload_n 0, 1) := by decide +kernel
theorem dX2_search_19 : decode cX2_search 19 = .ok (.iconst 0, 1) := by decide +kernel
theorem dX2_search_20 : decode cX2_search 20 = .ok (.putfield 71, 3) := by decide +kernel
theorem dX2_search_23 : decode cX2_search 23 = .ok (.aload_n 0, 1) := by decide +kernel
theorem dX2_search_24 : decode cX2_search 24 = .ok (.aload_n 1, 1) := by decide +kernel
theorem dX2_search_25 : decode cX2_search 25 = .ok (.invokevirtual 75, 3) := by decide +kernel
theorem dX2_search_28 : decode cX2_search 28 = .ok (.aload_n 0, 1) := by decide +kernel
theorem dX2_search_29 : decode cX2_search 29 = .ok (.invokevirtual 79, 3) := by decide +kernel
theorem dX2_search_32 : decode cX2_search 32 = .ok (.pop, 1) := by decide +kernel
theorem dX2_search_33 : decode cX2_search 33 = .ok (.aload_n 0, 1) := by decide +kernel
theorem dX2_search_34 : decode cX2_search 34 = .ok (.iconst 0, 1) := by decide +kernel
theorem dX2_search_35 : decode cX2_search 35 = .ok (.iconst (-1), 1) := by decide +kernel
theorem dX2_search_36 : decode cX2_search 36 = .ok (.iconst (-1), 1) := by decide +kernel
theorem dX2_search_37 : decode cX2_search 37 = .ok (.aload_n 1, 1) := by decide +kernel
theorem dX2_search_38 : decode cX2_search 38 = .ok (.getfield 83, 3) := by decide +kernel
theorem dX2_search_41 : decode cX2_search 41 = .ok (.invokevirtual 86, 3) := by decide +kernel
theorem dX2_search_44 : decode cX2_search 44 = .ok (.iconst 0, 1) := by decide +kernel
theorem dX2_search_45 : decode cX2_search 45 = .ok (.istore_n 3, 1) := by decide +kernel
theorem dX2_search_46 : decode cX2_search 46 = .ok (.iload_n 3, 1) := by decide +kernel
theorem dX2_search_47 : decode cX2_search 47 = .ok (.sipush 400, 3) := by decide +kernel
theorem dX2_search_50 : decode cX2_search 50 = .ok (.if_icmp .ge 55, 3) := by decide +kernel
theorem dX2_search_53 : decode cX2_search 53 = .ok (.iload_n 3, 1) := by decide +kernel
theorem dX2_search_54 : decode cX2_search 54 = .ok (.aload_n 0, 1) := by decide +kernel
theorem dX2_search_55 : decode cX2_search 55 = .ok (.getfield 68, 3) := by decide +kernel
theorem dX2_search_58 : decode cX2_search 58 = .ok (.if_icmp .ge 47, 3) := by decide +kernel
theorem dX2_search_61 : decode cX2_search 61 = .ok (.aload_n 0, 1) := by decide +kernel
theorem dX2_search_62 : decode cX2_search 62 = .ok (.getfield 71, 3) := by decide +kernel
theorem dX2_search_65 : decode cX2_search 65 = .ok (.ifCond .ne 40, 3) := by decide +kernel
theorem dX2_search_68 : decode cX2_search 68 = .ok (.aload_n 0, 1) := by decide +kernel
theorem dX2_search_69 : decode cX2_search 69 = .ok (.getfield 44, 3) := by decide +kernel
theorem dX2_search_72 : decode cX2_search 72 = .ok (.iload_n 3, 1) := by decide +kernel
theorem dX2_search_73 : decode cX2_search 73 = .ok (.aload_n 0, 1) := by decide +kernel
theorem dX2_search_74 : decode cX2_search 74 = .ok (.getfield 64, 3) := by decide +kernel
theorem dX2_search_77 : decode cX2_search 77 = .ok (.iastore, 1) := by decide +kernel
theorem dX2_search_78 : decode cX2_search 78 = .ok (.iload_n 2, 1) := by decide +kernel
theorem dX2_search_79 : decode cX2_search 79 = .ok (.ifCond .ne 8, 3) := by decide +kernel
theorem dX2_search_82 : decode cX2_search 82 = .ok (.aload_n 0, 1) := by decide +kernel
theorem dX2_search_83 : decode cX2_search 83 = .ok (.iload_n 3, 1) := by decide +kernel
theorem dX2_search_84 : decode cX2_search 84 = .ok (.invokevirtual 90, 3) := by decide +kernel
theorem dX2_search_87 : decode cX2_search 87 = .ok (.aload_n 0, 1) := by decide +kernel
theorem dX2_search_88 : decode cX2_search 88 = .ok (.getfield 44, 3) := by decide +kernel
theorem dX2_search_91 : decode cX2_search 91 = .ok (.iload_n 3, 1) := by decide +kernel
theorem dX2_search_92 : decode cX2_search 92 = .ok (.iconst 1, 1) := by decide +kernel
theorem dX2_search_93 : decode cX2_search 93 = .ok (.iadd, 1) := by decide +kernel
theorem dX2_search_94 : decode cX2_search 94 = .ok (.aload_n 0, 1) := by decide +kernel
theorem dX2_search_95 : decode cX2_search 95 = .ok (.getfield 64, 3) := by decide +kernel
theorem dX2_search_98 : decode cX2_search 98 = .ok (.iastore, 1) := by decide +kernel
theorem dX2_search_99 : decode cX2_search 99 = .ok (.iinc 3 1, 3) := by decide +kernel
theorem dX2_search_102 : decode cX2_search 102 = .ok (.goto (-56), 3) := by decide +kernel
theorem dX2_search_105 : decode cX2_search 105 = .ok (.return_, 1) := by decide +kernel
theorem dX2_expand_0 : decode cX2_expand 0 = .ok (.aload_n 0, 1) := by decide +kernel
theorem dX2_expand_1 : decode cX2_expand 1 = .ok (.iload_n 1, 1) := by decide +kernel
theorem dX2_expand_2 : decode cX2_expand 2 = .ok (.invokevirtual 94, 3) := by decide +kernel
theorem dX2_expand_5 : decode cX2_expand 5 = .ok (.aload_n 0, 1) := by decide +kernel
theorem dX2_expand_6 : decode cX2_expand 6 = .ok (.getfield 12, 3) := by decide +kernel
theorem dX2_expand_9 : decode cX2_expand 9 = .ok (.invokevirtual 97, 3) := by decide +kernel
theorem dX2_expand_12 : decode cX2_expand 12 = .ok (.istore_n 2, 1) := by decide +kernel
theorem dX2_expand_13 : decode cX2_expand 13 = .ok (.iconst 0, 1) := by decide +kernel
theorem dX2_expand_14 : decode cX2_expand 14 = .ok (.istore_n 3, 1) := by decide +kernel
theorem dX2_expand_15 : decode cX2_expand 15 = .ok (.iload_n 3, 1) := by decide +kernel
theorem dX2_expand_16 : decode cX2_expand 16 = .ok (.iload_n 2, 1) := by decide +kernel
theorem dX2_expand_17 : decode cX2_expand 17 = .ok (.if_icmp .ge 37, 3) := by decide +kernel
theorem dX2_expand_20 : decode cX2_expand 20 = .ok (.aload_n 0, 1) := by decide +kernel
theorem dX2_expand_21 : decode cX2_expand 21 = .ok (.getfield 71, 3) := by decide +kernel
theorem dX2_expand_24 : decode cX2_expand 24 = .ok (.ifCond .ne 30, 3) := by decide +kernel
theorem dX2_expand_27 : decode cX2_expand 27 = .ok (.aload_n 0, 1) := by decide +kernel
theorem dX2_expand_28 : decode cX2_expand 28 = .ok (.getfield 54, 3) := by decide +kernel
theorem dX2_expand_31 : decode cX2_expand 31 = .ok (.aload_n 0, 1) := by decide +kernel
theorem dX2_expand_32 : decode cX2_expand 32 = .ok (.getfield 12, 3) := by decide +kernel
theorem dX2_expand_35 : decode cX2_expand 35 = .ok (.iload_n 3, 1) := by decide +kernel
theorem dX2_expand_36 : decode cX2_expand 36 = .ok (.invokevirtual 100, 3) := by decide +kernel
theorem dX2_expand_39 : decode cX2_expand 39 = .ok (.ifCond .eq 9, 3) := by decide +kernel
theorem dX2_expand_42 : decode cX2_expand 42 = .ok (.aload_n 0, 1) := by decide +kernel
theorem dX2_expand_43 : decode cX2_expand 43 = .ok (.iload_n 1, 1) := by decide +kernel
theorem dX2_expand_44 : decode cX2_expand 44 = .ok (.iload_n 3, 1) := by decide +kernel
theorem dX2_expand_45 : decode cX2_expand 45 = .ok (.invokevirtual 106, 3) := by decide +kernel
theorem dX2_expand_48 : decode cX2_expand 48 = .ok (.iinc 3 1, 3) := by decide +kernel
theorem dX2_expand_51 : decode cX2_expand 51 = .ok (.goto (-36), 3) := by decide +kernel
theorem dX2_expand_54 : decode cX2_expand 54 = .ok (.return_, 1) := by decide +kernel
theorem dX2_follow_0 : decode cX2_follow 0 = .ok (.aload_n 0, 1) := by decide +kernel
theorem dX2_follow_1 : decode cX2_follow 1 = .ok (.getfield 68, 3) := by decide +kernel
theorem dX2_follow_4 : decode cX2_follow 4 = .ok (.istore_n 3, 1) := by decide +kernel
theorem dX2_follow_5 : decode cX2_follow 5 = .ok (.aload_n 0, 1) := by decide +kernel
theorem dX2_follow_6 : decode cX2_follow 6 = .ok (.getfield 12, 3) := by decide +kernel
theorem dX2_follow_9 : decode cX2_follow 9 = .ok (.iload_n 2, 1) := by decide +kernel
theorem dX2_follow_10 : decode cX2_follow 10 = .ok (.invokevirtual 110, 3) := by decide +kernel
theorem dX2_follow_13 : decode cX2_follow 13 = .ok (.istore 4, 2) := by decide +kernel
theorem dX2_follow_15 : decode cX2_follow 15 = .ok (.aload_n 0, 1) := by decide +kernel
theorem dX2_follow_16 : decode cX2_follow 16 = .ok (.getfield 18, 3) := by decide +kernel
theorem dX2_follow_19 : decode cX2_follow 19 = .ok (.iconst 3, 1) := by decide +kernel
theorem dX2_follow_20 : decode cX2_follow 20 = .ok (.iload_n 1, 1) := by decide +kernel
theorem dX2_follow_21 : decode cX2_follow 21 = .ok (.imul, 1) := by decide +kernel
theorem dX2_follow_22 : decode cX2_follow 22 = .ok (.aload_n 0, 1) := by decide +kernel
theorem dX2_follow_23 : decode cX2_follow 23 = .ok (.getfield 22, 3) := by decide +kernel
theorem dX2_follow_26 : decode cX2_follow 26 = .ok (.iconst 0, 1) := by decide +kernel
theorem dX2_follow_27 : decode cX2_follow 27 = .ok (.iconst 3, 1) := by decide +kernel
theorem dX2_follow_28 : decode cX2_follow 28 = .ok (.invokestatic 114, 3) := by decide +kernel
theorem dX2_follow_31 : decode cX2_follow 31 = .ok (.aload_n 0, 1) := by decide +kernel
theorem dX2_follow_32 : decode cX2_follow 32 = .ok (.iload_n 2, 1) := by decide +kernel
theorem dX2_follow_33 : decode cX2_follow 33 = .ok (.bipush 10, 2) := by decide +kernel
theorem dX2_follow_35 : decode cX2_follow 35 = .ok (.idiv, 1) := by decide +kernel
theorem dX2_follow_36 : decode cX2_follow 36 = .ok (.iconst (-1), 1) := by decide +kernel
theorem dX2_follow_37 : decode cX2_follow 37 = .ok (.invokevirtual 120, 3) := by decide +kernel
theorem dX2_follow_40 : decode cX2_follow 40 = .ok (.aload_n 0, 1) := by decide +kernel
theorem dX2_follow_41 : decode cX2_follow 41 = .ok (.iload 4, 2) := by decide +kernel
theorem dX2_follow_43 : decode cX2_follow 43 = .ok (.aload_n 0, 1) := by decide +kernel
theorem dX2_follow_44 : decode cX2_follow 44 = .ok (.getfield 12, 3) := by decide +kernel
theorem dX2_follow_47 : decode cX2_follow 47 = .ok (.getfield 123, 3) := by decide +kernel
theorem dX2_follow_50 : decode cX2_follow 50 = .ok (.iload_n 2, 1) := by decide +kernel
theorem dX2_follow_51 : decode cX2_follow 51 = .ok (.bipush 10, 2) := by decide +kernel
theorem dX2_follow_53 : decode cX2_follow 53 = .ok (.idiv, 1) := by decide +kernel
theorem dX2_follow_54 : decode cX2_follow 54 = .ok (.iaload, 1) := by decide +kernel
theorem dX2_follow_55 : decode cX2_follow 55 = .ok (.invokevirtual 120, 3) := by decide +kernel
theorem dX2_follow_58 : decode cX2_follow 58 = .ok (.aload_n 0, 1) := by decide +kernel
theorem dX2_follow_59 : decode cX2_follow 59 = .ok (.invokevirtual 79, 3) := by decide +kernel
theorem dX2_follow_62 : decode cX2_follow 62 = .ok (.istore 5, 2) := by decide +kernel
theorem dX2_follow_64 : decode cX2_follow 64 = .ok (.iload 5, 2) := by decide +kernel
theorem dX2_follow_66 : decode cX2_follow 66 = .ok (.iconst (-1), 1) := by decide +kernel
theorem dX2_follow_67 : decode cX2_follow 67 = .ok (.if_icmp .ne 9, 3) := by decide +kernel
theorem dX2_follow_70 : decode cX2_follow 70 = .ok (.aload_n 0, 1) := by decide +kernel
theorem dX2_follow_71 : decode cX2_follow 71 = .ok (.iconst 1, 1) := by decide +kernel
theorem dX2_follow_72 : decode cX2_follow 72 = .ok (.putfield 71, 3) := by decide +kernel
theorem dX2_follow_75 : decode cX2_follow 75 = .ok (.return_, 1) := by decide +kernel
theorem dX2_follow_76 : decode cX2_follow 76 = .ok (.aload_n 0, 1) := by decide +kernel
theorem dX2_follow_77 : decode cX2_follow 77 = .ok (.getfield 68, 3) := by decide +kernel
theorem dX2_follow_80 : decode cX2_follow 80 = .ok (.iload_n 3, 1) := by decide +kernel
theorem dX2_follow_81 : decode cX2_follow 81 = .ok (.if_icmp .le 17, 3) := by decide +kernel
theorem dX2_follow_84 : decode cX2_follow 84 = .ok (.aload_n 0, 1) := by decide +kernel
theorem dX2_follow_85 : decode cX2_follow 85 = .ok (.iload 5, 2) := by decide +kernel
theorem dX2_follow_87 : decode cX2_follow 87 = .ok (.iload_n 1, 1) := by decide +kernel
theorem dX2_follow_88 : decode cX2_follow 88 = .ok (.iload_n 2, 1) := by decide +kernel
theorem dX2_follow_89 : decode cX2_follow 89 = .ok (.iload 4, 2) := by decide +kernel
theorem dX2_follow_91 : decode cX2_follow 91 = .ok (.iconst 3, 1) := by decide +kernel
theorem dX2_follow_92 : decode cX2_follow 92 = .ok (.idiv, 1) := by decide +kernel
theorem dX2_follow_93 : decode cX2_follow 93 = .ok (.iconst 1, 1) := by decide +kernel
theorem dX2_follow_94 : decode cX2_follow 94 = .ok (.iadd, 1) := by decide +kernel
theorem dX2_follow_95 : decode cX2_follow 95 = .ok (.invokevirtual 86, 3) := by decide +kernel
theorem dX2_follow_98 : decode cX2_follow 98 = .ok (.aload_n 0, 1) := by decide +kernel
theorem dX2_follow_99 : decode cX2_follow 99 = .ok (.getfield 64, 3) := by decide +kernel
theorem dX2_follow_102 : decode cX2_follow 102 = .ok (.aload_n 0, 1) := by decide +kernel
theorem dX2_follow_103 : decode cX2_follow 103 = .ok (.getfield 48, 3) := by decide +kernel
theorem dX2_follow_106 : decode cX2_follow 106 = .ok (.arraylength, 1) := by decide +kernel
theorem dX2_follow_107 : decode cX2_follow 107 = .ok (.if_icmp .ge 27, 3) := by decide +kernel
theorem dX2_follow_110 : decode cX2_follow 110 = .ok (.aload_n 0, 1) := by decide +kernel
theorem dX2_follow_111 : decode cX2_follow 111 = .ok (.getfield 48, 3) := by decide +kernel
theorem dX2_follow_114 : decode cX2_follow 114 = .ok (.aload_n 0, 1) := by decide +kernel
theorem dX2_follow_115 : decode cX2_follow 115 = .ok (.dup, 1) := by decide +kernel
theorem dX2_follow_116 : decode cX2_follow 116 = .ok (.getfield 64, 3) := by decide +kernel
theorem dX2_follow_119 : decode cX2_follow 119 = .ok (.dup_x1, 1) := by decide +kernel
theorem dX2_follow_120 : decode cX2_follow 120 = .ok (.iconst 1, 1) := by decide +kernel
theorem dX2_follow_121 : decode cX2_follow 121 = .ok (.iadd, 1) := by decide +kernel
theorem dX2_follow_122 : decode cX2_follow 122 = .ok (.putfield 64, 3) := by decide +kernel
theorem dX2_follow_125 : decode cX2_follow 125 = .ok (.iload_n 2, 1) := by decide +kernel
theorem dX2_follow_126 : decode cX2_follow 126 = .ok (.sipush 1024, 3) := by decide +kernel
theorem dX2_follow_129 : decode cX2_follow 129 = .ok (.imul, 1) := by decide +kernel
theorem dX2_follow_130 : decode cX2_follow 130 = .ok (.iload 5, 2) := by decide +kernel
theorem dX2_follow_132 : decode cX2_follow 132 = .ok (.iadd, 1) := by decide +kernel
theorem dX2_follow_133 : decode cX2_follow 133 = .ok (.iastore, 1) := by decide +kernel
theorem dX2_follow_134 : decode cX2_follow 134 = .ok (.return_, 1) := by decide +kernel
theorem dX2_noteOrigin_0 : decode cX2_noteOrigin 0 = .ok (.aload_n 0, 1) := by decide +kernel
theorem dX2_noteOrigin_1 : decode cX2_noteOrigin 1 = .ok (.getfield 29, 3) := by decide +kernel
theorem dX2_noteOrigin_4 : decode cX2_noteOrigin 4 = .ok (.iload_n 1, 1) := by decide +kernel
theorem dX2_noteOrigin_5 : decode cX2_noteOrigin 5 = .ok (.iload_n 2, 1) := by decide +kernel
theorem dX2_noteOrigin_6 : decode cX2_noteOrigin 6 = .ok (.iastore, 1) := by decide +kernel
theorem dX2_noteOrigin_7 : decode cX2_noteOrigin 7 = .ok (.aload_n 0, 1) := by decide +kernel
theorem dX2_noteOrigin_8 : decode cX2_noteOrigin 8 = .ok (.getfield 32, 3) := by decide +kernel
theorem dX2_noteOrigin_11 : decode cX2_noteOrigin 11 = .ok (.iload_n 1, 1) := by decide +kernel
theorem dX2_noteOrigin_12 : decode cX2_noteOrigin 12 = .ok (.iload_n 3, 1) := by decide +kernel
theorem dX2_noteOrigin_13 : decode cX2_noteOrigin 13 = .ok (.iastore, 1) := by decide +kernel
theorem dX2_noteOrigin_14 : decode cX2_noteOrigin 14 = .ok (.aload_n 0, 1) := by decide +kernel
theorem dX2_noteOrigin_15 : decode cX2_noteOrigin 15 = .ok (.getfield 35, 3) := by decide +kernel
theorem dX2_noteOrigin_18 : decode cX2_noteOrigin 18 = .ok (.iload_n 1, 1) := by decide +kernel
theorem dX2_noteOrigin_19 : decode cX2_noteOrigin 19 = .ok (.iload_n 2, 1) := by decide +kernel
theorem dX2_noteOrigin_20 : decode cX2_noteOrigin 20 = .ok (.iconst (-1), 1) := by decide +kernel
theorem dX2_noteOrigin_21 : decode cX2_noteOrigin 21 = .ok (.if_icmp .ne 7, 3) := by decide +kernel
theorem dX2_noteOrigin_24 : decode cX2_noteOrigin 24 = .ok (.iconst 0, 1) := by decide +kernel
theorem dX2_noteOrigin_25 : decode cX2_noteOrigin 25 = .ok (.goto 11, 3) := by decide +kernel
theorem dX2_noteOrigin_28 : decode cX2_noteOrigin 28 = .ok (.aload_n 0, 1) := by decide +kernel
theorem dX2_noteOrigin_29 : decode cX2_noteOrigin 29 = .ok (.getfield 35, 3) := by decide +kernel
theorem dX2_noteOrigin_32 : decode cX2_noteOrigin 32 = .ok (.iload_n 2, 1) := by decide +kernel
theorem dX2_noteOrigin_33 : decode cX2_noteOrigin 33 = .ok (.iaload, 1) := by decide +kernel
theorem dX2_noteOrigin_34 : decode cX2_noteOrigin 34 = .ok (.iconst 1, 1) := by decide +kernel
theorem dX2_noteOrigin_35 : decode cX2_noteOrigin 35 = .ok (.iadd, 1) := by decide +kernel
theorem dX2_noteOrigin_36 : decode cX2_noteOrigin 36 = .ok (.iastore, 1) := by decide +kernel
theorem dX2_noteOrigin_37 : decode cX2_noteOrigin 37 = .ok (.aload_n 0, 1) := by decide +kernel
theorem dX2_noteOrigin_38 : decode cX2_noteOrigin 38 = .ok (.getfield 38, 3) := by decide +kernel
theorem dX2_noteOrigin_41 : decode cX2_noteOrigin 41 = .ok (.iload_n 1, 1) := by decide +kernel
theorem dX2_noteOrigin_42 : decode cX2_noteOrigin 42 = .ok (.iload 4, 2) := by decide +kernel
theorem dX2_noteOrigin_44 : decode cX2_noteOrigin 44 = .ok (.iastore, 1) := by decide +kernel
theorem dX2_noteOrigin_45 : decode cX2_noteOrigin 45 = .ok (.return_, 1) := by decide +kernel
theorem dX2_packKey_0 : decode cX2_packKey 0 = .ok (.aload_n 0, 1) := by decide +kernel
theorem dX2_packKey_1 : decode cX2_packKey 1 = .ok (.getfield 22, 3) := by decide +kernel
theorem dX2_packKey_4 : decode cX2_packKey 4 = .ok (.lconst 0, 1) := by decide +kernel
theorem dX2_packKey_5 : decode cX2_packKey 5 = .ok (.invokestatic 126, 3) := by decide +kernel
theorem dX2_packKey_8 : decode cX2_packKey 8 = .ok (.iconst 0, 1) := by decide +kernel
theorem dX2_packKey_9 : decode cX2_packKey 9 = .ok (.istore_n 2, 1) := by decide +kernel
theorem dX2_packKey_10 : decode cX2_packKey 10 = .ok (.iload_n 2, 1) := by decide +kernel
theorem dX2_packKey_11 : decode cX2_packKey 11 = .ok (.bipush 48, 2) := by decide +kernel
theorem dX2_packKey_13 : decode cX2_packKey 13 = .ok (.if_icmp .ge 20, 3) := by decide +kernel
theorem dX2_packKey_16 : decode cX2_packKey 16 = .ok (.aload_n 0, 1) := by decide +kernel
theorem dX2_packKey_17 : decode cX2_packKey 17 = .ok (.iload_n 2, 1) := by decide +kernel
theorem dX2_packKey_18 : decode cX2_packKey 18 = .ok (.aload_n 1, 1) := by decide +kernel
theorem dX2_packKey_19 : decode cX2_packKey 19 = .ok (.getfield 123, 3) := by decide +kernel
theorem dX2_packKey_22 : decode cX2_packKey 22 = .ok (.iload_n 2, 1) := by decide +kernel
theorem dX2_packKey_23 : decode cX2_packKey 23 = .ok (.iaload, 1) := by decide +kernel
theorem dX2_packKey_24 : decode cX2_packKey 24 = .ok (.invokevirtual 120, 3) := by decide +kernel
theorem dX2_packKey_27 : decode cX2_packKey 27 = .ok (.iinc 2 1, 3) := by decide +kernel
theorem dX2_packKey_30 : decode cX2_packKey 30 = .ok (.goto (-20), 3) := by decide +kernel
theorem dX2_packKey_33 : decode cX2_packKey 33 = .ok (.return_, 1) := by decide +kernel
theorem dX2_setInKey_0 : decode cX2_setInKey 0 = .ok (.iconst 4, 1) := by decide +kernel
theorem dX2_setInKey_1 : decode cX2_setInKey 1 = .ok (.iload_n 1, 1) := by decide +kernel
theorem dX2_setInKey_2 : decode cX2_setInKey 2 = .ok (.bipush 16, 2) := by decide +kernel
theorem dX2_setInKey_4 : decode cX2_setInKey 4 = .ok (.irem, 1) := by decide +kernel
theorem dX2_setInKey_5 : decode cX2_setInKey 5 = .ok (.imul, 1) := by decide +kernel
theorem dX2_setInKey_6 : decode cX2_setInKey 6 = .ok (.istore_n 3, 1) := by decide +kernel
theorem dX2_setInKey_7 : decode cX2_setInKey 7 = .ok (.iload_n 1, 1) := by decide +kernel
theorem dX2_setInKey_8 : decode cX2_setInKey 8 = .ok (.bipush 16, 2) := by decide +kernel
theorem dX2_setInKey_10 : decode cX2_setInKey 10 = .ok (.idiv, 1) := by decide +kernel
theorem dX2_setInKey_11 : decode cX2_setInKey 11 = .ok (.istore 4, 2) := by decide +kernel
theorem dX2_setInKey_13 : decode cX2_setInKey 13 = .ok (.aload_n 0, 1) := by decide +kernel
theorem dX2_setInKey_14 : decode cX2_setInKey 14 = .ok (.getfield 22, 3) := by decide +kernel
theorem dX2_setInKey_17 : decode cX2_setInKey 17 = .ok (.iload 4, 2) := by decide +kernel
theorem dX2_setInKey_19 : decode cX2_setInKey 19 = .ok (.aload_n 0, 1) := by decide +kernel
theorem dX2_setInKey_20 : decode cX2_setInKey 20 = .ok (.getfield 22, 3) := by decide +kernel
theorem dX2_setInKey_23 : decode cX2_setInKey 23 = .ok (.iload 4, 2) := by decide +kernel
theorem dX2_setInKey_25 : decode cX2_setInKey 25 = .ok (.laload, 1) := by decide +kernel
theorem dX2_setInKey_26 : decode cX2_setInKey 26 = .ok (.ldc2_w 129, 3) := by decide +kernel
theorem dX2_setInKey_29 : decode cX2_setInKey 29 = .ok (.iload_n 3, 1) := by decide +kernel
theorem dX2_setInKey_30 : decode cX2_setInKey 30 = .ok (.lshl, 1) := by decide +kernel
theorem dX2_setInKey_31 : decode cX2_setInKey 31 = .ok (.ldc2_w 131, 3) := by decide +kernel
theorem dX2_setInKey_34 : decode cX2_setInKey 34 = .ok (.lxor, 1) := by decide +kernel
theorem dX2_setInKey_35 : decode cX2_setInKey 35 = .ok (.land, 1) := by decide +kernel
theorem dX2_setInKey_36 : decode cX2_setInKey 36 = .ok (.iload_n 2, 1) := by decide +kernel
theorem dX2_setInKey_37 : decode cX2_setInKey 37 = .ok (.iconst 1, 1) := by decide +kernel
theorem dX2_setInKey_38 : decode cX2_setInKey 38 = .ok (.iadd, 1) := by decide +kernel
theorem dX2_setInKey_39 : decode cX2_setInKey 39 = .ok (.i2l, 1) := by decide +kernel
theorem dX2_setInKey_40 : decode cX2_setInKey 40 = .ok (.iload_n 3, 1) := by decide +kernel
theorem dX2_setInKey_41 : decode cX2_setInKey 41 = .ok (.lshl, 1) := by decide +kernel
theorem dX2_setInKey_42 : decode cX2_setInKey 42 = .ok (.lor, 1) := by decide +kernel
theorem dX2_setInKey_43 : decode cX2_setInKey 43 = .ok (.lastore, 1) := by decide +kernel
theorem dX2_setInKey_44 : decode cX2_setInKey 44 = .ok (.return_, 1) := by decide +kernel
theorem dX2_thicknessIn_0 : decode cX2_thicknessIn 0 = .ok (.aload_n 0, 1) := by decide +kernel
theorem dX2_thicknessIn_1 : decode cX2_thicknessIn 1 = .ok (.getfield 18, 3) := by decide +kernel
theorem dX2_thicknessIn_4 : decode cX2_thicknessIn 4 = .ok (.iconst 3, 1) := by decide +kernel
theorem dX2_thicknessIn_5 : decode cX2_thicknessIn 5 = .ok (.iload_n 1, 1) := by decide +kernel
theorem dX2_thicknessIn_6 : decode cX2_thicknessIn 6 = .ok (.imul, 1) := by decide +kernel
theorem dX2_thicknessIn_7 : decode cX2_thicknessIn 7 = .ok (.iload_n 2, 1) := by decide +kernel
theorem dX2_thicknessIn_8 : decode cX2_thicknessIn 8 = .ok (.bipush 16, 2) := by decide +kernel
theorem dX2_thicknessIn_10 : decode cX2_thicknessIn 10 = .ok (.idiv, 1) := by decide +kernel
theorem dX2_thicknessIn_11 : decode cX2_thicknessIn 11 = .ok (.iadd, 1) := by decide +kernel
theorem dX2_thicknessIn_12 : decode cX2_thicknessIn 12 = .ok (.laload, 1) := by decide +kernel
theorem dX2_thicknessIn_13 : decode cX2_thicknessIn 13 = .ok (.iconst 4, 1) := by decide +kernel
theorem dX2_thicknessIn_14 : decode cX2_thicknessIn 14 = .ok (.iload_n 2, 1) := by decide +kernel
theorem dX2_thicknessIn_15 : decode cX2_thicknessIn 15 = .ok (.bipush 16, 2) := by decide +kernel
theorem dX2_thicknessIn_17 : decode cX2_thicknessIn 17 = .ok (.irem, 1) := by decide +kernel
theorem dX2_thicknessIn_18 : decode cX2_thicknessIn 18 = .ok (.imul, 1) := by decide +kernel
theorem dX2_thicknessIn_19 : decode cX2_thicknessIn 19 = .ok (.lushr, 1) := by decide +kernel
theorem dX2_thicknessIn_20 : decode cX2_thicknessIn 20 = .ok (.ldc2_w 129, 3) := by decide +kernel
theorem dX2_thicknessIn_23 : decode cX2_thicknessIn 23 = .ok (.land, 1) := by decide +kernel
theorem dX2_thicknessIn_24 : decode cX2_thicknessIn 24 = .ok (.l2i, 1) := by decide +kernel
theorem dX2_thicknessIn_25 : decode cX2_thicknessIn 25 = .ok (.iconst 1, 1) := by decide +kernel
theorem dX2_thicknessIn_26 : decode cX2_thicknessIn 26 = .ok (.isub, 1) := by decide +kernel
theorem dX2_thicknessIn_27 : decode cX2_thicknessIn 27 = .ok (.ireturn, 1) := by decide +kernel
theorem dX2_unpack_0 : decode cX2_unpack 0 = .ok (.aload_n 0, 1) := by decide +kernel
theorem dX2_unpack_1 : decode cX2_unpack 1 = .ok (.getfield 12, 3) := by decide +kernel
theorem dX2_unpack_4 : decode cX2_unpack 4 = .ok (.invokevirtual 133, 3) := by decide +kernel
theorem dX2_unpack_7 : decode cX2_unpack 7 = .ok (.iconst 0, 1) := by decide +kernel
theorem dX2_unpack_8 : decode cX2_unpack 8 = .ok (.istore_n 2, 1) := by decide +kernel
theorem dX2_unpack_9 : decode cX2_unpack 9 = .ok (.iload_n 2, 1) := by decide +kernel
theorem dX2_unpack_10 : decode cX2_unpack 10 = .ok (.iconst 3, 1) := by decide +kernel
theorem dX2_unpack_11 : decode cX2_unpack 11 = .ok (.aload_n 0, 1) := by decide +kernel
theorem dX2_unpack_12 : decode cX2_unpack 12 = .ok (.getfield 38, 3) := by decide +kernel
theorem dX2_unpack_15 : decode cX2_unpack 15 = .ok (.iload_n 1, 1) := by decide +kernel
theorem dX2_unpack_16 : decode cX2_unpack 16 = .ok (.iaload, 1) := by decide +kernel
theorem dX2_unpack_17 : decode cX2_unpack 17 = .ok (.imul, 1) := by decide +kernel
theorem dX2_unpack_18 : decode cX2_unpack 18 = .ok (.if_icmp .ge 30, 3) := by decide +kernel
theorem dX2_unpack_21 : decode cX2_unpack 21 = .ok (.aload_n 0, 1) := by decide +kernel
theorem dX2_unpack_22 : decode cX2_unpack 22 = .ok (.iload_n 1, 1) := by decide +kernel
theorem dX2_unpack_23 : decode cX2_unpack 23 = .ok (.iload_n 2, 1) := by decide +kernel
theorem dX2_unpack_24 : decode cX2_unpack 24 = .ok (.invokevirtual 136, 3) := by decide +kernel
theorem dX2_unpack_27 : decode cX2_unpack 27 = .ok (.istore_n 3, 1) := by decide +kernel
theorem dX2_unpack_28 : decode cX2_unpack 28 = .ok (.iload_n 3, 1) := by decide +kernel
theorem dX2_unpack_29 : decode cX2_unpack 29 = .ok (.iconst (-1), 1) := by decide +kernel
theorem dX2_unpack_30 : decode cX2_unpack 30 = .ok (.if_icmp .eq 12, 3) := by decide +kernel
theorem dX2_unpack_33 : decode cX2_unpack 33 = .ok (.aload_n 0, 1) := by decide +kernel
theorem dX2_unpack_34 : decode cX2_unpack 34 = .ok (.getfield 12, 3) := by decide +kernel
theorem dX2_unpack_37 : decode cX2_unpack 37 = .ok (.iload_n 2, 1) := by decide +kernel
theorem dX2_unpack_38 : decode cX2_unpack 38 = .ok (.iload_n 3, 1) := by decide +kernel
theorem dX2_unpack_39 : decode cX2_unpack 39 = .ok (.invokevirtual 140, 3) := by decide +kernel
theorem dX2_unpack_42 : decode cX2_unpack 42 = .ok (.iinc 2 1, 3) := by decide +kernel
theorem dX2_unpack_45 : decode cX2_unpack 45 = .ok (.goto (-36), 3) := by decide +kernel
theorem dX2_unpack_48 : decode cX2_unpack 48 = .ok (.return_, 1) := by decide +kernel
theorem dX2_nodeOfKey_0 : decode cX2_nodeOfKey 0 = .ok (.aload_n 0, 1) := by decide +kernel
theorem dX2_nodeOfKey_1 : decode cX2_nodeOfKey 1 = .ok (.invokevirtual 143, 3) := by decide +kernel
theorem dX2_nodeOfKey_4 : decode cX2_nodeOfKey 4 = .ok (.istore_n 1, 1) := by decide +kernel
theorem dX2_nodeOfKey_5 : decode cX2_nodeOfKey 5 = .ok (.iconst 0, 1) := by decide +kernel
theorem dX2_nodeOfKey_6 : decode cX2_nodeOfKey 6 = .ok (.istore_n 2, 1) := by decide +kernel
theorem dX2_nodeOfKey_7 : decode cX2_nodeOfKey 7 = .ok (.iload_n 2, 1) := by decide +kernel
theorem dX2_nodeOfKey_8 : decode cX2_nodeOfKey 8 = .ok (.sipush 1024, 3) := by decide +kernel
theorem dX2_nodeOfKey_11 : decode cX2_nodeOfKey 11 = .ok (.if_icmp .ge 50, 3) := by decide +kernel
theorem dX2_nodeOfKey_14 : decode cX2_nodeOfKey 14 = .ok (.aload_n 0, 1) := by decide +kernel
theorem dX2_nodeOfKey_15 : decode cX2_nodeOfKey 15 = .ok (.getfield 25, 3) := by decide +kernel
theorem dX2_nodeOfKey_18 : decode cX2_nodeOfKey 18 = .ok (.iload_n 1, 1) := by decide +kernel
theorem dX2_nodeOfKey_19 : decode cX2_nodeOfKey 19 = .ok (.iaload, 1) := by decide +kernel
theorem dX2_nodeOfKey_20 : decode cX2_nodeOfKey 20 = .ok (.ifCond .eq 41, 3) := by decide +kernel
theorem dX2_nodeOfKey_23 : decode cX2_nodeOfKey 23 = .ok (.aload_n 0, 1) := by decide +kernel
theorem dX2_nodeOfKey_24 : decode cX2_nodeOfKey 24 = .ok (.aload_n 0, 1) := by decide +kernel
theorem dX2_nodeOfKey_25 : decode cX2_nodeOfKey 25 = .ok (.getfield 25, 3) := by decide +kernel
theorem dX2_nodeOfKey_28 : decode cX2_nodeOfKey 28 = .ok (.iload_n 1, 1) := by decide +kernel
theorem dX2_nodeOfKey_29 : decode cX2_nodeOfKey 29 = .ok (.iaload, 1) := by decide +kernel
theorem dX2_nodeOfKey_30 : decode cX2_nodeOfKey 30 = .ok (.iconst 1, 1) := by decide +kernel
theorem dX2_nodeOfKey_31 : decode cX2_nodeOfKey 31 = .ok (.isub, 1) := by decide +kernel
theorem dX2_nodeOfKey_32 : decode cX2_nodeOfKey 32 = .ok (.invokevirtual 146, 3) := by decide +kernel
theorem dX2_nodeOfKey_35 : decode cX2_nodeOfKey 35 = .ok (.ifCond .eq 12, 3) := by decide +kernel
theorem dX2_nodeOfKey_38 : decode cX2_nodeOfKey 38 = .ok (.aload_n 0, 1) := by decide +kernel
theorem dX2_nodeOfKey_39 : decode cX2_nodeOfKey 39 = .ok (.getfield 25, 3) := by decide +kernel
theorem dX2_nodeOfKey_42 : decode cX2_nodeOfKey 42 = .ok (.iload_n 1, 1) := by decide +kernel
theorem dX2_nodeOfKey_43 : decode cX2_nodeOfKey 43 = .ok (.iaload, 1) := by decide +kernel
theorem dX2_nodeOfKey_44 : decode cX2_nodeOfKey 44 = .ok (.iconst 1, 1) := by decide +kernel
theorem dX2_nodeOfKey_45 : decode cX2_nodeOfKey 45 = .ok (.isub, 1) := by decide +kernel
theorem dX2_nodeOfKey_46 : decode cX2_nodeOfKey 46 = .ok (.ireturn, 1) := by decide +kernel
theorem dX2_nodeOfKey_47 : decode cX2_nodeOfKey 47 = .ok (.iload_n 1, 1) := by decide +kernel
theorem dX2_nodeOfKey_48 : decode cX2_nodeOfKey 48 = .ok (.iconst 1, 1) := by decide +kernel
theorem dX2_nodeOfKey_49 : decode cX2_nodeOfKey 49 = .ok (.iadd, 1) := by decide +kernel
theorem dX2_nodeOfKey_50 : decode cX2_nodeOfKey 50 = .ok (.sipush 1024, 3) := by decide +kernel
theorem dX2_nodeOfKey_53 : decode cX2_nodeOfKey 53 = .ok (.irem, 1) := by decide +kernel
theorem dX2_nodeOfKey_54 : decode cX2_nodeOfKey 54 = .ok (.istore_n 1, 1) := by decide +kernel
theorem dX2_nodeOfKey_55 : decode cX2_nodeOfKey 55 = .ok (.iinc 2 1, 3) := by decide +kernel
theorem dX2_nodeOfKey_58 : decode cX2_nodeOfKey 58 = .ok (.goto (-51), 3) := by decide +kernel
theorem dX2_nodeOfKey_61 : decode cX2_nodeOfKey 61 = .ok (.aload_n 0, 1) := by decide +kernel
theorem dX2_nodeOfKey_62 : decode cX2_nodeOfKey 62 = .ok (.getfield 68, 3) := by decide +kernel
theorem dX2_nodeOfKey_65 : decode cX2_nodeOfKey 65 = .ok (.sipush 400, 3) := by decide +kernel
theorem dX2_nodeOfKey_68 : decode cX2_nodeOfKey 68 = .ok (.if_icmp .lt 5, 3) := by decide +kernel
theorem dX2_nodeOfKey_71 : decode cX2_nodeOfKey 71 = .ok (.iconst (-1), 1) := by decide +kernel
theorem dX2_nodeOfKey_72 : decode cX2_nodeOfKey 72 = .ok (.ireturn, 1) := by decide +kernel
theorem dX2_nodeOfKey_73 : decode cX2_nodeOfKey 73 = .ok (.aload_n 0, 1) := by decide +kernel
theorem dX2_nodeOfKey_74 : decode cX2_nodeOfKey 74 = .ok (.getfield 22, 3) := by decide +kernel
theorem dX2_nodeOfKey_77 : decode cX2_nodeOfKey 77 = .ok (.iconst 0, 1) := by decide +kernel
theorem dX2_nodeOfKey_78 : decode cX2_nodeOfKey 78 = .ok (.aload_n 0, 1) := by decide +kernel
theorem dX2_nodeOfKey_79 : decode cX2_nodeOfKey 79 = .ok (.getfield 18, 3) := by decide +kernel
theorem dX2_nodeOfKey_82 : decode cX2_nodeOfKey 82 = .ok (.iconst 3, 1) := by decide +kernel
theorem dX2_nodeOfKey_83 : decode cX2_nodeOfKey 83 = .ok (.aload_n 0, 1) := by decide +kernel
theorem dX2_nodeOfKey_84 : decode cX2_nodeOfKey 84 = .ok (.getfield 68, 3) := by decide +kernel
theorem dX2_nodeOfKey_87 : decode cX2_nodeOfKey 87 = .ok (.imul, 1) := by decide +kernel
theorem dX2_nodeOfKey_88 : decode cX2_nodeOfKey 88 = .ok (.iconst 3, 1) := by decide +kernel
theorem dX2_nodeOfKey_89 : decode cX2_nodeOfKey 89 = .ok (.invokestatic 114, 3) := by decide +kernel
theorem dX2_nodeOfKey_92 : decode cX2_nodeOfKey 92 = .ok (.aload_n 0, 1) := by decide +kernel
theorem dX2_nodeOfKey_93 : decode cX2_nodeOfKey 93 = .ok (.getfield 25, 3) := by decide +kernel
theorem dX2_nodeOfKey_96 : decode cX2_nodeOfKey 96 = .ok (.iload_n 1, 1) := by decide +kernel
theorem dX2_nodeOfKey_97 : decode cX2_nodeOfKey 97 = .ok (.aload_n 0, 1) := by decide +kernel
theorem dX2_nodeOfKey_98 : decode cX2_nodeOfKey 98 = .ok (.getfield 68, 3) := by decide +kernel
theorem dX2_nodeOfKey_101 : decode cX2_nodeOfKey 101 = .ok (.iconst 1, 1) := by decide +kernel
theorem dX2_nodeOfKey_102 : decode cX2_nodeOfKey 102 = .ok (.iadd, 1) := by decide +kernel
theorem dX2_nodeOfKey_103 : decode cX2_nodeOfKey 103 = .ok (.iastore, 1) := by decide +kernel
theorem dX2_nodeOfKey_104 : decode cX2_nodeOfKey 104 = .ok (.aload_n 0, 1) := by decide +kernel
theorem dX2_nodeOfKey_105 : decode cX2_nodeOfKey 105 = .ok (.dup, 1) := by decide +kernel
theorem dX2_nodeOfKey_106 : decode cX2_nodeOfKey 106 = .ok (.getfield 68, 3) := by decide +kernel
theorem dX2_nodeOfKey_109 : decode cX2_nodeOfKey 109 = .ok (.dup_x1, 1) := by decide +kernel
theorem dX2_nodeOfKey_110 : decode cX2_nodeOfKey 110 = .ok (.iconst 1, 1) := by decide +kernel
theorem dX2_nodeOfKey_111 : decode cX2_nodeOfKey 111 = .ok (.iadd, 1) := by decide +kernel
theorem dX2_nodeOfKey_112 : decode cX2_nodeOfKey 112 = .ok (.putfield 68, 3) := by decide +kernel
theorem dX2_nodeOfKey_115 : decode cX2_nodeOfKey 115 = .ok (.ireturn, 1) := by decide +kernel
theorem dX2_slotOfKey_0 : decode cX2_slotOfKey 0 = .ok (.lconst 0, 1) := by decide +kernel
theorem dX2_slotOfKey_1 : decode cX2_slotOfKey 1 = .ok (.lstore_n 1, 1) := by decide +kernel
theorem dX2_slotOfKey_2 : decode cX2_slotOfKey 2 = .ok (.iconst 0, 1) := by decide +kernel
theorem dX2_slotOfKey_3 : decode cX2_slotOfKey 3 = .ok (.istore_n 3, 1) := by decide +kernel
theorem dX2_slotOfKey_4 : decode cX2_slotOfKey 4 = .ok (.iload_n 3, 1) := by decide +kernel
theorem dX2_slotOfKey_5 : decode cX2_slotOfKey 5 = .ok (.iconst 3, 1) := by decide +kernel
theorem dX2_slotOfKey_6 : decode cX2_slotOfKey 6 = .ok (.if_icmp .ge 29, 3) := by decide +kernel
theorem dX2_slotOfKey_9 : decode cX2_slotOfKey 9 = .ok (.lload_n 1, 1) := by decide +kernel
theorem dX2_slotOfKey_10 : decode cX2_slotOfKey 10 = .ok (.aload_n 0, 1) := by decide +kernel
theorem dX2_slotOfKey_11 : decode cX2_slotOfKey 11 = .ok (.getfield 22, 3) := by decide +kernel
theorem dX2_slotOfKey_14 : decode cX2_slotOfKey 14 = .ok (.iload_n 3, 1) := by decide +kernel
theorem dX2_slotOfKey_15 : decode cX2_slotOfKey 15 = .ok (.laload, 1) := by decide +kernel
theorem dX2_slotOfKey_16 : decode cX2_slotOfKey 16 = .ok (.lxor, 1) := by decide +kernel
theorem dX2_slotOfKey_17 : decode cX2_slotOfKey 17 = .ok (.ldc2_w 150, 3) := by decide +kernel
theorem dX2_slotOfKey_20 : decode cX2_slotOfKey 20 = .ok (.lmul, 1) := by decide +kernel
theorem dX2_slotOfKey_21 : decode cX2_slotOfKey 21 = .ok (.lstore_n 1, 1) := by decide +kernel
theorem dX2_slotOfKey_22 : decode cX2_slotOfKey 22 = .ok (.lload_n 1, 1) := by decide +kernel
theorem dX2_slotOfKey_23 : decode cX2_slotOfKey 23 = .ok (.lload_n 1, 1) := by decide +kernel
theorem dX2_slotOfKey_24 : decode cX2_slotOfKey 24 = .ok (.bipush 29, 2) := by decide +kernel
theorem dX2_slotOfKey_26 : decode cX2_slotOfKey 26 = .ok (.lushr, 1) := by decide +kernel
theorem dX2_slotOfKey_27 : decode cX2_slotOfKey 27 = .ok (.lxor, 1) := by decide +kernel
theorem dX2_slotOfKey_28 : decode cX2_slotOfKey 28 = .ok (.lstore_n 1, 1) := by decide +kernel
theorem dX2_slotOfKey_29 : decode cX2_slotOfKey 29 = .ok (.iinc 3 1, 3) := by decide +kernel
theorem dX2_slotOfKey_32 : decode cX2_slotOfKey 32 = .ok (.goto (-28), 3) := by decide +kernel
theorem dX2_slotOfKey_35 : decode cX2_slotOfKey 35 = .ok (.lload_n 1, 1) := by decide +kernel
theorem dX2_slotOfKey_36 : decode cX2_slotOfKey 36 = .ok (.bipush 32, 2) := by decide +kernel
theorem dX2_slotOfKey_38 : decode cX2_slotOfKey 38 = .ok (.lushr, 1) := by decide +kernel
theorem dX2_slotOfKey_39 : decode cX2_slotOfKey 39 = .ok (.l2i, 1) := by decide +kernel
theorem dX2_slotOfKey_40 : decode cX2_slotOfKey 40 = .ok (.sipush 1023, 3) := by decide +kernel
theorem dX2_slotOfKey_43 : decode cX2_slotOfKey 43 = .ok (.iand, 1) := by decide +kernel
theorem dX2_slotOfKey_44 : decode cX2_slotOfKey 44 = .ok (.ireturn, 1) := by decide +kernel
theorem dX2_hasKey_0 : decode cX2_hasKey 0 = .ok (.iconst 0, 1) := by decide +kernel
theorem dX2_hasKey_1 : decode cX2_hasKey 1 = .ok (.istore_n 2, 1) := by decide +kernel
theorem dX2_hasKey_2 : decode cX2_hasKey 2 = .ok (.iload_n 2, 1) := by decide +kernel
theorem dX2_hasKey_3 : decode cX2_hasKey 3 = .ok (.iconst 3, 1) := by decide +kernel
theorem dX2_hasKey_4 : decode cX2_hasKey 4 = .ok (.if_icmp .ge 31, 3) := by decide +kernel
theorem dX2_hasKey_7 : decode cX2_hasKey 7 = .ok (.aload_n 0, 1) := by decide +kernel
theorem dX2_hasKey_8 : decode cX2_hasKey 8 = .ok (.getfield 18, 3) := by decide +kernel
theorem dX2_hasKey_11 : decode cX2_hasKey 11 = .ok (.iconst 3, 1) := by decide +kernel
theorem dX2_hasKey_12 : decode cX2_hasKey 12 = .ok (.iload_n 1, 1) := by decide +kernel
theorem dX2_hasKey_13 : decode cX2_hasKey 13 = .ok (.imul, 1) := by decide +kernel
theorem dX2_hasKey_14 : decode cX2_hasKey 14 = .ok (.iload_n 2, 1) := by decide +kernel
theorem dX2_hasKey_15 : decode cX2_hasKey 15 = .ok (.iadd, 1) := by decide +kernel
theorem dX2_hasKey_16 : decode cX2_hasKey 16 = .ok (.laload, 1) := by decide +kernel
theorem dX2_hasKey_17 : decode cX2_hasKey 17 = .ok (.aload_n 0, 1) := by decide +kernel
theorem dX2_hasKey_18 : decode cX2_hasKey 18 = .ok (.getfield 22, 3) := by decide +kernel
theorem dX2_hasKey_21 : decode cX2_hasKey 21 = .ok (.iload_n 2, 1) := by decide +kernel
theorem dX2_hasKey_22 : decode cX2_hasKey 22 = .ok (.laload, 1) := by decide +kernel
theorem dX2_hasKey_23 : decode cX2_hasKey 23 = .ok (.lcmp, 1) := by decide +kernel
theorem dX2_hasKey_24 : decode cX2_hasKey 24 = .ok (.ifCond .eq 5, 3) := by decide +kernel
theorem dX2_hasKey_27 : decode cX2_hasKey 27 = .ok (.iconst 0, 1) := by decide +kernel
theorem dX2_hasKey_28 : decode cX2_hasKey 28 = .ok (.ireturn, 1) := by decide +kernel
theorem dX2_hasKey_29 : decode cX2_hasKey 29 = .ok (.iinc 2 1, 3) := by decide +kernel
theorem dX2_hasKey_32 : decode cX2_hasKey 32 = .ok (.goto (-30), 3) := by decide +kernel
theorem dX2_hasKey_35 : decode cX2_hasKey 35 = .ok (.iconst 1, 1) := by decide +kernel
theorem dX2_hasKey_36 : decode cX2_hasKey 36 = .ok (.ireturn, 1) := by decide +kernel
theorem dX2_targetOf_0 : decode cX2_targetOf 0 = .ok (.iload_n 0, 1) := by decide +kernel
theorem dX2_targetOf_1 : decode cX2_targetOf 1 = .ok (.sipush 1024, 3) := by decide +kernel
theorem dX2_targetOf_4 : decode cX2_targetOf 4 = .ok (.irem, 1) := by decide +kernel
theorem dX2_targetOf_5 : decode cX2_targetOf 5 = .ok (.ireturn, 1) := by decide +kernel
theorem dX2_valueWins_0 : decode cX2_valueWins 0 = .ok (.aload_n 0, 1) := by decide +kernel
theorem dX2_valueWins_1 : decode cX2_valueWins 1 = .ok (.getfield 68, 3) := by decide +kernel
theorem dX2_valueWins_4 : decode cX2_valueWins 4 = .ok (.iconst 1, 1) := by decide +kernel
theorem dX2_valueWins_5 : decode cX2_valueWins 5 = .ok (.isub, 1) := by decide +kernel
theorem dX2_valueWins_6 : decode cX2_valueWins 6 = .ok (.istore_n 1, 1) := by decide +kernel
theorem dX2_valueWins_7 : decode cX2_valueWins 7 = .ok (.iload_n 1, 1) := by decide +kernel
theorem dX2_valueWins_8 : decode cX2_valueWins 8 = .ok (.ifCond .lt 65, 3) := by decide +kernel
theorem dX2_valueWins_11 : decode cX2_valueWins 11 = .ok (.aload_n 0, 1) := by decide +kernel
theorem dX2_valueWins_12 : decode cX2_valueWins 12 = .ok (.getfield 41, 3) := by decide +kernel
theorem dX2_valueWins_15 : decode cX2_valueWins 15 = .ok (.iload_n 1, 1) := by decide +kernel
theorem dX2_valueWins_16 : decode cX2_valueWins 16 = .ok (.iconst 0, 1) := by decide +kernel
theorem dX2_valueWins_17 : decode cX2_valueWins 17 = .ok (.iastore, 1) := by decide +kernel
theorem dX2_valueWins_18 : decode cX2_valueWins 18 = .ok (.aload_n 0, 1) := by decide +kernel
theorem dX2_valueWins_19 : decode cX2_valueWins 19 = .ok (.getfield 44, 3) := by decide +kernel
theorem dX2_valueWins_22 : decode cX2_valueWins 22 = .ok (.iload_n 1, 1) := by decide +kernel
theorem dX2_valueWins_23 : decode cX2_valueWins 23 = .ok (.iaload, 1) := by decide +kernel
theorem dX2_valueWins_24 : decode cX2_valueWins 24 = .ok (.istore_n 2, 1) := by decide +kernel
theorem dX2_valueWins_25 : decode cX2_valueWins 25 = .ok (.iload_n 2, 1) := by decide +kernel
theorem dX2_valueWins_26 : decode cX2_valueWins 26 = .ok (.aload_n 0, 1) := by decide +kernel
theorem dX2_valueWins_27 : decode cX2_valueWins 27 = .ok (.getfield 44, 3) := by decide +kernel
theorem dX2_valueWins_30 : decode cX2_valueWins 30 = .ok (.iload_n 1, 1) := by decide +kernel
theorem dX2_valueWins_31 : decode cX2_valueWins 31 = .ok (.iconst 1, 1) := by decide +kernel
theorem dX2_valueWins_32 : decode cX2_valueWins 32 = .ok (.iadd, 1) := by decide +kernel
theorem dX2_valueWins_33 : decode cX2_valueWins 33 = .ok (.iaload, 1) := by decide +kernel
theorem dX2_valueWins_34 : decode cX2_valueWins 34 = .ok (.if_icmp .ge 33, 3) := by decide +kernel
theorem dX2_valueWins_37 : decode cX2_valueWins 37 = .ok (.aload_n 0, 1) := by decide +kernel
theorem dX2_valueWins_38 : decode cX2_valueWins 38 = .ok (.getfield 41, 3) := by decide +kernel
theorem dX2_valueWins_41 : decode cX2_valueWins 41 = .ok (.aload_n 0, 1) := by decide +kernel
theorem dX2_valueWins_42 : decode cX2_valueWins 42 = .ok (.getfield 48, 3) := by decide +kernel
theorem dX2_valueWins_45 : decode cX2_valueWins 45 = .ok (.iload_n 2, 1) := by decide +kernel
theorem dX2_valueWins_46 : decode cX2_valueWins 46 = .ok (.iaload, 1) := by decide +kernel
theorem dX2_valueWins_47 : decode cX2_valueWins 47 = .ok (.invokestatic 152, 3) := by decide +kernel
theorem dX2_valueWins_50 : decode cX2_valueWins 50 = .ok (.iaload, 1) := by decide +kernel
theorem dX2_valueWins_51 : decode cX2_valueWins 51 = .ok (.ifCond .ne 10, 3) := by decide +kernel
theorem dX2_valueWins_54 : decode cX2_valueWins 54 = .ok (.aload_n 0, 1) := by decide +kernel
theorem dX2_valueWins_55 : decode cX2_valueWins 55 = .ok (.getfield 41, 3) := by decide +kernel
theorem dX2_valueWins_58 : decode cX2_valueWins 58 = .ok (.iload_n 1, 1) := by decide +kernel
theorem dX2_valueWins_59 : decode cX2_valueWins 59 = .ok (.iconst 1, 1) := by decide +kernel
theorem dX2_valueWins_60 : decode cX2_valueWins 60 = .ok (.iastore, 1) := by decide +kernel
theorem dX2_valueWins_61 : decode cX2_valueWins 61 = .ok (.iinc 2 1, 3) := by decide +kernel
theorem dX2_valueWins_64 : decode cX2_valueWins 64 = .ok (.goto (-39), 3) := by decide +kernel
theorem dX2_valueWins_67 : decode cX2_valueWins 67 = .ok (.iinc 1 (-1), 3) := by decide +kernel
theorem dX2_valueWins_70 : decode cX2_valueWins 70 = .ok (.goto (-63), 3) := by decide +kernel
theorem dX2_valueWins_73 : decode cX2_valueWins 73 = .ok (.return_, 1) := by decide +kernel
theorem dX2_valueLengths_0 : decode cX2_valueLengths 0 = .ok (.aload_n 0, 1) := by decide +kernel
theorem dX2_valueLengths_1 : decode cX2_valueLengths 1 = .ok (.getfield 68, 3) := by decide +kernel
theorem dX2_valueLengths_4 : decode cX2_valueLengths 4 = .ok (.iconst 1, 1) := by decide +kernel
theorem dX2_valueLengths_5 : decode cX2_valueLengths 5 = .ok (.isub, 1) := by decide +kernel
theorem dX2_valueLengths_6 : decode cX2_valueLengths 6 = .ok (.istore_n 2, 1) := by decide +kernel
theorem dX2_valueLengths_7 : decode cX2_valueLengths 7 = .ok (.iload_n 2, 1) := by decide +kernel
theorem dX2_valueLengths_8 : decode cX2_valueLengths 8 = .ok (.ifCond .lt 105, 3) := by decide +kernel
theorem dX2_valueLengths_11 : decode cX2_valueLengths 11 = .ok (.aload_n 0, 1) := by decide +kernel
theorem dX2_valueLengths_12 : decode cX2_valueLengths 12 = .ok (.getfield 41, 3) := by decide +kernel
theorem dX2_valueLengths_15 : decode cX2_valueLengths 15 = .ok (.iload_n 2, 1) := by decide +kernel
theorem dX2_valueLengths_16 : decode cX2_valueLengths 16 = .ok (.iconst 0, 1) := by decide +kernel
theorem dX2_valueLengths_17 : decode cX2_valueLengths 17 = .ok (.iastore, 1) := by decide +kernel
theorem dX2_valueLengths_18 : decode cX2_valueLengths 18 = .ok (.aload_n 0, 1) := by decide +kernel
theorem dX2_valueLengths_19 : decode cX2_valueLengths 19 = .ok (.getfield 44, 3) := by decide +kernel
theorem dX2_valueLengths_22 : decode cX2_valueLengths 22 = .ok (.iload_n 2, 1) := by decide +kernel
theorem dX2_valueLengths_23 : decode cX2_valueLengths 23 = .ok (.iaload, 1) := by decide +kernel
theorem dX2_valueLengths_24 : decode cX2_valueLengths 24 = .ok (.istore_n 3, 1) := by decide +kernel
theorem dX2_valueLengths_25 : decode cX2_valueLengths 25 = .ok (.iload_n 3, 1) := by decide +kernel
theorem dX2_valueLengths_26 : decode cX2_valueLengths 26 = .ok (.aload_n 0, 1) := by decide +kernel
theorem dX2_valueLengths_27 : decode cX2_valueLengths 27 = .ok (.getfield 44, 3) := by decide +kernel
theorem dX2_valueLengths_30 : decode cX2_valueLengths 30 = .ok (.iload_n 2, 1) := by decide +kernel
theorem dX2_valueLengths_31 : decode cX2_valueLengths 31 = .ok (.iconst 1, 1) := by decide +kernel
theorem dX2_valueLengths_32 : decode cX2_valueLengths 32 = .ok (.iadd, 1) := by decide +kernel
theorem dX2_valueLengths_33 : decode cX2_valueLengths 33 = .ok (.iaload, 1) := by decide +kernel
theorem dX2_valueLengths_34 : decode cX2_valueLengths 34 = .ok (.if_icmp .ge 73, 3) := by decide +kernel
theorem dX2_valueLengths_37 : decode cX2_valueLengths 37 = .ok (.aload_n 0, 1) := by decide +kernel
theorem dX2_valueLengths_38 : decode cX2_valueLengths 38 = .ok (.getfield 41, 3) := by decide +kernel
theorem dX2_valueLengths_41 : decode cX2_valueLengths 41 = .ok (.aload_n 0, 1) := by decide +kernel
theorem dX2_valueLengths_42 : decode cX2_valueLengths 42 = .ok (.getfield 48, 3) := by decide +kernel
theorem dX2_valueLengths_45 : decode cX2_valueLengths 45 = .ok (.iload_n 3, 1) := by decide +kernel
theorem dX2_valueLengths_46 : decode cX2_valueLengths 46 = .ok (.iaload, 1) := by decide +kernel
theorem dX2_valueLengths_47 : decode cX2_valueLengths 47 = .ok (.invokestatic 152, 3) := by decide +kernel
theorem dX2_valueLengths_50 : decode cX2_valueLengths 50 = .ok (.iaload, 1) := by decide +kernel
theorem dX2_valueLengths_51 : decode cX2_valueLengths 51 = .ok (.iconst 1, 1) := by decide +kernel
theorem dX2_valueLengths_52 : decode cX2_valueLengths 52 = .ok (.iadd, 1) := by decide +kernel
theorem dX2_valueLengths_53 : decode cX2_valueLengths 53 = .ok (.istore 4, 2) := by decide +kernel
theorem dX2_valueLengths_55 : decode cX2_valueLengths 55 = .ok (.aload_n 0, 1) := by decide +kernel
theorem dX2_valueLengths_56 : decode cX2_valueLengths 56 = .ok (.getfield 41, 3) := by decide +kernel
theorem dX2_valueLengths_59 : decode cX2_valueLengths 59 = .ok (.iload_n 2, 1) := by decide +kernel
theorem dX2_valueLengths_60 : decode cX2_valueLengths 60 = .ok (.iaload, 1) := by decide +kernel
theorem dX2_valueLengths_61 : decode cX2_valueLengths 61 = .ok (.ifCond .eq 32, 3) := by decide +kernel
theorem dX2_valueLengths_64 : decode cX2_valueLengths 64 = .ok (.iload_n 1, 1) := by decide +kernel
theorem dX2_valueLengths_65 : decode cX2_valueLengths 65 = .ok (.ifCond .eq 17, 3) := by decide +kernel
theorem dX2_valueLengths_68 : decode cX2_valueLengths 68 = .ok (.iload 4, 2) := by decide +kernel
theorem dX2_valueLengths_70 : decode cX2_valueLengths 70 = .ok (.aload_n 0, 1) := by decide +kernel
theorem dX2_valueLengths_71 : decode cX2_valueLengths 71 = .ok (.getfield 41, 3) := by decide +kernel
theorem dX2_valueLengths_74 : decode cX2_valueLengths 74 = .ok (.iload_n 2, 1) := by decide +kernel
theorem dX2_valueLengths_75 : decode cX2_valueLengths 75 = .ok (.iaload, 1) := by decide +kernel
theorem dX2_valueLengths_76 : decode cX2_valueLengths 76 = .ok (.if_icmp .le 25, 3) := by decide +kernel
theorem dX2_valueLengths_79 : decode cX2_valueLengths 79 = .ok (.goto 14, 3) := by decide +kernel
theorem dX2_valueLengths_82 : decode cX2_valueLengths 82 = .ok (.iload 4, 2) := by decide +kernel
theorem dX2_valueLengths_84 : decode cX2_valueLengths 84 = .ok (.aload_n 0, 1) := by decide +kernel
theorem dX2_valueLengths_85 : decode cX2_valueLengths 85 = .ok (.getfield 41, 3) := by decide +kernel
theorem dX2_valueLengths_88 : decode cX2_valueLengths 88 = .ok (.iload_n 2, 1) := by decide +kernel
theorem dX2_valueLengths_89 : decode cX2_valueLengths 89 = .ok (.iaload, 1) := by decide +kernel
theorem dX2_valueLengths_90 : decode cX2_valueLengths 90 = .ok (.if_icmp .ge 11, 3) := by decide +kernel
theorem dX2_valueLengths_93 : decode cX2_valueLengths 93 = .ok (.aload_n 0, 1) := by decide +kernel
theorem dX2_valueLengths_94 : decode cX2_valueLengths 94 = .ok (.getfield 41, 3) := by decide +kernel
theorem dX2_valueLengths_97 : decode cX2_valueLengths 97 = .ok (.iload_n 2, 1) := by decide +kernel
theorem dX2_valueLengths_98 : decode cX2_valueLengths 98 = .ok (.iload 4, 2) := by decide +kernel
theorem dX2_valueLengths_100 : decode cX2_valueLengths 100 = .ok (.iastore, 1) := by decide +kernel
theorem dX2_valueLengths_101 : decode cX2_valueLengths 101 = .ok (.iinc 3 1, 3) := by decide +kernel
theorem dX2_valueLengths_104 : decode cX2_valueLengths 104 = .ok (.goto (-79), 3) := by decide +kernel
theorem dX2_valueLengths_107 : decode cX2_valueLengths 107 = .ok (.iinc 2 (-1), 3) := by decide +kernel
theorem dX2_valueLengths_110 : decode cX2_valueLengths 110 = .ok (.goto (-103), 3) := by decide +kernel
theorem dX2_valueLengths_113 : decode cX2_valueLengths 113 = .ok (.return_, 1) := by decide +kernel
theorem dX2_leastEdgeTo_0 : decode cX2_leastEdgeTo 0 = .ok (.aload_n 0, 1) := by decide +kernel
theorem dX2_leastEdgeTo_1 : decode cX2_leastEdgeTo 1 = .ok (.getfield 44, 3) := by decide +kernel
theorem dX2_leastEdgeTo_4 : decode cX2_leastEdgeTo 4 = .ok (.iload_n 1, 1) := by decide +kernel
theorem dX2_leastEdgeTo_5 : decode cX2_leastEdgeTo 5 = .ok (.iaload, 1) := by decide +kernel
theorem dX2_leastEdgeTo_6 : decode cX2_leastEdgeTo 6 = .ok (.istore_n 3, 1) := by decide +kernel
theorem dX2_leastEdgeTo_7 : decode cX2_leastEdgeTo 7 = .ok (.iload_n 3, 1) := by decide +kernel
theorem dX2_leastEdgeTo_8 : decode cX2_leastEdgeTo 8 = .ok (.aload_n 0, 1) := by decide +kernel
theorem dX2_leastEdgeTo_9 : decode cX2_leastEdgeTo 9 = .ok (.getfield 44, 3) := by decide +kernel
theorem dX2_leastEdgeTo_12 : decode cX2_leastEdgeTo 12 = .ok (.iload_n 1, 1) := by decide +kernel
theorem dX2_leastEdgeTo_13 : decode cX2_leastEdgeTo 13 = .ok (.iconst 1, 1) := by decide +kernel
theorem dX2_leastEdgeTo_14 : decode cX2_leastEdgeTo 14 = .ok (.iadd, 1) := by decide +kernel
theorem dX2_leastEdgeTo_15 : decode cX2_leastEdgeTo 15 = .ok (.iaload, 1) := by decide +kernel
theorem dX2_leastEdgeTo_16 : decode cX2_leastEdgeTo 16 = .ok (.if_icmp .ge 34, 3) := by decide +kernel
theorem dX2_leastEdgeTo_19 : decode cX2_leastEdgeTo 19 = .ok (.aload_n 0, 1) := by decide +kernel
theorem dX2_leastEdgeTo_20 : decode cX2_leastEdgeTo 20 = .ok (.getfield 41, 3) := by decide +kernel
theorem dX2_leastEdgeTo_23 : decode cX2_leastEdgeTo 23 = .ok (.aload_n 0, 1) := by decide +kernel
theorem dX2_leastEdgeTo_24 : decode cX2_leastEdgeTo 24 = .ok (.getfield 48, 3) := by decide +kernel
theorem dX2_leastEdgeTo_27 : decode cX2_leastEdgeTo 27 = .ok (.iload_n 3, 1) := by decide +kernel
theorem dX2_leastEdgeTo_28 : decode cX2_leastEdgeTo 28 = .ok (.iaload, 1) := by decide +kernel
theorem dX2_leastEdgeTo_29 : decode cX2_leastEdgeTo 29 = .ok (.invokestatic 152, 3) := by decide +kernel
theorem dX2_leastEdgeTo_32 : decode cX2_leastEdgeTo 32 = .ok (.iaload, 1) := by decide +kernel
theorem dX2_leastEdgeTo_33 : decode cX2_leastEdgeTo 33 = .ok (.iload_n 2, 1) := by decide +kernel
theorem dX2_leastEdgeTo_34 : decode cX2_leastEdgeTo 34 = .ok (.if_icmp .ne 10, 3) := by decide +kernel
theorem dX2_leastEdgeTo_37 : decode cX2_leastEdgeTo 37 = .ok (.aload_n 0, 1) := by decide +kernel
theorem dX2_leastEdgeTo_38 : decode cX2_leastEdgeTo 38 = .ok (.getfield 48, 3) := by decide +kernel
theorem dX2_leastEdgeTo_41 : decode cX2_leastEdgeTo 41 = .ok (.iload_n 3, 1) := by decide +kernel
theorem dX2_leastEdgeTo_42 : decode cX2_leastEdgeTo 42 = .ok (.iaload, 1) := by decide +kernel
theorem dX2_leastEdgeTo_43 : decode cX2_leastEdgeTo 43 = .ok (.ireturn, 1) := by decide +kernel
theorem dX2_leastEdgeTo_44 : decode cX2_leastEdgeTo 44 = .ok (.iinc 3 1, 3) := by decide +kernel
theorem dX2_leastEdgeTo_47 : decode cX2_leastEdgeTo 47 = .ok (.goto (-40), 3) := by decide +kernel
theorem dX2_leastEdgeTo_50 : decode cX2_leastEdgeTo 50 = .ok (.iconst (-1), 1) := by decide +kernel
theorem dX2_leastEdgeTo_51 : decode cX2_leastEdgeTo 51 = .ok (.ireturn, 1) := by decide +kernel
theorem dX2_leastMoveTo_0 : decode cX2_leastMoveTo 0 = .ok (.aload_n 0, 1) := by decide +kernel
theorem dX2_leastMoveTo_1 : decode cX2_leastMoveTo 1 = .ok (.iload_n 1, 1) := by decide +kernel
theorem dX2_leastMoveTo_2 : decode cX2_leastMoveTo 2 = .ok (.iload_n 2, 1) := by decide +kernel
theorem dX2_leastMoveTo_3 : decode cX2_leastMoveTo 3 = .ok (.invokevirtual 155, 3) := by decide +kernel
theorem dX2_leastMoveTo_6 : decode cX2_leastMoveTo 6 = .ok (.istore_n 3, 1) := by decide +kernel
theorem dX2_leastMoveTo_7 : decode cX2_leastMoveTo 7 = .ok (.iload_n 3, 1) := by decide +kernel
theorem dX2_leastMoveTo_8 : decode cX2_leastMoveTo 8 = .ok (.iconst (-1), 1) := by decide +kernel
theorem dX2_leastMoveTo_9 : decode cX2_leastMoveTo 9 = .ok (.if_icmp .ne 7, 3) := by decide +kernel
theorem dX2_leastMoveTo_12 : decode cX2_leastMoveTo 12 = .ok (.iconst (-1), 1) := by decide +kernel
theorem dX2_leastMoveTo_13 : decode cX2_leastMoveTo 13 = .ok (.goto 8, 3) := by decide +kernel
theorem dX2_leastMoveTo_16 : decode cX2_leastMoveTo 16 = .ok (.iload_n 3, 1) := by decide +kernel
theorem dX2_leastMoveTo_17 : decode cX2_leastMoveTo 17 = .ok (.sipush 1024, 3) := by decide +kernel
theorem dX2_leastMoveTo_20 : decode cX2_leastMoveTo 20 = .ok (.idiv, 1) := by decide +kernel
theorem dX2_leastMoveTo_21 : decode cX2_leastMoveTo 21 = .ok (.ireturn, 1) := by decide +kernel
theorem dX2_tellBestPath_0 : decode cX2_tellBestPath 0 = .ok (.iconst 0, 1) := by decide +kernel
theorem dX2_tellBestPath_1 : decode cX2_tellBestPath 1 = .ok (.istore_n 2, 1) := by decide +kernel
theorem dX2_tellBestPath_2 : decode cX2_tellBestPath 2 = .ok (.aload_n 1, 1) := by decide +kernel
theorem dX2_tellBestPath_3 : decode cX2_tellBestPath 3 = .ok (.invokevirtual 158, 3) := by decide +kernel
theorem dX2_tellBestPath_6 : decode cX2_tellBestPath 6 = .ok (.iconst 0, 1) := by decide +kernel
theorem dX2_tellBestPath_7 : decode cX2_tellBestPath 7 = .ok (.istore_n 3, 1) := by decide +kernel
theorem dX2_tellBestPath_8 : decode cX2_tellBestPath 8 = .ok (.iload_n 3, 1) := by decide +kernel
theorem dX2_tellBestPath_9 : decode cX2_tellBestPath 9 = .ok (.bipush 10, 2) := by decide +kernel
theorem dX2_tellBestPath_11 : decode cX2_tellBestPath 11 = .ok (.if_icmp .ge 57, 3) := by decide +kernel
theorem dX2_tellBestPath_14 : decode cX2_tellBestPath 14 = .ok (.aload_n 0, 1) := by decide +kernel
theorem dX2_tellBestPath_15 : decode cX2_tellBestPath 15 = .ok (.getfield 41, 3) := by decide +kernel
theorem dX2_tellBestPath_18 : decode cX2_tellBestPath 18 = .ok (.iload_n 2, 1) := by decide +kernel
theorem dX2_tellBestPath_19 : decode cX2_tellBestPath 19 = .ok (.iaload, 1) := by decide +kernel
theorem dX2_tellBestPath_20 : decode cX2_tellBestPath 20 = .ok (.ifCond .le 48, 3) := by decide +kernel
theorem dX2_tellBestPath_23 : decode cX2_tellBestPath 23 = .ok (.aload_n 0, 1) := by decide +kernel
theorem dX2_tellBestPath_24 : decode cX2_tellBestPath 24 = .ok (.iload_n 2, 1) := by decide +kernel
theorem dX2_tellBestPath_25 : decode cX2_tellBestPath 25 = .ok (.aload_n 0, 1) := by decide +kernel
theorem dX2_tellBestPath_26 : decode cX2_tellBestPath 26 = .ok (.getfield 41, 3) := by decide +kernel
theorem dX2_tellBestPath_29 : decode cX2_tellBestPath 29 = .ok (.iload_n 2, 1) := by decide +kernel
theorem dX2_tellBestPath_30 : decode cX2_tellBestPath 30 = .ok (.iaload, 1) := by decide +kernel
theorem dX2_tellBestPath_31 : decode cX2_tellBestPath 31 = .ok (.iconst 1, 1) := by decide +kernel
theorem dX2_tellBestPath_32 : decode cX2_tellBestPath 32 = .ok (.isub, 1) := by decide +kernel
theorem dX2_tellBestPath_33 : decode cX2_tellBestPath 33 = .ok (.invokevirtual 155, 3) := by decide +kernel
theorem dX2_tellBestPath_36 : decode cX2_tellBestPath 36 = .ok (.istore 4, 2) := by decide +kernel
theorem dX2_tellBestPath_38 : decode cX2_tellBestPath 38 = .ok (.iload 4, 2) := by decide +kernel
theorem dX2_tellBestPath_40 : decode cX2_tellBestPath 40 = .ok (.iconst (-1), 1) := by decide +kernel
theorem dX2_tellBestPath_41 : decode cX2_tellBestPath 41 = .ok (.if_icmp .ne 4, 3) := by decide +kernel
theorem dX2_tellBestPath_44 : decode cX2_tellBestPath 44 = .ok (.return_, 1) := by decide +kernel
theorem dX2_tellBestPath_45 : decode cX2_tellBestPath 45 = .ok (.aload_n 1, 1) := by decide +kernel
theorem dX2_tellBestPath_46 : decode cX2_tellBestPath 46 = .ok (.iload 4, 2) := by decide +kernel
theorem dX2_tellBestPath_48 : decode cX2_tellBestPath 48 = .ok (.sipush 1024, 3) := by decide +kernel
theorem dX2_tellBestPath_51 : decode cX2_tellBestPath 51 = .ok (.idiv, 1) := by decide +kernel
theorem dX2_tellBestPath_52 : decode cX2_tellBestPath 52 = .ok (.i2l, 1) := by decide +kernel
theorem dX2_tellBestPath_53 : decode cX2_tellBestPath 53 = .ok (.invokevirtual 161, 3) := by decide +kernel
theorem dX2_tellBestPath_56 : decode cX2_tellBestPath 56 = .ok (.iload 4, 2) := by decide +kernel
theorem dX2_tellBestPath_58 : decode cX2_tellBestPath 58 = .ok (.invokestatic 152, 3) := by decide +kernel
theorem dX2_tellBestPath_61 : decode cX2_tellBestPath 61 = .ok (.istore_n 2, 1) := by decide +kernel
theorem dX2_tellBestPath_62 : decode cX2_tellBestPath 62 = .ok (.iinc 3 1, 3) := by decide +kernel
theorem dX2_tellBestPath_65 : decode cX2_tellBestPath 65 = .ok (.goto (-57), 3) := by decide +kernel
theorem dX2_tellBestPath_68 : decode cX2_tellBestPath 68 = .ok (.return_, 1) := by decide +kernel
theorem dX2_firstHighest_0 : decode cX2_firstHighest 0 = .ok (.iconst 0, 1) := by decide +kernel
theorem dX2_firstHighest_1 : decode cX2_firstHighest 1 = .ok (.istore_n 1, 1) := by decide +kernel
theorem dX2_firstHighest_2 : decode cX2_firstHighest 2 = .ok (.iconst 1, 1) := by decide +kernel
theorem dX2_firstHighest_3 : decode cX2_firstHighest 3 = .ok (.istore_n 2, 1) := by decide +kernel
theorem dX2_firstHighest_4 : decode cX2_firstHighest 4 = .ok (.iload_n 2, 1) := by decide +kernel
theorem dX2_firstHighest_5 : decode cX2_firstHighest 5 = .ok (.aload_n 0, 1) := by decide +kernel
theorem dX2_firstHighest_6 : decode cX2_firstHighest 6 = .ok (.getfield 68, 3) := by decide +kernel
theorem dX2_firstHighest_9 : decode cX2_firstHighest 9 = .ok (.if_icmp .ge 26, 3) := by decide +kernel
theorem dX2_firstHighest_12 : decode cX2_firstHighest 12 = .ok (.aload_n 0, 1) := by decide +kernel
theorem dX2_firstHighest_13 : decode cX2_firstHighest 13 = .ok (.getfield 38, 3) := by decide +kernel
theorem dX2_firstHighest_16 : decode cX2_firstHighest 16 = .ok (.iload_n 2, 1) := by decide +kernel
theorem dX2_firstHighest_17 : decode cX2_firstHighest 17 = .ok (.iaload, 1) := by decide +kernel
theorem dX2_firstHighest_18 : decode cX2_firstHighest 18 = .ok (.aload_n 0, 1) := by decide +kernel
theorem dX2_firstHighest_19 : decode cX2_firstHighest 19 = .ok (.getfield 38, 3) := by decide +kernel
theorem dX2_firstHighest_22 : decode cX2_firstHighest 22 = .ok (.iload_n 1, 1) := by decide +kernel
theorem dX2_firstHighest_23 : decode cX2_firstHighest 23 = .ok (.iaload, 1) := by decide +kernel
theorem dX2_firstHighest_24 : decode cX2_firstHighest 24 = .ok (.if_icmp .le 5, 3) := by decide +kernel
theorem dX2_firstHighest_27 : decode cX2_firstHighest 27 = .ok (.iload_n 2, 1) := by decide +kernel
theorem dX2_firstHighest_28 : decode cX2_firstHighest 28 = .ok (.istore_n 1, 1) := by decide +kernel
theorem dX2_firstHighest_29 : decode cX2_firstHighest 29 = .ok (.iinc 2 1, 3) := by decide +kernel
theorem dX2_firstHighest_32 : decode cX2_firstHighest 32 = .ok (.goto (-28), 3) := by decide +kernel
theorem dX2_firstHighest_35 : decode cX2_firstHighest 35 = .ok (.iload_n 1, 1) := by decide +kernel
theorem dX2_firstHighest_36 : decode cX2_firstHighest 36 = .ok (.ireturn, 1) := by decide +kernel
theorem dX2_firstWithGap_0 : decode cX2_firstWithGap 0 = .ok (.iconst 0, 1) := by decide +kernel
theorem dX2_firstWithGap_1 : decode cX2_firstWithGap 1 = .ok (.istore_n 2, 1) := by decide +kernel
theorem dX2_firstWithGap_2 : decode cX2_firstWithGap 2 = .ok (.iload_n 2, 1) := by decide +kernel
theorem dX2_firstWithGap_3 : decode cX2_firstWithGap 3 = .ok (.aload_n 0, 1) := by decide +kernel
theorem dX2_firstWithGap_4 : decode cX2_firstWithGap 4 = .ok (.getfield 68, 3) := by decide +kernel
theorem dX2_firstWithGap_7 : decode cX2_firstWithGap 7 = .ok (.if_icmp .ge 21, 3) := by decide +kernel
theorem dX2_firstWithGap_10 : decode cX2_firstWithGap 10 = .ok (.aload_n 0, 1) := by decide +kernel
theorem dX2_firstWithGap_11 : decode cX2_firstWithGap 11 = .ok (.iload_n 2, 1) := by decide +kernel
theorem dX2_firstWithGap_12 : decode cX2_firstWithGap 12 = .ok (.iload_n 1, 1) := by decide +kernel
theorem dX2_firstWithGap_13 : decode cX2_firstWithGap 13 = .ok (.invokevirtual 136, 3) := by decide +kernel
theorem dX2_firstWithGap_16 : decode cX2_firstWithGap 16 = .ok (.iconst (-1), 1) := by decide +kernel
theorem dX2_firstWithGap_17 : decode cX2_firstWithGap 17 = .ok (.if_icmp .ne 5, 3) := by decide +kernel
theorem dX2_firstWithGap_20 : decode cX2_firstWithGap 20 = .ok (.iload_n 2, 1) := by decide +kernel
theorem dX2_firstWithGap_21 : decode cX2_firstWithGap 21 = .ok (.ireturn, 1) := by decide +kernel
theorem dX2_firstWithGap_22 : decode cX2_firstWithGap 22 = .ok (.iinc 2 1, 3) := by decide +kernel
theorem dX2_firstWithGap_25 : decode cX2_firstWithGap 25 = .ok (.goto (-23), 3) := by decide +kernel
theorem dX2_firstWithGap_28 : decode cX2_firstWithGap 28 = .ok (.iconst (-1), 1) := by decide +kernel
theorem dX2_firstWithGap_29 : decode cX2_firstWithGap 29 = .ok (.ireturn, 1) := by decide +kernel
theorem dX2_tracePath_0 : decode cX2_tracePath 0 = .ok (.iload_n 1, 1) := by decide +kernel
theorem dX2_tracePath_1 : decode cX2_tracePath 1 = .ok (.istore_n 2, 1) := by decide +kernel
theorem dX2_tracePath_2 : decode cX2_tracePath 2 = .ok (.aload_n 0, 1) := by decide +kernel
theorem dX2_tracePath_3 : decode cX2_tracePath 3 = .ok (.getfield 35, 3) := by decide +kernel
theorem dX2_tracePath_6 : decode cX2_tracePath 6 = .ok (.iload_n 1, 1) := by decide +kernel
theorem dX2_tracePath_7 : decode cX2_tracePath 7 = .ok (.iaload, 1) := by decide +kernel
theorem dX2_tracePath_8 : decode cX2_tracePath 8 = .ok (.iconst 1, 1) := by decide +kernel
theorem dX2_tracePath_9 : decode cX2_tracePath 9 = .ok (.isub, 1) := by decide +kernel
theorem dX2_tracePath_10 : decode cX2_tracePath 10 = .ok (.istore_n 3, 1) := by decide +kernel
theorem dX2_tracePath_11 : decode cX2_tracePath 11 = .ok (.iload_n 3, 1) := by decide +kernel
theorem dX2_tracePath_12 : decode cX2_tracePath 12 = .ok (.ifCond .lt 38, 3) := by decide +kernel
theorem dX2_tracePath_15 : decode cX2_tracePath 15 = .ok (.iload_n 3, 1) := by decide +kernel
theorem dX2_tracePath_16 : decode cX2_tracePath 16 = .ok (.bipush 48, 2) := by decide +kernel
theorem dX2_tracePath_18 : decode cX2_tracePath 18 = .ok (.if_icmp .ge 32, 3) := by decide +kernel
theorem dX2_tracePath_21 : decode cX2_tracePath 21 = .ok (.iload_n 2, 1) := by decide +kernel
theorem dX2_tracePath_22 : decode cX2_tracePath 22 = .ok (.ifCond .le 28, 3) := by decide +kernel
theorem dX2_tracePath_25 : decode cX2_tracePath 25 = .ok (.aload_n 0, 1) := by decide +kernel
theorem dX2_tracePath_26 : decode cX2_tracePath 26 = .ok (.getfield 51, 3) := by decide +kernel
theorem dX2_tracePath_29 : decode cX2_tracePath 29 = .ok (.iload_n 3, 1) := by decide +kernel
theorem dX2_tracePath_30 : decode cX2_tracePath 30 = .ok (.aload_n 0, 1) := by decide +kernel
theorem dX2_tracePath_31 : decode cX2_tracePath 31 = .ok (.getfield 32, 3) := by decide +kernel
theorem dX2_tracePath_34 : decode cX2_tracePath 34 = .ok (.iload_n 2, 1) := by decide +kernel
theorem dX2_tracePath_35 : decode cX2_tracePath 35 = .ok (.iaload, 1) := by decide +kernel
theorem dX2_tracePath_36 : decode cX2_tracePath 36 = .ok (.iastore, 1) := by decide +kernel
theorem dX2_tracePath_37 : decode cX2_tracePath 37 = .ok (.aload_n 0, 1) := by decide +kernel
theorem dX2_tracePath_38 : decode cX2_tracePath 38 = .ok (.getfield 29, 3) := by decide +kernel
theorem dX2_tracePath_41 : decode cX2_tracePath 41 = .ok (.iload_n 2, 1) := by decide +kernel
theorem dX2_tracePath_42 : decode cX2_tracePath 42 = .ok (.iaload, 1) := by decide +kernel
theorem dX2_tracePath_43 : decode cX2_tracePath 43 = .ok (.istore_n 2, 1) := by decide +kernel
theorem dX2_tracePath_44 : decode cX2_tracePath 44 = .ok (.iinc 3 (-1), 3) := by decide +kernel
theorem dX2_tracePath_47 : decode cX2_tracePath 47 = .ok (.goto (-36), 3) := by decide +kernel

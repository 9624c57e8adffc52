theorem dX12_findsFrom_69 : decode cX12_findsFrom 69 = .ok (.iinc 2 1, 3) := by decide +kernel
theorem dX12_findsFrom_72 : decode cX12_findsFrom 72 = .ok (.goto (-61), 3) := by decide +kernel
theorem dX12_findsFrom_75 : decode cX12_findsFrom 75 = .ok (.return_, 1) := by decide +kernel
theorem dX12_findsAll_0 : decode cX12_findsAll 0 = .ok (.aload_n 0, 1) := by decide +kernel
theorem dX12_findsAll_1 : decode cX12_findsAll 1 = .ok (.invokevirtual 372, 3) := by decide +kernel
theorem dX12_findsAll_4 : decode cX12_findsAll 4 = .ok (.iconst 0, 1) := by decide +kernel
theorem dX12_findsAll_5 : decode cX12_findsAll 5 = .ok (.istore_n 1, 1) := by decide +kernel
theorem dX12_findsAll_6 : decode cX12_findsAll 6 = .ok (.iload_n 1, 1) := by decide +kernel
theorem dX12_findsAll_7 : decode cX12_findsAll 7 = .ok (.aload_n 0, 1) := by decide +kernel
theorem dX12_findsAll_8 : decode cX12_findsAll 8 = .ok (.getfield 357, 3) := by decide +kernel
theorem dX12_findsAll_11 : decode cX12_findsAll 11 = .ok (.if_icmp .ge 21, 3) := by decide +kernel
theorem dX12_findsAll_14 : decode cX12_findsAll 14 = .ok (.aload_n 0, 1) := by decide +kernel
theorem dX12_findsAll_15 : decode cX12_findsAll 15 = .ok (.getfield 360, 3) := by decide +kernel
theorem dX12_findsAll_18 : decode cX12_findsAll 18 = .ok (.ifCond .ne 14, 3) := by decide +kernel
theorem dX12_findsAll_21 : decode cX12_findsAll 21 = .ok (.aload_n 0, 1) := by decide +kernel
theorem dX12_findsAll_22 : decode cX12_findsAll 22 = .ok (.iload_n 1, 1) := by decide +kernel
theorem dX12_findsAll_23 : decode cX12_findsAll 23 = .ok (.invokevirtual 375, 3) := by decide +kernel
theorem dX12_findsAll_26 : decode cX12_findsAll 26 = .ok (.iinc 1 1, 3) := by decide +kernel
theorem dX12_findsAll_29 : decode cX12_findsAll 29 = .ok (.goto (-23), 3) := by decide +kernel
theorem dX12_findsAll_32 : decode cX12_findsAll 32 = .ok (.aload_n 0, 1) := by decide +kernel
theorem dX12_findsAll_33 : decode cX12_findsAll 33 = .ok (.getfield 360, 3) := by decide +kernel
theorem dX12_findsAll_36 : decode cX12_findsAll 36 = .ok (.ifCond .ne 7, 3) := by decide +kernel
theorem dX12_findsAll_39 : decode cX12_findsAll 39 = .ok (.iconst 1, 1) := by decide +kernel
theorem dX12_findsAll_40 : decode cX12_findsAll 40 = .ok (.goto 4, 3) := by decide +kernel
theorem dX12_findsAll_43 : decode cX12_findsAll 43 = .ok (.iconst 0, 1) := by decide +kernel
theorem dX12_findsAll_44 : decode cX12_findsAll 44 = .ok (.ireturn, 1) := by decide +kernel
theorem dX12_values_0 : decode cX12_values 0 = .ok (.iconst 0, 1) := by decide +kernel
theorem dX12_values_1 : decode cX12_values 1 = .ok (.istore_n 2, 1) := by decide +kernel
theorem dX12_values_2 : decode cX12_values 2 = .ok (.iload_n 2, 1) := by decide +kernel
theorem dX12_values_3 : decode cX12_values 3 = .ok (.aload_n 0, 1) := by decide +kernel
theorem dX12_values_4 : decode cX12_values 4 = .ok (.getfield 357, 3) := by decide +kernel
theorem dX12_values_7 : decode cX12_values 7 = .ok (.if_icmp .ge 16, 3) := by decide +kernel
theorem dX12_values_10 : decode cX12_values 10 = .ok (.aload_n 0, 1) := by decide +kernel
theorem dX12_values_11 : decode cX12_values 11 = .ok (.getfield 91, 3) := by decide +kernel
theorem dX12_values_14 : decode cX12_values 14 = .ok (.iload_n 2, 1) := by decide +kernel
theorem dX12_values_15 : decode cX12_values 15 = .ok (.iconst (-1), 1) := by decide +kernel
theorem dX12_values_16 : decode cX12_values 16 = .ok (.iastore, 1) := by decide +kernel
theorem dX12_values_17 : decode cX12_values 17 = .ok (.iinc 2 1, 3) := by decide +kernel
theorem dX12_values_20 : decode cX12_values 20 = .ok (.goto (-18), 3) := by decide +kernel
theorem dX12_values_23 : decode cX12_values 23 = .ok (.aload_n 0, 1) := by decide +kernel
theorem dX12_values_24 : decode cX12_values 24 = .ok (.iconst 0, 1) := by decide +kernel
theorem dX12_values_25 : decode cX12_values 25 = .ok (.iload_n 1, 1) := by decide +kernel
theorem dX12_values_26 : decode cX12_values 26 = .ok (.invokevirtual 378, 3) := by decide +kernel
theorem dX12_values_29 : decode cX12_values 29 = .ok (.pop, 1) := by decide +kernel
theorem dX12_values_30 : decode cX12_values 30 = .ok (.return_, 1) := by decide +kernel
theorem dX12_asks_0 : decode cX12_asks 0 = .ok (.aload_n 0, 1) := by decide +kernel
theorem dX12_asks_1 : decode cX12_asks 1 = .ok (.getfield 91, 3) := by decide +kernel
theorem dX12_asks_4 : decode cX12_asks 4 = .ok (.iload_n 1, 1) := by decide +kernel
theorem dX12_asks_5 : decode cX12_asks 5 = .ok (.iaload, 1) := by decide +kernel
theorem dX12_asks_6 : decode cX12_asks 6 = .ok (.ifCond .lt 10, 3) := by decide +kernel
theorem dX12_asks_9 : decode cX12_asks 9 = .ok (.aload_n 0, 1) := by decide +kernel
theorem dX12_asks_10 : decode cX12_asks 10 = .ok (.getfield 91, 3) := by decide +kernel
theorem dX12_asks_13 : decode cX12_asks 13 = .ok (.iload_n 1, 1) := by decide +kernel
theorem dX12_asks_14 : decode cX12_asks 14 = .ok (.iaload, 1) := by decide +kernel
theorem dX12_asks_15 : decode cX12_asks 15 = .ok (.ireturn, 1) := by decide +kernel
theorem dX12_asks_16 : decode cX12_asks 16 = .ok (.iload_n 2, 1) := by decide +kernel
theorem dX12_asks_17 : decode cX12_asks 17 = .ok (.ifCond .eq 8, 3) := by decide +kernel
theorem dX12_asks_20 : decode cX12_asks 20 = .ok (.iload_n 2, 1) := by decide +kernel
theorem dX12_asks_21 : decode cX12_asks 21 = .ok (.iconst 1, 1) := by decide +kernel
theorem dX12_asks_22 : decode cX12_asks 22 = .ok (.if_icmp .ne 7, 3) := by decide +kernel
theorem dX12_asks_25 : decode cX12_asks 25 = .ok (.iconst 0, 1) := by decide +kernel
theorem dX12_asks_26 : decode cX12_asks 26 = .ok (.goto 4, 3) := by decide +kernel
theorem dX12_asks_29 : decode cX12_asks 29 = .ok (.iconst (-1), 1) := by decide +kernel
theorem dX12_asks_30 : decode cX12_asks 30 = .ok (.istore_n 3, 1) := by decide +kernel
theorem dX12_asks_31 : decode cX12_asks 31 = .ok (.iconst (-1), 1) := by decide +kernel
theorem dX12_asks_32 : decode cX12_asks 32 = .ok (.istore 4, 2) := by decide +kernel
theorem dX12_asks_34 : decode cX12_asks 34 = .ok (.iconst 0, 1) := by decide +kernel
theorem dX12_asks_35 : decode cX12_asks 35 = .ok (.istore 5, 2) := by decide +kernel
theorem dX12_asks_37 : decode cX12_asks 37 = .ok (.iload 5, 2) := by decide +kernel
theorem dX12_asks_39 : decode cX12_asks 39 = .ok (.sipush 480, 3) := by decide +kernel
theorem dX12_asks_42 : decode cX12_asks 42 = .ok (.if_icmp .ge 148, 3) := by decide +kernel
theorem dX12_asks_45 : decode cX12_asks 45 = .ok (.aload_n 0, 1) := by decide +kernel
theorem dX12_asks_46 : decode cX12_asks 46 = .ok (.iload_n 1, 1) := by decide +kernel
theorem dX12_asks_47 : decode cX12_asks 47 = .ok (.aload_n 0, 1) := by decide +kernel
theorem dX12_asks_48 : decode cX12_asks 48 = .ok (.getfield 64, 3) := by decide +kernel
theorem dX12_asks_51 : decode cX12_asks 51 = .ok (.invokevirtual 368, 3) := by decide +kernel
theorem dX12_asks_54 : decode cX12_asks 54 = .ok (.aload_n 0, 1) := by decide +kernel
theorem dX12_asks_55 : decode cX12_asks 55 = .ok (.getfield 64, 3) := by decide +kernel
theorem dX12_asks_58 : decode cX12_asks 58 = .ok (.iload 5, 2) := by decide +kernel
theorem dX12_asks_60 : decode cX12_asks 60 = .ok (.invokestatic 292, 3) := by decide +kernel
theorem dX12_asks_63 : decode cX12_asks 63 = .ok (.ifCond .ne 6, 3) := by decide +kernel
theorem dX12_asks_66 : decode cX12_asks 66 = .ok (.goto 118, 3) := by decide +kernel
theorem dX12_asks_69 : decode cX12_asks 69 = .ok (.aload_n 0, 1) := by decide +kernel
theorem dX12_asks_70 : decode cX12_asks 70 = .ok (.aload_n 0, 1) := by decide +kernel
theorem dX12_asks_71 : decode cX12_asks 71 = .ok (.getfield 64, 3) := by decide +kernel
theorem dX12_asks_74 : decode cX12_asks 74 = .ok (.iload 5, 2) := by decide +kernel
theorem dX12_asks_76 : decode cX12_asks 76 = .ok (.invokevirtual 295, 3) := by decide +kernel
theorem dX12_asks_79 : decode cX12_asks 79 = .ok (.ifCond .eq 6, 3) := by decide +kernel
theorem dX12_asks_82 : decode cX12_asks 82 = .ok (.goto 102, 3) := by decide +kernel
theorem dX12_asks_85 : decode cX12_asks 85 = .ok (.aload_n 0, 1) := by decide +kernel
theorem dX12_asks_86 : decode cX12_asks 86 = .ok (.aload_n 0, 1) := by decide +kernel
theorem dX12_asks_87 : decode cX12_asks 87 = .ok (.getfield 85, 3) := by decide +kernel
theorem dX12_asks_90 : decode cX12_asks 90 = .ok (.aload_n 0, 1) := by decide +kernel
theorem dX12_asks_91 : decode cX12_asks 91 = .ok (.aload_n 0, 1) := by decide +kernel
theorem dX12_asks_92 : decode cX12_asks 92 = .ok (.getfield 64, 3) := by decide +kernel
theorem dX12_asks_95 : decode cX12_asks 95 = .ok (.invokevirtual 354, 3) := by decide +kernel
theorem dX12_asks_98 : decode cX12_asks 98 = .ok (.iaload, 1) := by decide +kernel
theorem dX12_asks_99 : decode cX12_asks 99 = .ok (.iload_n 2, 1) := by decide +kernel
theorem dX12_asks_100 : decode cX12_asks 100 = .ok (.invokevirtual 378, 3) := by decide +kernel
theorem dX12_asks_103 : decode cX12_asks 103 = .ok (.istore 6, 2) := by decide +kernel
theorem dX12_asks_105 : decode cX12_asks 105 = .ok (.iload_n 2, 1) := by decide +kernel
theorem dX12_asks_106 : decode cX12_asks 106 = .ok (.ifCond .ne 10, 3) := by decide +kernel
theorem dX12_asks_109 : decode cX12_asks 109 = .ok (.iconst 1, 1) := by decide +kernel
theorem dX12_asks_110 : decode cX12_asks 110 = .ok (.iload 6, 2) := by decide +kernel
theorem dX12_asks_112 : decode cX12_asks 112 = .ok (.isub, 1) := by decide +kernel
theorem dX12_asks_113 : decode cX12_asks 113 = .ok (.goto 7, 3) := by decide +kernel
theorem dX12_asks_116 : decode cX12_asks 116 = .ok (.iload 6, 2) := by decide +kernel
theorem dX12_asks_118 : decode cX12_asks 118 = .ok (.iconst 1, 1) := by decide +kernel
theorem dX12_asks_119 : decode cX12_asks 119 = .ok (.iadd, 1) := by decide +kernel
theorem dX12_asks_120 : decode cX12_asks 120 = .ok (.istore 7, 2) := by decide +kernel
theorem dX12_asks_122 : decode cX12_asks 122 = .ok (.iload_n 2, 1) := by decide +kernel
theorem dX12_asks_123 : decode cX12_asks 123 = .ok (.iconst 2, 1) := by decide +kernel
theorem dX12_asks_124 : decode cX12_asks 124 = .ok (.if_icmp .ne 21, 3) := by decide +kernel
theorem dX12_asks_127 : decode cX12_asks 127 = .ok (.iload_n 3, 1) := by decide +kernel
theorem dX12_asks_128 : decode cX12_asks 128 = .ok (.ifCond .lt 9, 3) := by decide +kernel
theorem dX12_asks_131 : decode cX12_asks 131 = .ok (.iload 7, 2) := by decide +kernel
theorem dX12_asks_133 : decode cX12_asks 133 = .ok (.iload_n 3, 1) := by decide +kernel
theorem dX12_asks_134 : decode cX12_asks 134 = .ok (.if_icmp .ge 7, 3) := by decide +kernel
theorem dX12_asks_137 : decode cX12_asks 137 = .ok (.iconst 1, 1) := by decide +kernel
theorem dX12_asks_138 : decode cX12_asks 138 = .ok (.goto 18, 3) := by decide +kernel
theorem dX12_asks_141 : decode cX12_asks 141 = .ok (.iconst 0, 1) := by decide +kernel
theorem dX12_asks_142 : decode cX12_asks 142 = .ok (.goto 14, 3) := by decide +kernel
theorem dX12_asks_145 : decode cX12_asks 145 = .ok (.iload 7, 2) := by decide +kernel
theorem dX12_asks_147 : decode cX12_asks 147 = .ok (.iload_n 3, 1) := by decide +kernel
theorem dX12_asks_148 : decode cX12_asks 148 = .ok (.if_icmp .le 7, 3) := by decide +kernel
theorem dX12_asks_151 : decode cX12_asks 151 = .ok (.iconst 1, 1) := by decide +kernel
theorem dX12_asks_152 : decode cX12_asks 152 = .ok (.goto 4, 3) := by decide +kernel
theorem dX12_asks_155 : decode cX12_asks 155 = .ok (.iconst 0, 1) := by decide +kernel
theorem dX12_asks_156 : decode cX12_asks 156 = .ok (.istore 8, 2) := by decide +kernel
theorem dX12_asks_158 : decode cX12_asks 158 = .ok (.iload 8, 2) := by decide +kernel
theorem dX12_asks_160 : decode cX12_asks 160 = .ok (.ifCond .eq 8, 3) := by decide +kernel
theorem dX12_asks_163 : decode cX12_asks 163 = .ok (.iload 5, 2) := by decide +kernel
theorem dX12_asks_165 : decode cX12_asks 165 = .ok (.goto 5, 3) := by decide +kernel
theorem dX12_asks_168 : decode cX12_asks 168 = .ok (.iload 4, 2) := by decide +kernel
theorem dX12_asks_170 : decode cX12_asks 170 = .ok (.istore 4, 2) := by decide +kernel
theorem dX12_asks_172 : decode cX12_asks 172 = .ok (.iload 8, 2) := by decide +kernel
theorem dX12_asks_174 : decode cX12_asks 174 = .ok (.ifCond .eq 8, 3) := by decide +kernel
theorem dX12_asks_177 : decode cX12_asks 177 = .ok (.iload 7, 2) := by decide +kernel
theorem dX12_asks_179 : decode cX12_asks 179 = .ok (.goto 4, 3) := by decide +kernel
theorem dX12_asks_182 : decode cX12_asks 182 = .ok (.iload_n 3, 1) := by decide +kernel
theorem dX12_asks_183 : decode cX12_asks 183 = .ok (.istore_n 3, 1) := by decide +kernel
theorem dX12_asks_184 : decode cX12_asks 184 = .ok (.iinc 5 1, 3) := by decide +kernel
theorem dX12_asks_187 : decode cX12_asks 187 = .ok (.goto (-150), 3) := by decide +kernel
theorem dX12_asks_190 : decode cX12_asks 190 = .ok (.aload_n 0, 1) := by decide +kernel
theorem dX12_asks_191 : decode cX12_asks 191 = .ok (.getfield 91, 3) := by decide +kernel
theorem dX12_asks_194 : decode cX12_asks 194 = .ok (.iload_n 1, 1) := by decide +kernel
theorem dX12_asks_195 : decode cX12_asks 195 = .ok (.iconst 0, 1) := by decide +kernel
theorem dX12_asks_196 : decode cX12_asks 196 = .ok (.iload_n 3, 1) := by decide +kernel
theorem dX12_asks_197 : decode cX12_asks 197 = .ok (.invokestatic 224, 3) := by decide +kernel
theorem dX12_asks_200 : decode cX12_asks 200 = .ok (.iastore, 1) := by decide +kernel
theorem dX12_asks_201 : decode cX12_asks 201 = .ok (.aload_n 0, 1) := by decide +kernel
theorem dX12_asks_202 : decode cX12_asks 202 = .ok (.getfield 94, 3) := by decide +kernel
theorem dX12_asks_205 : decode cX12_asks 205 = .ok (.iload_n 1, 1) := by decide +kernel
theorem dX12_asks_206 : decode cX12_asks 206 = .ok (.iload 4, 2) := by decide +kernel
theorem dX12_asks_208 : decode cX12_asks 208 = .ok (.iastore, 1) := by decide +kernel
theorem dX12_asks_209 : decode cX12_asks 209 = .ok (.aload_n 0, 1) := by decide +kernel
theorem dX12_asks_210 : decode cX12_asks 210 = .ok (.getfield 91, 3) := by decide +kernel
theorem dX12_asks_213 : decode cX12_asks 213 = .ok (.iload_n 1, 1) := by decide +kernel
theorem dX12_asks_214 : decode cX12_asks 214 = .ok (.iaload, 1) := by decide +kernel
theorem dX12_asks_215 : decode cX12_asks 215 = .ok (.ireturn, 1) := by decide +kernel
theorem dX12_wins_0 : decode cX12_wins 0 = .ok (.aload_n 0, 1) := by decide +kernel
theorem dX12_wins_1 : decode cX12_wins 1 = .ok (.iconst 0, 1) := by decide +kernel
theorem dX12_wins_2 : decode cX12_wins 2 = .ok (.putfield 3, 3) := by decide +kernel
theorem dX12_wins_5 : decode cX12_wins 5 = .ok (.aload_n 0, 1) := by decide +kernel
theorem dX12_wins_6 : decode cX12_wins 6 = .ok (.invokevirtual 381, 3) := by decide +kernel
theorem dX12_wins_9 : decode cX12_wins 9 = .ok (.ifCond .ne 6, 3) := by decide +kernel
theorem dX12_wins_12 : decode cX12_wins 12 = .ok (.bipush (-3), 2) := by decide +kernel
theorem dX12_wins_14 : decode cX12_wins 14 = .ok (.ireturn, 1) := by decide +kernel
theorem dX12_wins_15 : decode cX12_wins 15 = .ok (.aload_n 0, 1) := by decide +kernel
theorem dX12_wins_16 : decode cX12_wins 16 = .ok (.iconst 0, 1) := by decide +kernel
theorem dX12_wins_17 : decode cX12_wins 17 = .ok (.invokevirtual 384, 3) := by decide +kernel
theorem dX12_wins_20 : decode cX12_wins 20 = .ok (.aload_n 0, 1) := by decide +kernel
theorem dX12_wins_21 : decode cX12_wins 21 = .ok (.iconst 0, 1) := by decide +kernel
theorem dX12_wins_22 : decode cX12_wins 22 = .ok (.putfield 15, 3) := by decide +kernel
theorem dX12_wins_25 : decode cX12_wins 25 = .ok (.aload_n 0, 1) := by decide +kernel
theorem dX12_wins_26 : decode cX12_wins 26 = .ok (.aload_n 0, 1) := by decide +kernel
theorem dX12_wins_27 : decode cX12_wins 27 = .ok (.getfield 94, 3) := by decide +kernel
theorem dX12_wins_30 : decode cX12_wins 30 = .ok (.iconst 0, 1) := by decide +kernel
theorem dX12_wins_31 : decode cX12_wins 31 = .ok (.iaload, 1) := by decide +kernel
theorem dX12_wins_32 : decode cX12_wins 32 = .ok (.i2l, 1) := by decide +kernel
theorem dX12_wins_33 : decode cX12_wins 33 = .ok (.invokevirtual 279, 3) := by decide +kernel
theorem dX12_wins_36 : decode cX12_wins 36 = .ok (.aload_n 0, 1) := by decide +kernel
theorem dX12_wins_37 : decode cX12_wins 37 = .ok (.getfield 91, 3) := by decide +kernel
theorem dX12_wins_40 : decode cX12_wins 40 = .ok (.iconst 0, 1) := by decide +kernel
theorem dX12_wins_41 : decode cX12_wins 41 = .ok (.iaload, 1) := by decide +kernel
theorem dX12_wins_42 : decode cX12_wins 42 = .ok (.ireturn, 1) := by decide +kernel
theorem dX12_tellsLine_0 : decode cX12_tellsLine 0 = .ok (.aload_n 0, 1) := by decide +kernel
theorem dX12_tellsLine_1 : decode cX12_tellsLine 1 = .ok (.invokevirtual 381, 3) := by decide +kernel
theorem dX12_tellsLine_4 : decode cX12_tellsLine 4 = .ok (.ifCond .ne 6, 3) := by decide +kernel
theorem dX12_tellsLine_7 : decode cX12_tellsLine 7 = .ok (.bipush (-3), 2) := by decide +kernel
theorem dX12_tellsLine_9 : decode cX12_tellsLine 9 = .ok (.ireturn, 1) := by decide +kernel
theorem dX12_tellsLine_10 : decode cX12_tellsLine 10 = .ok (.aload_n 0, 1) := by decide +kernel
theorem dX12_tellsLine_11 : decode cX12_tellsLine 11 = .ok (.iload_n 1, 1) := by decide +kernel
theorem dX12_tellsLine_12 : decode cX12_tellsLine 12 = .ok (.invokevirtual 384, 3) := by decide +kernel
theorem dX12_tellsLine_15 : decode cX12_tellsLine 15 = .ok (.aload_n 0, 1) := by decide +kernel
theorem dX12_tellsLine_16 : decode cX12_tellsLine 16 = .ok (.iconst 0, 1) := by decide +kernel
theorem dX12_tellsLine_17 : decode cX12_tellsLine 17 = .ok (.putfield 15, 3) := by decide +kernel
theorem dX12_tellsLine_20 : decode cX12_tellsLine 20 = .ok (.iconst 0, 1) := by decide +kernel
theorem dX12_tellsLine_21 : decode cX12_tellsLine 21 = .ok (.istore_n 2, 1) := by decide +kernel
theorem dX12_tellsLine_22 : decode cX12_tellsLine 22 = .ok (.aload_n 0, 1) := by decide +kernel
theorem dX12_tellsLine_23 : decode cX12_tellsLine 23 = .ok (.getfield 91, 3) := by decide +kernel
theorem dX12_tellsLine_26 : decode cX12_tellsLine 26 = .ok (.iconst 0, 1) := by decide +kernel
theorem dX12_tellsLine_27 : decode cX12_tellsLine 27 = .ok (.iaload, 1) := by decide +kernel
theorem dX12_tellsLine_28 : decode cX12_tellsLine 28 = .ok (.istore_n 3, 1) := by decide +kernel
theorem dX12_tellsLine_29 : decode cX12_tellsLine 29 = .ok (.iload_n 3, 1) := by decide +kernel
theorem dX12_tellsLine_30 : decode cX12_tellsLine 30 = .ok (.ifCond .le 67, 3) := by decide +kernel
theorem dX12_tellsLine_33 : decode cX12_tellsLine 33 = .ok (.aload_n 0, 1) := by decide +kernel
theorem dX12_tellsLine_34 : decode cX12_tellsLine 34 = .ok (.getfield 15, 3) := by decide +kernel
theorem dX12_tellsLine_37 : decode cX12_tellsLine 37 = .ok (.bipush 10, 2) := by decide +kernel
theorem dX12_tellsLine_39 : decode cX12_tellsLine 39 = .ok (.if_icmp .ge 14, 3) := by decide +kernel
theorem dX12_tellsLine_42 : decode cX12_tellsLine 42 = .ok (.aload_n 0, 1) := by decide +kernel
theorem dX12_tellsLine_43 : decode cX12_tellsLine 43 = .ok (.aload_n 0, 1) := by decide +kernel
theorem dX12_tellsLine_44 : decode cX12_tellsLine 44 = .ok (.getfield 94, 3) := by decide +kernel
theorem dX12_tellsLine_47 : decode cX12_tellsLine 47 = .ok (.iload_n 2, 1) := by decide +kernel
theorem dX12_tellsLine_48 : decode cX12_tellsLine 48 = .ok (.iaload, 1) := by decide +kernel
theorem dX12_tellsLine_49 : decode cX12_tellsLine 49 = .ok (.i2l, 1) := by decide +kernel
theorem dX12_tellsLine_50 : decode cX12_tellsLine 50 = .ok (.invokevirtual 279, 3) := by decide +kernel
theorem dX12_tellsLine_53 : decode cX12_tellsLine 53 = .ok (.aload_n 0, 1) := by decide +kernel
theorem dX12_tellsLine_54 : decode cX12_tellsLine 54 = .ok (.iload_n 2, 1) := by decide +kernel
theorem dX12_tellsLine_55 : decode cX12_tellsLine 55 = .ok (.aload_n 0, 1) := by decide +kernel
theorem dX12_tellsLine_56 : decode cX12_tellsLine 56 = .ok (.getfield 64, 3) := by decide +kernel
theorem dX12_tellsLine_59 : decode cX12_tellsLine 59 = .ok (.invokevirtual 368, 3) := by decide +kernel
theorem dX12_tellsLine_62 : decode cX12_tellsLine 62 = .ok (.aload_n 0, 1) := by decide +kernel
theorem dX12_tellsLine_63 : decode cX12_tellsLine 63 = .ok (.aload_n 0, 1) := by decide +kernel
theorem dX12_tellsLine_64 : decode cX12_tellsLine 64 = .ok (.getfield 64, 3) := by decide +kernel
theorem dX12_tellsLine_67 : decode cX12_tellsLine 67 = .ok (.aload_n 0, 1) := by decide +kernel
theorem dX12_tellsLine_68 : decode cX12_tellsLine 68 = .ok (.getfield 94, 3) := by decide +kernel
theorem dX12_tellsLine_71 : decode cX12_tellsLine 71 = .ok (.iload_n 2, 1) := by decide +kernel
theorem dX12_tellsLine_72 : decode cX12_tellsLine 72 = .ok (.iaload, 1) := by decide +kernel
theorem dX12_tellsLine_73 : decode cX12_tellsLine 73 = .ok (.invokevirtual 295, 3) := by decide +kernel
theorem dX12_tellsLine_76 : decode cX12_tellsLine 76 = .ok (.pop, 1) := by decide +kernel
theorem dX12_tellsLine_77 : decode cX12_tellsLine 77 = .ok (.aload_n 0, 1) := by decide +kernel
theorem dX12_tellsLine_78 : decode cX12_tellsLine 78 = .ok (.getfield 85, 3) := by decide +kernel
theorem dX12_tellsLine_81 : decode cX12_tellsLine 81 = .ok (.aload_n 0, 1) := by decide +kernel
theorem dX12_tellsLine_82 : decode cX12_tellsLine 82 = .ok (.aload_n 0, 1) := by decide +kernel
theorem dX12_tellsLine_83 : decode cX12_tellsLine 83 = .ok (.getfield 64, 3) := by decide +kernel
theorem dX12_tellsLine_86 : decode cX12_tellsLine 86 = .ok (.invokevirtual 354, 3) := by decide +kernel
theorem dX12_tellsLine_89 : decode cX12_tellsLine 89 = .ok (.iaload, 1) := by decide +kernel
theorem dX12_tellsLine_90 : decode cX12_tellsLine 90 = .ok (.istore_n 2, 1) := by decide +kernel
theorem dX12_tellsLine_91 : decode cX12_tellsLine 91 = .ok (.iinc 3 (-1), 3) := by decide +kernel
theorem dX12_tellsLine_94 : decode cX12_tellsLine 94 = .ok (.goto (-65), 3) := by decide +kernel
theorem dX12_tellsLine_97 : decode cX12_tellsLine 97 = .ok (.aload_n 0, 1) := by decide +kernel
theorem dX12_tellsLine_98 : decode cX12_tellsLine 98 = .ok (.getfield 91, 3) := by decide +kernel
theorem dX12_tellsLine_101 : decode cX12_tellsLine 101 = .ok (.iconst 0, 1) := by decide +kernel
theorem dX12_tellsLine_102 : decode cX12_tellsLine 102 = .ok (.iaload, 1) := by decide +kernel
theorem dX12_tellsLine_103 : decode cX12_tellsLine 103 = .ok (.ireturn, 1) := by decide +kernel
theorem dX12_longest_0 : decode cX12_longest 0 = .ok (.aload_n 0, 1) := by decide +kernel
theorem dX12_longest_1 : decode cX12_longest 1 = .ok (.iconst 0, 1) := by decide +kernel
theorem dX12_longest_2 : decode cX12_longest 2 = .ok (.putfield 3, 3) := by decide +kernel
theorem dX12_longest_5 : decode cX12_longest 5 = .ok (.aload_n 0, 1) := by decide +kernel
theorem dX12_longest_6 : decode cX12_longest 6 = .ok (.iconst 1, 1) := by decide +kernel
theorem dX12_longest_7 : decode cX12_longest 7 = .ok (.invokevirtual 387, 3) := by decide +kernel
theorem dX12_longest_10 : decode cX12_longest 10 = .ok (.ireturn, 1) := by decide +kernel
theorem dX12_shortest_0 : decode cX12_shortest 0 = .ok (.aload_n 0, 1) := by decide +kernel
theorem dX12_shortest_1 : decode cX12_shortest 1 = .ok (.iconst 0, 1) := by decide +kernel
theorem dX12_shortest_2 : decode cX12_shortest 2 = .ok (.putfield 3, 3) := by decide +kernel
theorem dX12_shortest_5 : decode cX12_shortest 5 = .ok (.aload_n 0, 1) := by decide +kernel
theorem dX12_shortest_6 : decode cX12_shortest 6 = .ok (.iconst 2, 1) := by decide +kernel
theorem dX12_shortest_7 : decode cX12_shortest 7 = .ok (.invokevirtual 387, 3) := by decide +kernel
theorem dX12_shortest_10 : decode cX12_shortest 10 = .ok (.ireturn, 1) := by decide +kernel
theorem dX12_firstMove_0 : decode cX12_firstMove 0 = .ok (.iload_n 1, 1) := by decide +kernel
theorem dX12_firstMove_1 : decode cX12_firstMove 1 = .ok (.istore_n 2, 1) := by decide +kernel
theorem dX12_firstMove_2 : decode cX12_firstMove 2 = .ok (.aload_n 0, 1) := by decide +kernel
theorem dX12_firstMove_3 : decode cX12_firstMove 3 = .ok (.getfield 76, 3) := by decide +kernel
theorem dX12_firstMove_6 : decode cX12_firstMove 6 = .ok (.iload_n 2, 1) := by decide +kernel
theorem dX12_firstMove_7 : decode cX12_firstMove 7 = .ok (.iaload, 1) := by decide +kernel
theorem dX12_firstMove_8 : decode cX12_firstMove 8 = .ok (.ifCond .le 13, 3) := by decide +kernel
theorem dX12_firstMove_11 : decode cX12_firstMove 11 = .ok (.aload_n 0, 1) := by decide +kernel
theorem dX12_firstMove_12 : decode cX12_firstMove 12 = .ok (.getfield 76, 3) := by decide +kernel
theorem dX12_firstMove_15 : decode cX12_firstMove 15 = .ok (.iload_n 2, 1) := by decide +kernel
theorem dX12_firstMove_16 : decode cX12_firstMove 16 = .ok (.iaload, 1) := by decide +kernel
theorem dX12_firstMove_17 : decode cX12_firstMove 17 = .ok (.istore_n 2, 1) := by decide +kernel
theorem dX12_firstMove_18 : decode cX12_firstMove 18 = .ok (.goto (-16), 3) := by decide +kernel
theorem dX12_firstMove_21 : decode cX12_firstMove 21 = .ok (.aload_n 0, 1) := by decide +kernel
theorem dX12_firstMove_22 : decode cX12_firstMove 22 = .ok (.getfield 79, 3) := by decide +kernel
theorem dX12_firstMove_25 : decode cX12_firstMove 25 = .ok (.iload_n 2, 1) := by decide +kernel
theorem dX12_firstMove_26 : decode cX12_firstMove 26 = .ok (.iaload, 1) := by decide +kernel
theorem dX12_firstMove_27 : decode cX12_firstMove 27 = .ok (.ireturn, 1) := by decide +kernel
theorem dX12_high_0 : decode cX12_high 0 = .ok (.aload_n 0, 1) := by decide +kernel
theorem dX12_high_1 : decode cX12_high 1 = .ok (.iconst 0, 1) := by decide +kernel
theorem dX12_high_2 : decode cX12_high 2 = .ok (.putfield 3, 3) := by decide +kernel
theorem dX12_high_5 : decode cX12_high 5 = .ok (.aload_n 0, 1) := by decide +kernel
theorem dX12_high_6 : decode cX12_high 6 = .ok (.invokevirtual 381, 3) := by decide +kernel
theorem dX12_high_9 : decode cX12_high 9 = .ok (.ifCond .ne 6, 3) := by decide +kernel
theorem dX12_high_12 : decode cX12_high 12 = .ok (.bipush (-3), 2) := by decide +kernel
theorem dX12_high_14 : decode cX12_high 14 = .ok (.ireturn, 1) := by decide +kernel
theorem dX12_high_15 : decode cX12_high 15 = .ok (.iconst 0, 1) := by decide +kernel
theorem dX12_high_16 : decode cX12_high 16 = .ok (.istore_n 1, 1) := by decide +kernel
theorem dX12_high_17 : decode cX12_high 17 = .ok (.iconst 1, 1) := by decide +kernel
theorem dX12_high_18 : decode cX12_high 18 = .ok (.istore_n 2, 1) := by decide +kernel
theorem dX12_high_19 : decode cX12_high 19 = .ok (.iload_n 2, 1) := by decide +kernel
theorem dX12_high_20 : decode cX12_high 20 = .ok (.aload_n 0, 1) := by decide +kernel
theorem dX12_high_21 : decode cX12_high 21 = .ok (.getfield 357, 3) := by decide +kernel
theorem dX12_high_24 : decode cX12_high 24 = .ok (.if_icmp .ge 42, 3) := by decide +kernel
theorem dX12_high_27 : decode cX12_high 27 = .ok (.aload_n 0, 1) := by decide +kernel
theorem dX12_high_28 : decode cX12_high 28 = .ok (.getfield 73, 3) := by decide +kernel
theorem dX12_high_31 : decode cX12_high 31 = .ok (.bipush 54, 2) := by decide +kernel
theorem dX12_high_33 : decode cX12_high 33 = .ok (.iload_n 2, 1) := by decide +kernel
theorem dX12_high_34 : decode cX12_high 34 = .ok (.imul, 1) := by decide +kernel
theorem dX12_high_35 : decode cX12_high 35 = .ok (.bipush 48, 2) := by decide +kernel
theorem dX12_high_37 : decode cX12_high 37 = .ok (.iadd, 1) := by decide +kernel
theorem dX12_high_38 : decode cX12_high 38 = .ok (.iaload, 1) := by decide +kernel
theorem dX12_high_39 : decode cX12_high 39 = .ok (.aload_n 0, 1) := by decide +kernel
theorem dX12_high_40 : decode cX12_high 40 = .ok (.getfield 73, 3) := by decide +kernel
theorem dX12_high_43 : decode cX12_high 43 = .ok (.bipush 54, 2) := by decide +kernel
theorem dX12_high_45 : decode cX12_high 45 = .ok (.iload_n 1, 1) := by decide +kernel
theorem dX12_high_46 : decode cX12_high 46 = .ok (.imul, 1) := by decide +kernel
theorem dX12_high_47 : decode cX12_high 47 = .ok (.bipush 48, 2) := by decide +kernel
theorem dX12_high_49 : decode cX12_high 49 = .ok (.iadd, 1) := by decide +kernel
theorem dX12_high_50 : decode cX12_high 50 = .ok (.iaload, 1) := by decide +kernel
theorem dX12_high_51 : decode cX12_high 51 = .ok (.if_icmp .le 7, 3) := by decide +kernel
theorem dX12_high_54 : decode cX12_high 54 = .ok (.iload_n 2, 1) := by decide +kernel
theorem dX12_high_55 : decode cX12_high 55 = .ok (.goto 4, 3) := by decide +kernel
theorem dX12_high_58 : decode cX12_high 58 = .ok (.iload_n 1, 1) := by decide +kernel
theorem dX12_high_59 : decode cX12_high 59 = .ok (.istore_n 1, 1) := by decide +kernel
theorem dX12_high_60 : decode cX12_high 60 = .ok (.iinc 2 1, 3) := by decide +kernel
theorem dX12_high_63 : decode cX12_high 63 = .ok (.goto (-44), 3) := by decide +kernel
theorem dX12_high_66 : decode cX12_high 66 = .ok (.aload_n 0, 1) := by decide +kernel
theorem dX12_high_67 : decode cX12_high 67 = .ok (.iconst 0, 1) := by decide +kernel
theorem dX12_high_68 : decode cX12_high 68 = .ok (.putfield 15, 3) := by decide +kernel
theorem dX12_high_71 : decode cX12_high 71 = .ok (.aload_n 0, 1) := by decide +kernel
theorem dX12_high_72 : decode cX12_high 72 = .ok (.aload_n 0, 1) := by decide +kernel
theorem dX12_high_73 : decode cX12_high 73 = .ok (.getfield 82, 3) := by decide +kernel
theorem dX12_high_76 : decode cX12_high 76 = .ok (.iload_n 1, 1) := by decide +kernel
theorem dX12_high_77 : decode cX12_high 77 = .ok (.iaload, 1) := by decide +kernel
theorem dX12_high_78 : decode cX12_high 78 = .ok (.i2l, 1) := by decide +kernel
theorem dX12_high_79 : decode cX12_high 79 = .ok (.invokevirtual 279, 3) := by decide +kernel
theorem dX12_high_82 : decode cX12_high 82 = .ok (.aload_n 0, 1) := by decide +kernel
theorem dX12_high_83 : decode cX12_high 83 = .ok (.aload_n 0, 1) := by decide +kernel
theorem dX12_high_84 : decode cX12_high 84 = .ok (.iload_n 1, 1) := by decide +kernel
theorem dX12_high_85 : decode cX12_high 85 = .ok (.invokevirtual 390, 3) := by decide +kernel
theorem dX12_high_88 : decode cX12_high 88 = .ok (.i2l, 1) := by decide +kernel
theorem dX12_high_89 : decode cX12_high 89 = .ok (.invokevirtual 279, 3) := by decide +kernel
theorem dX12_high_92 : decode cX12_high 92 = .ok (.aload_n 0, 1) := by decide +kernel
theorem dX12_high_93 : decode cX12_high 93 = .ok (.getfield 73, 3) := by decide +kernel
theorem dX12_high_96 : decode cX12_high 96 = .ok (.bipush 54, 2) := by decide +kernel
theorem dX12_high_98 : decode cX12_high 98 = .ok (.iload_n 1, 1) := by decide +kernel
theorem dX12_high_99 : decode cX12_high 99 = .ok (.imul, 1) := by decide +kernel
theorem dX12_high_100 : decode cX12_high 100 = .ok (.bipush 48, 2) := by decide +kernel
theorem dX12_high_102 : decode cX12_high 102 = .ok (.iadd, 1) := by decide +kernel
theorem dX12_high_103 : decode cX12_high 103 = .ok (.iaload, 1) := by decide +kernel
theorem dX12_high_104 : decode cX12_high 104 = .ok (.ireturn, 1) := by decide +kernel
theorem dX12_towers_0 : decode cX12_towers 0 = .ok (.aload_n 0, 1) := by decide +kernel
theorem dX12_towers_1 : decode cX12_towers 1 = .ok (.iconst 0, 1) := by decide +kernel
theorem dX12_towers_2 : decode cX12_towers 2 = .ok (.putfield 3, 3) := by decide +kernel
theorem dX12_towers_5 : decode cX12_towers 5 = .ok (.aload_n 0, 1) := by decide +kernel
theorem dX12_towers_6 : decode cX12_towers 6 = .ok (.invokevirtual 381, 3) := by decide +kernel
theorem dX12_towers_9 : decode cX12_towers 9 = .ok (.ifCond .ne 6, 3) := by decide +kernel
theorem dX12_towers_12 : decode cX12_towers 12 = .ok (.bipush (-3), 2) := by decide +kernel
theorem dX12_towers_14 : decode cX12_towers 14 = .ok (.ireturn, 1) := by decide +kernel
theorem dX12_towers_15 : decode cX12_towers 15 = .ok (.iconst 0, 1) := by decide +kernel
theorem dX12_towers_16 : decode cX12_towers 16 = .ok (.istore_n 1, 1) := by decide +kernel
theorem dX12_towers_17 : decode cX12_towers 17 = .ok (.iconst 0, 1) := by decide +kernel
theorem dX12_towers_18 : decode cX12_towers 18 = .ok (.istore_n 2, 1) := by decide +kernel
theorem dX12_towers_19 : decode cX12_towers 19 = .ok (.iload_n 2, 1) := by decide +kernel
theorem dX12_towers_20 : decode cX12_towers 20 = .ok (.aload_n 0, 1) := by decide +kernel
theorem dX12_towers_21 : decode cX12_towers 21 = .ok (.getfield 357, 3) := by decide +kernel
theorem dX12_towers_24 : decode cX12_towers 24 = .ok (.if_icmp .ge 40, 3) := by decide +kernel
theorem dX12_towers_27 : decode cX12_towers 27 = .ok (.aload_n 0, 1) := by decide +kernel
theorem dX12_towers_28 : decode cX12_towers 28 = .ok (.iload_n 2, 1) := by decide +kernel
theorem dX12_towers_29 : decode cX12_towers 29 = .ok (.aload_n 0, 1) := by decide +kernel
theorem dX12_towers_30 : decode cX12_towers 30 = .ok (.getfield 88, 3) := by decide +kernel
theorem dX12_towers_33 : decode cX12_towers 33 = .ok (.invokevirtual 368, 3) := by decide +kernel
theorem dX12_towers_36 : decode cX12_towers 36 = .ok (.iload_n 1, 1) := by decide +kernel
theorem dX12_towers_37 : decode cX12_towers 37 = .ok (.aload_n 0, 1) := by decide +kernel
theorem dX12_towers_38 : decode cX12_towers 38 = .ok (.aload_n 0, 1) := by decide +kernel
theorem dX12_towers_39 : decode cX12_towers 39 = .ok (.getfield 88, 3) := by decide +kernel
theorem dX12_towers_42 : decode cX12_towers 42 = .ok (.invokevirtual 325, 3) := by decide +kernel
theorem dX12_towers_45 : decode cX12_towers 45 = .ok (.ifCond .ne 7, 3) := by decide +kernel
theorem dX12_towers_48 : decode cX12_towers 48 = .ok (.iconst 1, 1) := by decide +kernel
theorem dX12_towers_49 : decode cX12_towers 49 = .ok (.goto 4, 3) := by decide +kernel
theorem dX12_towers_52 : decode cX12_towers 52 = .ok (.iconst 0, 1) := by decide +kernel
theorem dX12_towers_53 : decode cX12_towers 53 = .ok (.invokestatic 139, 3) := by decide +kernel
theorem dX12_towers_56 : decode cX12_towers 56 = .ok (.iadd, 1) := by decide +kernel
theorem dX12_towers_57 : decode cX12_towers 57 = .ok (.istore_n 1, 1) := by decide +kernel
theorem dX12_towers_58 : decode cX12_towers 58 = .ok (.iinc 2 1, 3) := by decide +kernel
theorem dX12_towers_61 : decode cX12_towers 61 = .ok (.goto (-42), 3) := by decide +kernel
theorem dX12_towers_64 : decode cX12_towers 64 = .ok (.aload_n 0, 1) := by decide +kernel
theorem dX12_towers_65 : decode cX12_towers 65 = .ok (.iconst 0, 1) := by decide +kernel
theorem dX12_towers_66 : decode cX12_towers 66 = .ok (.putfield 15, 3) := by decide +kernel
theorem dX12_towers_69 : decode cX12_towers 69 = .ok (.aload_n 0, 1) := by decide +kernel
theorem dX12_towers_70 : decode cX12_towers 70 = .ok (.iload_n 1, 1) := by decide +kernel
theorem dX12_towers_71 : decode cX12_towers 71 = .ok (.i2l, 1) := by decide +kernel
theorem dX12_towers_72 : decode cX12_towers 72 = .ok (.invokevirtual 279, 3) := by decide +kernel
theorem dX12_towers_75 : decode cX12_towers 75 = .ok (.aload_n 0, 1) := by decide +kernel
theorem dX12_towers_76 : decode cX12_towers 76 = .ok (.getfield 357, 3) := by decide +kernel
theorem dX12_towers_79 : decode cX12_towers 79 = .ok (.ireturn, 1) := by decide +kernel
theorem dX12_free_0 : decode cX12_free 0 = .ok (.aload_n 0, 1) := by decide +kernel
theorem dX12_free_1 : decode cX12_free 1 = .ok (.iconst 0, 1) := by decide +kernel
theorem dX12_free_2 : decode cX12_free 2 = .ok (.putfield 3, 3) := by decide +kernel
theorem dX12_free_5 : decode cX12_free 5 = .ok (.iload_n 1, 1) := by decide +kernel
theorem dX12_free_6 : decode cX12_free 6 = .ok (.i2l, 1) := by decide +kernel
theorem dX12_free_7 : decode cX12_free 7 = .ok (.lconst 0, 1) := by decide +kernel
theorem dX12_free_8 : decode cX12_free 8 = .ok (.ldc2_w 133, 3) := by decide +kernel
theorem dX12_free_11 : decode cX12_free 11 = .ok (.invokestatic 135, 3) := by decide +kernel
theorem dX12_free_14 : decode cX12_free 14 = .ok (.ifCond .eq 16, 3) := by decide +kernel
theorem dX12_free_17 : decode cX12_free 17 = .ok (.iload_n 1, 1) := by decide +kernel
theorem dX12_free_18 : decode cX12_free 18 = .ok (.iconst 3, 1) := by decide +kernel
theorem dX12_free_19 : decode cX12_free 19 = .ok (.idiv, 1) := by decide +kernel
theorem dX12_free_20 : decode cX12_free 20 = .ok (.aload_n 0, 1) := by decide +kernel
theorem dX12_free_21 : decode cX12_free 21 = .ok (.getfield 24, 3) := by decide +kernel
theorem dX12_free_24 : decode cX12_free 24 = .ok (.bipush 48, 2) := by decide +kernel
theorem dX12_free_26 : decode cX12_free 26 = .ok (.iaload, 1) := by decide +kernel
theorem dX12_free_27 : decode cX12_free 27 = .ok (.if_icmp .lt 5, 3) := by decide +kernel
theorem dX12_free_30 : decode cX12_free 30 = .ok (.iconst (-1), 1) := by decide +kernel
theorem dX12_free_31 : decode cX12_free 31 = .ok (.ireturn, 1) := by decide +kernel
theorem dX12_free_32 : decode cX12_free 32 = .ok (.aload_n 0, 1) := by decide +kernel
theorem dX12_free_33 : decode cX12_free 33 = .ok (.invokevirtual 372, 3) := by decide +kernel
theorem dX12_free_36 : decode cX12_free 36 = .ok (.iconst 0, 1) := by decide +kernel
theorem dX12_free_37 : decode cX12_free 37 = .ok (.istore_n 2, 1) := by decide +kernel
theorem dX12_free_38 : decode cX12_free 38 = .ok (.iconst 0, 1) := by decide +kernel
theorem dX12_free_39 : decode cX12_free 39 = .ok (.istore_n 3, 1) := by decide +kernel
theorem dX12_free_40 : decode cX12_free 40 = .ok (.iload_n 3, 1) := by decide +kernel
theorem dX12_free_41 : decode cX12_free 41 = .ok (.aload_n 0, 1) := by decide +kernel
theorem dX12_free_42 : decode cX12_free 42 = .ok (.getfield 357, 3) := by decide +kernel
theorem dX12_free_45 : decode cX12_free 45 = .ok (.if_icmp .ge 55, 3) := by decide +kernel
theorem dX12_free_48 : decode cX12_free 48 = .ok (.iload_n 2, 1) := by decide +kernel
theorem dX12_free_49 : decode cX12_free 49 = .ok (.aload_n 0, 1) := by decide +kernel
theorem dX12_free_50 : decode cX12_free 50 = .ok (.getfield 357, 3) := by decide +kernel
theorem dX12_free_53 : decode cX12_free 53 = .ok (.if_icmp .ge 29, 3) := by decide +kernel
theorem dX12_free_56 : decode cX12_free 56 = .ok (.aload_n 0, 1) := by decide +kernel
theorem dX12_free_57 : decode cX12_free 57 = .ok (.getfield 73, 3) := by decide +kernel
theorem dX12_free_60 : decode cX12_free 60 = .ok (.bipush 54, 2) := by decide +kernel
theorem dX12_free_62 : decode cX12_free 62 = .ok (.iload_n 2, 1) := by decide +kernel
theorem dX12_free_63 : decode cX12_free 63 = .ok (.imul, 1) := by decide +kernel
theorem dX12_free_64 : decode cX12_free 64 = .ok (.iload_n 1, 1) := by decide +kernel
theorem dX12_free_65 : decode cX12_free 65 = .ok (.iadd, 1) := by decide +kernel
theorem dX12_free_66 : decode cX12_free 66 = .ok (.iaload, 1) := by decide +kernel
theorem dX12_free_67 : decode cX12_free 67 = .ok (.ifCond .ge 9, 3) := by decide +kernel
theorem dX12_free_70 : decode cX12_free 70 = .ok (.aload_n 0, 1) := by decide +kernel
theorem dX12_free_71 : decode cX12_free 71 = .ok (.iload_n 2, 1) := by decide +kernel
theorem dX12_free_72 : decode cX12_free 72 = .ok (.invokevirtual 393, 3) := by decide +kernel
theorem dX12_free_75 : decode cX12_free 75 = .ok (.ireturn, 1) := by decide +kernel
theorem dX12_free_76 : decode cX12_free 76 = .ok (.iinc 2 1, 3) := by decide +kernel
theorem dX12_free_79 : decode cX12_free 79 = .ok (.goto (-31), 3) := by decide +kernel
theorem dX12_free_82 : decode cX12_free 82 = .ok (.aload_n 0, 1) := by decide +kernel
theorem dX12_free_83 : decode cX12_free 83 = .ok (.getfield 360, 3) := by decide +kernel
theorem dX12_free_86 : decode cX12_free 86 = .ok (.ifCond .ne 8, 3) := by decide +kernel
theorem dX12_free_89 : decode cX12_free 89 = .ok (.aload_n 0, 1) := by decide +kernel
theorem dX12_free_90 : decode cX12_free 90 = .ok (.iload_n 3, 1) := by decide +kernel
theorem dX12_free_91 : decode cX12_free 91 = .ok (.invokevirtual 375, 3) := by decide +kernel
theorem dX12_free_94 : decode cX12_free 94 = .ok (.iinc 3 1, 3) := by decide +kernel
theorem dX12_free_97 : decode cX12_free 97 = .ok (.goto (-57), 3) := by decide +kernel
theorem dX12_free_100 : decode cX12_free 100 = .ok (.aload_n 0, 1) := by decide +kernel
theorem dX12_free_101 : decode cX12_free 101 = .ok (.getfield 360, 3) := by decide +kernel
theorem dX12_free_104 : decode cX12_free 104 = .ok (.ifCond .eq 8, 3) := by decide +kernel
theorem dX12_free_107 : decode cX12_free 107 = .ok (.bipush (-3), 2) := by decide +kernel
theorem dX12_free_109 : decode cX12_free 109 = .ok (.goto 5, 3) := by decide +kernel
theorem dX12_free_112 : decode cX12_free 112 = .ok (.bipush (-2), 2) := by decide +kernel
theorem dX12_free_114 : decode cX12_free 114 = .ok (.ireturn, 1) := by decide +kernel
theorem dX12_tellsWay_0 : decode cX12_tellsWay 0 = .ok (.aload_n 0, 1) := by decide +kernel
theorem dX12_tellsWay_1 : decode cX12_tellsWay 1 = .ok (.getfield 82, 3) := by decide +kernel
theorem dX12_tellsWay_4 : decode cX12_tellsWay 4 = .ok (.iload_n 1, 1) := by decide +kernel
theorem dX12_tellsWay_5 : decode cX12_tellsWay 5 = .ok (.iaload, 1) := by decide +kernel
theorem dX12_tellsWay_6 : decode cX12_tellsWay 6 = .ok (.istore_n 2, 1) := by decide +kernel
theorem dX12_tellsWay_7 : decode cX12_tellsWay 7 = .ok (.iload_n 1, 1) := by decide +kernel
theorem dX12_tellsWay_8 : decode cX12_tellsWay 8 = .ok (.istore_n 3, 1) := by decide +kernel
theorem dX12_tellsWay_9 : decode cX12_tellsWay 9 = .ok (.iload_n 2, 1) := by decide +kernel
theorem dX12_tellsWay_10 : decode cX12_tellsWay 10 = .ok (.iconst 1, 1) := by decide +kernel
theorem dX12_tellsWay_11 : decode cX12_tellsWay 11 = .ok (.isub, 1) := by decide +kernel
theorem dX12_tellsWay_12 : decode cX12_tellsWay 12 = .ok (.istore 4, 2) := by decide +kernel
theorem dX12_tellsWay_14 : decode cX12_tellsWay 14 = .ok (.iload 4, 2) := by decide +kernel
theorem dX12_tellsWay_16 : decode cX12_tellsWay 16 = .ok (.ifCond .lt 29, 3) := by decide +kernel
theorem dX12_tellsWay_19 : decode cX12_tellsWay 19 = .ok (.aload_n 0, 1) := by decide +kernel
theorem dX12_tellsWay_20 : decode cX12_tellsWay 20 = .ok (.getfield 97, 3) := by decide +kernel
theorem dX12_tellsWay_23 : decode cX12_tellsWay 23 = .ok (.iload 4, 2) := by decide +kernel
theorem dX12_tellsWay_25 : decode cX12_tellsWay 25 = .ok (.aload_n 0, 1) := by decide +kernel
theorem dX12_tellsWay_26 : decode cX12_tellsWay 26 = .ok (.getfield 79, 3) := by decide +kernel
theorem dX12_tellsWay_29 : decode cX12_tellsWay 29 = .ok (.iload_n 3, 1) := by decide +kernel
theorem dX12_tellsWay_30 : decode cX12_tellsWay 30 = .ok (.iaload, 1) := by decide +kernel
theorem dX12_tellsWay_31 : decode cX12_tellsWay 31 = .ok (.iastore, 1) := by decide +kernel
theorem dX12_tellsWay_32 : decode cX12_tellsWay 32 = .ok (.aload_n 0, 1) := by decide +kernel
theorem dX12_tellsWay_33 : decode cX12_tellsWay 33 = .ok (.getfield 76, 3) := by decide +kernel
theorem dX12_tellsWay_36 : decode cX12_tellsWay 36 = .ok (.iload_n 3, 1) := by decide +kernel
theorem dX12_tellsWay_37 : decode cX12_tellsWay 37 = .ok (.iaload, 1) := by decide +kernel
theorem dX12_tellsWay_38 : decode cX12_tellsWay 38 = .ok (.istore_n 3, 1) := by decide +kernel
theorem dX12_tellsWay_39 : decode cX12_tellsWay 39 = .ok (.iinc 4 (-1), 3) := by decide +kernel
theorem dX12_tellsWay_42 : decode cX12_tellsWay 42 = .ok (.goto (-28), 3) := by decide +kernel
theorem dX12_tellsWay_45 : decode cX12_tellsWay 45 = .ok (.aload_n 0, 1) := by decide +kernel
theorem dX12_tellsWay_46 : decode cX12_tellsWay 46 = .ok (.iconst 0, 1) := by decide +kernel
theorem dX12_tellsWay_47 : decode cX12_tellsWay 47 = .ok (.putfield 15, 3) := by decide +kernel
theorem dX12_tellsWay_50 : decode cX12_tellsWay 50 = .ok (.iconst 0, 1) := by decide +kernel
theorem dX12_tellsWay_51 : decode cX12_tellsWay 51 = .ok (.istore 4, 2) := by decide +kernel
theorem dX12_tellsWay_53 : decode cX12_tellsWay 53 = .ok (.iload 4, 2) := by decide +kernel
theorem dX12_tellsWay_55 : decode cX12_tellsWay 55 = .ok (.iload_n 2, 1) := by decide +kernel
theorem dX12_tellsWay_56 : decode cX12_tellsWay 56 = .ok (.if_icmp .ge 28, 3) := by decide +kernel
theorem dX12_tellsWay_59 : decode cX12_tellsWay 59 = .ok (.iload 4, 2) := by decide +kernel
theorem dX12_tellsWay_61 : decode cX12_tellsWay 61 = .ok (.bipush 10, 2) := by decide +kernel
theorem dX12_tellsWay_63 : decode cX12_tellsWay 63 = .ok (.if_icmp .ge 21, 3) := by decide +kernel
theorem dX12_tellsWay_66 : decode cX12_tellsWay 66 = .ok (.aload_n 0, 1) := by decide +kernel
theorem dX12_tellsWay_67 : decode cX12_tellsWay 67 = .ok (.aload_n 0, 1) := by decide +kernel
theorem dX12_tellsWay_68 : decode cX12_tellsWay 68 = .ok (.getfield 97, 3) := by decide +kernel
theorem dX12_tellsWay_71 : decode cX12_tellsWay 71 = .ok (.iload 4, 2) := by decide +kernel
theorem dX12_tellsWay_73 : decode cX12_tellsWay 73 = .ok (.iaload, 1) := by decide +kernel
theorem dX12_tellsWay_74 : decode cX12_tellsWay 74 = .ok (.i2l, 1) := by decide +kernel
theorem dX12_tellsWay_75 : decode cX12_tellsWay 75 = .ok (.invokevirtual 279, 3) := by decide +kernel
theorem dX12_tellsWay_78 : decode cX12_tellsWay 78 = .ok (.iinc 4 1, 3) := by decide +kernel
theorem dX12_tellsWay_81 : decode cX12_tellsWay 81 = .ok (.goto (-28), 3) := by decide +kernel
theorem dX12_tellsWay_84 : decode cX12_tellsWay 84 = .ok (.iload_n 2, 1) := by decide +kernel
theorem dX12_tellsWay_85 : decode cX12_tellsWay 85 = .ok (.ireturn, 1) := by decide +kernel
theorem dX12_better_0 : decode cX12_better 0 = .ok (.bipush 100, 2) := by decide +kernel
theorem dX12_better_2 : decode cX12_better 2 = .ok (.aload_n 0, 1) := by decide +kernel
theorem dX12_better_3 : decode cX12_better 3 = .ok (.aload_n 1, 1) := by decide +kernel
theorem dX12_better_4 : decode cX12_better 4 = .ok (.iload_n 2, 1) := by decide +kernel
theorem dX12_better_5 : decode cX12_better 5 = .ok (.iconst 0, 1) := by decide +kernel
theorem dX12_better_6 : decode cX12_better 6 = .ok (.invokevirtual 312, 3) := by decide +kernel
theorem dX12_better_9 : decode cX12_better 9 = .ok (.aload_n 0, 1) := by decide +kernel
theorem dX12_better_10 : decode cX12_better 10 = .ok (.aload_n 1, 1) := by decide +kernel
theorem dX12_better_11 : decode cX12_better 11 = .ok (.iload_n 2, 1) := by decide +kernel
theorem dX12_better_12 : decode cX12_better 12 = .ok (.iconst 1, 1) := by decide +kernel
theorem dX12_better_13 : decode cX12_better 13 = .ok (.invokevirtual 312, 3) := by decide +kernel
theorem dX12_better_16 : decode cX12_better 16 = .ok (.invokestatic 152, 3) := by decide +kernel
theorem dX12_better_19 : decode cX12_better 19 = .ok (.isub, 1) := by decide +kernel
theorem dX12_better_20 : decode cX12_better 20 = .ok (.ireturn, 1) := by decide +kernel
theorem dX12_chance_0 : decode cX12_chance 0 = .ok (.aload_n 0, 1) := by decide +kernel
theorem dX12_chance_1 : decode cX12_chance 1 = .ok (.iconst 0, 1) := by decide +kernel
theorem dX12_chance_2 : decode cX12_chance 2 = .ok (.putfield 3, 3) := by decide +kernel
theorem dX12_chance_5 : decode cX12_chance 5 = .ok (.iload_n 1, 1) := by decide +kernel
theorem dX12_chance_6 : decode cX12_chance 6 = .ok (.i2l, 1) := by decide +kernel
theorem dX12_chance_7 : decode cX12_chance 7 = .ok (.lconst 0, 1) := by decide +kernel
theorem dX12_chance_8 : decode cX12_chance 8 = .ok (.ldc2_w 396, 3) := by decide +kernel
theorem dX12_chance_11 : decode cX12_chance 11 = .ok (.invokestatic 135, 3) := by decide +kernel
theorem dX12_chance_14 : decode cX12_chance 14 = .ok (.ifCond .ne 5, 3) := by decide +kernel
theorem dX12_chance_17 : decode cX12_chance 17 = .ok (.iconst (-1), 1) := by decide +kernel
theorem dX12_chance_18 : decode cX12_chance 18 = .ok (.ireturn, 1) := by decide +kernel
theorem dX12_chance_19 : decode cX12_chance 19 = .ok (.iload_n 1, 1) := by decide +kernel
theorem dX12_chance_20 : decode cX12_chance 20 = .ok (.ifCond .ne 7, 3) := by decide +kernel
theorem dX12_chance_23 : decode cX12_chance 23 = .ok (.iconst 1, 1) := by decide +kernel
theorem dX12_chance_24 : decode cX12_chance 24 = .ok (.goto 4, 3) := by decide +kernel
theorem dX12_chance_27 : decode cX12_chance 27 = .ok (.iconst 0, 1) := by decide +kernel
theorem dX12_chance_28 : decode cX12_chance 28 = .ok (.istore_n 2, 1) := by decide +kernel
theorem dX12_chance_29 : decode cX12_chance 29 = .ok (.iconst (-1), 1) := by decide +kernel
theorem dX12_chance_30 : decode cX12_chance 30 = .ok (.istore_n 3, 1) := by decide +kernel
theorem dX12_chance_31 : decode cX12_chance 31 = .ok (.iconst 0, 1) := by decide +kernel
theorem dX12_chance_32 : decode cX12_chance 32 = .ok (.istore 4, 2) := by decide +kernel
theorem dX12_chance_34 : decode cX12_chance 34 = .ok (.iload 4, 2) := by decide +kernel
theorem dX12_chance_36 : decode cX12_chance 36 = .ok (.sipush 480, 3) := by decide +kernel
theorem dX12_chance_39 : decode cX12_chance 39 = .ok (.if_icmp .ge 163, 3) := by decide +kernel
theorem dX12_chance_42 : decode cX12_chance 42 = .ok (.iload_n 1, 1) := by decide +kernel
theorem dX12_chance_43 : decode cX12_chance 43 = .ok (.ifCond .le 159, 3) := by decide +kernel
theorem dX12_chance_46 : decode cX12_chance 46 = .ok (.aload_n 0, 1) := by decide +kernel
theorem dX12_chance_47 : decode cX12_chance 47 = .ok (.aload_n 0, 1) := by decide +kernel
theorem dX12_chance_48 : decode cX12_chance 48 = .ok (.getfield 24, 3) := by decide +kernel
theorem dX12_chance_51 : decode cX12_chance 51 = .ok (.iload 4, 2) := by decide +kernel
theorem dX12_chance_53 : decode cX12_chance 53 = .ok (.invokevirtual 309, 3) := by decide +kernel
theorem dX12_chance_56 : decode cX12_chance 56 = .ok (.ifCond .ne 6, 3) := by decide +kernel
theorem dX12_chance_59 : decode cX12_chance 59 = .ok (.goto 137, 3) := by decide +kernel
theorem dX12_chance_62 : decode cX12_chance 62 = .ok (.aload_n 0, 1) := by decide +kernel
theorem dX12_chance_63 : decode cX12_chance 63 = .ok (.aload_n 0, 1) := by decide +kernel
theorem dX12_chance_64 : decode cX12_chance 64 = .ok (.getfield 24, 3) := by decide +kernel
theorem dX12_chance_67 : decode cX12_chance 67 = .ok (.iload 4, 2) := by decide +kernel
theorem dX12_chance_69 : decode cX12_chance 69 = .ok (.invokevirtual 398, 3) := by decide +kernel
theorem dX12_chance_72 : decode cX12_chance 72 = .ok (.istore 5, 2) := by decide +kernel
theorem dX12_chance_74 : decode cX12_chance 74 = .ok (.iload_n 1, 1) := by decide +kernel
theorem dX12_chance_75 : decode cX12_chance 75 = .ok (.iconst 2, 1) := by decide +kernel
theorem dX12_chance_76 : decode cX12_chance 76 = .ok (.if_icmp .ne 108, 3) := by decide +kernel
theorem dX12_chance_79 : decode cX12_chance 79 = .ok (.aload_n 0, 1) := by decide +kernel
theorem dX12_chance_80 : decode cX12_chance 80 = .ok (.getfield 24, 3) := by decide +kernel
theorem dX12_chance_83 : decode cX12_chance 83 = .ok (.aload_n 0, 1) := by decide +kernel
theorem dX12_chance_84 : decode cX12_chance 84 = .ok (.getfield 64, 3) := by decide +kernel
theorem dX12_chance_87 : decode cX12_chance 87 = .ok (.invokestatic 259, 3) := by decide +kernel
theorem dX12_chance_90 : decode cX12_chance 90 = .ok (.aload_n 0, 1) := by decide +kernel
theorem dX12_chance_91 : decode cX12_chance 91 = .ok (.aload_n 0, 1) := by decide +kernel
theorem dX12_chance_92 : decode cX12_chance 92 = .ok (.getfield 64, 3) := by decide +kernel
theorem dX12_chance_95 : decode cX12_chance 95 = .ok (.iload 4, 2) := by decide +kernel
theorem dX12_chance_97 : decode cX12_chance 97 = .ok (.invokevirtual 295, 3) := by decide +kernel
theorem dX12_chance_100 : decode cX12_chance 100 = .ok (.pop, 1) := by decide +kernel
theorem dX12_chance_101 : decode cX12_chance 101 = .ok (.aload_n 0, 1) := by decide +kernel
theorem dX12_chance_102 : decode cX12_chance 102 = .ok (.getfield 64, 3) := by decide +kernel
theorem dX12_chance_105 : decode cX12_chance 105 = .ok (.bipush 49, 2) := by decide +kernel
theorem dX12_chance_107 : decode cX12_chance 107 = .ok (.aload_n 0, 1) := by decide +kernel
theorem dX12_chance_108 : decode cX12_chance 108 = .ok (.getfield 24, 3) := by decide +kernel
theorem dX12_chance_111 : decode cX12_chance 111 = .ok (.bipush 49, 2) := by decide +kernel
theorem dX12_chance_113 : decode cX12_chance 113 = .ok (.iaload, 1) := by decide +kernel
theorem dX12_chance_114 : decode cX12_chance 114 = .ok (.iconst 1, 1) := by decide +kernel
theorem dX12_chance_115 : decode cX12_chance 115 = .ok (.iadd, 1) := by decide +kernel
theorem dX12_chance_116 : decode cX12_chance 116 = .ok (.aload_n 0, 1) := by decide +kernel
theorem dX12_chance_117 : decode cX12_chance 117 = .ok (.getfield 34, 3) := by decide +kernel
theorem dX12_chance_120 : decode cX12_chance 120 = .ok (.irem, 1) := by decide +kernel
theorem dX12_chance_121 : decode cX12_chance 121 = .ok (.iastore, 1) := by decide +kernel
theorem dX12_chance_122 : decode cX12_chance 122 = .ok (.iconst 0, 1) := by decide +kernel
theorem dX12_chance_123 : decode cX12_chance 123 = .ok (.istore 6, 2) := by decide +kernel
theorem dX12_chance_125 : decode cX12_chance 125 = .ok (.iconst 0, 1) := by decide +kernel
theorem dX12_chance_126 : decode cX12_chance 126 = .ok (.istore 7, 2) := by decide +kernel
theorem dX12_chance_128 : decode cX12_chance 128 = .ok (.iload 7, 2) := by decide +kernel
theorem dX12_chance_130 : decode cX12_chance 130 = .ok (.sipush 480, 3) := by decide +kernel
theorem dX12_chance_133 : decode cX12_chance 133 = .ok (.if_icmp .ge 44, 3) := by decide +kernel
theorem dX12_chance_136 : decode cX12_chance 136 = .ok (.aload_n 0, 1) := by decide +kernel
theorem dX12_chance_137 : decode cX12_chance 137 = .ok (.aload_n 0, 1) := by decide +kernel
theorem dX12_chance_138 : decode cX12_chance 138 = .ok (.getfield 64, 3) := by decide +kernel
theorem dX12_chance_141 : decode cX12_chance 141 = .ok (.iload 7, 2) := by decide +kernel
theorem dX12_chance_143 : decode cX12_chance 143 = .ok (.invokevirtual 309, 3) := by decide +kernel
theorem dX12_chance_146 : decode cX12_chance 146 = .ok (.ifCond .eq 21, 3) := by decide +kernel
theorem dX12_chance_149 : decode cX12_chance 149 = .ok (.iload 6, 2) := by decide +kernel
theorem dX12_chance_151 : decode cX12_chance 151 = .ok (.aload_n 0, 1) := by decide +kernel
theorem dX12_chance_152 : decode cX12_chance 152 = .ok (.aload_n 0, 1) := by decide +kernel
theorem dX12_chance_153 : decode cX12_chance 153 = .ok (.getfield 64, 3) := by decide +kernel
theorem dX12_chance_156 : decode cX12_chance 156 = .ok (.iload 7, 2) := by decide +kernel
theorem dX12_chance_158 : decode cX12_chance 158 = .ok (.invokevirtual 398, 3) := by decide +kernel
theorem dX12_chance_161 : decode cX12_chance 161 = .ok (.invokestatic 224, 3) := by decide +kernel
theorem dX12_chance_164 : decode cX12_chance 164 = .ok (.goto 5, 3) := by decide +kernel
theorem dX12_chance_167 : decode cX12_chance 167 = .ok (.iload 6, 2) := by decide +kernel
theorem dX12_chance_169 : decode cX12_chance 169 = .ok (.istore 6, 2) := by decide +kernel
theorem dX12_chance_171 : decode cX12_chance 171 = .ok (.iinc 7 1, 3) := by decide +kernel
theorem dX12_chance_174 : decode cX12_chance 174 = .ok (.goto (-46), 3) := by decide +kernel
theorem dX12_chance_177 : decode cX12_chance 177 = .ok (.iload 5, 2) := by decide +kernel
theorem dX12_chance_179 : decode cX12_chance 179 = .ok (.iload 6, 2) := by decide +kernel
theorem dX12_chance_181 : decode cX12_chance 181 = .ok (.imul, 1) := by decide +kernel
theorem dX12_chance_182 : decode cX12_chance 182 = .ok (.istore 5, 2) := by decide +kernel
theorem dX12_chance_184 : decode cX12_chance 184 = .ok (.iload 5, 2) := by decide +kernel
theorem dX12_chance_186 : decode cX12_chance 186 = .ok (.iload_n 2, 1) := by decide +kernel
theorem dX12_chance_187 : decode cX12_chance 187 = .ok (.if_icmp .le 9, 3) := by decide +kernel
theorem dX12_chance_190 : decode cX12_chance 190 = .ok (.iload 5, 2) := by decide +kernel
theorem dX12_chance_192 : decode cX12_chance 192 = .ok (.istore_n 2, 1) := by decide +kernel
theorem dX12_chance_193 : decode cX12_chance 193 = .ok (.iload 4, 2) := by decide +kernel
theorem dX12_chance_195 : decode cX12_chance 195 = .ok (.istore_n 3, 1) := by decide +kernel
theorem dX12_chance_196 : decode cX12_chance 196 = .ok (.iinc 4 1, 3) := by decide +kernel
theorem dX12_chance_199 : decode cX12_chance 199 = .ok (.goto (-165), 3) := by decide +kernel
theorem dX12_chance_202 : decode cX12_chance 202 = .ok (.iload_n 1, 1) := by decide +kernel
theorem dX12_chance_203 : decode cX12_chance 203 = .ok (.ifCond .ne 7, 3) := by decide +kernel
theorem dX12_chance_206 : decode cX12_chance 206 = .ok (.iconst 1, 1) := by decide +kernel
theorem dX12_chance_207 : decode cX12_chance 207 = .ok (.goto 16, 3) := by decide +kernel
theorem dX12_chance_210 : decode cX12_chance 210 = .ok (.iload_n 1, 1) := by decide +kernel
theorem dX12_chance_211 : decode cX12_chance 211 = .ok (.iconst 1, 1) := by decide +kernel
theorem dX12_chance_212 : decode cX12_chance 212 = .ok (.if_icmp .ne 8, 3) := by decide +kernel
theorem dX12_chance_215 : decode cX12_chance 215 = .ok (.bipush 100, 2) := by decide +kernel
theorem dX12_chance_217 : decode cX12_chance 217 = .ok (.goto 6, 3) := by decide +kernel
theorem dX12_chance_220 : decode cX12_chance 220 = .ok (.sipush 10000, 3) := by decide +kernel
theorem dX12_chance_223 : decode cX12_chance 223 = .ok (.istore 4, 2) := by decide +kernel
theorem dX12_chance_225 : decode cX12_chance 225 = .ok (.iload_n 2, 1) := by decide +kernel
theorem dX12_chance_226 : decode cX12_chance 226 = .ok (.i2l, 1) := by decide +kernel
theorem dX12_chance_227 : decode cX12_chance 227 = .ok (.iload 4, 2) := by decide +kernel
theorem dX12_chance_229 : decode cX12_chance 229 = .ok (.i2l, 1) := by decide +kernel
theorem dX12_chance_230 : decode cX12_chance 230 = .ok (.invokestatic 7, 3) := by decide +kernel
theorem dX12_chance_233 : decode cX12_chance 233 = .ok (.lstore 5, 2) := by decide +kernel
theorem dX12_chance_235 : decode cX12_chance 235 = .ok (.aload_n 0, 1) := by decide +kernel
theorem dX12_chance_236 : decode cX12_chance 236 = .ok (.iconst 0, 1) := by decide +kernel
theorem dX12_chance_237 : decode cX12_chance 237 = .ok (.putfield 15, 3) := by decide +kernel
theorem dX12_chance_240 : decode cX12_chance 240 = .ok (.aload_n 0, 1) := by decide +kernel
theorem dX12_chance_241 : decode cX12_chance 241 = .ok (.iload_n 2, 1) := by decide +kernel
theorem dX12_chance_242 : decode cX12_chance 242 = .ok (.i2l, 1) := by decide +kernel
theorem dX12_chance_243 : decode cX12_chance 243 = .ok (.lload 5, 2) := by decide +kernel
theorem dX12_chance_245 : decode cX12_chance 245 = .ok (.ldiv, 1) := by decide +kernel
theorem dX12_chance_246 : decode cX12_chance 246 = .ok (.invokevirtual 279, 3) := by decide +kernel
theorem dX12_chance_249 : decode cX12_chance 249 = .ok (.aload_n 0, 1) := by decide +kernel
theorem dX12_chance_250 : decode cX12_chance 250 = .ok (.iload 4, 2) := by decide +kernel
theorem dX12_chance_252 : decode cX12_chance 252 = .ok (.i2l, 1) := by decide +kernel
theorem dX12_chance_253 : decode cX12_chance 253 = .ok (.lload 5, 2) := by decide +kernel
theorem dX12_chance_255 : decode cX12_chance 255 = .ok (.ldiv, 1) := by decide +kernel
theorem dX12_chance_256 : decode cX12_chance 256 = .ok (.invokevirtual 279, 3) := by decide +kernel
theorem dX12_chance_259 : decode cX12_chance 259 = .ok (.aload_n 0, 1) := by decide +kernel
theorem dX12_chance_260 : decode cX12_chance 260 = .ok (.iload_n 3, 1) := by decide +kernel
theorem dX12_chance_261 : decode cX12_chance 261 = .ok (.i2l, 1) := by decide +kernel
theorem dX12_chance_262 : decode cX12_chance 262 = .ok (.invokevirtual 279, 3) := by decide +kernel
theorem dX12_chance_265 : decode cX12_chance 265 = .ok (.iconst 0, 1) := by decide +kernel
theorem dX12_chance_266 : decode cX12_chance 266 = .ok (.ireturn, 1) := by decide +kernel
theorem dX12_loser_0 : decode cX12_loser 0 = .ok (.aload_n 0, 1) := by decide +kernel
theorem dX12_loser_1 : decode cX12_loser 1 = .ok (.iconst 0, 1) := by decide +kernel
theorem dX12_loser_2 : decode cX12_loser 2 = .ok (.putfield 3, 3) := by decide +kernel
theorem dX12_loser_5 : decode cX12_loser 5 = .ok (.iload_n 1, 1) := by decide +kernel
theorem dX12_loser_6 : decode cX12_loser 6 = .ok (.i2l, 1) := by decide +kernel
theorem dX12_loser_7 : decode cX12_loser 7 = .ok (.lconst 0, 1) := by decide +kernel
theorem dX12_loser_8 : decode cX12_loser 8 = .ok (.ldc2_w 401, 3) := by decide +kernel
theorem dX12_loser_11 : decode cX12_loser 11 = .ok (.invokestatic 135, 3) := by decide +kernel
theorem dX12_loser_14 : decode cX12_loser 14 = .ok (.ifCond .ne 5, 3) := by decide +kernel
theorem dX12_loser_17 : decode cX12_loser 17 = .ok (.iconst (-1), 1) := by decide +kernel
theorem dX12_loser_18 : decode cX12_loser 18 = .ok (.ireturn, 1) := by decide +kernel
theorem dX12_loser_19 : decode cX12_loser 19 = .ok (.iconst 0, 1) := by decide +kernel
theorem dX12_loser_20 : decode cX12_loser 20 = .ok (.istore_n 2, 1) := by decide +kernel
theorem dX12_loser_21 : decode cX12_loser 21 = .ok (.iload_n 2, 1) := by decide +kernel
theorem dX12_loser_22 : decode cX12_loser 22 = .ok (.iconst 4, 1) := by decide +kernel
theorem dX12_loser_23 : decode cX12_loser 23 = .ok (.if_icmp .ge 16, 3) := by decide +kernel
theorem dX12_loser_26 : decode cX12_loser 26 = .ok (.aload_n 0, 1) := by decide +kernel
theorem dX12_loser_27 : decode cX12_loser 27 = .ok (.getfield 100, 3) := by decide +kernel
theorem dX12_loser_30 : decode cX12_loser 30 = .ok (.iload_n 2, 1) := by decide +kernel
theorem dX12_loser_31 : decode cX12_loser 31 = .ok (.iconst 0, 1) := by decide +kernel
theorem dX12_loser_32 : decode cX12_loser 32 = .ok (.iastore, 1) := by decide +kernel
theorem dX12_loser_33 : decode cX12_loser 33 = .ok (.iinc 2 1, 3) := by decide +kernel
theorem dX12_loser_36 : decode cX12_loser 36 = .ok (.goto (-15), 3) := by decide +kernel
theorem dX12_loser_39 : decode cX12_loser 39 = .ok (.aload_n 0, 1) := by decide +kernel
theorem dX12_loser_40 : decode cX12_loser 40 = .ok (.getfield 24, 3) := by decide +kernel
theorem dX12_loser_43 : decode cX12_loser 43 = .ok (.aload_n 0, 1) := by decide +kernel
theorem dX12_loser_44 : decode cX12_loser 44 = .ok (.getfield 28, 3) := by decide +kernel
theorem dX12_loser_47 : decode cX12_loser 47 = .ok (.invokestatic 259, 3) := by decide +kernel
theorem dX12_loser_50 : decode cX12_loser 50 = .ok (.sipush 10000, 3) := by decide +kernel
theorem dX12_loser_53 : decode cX12_loser 53 = .ok (.istore_n 2, 1) := by decide +kernel
theorem dX12_loser_54 : decode cX12_loser 54 = .ok (.iload_n 1, 1) := by decide +kernel
theorem dX12_loser_55 : decode cX12_loser 55 = .ok (.ifCond .le 14, 3) := by decide +kernel
theorem dX12_loser_58 : decode cX12_loser 58 = .ok (.aload_n 0, 1) := by decide +kernel
theorem dX12_loser_59 : decode cX12_loser 59 = .ok (.aload_n 0, 1) := by decide +kernel
theorem dX12_loser_60 : decode cX12_loser 60 = .ok (.getfield 28, 3) := by decide +kernel
theorem dX12_loser_63 : decode cX12_loser 63 = .ok (.invokevirtual 322, 3) := by decide +kernel
theorem dX12_loser_66 : decode cX12_loser 66 = .ok (.goto 4, 3) := by decide +kernel
theorem dX12_loser_69 : decode cX12_loser 69 = .ok (.iconst (-1), 1) := by decide +kernel
theorem dX12_loser_70 : decode cX12_loser 70 = .ok (.istore_n 3, 1) := by decide +kernel
theorem dX12_loser_71 : decode cX12_loser 71 = .ok (.iconst 0, 1) := by decide +kernel
theorem dX12_loser_72 : decode cX12_loser 72 = .ok (.istore 4, 2) := by decide +kernel
theorem dX12_loser_74 : decode cX12_loser 74 = .ok (.iload 4, 2) := by decide +kernel
theorem dX12_loser_76 : decode cX12_loser 76 = .ok (.iload_n 1, 1) := by decide +kernel
theorem dX12_loser_77 : decode cX12_loser 77 = .ok (.if_icmp .ge 86, 3) := by decide +kernel
theorem dX12_loser_80 : decode cX12_loser 80 = .ok (.iload_n 3, 1) := by decide +kernel
theorem dX12_loser_81 : decode cX12_loser 81 = .ok (.ifCond .lt 82, 3) := by decide +kernel
theorem dX12_loser_84 : decode cX12_loser 84 = .ok (.iload_n 2, 1) := by decide +kernel
theorem dX12_loser_85 : decode cX12_loser 85 = .ok (.aload_n 0, 1) := by decide +kernel
theorem dX12_loser_86 : decode cX12_loser 86 = .ok (.getfield 316, 3) := by decide +kernel
theorem dX12_loser_89 : decode cX12_loser 89 = .ok (.imul, 1) := by decide +kernel
theorem dX12_loser_90 : decode cX12_loser 90 = .ok (.bipush 100, 2) := by decide +kernel
theorem dX12_loser_92 : decode cX12_loser 92 = .ok (.idiv, 1) := by decide +kernel
theorem dX12_loser_93 : decode cX12_loser 93 = .ok (.istore 5, 2) := by decide +kernel
theorem dX12_loser_95 : decode cX12_loser 95 = .ok (.aload_n 0, 1) := by decide +kernel
theorem dX12_loser_96 : decode cX12_loser 96 = .ok (.getfield 100, 3) := by decide +kernel
theorem dX12_loser_99 : decode cX12_loser 99 = .ok (.aload_n 0, 1) := by decide +kernel
theorem dX12_loser_100 : decode cX12_loser 100 = .ok (.getfield 28, 3) := by decide +kernel
theorem dX12_loser_103 : decode cX12_loser 103 = .ok (.bipush 49, 2) := by decide +kernel
theorem dX12_loser_105 : decode cX12_loser 105 = .ok (.iaload, 1) := by decide +kernel
theorem dX12_loser_106 : decode cX12_loser 106 = .ok (.dup2, 1) := by decide +kernel
theorem dX12_loser_107 : decode cX12_loser 107 = .ok (.iaload, 1) := by decide +kernel
theorem dX12_loser_108 : decode cX12_loser 108 = .ok (.iload 5, 2) := by decide +kernel
theorem dX12_loser_110 : decode cX12_loser 110 = .ok (.iadd, 1) := by decide +kernel
theorem dX12_loser_111 : decode cX12_loser 111 = .ok (.iastore, 1) := by decide +kernel
theorem dX12_loser_112 : decode cX12_loser 112 = .ok (.iload_n 2, 1) := by decide +kernel
theorem dX12_loser_113 : decode cX12_loser 113 = .ok (.iload 5, 2) := by decide +kernel
theorem dX12_loser_115 : decode cX12_loser 115 = .ok (.isub, 1) := by decide +kernel
theorem dX12_loser_116 : decode cX12_loser 116 = .ok (.istore_n 2, 1) := by decide +kernel
theorem dX12_loser_117 : decode cX12_loser 117 = .ok (.aload_n 0, 1) := by decide +kernel
theorem dX12_loser_118 : decode cX12_loser 118 = .ok (.aload_n 0, 1) := by decide +kernel
theorem dX12_loser_119 : decode cX12_loser 119 = .ok (.getfield 28, 3) := by decide +kernel
theorem dX12_loser_122 : decode cX12_loser 122 = .ok (.iload_n 3, 1) := by decide +kernel
theorem dX12_loser_123 : decode cX12_loser 123 = .ok (.invokevirtual 295, 3) := by decide +kernel
theorem dX12_loser_126 : decode cX12_loser 126 = .ok (.pop, 1) := by decide +kernel
theorem dX12_loser_127 : decode cX12_loser 127 = .ok (.aload_n 0, 1) := by decide +kernel
theorem dX12_loser_128 : decode cX12_loser 128 = .ok (.getfield 28, 3) := by decide +kernel
theorem dX12_loser_131 : decode cX12_loser 131 = .ok (.bipush 49, 2) := by decide +kernel
theorem dX12_loser_133 : decode cX12_loser 133 = .ok (.aload_n 0, 1) := by decide +kernel
theorem dX12_loser_134 : decode cX12_loser 134 = .ok (.getfield 28, 3) := by decide +kernel
theorem dX12_loser_137 : decode cX12_loser 137 = .ok (.bipush 49, 2) := by decide +kernel
theorem dX12_loser_139 : decode cX12_loser 139 = .ok (.iaload, 1) := by decide +kernel
theorem dX12_loser_140 : decode cX12_loser 140 = .ok (.iconst 1, 1) := by decide +kernel
theorem dX12_loser_141 : decode cX12_loser 141 = .ok (.iadd, 1) := by decide +kernel
theorem dX12_loser_142 : decode cX12_loser 142 = .ok (.aload_n 0, 1) := by decide +kernel
theorem dX12_loser_143 : decode cX12_loser 143 = .ok (.getfield 34, 3) := by decide +kernel
theorem dX12_loser_146 : decode cX12_loser 146 = .ok (.irem, 1) := by decide +kernel
theorem dX12_loser_147 : decode cX12_loser 147 = .ok (.iastore, 1) := by decide +kernel
theorem dX12_loser_148 : decode cX12_loser 148 = .ok (.aload_n 0, 1) := by decide +kernel
theorem dX12_loser_149 : decode cX12_loser 149 = .ok (.aload_n 0, 1) := by decide +kernel
theorem dX12_loser_150 : decode cX12_loser 150 = .ok (.getfield 28, 3) := by decide +kernel
theorem dX12_loser_153 : decode cX12_loser 153 = .ok (.invokevirtual 322, 3) := by decide +kernel
theorem dX12_loser_156 : decode cX12_loser 156 = .ok (.istore_n 3, 1) := by decide +kernel
theorem dX12_loser_157 : decode cX12_loser 157 = .ok (.iinc 4 1, 3) := by decide +kernel
theorem dX12_loser_160 : decode cX12_loser 160 = .ok (.goto (-86), 3) := by decide +kernel
theorem dX12_loser_163 : decode cX12_loser 163 = .ok (.iconst 0, 1) := by decide +kernel
theorem dX12_loser_164 : decode cX12_loser 164 = .ok (.istore 4, 2) := by decide +kernel
theorem dX12_loser_166 : decode cX12_loser 166 = .ok (.aload_n 0, 1) := by decide +kernel
theorem dX12_loser_167 : decode cX12_loser 167 = .ok (.iconst 0, 1) := by decide +kernel
theorem dX12_loser_168 : decode cX12_loser 168 = .ok (.putfield 15, 3) := by decide +kernel
theorem dX12_loser_171 : decode cX12_loser 171 = .ok (.iconst 0, 1) := by decide +kernel
theorem dX12_loser_172 : decode cX12_loser 172 = .ok (.istore 5, 2) := by decide +kernel
theorem dX12_loser_174 : decode cX12_loser 174 = .ok (.iload 5, 2) := by decide +kernel
theorem dX12_loser_176 : decode cX12_loser 176 = .ok (.aload_n 0, 1) := by decide +kernel
theorem dX12_loser_177 : decode cX12_loser 177 = .ok (.getfield 34, 3) := by decide +kernel
theorem dX12_loser_180 : decode cX12_loser 180 = .ok (.if_icmp .ge 47, 3) := by decide +kernel
theorem dX12_loser_183 : decode cX12_loser 183 = .ok (.aload_n 0, 1) := by decide +kernel
theorem dX12_loser_184 : decode cX12_loser 184 = .ok (.getfield 100, 3) := by decide +kernel
theorem dX12_loser_187 : decode cX12_loser 187 = .ok (.iload 5, 2) := by decide +kernel
theorem dX12_loser_189 : decode cX12_loser 189 = .ok (.iaload, 1) := by decide +kernel
theorem dX12_loser_190 : decode cX12_loser 190 = .ok (.aload_n 0, 1) := by decide +kernel
theorem dX12_loser_191 : decode cX12_loser 191 = .ok (.getfield 100, 3) := by decide +kernel
theorem dX12_loser_194 : decode cX12_loser 194 = .ok (.iload 4, 2) := by decide +kernel
theorem dX12_loser_196 : decode cX12_loser 196 = .ok (.iaload, 1) := by decide +kernel
theorem dX12_loser_197 : decode cX12_loser 197 = .ok (.if_icmp .le 8, 3) := by decide +kernel
theorem dX12_loser_200 : decode cX12_loser 200 = .ok (.iload 5, 2) := by decide +kernel
theorem dX12_loser_202 : decode cX12_loser 202 = .ok (.goto 5, 3) := by decide +kernel
theorem dX12_loser_205 : decode cX12_loser 205 = .ok (.iload 4, 2) := by decide +kernel
theorem dX12_loser_207 : decode cX12_loser 207 = .ok (.istore 4, 2) := by decide +kernel
theorem dX12_loser_209 : decode cX12_loser 209 = .ok (.aload_n 0, 1) := by decide +kernel
theorem dX12_loser_210 : decode cX12_loser 210 = .ok (.aload_n 0, 1) := by decide +kernel
theorem dX12_loser_211 : decode cX12_loser 211 = .ok (.getfield 100, 3) := by decide +kernel
theorem dX12_loser_214 : decode cX12_loser 214 = .ok (.iload 5, 2) := by decide +kernel
theorem dX12_loser_216 : decode cX12_loser 216 = .ok (.iaload, 1) := by decide +kernel
theorem dX12_loser_217 : decode cX12_loser 217 = .ok (.i2l, 1) := by decide +kernel
theorem dX12_loser_218 : decode cX12_loser 218 = .ok (.invokevirtual 279, 3) := by decide +kernel
theorem dX12_loser_221 : decode cX12_loser 221 = .ok (.iinc 5 1, 3) := by decide +kernel
theorem dX12_loser_224 : decode cX12_loser 224 = .ok (.goto (-50), 3) := by decide +kernel
theorem dX12_loser_227 : decode cX12_loser 227 = .ok (.aload_n 0, 1) := by decide +kernel
theorem dX12_loser_228 : decode cX12_loser 228 = .ok (.iload_n 2, 1) := by decide +kernel
theorem dX12_loser_229 : decode cX12_loser 229 = .ok (.i2l, 1) := by decide +kernel
theorem dX12_loser_230 : decode cX12_loser 230 = .ok (.invokevirtual 279, 3) := by decide +kernel
theorem dX12_loser_233 : decode cX12_loser 233 = .ok (.iload 4, 2) := by decide +kernel
theorem dX12_loser_235 : decode cX12_loser 235 = .ok (.ireturn, 1) := by decide +kernel
theorem dX12_forgets_0 : decode cX12_forgets 0 = .ok (.aload_n 0, 1) := by decide +kernel
theorem dX12_forgets_1 : decode cX12_forgets 1 = .ok (.getfield 403, 3) := by decide +kernel
theorem dX12_forgets_4 : decode cX12_forgets 4 = .ok (.istore_n 1, 1) := by decide +kernel
theorem dX12_forgets_5 : decode cX12_forgets 5 = .ok (.aload_n 0, 1) := by decide +kernel
theorem dX12_forgets_6 : decode cX12_forgets 6 = .ok (.iconst 0, 1) := by decide +kernel
theorem dX12_forgets_7 : decode cX12_forgets 7 = .ok (.putfield 403, 3) := by decide +kernel
theorem dX12_forgets_10 : decode cX12_forgets 10 = .ok (.iconst 0, 1) := by decide +kernel
theorem dX12_forgets_11 : decode cX12_forgets 11 = .ok (.istore_n 2, 1) := by decide +kernel
theorem dX12_forgets_12 : decode cX12_forgets 12 = .ok (.iload_n 2, 1) := by decide +kernel
theorem dX12_forgets_13 : decode cX12_forgets 13 = .ok (.bipush 48, 2) := by decide +kernel
theorem dX12_forgets_15 : decode cX12_forgets 15 = .ok (.if_icmp .ge 24, 3) := by decide +kernel
theorem dX12_forgets_18 : decode cX12_forgets 18 = .ok (.aload_n 0, 1) := by decide +kernel
theorem dX12_forgets_19 : decode cX12_forgets 19 = .ok (.getfield 109, 3) := by decide +kernel
theorem dX12_forgets_22 : decode cX12_forgets 22 = .ok (.iload_n 2, 1) := by decide +kernel
theorem dX12_forgets_23 : decode cX12_forgets 23 = .ok (.iconst 0, 1) := by decide +kernel
theorem dX12_forgets_24 : decode cX12_forgets 24 = .ok (.iastore, 1) := by decide +kernel
theorem dX12_forgets_25 : decode cX12_forgets 25 = .ok (.aload_n 0, 1) := by decide +kernel
theorem dX12_forgets_26 : decode cX12_forgets 26 = .ok (.getfield 112, 3) := by decide +kernel
theorem dX12_forgets_29 : decode cX12_forgets 29 = .ok (.iload_n 2, 1) := by decide +kernel
theorem dX12_forgets_30 : decode cX12_forgets 30 = .ok (.bipush 9, 2) := by decide +kernel
theorem dX12_forgets_32 : decode cX12_forgets 32 = .ok (.iastore, 1) := by decide +kernel
theorem dX12_forgets_33 : decode cX12_forgets 33 = .ok (.iinc 2 1, 3) := by decide +kernel
theorem dX12_forgets_36 : decode cX12_forgets 36 = .ok (.goto (-24), 3) := by decide +kernel
theorem dX12_forgets_39 : decode cX12_forgets 39 = .ok (.iload_n 1, 1) := by decide +kernel
theorem dX12_forgets_40 : decode cX12_forgets 40 = .ok (.ireturn, 1) := by decide +kernel
theorem dX12_felt_0 : decode cX12_felt 0 = .ok (.aload_n 0, 1) := by decide +kernel
theorem dX12_felt_1 : decode cX12_felt 1 = .ok (.iconst 0, 1) := by decide +kernel
theorem dX12_felt_2 : decode cX12_felt 2 = .ok (.putfield 3, 3) := by decide +kernel
theorem dX12_felt_5 : decode cX12_felt 5 = .ok (.aload_n 0, 1) := by decide +kernel
theorem dX12_felt_6 : decode cX12_felt 6 = .ok (.getfield 24, 3) := by decide +kernel
theorem dX12_felt_9 : decode cX12_felt 9 = .ok (.iload_n 1, 1) := by decide +kernel
theorem dX12_felt_10 : decode cX12_felt 10 = .ok (.invokestatic 244, 3) := by decide +kernel
theorem dX12_felt_13 : decode cX12_felt 13 = .ok (.ifCond .eq 22, 3) := by decide +kernel
theorem dX12_felt_16 : decode cX12_felt 16 = .ok (.iload_n 2, 1) := by decide +kernel
theorem dX12_felt_17 : decode cX12_felt 17 = .ok (.i2l, 1) := by decide +kernel
theorem dX12_felt_18 : decode cX12_felt 18 = .ok (.lconst 0, 1) := by decide +kernel
theorem dX12_felt_19 : decode cX12_felt 19 = .ok (.lconst 1, 1) := by decide +kernel
theorem dX12_felt_20 : decode cX12_felt 20 = .ok (.invokestatic 135, 3) := by decide +kernel
theorem dX12_felt_23 : decode cX12_felt 23 = .ok (.ifCond .eq 12, 3) := by decide +kernel
theorem dX12_felt_26 : decode cX12_felt 26 = .ok (.aload_n 0, 1) := by decide +kernel
theorem dX12_felt_27 : decode cX12_felt 27 = .ok (.getfield 403, 3) := by decide +kernel
theorem dX12_felt_30 : decode cX12_felt 30 = .ok (.bipush 20, 2) := by decide +kernel
theorem dX12_felt_32 : decode cX12_felt 32 = .ok (.if_icmp .ne 5, 3) := by decide +kernel
theorem dX12_felt_35 : decode cX12_felt 35 = .ok (.iconst (-1), 1) := by decide +kernel
theorem dX12_felt_36 : decode cX12_felt 36 = .ok (.ireturn, 1) := by decide +kernel
theorem dX12_felt_37 : decode cX12_felt 37 = .ok (.aload_n 0, 1) := by decide +kernel
theorem dX12_felt_38 : decode cX12_felt 38 = .ok (.getfield 103, 3) := by decide +kernel
theorem dX12_felt_41 : decode cX12_felt 41 = .ok (.aload_n 0, 1) := by decide +kernel
theorem dX12_felt_42 : decode cX12_felt 42 = .ok (.getfield 403, 3) := by decide +kernel
theorem dX12_felt_45 : decode cX12_felt 45 = .ok (.iload_n 1, 1) := by decide +kernel
theorem dX12_felt_46 : decode cX12_felt 46 = .ok (.iastore, 1) := by decide +kernel
theorem dX12_felt_47 : decode cX12_felt 47 = .ok (.aload_n 0, 1) := by decide +kernel
theorem dX12_felt_48 : decode cX12_felt 48 = .ok (.getfield 106, 3) := by decide +kernel
theorem dX12_felt_51 : decode cX12_felt 51 = .ok (.aload_n 0, 1) := by decide +kernel
theorem dX12_felt_52 : decode cX12_felt 52 = .ok (.getfield 403, 3) := by decide +kernel
theorem dX12_felt_55 : decode cX12_felt 55 = .ok (.iload_n 2, 1) := by decide +kernel
theorem dX12_felt_56 : decode cX12_felt 56 = .ok (.iastore, 1) := by decide +kernel
theorem dX12_felt_57 : decode cX12_felt 57 = .ok (.aload_n 0, 1) := by decide +kernel
theorem dX12_felt_58 : decode cX12_felt 58 = .ok (.dup, 1) := by decide +kernel
theorem dX12_felt_59 : decode cX12_felt 59 = .ok (.getfield 403, 3) := by decide +kernel
theorem dX12_felt_62 : decode cX12_felt 62 = .ok (.iconst 1, 1) := by decide +kernel
theorem dX12_felt_63 : decode cX12_felt 63 = .ok (.iadd, 1) := by decide +kernel
theorem dX12_felt_64 : decode cX12_felt 64 = .ok (.putfield 403, 3) := by decide +kernel
theorem dX12_felt_67 : decode cX12_felt 67 = .ok (.aload_n 0, 1) := by decide +kernel
theorem dX12_felt_68 : decode cX12_felt 68 = .ok (.getfield 403, 3) := by decide +kernel
theorem dX12_felt_71 : decode cX12_felt 71 = .ok (.ireturn, 1) := by decide +kernel
theorem dX12_known_0 : decode cX12_known 0 = .ok (.aload_n 0, 1) := by decide +kernel
theorem dX12_known_1 : decode cX12_known 1 = .ok (.iconst 0, 1) := by decide +kernel
theorem dX12_known_2 : decode cX12_known 2 = .ok (.putfield 3, 3) := by decide +kernel
theorem dX12_known_5 : decode cX12_known 5 = .ok (.aload_n 0, 1) := by decide +kernel
theorem dX12_known_6 : decode cX12_known 6 = .ok (.getfield 24, 3) := by decide +kernel
theorem dX12_known_9 : decode cX12_known 9 = .ok (.iload_n 1, 1) := by decide +kernel
theorem dX12_known_10 : decode cX12_known 10 = .ok (.invokestatic 244, 3) := by decide +kernel
theorem dX12_known_13 : decode cX12_known 13 = .ok (.ifCond .eq 28, 3) := by decide +kernel
theorem dX12_known_16 : decode cX12_known 16 = .ok (.iload_n 2, 1) := by decide +kernel
theorem dX12_known_17 : decode cX12_known 17 = .ok (.i2l, 1) := by decide +kernel
theorem dX12_known_18 : decode cX12_known 18 = .ok (.lconst 0, 1) := by decide +kernel
theorem dX12_known_19 : decode cX12_known 19 = .ok (.ldc2_w 272, 3) := by decide +kernel
theorem dX12_known_22 : decode cX12_known 22 = .ok (.invokestatic 135, 3) := by decide +kernel
theorem dX12_known_25 : decode cX12_known 25 = .ok (.ifCond .eq 16, 3) := by decide +kernel
theorem dX12_known_28 : decode cX12_known 28 = .ok (.iload_n 3, 1) := by decide +kernel
theorem dX12_known_29 : decode cX12_known 29 = .ok (.i2l, 1) := by decide +kernel
theorem dX12_known_30 : decode cX12_known 30 = .ok (.iload_n 2, 1) := by decide +kernel
theorem dX12_known_31 : decode cX12_known 31 = .ok (.i2l, 1) := by decide +kernel
theorem dX12_known_32 : decode cX12_known 32 = .ok (.ldc2_w 272, 3) := by decide +kernel
theorem dX12_known_35 : decode cX12_known 35 = .ok (.invokestatic 135, 3) := by decide +kernel
theorem dX12_known_38 : decode cX12_known 38 = .ok (.ifCond .ne 5, 3) := by decide +kernel
theorem dX12_known_41 : decode cX12_known 41 = .ok (.iconst 0, 1) := by decide +kernel
theorem dX12_known_42 : decode cX12_known 42 = .ok (.ireturn, 1) := by decide +kernel
theorem dX12_known_43 : decode cX12_known 43 = .ok (.aload_n 0, 1) := by decide +kernel
theorem dX12_known_44 : decode cX12_known 44 = .ok (.getfield 109, 3) := by decide +kernel
theorem dX12_known_47 : decode cX12_known 47 = .ok (.iload_n 1, 1) := by decide +kernel
theorem dX12_known_48 : decode cX12_known 48 = .ok (.iload_n 2, 1) := by decide +kernel
theorem dX12_known_49 : decode cX12_known 49 = .ok (.iastore, 1) := by decide +kernel
theorem dX12_known_50 : decode cX12_known 50 = .ok (.aload_n 0, 1) := by decide +kernel
theorem dX12_known_51 : decode cX12_known 51 = .ok (.getfield 112, 3) := by decide +kernel
theorem dX12_known_54 : decode cX12_known 54 = .ok (.iload_n 1, 1) := by decide +kernel
theorem dX12_known_55 : decode cX12_known 55 = .ok (.iload_n 3, 1) := by decide +kernel
theorem dX12_known_56 : decode cX12_known 56 = .ok (.iastore, 1) := by decide +kernel
theorem dX12_known_57 : decode cX12_known 57 = .ok (.iconst 1, 1) := by decide +kernel
theorem dX12_known_58 : decode cX12_known 58 = .ok (.ireturn, 1) := by decide +kernel
theorem dX12_forget_0 : decode cX12_forget 0 = .ok (.aload_n 0, 1) := by decide +kernel
theorem dX12_forget_1 : decode cX12_forget 1 = .ok (.iconst 0, 1) := by decide +kernel
theorem dX12_forget_2 : decode cX12_forget 2 = .ok (.putfield 3, 3) := by decide +kernel
theorem dX12_forget_5 : decode cX12_forget 5 = .ok (.aload_n 0, 1) := by decide +kernel
theorem dX12_forget_6 : decode cX12_forget 6 = .ok (.invokevirtual 129, 3) := by decide +kernel
theorem dX12_forget_9 : decode cX12_forget 9 = .ok (.ireturn, 1) := by decide +kernel
theorem dX12_canBe_0 : decode cX12_canBe 0 = .ok (.aload_n 1, 1) := by decide +kernel
theorem dX12_canBe_1 : decode cX12_canBe 1 = .ok (.iload_n 2, 1) := by decide +kernel
theorem dX12_canBe_2 : decode cX12_canBe 2 = .ok (.invokestatic 227, 3) := by decide +kernel
theorem dX12_canBe_5 : decode cX12_canBe 5 = .ok (.istore_n 3, 1) := by decide +kernel
theorem dX12_canBe_6 : decode cX12_canBe 6 = .ok (.iconst 1, 1) := by decide +kernel
theorem dX12_canBe_7 : decode cX12_canBe 7 = .ok (.istore 4, 2) := by decide +kernel
theorem dX12_canBe_9 : decode cX12_canBe 9 = .ok (.iconst 0, 1) := by decide +kernel
theorem dX12_canBe_10 : decode cX12_canBe 10 = .ok (.istore 5, 2) := by decide +kernel
theorem dX12_canBe_12 : decode cX12_canBe 12 = .ok (.iload 5, 2) := by decide +kernel
theorem dX12_canBe_14 : decode cX12_canBe 14 = .ok (.aload_n 0, 1) := by decide +kernel
theorem dX12_canBe_15 : decode cX12_canBe 15 = .ok (.getfield 403, 3) := by decide +kernel
theorem dX12_canBe_18 : decode cX12_canBe 18 = .ok (.if_icmp .ge 63, 3) := by decide +kernel
theorem dX12_canBe_21 : decode cX12_canBe 21 = .ok (.iload 4, 2) := by decide +kernel
theorem dX12_canBe_23 : decode cX12_canBe 23 = .ok (.ifCond .eq 58, 3) := by decide +kernel
theorem dX12_canBe_26 : decode cX12_canBe 26 = .ok (.aload_n 0, 1) := by decide +kernel
theorem dX12_canBe_27 : decode cX12_canBe 27 = .ok (.getfield 103, 3) := by decide +kernel
theorem dX12_canBe_30 : decode cX12_canBe 30 = .ok (.iload 5, 2) := by decide +kernel
theorem dX12_canBe_32 : decode cX12_canBe 32 = .ok (.iaload, 1) := by decide +kernel
theorem dX12_canBe_33 : decode cX12_canBe 33 = .ok (.istore 6, 2) := by decide +kernel
theorem dX12_canBe_35 : decode cX12_canBe 35 = .ok (.iload 6, 2) := by decide +kernel
theorem dX12_canBe_37 : decode cX12_canBe 37 = .ok (.iconst 3, 1) := by decide +kernel
theorem dX12_canBe_38 : decode cX12_canBe 38 = .ok (.idiv, 1) := by decide +kernel
theorem dX12_canBe_39 : decode cX12_canBe 39 = .ok (.iload_n 2, 1) := by decide +kernel
theorem dX12_canBe_40 : decode cX12_canBe 40 = .ok (.if_icmp .ne 28, 3) := by decide +kernel
theorem dX12_canBe_43 : decode cX12_canBe 43 = .ok (.aload_n 1, 1) := by decide +kernel
theorem dX12_canBe_44 : decode cX12_canBe 44 = .ok (.iload 6, 2) := by decide +kernel
theorem dX12_canBe_46 : decode cX12_canBe 46 = .ok (.iaload, 1) := by decide +kernel
theorem dX12_canBe_47 : decode cX12_canBe 47 = .ok (.ifCond .lt 21, 3) := by decide +kernel
theorem dX12_canBe_50 : decode cX12_canBe 50 = .ok (.iload_n 3, 1) := by decide +kernel
theorem dX12_canBe_51 : decode cX12_canBe 51 = .ok (.iload 6, 2) := by decide +kernel
theorem dX12_canBe_53 : decode cX12_canBe 53 = .ok (.iconst 3, 1) := by decide +kernel
theorem dX12_canBe_54 : decode cX12_canBe 54 = .ok (.irem, 1) := by decide +kernel
theorem dX12_canBe_55 : decode cX12_canBe 55 = .ok (.ishr, 1) := by decide +kernel
theorem dX12_canBe_56 : decode cX12_canBe 56 = .ok (.iconst 1, 1) := by decide +kernel
theorem dX12_canBe_57 : decode cX12_canBe 57 = .ok (.iand, 1) := by decide +kernel
theorem dX12_canBe_58 : decode cX12_canBe 58 = .ok (.aload_n 0, 1) := by decide +kernel
theorem dX12_canBe_59 : decode cX12_canBe 59 = .ok (.getfield 106, 3) := by decide +kernel
theorem dX12_canBe_62 : decode cX12_canBe 62 = .ok (.iload 5, 2) := by decide +kernel
theorem dX12_canBe_64 : decode cX12_canBe 64 = .ok (.iaload, 1) := by decide +kernel
theorem dX12_canBe_65 : decode cX12_canBe 65 = .ok (.if_icmp .ne 7, 3) := by decide +kernel
theorem dX12_canBe_68 : decode cX12_canBe 68 = .ok (.iconst 1, 1) := by decide +kernel
theorem dX12_canBe_69 : decode cX12_canBe 69 = .ok (.goto 4, 3) := by decide +kernel
theorem dX12_canBe_72 : decode cX12_canBe 72 = .ok (.iconst 0, 1) := by decide +kernel
theorem dX12_canBe_73 : decode cX12_canBe 73 = .ok (.istore 4, 2) := by decide +kernel
theorem dX12_canBe_75 : decode cX12_canBe 75 = .ok (.iinc 5 1, 3) := by decide +kernel
theorem dX12_canBe_78 : decode cX12_canBe 78 = .ok (.goto (-66), 3) := by decide +kernel
theorem dX12_canBe_81 : decode cX12_canBe 81 = .ok (.iload 4, 2) := by decide +kernel
theorem dX12_canBe_83 : decode cX12_canBe 83 = .ok (.ireturn, 1) := by decide +kernel
theorem dX12_laysRows_0 : decode cX12_laysRows 0 = .ok (.aload_n 0, 1) := by decide +kernel
theorem dX12_laysRows_1 : decode cX12_laysRows 1 = .ok (.iconst 0, 1) := by decide +kernel
theorem dX12_laysRows_2 : decode cX12_laysRows 2 = .ok (.putfield 406, 3) := by decide +kernel
theorem dX12_laysRows_5 : decode cX12_laysRows 5 = .ok (.aload_n 0, 1) := by decide +kernel
theorem dX12_laysRows_6 : decode cX12_laysRows 6 = .ok (.getfield 24, 3) := by decide +kernel
theorem dX12_laysRows_9 : decode cX12_laysRows 9 = .ok (.aload_n 0, 1) := by decide +kernel
theorem dX12_laysRows_10 : decode cX12_laysRows 10 = .ok (.getfield 28, 3) := by decide +kernel
theorem dX12_laysRows_13 : decode cX12_laysRows 13 = .ok (.invokestatic 259, 3) := by decide +kernel
theorem dX12_laysRows_16 : decode cX12_laysRows 16 = .ok (.iconst 3, 1) := by decide +kernel
theorem dX12_laysRows_17 : decode cX12_laysRows 17 = .ok (.iload_n 1, 1) := by decide +kernel
theorem dX12_laysRows_18 : decode cX12_laysRows 18 = .ok (.imul, 1) := by decide +kernel
theorem dX12_laysRows_19 : decode cX12_laysRows 19 = .ok (.istore_n 2, 1) := by decide +kernel
theorem dX12_laysRows_20 : decode cX12_laysRows 20 = .ok (.aload_n 0, 1) := by decide +kernel
theorem dX12_laysRows_21 : decode cX12_laysRows 21 = .ok (.iload_n 2, 1) := by decide +kernel
theorem dX12_laysRows_22 : decode cX12_laysRows 22 = .ok (.invokevirtual 409, 3) := by decide +kernel
theorem dX12_laysRows_25 : decode cX12_laysRows 25 = .ok (.istore_n 3, 1) := by decide +kernel
theorem dX12_laysRows_26 : decode cX12_laysRows 26 = .ok (.iload_n 3, 1) := by decide +kernel
theorem dX12_laysRows_27 : decode cX12_laysRows 27 = .ok (.aload_n 0, 1) := by decide +kernel
theorem dX12_laysRows_28 : decode cX12_laysRows 28 = .ok (.iload_n 2, 1) := by decide +kernel
theorem dX12_laysRows_29 : decode cX12_laysRows 29 = .ok (.invokevirtual 412, 3) := by decide +kernel
theorem dX12_laysRows_32 : decode cX12_laysRows 32 = .ok (.if_icmp .gt 146, 3) := by decide +kernel
theorem dX12_laysRows_35 : decode cX12_laysRows 35 = .ok (.aload_n 0, 1) := by decide +kernel
theorem dX12_laysRows_36 : decode cX12_laysRows 36 = .ok (.iload_n 2, 1) := by decide +kernel
theorem dX12_laysRows_37 : decode cX12_laysRows 37 = .ok (.iconst 1, 1) := by decide +kernel
theorem dX12_laysRows_38 : decode cX12_laysRows 38 = .ok (.iadd, 1) := by decide +kernel
theorem dX12_laysRows_39 : decode cX12_laysRows 39 = .ok (.invokevirtual 409, 3) := by decide +kernel
theorem dX12_laysRows_42 : decode cX12_laysRows 42 = .ok (.istore 4, 2) := by decide +kernel
theorem dX12_laysRows_44 : decode cX12_laysRows 44 = .ok (.iload 4, 2) := by decide +kernel
theorem dX12_laysRows_46 : decode cX12_laysRows 46 = .ok (.aload_n 0, 1) := by decide +kernel
theorem dX12_laysRows_47 : decode cX12_laysRows 47 = .ok (.iload_n 2, 1) := by decide +kernel
theorem dX12_laysRows_48 : decode cX12_laysRows 48 = .ok (.iconst 1, 1) := by decide +kernel
theorem dX12_laysRows_49 : decode cX12_laysRows 49 = .ok (.iadd, 1) := by decide +kernel
theorem dX12_laysRows_50 : decode cX12_laysRows 50 = .ok (.invokevirtual 412, 3) := by decide +kernel
theorem dX12_laysRows_53 : decode cX12_laysRows 53 = .ok (.if_icmp .gt 119, 3) := by decide +kernel
theorem dX12_laysRows_56 : decode cX12_laysRows 56 = .ok (.aload_n 0, 1) := by decide +kernel
theorem dX12_laysRows_57 : decode cX12_laysRows 57 = .ok (.iload_n 2, 1) := by decide +kernel
theorem dX12_laysRows_58 : decode cX12_laysRows 58 = .ok (.iconst 2, 1) := by decide +kernel
theorem dX12_laysRows_59 : decode cX12_laysRows 59 = .ok (.iadd, 1) := by decide +kernel
theorem dX12_laysRows_60 : decode cX12_laysRows 60 = .ok (.invokevirtual 409, 3) := by decide +kernel
theorem dX12_laysRows_63 : decode cX12_laysRows 63 = .ok (.istore 5, 2) := by decide +kernel
theorem dX12_laysRows_65 : decode cX12_laysRows 65 = .ok (.iload 5, 2) := by decide +kernel
theorem dX12_laysRows_67 : decode cX12_laysRows 67 = .ok (.aload_n 0, 1) := by decide +kernel
theorem dX12_laysRows_68 : decode cX12_laysRows 68 = .ok (.iload_n 2, 1) := by decide +kernel
theorem dX12_laysRows_69 : decode cX12_laysRows 69 = .ok (.iconst 2, 1) := by decide +kernel
theorem dX12_laysRows_70 : decode cX12_laysRows 70 = .ok (.iadd, 1) := by decide +kernel
theorem dX12_laysRows_71 : decode cX12_laysRows 71 = .ok (.invokevirtual 412, 3) := by decide +kernel
theorem dX12_laysRows_74 : decode cX12_laysRows 74 = .ok (.if_icmp .gt 92, 3) := by decide +kernel
theorem dX12_laysRows_77 : decode cX12_laysRows 77 = .ok (.aload_n 0, 1) := by decide +kernel
theorem dX12_laysRows_78 : decode cX12_laysRows 78 = .ok (.getfield 28, 3) := by decide +kernel
theorem dX12_laysRows_81 : decode cX12_laysRows 81 = .ok (.iload_n 2, 1) := by decide +kernel
theorem dX12_laysRows_82 : decode cX12_laysRows 82 = .ok (.iload_n 3, 1) := by decide +kernel
theorem dX12_laysRows_83 : decode cX12_laysRows 83 = .ok (.iastore, 1) := by decide +kernel
theorem dX12_laysRows_84 : decode cX12_laysRows 84 = .ok (.aload_n 0, 1) := by decide +kernel
theorem dX12_laysRows_85 : decode cX12_laysRows 85 = .ok (.getfield 28, 3) := by decide +kernel
theorem dX12_laysRows_88 : decode cX12_laysRows 88 = .ok (.iload_n 2, 1) := by decide +kernel
theorem dX12_laysRows_89 : decode cX12_laysRows 89 = .ok (.iconst 1, 1) := by decide +kernel
theorem dX12_laysRows_90 : decode cX12_laysRows 90 = .ok (.iadd, 1) := by decide +kernel
theorem dX12_laysRows_91 : decode cX12_laysRows 91 = .ok (.iload 4, 2) := by decide +kernel
theorem dX12_laysRows_93 : decode cX12_laysRows 93 = .ok (.iastore, 1) := by decide +kernel
theorem dX12_laysRows_94 : decode cX12_laysRows 94 = .ok (.aload_n 0, 1) := by decide +kernel
theorem dX12_laysRows_95 : decode cX12_laysRows 95 = .ok (.getfield 28, 3) := by decide +kernel
theorem dX12_laysRows_98 : decode cX12_laysRows 98 = .ok (.iload_n 2, 1) := by decide +kernel
theorem dX12_laysRows_99 : decode cX12_laysRows 99 = .ok (.iconst 2, 1) := by decide +kernel
theorem dX12_laysRows_100 : decode cX12_laysRows 100 = .ok (.iadd, 1) := by decide +kernel
theorem dX12_laysRows_101 : decode cX12_laysRows 101 = .ok (.iload 5, 2) := by decide +kernel
theorem dX12_laysRows_103 : decode cX12_laysRows 103 = .ok (.iastore, 1) := by decide +kernel
theorem dX12_laysRows_104 : decode cX12_laysRows 104 = .ok (.aload_n 0, 1) := by decide +kernel
theorem dX12_laysRows_105 : decode cX12_laysRows 105 = .ok (.aload_n 0, 1) := by decide +kernel
theorem dX12_laysRows_106 : decode cX12_laysRows 106 = .ok (.getfield 28, 3) := by decide +kernel
theorem dX12_laysRows_109 : decode cX12_laysRows 109 = .ok (.iload_n 1, 1) := by decide +kernel
theorem dX12_laysRows_110 : decode cX12_laysRows 110 = .ok (.invokevirtual 415, 3) := by decide +kernel
theorem dX12_laysRows_113 : decode cX12_laysRows 113 = .ok (.ifCond .eq 47, 3) := by decide +kernel
theorem dX12_laysRows_116 : decode cX12_laysRows 116 = .ok (.aload_n 0, 1) := by decide +kernel
theorem dX12_laysRows_117 : decode cX12_laysRows 117 = .ok (.getfield 115, 3) := by decide +kernel
theorem dX12_laysRows_120 : decode cX12_laysRows 120 = .ok (.aload_n 0, 1) := by decide +kernel
theorem dX12_laysRows_121 : decode cX12_laysRows 121 = .ok (.getfield 406, 3) := by decide +kernel
theorem dX12_laysRows_124 : decode cX12_laysRows 124 = .ok (.bipush 100, 2) := by decide +kernel
theorem dX12_laysRows_126 : decode cX12_laysRows 126 = .ok (.iconst 0, 1) := by decide +kernel
theorem dX12_laysRows_127 : decode cX12_laysRows 127 = .ok (.iload_n 3, 1) := by decide +kernel
theorem dX12_laysRows_128 : decode cX12_laysRows 128 = .ok (.invokestatic 224, 3) := by decide +kernel
theorem dX12_laysRows_131 : decode cX12_laysRows 131 = .ok (.imul, 1) := by decide +kernel
theorem dX12_laysRows_132 : decode cX12_laysRows 132 = .ok (.bipush 10, 2) := by decide +kernel
theorem dX12_laysRows_134 : decode cX12_laysRows 134 = .ok (.iconst 0, 1) := by decide +kernel
theorem dX12_laysRows_135 : decode cX12_laysRows 135 = .ok (.iload 4, 2) := by decide +kernel
theorem dX12_laysRows_137 : decode cX12_laysRows 137 = .ok (.invokestatic 224, 3) := by decide +kernel
theorem dX12_laysRows_140 : decode cX12_laysRows 140 = .ok (.imul, 1) := by decide +kernel
theorem dX12_laysRows_141 : decode cX12_laysRows 141 = .ok (.iadd, 1) := by decide +kernel
theorem dX12_laysRows_142 : decode cX12_laysRows 142 = .ok (.iconst 0, 1) := by decide +kernel
theorem dX12_laysRows_143 : decode cX12_laysRows 143 = .ok (.iload 5, 2) := by decide +kernel
theorem dX12_laysRows_145 : decode cX12_laysRows 145 = .ok (.invokestatic 224, 3) := by decide +kernel
theorem dX12_laysRows_148 : decode cX12_laysRows 148 = .ok (.iadd, 1) := by decide +kernel
theorem dX12_laysRows_149 : decode cX12_laysRows 149 = .ok (.iastore, 1) := by decide +kernel
theorem dX12_laysRows_150 : decode cX12_laysRows 150 = .ok (.aload_n 0, 1) := by decide +kernel
theorem dX12_laysRows_151 : decode cX12_laysRows 151 = .ok (.dup, 1) := by decide +kernel
theorem dX12_laysRows_152 : decode cX12_laysRows 152 = .ok (.getfield 406, 3) := by decide +kernel
theorem dX12_laysRows_155 : decode cX12_laysRows 155 = .ok (.iconst 1, 1) := by decide +kernel
theorem dX12_laysRows_156 : decode cX12_laysRows 156 = .ok (.iadd, 1) := by decide +kernel
theorem dX12_laysRows_157 : decode cX12_laysRows 157 = .ok (.putfield 406, 3) := by decide +kernel
theorem dX12_laysRows_160 : decode cX12_laysRows 160 = .ok (.iinc 5 1, 3) := by decide +kernel
theorem dX12_laysRows_163 : decode cX12_laysRows 163 = .ok (.goto (-98), 3) := by decide +kernel
theorem dX12_laysRows_166 : decode cX12_laysRows 166 = .ok (.iinc 4 1, 3) := by decide +kernel
theorem dX12_laysRows_169 : decode cX12_laysRows 169 = .ok (.goto (-125), 3) := by decide +kernel
theorem dX12_laysRows_172 : decode cX12_laysRows 172 = .ok (.iinc 3 1, 3) := by decide +kernel
theorem dX12_laysRows_175 : decode cX12_laysRows 175 = .ok (.goto (-149), 3) := by decide +kernel
theorem dX12_laysRows_178 : decode cX12_laysRows 178 = .ok (.return_, 1) := by decide +kernel
theorem dX12_low_0 : decode cX12_low 0 = .ok (.aload_n 0, 1) := by decide +kernel
theorem dX12_low_1 : decode cX12_low 1 = .ok (.getfield 24, 3) := by decide +kernel
theorem dX12_low_4 : decode cX12_low 4 = .ok (.iload_n 1, 1) := by decide +kernel
theorem dX12_low_5 : decode cX12_low 5 = .ok (.iaload, 1) := by decide +kernel
theorem dX12_low_6 : decode cX12_low 6 = .ok (.ifCond .ge 7, 3) := by decide +kernel
theorem dX12_low_9 : decode cX12_low 9 = .ok (.iconst (-1), 1) := by decide +kernel
theorem dX12_low_10 : decode cX12_low 10 = .ok (.goto 9, 3) := by decide +kernel
theorem dX12_low_13 : decode cX12_low 13 = .ok (.aload_n 0, 1) := by decide +kernel
theorem dX12_low_14 : decode cX12_low 14 = .ok (.getfield 109, 3) := by decide +kernel
theorem dX12_low_17 : decode cX12_low 17 = .ok (.iload_n 1, 1) := by decide +kernel
theorem dX12_low_18 : decode cX12_low 18 = .ok (.iaload, 1) := by decide +kernel
theorem dX12_low_19 : decode cX12_low 19 = .ok (.ireturn, 1) := by decide +kernel
theorem dX12_high__0 : decode cX12_high_ 0 = .ok (.aload_n 0, 1) := by decide +kernel
theorem dX12_high__1 : decode cX12_high_ 1 = .ok (.getfield 24, 3) := by decide +kernel
theorem dX12_high__4 : decode cX12_high_ 4 = .ok (.iload_n 1, 1) := by decide +kernel
theorem dX12_high__5 : decode cX12_high_ 5 = .ok (.iaload, 1) := by decide +kernel
theorem dX12_high__6 : decode cX12_high_ 6 = .ok (.ifCond .ge 7, 3) := by decide +kernel
theorem dX12_high__9 : decode cX12_high_ 9 = .ok (.iconst (-1), 1) := by decide +kernel
theorem dX12_high__10 : decode cX12_high_ 10 = .ok (.goto 9, 3) := by decide +kernel
theorem dX12_high__13 : decode cX12_high_ 13 = .ok (.aload_n 0, 1) := by decide +kernel
theorem dX12_high__14 : decode cX12_high_ 14 = .ok (.getfield 112, 3) := by decide +kernel
theorem dX12_high__17 : decode cX12_high_ 17 = .ok (.iload_n 1, 1) := by decide +kernel
theorem dX12_high__18 : decode cX12_high_ 18 = .ok (.iaload, 1) := by decide +kernel
theorem dX12_high__19 : decode cX12_high_ 19 = .ok (.ireturn, 1) := by decide +kernel
theorem dX12_digitOf_0 : decode cX12_digitOf 0 = .ok (.iload_n 1, 1) := by decide +kernel
theorem dX12_digitOf_1 : decode cX12_digitOf 1 = .ok (.ifCond .ne 10, 3) := by decide +kernel
theorem dX12_digitOf_4 : decode cX12_digitOf 4 = .ok (.iload_n 0, 1) := by decide +kernel
theorem dX12_digitOf_5 : decode cX12_digitOf 5 = .ok (.bipush 100, 2) := by decide +kernel
theorem dX12_digitOf_7 : decode cX12_digitOf 7 = .ok (.idiv, 1) := by decide +kernel
theorem dX12_digitOf_8 : decode cX12_digitOf 8 = .ok (.goto 22, 3) := by decide +kernel
theorem dX12_digitOf_11 : decode cX12_digitOf 11 = .ok (.iload_n 1, 1) := by decide +kernel
theorem dX12_digitOf_12 : decode cX12_digitOf 12 = .ok (.iconst 1, 1) := by decide +kernel
theorem dX12_digitOf_13 : decode cX12_digitOf 13 = .ok (.if_icmp .ne 13, 3) := by decide +kernel
theorem dX12_digitOf_16 : decode cX12_digitOf 16 = .ok (.iload_n 0, 1) := by decide +kernel
theorem dX12_digitOf_17 : decode cX12_digitOf 17 = .ok (.bipush 10, 2) := by decide +kernel
theorem dX12_digitOf_19 : decode cX12_digitOf 19 = .ok (.idiv, 1) := by decide +kernel
theorem dX12_digitOf_20 : decode cX12_digitOf 20 = .ok (.bipush 10, 2) := by decide +kernel
theorem dX12_digitOf_22 : decode cX12_digitOf 22 = .ok (.irem, 1) := by decide +kernel
theorem dX12_digitOf_23 : decode cX12_digitOf 23 = .ok (.goto 7, 3) := by decide +kernel
theorem dX12_digitOf_26 : decode cX12_digitOf 26 = .ok (.iload_n 0, 1) := by decide +kernel
theorem dX12_digitOf_27 : decode cX12_digitOf 27 = .ok (.bipush 10, 2) := by decide +kernel
theorem dX12_digitOf_29 : decode cX12_digitOf 29 = .ok (.irem, 1) := by decide +kernel
theorem dX12_digitOf_30 : decode cX12_digitOf 30 = .ok (.ireturn, 1) := by decide +kernel
theorem dX12_entersRow_0 : decode cX12_entersRow 0 = .ok (.iconst 0, 1) := by decide +kernel
theorem dX12_entersRow_1 : decode cX12_entersRow 1 = .ok (.istore_n 3, 1) := by decide +kernel
theorem dX12_entersRow_2 : decode cX12_entersRow 2 = .ok (.iload_n 3, 1) := by decide +kernel
theorem dX12_entersRow_3 : decode cX12_entersRow 3 = .ok (.iconst 3, 1) := by decide +kernel
theorem dX12_entersRow_4 : decode cX12_entersRow 4 = .ok (.if_icmp .ge 32, 3) := by decide +kernel
theorem dX12_entersRow_7 : decode cX12_entersRow 7 = .ok (.aload_n 0, 1) := by decide +kernel
theorem dX12_entersRow_8 : decode cX12_entersRow 8 = .ok (.getfield 24, 3) := by decide +kernel
theorem dX12_entersRow_11 : decode cX12_entersRow 11 = .ok (.iconst 3, 1) := by decide +kernel
theorem dX12_entersRow_12 : decode cX12_entersRow 12 = .ok (.iload_n 1, 1) := by decide +kernel
theorem dX12_entersRow_13 : decode cX12_entersRow 13 = .ok (.imul, 1) := by decide +kernel
theorem dX12_entersRow_14 : decode cX12_entersRow 14 = .ok (.iload_n 3, 1) := by decide +kernel
theorem dX12_entersRow_15 : decode cX12_entersRow 15 = .ok (.iadd, 1) := by decide +kernel
theorem dX12_entersRow_16 : decode cX12_entersRow 16 = .ok (.iaload, 1) := by decide +kernel
theorem dX12_entersRow_17 : decode cX12_entersRow 17 = .ok (.ifCond .lt 13, 3) := by decide +kernel
theorem dX12_entersRow_20 : decode cX12_entersRow 20 = .ok (.aload_n 0, 1) := by decide +kernel
theorem dX12_entersRow_21 : decode cX12_entersRow 21 = .ok (.iload_n 2, 1) := by decide +kernel
theorem dX12_entersRow_22 : decode cX12_entersRow 22 = .ok (.iload_n 3, 1) := by decide +kernel
theorem dX12_entersRow_23 : decode cX12_entersRow 23 = .ok (.invokestatic 418, 3) := by decide +kernel
theorem dX12_entersRow_26 : decode cX12_entersRow 26 = .ok (.i2l, 1) := by decide +kernel
theorem dX12_entersRow_27 : decode cX12_entersRow 27 = .ok (.invokevirtual 279, 3) := by decide +kernel
theorem dX12_entersRow_30 : decode cX12_entersRow 30 = .ok (.iinc 3 1, 3) := by decide +kernel
theorem dX12_entersRow_33 : decode cX12_entersRow 33 = .ok (.goto (-31), 3) := by decide +kernel
theorem dX12_entersRow_36 : decode cX12_entersRow 36 = .ok (.return_, 1) := by decide +kernel
theorem dX12_fits_0 : decode cX12_fits 0 = .ok (.aload_n 0, 1) := by decide +kernel
theorem dX12_fits_1 : decode cX12_fits 1 = .ok (.iconst 0, 1) := by decide +kernel
theorem dX12_fits_2 : decode cX12_fits 2 = .ok (.putfield 3, 3) := by decide +kernel
theorem dX12_fits_5 : decode cX12_fits 5 = .ok (.aload_n 0, 1) := by decide +kernel
theorem dX12_fits_6 : decode cX12_fits 6 = .ok (.iload_n 1, 1) := by decide +kernel
theorem dX12_fits_7 : decode cX12_fits 7 = .ok (.invokevirtual 267, 3) := by decide +kernel
theorem dX12_fits_10 : decode cX12_fits 10 = .ok (.ifCond .ne 5, 3) := by decide +kernel
theorem dX12_fits_13 : decode cX12_fits 13 = .ok (.iconst (-1), 1) := by decide +kernel
theorem dX12_fits_14 : decode cX12_fits 14 = .ok (.ireturn, 1) := by decide +kernel
theorem dX12_fits_15 : decode cX12_fits 15 = .ok (.aload_n 0, 1) := by decide +kernel
theorem dX12_fits_16 : decode cX12_fits 16 = .ok (.iload_n 1, 1) := by decide +kernel
theorem dX12_fits_17 : decode cX12_fits 17 = .ok (.invokevirtual 421, 3) := by decide +kernel
theorem dX12_fits_20 : decode cX12_fits 20 = .ok (.aload_n 0, 1) := by decide +kernel
theorem dX12_fits_21 : decode cX12_fits 21 = .ok (.iconst 0, 1) := by decide +kernel
theorem dX12_fits_22 : decode cX12_fits 22 = .ok (.putfield 15, 3) := by decide +kernel
theorem dX12_fits_25 : decode cX12_fits 25 = .ok (.aload_n 0, 1) := by decide +kernel
theorem dX12_fits_26 : decode cX12_fits 26 = .ok (.getfield 406, 3) := by decide +kernel
theorem dX12_fits_29 : decode cX12_fits 29 = .ok (.ifCond .le 30, 3) := by decide +kernel
theorem dX12_fits_32 : decode cX12_fits 32 = .ok (.aload_n 0, 1) := by decide +kernel
theorem dX12_fits_33 : decode cX12_fits 33 = .ok (.iload_n 1, 1) := by decide +kernel
theorem dX12_fits_34 : decode cX12_fits 34 = .ok (.aload_n 0, 1) := by decide +kernel
theorem dX12_fits_35 : decode cX12_fits 35 = .ok (.getfield 115, 3) := by decide +kernel
theorem dX12_fits_38 : decode cX12_fits 38 = .ok (.iconst 0, 1) := by decide +kernel
theorem dX12_fits_39 : decode cX12_fits 39 = .ok (.iaload, 1) := by decide +kernel
theorem dX12_fits_40 : decode cX12_fits 40 = .ok (.invokevirtual 424, 3) := by decide +kernel
theorem dX12_fits_43 : decode cX12_fits 43 = .ok (.aload_n 0, 1) := by decide +kernel
theorem dX12_fits_44 : decode cX12_fits 44 = .ok (.iload_n 1, 1) := by decide +kernel
theorem dX12_fits_45 : decode cX12_fits 45 = .ok (.aload_n 0, 1) := by decide +kernel
theorem dX12_fits_46 : decode cX12_fits 46 = .ok (.getfield 115, 3) := by decide +kernel
theorem dX12_fits_49 : decode cX12_fits 49 = .ok (.aload_n 0, 1) := by decide +kernel
theorem dX12_fits_50 : decode cX12_fits 50 = .ok (.getfield 406, 3) := by decide +kernel
theorem dX12_fits_53 : decode cX12_fits 53 = .ok (.iconst 1, 1) := by decide +kernel
theorem dX12_fits_54 : decode cX12_fits 54 = .ok (.isub, 1) := by decide +kernel
theorem dX12_fits_55 : decode cX12_fits 55 = .ok (.iaload, 1) := by decide +kernel
theorem dX12_fits_56 : decode cX12_fits 56 = .ok (.invokevirtual 424, 3) := by decide +kernel
theorem dX12_fits_59 : decode cX12_fits 59 = .ok (.aload_n 0, 1) := by decide +kernel
theorem dX12_fits_60 : decode cX12_fits 60 = .ok (.getfield 406, 3) := by decide +kernel
theorem dX12_fits_63 : decode cX12_fits 63 = .ok (.ireturn, 1) := by decide +kernel
theorem dX12_span_0 : decode cX12_span 0 = .ok (.aload_n 0, 1) := by decide +kernel
theorem dX12_span_1 : decode cX12_span 1 = .ok (.iconst 0, 1) := by decide +kernel
theorem dX12_span_2 : decode cX12_span 2 = .ok (.putfield 3, 3) := by decide +kernel
theorem dX12_span_5 : decode cX12_span 5 = .ok (.aload_n 0, 1) := by decide +kernel
theorem dX12_span_6 : decode cX12_span 6 = .ok (.getfield 24, 3) := by decide +kernel
theorem dX12_span_9 : decode cX12_span 9 = .ok (.iload_n 1, 1) := by decide +kernel
theorem dX12_span_10 : decode cX12_span 10 = .ok (.invokestatic 244, 3) := by decide +kernel
theorem dX12_span_13 : decode cX12_span 13 = .ok (.ifCond .ne 5, 3) := by decide +kernel
theorem dX12_span_16 : decode cX12_span 16 = .ok (.iconst (-1), 1) := by decide +kernel
theorem dX12_span_17 : decode cX12_span 17 = .ok (.ireturn, 1) := by decide +kernel
theorem dX12_span_18 : decode cX12_span 18 = .ok (.aload_n 0, 1) := by decide +kernel
theorem dX12_span_19 : decode cX12_span 19 = .ok (.iload_n 1, 1) := by decide +kernel
theorem dX12_span_20 : decode cX12_span 20 = .ok (.iconst 3, 1) := by decide +kernel
theorem dX12_span_21 : decode cX12_span 21 = .ok (.idiv, 1) := by decide +kernel
theorem dX12_span_22 : decode cX12_span 22 = .ok (.invokevirtual 421, 3) := by decide +kernel
theorem dX12_span_25 : decode cX12_span 25 = .ok (.iconst 0, 1) := by decide +kernel
theorem dX12_span_26 : decode cX12_span 26 = .ok (.istore_n 2, 1) := by decide +kernel
theorem dX12_span_27 : decode cX12_span 27 = .ok (.iconst 0, 1) := by decide +kernel
theorem dX12_span_28 : decode cX12_span 28 = .ok (.istore_n 3, 1) := by decide +kernel
theorem dX12_span_29 : decode cX12_span 29 = .ok (.iload_n 3, 1) := by decide +kernel
theorem dX12_span_30 : decode cX12_span 30 = .ok (.aload_n 0, 1) := by decide +kernel
theorem dX12_span_31 : decode cX12_span 31 = .ok (.getfield 406, 3) := by decide +kernel
theorem dX12_span_34 : decode cX12_span 34 = .ok (.if_icmp .ge 26, 3) := by decide +kernel
theorem dX12_span_37 : decode cX12_span 37 = .ok (.iload_n 2, 1) := by decide +kernel
theorem dX12_span_38 : decode cX12_span 38 = .ok (.iconst 1, 1) := by decide +kernel
theorem dX12_span_39 : decode cX12_span 39 = .ok (.aload_n 0, 1) := by decide +kernel
theorem dX12_span_40 : decode cX12_span 40 = .ok (.getfield 115, 3) := by decide +kernel
theorem dX12_span_43 : decode cX12_span 43 = .ok (.iload_n 3, 1) := by decide +kernel
theorem dX12_span_44 : decode cX12_span 44 = .ok (.iaload, 1) := by decide +kernel
theorem dX12_span_45 : decode cX12_span 45 = .ok (.iload_n 1, 1) := by decide +kernel
theorem dX12_span_46 : decode cX12_span 46 = .ok (.iconst 3, 1) := by decide +kernel
theorem dX12_span_47 : decode cX12_span 47 = .ok (.irem, 1) := by decide +kernel
theorem dX12_span_48 : decode cX12_span 48 = .ok (.invokestatic 418, 3) := by decide +kernel
theorem dX12_span_51 : decode cX12_span 51 = .ok (.ishl, 1) := by decide +kernel
theorem dX12_span_52 : decode cX12_span 52 = .ok (.ior, 1) := by decide +kernel
theorem dX12_span_53 : decode cX12_span 53 = .ok (.istore_n 2, 1) := by decide +kernel
theorem dX12_span_54 : decode cX12_span 54 = .ok (.iinc 3 1, 3) := by decide +kernel
theorem dX12_span_57 : decode cX12_span 57 = .ok (.goto (-28), 3) := by decide +kernel
theorem dX12_span_60 : decode cX12_span 60 = .ok (.iload_n 2, 1) := by decide +kernel
theorem dX12_span_61 : decode cX12_span 61 = .ok (.ireturn, 1) := by decide +kernel
theorem dX12_tightIn_0 : decode cX12_tightIn 0 = .ok (.iload_n 1, 1) := by decide +kernel
theorem dX12_tightIn_1 : decode cX12_tightIn 1 = .ok (.iconst 3, 1) := by decide +kernel
theorem dX12_tightIn_2 : decode cX12_tightIn 2 = .ok (.idiv, 1) := by decide +kernel
theorem dX12_tightIn_3 : decode cX12_tightIn 3 = .ok (.istore_n 2, 1) := by decide +kernel
theorem dX12_tightIn_4 : decode cX12_tightIn 4 = .ok (.iconst 0, 1) := by decide +kernel
theorem dX12_tightIn_5 : decode cX12_tightIn 5 = .ok (.istore_n 3, 1) := by decide +kernel
theorem dX12_tightIn_6 : decode cX12_tightIn 6 = .ok (.aload_n 0, 1) := by decide +kernel
theorem dX12_tightIn_7 : decode cX12_tightIn 7 = .ok (.getfield 24, 3) := by decide +kernel
theorem dX12_tightIn_10 : decode cX12_tightIn 10 = .ok (.aload_n 0, 1) := by decide +kernel
theorem dX12_tightIn_11 : decode cX12_tightIn 11 = .ok (.getfield 28, 3) := by decide +kernel
theorem dX12_tightIn_14 : decode cX12_tightIn 14 = .ok (.invokestatic 259, 3) := by decide +kernel
theorem dX12_tightIn_17 : decode cX12_tightIn 17 = .ok (.iconst 0, 1) := by decide +kernel
theorem dX12_tightIn_18 : decode cX12_tightIn 18 = .ok (.istore 4, 2) := by decide +kernel
theorem dX12_tightIn_20 : decode cX12_tightIn 20 = .ok (.iload 4, 2) := by decide +kernel
theorem dX12_tightIn_22 : decode cX12_tightIn 22 = .ok (.aload_n 0, 1) := by decide +kernel
theorem dX12_tightIn_23 : decode cX12_tightIn 23 = .ok (.getfield 406, 3) := by decide +kernel
theorem dX12_tightIn_26 : decode cX12_tightIn 26 = .ok (.if_icmp .ge 79, 3) := by decide +kernel
theorem dX12_tightIn_29 : decode cX12_tightIn 29 = .ok (.iconst 0, 1) := by decide +kernel
theorem dX12_tightIn_30 : decode cX12_tightIn 30 = .ok (.istore 5, 2) := by decide +kernel
theorem dX12_tightIn_32 : decode cX12_tightIn 32 = .ok (.iload 5, 2) := by decide +kernel
theorem dX12_tightIn_34 : decode cX12_tightIn 34 = .ok (.iconst 3, 1) := by decide +kernel
theorem dX12_tightIn_35 : decode cX12_tightIn 35 = .ok (.if_icmp .ge 50, 3) := by decide +kernel
theorem dX12_tightIn_38 : decode cX12_tightIn 38 = .ok (.aload_n 0, 1) := by decide +kernel
theorem dX12_tightIn_39 : decode cX12_tightIn 39 = .ok (.getfield 28, 3) := by decide +kernel
theorem dX12_tightIn_42 : decode cX12_tightIn 42 = .ok (.iconst 3, 1) := by decide +kernel
theorem dX12_tightIn_43 : decode cX12_tightIn 43 = .ok (.iload_n 2, 1) := by decide +kernel
theorem dX12_tightIn_44 : decode cX12_tightIn 44 = .ok (.imul, 1) := by decide +kernel
theorem dX12_tightIn_45 : decode cX12_tightIn 45 = .ok (.iload 5, 2) := by decide +kernel
theorem dX12_tightIn_47 : decode cX12_tightIn 47 = .ok (.iadd, 1) := by decide +kernel
theorem dX12_tightIn_48 : decode cX12_tightIn 48 = .ok (.aload_n 0, 1) := by decide +kernel
theorem dX12_tightIn_49 : decode cX12_tightIn 49 = .ok (.getfield 24, 3) := by decide +kernel
theorem dX12_tightIn_52 : decode cX12_tightIn 52 = .ok (.iconst 3, 1) := by decide +kernel
theorem dX12_tightIn_53 : decode cX12_tightIn 53 = .ok (.iload_n 2, 1) := by decide +kernel
theorem dX12_tightIn_54 : decode cX12_tightIn 54 = .ok (.imul, 1) := by decide +kernel
theorem dX12_tightIn_55 : decode cX12_tightIn 55 = .ok (.iload 5, 2) := by decide +kernel
theorem dX12_tightIn_57 : decode cX12_tightIn 57 = .ok (.iadd, 1) := by decide +kernel
theorem dX12_tightIn_58 : decode cX12_tightIn 58 = .ok (.iaload, 1) := by decide +kernel
theorem dX12_tightIn_59 : decode cX12_tightIn 59 = .ok (.ifCond .ge 7, 3) := by decide +kernel
theorem dX12_tightIn_62 : decode cX12_tightIn 62 = .ok (.iconst (-1), 1) := by decide +kernel
theorem dX12_tightIn_63 : decode cX12_tightIn 63 = .ok (.goto 15, 3) := by decide +kernel
theorem dX12_tightIn_66 : decode cX12_tightIn 66 = .ok (.aload_n 0, 1) := by decide +kernel
theorem dX12_tightIn_67 : decode cX12_tightIn 67 = .ok (.getfield 115, 3) := by decide +kernel
theorem dX12_tightIn_70 : decode cX12_tightIn 70 = .ok (.iload 4, 2) := by decide +kernel
theorem dX12_tightIn_72 : decode cX12_tightIn 72 = .ok (.iaload, 1) := by decide +kernel
theorem dX12_tightIn_73 : decode cX12_tightIn 73 = .ok (.iload 5, 2) := by decide +kernel
theorem dX12_tightIn_75 : decode cX12_tightIn 75 = .ok (.invokestatic 418, 3) := by decide +kernel
theorem dX12_tightIn_78 : decode cX12_tightIn 78 = .ok (.iastore, 1) := by decide +kernel
theorem dX12_tightIn_79 : decode cX12_tightIn 79 = .ok (.iinc 5 1, 3) := by decide +kernel
theorem dX12_tightIn_82 : decode cX12_tightIn 82 = .ok (.goto (-50), 3) := by decide +kernel
theorem dX12_tightIn_85 : decode cX12_tightIn 85 = .ok (.iload_n 3, 1) := by decide +kernel
theorem dX12_tightIn_86 : decode cX12_tightIn 86 = .ok (.aload_n 0, 1) := by decide +kernel
theorem dX12_tightIn_87 : decode cX12_tightIn 87 = .ok (.getfield 28, 3) := by decide +kernel
theorem dX12_tightIn_90 : decode cX12_tightIn 90 = .ok (.iload_n 1, 1) := by decide +kernel
theorem dX12_tightIn_91 : decode cX12_tightIn 91 = .ok (.invokestatic 253, 3) := by decide +kernel
theorem dX12_tightIn_94 : decode cX12_tightIn 94 = .ok (.invokestatic 139, 3) := by decide +kernel
theorem dX12_tightIn_97 : decode cX12_tightIn 97 = .ok (.iadd, 1) := by decide +kernel
theorem dX12_tightIn_98 : decode cX12_tightIn 98 = .ok (.istore_n 3, 1) := by decide +kernel
theorem dX12_tightIn_99 : decode cX12_tightIn 99 = .ok (.iinc 4 1, 3) := by decide +kernel
theorem dX12_tightIn_102 : decode cX12_tightIn 102 = .ok (.goto (-82), 3) := by decide +kernel
theorem dX12_tightIn_105 : decode cX12_tightIn 105 = .ok (.iload_n 3, 1) := by decide +kernel
theorem dX12_tightIn_106 : decode cX12_tightIn 106 = .ok (.ireturn, 1) := by decide +kernel
theorem dX12_sure_0 : decode cX12_sure 0 = .ok (.aload_n 0, 1) := by decide +kernel
theorem dX12_sure_1 : decode cX12_sure 1 = .ok (.iconst 0, 1) := by decide +kernel
theorem dX12_sure_2 : decode cX12_sure 2 = .ok (.putfield 3, 3) := by decide +kernel
theorem dX12_sure_5 : decode cX12_sure 5 = .ok (.aload_n 0, 1) := by decide +kernel
theorem dX12_sure_6 : decode cX12_sure 6 = .ok (.getfield 24, 3) := by decide +kernel
theorem dX12_sure_9 : decode cX12_sure 9 = .ok (.iload_n 1, 1) := by decide +kernel
theorem dX12_sure_10 : decode cX12_sure 10 = .ok (.invokestatic 244, 3) := by decide +kernel
theorem dX12_sure_13 : decode cX12_sure 13 = .ok (.ifCond .ne 5, 3) := by decide +kernel
theorem dX12_sure_16 : decode cX12_sure 16 = .ok (.iconst (-1), 1) := by decide +kernel
theorem dX12_sure_17 : decode cX12_sure 17 = .ok (.ireturn, 1) := by decide +kernel
theorem dX12_sure_18 : decode cX12_sure 18 = .ok (.aload_n 0, 1) := by decide +kernel
theorem dX12_sure_19 : decode cX12_sure 19 = .ok (.iload_n 1, 1) := by decide +kernel
theorem dX12_sure_20 : decode cX12_sure 20 = .ok (.iconst 3, 1) := by decide +kernel
theorem dX12_sure_21 : decode cX12_sure 21 = .ok (.idiv, 1) := by decide +kernel
theorem dX12_sure_22 : decode cX12_sure 22 = .ok (.invokevirtual 421, 3) := by decide +kernel
theorem dX12_sure_25 : decode cX12_sure 25 = .ok (.aload_n 0, 1) := by decide +kernel
theorem dX12_sure_26 : decode cX12_sure 26 = .ok (.getfield 406, 3) := by decide +kernel
theorem dX12_sure_29 : decode cX12_sure 29 = .ok (.ifCond .ne 6, 3) := by decide +kernel
theorem dX12_sure_32 : decode cX12_sure 32 = .ok (.bipush (-2), 2) := by decide +kernel
theorem dX12_sure_34 : decode cX12_sure 34 = .ok (.ireturn, 1) := by decide +kernel
theorem dX12_sure_35 : decode cX12_sure 35 = .ok (.aload_n 0, 1) := by decide +kernel
theorem dX12_sure_36 : decode cX12_sure 36 = .ok (.iload_n 1, 1) := by decide +kernel
theorem dX12_sure_37 : decode cX12_sure 37 = .ok (.invokevirtual 428, 3) := by decide +kernel
theorem dX12_sure_40 : decode cX12_sure 40 = .ok (.istore_n 2, 1) := by decide +kernel
theorem dX12_sure_41 : decode cX12_sure 41 = .ok (.aload_n 0, 1) := by decide +kernel
theorem dX12_sure_42 : decode cX12_sure 42 = .ok (.iconst 0, 1) := by decide +kernel
theorem dX12_sure_43 : decode cX12_sure 43 = .ok (.putfield 15, 3) := by decide +kernel
theorem dX12_sure_46 : decode cX12_sure 46 = .ok (.aload_n 0, 1) := by decide +kernel
theorem dX12_sure_47 : decode cX12_sure 47 = .ok (.iload_n 2, 1) := by decide +kernel
theorem dX12_sure_48 : decode cX12_sure 48 = .ok (.i2l, 1) := by decide +kernel
theorem dX12_sure_49 : decode cX12_sure 49 = .ok (.invokevirtual 279, 3) := by decide +kernel
theorem dX12_sure_52 : decode cX12_sure 52 = .ok (.aload_n 0, 1) := by decide +kernel
theorem dX12_sure_53 : decode cX12_sure 53 = .ok (.aload_n 0, 1) := by decide +kernel
theorem dX12_sure_54 : decode cX12_sure 54 = .ok (.getfield 406, 3) := by decide +kernel
theorem dX12_sure_57 : decode cX12_sure 57 = .ok (.i2l, 1) := by decide +kernel
theorem dX12_sure_58 : decode cX12_sure 58 = .ok (.invokevirtual 279, 3) := by decide +kernel
theorem dX12_sure_61 : decode cX12_sure 61 = .ok (.iload_n 2, 1) := by decide +kernel
theorem dX12_sure_62 : decode cX12_sure 62 = .ok (.aload_n 0, 1) := by decide +kernel
theorem dX12_sure_63 : decode cX12_sure 63 = .ok (.getfield 406, 3) := by decide +kernel
theorem dX12_sure_66 : decode cX12_sure 66 = .ok (.if_icmp .ne 7, 3) := by decide +kernel
theorem dX12_sure_69 : decode cX12_sure 69 = .ok (.iconst 1, 1) := by decide +kernel
theorem dX12_sure_70 : decode cX12_sure 70 = .ok (.goto 12, 3) := by decide +kernel
theorem dX12_sure_73 : decode cX12_sure 73 = .ok (.iload_n 2, 1) := by decide +kernel
theorem dX12_sure_74 : decode cX12_sure 74 = .ok (.ifCond .ne 7, 3) := by decide +kernel
theorem dX12_sure_77 : decode cX12_sure 77 = .ok (.iconst 0, 1) := by decide +kernel
theorem dX12_sure_78 : decode cX12_sure 78 = .ok (.goto 4, 3) := by decide +kernel
theorem dX12_sure_81 : decode cX12_sure 81 = .ok (.iconst 2, 1) := by decide +kernel
theorem dX12_sure_82 : decode cX12_sure 82 = .ok (.ireturn, 1) := by decide +kernel
theorem dX12_touch_0 : decode cX12_touch 0 = .ok (.aload_n 0, 1) := by decide +kernel
theorem dX12_touch_1 : decode cX12_touch 1 = .ok (.iconst 0, 1) := by decide +kernel
theorem dX12_touch_2 : decode cX12_touch 2 = .ok (.putfield 3, 3) := by decide +kernel
theorem dX12_touch_5 : decode cX12_touch 5 = .ok (.aload_n 0, 1) := by decide +kernel
theorem dX12_touch_6 : decode cX12_touch 6 = .ok (.iload_n 1, 1) := by decide +kernel
theorem dX12_touch_7 : decode cX12_touch 7 = .ok (.invokevirtual 267, 3) := by decide +kernel
theorem dX12_touch_10 : decode cX12_touch 10 = .ok (.ifCond .ne 5, 3) := by decide +kernel
theorem dX12_touch_13 : decode cX12_touch 13 = .ok (.iconst (-1), 1) := by decide +kernel
theorem dX12_touch_14 : decode cX12_touch 14 = .ok (.ireturn, 1) := by decide +kernel
theorem dX12_touch_15 : decode cX12_touch 15 = .ok (.aload_n 0, 1) := by decide +kernel
theorem dX12_touch_16 : decode cX12_touch 16 = .ok (.iload_n 1, 1) := by decide +kernel
theorem dX12_touch_17 : decode cX12_touch 17 = .ok (.invokevirtual 421, 3) := by decide +kernel
theorem dX12_touch_20 : decode cX12_touch 20 = .ok (.aload_n 0, 1) := by decide +kernel
theorem dX12_touch_21 : decode cX12_touch 21 = .ok (.getfield 406, 3) := by decide +kernel
theorem dX12_touch_24 : decode cX12_touch 24 = .ok (.ifCond .ne 6, 3) := by decide +kernel
theorem dX12_touch_27 : decode cX12_touch 27 = .ok (.bipush (-2), 2) := by decide +kernel
theorem dX12_touch_29 : decode cX12_touch 29 = .ok (.ireturn, 1) := by decide +kernel
theorem dX12_touch_30 : decode cX12_touch 30 = .ok (.iconst (-1), 1) := by decide +kernel
theorem dX12_touch_31 : decode cX12_touch 31 = .ok (.istore_n 2, 1) := by decide +kernel
theorem dX12_touch_32 : decode cX12_touch 32 = .ok (.iconst 0, 1) := by decide +kernel
theorem dX12_touch_33 : decode cX12_touch 33 = .ok (.istore_n 3, 1) := by decide +kernel
theorem dX12_touch_34 : decode cX12_touch 34 = .ok (.iconst 3, 1) := by decide +kernel
theorem dX12_touch_35 : decode cX12_touch 35 = .ok (.iload_n 1, 1) := by decide +kernel
theorem dX12_touch_36 : decode cX12_touch 36 = .ok (.imul, 1) := by decide +kernel
theorem dX12_touch_37 : decode cX12_touch 37 = .ok (.istore 4, 2) := by decide +kernel
theorem dX12_touch_39 : decode cX12_touch 39 = .ok (.iload 4, 2) := by decide +kernel
theorem dX12_touch_41 : decode cX12_touch 41 = .ok (.iconst 3, 1) := by decide +kernel
theorem dX12_touch_42 : decode cX12_touch 42 = .ok (.iload_n 1, 1) := by decide +kernel
theorem dX12_touch_43 : decode cX12_touch 43 = .ok (.imul, 1) := by decide +kernel
theorem dX12_touch_44 : decode cX12_touch 44 = .ok (.iconst 3, 1) := by decide +kernel
theorem dX12_touch_45 : decode cX12_touch 45 = .ok (.iadd, 1) := by decide +kernel
theorem dX12_touch_46 : decode cX12_touch 46 = .ok (.if_icmp .ge 57, 3) := by decide +kernel
theorem dX12_touch_49 : decode cX12_touch 49 = .ok (.aload_n 0, 1) := by decide +kernel
theorem dX12_touch_50 : decode cX12_touch 50 = .ok (.getfield 24, 3) := by decide +kernel
theorem dX12_touch_53 : decode cX12_touch 53 = .ok (.iload 4, 2) := by decide +kernel
theorem dX12_touch_55 : decode cX12_touch 55 = .ok (.iaload, 1) := by decide +kernel
theorem dX12_touch_56 : decode cX12_touch 56 = .ok (.ifCond .lt 41, 3) := by decide +kernel
theorem dX12_touch_59 : decode cX12_touch 59 = .ok (.aload_n 0, 1) := by decide +kernel
theorem dX12_touch_60 : decode cX12_touch 60 = .ok (.iload 4, 2) := by decide +kernel
theorem dX12_touch_62 : decode cX12_touch 62 = .ok (.invokevirtual 428, 3) := by decide +kernel
theorem dX12_touch_65 : decode cX12_touch 65 = .ok (.istore 5, 2) := by decide +kernel
theorem dX12_touch_67 : decode cX12_touch 67 = .ok (.iload 5, 2) := by decide +kernel
theorem dX12_touch_69 : decode cX12_touch 69 = .ok (.aload_n 0, 1) := by decide +kernel
theorem dX12_touch_70 : decode cX12_touch 70 = .ok (.getfield 406, 3) := by decide +kernel
theorem dX12_touch_73 : decode cX12_touch 73 = .ok (.iload 5, 2) := by decide +kernel
theorem dX12_touch_75 : decode cX12_touch 75 = .ok (.isub, 1) := by decide +kernel
theorem dX12_touch_76 : decode cX12_touch 76 = .ok (.invokestatic 224, 3) := by decide +kernel
theorem dX12_touch_79 : decode cX12_touch 79 = .ok (.istore 6, 2) := by decide +kernel
theorem dX12_touch_81 : decode cX12_touch 81 = .ok (.iload_n 2, 1) := by decide +kernel
theorem dX12_touch_82 : decode cX12_touch 82 = .ok (.ifCond .lt 9, 3) := by decide +kernel
theorem dX12_touch_85 : decode cX12_touch 85 = .ok (.iload 6, 2) := by decide +kernel
theorem dX12_touch_87 : decode cX12_touch 87 = .ok (.iload_n 3, 1) := by decide +kernel
theorem dX12_touch_88 : decode cX12_touch 88 = .ok (.if_icmp .ge 9, 3) := by decide +kernel
theorem dX12_touch_91 : decode cX12_touch 91 = .ok (.iload 4, 2) := by decide +kernel
theorem dX12_touch_93 : decode cX12_touch 93 = .ok (.istore_n 2, 1) := by decide +kernel
theorem dX12_touch_94 : decode cX12_touch 94 = .ok (.iload 6, 2) := by decide +kernel
theorem dX12_touch_96 : decode cX12_touch 96 = .ok (.istore_n 3, 1) := by decide +kernel
theorem dX12_touch_97 : decode cX12_touch 97 = .ok (.iinc 4 1, 3) := by decide +kernel
theorem dX12_touch_100 : decode cX12_touch 100 = .ok (.goto (-61), 3) := by decide +kernel
theorem dX12_touch_103 : decode cX12_touch 103 = .ok (.aload_n 0, 1) := by decide +kernel
theorem dX12_touch_104 : decode cX12_touch 104 = .ok (.iconst 0, 1) := by decide +kernel
theorem dX12_touch_105 : decode cX12_touch 105 = .ok (.putfield 15, 3) := by decide +kernel
theorem dX12_touch_108 : decode cX12_touch 108 = .ok (.aload_n 0, 1) := by decide +kernel
theorem dX12_touch_109 : decode cX12_touch 109 = .ok (.iload_n 3, 1) := by decide +kernel
theorem dX12_touch_110 : decode cX12_touch 110 = .ok (.i2l, 1) := by decide +kernel
theorem dX12_touch_111 : decode cX12_touch 111 = .ok (.invokevirtual 279, 3) := by decide +kernel
theorem dX12_touch_114 : decode cX12_touch 114 = .ok (.iload_n 2, 1) := by decide +kernel
theorem dX12_touch_115 : decode cX12_touch 115 = .ok (.ireturn, 1) := by decide +kernel
theorem dX12_keep_0 : decode cX12_keep 0 = .ok (.aload_n 0, 1) := by decide +kernel
theorem dX12_keep_1 : decode cX12_keep 1 = .ok (.iconst 0, 1) := by decide +kernel
theorem dX12_keep_2 : decode cX12_keep 2 = .ok (.putfield 3, 3) := by decide +kernel
theorem dX12_keep_5 : decode cX12_keep 5 = .ok (.iload_n 1, 1) := by decide +kernel
theorem dX12_keep_6 : decode cX12_keep 6 = .ok (.i2l, 1) := by decide +kernel
theorem dX12_keep_7 : decode cX12_keep 7 = .ok (.lconst 0, 1) := by decide +kernel
theorem dX12_keep_8 : decode cX12_keep 8 = .ok (.ldc2_w 396, 3) := by decide +kernel
theorem dX12_keep_11 : decode cX12_keep 11 = .ok (.invokestatic 135, 3) := by decide +kernel
theorem dX12_keep_14 : decode cX12_keep 14 = .ok (.ifCond .ne 5, 3) := by decide +kernel
theorem dX12_keep_17 : decode cX12_keep 17 = .ok (.iconst 0, 1) := by decide +kernel
theorem dX12_keep_18 : decode cX12_keep 18 = .ok (.ireturn, 1) := by decide +kernel
theorem dX12_keep_19 : decode cX12_keep 19 = .ok (.aload_n 0, 1) := by decide +kernel
theorem dX12_keep_20 : decode cX12_keep 20 = .ok (.getfield 118, 3) := by decide +kernel
theorem dX12_keep_23 : decode cX12_keep 23 = .ok (.iload_n 1, 1) := by decide +kernel
theorem dX12_keep_24 : decode cX12_keep 24 = .ok (.iconst 1, 1) := by decide +kernel
theorem dX12_keep_25 : decode cX12_keep 25 = .ok (.bastore, 1) := by decide +kernel
theorem dX12_keep_26 : decode cX12_keep 26 = .ok (.iconst 0, 1) := by decide +kernel
theorem dX12_keep_27 : decode cX12_keep 27 = .ok (.istore_n 2, 1) := by decide +kernel
theorem dX12_keep_28 : decode cX12_keep 28 = .ok (.iload_n 2, 1) := by decide +kernel
theorem dX12_keep_29 : decode cX12_keep 29 = .ok (.bipush 54, 2) := by decide +kernel
theorem dX12_keep_31 : decode cX12_keep 31 = .ok (.if_icmp .ge 26, 3) := by decide +kernel
theorem dX12_keep_34 : decode cX12_keep 34 = .ok (.aload_n 0, 1) := by decide +kernel
theorem dX12_keep_35 : decode cX12_keep 35 = .ok (.getfield 122, 3) := by decide +kernel
theorem dX12_keep_38 : decode cX12_keep 38 = .ok (.bipush 54, 2) := by decide +kernel
theorem dX12_keep_40 : decode cX12_keep 40 = .ok (.iload_n 1, 1) := by decide +kernel
theorem dX12_keep_41 : decode cX12_keep 41 = .ok (.imul, 1) := by decide +kernel
theorem dX12_keep_42 : decode cX12_keep 42 = .ok (.iload_n 2, 1) := by decide +kernel
theorem dX12_keep_43 : decode cX12_keep 43 = .ok (.iadd, 1) := by decide +kernel
theorem dX12_keep_44 : decode cX12_keep 44 = .ok (.aload_n 0, 1) := by decide +kernel
theorem dX12_keep_45 : decode cX12_keep 45 = .ok (.getfield 24, 3) := by decide +kernel
theorem dX12_keep_48 : decode cX12_keep 48 = .ok (.iload_n 2, 1) := by decide +kernel
theorem dX12_keep_49 : decode cX12_keep 49 = .ok (.iaload, 1) := by decide +kernel
theorem dX12_keep_50 : decode cX12_keep 50 = .ok (.iastore, 1) := by decide +kernel
theorem dX12_keep_51 : decode cX12_keep 51 = .ok (.iinc 2 1, 3) := by decide +kernel
theorem dX12_keep_54 : decode cX12_keep 54 = .ok (.goto (-26), 3) := by decide +kernel
theorem dX12_keep_57 : decode cX12_keep 57 = .ok (.iconst 1, 1) := by decide +kernel
theorem dX12_keep_58 : decode cX12_keep 58 = .ok (.ireturn, 1) := by decide +kernel
theorem dX12_again_0 : decode cX12_again 0 = .ok (.aload_n 0, 1) := by decide +kernel
theorem dX12_again_1 : decode cX12_again 1 = .ok (.iconst 0, 1) := by decide +kernel
theorem dX12_again_2 : decode cX12_again 2 = .ok (.putfield 3, 3) := by decide +kernel
theorem dX12_again_5 : decode cX12_again 5 = .ok (.iload_n 1, 1) := by decide +kernel
theorem dX12_again_6 : decode cX12_again 6 = .ok (.i2l, 1) := by decide +kernel
theorem dX12_again_7 : decode cX12_again 7 = .ok (.lconst 0, 1) := by decide +kernel
theorem dX12_again_8 : decode cX12_again 8 = .ok (.ldc2_w 396, 3) := by decide +kernel
theorem dX12_again_11 : decode cX12_again 11 = .ok (.invokestatic 135, 3) := by decide +kernel
theorem dX12_again_14 : decode cX12_again 14 = .ok (.ifCond .eq 12, 3) := by decide +kernel
theorem dX12_again_17 : decode cX12_again 17 = .ok (.aload_n 0, 1) := by decide +kernel
theorem dX12_again_18 : decode cX12_again 18 = .ok (.getfield 118, 3) := by decide +kernel
theorem dX12_again_21 : decode cX12_again 21 = .ok (.iload_n 1, 1) := by decide +kernel
theorem dX12_again_22 : decode cX12_again 22 = .ok (.baload, 1) := by decide +kernel
theorem dX12_again_23 : decode cX12_again 23 = .ok (.ifCond .ne 5, 3) := by decide +kernel
theorem dX12_again_26 : decode cX12_again 26 = .ok (.iconst 0, 1) := by decide +kernel
theorem dX12_again_27 : decode cX12_again 27 = .ok (.ireturn, 1) := by decide +kernel
theorem dX12_again_28 : decode cX12_again 28 = .ok (.iconst 0, 1) := by decide +kernel
theorem dX12_again_29 : decode cX12_again 29 = .ok (.istore_n 2, 1) := by decide +kernel
theorem dX12_again_30 : decode cX12_again 30 = .ok (.iload_n 2, 1) := by decide +kernel
theorem dX12_again_31 : decode cX12_again 31 = .ok (.bipush 54, 2) := by decide +kernel
theorem dX12_again_33 : decode cX12_again 33 = .ok (.if_icmp .ge 26, 3) := by decide +kernel
theorem dX12_again_36 : decode cX12_again 36 = .ok (.aload_n 0, 1) := by decide +kernel
theorem dX12_again_37 : decode cX12_again 37 = .ok (.getfield 24, 3) := by decide +kernel
theorem dX12_again_40 : decode cX12_again 40 = .ok (.iload_n 2, 1) := by decide +kernel
theorem dX12_again_41 : decode cX12_again 41 = .ok (.aload_n 0, 1) := by decide +kernel
theorem dX12_again_42 : decode cX12_again 42 = .ok (.getfield 122, 3) := by decide +kernel
theorem dX12_again_45 : decode cX12_again 45 = .ok (.bipush 54, 2) := by decide +kernel
theorem dX12_again_47 : decode cX12_again 47 = .ok (.iload_n 1, 1) := by decide +kernel
theorem dX12_again_48 : decode cX12_again 48 = .ok (.imul, 1) := by decide +kernel
theorem dX12_again_49 : decode cX12_again 49 = .ok (.iload_n 2, 1) := by decide +kernel
theorem dX12_again_50 : decode cX12_again 50 = .ok (.iadd, 1) := by decide +kernel
theorem dX12_again_51 : decode cX12_again 51 = .ok (.iaload, 1) := by decide +kernel
theorem dX12_again_52 : decode cX12_again 52 = .ok (.iastore, 1) := by decide +kernel
theorem dX12_again_53 : decode cX12_again 53 = .ok (.iinc 2 1, 3) := by decide +kernel
theorem dX12_again_56 : decode cX12_again 56 = .ok (.goto (-26), 3) := by decide +kernel
theorem dX12_again_59 : decode cX12_again 59 = .ok (.aload_n 0, 1) := by decide +kernel
theorem dX12_again_60 : decode cX12_again 60 = .ok (.getfield 24, 3) := by decide +kernel
theorem dX12_again_63 : decode cX12_again 63 = .ok (.bipush 49, 2) := by decide +kernel
theorem dX12_again_65 : decode cX12_again 65 = .ok (.dup2, 1) := by decide +kernel
theorem dX12_again_66 : decode cX12_again 66 = .ok (.iaload, 1) := by decide +kernel
theorem dX12_again_67 : decode cX12_again 67 = .ok (.aload_n 0, 1) := by decide +kernel
theorem dX12_again_68 : decode cX12_again 68 = .ok (.getfield 34, 3) := by decide +kernel
theorem dX12_again_71 : decode cX12_again 71 = .ok (.irem, 1) := by decide +kernel
theorem dX12_again_72 : decode cX12_again 72 = .ok (.iastore, 1) := by decide +kernel
theorem dX12_again_73 : decode cX12_again 73 = .ok (.aload_n 0, 1) := by decide +kernel
theorem dX12_again_74 : decode cX12_again 74 = .ok (.invokevirtual 129, 3) := by decide +kernel
theorem dX12_again_77 : decode cX12_again 77 = .ok (.pop, 1) := by decide +kernel
theorem dX12_again_78 : decode cX12_again 78 = .ok (.aload_n 0, 1) := by decide +kernel
theorem dX12_again_79 : decode cX12_again 79 = .ok (.iconst 0, 1) := by decide +kernel
theorem dX12_again_80 : decode cX12_again 80 = .ok (.putfield 189, 3) := by decide +kernel
theorem dX12_again_83 : decode cX12_again 83 = .ok (.iconst 1, 1) := by decide +kernel
theorem dX12_again_84 : decode cX12_again 84 = .ok (.ireturn, 1) := by decide +kernel
theorem dX12_blocks_0 : decode cX12_blocks 0 = .ok (.iconst 0, 1) := by decide +kernel
theorem dX12_blocks_1 : decode cX12_blocks 1 = .ok (.istore_n 1, 1) := by decide +kernel
theorem dX12_blocks_2 : decode cX12_blocks 2 = .ok (.iconst 0, 1) := by decide +kernel
theorem dX12_blocks_3 : decode cX12_blocks 3 = .ok (.istore_n 2, 1) := by decide +kernel
theorem dX12_blocks_4 : decode cX12_blocks 4 = .ok (.iload_n 2, 1) := by decide +kernel
theorem dX12_blocks_5 : decode cX12_blocks 5 = .ok (.aload_n 0, 1) := by decide +kernel
theorem dX12_blocks_6 : decode cX12_blocks 6 = .ok (.getfield 24, 3) := by decide +kernel
theorem dX12_blocks_9 : decode cX12_blocks 9 = .ok (.bipush 48, 2) := by decide +kernel
theorem dX12_blocks_11 : decode cX12_blocks 11 = .ok (.iaload, 1) := by decide +kernel
theorem dX12_blocks_12 : decode cX12_blocks 12 = .ok (.if_icmp .ge 20, 3) := by decide +kernel
theorem dX12_blocks_15 : decode cX12_blocks 15 = .ok (.iload_n 1, 1) := by decide +kernel
theorem dX12_blocks_16 : decode cX12_blocks 16 = .ok (.aload_n 0, 1) := by decide +kernel
theorem dX12_blocks_17 : decode cX12_blocks 17 = .ok (.getfield 24, 3) := by decide +kernel
theorem dX12_blocks_20 : decode cX12_blocks 20 = .ok (.iload_n 2, 1) := by decide +kernel
theorem dX12_blocks_21 : decode cX12_blocks 21 = .ok (.invokestatic 256, 3) := by decide +kernel
theorem dX12_blocks_24 : decode cX12_blocks 24 = .ok (.iadd, 1) := by decide +kernel
theorem dX12_blocks_25 : decode cX12_blocks 25 = .ok (.istore_n 1, 1) := by decide +kernel
theorem dX12_blocks_26 : decode cX12_blocks 26 = .ok (.iinc 2 1, 3) := by decide +kernel
theorem dX12_blocks_29 : decode cX12_blocks 29 = .ok (.goto (-25), 3) := by decide +kernel
theorem dX12_blocks_32 : decode cX12_blocks 32 = .ok (.iload_n 1, 1) := by decide +kernel
theorem dX12_blocks_33 : decode cX12_blocks 33 = .ok (.ireturn, 1) := by decide +kernel
theorem dX12_count_0 : decode cX12_count 0 = .ok (.aload_n 0, 1) := by decide +kernel
theorem dX12_count_1 : decode cX12_count 1 = .ok (.iconst 0, 1) := by decide +kernel
theorem dX12_count_2 : decode cX12_count 2 = .ok (.putfield 3, 3) := by decide +kernel
theorem dX12_count_5 : decode cX12_count 5 = .ok (.iload_n 1, 1) := by decide +kernel
theorem dX12_count_6 : decode cX12_count 6 = .ok (.tableswitch 164 0 12 #[66, 74, 79, 94, 99, 107, 126, 134, 139, 144, 149, 154, 159], 66) := by decide +kernel
theorem dX12_count_72 : decode cX12_count 72 = .ok (.aload_n 0, 1) := by decide +kernel
theorem dX12_count_73 : decode cX12_count 73 = .ok (.getfield 24, 3) := by decide +kernel
theorem dX12_count_76 : decode cX12_count 76 = .ok (.bipush 48, 2) := by decide +kernel
theorem dX12_count_78 : decode cX12_count 78 = .ok (.iaload, 1) := by decide +kernel
theorem dX12_count_79 : decode cX12_count 79 = .ok (.ireturn, 1) := by decide +kernel
theorem dX12_count_80 : decode cX12_count 80 = .ok (.aload_n 0, 1) := by decide +kernel
theorem dX12_count_81 : decode cX12_count 81 = .ok (.invokevirtual 431, 3) := by decide +kernel
theorem dX12_count_84 : decode cX12_count 84 = .ok (.ireturn, 1) := by decide +kernel
theorem dX12_count_85 : decode cX12_count 85 = .ok (.iconst 3, 1) := by decide +kernel
theorem dX12_count_86 : decode cX12_count 86 = .ok (.aload_n 0, 1) := by decide +kernel
theorem dX12_count_87 : decode cX12_count 87 = .ok (.getfield 24, 3) := by decide +kernel
theorem dX12_count_90 : decode cX12_count 90 = .ok (.bipush 48, 2) := by decide +kernel
theorem dX12_count_92 : decode cX12_count 92 = .ok (.iaload, 1) := by decide +kernel
theorem dX12_count_93 : decode cX12_count 93 = .ok (.imul, 1) := by decide +kernel
theorem dX12_count_94 : decode cX12_count 94 = .ok (.aload_n 0, 1) := by decide +kernel

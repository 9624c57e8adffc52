theorem dX11_leave_16 : decode cX11_leave 16 = .ok (.invokevirtual 307, 3) := by decide +kernel
theorem dX11_leave_19 : decode cX11_leave 19 = .ok (.invokevirtual 330, 3) := by decide +kernel
theorem dX11_leave_22 : decode cX11_leave 22 = .ok (.aload_n 0, 1) := by decide +kernel
theorem dX11_leave_23 : decode cX11_leave 23 = .ok (.getfield 64, 3) := by decide +kernel
theorem dX11_leave_26 : decode cX11_leave 26 = .ok (.getfield 321, 3) := by decide +kernel
theorem dX11_leave_29 : decode cX11_leave 29 = .ok (.iconst (-1), 1) := by decide +kernel
theorem dX11_leave_30 : decode cX11_leave 30 = .ok (.if_icmp .ne 6, 3) := by decide +kernel
theorem dX11_leave_33 : decode cX11_leave 33 = .ok (.bipush (-2), 2) := by decide +kernel
theorem dX11_leave_35 : decode cX11_leave 35 = .ok (.ireturn, 1) := by decide +kernel
theorem dX11_leave_36 : decode cX11_leave 36 = .ok (.aload_n 0, 1) := by decide +kernel
theorem dX11_leave_37 : decode cX11_leave 37 = .ok (.getfield 19, 3) := by decide +kernel
theorem dX11_leave_40 : decode cX11_leave 40 = .ok (.invokevirtual 244, 3) := by decide +kernel
theorem dX11_leave_43 : decode cX11_leave 43 = .ok (.aload_n 0, 1) := by decide +kernel
theorem dX11_leave_44 : decode cX11_leave 44 = .ok (.getfield 19, 3) := by decide +kernel
theorem dX11_leave_47 : decode cX11_leave 47 = .ok (.aload_n 0, 1) := by decide +kernel
theorem dX11_leave_48 : decode cX11_leave 48 = .ok (.getfield 64, 3) := by decide +kernel
theorem dX11_leave_51 : decode cX11_leave 51 = .ok (.getfield 333, 3) := by decide +kernel
theorem dX11_leave_54 : decode cX11_leave 54 = .ok (.i2l, 1) := by decide +kernel
theorem dX11_leave_55 : decode cX11_leave 55 = .ok (.invokevirtual 248, 3) := by decide +kernel
theorem dX11_leave_58 : decode cX11_leave 58 = .ok (.aload_n 0, 1) := by decide +kernel
theorem dX11_leave_59 : decode cX11_leave 59 = .ok (.getfield 19, 3) := by decide +kernel
theorem dX11_leave_62 : decode cX11_leave 62 = .ok (.aload_n 0, 1) := by decide +kernel
theorem dX11_leave_63 : decode cX11_leave 63 = .ok (.getfield 64, 3) := by decide +kernel
theorem dX11_leave_66 : decode cX11_leave 66 = .ok (.getfield 324, 3) := by decide +kernel
theorem dX11_leave_69 : decode cX11_leave 69 = .ok (.i2l, 1) := by decide +kernel
theorem dX11_leave_70 : decode cX11_leave 70 = .ok (.invokevirtual 248, 3) := by decide +kernel
theorem dX11_leave_73 : decode cX11_leave 73 = .ok (.aload_n 0, 1) := by decide +kernel
theorem dX11_leave_74 : decode cX11_leave 74 = .ok (.getfield 64, 3) := by decide +kernel
theorem dX11_leave_77 : decode cX11_leave 77 = .ok (.getfield 321, 3) := by decide +kernel
theorem dX11_leave_80 : decode cX11_leave 80 = .ok (.ireturn, 1) := by decide +kernel
theorem dX11_where_0 : decode cX11_where 0 = .ok (.aload_n 0, 1) := by decide +kernel
theorem dX11_where_1 : decode cX11_where 1 = .ok (.getfield 26, 3) := by decide +kernel
theorem dX11_where_4 : decode cX11_where 4 = .ok (.getfield 132, 3) := by decide +kernel
theorem dX11_where_7 : decode cX11_where 7 = .ok (.iload_n 1, 1) := by decide +kernel
theorem dX11_where_8 : decode cX11_where 8 = .ok (.invokevirtual 165, 3) := by decide +kernel
theorem dX11_where_11 : decode cX11_where 11 = .ok (.ifCond .ne 5, 3) := by decide +kernel
theorem dX11_where_14 : decode cX11_where 14 = .ok (.iconst (-1), 1) := by decide +kernel
theorem dX11_where_15 : decode cX11_where 15 = .ok (.ireturn, 1) := by decide +kernel
theorem dX11_where_16 : decode cX11_where 16 = .ok (.aload_n 0, 1) := by decide +kernel
theorem dX11_where_17 : decode cX11_where 17 = .ok (.getfield 64, 3) := by decide +kernel
theorem dX11_where_20 : decode cX11_where 20 = .ok (.aload_n 0, 1) := by decide +kernel
theorem dX11_where_21 : decode cX11_where 21 = .ok (.invokevirtual 280, 3) := by decide +kernel
theorem dX11_where_24 : decode cX11_where 24 = .ok (.iload_n 1, 1) := by decide +kernel
theorem dX11_where_25 : decode cX11_where 25 = .ok (.invokevirtual 336, 3) := by decide +kernel
theorem dX11_where_28 : decode cX11_where 28 = .ok (.aload_n 0, 1) := by decide +kernel
theorem dX11_where_29 : decode cX11_where 29 = .ok (.getfield 64, 3) := by decide +kernel
theorem dX11_where_32 : decode cX11_where 32 = .ok (.getfield 321, 3) := by decide +kernel
theorem dX11_where_35 : decode cX11_where 35 = .ok (.iconst (-1), 1) := by decide +kernel
theorem dX11_where_36 : decode cX11_where 36 = .ok (.if_icmp .ne 6, 3) := by decide +kernel
theorem dX11_where_39 : decode cX11_where 39 = .ok (.bipush (-2), 2) := by decide +kernel
theorem dX11_where_41 : decode cX11_where 41 = .ok (.ireturn, 1) := by decide +kernel
theorem dX11_where_42 : decode cX11_where 42 = .ok (.aload_n 0, 1) := by decide +kernel
theorem dX11_where_43 : decode cX11_where 43 = .ok (.getfield 19, 3) := by decide +kernel
theorem dX11_where_46 : decode cX11_where 46 = .ok (.invokevirtual 244, 3) := by decide +kernel
theorem dX11_where_49 : decode cX11_where 49 = .ok (.aload_n 0, 1) := by decide +kernel
theorem dX11_where_50 : decode cX11_where 50 = .ok (.getfield 19, 3) := by decide +kernel
theorem dX11_where_53 : decode cX11_where 53 = .ok (.aload_n 0, 1) := by decide +kernel
theorem dX11_where_54 : decode cX11_where 54 = .ok (.getfield 64, 3) := by decide +kernel
theorem dX11_where_57 : decode cX11_where 57 = .ok (.getfield 333, 3) := by decide +kernel
theorem dX11_where_60 : decode cX11_where 60 = .ok (.i2l, 1) := by decide +kernel
theorem dX11_where_61 : decode cX11_where 61 = .ok (.invokevirtual 248, 3) := by decide +kernel
theorem dX11_where_64 : decode cX11_where 64 = .ok (.aload_n 0, 1) := by decide +kernel
theorem dX11_where_65 : decode cX11_where 65 = .ok (.getfield 64, 3) := by decide +kernel
theorem dX11_where_68 : decode cX11_where 68 = .ok (.getfield 321, 3) := by decide +kernel
theorem dX11_where_71 : decode cX11_where 71 = .ok (.ireturn, 1) := by decide +kernel
theorem dX11_move_0 : decode cX11_move 0 = .ok (.aload_n 0, 1) := by decide +kernel
theorem dX11_move_1 : decode cX11_move 1 = .ok (.invokevirtual 280, 3) := by decide +kernel
theorem dX11_move_4 : decode cX11_move 4 = .ok (.iload_n 1, 1) := by decide +kernel
theorem dX11_move_5 : decode cX11_move 5 = .ok (.invokevirtual 300, 3) := by decide +kernel
theorem dX11_move_8 : decode cX11_move 8 = .ok (.ifCond .ne 6, 3) := by decide +kernel
theorem dX11_move_11 : decode cX11_move 11 = .ok (.bipush (-2), 2) := by decide +kernel
theorem dX11_move_13 : decode cX11_move 13 = .ok (.ireturn, 1) := by decide +kernel
theorem dX11_move_14 : decode cX11_move 14 = .ok (.aload_n 0, 1) := by decide +kernel
theorem dX11_move_15 : decode cX11_move 15 = .ok (.getfield 33, 3) := by decide +kernel
theorem dX11_move_18 : decode cX11_move 18 = .ok (.aload_n 0, 1) := by decide +kernel
theorem dX11_move_19 : decode cX11_move 19 = .ok (.getfield 26, 3) := by decide +kernel
theorem dX11_move_22 : decode cX11_move 22 = .ok (.invokevirtual 339, 3) := by decide +kernel
theorem dX11_move_25 : decode cX11_move 25 = .ok (.aload_n 0, 1) := by decide +kernel
theorem dX11_move_26 : decode cX11_move 26 = .ok (.iload_n 1, 1) := by decide +kernel
theorem dX11_move_27 : decode cX11_move 27 = .ok (.invokevirtual 343, 3) := by decide +kernel
theorem dX11_move_30 : decode cX11_move 30 = .ok (.aload_n 0, 1) := by decide +kernel
theorem dX11_move_31 : decode cX11_move 31 = .ok (.getfield 26, 3) := by decide +kernel
theorem dX11_move_34 : decode cX11_move 34 = .ok (.invokevirtual 273, 3) := by decide +kernel
theorem dX11_move_37 : decode cX11_move 37 = .ok (.ifCond .eq 7, 3) := by decide +kernel
theorem dX11_move_40 : decode cX11_move 40 = .ok (.iconst 0, 1) := by decide +kernel
theorem dX11_move_41 : decode cX11_move 41 = .ok (.goto 4, 3) := by decide +kernel
theorem dX11_move_44 : decode cX11_move 44 = .ok (.iconst 1, 1) := by decide +kernel
theorem dX11_move_45 : decode cX11_move 45 = .ok (.ireturn, 1) := by decide +kernel
theorem dX11_carryOut_0 : decode cX11_carryOut 0 = .ok (.aload_n 0, 1) := by decide +kernel
theorem dX11_carryOut_1 : decode cX11_carryOut 1 = .ok (.getfield 26, 3) := by decide +kernel
theorem dX11_carryOut_4 : decode cX11_carryOut 4 = .ok (.getfield 132, 3) := by decide +kernel
theorem dX11_carryOut_7 : decode cX11_carryOut 7 = .ok (.astore_n 2, 1) := by decide +kernel
theorem dX11_carryOut_8 : decode cX11_carryOut 8 = .ok (.iload_n 1, 1) := by decide +kernel
theorem dX11_carryOut_9 : decode cX11_carryOut 9 = .ok (.bipush 10, 2) := by decide +kernel
theorem dX11_carryOut_11 : decode cX11_carryOut 11 = .ok (.idiv, 1) := by decide +kernel
theorem dX11_carryOut_12 : decode cX11_carryOut 12 = .ok (.istore_n 3, 1) := by decide +kernel
theorem dX11_carryOut_13 : decode cX11_carryOut 13 = .ok (.aload_n 2, 1) := by decide +kernel
theorem dX11_carryOut_14 : decode cX11_carryOut 14 = .ok (.iload_n 3, 1) := by decide +kernel
theorem dX11_carryOut_15 : decode cX11_carryOut 15 = .ok (.iconst 3, 1) := by decide +kernel
theorem dX11_carryOut_16 : decode cX11_carryOut 16 = .ok (.idiv, 1) := by decide +kernel
theorem dX11_carryOut_17 : decode cX11_carryOut 17 = .ok (.invokevirtual 190, 3) := by decide +kernel
theorem dX11_carryOut_20 : decode cX11_carryOut 20 = .ok (.iconst 2, 1) := by decide +kernel
theorem dX11_carryOut_21 : decode cX11_carryOut 21 = .ok (.if_icmp .ge 18, 3) := by decide +kernel
theorem dX11_carryOut_24 : decode cX11_carryOut 24 = .ok (.aload_n 0, 1) := by decide +kernel
theorem dX11_carryOut_25 : decode cX11_carryOut 25 = .ok (.getfield 26, 3) := by decide +kernel
theorem dX11_carryOut_28 : decode cX11_carryOut 28 = .ok (.iconst 1, 1) := by decide +kernel
theorem dX11_carryOut_29 : decode cX11_carryOut 29 = .ok (.iload_n 3, 1) := by decide +kernel
theorem dX11_carryOut_30 : decode cX11_carryOut 30 = .ok (.iconst 3, 1) := by decide +kernel
theorem dX11_carryOut_31 : decode cX11_carryOut 31 = .ok (.idiv, 1) := by decide +kernel
theorem dX11_carryOut_32 : decode cX11_carryOut 32 = .ok (.iconst 0, 1) := by decide +kernel
theorem dX11_carryOut_33 : decode cX11_carryOut 33 = .ok (.invokevirtual 347, 3) := by decide +kernel
theorem dX11_carryOut_36 : decode cX11_carryOut 36 = .ok (.goto 94, 3) := by decide +kernel
theorem dX11_carryOut_39 : decode cX11_carryOut 39 = .ok (.aload_n 2, 1) := by decide +kernel
theorem dX11_carryOut_40 : decode cX11_carryOut 40 = .ok (.iload_n 1, 1) := by decide +kernel
theorem dX11_carryOut_41 : decode cX11_carryOut 41 = .ok (.invokevirtual 351, 3) := by decide +kernel
theorem dX11_carryOut_44 : decode cX11_carryOut 44 = .ok (.istore 4, 2) := by decide +kernel
theorem dX11_carryOut_46 : decode cX11_carryOut 46 = .ok (.aload_n 2, 1) := by decide +kernel
theorem dX11_carryOut_47 : decode cX11_carryOut 47 = .ok (.iload_n 3, 1) := by decide +kernel
theorem dX11_carryOut_48 : decode cX11_carryOut 48 = .ok (.invokevirtual 193, 3) := by decide +kernel
theorem dX11_carryOut_51 : decode cX11_carryOut 51 = .ok (.istore 5, 2) := by decide +kernel
theorem dX11_carryOut_53 : decode cX11_carryOut 53 = .ok (.aload_n 0, 1) := by decide +kernel
theorem dX11_carryOut_54 : decode cX11_carryOut 54 = .ok (.getfield 48, 3) := by decide +kernel
theorem dX11_carryOut_57 : decode cX11_carryOut 57 = .ok (.aload_n 2, 1) := by decide +kernel
theorem dX11_carryOut_58 : decode cX11_carryOut 58 = .ok (.invokevirtual 196, 3) := by decide +kernel
theorem dX11_carryOut_61 : decode cX11_carryOut 61 = .ok (.ifCond .ne 28, 3) := by decide +kernel
theorem dX11_carryOut_64 : decode cX11_carryOut 64 = .ok (.aload_n 0, 1) := by decide +kernel
theorem dX11_carryOut_65 : decode cX11_carryOut 65 = .ok (.getfield 26, 3) := by decide +kernel
theorem dX11_carryOut_68 : decode cX11_carryOut 68 = .ok (.iconst 2, 1) := by decide +kernel
theorem dX11_carryOut_69 : decode cX11_carryOut 69 = .ok (.aload_n 0, 1) := by decide +kernel
theorem dX11_carryOut_70 : decode cX11_carryOut 70 = .ok (.getfield 48, 3) := by decide +kernel
theorem dX11_carryOut_73 : decode cX11_carryOut 73 = .ok (.getfield 245, 3) := by decide +kernel
theorem dX11_carryOut_76 : decode cX11_carryOut 76 = .ok (.aload_n 0, 1) := by decide +kernel
theorem dX11_carryOut_77 : decode cX11_carryOut 77 = .ok (.getfield 48, 3) := by decide +kernel
theorem dX11_carryOut_80 : decode cX11_carryOut 80 = .ok (.getfield 354, 3) := by decide +kernel
theorem dX11_carryOut_83 : decode cX11_carryOut 83 = .ok (.invokevirtual 347, 3) := by decide +kernel
theorem dX11_carryOut_86 : decode cX11_carryOut 86 = .ok (.goto 44, 3) := by decide +kernel
theorem dX11_carryOut_89 : decode cX11_carryOut 89 = .ok (.aload_n 2, 1) := by decide +kernel
theorem dX11_carryOut_90 : decode cX11_carryOut 90 = .ok (.iload 4, 2) := by decide +kernel
theorem dX11_carryOut_92 : decode cX11_carryOut 92 = .ok (.iload 5, 2) := by decide +kernel
theorem dX11_carryOut_94 : decode cX11_carryOut 94 = .ok (.invokevirtual 200, 3) := by decide +kernel
theorem dX11_carryOut_97 : decode cX11_carryOut 97 = .ok (.aload_n 0, 1) := by decide +kernel
theorem dX11_carryOut_98 : decode cX11_carryOut 98 = .ok (.getfield 48, 3) := by decide +kernel
theorem dX11_carryOut_101 : decode cX11_carryOut 101 = .ok (.aload_n 2, 1) := by decide +kernel
theorem dX11_carryOut_102 : decode cX11_carryOut 102 = .ok (.invokevirtual 196, 3) := by decide +kernel
theorem dX11_carryOut_105 : decode cX11_carryOut 105 = .ok (.ifCond .ne 25, 3) := by decide +kernel
theorem dX11_carryOut_108 : decode cX11_carryOut 108 = .ok (.aload_n 0, 1) := by decide +kernel
theorem dX11_carryOut_109 : decode cX11_carryOut 109 = .ok (.getfield 26, 3) := by decide +kernel
theorem dX11_carryOut_112 : decode cX11_carryOut 112 = .ok (.iconst 3, 1) := by decide +kernel
theorem dX11_carryOut_113 : decode cX11_carryOut 113 = .ok (.aload_n 0, 1) := by decide +kernel
theorem dX11_carryOut_114 : decode cX11_carryOut 114 = .ok (.getfield 48, 3) := by decide +kernel
theorem dX11_carryOut_117 : decode cX11_carryOut 117 = .ok (.getfield 245, 3) := by decide +kernel
theorem dX11_carryOut_120 : decode cX11_carryOut 120 = .ok (.aload_n 0, 1) := by decide +kernel
theorem dX11_carryOut_121 : decode cX11_carryOut 121 = .ok (.getfield 48, 3) := by decide +kernel
theorem dX11_carryOut_124 : decode cX11_carryOut 124 = .ok (.getfield 354, 3) := by decide +kernel
theorem dX11_carryOut_127 : decode cX11_carryOut 127 = .ok (.invokevirtual 347, 3) := by decide +kernel
theorem dX11_carryOut_130 : decode cX11_carryOut 130 = .ok (.aload_n 0, 1) := by decide +kernel
theorem dX11_carryOut_131 : decode cX11_carryOut 131 = .ok (.getfield 26, 3) := by decide +kernel
theorem dX11_carryOut_134 : decode cX11_carryOut 134 = .ok (.aload_n 0, 1) := by decide +kernel
theorem dX11_carryOut_135 : decode cX11_carryOut 135 = .ok (.aload_n 0, 1) := by decide +kernel
theorem dX11_carryOut_136 : decode cX11_carryOut 136 = .ok (.getfield 26, 3) := by decide +kernel
theorem dX11_carryOut_139 : decode cX11_carryOut 139 = .ok (.getfield 159, 3) := by decide +kernel
theorem dX11_carryOut_142 : decode cX11_carryOut 142 = .ok (.iconst 1, 1) := by decide +kernel
theorem dX11_carryOut_143 : decode cX11_carryOut 143 = .ok (.iadd, 1) := by decide +kernel
theorem dX11_carryOut_144 : decode cX11_carryOut 144 = .ok (.invokevirtual 277, 3) := by decide +kernel
theorem dX11_carryOut_147 : decode cX11_carryOut 147 = .ok (.putfield 159, 3) := by decide +kernel
theorem dX11_carryOut_150 : decode cX11_carryOut 150 = .ok (.return_, 1) := by decide +kernel
theorem dX11_play_0 : decode cX11_play 0 = .ok (.aload_n 0, 1) := by decide +kernel
theorem dX11_play_1 : decode cX11_play 1 = .ok (.getfield 87, 3) := by decide +kernel
theorem dX11_play_4 : decode cX11_play 4 = .ok (.aload_n 0, 1) := by decide +kernel
theorem dX11_play_5 : decode cX11_play 5 = .ok (.getfield 12, 3) := by decide +kernel
theorem dX11_play_8 : decode cX11_play 8 = .ok (.invokevirtual 357, 3) := by decide +kernel
theorem dX11_play_11 : decode cX11_play 11 = .ok (.istore_n 1, 1) := by decide +kernel
theorem dX11_play_12 : decode cX11_play 12 = .ok (.aload_n 0, 1) := by decide +kernel
theorem dX11_play_13 : decode cX11_play 13 = .ok (.getfield 12, 3) := by decide +kernel
theorem dX11_play_16 : decode cX11_play 16 = .ok (.invokevirtual 146, 3) := by decide +kernel
theorem dX11_play_19 : decode cX11_play 19 = .ok (.iload_n 1, 1) := by decide +kernel
theorem dX11_play_20 : decode cX11_play 20 = .ok (.iconst (-1), 1) := by decide +kernel
theorem dX11_play_21 : decode cX11_play 21 = .ok (.if_icmp .eq 7, 3) := by decide +kernel
theorem dX11_play_24 : decode cX11_play 24 = .ok (.iconst (-1), 1) := by decide +kernel
theorem dX11_play_25 : decode cX11_play 25 = .ok (.iload_n 1, 1) := by decide +kernel
theorem dX11_play_26 : decode cX11_play 26 = .ok (.isub, 1) := by decide +kernel
theorem dX11_play_27 : decode cX11_play 27 = .ok (.ireturn, 1) := by decide +kernel
theorem dX11_play_28 : decode cX11_play 28 = .ok (.iconst 0, 1) := by decide +kernel
theorem dX11_play_29 : decode cX11_play 29 = .ok (.istore_n 2, 1) := by decide +kernel
theorem dX11_play_30 : decode cX11_play 30 = .ok (.aload_n 0, 1) := by decide +kernel
theorem dX11_play_31 : decode cX11_play 31 = .ok (.getfield 26, 3) := by decide +kernel
theorem dX11_play_34 : decode cX11_play 34 = .ok (.invokevirtual 273, 3) := by decide +kernel
theorem dX11_play_37 : decode cX11_play 37 = .ok (.ifCond .eq 17, 3) := by decide +kernel
theorem dX11_play_40 : decode cX11_play 40 = .ok (.aload_n 0, 1) := by decide +kernel
theorem dX11_play_41 : decode cX11_play 41 = .ok (.getfield 87, 3) := by decide +kernel
theorem dX11_play_44 : decode cX11_play 44 = .ok (.getfield 358, 3) := by decide +kernel
theorem dX11_play_47 : decode cX11_play 47 = .ok (.ifCond .le 7, 3) := by decide +kernel
theorem dX11_play_50 : decode cX11_play 50 = .ok (.iconst 1, 1) := by decide +kernel
theorem dX11_play_51 : decode cX11_play 51 = .ok (.goto 4, 3) := by decide +kernel
theorem dX11_play_54 : decode cX11_play 54 = .ok (.iconst 0, 1) := by decide +kernel
theorem dX11_play_55 : decode cX11_play 55 = .ok (.istore_n 3, 1) := by decide +kernel
theorem dX11_play_56 : decode cX11_play 56 = .ok (.iconst 0, 1) := by decide +kernel
theorem dX11_play_57 : decode cX11_play 57 = .ok (.istore 4, 2) := by decide +kernel
theorem dX11_play_59 : decode cX11_play 59 = .ok (.iload 4, 2) := by decide +kernel
theorem dX11_play_61 : decode cX11_play 61 = .ok (.aload_n 0, 1) := by decide +kernel
theorem dX11_play_62 : decode cX11_play 62 = .ok (.getfield 87, 3) := by decide +kernel
theorem dX11_play_65 : decode cX11_play 65 = .ok (.getfield 358, 3) := by decide +kernel
theorem dX11_play_68 : decode cX11_play 68 = .ok (.if_icmp .ge 84, 3) := by decide +kernel
theorem dX11_play_71 : decode cX11_play 71 = .ok (.iload_n 3, 1) := by decide +kernel
theorem dX11_play_72 : decode cX11_play 72 = .ok (.ifCond .ne 80, 3) := by decide +kernel
theorem dX11_play_75 : decode cX11_play 75 = .ok (.aload_n 0, 1) := by decide +kernel
theorem dX11_play_76 : decode cX11_play 76 = .ok (.getfield 26, 3) := by decide +kernel
theorem dX11_play_79 : decode cX11_play 79 = .ok (.invokevirtual 273, 3) := by decide +kernel
theorem dX11_play_82 : decode cX11_play 82 = .ok (.ifCond .ne 70, 3) := by decide +kernel
theorem dX11_play_85 : decode cX11_play 85 = .ok (.aload_n 0, 1) := by decide +kernel
theorem dX11_play_86 : decode cX11_play 86 = .ok (.getfield 87, 3) := by decide +kernel
theorem dX11_play_89 : decode cX11_play 89 = .ok (.getfield 361, 3) := by decide +kernel
theorem dX11_play_92 : decode cX11_play 92 = .ok (.iload 4, 2) := by decide +kernel
theorem dX11_play_94 : decode cX11_play 94 = .ok (.iaload, 1) := by decide +kernel
theorem dX11_play_95 : decode cX11_play 95 = .ok (.istore 5, 2) := by decide +kernel
theorem dX11_play_97 : decode cX11_play 97 = .ok (.aload_n 0, 1) := by decide +kernel
theorem dX11_play_98 : decode cX11_play 98 = .ok (.getfield 26, 3) := by decide +kernel
theorem dX11_play_101 : decode cX11_play 101 = .ok (.getfield 132, 3) := by decide +kernel
theorem dX11_play_104 : decode cX11_play 104 = .ok (.iload 5, 2) := by decide +kernel
theorem dX11_play_106 : decode cX11_play 106 = .ok (.invokevirtual 300, 3) := by decide +kernel
theorem dX11_play_109 : decode cX11_play 109 = .ok (.ifCond .ne 7, 3) := by decide +kernel
theorem dX11_play_112 : decode cX11_play 112 = .ok (.iconst 1, 1) := by decide +kernel
theorem dX11_play_113 : decode cX11_play 113 = .ok (.goto 4, 3) := by decide +kernel
theorem dX11_play_116 : decode cX11_play 116 = .ok (.iconst 0, 1) := by decide +kernel
theorem dX11_play_117 : decode cX11_play 117 = .ok (.istore_n 3, 1) := by decide +kernel
theorem dX11_play_118 : decode cX11_play 118 = .ok (.iload_n 3, 1) := by decide +kernel
theorem dX11_play_119 : decode cX11_play 119 = .ok (.ifCond .ne 27, 3) := by decide +kernel
theorem dX11_play_122 : decode cX11_play 122 = .ok (.iload_n 2, 1) := by decide +kernel
theorem dX11_play_123 : decode cX11_play 123 = .ok (.ifCond .ne 14, 3) := by decide +kernel
theorem dX11_play_126 : decode cX11_play 126 = .ok (.aload_n 0, 1) := by decide +kernel
theorem dX11_play_127 : decode cX11_play 127 = .ok (.getfield 33, 3) := by decide +kernel
theorem dX11_play_130 : decode cX11_play 130 = .ok (.aload_n 0, 1) := by decide +kernel
theorem dX11_play_131 : decode cX11_play 131 = .ok (.getfield 26, 3) := by decide +kernel
theorem dX11_play_134 : decode cX11_play 134 = .ok (.invokevirtual 339, 3) := by decide +kernel
theorem dX11_play_137 : decode cX11_play 137 = .ok (.aload_n 0, 1) := by decide +kernel
theorem dX11_play_138 : decode cX11_play 138 = .ok (.iload 5, 2) := by decide +kernel
theorem dX11_play_140 : decode cX11_play 140 = .ok (.invokevirtual 343, 3) := by decide +kernel
theorem dX11_play_143 : decode cX11_play 143 = .ok (.iinc 2 1, 3) := by decide +kernel
theorem dX11_play_146 : decode cX11_play 146 = .ok (.iinc 4 1, 3) := by decide +kernel
theorem dX11_play_149 : decode cX11_play 149 = .ok (.goto (-90), 3) := by decide +kernel
theorem dX11_play_152 : decode cX11_play 152 = .ok (.aload_n 0, 1) := by decide +kernel
theorem dX11_play_153 : decode cX11_play 153 = .ok (.getfield 19, 3) := by decide +kernel
theorem dX11_play_156 : decode cX11_play 156 = .ok (.invokevirtual 244, 3) := by decide +kernel
theorem dX11_play_159 : decode cX11_play 159 = .ok (.aload_n 0, 1) := by decide +kernel
theorem dX11_play_160 : decode cX11_play 160 = .ok (.getfield 19, 3) := by decide +kernel
theorem dX11_play_163 : decode cX11_play 163 = .ok (.iload_n 3, 1) := by decide +kernel
theorem dX11_play_164 : decode cX11_play 164 = .ok (.ifCond .eq 7, 3) := by decide +kernel
theorem dX11_play_167 : decode cX11_play 167 = .ok (.lconst 1, 1) := by decide +kernel
theorem dX11_play_168 : decode cX11_play 168 = .ok (.goto 4, 3) := by decide +kernel
theorem dX11_play_171 : decode cX11_play 171 = .ok (.lconst 0, 1) := by decide +kernel
theorem dX11_play_172 : decode cX11_play 172 = .ok (.invokevirtual 248, 3) := by decide +kernel
theorem dX11_play_175 : decode cX11_play 175 = .ok (.aload_n 0, 1) := by decide +kernel
theorem dX11_play_176 : decode cX11_play 176 = .ok (.getfield 19, 3) := by decide +kernel
theorem dX11_play_179 : decode cX11_play 179 = .ok (.aload_n 0, 1) := by decide +kernel
theorem dX11_play_180 : decode cX11_play 180 = .ok (.getfield 26, 3) := by decide +kernel
theorem dX11_play_183 : decode cX11_play 183 = .ok (.invokevirtual 273, 3) := by decide +kernel
theorem dX11_play_186 : decode cX11_play 186 = .ok (.ifCond .eq 7, 3) := by decide +kernel
theorem dX11_play_189 : decode cX11_play 189 = .ok (.lconst 1, 1) := by decide +kernel
theorem dX11_play_190 : decode cX11_play 190 = .ok (.goto 4, 3) := by decide +kernel
theorem dX11_play_193 : decode cX11_play 193 = .ok (.lconst 0, 1) := by decide +kernel
theorem dX11_play_194 : decode cX11_play 194 = .ok (.invokevirtual 248, 3) := by decide +kernel
theorem dX11_play_197 : decode cX11_play 197 = .ok (.iload_n 2, 1) := by decide +kernel
theorem dX11_play_198 : decode cX11_play 198 = .ok (.ireturn, 1) := by decide +kernel
theorem dX11_undo_0 : decode cX11_undo 0 = .ok (.aload_n 0, 1) := by decide +kernel
theorem dX11_undo_1 : decode cX11_undo 1 = .ok (.getfield 33, 3) := by decide +kernel
theorem dX11_undo_4 : decode cX11_undo 4 = .ok (.getfield 364, 3) := by decide +kernel
theorem dX11_undo_7 : decode cX11_undo 7 = .ok (.ifCond .ne 5, 3) := by decide +kernel
theorem dX11_undo_10 : decode cX11_undo 10 = .ok (.iconst (-1), 1) := by decide +kernel
theorem dX11_undo_11 : decode cX11_undo 11 = .ok (.ireturn, 1) := by decide +kernel
theorem dX11_undo_12 : decode cX11_undo 12 = .ok (.aload_n 0, 1) := by decide +kernel
theorem dX11_undo_13 : decode cX11_undo 13 = .ok (.getfield 33, 3) := by decide +kernel
theorem dX11_undo_16 : decode cX11_undo 16 = .ok (.aload_n 0, 1) := by decide +kernel
theorem dX11_undo_17 : decode cX11_undo 17 = .ok (.getfield 26, 3) := by decide +kernel
theorem dX11_undo_20 : decode cX11_undo 20 = .ok (.invokevirtual 365, 3) := by decide +kernel
theorem dX11_undo_23 : decode cX11_undo 23 = .ok (.aload_n 0, 1) := by decide +kernel
theorem dX11_undo_24 : decode cX11_undo 24 = .ok (.getfield 26, 3) := by decide +kernel
theorem dX11_undo_27 : decode cX11_undo 27 = .ok (.aload_n 0, 1) := by decide +kernel
theorem dX11_undo_28 : decode cX11_undo 28 = .ok (.aload_n 0, 1) := by decide +kernel
theorem dX11_undo_29 : decode cX11_undo 29 = .ok (.getfield 26, 3) := by decide +kernel
theorem dX11_undo_32 : decode cX11_undo 32 = .ok (.getfield 159, 3) := by decide +kernel
theorem dX11_undo_35 : decode cX11_undo 35 = .ok (.invokevirtual 277, 3) := by decide +kernel
theorem dX11_undo_38 : decode cX11_undo 38 = .ok (.putfield 159, 3) := by decide +kernel
theorem dX11_undo_41 : decode cX11_undo 41 = .ok (.aload_n 0, 1) := by decide +kernel
theorem dX11_undo_42 : decode cX11_undo 42 = .ok (.getfield 33, 3) := by decide +kernel
theorem dX11_undo_45 : decode cX11_undo 45 = .ok (.getfield 364, 3) := by decide +kernel
theorem dX11_undo_48 : decode cX11_undo 48 = .ok (.ireturn, 1) := by decide +kernel
theorem dX11_why_0 : decode cX11_why 0 = .ok (.aload_n 0, 1) := by decide +kernel
theorem dX11_why_1 : decode cX11_why 1 = .ok (.getfield 19, 3) := by decide +kernel
theorem dX11_why_4 : decode cX11_why 4 = .ok (.invokevirtual 244, 3) := by decide +kernel
theorem dX11_why_7 : decode cX11_why 7 = .ok (.aload_n 0, 1) := by decide +kernel
theorem dX11_why_8 : decode cX11_why 8 = .ok (.getfield 26, 3) := by decide +kernel
theorem dX11_why_11 : decode cX11_why 11 = .ok (.invokevirtual 273, 3) := by decide +kernel
theorem dX11_why_14 : decode cX11_why 14 = .ok (.ifCond .eq 33, 3) := by decide +kernel
theorem dX11_why_17 : decode cX11_why 17 = .ok (.aload_n 0, 1) := by decide +kernel
theorem dX11_why_18 : decode cX11_why 18 = .ok (.getfield 19, 3) := by decide +kernel
theorem dX11_why_21 : decode cX11_why 21 = .ok (.aload_n 0, 1) := by decide +kernel
theorem dX11_why_22 : decode cX11_why 22 = .ok (.getfield 26, 3) := by decide +kernel
theorem dX11_why_25 : decode cX11_why 25 = .ok (.getfield 368, 3) := by decide +kernel
theorem dX11_why_28 : decode cX11_why 28 = .ok (.i2l, 1) := by decide +kernel
theorem dX11_why_29 : decode cX11_why 29 = .ok (.invokevirtual 248, 3) := by decide +kernel
theorem dX11_why_32 : decode cX11_why 32 = .ok (.aload_n 0, 1) := by decide +kernel
theorem dX11_why_33 : decode cX11_why 33 = .ok (.getfield 19, 3) := by decide +kernel
theorem dX11_why_36 : decode cX11_why 36 = .ok (.aload_n 0, 1) := by decide +kernel
theorem dX11_why_37 : decode cX11_why 37 = .ok (.getfield 26, 3) := by decide +kernel
theorem dX11_why_40 : decode cX11_why 40 = .ok (.getfield 371, 3) := by decide +kernel
theorem dX11_why_43 : decode cX11_why 43 = .ok (.i2l, 1) := by decide +kernel
theorem dX11_why_44 : decode cX11_why 44 = .ok (.invokevirtual 248, 3) := by decide +kernel
theorem dX11_why_47 : decode cX11_why 47 = .ok (.aload_n 0, 1) := by decide +kernel
theorem dX11_why_48 : decode cX11_why 48 = .ok (.getfield 26, 3) := by decide +kernel
theorem dX11_why_51 : decode cX11_why 51 = .ok (.getfield 372, 3) := by decide +kernel
theorem dX11_why_54 : decode cX11_why 54 = .ok (.ireturn, 1) := by decide +kernel
theorem dX11_findAllTowers_0 : decode cX11_findAllTowers 0 = .ok (.aload_n 0, 1) := by decide +kernel
theorem dX11_findAllTowers_1 : decode cX11_findAllTowers 1 = .ok (.getfield 73, 3) := by decide +kernel
theorem dX11_findAllTowers_4 : decode cX11_findAllTowers 4 = .ok (.aload_n 0, 1) := by decide +kernel
theorem dX11_findAllTowers_5 : decode cX11_findAllTowers 5 = .ok (.getfield 26, 3) := by decide +kernel
theorem dX11_findAllTowers_8 : decode cX11_findAllTowers 8 = .ok (.getfield 132, 3) := by decide +kernel
theorem dX11_findAllTowers_11 : decode cX11_findAllTowers 11 = .ok (.aload_n 0, 1) := by decide +kernel
theorem dX11_findAllTowers_12 : decode cX11_findAllTowers 12 = .ok (.getfield 26, 3) := by decide +kernel
theorem dX11_findAllTowers_15 : decode cX11_findAllTowers 15 = .ok (.invokevirtual 273, 3) := by decide +kernel
theorem dX11_findAllTowers_18 : decode cX11_findAllTowers 18 = .ok (.invokevirtual 375, 3) := by decide +kernel
theorem dX11_findAllTowers_21 : decode cX11_findAllTowers 21 = .ok (.aload_n 0, 1) := by decide +kernel
theorem dX11_findAllTowers_22 : decode cX11_findAllTowers 22 = .ok (.getfield 73, 3) := by decide +kernel
theorem dX11_findAllTowers_25 : decode cX11_findAllTowers 25 = .ok (.getfield 379, 3) := by decide +kernel
theorem dX11_findAllTowers_28 : decode cX11_findAllTowers 28 = .ok (.ifCond .ne 7, 3) := by decide +kernel
theorem dX11_findAllTowers_31 : decode cX11_findAllTowers 31 = .ok (.iconst 1, 1) := by decide +kernel
theorem dX11_findAllTowers_32 : decode cX11_findAllTowers 32 = .ok (.goto 4, 3) := by decide +kernel
theorem dX11_findAllTowers_35 : decode cX11_findAllTowers 35 = .ok (.iconst 0, 1) := by decide +kernel
theorem dX11_findAllTowers_36 : decode cX11_findAllTowers 36 = .ok (.ireturn, 1) := by decide +kernel
theorem dX11_wins_0 : decode cX11_wins 0 = .ok (.aload_n 0, 1) := by decide +kernel
theorem dX11_wins_1 : decode cX11_wins 1 = .ok (.invokevirtual 383, 3) := by decide +kernel
theorem dX11_wins_4 : decode cX11_wins 4 = .ok (.ifCond .ne 6, 3) := by decide +kernel
theorem dX11_wins_7 : decode cX11_wins 7 = .ok (.bipush (-3), 2) := by decide +kernel
theorem dX11_wins_9 : decode cX11_wins 9 = .ok (.ireturn, 1) := by decide +kernel
theorem dX11_wins_10 : decode cX11_wins 10 = .ok (.aload_n 0, 1) := by decide +kernel
theorem dX11_wins_11 : decode cX11_wins 11 = .ok (.getfield 73, 3) := by decide +kernel
theorem dX11_wins_14 : decode cX11_wins 14 = .ok (.invokevirtual 386, 3) := by decide +kernel
theorem dX11_wins_17 : decode cX11_wins 17 = .ok (.aload_n 0, 1) := by decide +kernel
theorem dX11_wins_18 : decode cX11_wins 18 = .ok (.getfield 19, 3) := by decide +kernel
theorem dX11_wins_21 : decode cX11_wins 21 = .ok (.invokevirtual 244, 3) := by decide +kernel
theorem dX11_wins_24 : decode cX11_wins 24 = .ok (.aload_n 0, 1) := by decide +kernel
theorem dX11_wins_25 : decode cX11_wins 25 = .ok (.getfield 19, 3) := by decide +kernel
theorem dX11_wins_28 : decode cX11_wins 28 = .ok (.aload_n 0, 1) := by decide +kernel
theorem dX11_wins_29 : decode cX11_wins 29 = .ok (.getfield 73, 3) := by decide +kernel
theorem dX11_wins_32 : decode cX11_wins 32 = .ok (.iconst 0, 1) := by decide +kernel
theorem dX11_wins_33 : decode cX11_wins 33 = .ok (.iconst 0, 1) := by decide +kernel
theorem dX11_wins_34 : decode cX11_wins 34 = .ok (.invokevirtual 389, 3) := by decide +kernel
theorem dX11_wins_37 : decode cX11_wins 37 = .ok (.i2l, 1) := by decide +kernel
theorem dX11_wins_38 : decode cX11_wins 38 = .ok (.invokevirtual 248, 3) := by decide +kernel
theorem dX11_wins_41 : decode cX11_wins 41 = .ok (.aload_n 0, 1) := by decide +kernel
theorem dX11_wins_42 : decode cX11_wins 42 = .ok (.getfield 73, 3) := by decide +kernel
theorem dX11_wins_45 : decode cX11_wins 45 = .ok (.getfield 392, 3) := by decide +kernel
theorem dX11_wins_48 : decode cX11_wins 48 = .ok (.iconst 0, 1) := by decide +kernel
theorem dX11_wins_49 : decode cX11_wins 49 = .ok (.iaload, 1) := by decide +kernel
theorem dX11_wins_50 : decode cX11_wins 50 = .ok (.ireturn, 1) := by decide +kernel
theorem dX11_longest_0 : decode cX11_longest 0 = .ok (.aload_n 0, 1) := by decide +kernel
theorem dX11_longest_1 : decode cX11_longest 1 = .ok (.invokevirtual 383, 3) := by decide +kernel
theorem dX11_longest_4 : decode cX11_longest 4 = .ok (.ifCond .ne 6, 3) := by decide +kernel
theorem dX11_longest_7 : decode cX11_longest 7 = .ok (.bipush (-3), 2) := by decide +kernel
theorem dX11_longest_9 : decode cX11_longest 9 = .ok (.ireturn, 1) := by decide +kernel
theorem dX11_longest_10 : decode cX11_longest 10 = .ok (.aload_n 0, 1) := by decide +kernel
theorem dX11_longest_11 : decode cX11_longest 11 = .ok (.getfield 73, 3) := by decide +kernel
theorem dX11_longest_14 : decode cX11_longest 14 = .ok (.iconst 1, 1) := by decide +kernel
theorem dX11_longest_15 : decode cX11_longest 15 = .ok (.invokevirtual 395, 3) := by decide +kernel
theorem dX11_longest_18 : decode cX11_longest 18 = .ok (.aload_n 0, 1) := by decide +kernel
theorem dX11_longest_19 : decode cX11_longest 19 = .ok (.getfield 73, 3) := by decide +kernel
theorem dX11_longest_22 : decode cX11_longest 22 = .ok (.aload_n 0, 1) := by decide +kernel
theorem dX11_longest_23 : decode cX11_longest 23 = .ok (.getfield 19, 3) := by decide +kernel
theorem dX11_longest_26 : decode cX11_longest 26 = .ok (.invokevirtual 399, 3) := by decide +kernel
theorem dX11_longest_29 : decode cX11_longest 29 = .ok (.aload_n 0, 1) := by decide +kernel
theorem dX11_longest_30 : decode cX11_longest 30 = .ok (.getfield 73, 3) := by decide +kernel
theorem dX11_longest_33 : decode cX11_longest 33 = .ok (.getfield 392, 3) := by decide +kernel
theorem dX11_longest_36 : decode cX11_longest 36 = .ok (.iconst 0, 1) := by decide +kernel
theorem dX11_longest_37 : decode cX11_longest 37 = .ok (.iaload, 1) := by decide +kernel
theorem dX11_longest_38 : decode cX11_longest 38 = .ok (.ireturn, 1) := by decide +kernel
theorem dX11_shortest_0 : decode cX11_shortest 0 = .ok (.aload_n 0, 1) := by decide +kernel
theorem dX11_shortest_1 : decode cX11_shortest 1 = .ok (.invokevirtual 383, 3) := by decide +kernel
theorem dX11_shortest_4 : decode cX11_shortest 4 = .ok (.ifCond .ne 6, 3) := by decide +kernel
theorem dX11_shortest_7 : decode cX11_shortest 7 = .ok (.bipush (-3), 2) := by decide +kernel
theorem dX11_shortest_9 : decode cX11_shortest 9 = .ok (.ireturn, 1) := by decide +kernel
theorem dX11_shortest_10 : decode cX11_shortest 10 = .ok (.aload_n 0, 1) := by decide +kernel
theorem dX11_shortest_11 : decode cX11_shortest 11 = .ok (.getfield 73, 3) := by decide +kernel
theorem dX11_shortest_14 : decode cX11_shortest 14 = .ok (.iconst 0, 1) := by decide +kernel
theorem dX11_shortest_15 : decode cX11_shortest 15 = .ok (.invokevirtual 395, 3) := by decide +kernel
theorem dX11_shortest_18 : decode cX11_shortest 18 = .ok (.aload_n 0, 1) := by decide +kernel
theorem dX11_shortest_19 : decode cX11_shortest 19 = .ok (.getfield 73, 3) := by decide +kernel
theorem dX11_shortest_22 : decode cX11_shortest 22 = .ok (.aload_n 0, 1) := by decide +kernel
theorem dX11_shortest_23 : decode cX11_shortest 23 = .ok (.getfield 19, 3) := by decide +kernel
theorem dX11_shortest_26 : decode cX11_shortest 26 = .ok (.invokevirtual 399, 3) := by decide +kernel
theorem dX11_shortest_29 : decode cX11_shortest 29 = .ok (.aload_n 0, 1) := by decide +kernel
theorem dX11_shortest_30 : decode cX11_shortest 30 = .ok (.getfield 73, 3) := by decide +kernel
theorem dX11_shortest_33 : decode cX11_shortest 33 = .ok (.getfield 392, 3) := by decide +kernel
theorem dX11_shortest_36 : decode cX11_shortest 36 = .ok (.iconst 0, 1) := by decide +kernel
theorem dX11_shortest_37 : decode cX11_shortest 37 = .ok (.iaload, 1) := by decide +kernel
theorem dX11_shortest_38 : decode cX11_shortest 38 = .ok (.ireturn, 1) := by decide +kernel
theorem dX11_high_0 : decode cX11_high 0 = .ok (.aload_n 0, 1) := by decide +kernel
theorem dX11_high_1 : decode cX11_high 1 = .ok (.invokevirtual 383, 3) := by decide +kernel
theorem dX11_high_4 : decode cX11_high 4 = .ok (.ifCond .ne 6, 3) := by decide +kernel
theorem dX11_high_7 : decode cX11_high 7 = .ok (.bipush (-3), 2) := by decide +kernel
theorem dX11_high_9 : decode cX11_high 9 = .ok (.ireturn, 1) := by decide +kernel
theorem dX11_high_10 : decode cX11_high 10 = .ok (.aload_n 0, 1) := by decide +kernel
theorem dX11_high_11 : decode cX11_high 11 = .ok (.getfield 73, 3) := by decide +kernel
theorem dX11_high_14 : decode cX11_high 14 = .ok (.invokevirtual 403, 3) := by decide +kernel
theorem dX11_high_17 : decode cX11_high 17 = .ok (.istore_n 1, 1) := by decide +kernel
theorem dX11_high_18 : decode cX11_high 18 = .ok (.aload_n 0, 1) := by decide +kernel
theorem dX11_high_19 : decode cX11_high 19 = .ok (.getfield 19, 3) := by decide +kernel
theorem dX11_high_22 : decode cX11_high 22 = .ok (.invokevirtual 244, 3) := by decide +kernel
theorem dX11_high_25 : decode cX11_high 25 = .ok (.aload_n 0, 1) := by decide +kernel
theorem dX11_high_26 : decode cX11_high 26 = .ok (.getfield 19, 3) := by decide +kernel
theorem dX11_high_29 : decode cX11_high 29 = .ok (.aload_n 0, 1) := by decide +kernel
theorem dX11_high_30 : decode cX11_high 30 = .ok (.getfield 73, 3) := by decide +kernel
theorem dX11_high_33 : decode cX11_high 33 = .ok (.getfield 406, 3) := by decide +kernel
theorem dX11_high_36 : decode cX11_high 36 = .ok (.iload_n 1, 1) := by decide +kernel
theorem dX11_high_37 : decode cX11_high 37 = .ok (.iaload, 1) := by decide +kernel
theorem dX11_high_38 : decode cX11_high 38 = .ok (.i2l, 1) := by decide +kernel
theorem dX11_high_39 : decode cX11_high 39 = .ok (.invokevirtual 248, 3) := by decide +kernel
theorem dX11_high_42 : decode cX11_high 42 = .ok (.aload_n 0, 1) := by decide +kernel
theorem dX11_high_43 : decode cX11_high 43 = .ok (.getfield 19, 3) := by decide +kernel
theorem dX11_high_46 : decode cX11_high 46 = .ok (.aload_n 0, 1) := by decide +kernel
theorem dX11_high_47 : decode cX11_high 47 = .ok (.getfield 73, 3) := by decide +kernel
theorem dX11_high_50 : decode cX11_high 50 = .ok (.iload_n 1, 1) := by decide +kernel
theorem dX11_high_51 : decode cX11_high 51 = .ok (.invokevirtual 409, 3) := by decide +kernel
theorem dX11_high_54 : decode cX11_high 54 = .ok (.i2l, 1) := by decide +kernel
theorem dX11_high_55 : decode cX11_high 55 = .ok (.invokevirtual 248, 3) := by decide +kernel
theorem dX11_high_58 : decode cX11_high 58 = .ok (.aload_n 0, 1) := by decide +kernel
theorem dX11_high_59 : decode cX11_high 59 = .ok (.getfield 73, 3) := by decide +kernel
theorem dX11_high_62 : decode cX11_high 62 = .ok (.getfield 412, 3) := by decide +kernel
theorem dX11_high_65 : decode cX11_high 65 = .ok (.iload_n 1, 1) := by decide +kernel
theorem dX11_high_66 : decode cX11_high 66 = .ok (.iaload, 1) := by decide +kernel
theorem dX11_high_67 : decode cX11_high 67 = .ok (.ireturn, 1) := by decide +kernel
theorem dX11_towers_0 : decode cX11_towers 0 = .ok (.aload_n 0, 1) := by decide +kernel
theorem dX11_towers_1 : decode cX11_towers 1 = .ok (.invokevirtual 383, 3) := by decide +kernel
theorem dX11_towers_4 : decode cX11_towers 4 = .ok (.ifCond .ne 6, 3) := by decide +kernel
theorem dX11_towers_7 : decode cX11_towers 7 = .ok (.bipush (-3), 2) := by decide +kernel
theorem dX11_towers_9 : decode cX11_towers 9 = .ok (.ireturn, 1) := by decide +kernel
theorem dX11_towers_10 : decode cX11_towers 10 = .ok (.aload_n 0, 1) := by decide +kernel
theorem dX11_towers_11 : decode cX11_towers 11 = .ok (.getfield 19, 3) := by decide +kernel
theorem dX11_towers_14 : decode cX11_towers 14 = .ok (.invokevirtual 244, 3) := by decide +kernel
theorem dX11_towers_17 : decode cX11_towers 17 = .ok (.aload_n 0, 1) := by decide +kernel
theorem dX11_towers_18 : decode cX11_towers 18 = .ok (.getfield 19, 3) := by decide +kernel
theorem dX11_towers_21 : decode cX11_towers 21 = .ok (.aload_n 0, 1) := by decide +kernel
theorem dX11_towers_22 : decode cX11_towers 22 = .ok (.getfield 73, 3) := by decide +kernel
theorem dX11_towers_25 : decode cX11_towers 25 = .ok (.invokevirtual 415, 3) := by decide +kernel
theorem dX11_towers_28 : decode cX11_towers 28 = .ok (.i2l, 1) := by decide +kernel
theorem dX11_towers_29 : decode cX11_towers 29 = .ok (.invokevirtual 248, 3) := by decide +kernel
theorem dX11_towers_32 : decode cX11_towers 32 = .ok (.aload_n 0, 1) := by decide +kernel
theorem dX11_towers_33 : decode cX11_towers 33 = .ok (.getfield 73, 3) := by decide +kernel
theorem dX11_towers_36 : decode cX11_towers 36 = .ok (.getfield 418, 3) := by decide +kernel
theorem dX11_towers_39 : decode cX11_towers 39 = .ok (.ireturn, 1) := by decide +kernel
theorem dX11_free_0 : decode cX11_free 0 = .ok (.iload_n 1, 1) := by decide +kernel
theorem dX11_free_1 : decode cX11_free 1 = .ok (.ifCond .lt 19, 3) := by decide +kernel
theorem dX11_free_4 : decode cX11_free 4 = .ok (.iload_n 1, 1) := by decide +kernel
theorem dX11_free_5 : decode cX11_free 5 = .ok (.iconst 3, 1) := by decide +kernel
theorem dX11_free_6 : decode cX11_free 6 = .ok (.aload_n 0, 1) := by decide +kernel
theorem dX11_free_7 : decode cX11_free 7 = .ok (.getfield 26, 3) := by decide +kernel
theorem dX11_free_10 : decode cX11_free 10 = .ok (.getfield 132, 3) := by decide +kernel
theorem dX11_free_13 : decode cX11_free 13 = .ok (.getfield 147, 3) := by decide +kernel
theorem dX11_free_16 : decode cX11_free 16 = .ok (.imul, 1) := by decide +kernel
theorem dX11_free_17 : decode cX11_free 17 = .ok (.if_icmp .lt 5, 3) := by decide +kernel
theorem dX11_free_20 : decode cX11_free 20 = .ok (.iconst (-1), 1) := by decide +kernel
theorem dX11_free_21 : decode cX11_free 21 = .ok (.ireturn, 1) := by decide +kernel
theorem dX11_free_22 : decode cX11_free 22 = .ok (.aload_n 0, 1) := by decide +kernel
theorem dX11_free_23 : decode cX11_free 23 = .ok (.getfield 73, 3) := by decide +kernel
theorem dX11_free_26 : decode cX11_free 26 = .ok (.aload_n 0, 1) := by decide +kernel
theorem dX11_free_27 : decode cX11_free 27 = .ok (.getfield 26, 3) := by decide +kernel
theorem dX11_free_30 : decode cX11_free 30 = .ok (.getfield 132, 3) := by decide +kernel
theorem dX11_free_33 : decode cX11_free 33 = .ok (.aload_n 0, 1) := by decide +kernel
theorem dX11_free_34 : decode cX11_free 34 = .ok (.getfield 26, 3) := by decide +kernel
theorem dX11_free_37 : decode cX11_free 37 = .ok (.invokevirtual 273, 3) := by decide +kernel
theorem dX11_free_40 : decode cX11_free 40 = .ok (.invokevirtual 375, 3) := by decide +kernel
theorem dX11_free_43 : decode cX11_free 43 = .ok (.aload_n 0, 1) := by decide +kernel
theorem dX11_free_44 : decode cX11_free 44 = .ok (.getfield 73, 3) := by decide +kernel
theorem dX11_free_47 : decode cX11_free 47 = .ok (.iload_n 1, 1) := by decide +kernel
theorem dX11_free_48 : decode cX11_free 48 = .ok (.invokevirtual 421, 3) := by decide +kernel
theorem dX11_free_51 : decode cX11_free 51 = .ok (.istore_n 2, 1) := by decide +kernel
theorem dX11_free_52 : decode cX11_free 52 = .ok (.iload_n 2, 1) := by decide +kernel
theorem dX11_free_53 : decode cX11_free 53 = .ok (.iconst (-1), 1) := by decide +kernel
theorem dX11_free_54 : decode cX11_free 54 = .ok (.if_icmp .ne 21, 3) := by decide +kernel
theorem dX11_free_57 : decode cX11_free 57 = .ok (.aload_n 0, 1) := by decide +kernel
theorem dX11_free_58 : decode cX11_free 58 = .ok (.getfield 73, 3) := by decide +kernel
theorem dX11_free_61 : decode cX11_free 61 = .ok (.getfield 379, 3) := by decide +kernel
theorem dX11_free_64 : decode cX11_free 64 = .ok (.ifCond .eq 8, 3) := by decide +kernel
theorem dX11_free_67 : decode cX11_free 67 = .ok (.bipush (-3), 2) := by decide +kernel
theorem dX11_free_69 : decode cX11_free 69 = .ok (.goto 5, 3) := by decide +kernel
theorem dX11_free_72 : decode cX11_free 72 = .ok (.bipush (-2), 2) := by decide +kernel
theorem dX11_free_74 : decode cX11_free 74 = .ok (.ireturn, 1) := by decide +kernel
theorem dX11_free_75 : decode cX11_free 75 = .ok (.aload_n 0, 1) := by decide +kernel
theorem dX11_free_76 : decode cX11_free 76 = .ok (.getfield 73, 3) := by decide +kernel
theorem dX11_free_79 : decode cX11_free 79 = .ok (.iload_n 2, 1) := by decide +kernel
theorem dX11_free_80 : decode cX11_free 80 = .ok (.aload_n 0, 1) := by decide +kernel
theorem dX11_free_81 : decode cX11_free 81 = .ok (.getfield 19, 3) := by decide +kernel
theorem dX11_free_84 : decode cX11_free 84 = .ok (.invokevirtual 424, 3) := by decide +kernel
theorem dX11_free_87 : decode cX11_free 87 = .ok (.aload_n 0, 1) := by decide +kernel
theorem dX11_free_88 : decode cX11_free 88 = .ok (.getfield 73, 3) := by decide +kernel
theorem dX11_free_91 : decode cX11_free 91 = .ok (.getfield 406, 3) := by decide +kernel
theorem dX11_free_94 : decode cX11_free 94 = .ok (.iload_n 2, 1) := by decide +kernel
theorem dX11_free_95 : decode cX11_free 95 = .ok (.iaload, 1) := by decide +kernel
theorem dX11_free_96 : decode cX11_free 96 = .ok (.ireturn, 1) := by decide +kernel
theorem dX11_chance_0 : decode cX11_chance 0 = .ok (.iload_n 1, 1) := by decide +kernel
theorem dX11_chance_1 : decode cX11_chance 1 = .ok (.ifCond .lt 8, 3) := by decide +kernel
theorem dX11_chance_4 : decode cX11_chance 4 = .ok (.iload_n 1, 1) := by decide +kernel
theorem dX11_chance_5 : decode cX11_chance 5 = .ok (.iconst 2, 1) := by decide +kernel
theorem dX11_chance_6 : decode cX11_chance 6 = .ok (.if_icmp .le 5, 3) := by decide +kernel
theorem dX11_chance_9 : decode cX11_chance 9 = .ok (.iconst (-1), 1) := by decide +kernel
theorem dX11_chance_10 : decode cX11_chance 10 = .ok (.ireturn, 1) := by decide +kernel
theorem dX11_chance_11 : decode cX11_chance 11 = .ok (.iconst 1, 1) := by decide +kernel
theorem dX11_chance_12 : decode cX11_chance 12 = .ok (.istore_n 2, 1) := by decide +kernel
theorem dX11_chance_13 : decode cX11_chance 13 = .ok (.iconst 1, 1) := by decide +kernel
theorem dX11_chance_14 : decode cX11_chance 14 = .ok (.istore_n 3, 1) := by decide +kernel
theorem dX11_chance_15 : decode cX11_chance 15 = .ok (.iconst (-1), 1) := by decide +kernel
theorem dX11_chance_16 : decode cX11_chance 16 = .ok (.istore 4, 2) := by decide +kernel
theorem dX11_chance_18 : decode cX11_chance 18 = .ok (.iload_n 1, 1) := by decide +kernel
theorem dX11_chance_19 : decode cX11_chance 19 = .ok (.ifCond .le 70, 3) := by decide +kernel
theorem dX11_chance_22 : decode cX11_chance 22 = .ok (.aload_n 0, 1) := by decide +kernel
theorem dX11_chance_23 : decode cX11_chance 23 = .ok (.getfield 64, 3) := by decide +kernel
theorem dX11_chance_26 : decode cX11_chance 26 = .ok (.aload_n 0, 1) := by decide +kernel
theorem dX11_chance_27 : decode cX11_chance 27 = .ok (.invokevirtual 280, 3) := by decide +kernel
theorem dX11_chance_30 : decode cX11_chance 30 = .ok (.aload_n 0, 1) := by decide +kernel
theorem dX11_chance_31 : decode cX11_chance 31 = .ok (.aload_n 0, 1) := by decide +kernel
theorem dX11_chance_32 : decode cX11_chance 32 = .ok (.getfield 26, 3) := by decide +kernel
theorem dX11_chance_35 : decode cX11_chance 35 = .ok (.getfield 159, 3) := by decide +kernel
theorem dX11_chance_38 : decode cX11_chance 38 = .ok (.invokevirtual 307, 3) := by decide +kernel
theorem dX11_chance_41 : decode cX11_chance 41 = .ok (.aload_n 0, 1) := by decide +kernel
theorem dX11_chance_42 : decode cX11_chance 42 = .ok (.aload_n 0, 1) := by decide +kernel
theorem dX11_chance_43 : decode cX11_chance 43 = .ok (.getfield 26, 3) := by decide +kernel
theorem dX11_chance_46 : decode cX11_chance 46 = .ok (.getfield 159, 3) := by decide +kernel
theorem dX11_chance_49 : decode cX11_chance 49 = .ok (.iconst 1, 1) := by decide +kernel
theorem dX11_chance_50 : decode cX11_chance 50 = .ok (.iadd, 1) := by decide +kernel
theorem dX11_chance_51 : decode cX11_chance 51 = .ok (.invokevirtual 307, 3) := by decide +kernel
theorem dX11_chance_54 : decode cX11_chance 54 = .ok (.iload_n 1, 1) := by decide +kernel
theorem dX11_chance_55 : decode cX11_chance 55 = .ok (.invokevirtual 428, 3) := by decide +kernel
theorem dX11_chance_58 : decode cX11_chance 58 = .ok (.aload_n 0, 1) := by decide +kernel
theorem dX11_chance_59 : decode cX11_chance 59 = .ok (.getfield 64, 3) := by decide +kernel
theorem dX11_chance_62 : decode cX11_chance 62 = .ok (.getfield 333, 3) := by decide +kernel
theorem dX11_chance_65 : decode cX11_chance 65 = .ok (.istore_n 2, 1) := by decide +kernel
theorem dX11_chance_66 : decode cX11_chance 66 = .ok (.iload_n 1, 1) := by decide +kernel
theorem dX11_chance_67 : decode cX11_chance 67 = .ok (.iconst 1, 1) := by decide +kernel
theorem dX11_chance_68 : decode cX11_chance 68 = .ok (.if_icmp .ne 8, 3) := by decide +kernel
theorem dX11_chance_71 : decode cX11_chance 71 = .ok (.bipush 100, 2) := by decide +kernel
theorem dX11_chance_73 : decode cX11_chance 73 = .ok (.goto 6, 3) := by decide +kernel
theorem dX11_chance_76 : decode cX11_chance 76 = .ok (.sipush 10000, 3) := by decide +kernel
theorem dX11_chance_79 : decode cX11_chance 79 = .ok (.istore_n 3, 1) := by decide +kernel
theorem dX11_chance_80 : decode cX11_chance 80 = .ok (.aload_n 0, 1) := by decide +kernel
theorem dX11_chance_81 : decode cX11_chance 81 = .ok (.getfield 64, 3) := by decide +kernel
theorem dX11_chance_84 : decode cX11_chance 84 = .ok (.getfield 321, 3) := by decide +kernel
theorem dX11_chance_87 : decode cX11_chance 87 = .ok (.istore 4, 2) := by decide +kernel
theorem dX11_chance_89 : decode cX11_chance 89 = .ok (.iload_n 2, 1) := by decide +kernel
theorem dX11_chance_90 : decode cX11_chance 90 = .ok (.iload_n 3, 1) := by decide +kernel
theorem dX11_chance_91 : decode cX11_chance 91 = .ok (.invokestatic 432, 3) := by decide +kernel
theorem dX11_chance_94 : decode cX11_chance 94 = .ok (.istore 5, 2) := by decide +kernel
theorem dX11_chance_96 : decode cX11_chance 96 = .ok (.aload_n 0, 1) := by decide +kernel
theorem dX11_chance_97 : decode cX11_chance 97 = .ok (.getfield 19, 3) := by decide +kernel
theorem dX11_chance_100 : decode cX11_chance 100 = .ok (.invokevirtual 244, 3) := by decide +kernel
theorem dX11_chance_103 : decode cX11_chance 103 = .ok (.aload_n 0, 1) := by decide +kernel
theorem dX11_chance_104 : decode cX11_chance 104 = .ok (.getfield 19, 3) := by decide +kernel
theorem dX11_chance_107 : decode cX11_chance 107 = .ok (.iload_n 2, 1) := by decide +kernel
theorem dX11_chance_108 : decode cX11_chance 108 = .ok (.iload 5, 2) := by decide +kernel
theorem dX11_chance_110 : decode cX11_chance 110 = .ok (.idiv, 1) := by decide +kernel
theorem dX11_chance_111 : decode cX11_chance 111 = .ok (.i2l, 1) := by decide +kernel
theorem dX11_chance_112 : decode cX11_chance 112 = .ok (.invokevirtual 248, 3) := by decide +kernel
theorem dX11_chance_115 : decode cX11_chance 115 = .ok (.aload_n 0, 1) := by decide +kernel
theorem dX11_chance_116 : decode cX11_chance 116 = .ok (.getfield 19, 3) := by decide +kernel
theorem dX11_chance_119 : decode cX11_chance 119 = .ok (.iload_n 3, 1) := by decide +kernel
theorem dX11_chance_120 : decode cX11_chance 120 = .ok (.iload 5, 2) := by decide +kernel
theorem dX11_chance_122 : decode cX11_chance 122 = .ok (.idiv, 1) := by decide +kernel
theorem dX11_chance_123 : decode cX11_chance 123 = .ok (.i2l, 1) := by decide +kernel
theorem dX11_chance_124 : decode cX11_chance 124 = .ok (.invokevirtual 248, 3) := by decide +kernel
theorem dX11_chance_127 : decode cX11_chance 127 = .ok (.aload_n 0, 1) := by decide +kernel
theorem dX11_chance_128 : decode cX11_chance 128 = .ok (.getfield 19, 3) := by decide +kernel
theorem dX11_chance_131 : decode cX11_chance 131 = .ok (.iload 4, 2) := by decide +kernel
theorem dX11_chance_133 : decode cX11_chance 133 = .ok (.i2l, 1) := by decide +kernel
theorem dX11_chance_134 : decode cX11_chance 134 = .ok (.invokevirtual 248, 3) := by decide +kernel
theorem dX11_chance_137 : decode cX11_chance 137 = .ok (.iconst 0, 1) := by decide +kernel
theorem dX11_chance_138 : decode cX11_chance 138 = .ok (.ireturn, 1) := by decide +kernel
theorem dX11_commonDivisor_0 : decode cX11_commonDivisor 0 = .ok (.iload_n 0, 1) := by decide +kernel
theorem dX11_commonDivisor_1 : decode cX11_commonDivisor 1 = .ok (.istore_n 2, 1) := by decide +kernel
theorem dX11_commonDivisor_2 : decode cX11_commonDivisor 2 = .ok (.iload_n 1, 1) := by decide +kernel
theorem dX11_commonDivisor_3 : decode cX11_commonDivisor 3 = .ok (.istore_n 3, 1) := by decide +kernel
theorem dX11_commonDivisor_4 : decode cX11_commonDivisor 4 = .ok (.iconst 0, 1) := by decide +kernel
theorem dX11_commonDivisor_5 : decode cX11_commonDivisor 5 = .ok (.istore 4, 2) := by decide +kernel
theorem dX11_commonDivisor_7 : decode cX11_commonDivisor 7 = .ok (.iload 4, 2) := by decide +kernel
theorem dX11_commonDivisor_9 : decode cX11_commonDivisor 9 = .ok (.bipush 64, 2) := by decide +kernel
theorem dX11_commonDivisor_11 : decode cX11_commonDivisor 11 = .ok (.if_icmp .ge 23, 3) := by decide +kernel
theorem dX11_commonDivisor_14 : decode cX11_commonDivisor 14 = .ok (.iload_n 3, 1) := by decide +kernel
theorem dX11_commonDivisor_15 : decode cX11_commonDivisor 15 = .ok (.ifCond .eq 19, 3) := by decide +kernel
theorem dX11_commonDivisor_18 : decode cX11_commonDivisor 18 = .ok (.iload_n 2, 1) := by decide +kernel
theorem dX11_commonDivisor_19 : decode cX11_commonDivisor 19 = .ok (.iload_n 3, 1) := by decide +kernel
theorem dX11_commonDivisor_20 : decode cX11_commonDivisor 20 = .ok (.irem, 1) := by decide +kernel
theorem dX11_commonDivisor_21 : decode cX11_commonDivisor 21 = .ok (.istore 5, 2) := by decide +kernel
theorem dX11_commonDivisor_23 : decode cX11_commonDivisor 23 = .ok (.iload_n 3, 1) := by decide +kernel
theorem dX11_commonDivisor_24 : decode cX11_commonDivisor 24 = .ok (.istore_n 2, 1) := by decide +kernel
theorem dX11_commonDivisor_25 : decode cX11_commonDivisor 25 = .ok (.iload 5, 2) := by decide +kernel
theorem dX11_commonDivisor_27 : decode cX11_commonDivisor 27 = .ok (.istore_n 3, 1) := by decide +kernel
theorem dX11_commonDivisor_28 : decode cX11_commonDivisor 28 = .ok (.iinc 4 1, 3) := by decide +kernel
theorem dX11_commonDivisor_31 : decode cX11_commonDivisor 31 = .ok (.goto (-24), 3) := by decide +kernel
theorem dX11_commonDivisor_34 : decode cX11_commonDivisor 34 = .ok (.iconst 1, 1) := by decide +kernel
theorem dX11_commonDivisor_35 : decode cX11_commonDivisor 35 = .ok (.iload_n 2, 1) := by decide +kernel
theorem dX11_commonDivisor_36 : decode cX11_commonDivisor 36 = .ok (.invokestatic 435, 3) := by decide +kernel
theorem dX11_commonDivisor_39 : decode cX11_commonDivisor 39 = .ok (.ireturn, 1) := by decide +kernel
theorem dX11_loser_0 : decode cX11_loser 0 = .ok (.iload_n 1, 1) := by decide +kernel
theorem dX11_loser_1 : decode cX11_loser 1 = .ok (.ifCond .lt 9, 3) := by decide +kernel
theorem dX11_loser_4 : decode cX11_loser 4 = .ok (.iload_n 1, 1) := by decide +kernel
theorem dX11_loser_5 : decode cX11_loser 5 = .ok (.bipush 20, 2) := by decide +kernel
theorem dX11_loser_7 : decode cX11_loser 7 = .ok (.if_icmp .le 5, 3) := by decide +kernel
theorem dX11_loser_10 : decode cX11_loser 10 = .ok (.iconst (-1), 1) := by decide +kernel
theorem dX11_loser_11 : decode cX11_loser 11 = .ok (.ireturn, 1) := by decide +kernel
theorem dX11_loser_12 : decode cX11_loser 12 = .ok (.sipush 10000, 3) := by decide +kernel
theorem dX11_loser_15 : decode cX11_loser 15 = .ok (.istore_n 2, 1) := by decide +kernel
theorem dX11_loser_16 : decode cX11_loser 16 = .ok (.aload_n 0, 1) := by decide +kernel
theorem dX11_loser_17 : decode cX11_loser 17 = .ok (.getfield 105, 3) := by decide +kernel
theorem dX11_loser_20 : decode cX11_loser 20 = .ok (.iconst 0, 1) := by decide +kernel
theorem dX11_loser_21 : decode cX11_loser 21 = .ok (.invokestatic 112, 3) := by decide +kernel
theorem dX11_loser_24 : decode cX11_loser 24 = .ok (.aload_n 0, 1) := by decide +kernel
theorem dX11_loser_25 : decode cX11_loser 25 = .ok (.getfield 98, 3) := by decide +kernel
theorem dX11_loser_28 : decode cX11_loser 28 = .ok (.aload_n 0, 1) := by decide +kernel
theorem dX11_loser_29 : decode cX11_loser 29 = .ok (.invokevirtual 280, 3) := by decide +kernel
theorem dX11_loser_32 : decode cX11_loser 32 = .ok (.invokevirtual 440, 3) := by decide +kernel
theorem dX11_loser_35 : decode cX11_loser 35 = .ok (.iconst 0, 1) := by decide +kernel
theorem dX11_loser_36 : decode cX11_loser 36 = .ok (.istore_n 3, 1) := by decide +kernel
theorem dX11_loser_37 : decode cX11_loser 37 = .ok (.iload_n 3, 1) := by decide +kernel
theorem dX11_loser_38 : decode cX11_loser 38 = .ok (.iload_n 1, 1) := by decide +kernel
theorem dX11_loser_39 : decode cX11_loser 39 = .ok (.if_icmp .ge 128, 3) := by decide +kernel
theorem dX11_loser_42 : decode cX11_loser 42 = .ok (.aload_n 0, 1) := by decide +kernel
theorem dX11_loser_43 : decode cX11_loser 43 = .ok (.aload_n 0, 1) := by decide +kernel
theorem dX11_loser_44 : decode cX11_loser 44 = .ok (.getfield 26, 3) := by decide +kernel
theorem dX11_loser_47 : decode cX11_loser 47 = .ok (.getfield 159, 3) := by decide +kernel
theorem dX11_loser_50 : decode cX11_loser 50 = .ok (.iload_n 3, 1) := by decide +kernel
theorem dX11_loser_51 : decode cX11_loser 51 = .ok (.iadd, 1) := by decide +kernel
theorem dX11_loser_52 : decode cX11_loser 52 = .ok (.invokevirtual 277, 3) := by decide +kernel
theorem dX11_loser_55 : decode cX11_loser 55 = .ok (.istore 4, 2) := by decide +kernel
theorem dX11_loser_57 : decode cX11_loser 57 = .ok (.aload_n 0, 1) := by decide +kernel
theorem dX11_loser_58 : decode cX11_loser 58 = .ok (.getfield 64, 3) := by decide +kernel
theorem dX11_loser_61 : decode cX11_loser 61 = .ok (.aload_n 0, 1) := by decide +kernel
theorem dX11_loser_62 : decode cX11_loser 62 = .ok (.getfield 98, 3) := by decide +kernel
theorem dX11_loser_65 : decode cX11_loser 65 = .ok (.aload_n 0, 1) := by decide +kernel
theorem dX11_loser_66 : decode cX11_loser 66 = .ok (.iload 4, 2) := by decide +kernel
theorem dX11_loser_68 : decode cX11_loser 68 = .ok (.invokevirtual 307, 3) := by decide +kernel
theorem dX11_loser_71 : decode cX11_loser 71 = .ok (.invokevirtual 317, 3) := by decide +kernel
theorem dX11_loser_74 : decode cX11_loser 74 = .ok (.aload_n 0, 1) := by decide +kernel
theorem dX11_loser_75 : decode cX11_loser 75 = .ok (.getfield 64, 3) := by decide +kernel
theorem dX11_loser_78 : decode cX11_loser 78 = .ok (.getfield 321, 3) := by decide +kernel
theorem dX11_loser_81 : decode cX11_loser 81 = .ok (.iconst (-1), 1) := by decide +kernel
theorem dX11_loser_82 : decode cX11_loser 82 = .ok (.if_icmp .ne 6, 3) := by decide +kernel
theorem dX11_loser_85 : decode cX11_loser 85 = .ok (.goto 82, 3) := by decide +kernel
theorem dX11_loser_88 : decode cX11_loser 88 = .ok (.iload_n 2, 1) := by decide +kernel
theorem dX11_loser_89 : decode cX11_loser 89 = .ok (.aload_n 0, 1) := by decide +kernel
theorem dX11_loser_90 : decode cX11_loser 90 = .ok (.getfield 64, 3) := by decide +kernel
theorem dX11_loser_93 : decode cX11_loser 93 = .ok (.getfield 324, 3) := by decide +kernel
theorem dX11_loser_96 : decode cX11_loser 96 = .ok (.imul, 1) := by decide +kernel
theorem dX11_loser_97 : decode cX11_loser 97 = .ok (.bipush 100, 2) := by decide +kernel
theorem dX11_loser_99 : decode cX11_loser 99 = .ok (.idiv, 1) := by decide +kernel
theorem dX11_loser_100 : decode cX11_loser 100 = .ok (.istore 5, 2) := by decide +kernel
theorem dX11_loser_102 : decode cX11_loser 102 = .ok (.iload 4, 2) := by decide +kernel
theorem dX11_loser_104 : decode cX11_loser 104 = .ok (.ifCond .lt 21, 3) := by decide +kernel
theorem dX11_loser_107 : decode cX11_loser 107 = .ok (.iload 4, 2) := by decide +kernel
theorem dX11_loser_109 : decode cX11_loser 109 = .ok (.iconst 4, 1) := by decide +kernel
theorem dX11_loser_110 : decode cX11_loser 110 = .ok (.if_icmp .ge 15, 3) := by decide +kernel
theorem dX11_loser_113 : decode cX11_loser 113 = .ok (.aload_n 0, 1) := by decide +kernel
theorem dX11_loser_114 : decode cX11_loser 114 = .ok (.getfield 105, 3) := by decide +kernel
theorem dX11_loser_117 : decode cX11_loser 117 = .ok (.iload 4, 2) := by decide +kernel
theorem dX11_loser_119 : decode cX11_loser 119 = .ok (.dup2, 1) := by decide +kernel
theorem dX11_loser_120 : decode cX11_loser 120 = .ok (.iaload, 1) := by decide +kernel
theorem dX11_loser_121 : decode cX11_loser 121 = .ok (.iload 5, 2) := by decide +kernel
theorem dX11_loser_123 : decode cX11_loser 123 = .ok (.iadd, 1) := by decide +kernel
theorem dX11_loser_124 : decode cX11_loser 124 = .ok (.iastore, 1) := by decide +kernel
theorem dX11_loser_125 : decode cX11_loser 125 = .ok (.iload_n 2, 1) := by decide +kernel
theorem dX11_loser_126 : decode cX11_loser 126 = .ok (.iload 5, 2) := by decide +kernel
theorem dX11_loser_128 : decode cX11_loser 128 = .ok (.isub, 1) := by decide +kernel
theorem dX11_loser_129 : decode cX11_loser 129 = .ok (.istore_n 2, 1) := by decide +kernel
theorem dX11_loser_130 : decode cX11_loser 130 = .ok (.aload_n 0, 1) := by decide +kernel
theorem dX11_loser_131 : decode cX11_loser 131 = .ok (.getfield 98, 3) := by decide +kernel
theorem dX11_loser_134 : decode cX11_loser 134 = .ok (.aload_n 0, 1) := by decide +kernel
theorem dX11_loser_135 : decode cX11_loser 135 = .ok (.getfield 64, 3) := by decide +kernel
theorem dX11_loser_138 : decode cX11_loser 138 = .ok (.getfield 321, 3) := by decide +kernel
theorem dX11_loser_141 : decode cX11_loser 141 = .ok (.bipush 10, 2) := by decide +kernel
theorem dX11_loser_143 : decode cX11_loser 143 = .ok (.idiv, 1) := by decide +kernel
theorem dX11_loser_144 : decode cX11_loser 144 = .ok (.aload_n 0, 1) := by decide +kernel
theorem dX11_loser_145 : decode cX11_loser 145 = .ok (.getfield 98, 3) := by decide +kernel
theorem dX11_loser_148 : decode cX11_loser 148 = .ok (.aload_n 0, 1) := by decide +kernel
theorem dX11_loser_149 : decode cX11_loser 149 = .ok (.getfield 64, 3) := by decide +kernel
theorem dX11_loser_152 : decode cX11_loser 152 = .ok (.getfield 321, 3) := by decide +kernel
theorem dX11_loser_155 : decode cX11_loser 155 = .ok (.invokevirtual 351, 3) := by decide +kernel
theorem dX11_loser_158 : decode cX11_loser 158 = .ok (.invokevirtual 443, 3) := by decide +kernel
theorem dX11_loser_161 : decode cX11_loser 161 = .ok (.iinc 3 1, 3) := by decide +kernel
theorem dX11_loser_164 : decode cX11_loser 164 = .ok (.goto (-127), 3) := by decide +kernel
theorem dX11_loser_167 : decode cX11_loser 167 = .ok (.aload_n 0, 1) := by decide +kernel
theorem dX11_loser_168 : decode cX11_loser 168 = .ok (.iload_n 2, 1) := by decide +kernel
theorem dX11_loser_169 : decode cX11_loser 169 = .ok (.invokevirtual 446, 3) := by decide +kernel
theorem dX11_loser_172 : decode cX11_loser 172 = .ok (.ireturn, 1) := by decide +kernel
theorem dX11_tellShares_0 : decode cX11_tellShares 0 = .ok (.iconst 0, 1) := by decide +kernel
theorem dX11_tellShares_1 : decode cX11_tellShares 1 = .ok (.istore_n 2, 1) := by decide +kernel
theorem dX11_tellShares_2 : decode cX11_tellShares 2 = .ok (.aload_n 0, 1) := by decide +kernel
theorem dX11_tellShares_3 : decode cX11_tellShares 3 = .ok (.getfield 19, 3) := by decide +kernel
theorem dX11_tellShares_6 : decode cX11_tellShares 6 = .ok (.invokevirtual 244, 3) := by decide +kernel
theorem dX11_tellShares_9 : decode cX11_tellShares 9 = .ok (.iconst 0, 1) := by decide +kernel
theorem dX11_tellShares_10 : decode cX11_tellShares 10 = .ok (.istore_n 3, 1) := by decide +kernel
theorem dX11_tellShares_11 : decode cX11_tellShares 11 = .ok (.iload_n 3, 1) := by decide +kernel
theorem dX11_tellShares_12 : decode cX11_tellShares 12 = .ok (.aload_n 0, 1) := by decide +kernel
theorem dX11_tellShares_13 : decode cX11_tellShares 13 = .ok (.getfield 108, 3) := by decide +kernel
theorem dX11_tellShares_16 : decode cX11_tellShares 16 = .ok (.if_icmp .ge 45, 3) := by decide +kernel
theorem dX11_tellShares_19 : decode cX11_tellShares 19 = .ok (.iload_n 3, 1) := by decide +kernel
theorem dX11_tellShares_20 : decode cX11_tellShares 20 = .ok (.iconst 4, 1) := by decide +kernel
theorem dX11_tellShares_21 : decode cX11_tellShares 21 = .ok (.if_icmp .ge 40, 3) := by decide +kernel
theorem dX11_tellShares_24 : decode cX11_tellShares 24 = .ok (.aload_n 0, 1) := by decide +kernel
theorem dX11_tellShares_25 : decode cX11_tellShares 25 = .ok (.getfield 19, 3) := by decide +kernel
theorem dX11_tellShares_28 : decode cX11_tellShares 28 = .ok (.aload_n 0, 1) := by decide +kernel
theorem dX11_tellShares_29 : decode cX11_tellShares 29 = .ok (.getfield 105, 3) := by decide +kernel
theorem dX11_tellShares_32 : decode cX11_tellShares 32 = .ok (.iload_n 3, 1) := by decide +kernel
theorem dX11_tellShares_33 : decode cX11_tellShares 33 = .ok (.iaload, 1) := by decide +kernel
theorem dX11_tellShares_34 : decode cX11_tellShares 34 = .ok (.i2l, 1) := by decide +kernel
theorem dX11_tellShares_35 : decode cX11_tellShares 35 = .ok (.invokevirtual 248, 3) := by decide +kernel
theorem dX11_tellShares_38 : decode cX11_tellShares 38 = .ok (.aload_n 0, 1) := by decide +kernel
theorem dX11_tellShares_39 : decode cX11_tellShares 39 = .ok (.getfield 105, 3) := by decide +kernel
theorem dX11_tellShares_42 : decode cX11_tellShares 42 = .ok (.iload_n 3, 1) := by decide +kernel
theorem dX11_tellShares_43 : decode cX11_tellShares 43 = .ok (.iaload, 1) := by decide +kernel
theorem dX11_tellShares_44 : decode cX11_tellShares 44 = .ok (.aload_n 0, 1) := by decide +kernel
theorem dX11_tellShares_45 : decode cX11_tellShares 45 = .ok (.getfield 105, 3) := by decide +kernel
theorem dX11_tellShares_48 : decode cX11_tellShares 48 = .ok (.iload_n 2, 1) := by decide +kernel
theorem dX11_tellShares_49 : decode cX11_tellShares 49 = .ok (.iaload, 1) := by decide +kernel
theorem dX11_tellShares_50 : decode cX11_tellShares 50 = .ok (.if_icmp .le 5, 3) := by decide +kernel
theorem dX11_tellShares_53 : decode cX11_tellShares 53 = .ok (.iload_n 3, 1) := by decide +kernel
theorem dX11_tellShares_54 : decode cX11_tellShares 54 = .ok (.istore_n 2, 1) := by decide +kernel
theorem dX11_tellShares_55 : decode cX11_tellShares 55 = .ok (.iinc 3 1, 3) := by decide +kernel
theorem dX11_tellShares_58 : decode cX11_tellShares 58 = .ok (.goto (-47), 3) := by decide +kernel
theorem dX11_tellShares_61 : decode cX11_tellShares 61 = .ok (.aload_n 0, 1) := by decide +kernel
theorem dX11_tellShares_62 : decode cX11_tellShares 62 = .ok (.getfield 19, 3) := by decide +kernel
theorem dX11_tellShares_65 : decode cX11_tellShares 65 = .ok (.iload_n 1, 1) := by decide +kernel
theorem dX11_tellShares_66 : decode cX11_tellShares 66 = .ok (.i2l, 1) := by decide +kernel
theorem dX11_tellShares_67 : decode cX11_tellShares 67 = .ok (.invokevirtual 248, 3) := by decide +kernel
theorem dX11_tellShares_70 : decode cX11_tellShares 70 = .ok (.iload_n 2, 1) := by decide +kernel
theorem dX11_tellShares_71 : decode cX11_tellShares 71 = .ok (.ireturn, 1) := by decide +kernel
theorem dX11_felt_0 : decode cX11_felt 0 = .ok (.aload_n 0, 1) := by decide +kernel
theorem dX11_felt_1 : decode cX11_felt 1 = .ok (.getfield 26, 3) := by decide +kernel
theorem dX11_felt_4 : decode cX11_felt 4 = .ok (.getfield 132, 3) := by decide +kernel
theorem dX11_felt_7 : decode cX11_felt 7 = .ok (.iload_n 1, 1) := by decide +kernel
theorem dX11_felt_8 : decode cX11_felt 8 = .ok (.invokevirtual 165, 3) := by decide +kernel
theorem dX11_felt_11 : decode cX11_felt 11 = .ok (.ifCond .eq 12, 3) := by decide +kernel
theorem dX11_felt_14 : decode cX11_felt 14 = .ok (.iload_n 2, 1) := by decide +kernel
theorem dX11_felt_15 : decode cX11_felt 15 = .ok (.ifCond .lt 8, 3) := by decide +kernel
theorem dX11_felt_18 : decode cX11_felt 18 = .ok (.iload_n 2, 1) := by decide +kernel
theorem dX11_felt_19 : decode cX11_felt 19 = .ok (.iconst 1, 1) := by decide +kernel
theorem dX11_felt_20 : decode cX11_felt 20 = .ok (.if_icmp .le 5, 3) := by decide +kernel
theorem dX11_felt_23 : decode cX11_felt 23 = .ok (.iconst (-1), 1) := by decide +kernel
theorem dX11_felt_24 : decode cX11_felt 24 = .ok (.ireturn, 1) := by decide +kernel
theorem dX11_felt_25 : decode cX11_felt 25 = .ok (.aload_n 0, 1) := by decide +kernel
theorem dX11_felt_26 : decode cX11_felt 26 = .ok (.getfield 80, 3) := by decide +kernel
theorem dX11_felt_29 : decode cX11_felt 29 = .ok (.iload_n 1, 1) := by decide +kernel
theorem dX11_felt_30 : decode cX11_felt 30 = .ok (.iload_n 2, 1) := by decide +kernel
theorem dX11_felt_31 : decode cX11_felt 31 = .ok (.iconst 1, 1) := by decide +kernel
theorem dX11_felt_32 : decode cX11_felt 32 = .ok (.if_icmp .ne 7, 3) := by decide +kernel
theorem dX11_felt_35 : decode cX11_felt 35 = .ok (.iconst 1, 1) := by decide +kernel
theorem dX11_felt_36 : decode cX11_felt 36 = .ok (.goto 4, 3) := by decide +kernel
theorem dX11_felt_39 : decode cX11_felt 39 = .ok (.iconst 0, 1) := by decide +kernel
theorem dX11_felt_40 : decode cX11_felt 40 = .ok (.invokevirtual 449, 3) := by decide +kernel
theorem dX11_felt_43 : decode cX11_felt 43 = .ok (.ifCond .eq 13, 3) := by decide +kernel
theorem dX11_felt_46 : decode cX11_felt 46 = .ok (.aload_n 0, 1) := by decide +kernel
theorem dX11_felt_47 : decode cX11_felt 47 = .ok (.getfield 80, 3) := by decide +kernel
theorem dX11_felt_50 : decode cX11_felt 50 = .ok (.getfield 453, 3) := by decide +kernel
theorem dX11_felt_53 : decode cX11_felt 53 = .ok (.goto 4, 3) := by decide +kernel
theorem dX11_felt_56 : decode cX11_felt 56 = .ok (.iconst (-1), 1) := by decide +kernel
theorem dX11_felt_57 : decode cX11_felt 57 = .ok (.ireturn, 1) := by decide +kernel
theorem dX11_known_0 : decode cX11_known 0 = .ok (.aload_n 0, 1) := by decide +kernel
theorem dX11_known_1 : decode cX11_known 1 = .ok (.getfield 26, 3) := by decide +kernel
theorem dX11_known_4 : decode cX11_known 4 = .ok (.getfield 132, 3) := by decide +kernel
theorem dX11_known_7 : decode cX11_known 7 = .ok (.iload_n 1, 1) := by decide +kernel
theorem dX11_known_8 : decode cX11_known 8 = .ok (.invokevirtual 165, 3) := by decide +kernel
theorem dX11_known_11 : decode cX11_known 11 = .ok (.ifCond .eq 18, 3) := by decide +kernel
theorem dX11_known_14 : decode cX11_known 14 = .ok (.iload_n 2, 1) := by decide +kernel
theorem dX11_known_15 : decode cX11_known 15 = .ok (.ifCond .lt 14, 3) := by decide +kernel
theorem dX11_known_18 : decode cX11_known 18 = .ok (.iload_n 3, 1) := by decide +kernel
theorem dX11_known_19 : decode cX11_known 19 = .ok (.bipush 9, 2) := by decide +kernel
theorem dX11_known_21 : decode cX11_known 21 = .ok (.if_icmp .gt 8, 3) := by decide +kernel
theorem dX11_known_24 : decode cX11_known 24 = .ok (.iload_n 2, 1) := by decide +kernel
theorem dX11_known_25 : decode cX11_known 25 = .ok (.iload_n 3, 1) := by decide +kernel
theorem dX11_known_26 : decode cX11_known 26 = .ok (.if_icmp .le 5, 3) := by decide +kernel
theorem dX11_known_29 : decode cX11_known 29 = .ok (.iconst 0, 1) := by decide +kernel
theorem dX11_known_30 : decode cX11_known 30 = .ok (.ireturn, 1) := by decide +kernel
theorem dX11_known_31 : decode cX11_known 31 = .ok (.aload_n 0, 1) := by decide +kernel
theorem dX11_known_32 : decode cX11_known 32 = .ok (.getfield 80, 3) := by decide +kernel
theorem dX11_known_35 : decode cX11_known 35 = .ok (.getfield 454, 3) := by decide +kernel
theorem dX11_known_38 : decode cX11_known 38 = .ok (.iload_n 1, 1) := by decide +kernel
theorem dX11_known_39 : decode cX11_known 39 = .ok (.iload_n 2, 1) := by decide +kernel
theorem dX11_known_40 : decode cX11_known 40 = .ok (.iastore, 1) := by decide +kernel
theorem dX11_known_41 : decode cX11_known 41 = .ok (.aload_n 0, 1) := by decide +kernel
theorem dX11_known_42 : decode cX11_known 42 = .ok (.getfield 80, 3) := by decide +kernel
theorem dX11_known_45 : decode cX11_known 45 = .ok (.getfield 457, 3) := by decide +kernel
theorem dX11_known_48 : decode cX11_known 48 = .ok (.iload_n 1, 1) := by decide +kernel
theorem dX11_known_49 : decode cX11_known 49 = .ok (.iload_n 3, 1) := by decide +kernel
theorem dX11_known_50 : decode cX11_known 50 = .ok (.iastore, 1) := by decide +kernel
theorem dX11_known_51 : decode cX11_known 51 = .ok (.iconst 1, 1) := by decide +kernel
theorem dX11_known_52 : decode cX11_known 52 = .ok (.ireturn, 1) := by decide +kernel
theorem dX11_forget_0 : decode cX11_forget 0 = .ok (.aload_n 0, 1) := by decide +kernel
theorem dX11_forget_1 : decode cX11_forget 1 = .ok (.getfield 80, 3) := by decide +kernel
theorem dX11_forget_4 : decode cX11_forget 4 = .ok (.getfield 453, 3) := by decide +kernel
theorem dX11_forget_7 : decode cX11_forget 7 = .ok (.istore_n 1, 1) := by decide +kernel
theorem dX11_forget_8 : decode cX11_forget 8 = .ok (.aload_n 0, 1) := by decide +kernel
theorem dX11_forget_9 : decode cX11_forget 9 = .ok (.getfield 80, 3) := by decide +kernel
theorem dX11_forget_12 : decode cX11_forget 12 = .ok (.invokevirtual 142, 3) := by decide +kernel
theorem dX11_forget_15 : decode cX11_forget 15 = .ok (.iload_n 1, 1) := by decide +kernel
theorem dX11_forget_16 : decode cX11_forget 16 = .ok (.ireturn, 1) := by decide +kernel
theorem dX11_fits_0 : decode cX11_fits 0 = .ok (.aload_n 0, 1) := by decide +kernel
theorem dX11_fits_1 : decode cX11_fits 1 = .ok (.getfield 26, 3) := by decide +kernel
theorem dX11_fits_4 : decode cX11_fits 4 = .ok (.getfield 132, 3) := by decide +kernel
theorem dX11_fits_7 : decode cX11_fits 7 = .ok (.iload_n 1, 1) := by decide +kernel
theorem dX11_fits_8 : decode cX11_fits 8 = .ok (.invokevirtual 204, 3) := by decide +kernel
theorem dX11_fits_11 : decode cX11_fits 11 = .ok (.ifCond .ne 5, 3) := by decide +kernel
theorem dX11_fits_14 : decode cX11_fits 14 = .ok (.iconst (-1), 1) := by decide +kernel
theorem dX11_fits_15 : decode cX11_fits 15 = .ok (.ireturn, 1) := by decide +kernel
theorem dX11_fits_16 : decode cX11_fits 16 = .ok (.aload_n 0, 1) := by decide +kernel
theorem dX11_fits_17 : decode cX11_fits 17 = .ok (.getfield 80, 3) := by decide +kernel
theorem dX11_fits_20 : decode cX11_fits 20 = .ok (.aload_n 0, 1) := by decide +kernel
theorem dX11_fits_21 : decode cX11_fits 21 = .ok (.getfield 26, 3) := by decide +kernel
theorem dX11_fits_24 : decode cX11_fits 24 = .ok (.getfield 132, 3) := by decide +kernel
theorem dX11_fits_27 : decode cX11_fits 27 = .ok (.iload_n 1, 1) := by decide +kernel
theorem dX11_fits_28 : decode cX11_fits 28 = .ok (.invokevirtual 460, 3) := by decide +kernel
theorem dX11_fits_31 : decode cX11_fits 31 = .ok (.aload_n 0, 1) := by decide +kernel
theorem dX11_fits_32 : decode cX11_fits 32 = .ok (.getfield 19, 3) := by decide +kernel
theorem dX11_fits_35 : decode cX11_fits 35 = .ok (.invokevirtual 244, 3) := by decide +kernel
theorem dX11_fits_38 : decode cX11_fits 38 = .ok (.aload_n 0, 1) := by decide +kernel
theorem dX11_fits_39 : decode cX11_fits 39 = .ok (.getfield 80, 3) := by decide +kernel
theorem dX11_fits_42 : decode cX11_fits 42 = .ok (.getfield 463, 3) := by decide +kernel
theorem dX11_fits_45 : decode cX11_fits 45 = .ok (.ifCond .le 25, 3) := by decide +kernel
theorem dX11_fits_48 : decode cX11_fits 48 = .ok (.aload_n 0, 1) := by decide +kernel
theorem dX11_fits_49 : decode cX11_fits 49 = .ok (.aload_n 0, 1) := by decide +kernel
theorem dX11_fits_50 : decode cX11_fits 50 = .ok (.getfield 80, 3) := by decide +kernel
theorem dX11_fits_53 : decode cX11_fits 53 = .ok (.getfield 466, 3) := by decide +kernel
theorem dX11_fits_56 : decode cX11_fits 56 = .ok (.invokevirtual 469, 3) := by decide +kernel
theorem dX11_fits_59 : decode cX11_fits 59 = .ok (.aload_n 0, 1) := by decide +kernel
theorem dX11_fits_60 : decode cX11_fits 60 = .ok (.aload_n 0, 1) := by decide +kernel
theorem dX11_fits_61 : decode cX11_fits 61 = .ok (.getfield 80, 3) := by decide +kernel
theorem dX11_fits_64 : decode cX11_fits 64 = .ok (.getfield 473, 3) := by decide +kernel
theorem dX11_fits_67 : decode cX11_fits 67 = .ok (.invokevirtual 469, 3) := by decide +kernel
theorem dX11_fits_70 : decode cX11_fits 70 = .ok (.aload_n 0, 1) := by decide +kernel
theorem dX11_fits_71 : decode cX11_fits 71 = .ok (.getfield 80, 3) := by decide +kernel
theorem dX11_fits_74 : decode cX11_fits 74 = .ok (.getfield 463, 3) := by decide +kernel
theorem dX11_fits_77 : decode cX11_fits 77 = .ok (.ireturn, 1) := by decide +kernel
theorem dX11_tellThicknesses_0 : decode cX11_tellThicknesses 0 = .ok (.iconst 0, 1) := by decide +kernel
theorem dX11_tellThicknesses_1 : decode cX11_tellThicknesses 1 = .ok (.istore_n 2, 1) := by decide +kernel
theorem dX11_tellThicknesses_2 : decode cX11_tellThicknesses 2 = .ok (.iload_n 2, 1) := by decide +kernel
theorem dX11_tellThicknesses_3 : decode cX11_tellThicknesses 3 = .ok (.iconst 3, 1) := by decide +kernel
theorem dX11_tellThicknesses_4 : decode cX11_tellThicknesses 4 = .ok (.if_icmp .ge 33, 3) := by decide +kernel
theorem dX11_tellThicknesses_7 : decode cX11_tellThicknesses 7 = .ok (.iload_n 2, 1) := by decide +kernel
theorem dX11_tellThicknesses_8 : decode cX11_tellThicknesses 8 = .ok (.aload_n 1, 1) := by decide +kernel
theorem dX11_tellThicknesses_9 : decode cX11_tellThicknesses 9 = .ok (.arraylength, 1) := by decide +kernel
theorem dX11_tellThicknesses_10 : decode cX11_tellThicknesses 10 = .ok (.if_icmp .ge 27, 3) := by decide +kernel
theorem dX11_tellThicknesses_13 : decode cX11_tellThicknesses 13 = .ok (.aload_n 1, 1) := by decide +kernel
theorem dX11_tellThicknesses_14 : decode cX11_tellThicknesses 14 = .ok (.iload_n 2, 1) := by decide +kernel
theorem dX11_tellThicknesses_15 : decode cX11_tellThicknesses 15 = .ok (.iaload, 1) := by decide +kernel
theorem dX11_tellThicknesses_16 : decode cX11_tellThicknesses 16 = .ok (.iconst (-1), 1) := by decide +kernel
theorem dX11_tellThicknesses_17 : decode cX11_tellThicknesses 17 = .ok (.if_icmp .eq 14, 3) := by decide +kernel
theorem dX11_tellThicknesses_20 : decode cX11_tellThicknesses 20 = .ok (.aload_n 0, 1) := by decide +kernel
theorem dX11_tellThicknesses_21 : decode cX11_tellThicknesses 21 = .ok (.getfield 19, 3) := by decide +kernel
theorem dX11_tellThicknesses_24 : decode cX11_tellThicknesses 24 = .ok (.aload_n 1, 1) := by decide +kernel
theorem dX11_tellThicknesses_25 : decode cX11_tellThicknesses 25 = .ok (.iload_n 2, 1) := by decide +kernel
theorem dX11_tellThicknesses_26 : decode cX11_tellThicknesses 26 = .ok (.iaload, 1) := by decide +kernel
theorem dX11_tellThicknesses_27 : decode cX11_tellThicknesses 27 = .ok (.i2l, 1) := by decide +kernel
theorem dX11_tellThicknesses_28 : decode cX11_tellThicknesses 28 = .ok (.invokevirtual 248, 3) := by decide +kernel
theorem dX11_tellThicknesses_31 : decode cX11_tellThicknesses 31 = .ok (.iinc 2 1, 3) := by decide +kernel
theorem dX11_tellThicknesses_34 : decode cX11_tellThicknesses 34 = .ok (.goto (-32), 3) := by decide +kernel
theorem dX11_tellThicknesses_37 : decode cX11_tellThicknesses 37 = .ok (.return_, 1) := by decide +kernel
theorem dX11_span_0 : decode cX11_span 0 = .ok (.aload_n 0, 1) := by decide +kernel
theorem dX11_span_1 : decode cX11_span 1 = .ok (.getfield 26, 3) := by decide +kernel
theorem dX11_span_4 : decode cX11_span 4 = .ok (.getfield 132, 3) := by decide +kernel
theorem dX11_span_7 : decode cX11_span 7 = .ok (.iload_n 1, 1) := by decide +kernel
theorem dX11_span_8 : decode cX11_span 8 = .ok (.invokevirtual 165, 3) := by decide +kernel
theorem dX11_span_11 : decode cX11_span 11 = .ok (.ifCond .ne 5, 3) := by decide +kernel
theorem dX11_span_14 : decode cX11_span 14 = .ok (.iconst (-1), 1) := by decide +kernel
theorem dX11_span_15 : decode cX11_span 15 = .ok (.ireturn, 1) := by decide +kernel
theorem dX11_span_16 : decode cX11_span 16 = .ok (.aload_n 0, 1) := by decide +kernel
theorem dX11_span_17 : decode cX11_span 17 = .ok (.getfield 80, 3) := by decide +kernel
theorem dX11_span_20 : decode cX11_span 20 = .ok (.aload_n 0, 1) := by decide +kernel
theorem dX11_span_21 : decode cX11_span 21 = .ok (.getfield 26, 3) := by decide +kernel
theorem dX11_span_24 : decode cX11_span 24 = .ok (.getfield 132, 3) := by decide +kernel
theorem dX11_span_27 : decode cX11_span 27 = .ok (.iload_n 1, 1) := by decide +kernel
theorem dX11_span_28 : decode cX11_span 28 = .ok (.iconst 3, 1) := by decide +kernel
theorem dX11_span_29 : decode cX11_span 29 = .ok (.idiv, 1) := by decide +kernel
theorem dX11_span_30 : decode cX11_span 30 = .ok (.invokevirtual 460, 3) := by decide +kernel
theorem dX11_span_33 : decode cX11_span 33 = .ok (.aload_n 0, 1) := by decide +kernel
theorem dX11_span_34 : decode cX11_span 34 = .ok (.getfield 80, 3) := by decide +kernel
theorem dX11_span_37 : decode cX11_span 37 = .ok (.getfield 476, 3) := by decide +kernel
theorem dX11_span_40 : decode cX11_span 40 = .ok (.iload_n 1, 1) := by decide +kernel
theorem dX11_span_41 : decode cX11_span 41 = .ok (.iconst 3, 1) := by decide +kernel
theorem dX11_span_42 : decode cX11_span 42 = .ok (.irem, 1) := by decide +kernel
theorem dX11_span_43 : decode cX11_span 43 = .ok (.iaload, 1) := by decide +kernel
theorem dX11_span_44 : decode cX11_span 44 = .ok (.ireturn, 1) := by decide +kernel
theorem dX11_sure_0 : decode cX11_sure 0 = .ok (.aload_n 0, 1) := by decide +kernel
theorem dX11_sure_1 : decode cX11_sure 1 = .ok (.getfield 26, 3) := by decide +kernel
theorem dX11_sure_4 : decode cX11_sure 4 = .ok (.getfield 132, 3) := by decide +kernel
theorem dX11_sure_7 : decode cX11_sure 7 = .ok (.iload_n 1, 1) := by decide +kernel
theorem dX11_sure_8 : decode cX11_sure 8 = .ok (.invokevirtual 165, 3) := by decide +kernel
theorem dX11_sure_11 : decode cX11_sure 11 = .ok (.ifCond .ne 5, 3) := by decide +kernel
theorem dX11_sure_14 : decode cX11_sure 14 = .ok (.iconst (-1), 1) := by decide +kernel
theorem dX11_sure_15 : decode cX11_sure 15 = .ok (.ireturn, 1) := by decide +kernel
theorem dX11_sure_16 : decode cX11_sure 16 = .ok (.aload_n 0, 1) := by decide +kernel
theorem dX11_sure_17 : decode cX11_sure 17 = .ok (.getfield 80, 3) := by decide +kernel
theorem dX11_sure_20 : decode cX11_sure 20 = .ok (.aload_n 0, 1) := by decide +kernel
theorem dX11_sure_21 : decode cX11_sure 21 = .ok (.getfield 26, 3) := by decide +kernel
theorem dX11_sure_24 : decode cX11_sure 24 = .ok (.getfield 132, 3) := by decide +kernel
theorem dX11_sure_27 : decode cX11_sure 27 = .ok (.iload_n 1, 1) := by decide +kernel
theorem dX11_sure_28 : decode cX11_sure 28 = .ok (.iconst 3, 1) := by decide +kernel
theorem dX11_sure_29 : decode cX11_sure 29 = .ok (.idiv, 1) := by decide +kernel
theorem dX11_sure_30 : decode cX11_sure 30 = .ok (.invokevirtual 460, 3) := by decide +kernel
theorem dX11_sure_33 : decode cX11_sure 33 = .ok (.aload_n 0, 1) := by decide +kernel
theorem dX11_sure_34 : decode cX11_sure 34 = .ok (.getfield 80, 3) := by decide +kernel
theorem dX11_sure_37 : decode cX11_sure 37 = .ok (.getfield 463, 3) := by decide +kernel
theorem dX11_sure_40 : decode cX11_sure 40 = .ok (.ifCond .ne 6, 3) := by decide +kernel
theorem dX11_sure_43 : decode cX11_sure 43 = .ok (.bipush (-2), 2) := by decide +kernel
theorem dX11_sure_45 : decode cX11_sure 45 = .ok (.ireturn, 1) := by decide +kernel
theorem dX11_sure_46 : decode cX11_sure 46 = .ok (.aload_n 0, 1) := by decide +kernel
theorem dX11_sure_47 : decode cX11_sure 47 = .ok (.getfield 80, 3) := by decide +kernel
theorem dX11_sure_50 : decode cX11_sure 50 = .ok (.getfield 479, 3) := by decide +kernel
theorem dX11_sure_53 : decode cX11_sure 53 = .ok (.iload_n 1, 1) := by decide +kernel
theorem dX11_sure_54 : decode cX11_sure 54 = .ok (.iconst 3, 1) := by decide +kernel
theorem dX11_sure_55 : decode cX11_sure 55 = .ok (.irem, 1) := by decide +kernel
theorem dX11_sure_56 : decode cX11_sure 56 = .ok (.iaload, 1) := by decide +kernel
theorem dX11_sure_57 : decode cX11_sure 57 = .ok (.istore_n 2, 1) := by decide +kernel
theorem dX11_sure_58 : decode cX11_sure 58 = .ok (.aload_n 0, 1) := by decide +kernel
theorem dX11_sure_59 : decode cX11_sure 59 = .ok (.getfield 19, 3) := by decide +kernel
theorem dX11_sure_62 : decode cX11_sure 62 = .ok (.invokevirtual 244, 3) := by decide +kernel
theorem dX11_sure_65 : decode cX11_sure 65 = .ok (.aload_n 0, 1) := by decide +kernel
theorem dX11_sure_66 : decode cX11_sure 66 = .ok (.getfield 19, 3) := by decide +kernel
theorem dX11_sure_69 : decode cX11_sure 69 = .ok (.iload_n 2, 1) := by decide +kernel
theorem dX11_sure_70 : decode cX11_sure 70 = .ok (.i2l, 1) := by decide +kernel
theorem dX11_sure_71 : decode cX11_sure 71 = .ok (.invokevirtual 248, 3) := by decide +kernel
theorem dX11_sure_74 : decode cX11_sure 74 = .ok (.aload_n 0, 1) := by decide +kernel
theorem dX11_sure_75 : decode cX11_sure 75 = .ok (.getfield 19, 3) := by decide +kernel
theorem dX11_sure_78 : decode cX11_sure 78 = .ok (.aload_n 0, 1) := by decide +kernel
theorem dX11_sure_79 : decode cX11_sure 79 = .ok (.getfield 80, 3) := by decide +kernel
theorem dX11_sure_82 : decode cX11_sure 82 = .ok (.getfield 463, 3) := by decide +kernel
theorem dX11_sure_85 : decode cX11_sure 85 = .ok (.i2l, 1) := by decide +kernel
theorem dX11_sure_86 : decode cX11_sure 86 = .ok (.invokevirtual 248, 3) := by decide +kernel
theorem dX11_sure_89 : decode cX11_sure 89 = .ok (.iload_n 2, 1) := by decide +kernel
theorem dX11_sure_90 : decode cX11_sure 90 = .ok (.ifCond .ne 5, 3) := by decide +kernel
theorem dX11_sure_93 : decode cX11_sure 93 = .ok (.iconst 0, 1) := by decide +kernel
theorem dX11_sure_94 : decode cX11_sure 94 = .ok (.ireturn, 1) := by decide +kernel
theorem dX11_sure_95 : decode cX11_sure 95 = .ok (.iload_n 2, 1) := by decide +kernel
theorem dX11_sure_96 : decode cX11_sure 96 = .ok (.aload_n 0, 1) := by decide +kernel
theorem dX11_sure_97 : decode cX11_sure 97 = .ok (.getfield 80, 3) := by decide +kernel
theorem dX11_sure_100 : decode cX11_sure 100 = .ok (.getfield 463, 3) := by decide +kernel
theorem dX11_sure_103 : decode cX11_sure 103 = .ok (.if_icmp .ne 7, 3) := by decide +kernel
theorem dX11_sure_106 : decode cX11_sure 106 = .ok (.iconst 1, 1) := by decide +kernel
theorem dX11_sure_107 : decode cX11_sure 107 = .ok (.goto 4, 3) := by decide +kernel
theorem dX11_sure_110 : decode cX11_sure 110 = .ok (.iconst 2, 1) := by decide +kernel
theorem dX11_sure_111 : decode cX11_sure 111 = .ok (.ireturn, 1) := by decide +kernel
theorem dX11_touch_0 : decode cX11_touch 0 = .ok (.aload_n 0, 1) := by decide +kernel
theorem dX11_touch_1 : decode cX11_touch 1 = .ok (.getfield 26, 3) := by decide +kernel
theorem dX11_touch_4 : decode cX11_touch 4 = .ok (.getfield 132, 3) := by decide +kernel
theorem dX11_touch_7 : decode cX11_touch 7 = .ok (.iload_n 1, 1) := by decide +kernel
theorem dX11_touch_8 : decode cX11_touch 8 = .ok (.invokevirtual 204, 3) := by decide +kernel
theorem dX11_touch_11 : decode cX11_touch 11 = .ok (.ifCond .ne 5, 3) := by decide +kernel
theorem dX11_touch_14 : decode cX11_touch 14 = .ok (.iconst (-1), 1) := by decide +kernel
theorem dX11_touch_15 : decode cX11_touch 15 = .ok (.ireturn, 1) := by decide +kernel
theorem dX11_touch_16 : decode cX11_touch 16 = .ok (.aload_n 0, 1) := by decide +kernel
theorem dX11_touch_17 : decode cX11_touch 17 = .ok (.getfield 80, 3) := by decide +kernel
theorem dX11_touch_20 : decode cX11_touch 20 = .ok (.aload_n 0, 1) := by decide +kernel
theorem dX11_touch_21 : decode cX11_touch 21 = .ok (.getfield 26, 3) := by decide +kernel
theorem dX11_touch_24 : decode cX11_touch 24 = .ok (.getfield 132, 3) := by decide +kernel
theorem dX11_touch_27 : decode cX11_touch 27 = .ok (.iload_n 1, 1) := by decide +kernel
theorem dX11_touch_28 : decode cX11_touch 28 = .ok (.invokevirtual 460, 3) := by decide +kernel
theorem dX11_touch_31 : decode cX11_touch 31 = .ok (.aload_n 0, 1) := by decide +kernel
theorem dX11_touch_32 : decode cX11_touch 32 = .ok (.getfield 80, 3) := by decide +kernel
theorem dX11_touch_35 : decode cX11_touch 35 = .ok (.getfield 463, 3) := by decide +kernel
theorem dX11_touch_38 : decode cX11_touch 38 = .ok (.ifCond .ne 6, 3) := by decide +kernel
theorem dX11_touch_41 : decode cX11_touch 41 = .ok (.bipush (-2), 2) := by decide +kernel
theorem dX11_touch_43 : decode cX11_touch 43 = .ok (.ireturn, 1) := by decide +kernel
theorem dX11_touch_44 : decode cX11_touch 44 = .ok (.iconst (-1), 1) := by decide +kernel
theorem dX11_touch_45 : decode cX11_touch 45 = .ok (.istore_n 2, 1) := by decide +kernel
theorem dX11_touch_46 : decode cX11_touch 46 = .ok (.iconst 0, 1) := by decide +kernel
theorem dX11_touch_47 : decode cX11_touch 47 = .ok (.istore_n 3, 1) := by decide +kernel
theorem dX11_touch_48 : decode cX11_touch 48 = .ok (.iconst 0, 1) := by decide +kernel
theorem dX11_touch_49 : decode cX11_touch 49 = .ok (.istore 4, 2) := by decide +kernel
theorem dX11_touch_51 : decode cX11_touch 51 = .ok (.iload 4, 2) := by decide +kernel
theorem dX11_touch_53 : decode cX11_touch 53 = .ok (.iconst 3, 1) := by decide +kernel
theorem dX11_touch_54 : decode cX11_touch 54 = .ok (.if_icmp .ge 82, 3) := by decide +kernel
theorem dX11_touch_57 : decode cX11_touch 57 = .ok (.aload_n 0, 1) := by decide +kernel
theorem dX11_touch_58 : decode cX11_touch 58 = .ok (.getfield 80, 3) := by decide +kernel
theorem dX11_touch_61 : decode cX11_touch 61 = .ok (.getfield 479, 3) := by decide +kernel
theorem dX11_touch_64 : decode cX11_touch 64 = .ok (.iload 4, 2) := by decide +kernel
theorem dX11_touch_66 : decode cX11_touch 66 = .ok (.iaload, 1) := by decide +kernel
theorem dX11_touch_67 : decode cX11_touch 67 = .ok (.aload_n 0, 1) := by decide +kernel
theorem dX11_touch_68 : decode cX11_touch 68 = .ok (.getfield 80, 3) := by decide +kernel
theorem dX11_touch_71 : decode cX11_touch 71 = .ok (.getfield 463, 3) := by decide +kernel
theorem dX11_touch_74 : decode cX11_touch 74 = .ok (.aload_n 0, 1) := by decide +kernel
theorem dX11_touch_75 : decode cX11_touch 75 = .ok (.getfield 80, 3) := by decide +kernel
theorem dX11_touch_78 : decode cX11_touch 78 = .ok (.getfield 479, 3) := by decide +kernel
theorem dX11_touch_81 : decode cX11_touch 81 = .ok (.iload 4, 2) := by decide +kernel
theorem dX11_touch_83 : decode cX11_touch 83 = .ok (.iaload, 1) := by decide +kernel
theorem dX11_touch_84 : decode cX11_touch 84 = .ok (.isub, 1) := by decide +kernel
theorem dX11_touch_85 : decode cX11_touch 85 = .ok (.invokestatic 435, 3) := by decide +kernel
theorem dX11_touch_88 : decode cX11_touch 88 = .ok (.istore 5, 2) := by decide +kernel
theorem dX11_touch_90 : decode cX11_touch 90 = .ok (.aload_n 0, 1) := by decide +kernel
theorem dX11_touch_91 : decode cX11_touch 91 = .ok (.getfield 26, 3) := by decide +kernel
theorem dX11_touch_94 : decode cX11_touch 94 = .ok (.getfield 132, 3) := by decide +kernel
theorem dX11_touch_97 : decode cX11_touch 97 = .ok (.iconst 3, 1) := by decide +kernel
theorem dX11_touch_98 : decode cX11_touch 98 = .ok (.iload_n 1, 1) := by decide +kernel
theorem dX11_touch_99 : decode cX11_touch 99 = .ok (.imul, 1) := by decide +kernel
theorem dX11_touch_100 : decode cX11_touch 100 = .ok (.iload 4, 2) := by decide +kernel
theorem dX11_touch_102 : decode cX11_touch 102 = .ok (.iadd, 1) := by decide +kernel
theorem dX11_touch_103 : decode cX11_touch 103 = .ok (.invokevirtual 165, 3) := by decide +kernel
theorem dX11_touch_106 : decode cX11_touch 106 = .ok (.ifCond .eq 24, 3) := by decide +kernel
theorem dX11_touch_109 : decode cX11_touch 109 = .ok (.iload_n 2, 1) := by decide +kernel
theorem dX11_touch_110 : decode cX11_touch 110 = .ok (.iconst (-1), 1) := by decide +kernel
theorem dX11_touch_111 : decode cX11_touch 111 = .ok (.if_icmp .eq 9, 3) := by decide +kernel
theorem dX11_touch_114 : decode cX11_touch 114 = .ok (.iload 5, 2) := by decide +kernel
theorem dX11_touch_116 : decode cX11_touch 116 = .ok (.iload_n 3, 1) := by decide +kernel
theorem dX11_touch_117 : decode cX11_touch 117 = .ok (.if_icmp .ge 13, 3) := by decide +kernel
theorem dX11_touch_120 : decode cX11_touch 120 = .ok (.iconst 3, 1) := by decide +kernel
theorem dX11_touch_121 : decode cX11_touch 121 = .ok (.iload_n 1, 1) := by decide +kernel
theorem dX11_touch_122 : decode cX11_touch 122 = .ok (.imul, 1) := by decide +kernel
theorem dX11_touch_123 : decode cX11_touch 123 = .ok (.iload 4, 2) := by decide +kernel
theorem dX11_touch_125 : decode cX11_touch 125 = .ok (.iadd, 1) := by decide +kernel
theorem dX11_touch_126 : decode cX11_touch 126 = .ok (.istore_n 2, 1) := by decide +kernel
theorem dX11_touch_127 : decode cX11_touch 127 = .ok (.iload 5, 2) := by decide +kernel
theorem dX11_touch_129 : decode cX11_touch 129 = .ok (.istore_n 3, 1) := by decide +kernel
theorem dX11_touch_130 : decode cX11_touch 130 = .ok (.iinc 4 1, 3) := by decide +kernel
theorem dX11_touch_133 : decode cX11_touch 133 = .ok (.goto (-82), 3) := by decide +kernel
theorem dX11_touch_136 : decode cX11_touch 136 = .ok (.aload_n 0, 1) := by decide +kernel
theorem dX11_touch_137 : decode cX11_touch 137 = .ok (.getfield 19, 3) := by decide +kernel
theorem dX11_touch_140 : decode cX11_touch 140 = .ok (.invokevirtual 244, 3) := by decide +kernel
theorem dX11_touch_143 : decode cX11_touch 143 = .ok (.aload_n 0, 1) := by decide +kernel
theorem dX11_touch_144 : decode cX11_touch 144 = .ok (.getfield 19, 3) := by decide +kernel
theorem dX11_touch_147 : decode cX11_touch 147 = .ok (.iload_n 3, 1) := by decide +kernel
theorem dX11_touch_148 : decode cX11_touch 148 = .ok (.i2l, 1) := by decide +kernel
theorem dX11_touch_149 : decode cX11_touch 149 = .ok (.invokevirtual 248, 3) := by decide +kernel
theorem dX11_touch_152 : decode cX11_touch 152 = .ok (.iload_n 2, 1) := by decide +kernel
theorem dX11_touch_153 : decode cX11_touch 153 = .ok (.ireturn, 1) := by decide +kernel
theorem dX11_keep_0 : decode cX11_keep 0 = .ok (.iload_n 1, 1) := by decide +kernel
theorem dX11_keep_1 : decode cX11_keep 1 = .ok (.ifCond .lt 8, 3) := by decide +kernel
theorem dX11_keep_4 : decode cX11_keep 4 = .ok (.iload_n 1, 1) := by decide +kernel
theorem dX11_keep_5 : decode cX11_keep 5 = .ok (.iconst 3, 1) := by decide +kernel
theorem dX11_keep_6 : decode cX11_keep 6 = .ok (.if_icmp .lt 5, 3) := by decide +kernel
theorem dX11_keep_9 : decode cX11_keep 9 = .ok (.iconst 0, 1) := by decide +kernel
theorem dX11_keep_10 : decode cX11_keep 10 = .ok (.ireturn, 1) := by decide +kernel
theorem dX11_keep_11 : decode cX11_keep 11 = .ok (.aload_n 0, 1) := by decide +kernel
theorem dX11_keep_12 : decode cX11_keep 12 = .ok (.getfield 37, 3) := by decide +kernel
theorem dX11_keep_15 : decode cX11_keep 15 = .ok (.iload_n 1, 1) := by decide +kernel
theorem dX11_keep_16 : decode cX11_keep 16 = .ok (.aaload, 1) := by decide +kernel
theorem dX11_keep_17 : decode cX11_keep 17 = .ok (.aload_n 0, 1) := by decide +kernel
theorem dX11_keep_18 : decode cX11_keep 18 = .ok (.getfield 26, 3) := by decide +kernel
theorem dX11_keep_21 : decode cX11_keep 21 = .ok (.invokevirtual 482, 3) := by decide +kernel
theorem dX11_keep_24 : decode cX11_keep 24 = .ok (.aload_n 0, 1) := by decide +kernel
theorem dX11_keep_25 : decode cX11_keep 25 = .ok (.getfield 41, 3) := by decide +kernel
theorem dX11_keep_28 : decode cX11_keep 28 = .ok (.iload_n 1, 1) := by decide +kernel
theorem dX11_keep_29 : decode cX11_keep 29 = .ok (.iconst 1, 1) := by decide +kernel
theorem dX11_keep_30 : decode cX11_keep 30 = .ok (.bastore, 1) := by decide +kernel
theorem dX11_keep_31 : decode cX11_keep 31 = .ok (.iconst 1, 1) := by decide +kernel
theorem dX11_keep_32 : decode cX11_keep 32 = .ok (.ireturn, 1) := by decide +kernel
theorem dX11_again_0 : decode cX11_again 0 = .ok (.iload_n 1, 1) := by decide +kernel
theorem dX11_again_1 : decode cX11_again 1 = .ok (.ifCond .lt 17, 3) := by decide +kernel
theorem dX11_again_4 : decode cX11_again 4 = .ok (.iload_n 1, 1) := by decide +kernel
theorem dX11_again_5 : decode cX11_again 5 = .ok (.iconst 3, 1) := by decide +kernel
theorem dX11_again_6 : decode cX11_again 6 = .ok (.if_icmp .ge 12, 3) := by decide +kernel
theorem dX11_again_9 : decode cX11_again 9 = .ok (.aload_n 0, 1) := by decide +kernel
theorem dX11_again_10 : decode cX11_again 10 = .ok (.getfield 41, 3) := by decide +kernel
theorem dX11_again_13 : decode cX11_again 13 = .ok (.iload_n 1, 1) := by decide +kernel
theorem dX11_again_14 : decode cX11_again 14 = .ok (.baload, 1) := by decide +kernel
theorem dX11_again_15 : decode cX11_again 15 = .ok (.ifCond .ne 5, 3) := by decide +kernel
theorem dX11_again_18 : decode cX11_again 18 = .ok (.iconst 0, 1) := by decide +kernel
theorem dX11_again_19 : decode cX11_again 19 = .ok (.ireturn, 1) := by decide +kernel
theorem dX11_again_20 : decode cX11_again 20 = .ok (.aload_n 0, 1) := by decide +kernel
theorem dX11_again_21 : decode cX11_again 21 = .ok (.getfield 26, 3) := by decide +kernel
theorem dX11_again_24 : decode cX11_again 24 = .ok (.aload_n 0, 1) := by decide +kernel
theorem dX11_again_25 : decode cX11_again 25 = .ok (.getfield 37, 3) := by decide +kernel
theorem dX11_again_28 : decode cX11_again 28 = .ok (.iload_n 1, 1) := by decide +kernel
theorem dX11_again_29 : decode cX11_again 29 = .ok (.aaload, 1) := by decide +kernel
theorem dX11_again_30 : decode cX11_again 30 = .ok (.invokevirtual 482, 3) := by decide +kernel
theorem dX11_again_33 : decode cX11_again 33 = .ok (.aload_n 0, 1) := by decide +kernel
theorem dX11_again_34 : decode cX11_again 34 = .ok (.getfield 26, 3) := by decide +kernel
theorem dX11_again_37 : decode cX11_again 37 = .ok (.aload_n 0, 1) := by decide +kernel
theorem dX11_again_38 : decode cX11_again 38 = .ok (.aload_n 0, 1) := by decide +kernel
theorem dX11_again_39 : decode cX11_again 39 = .ok (.getfield 26, 3) := by decide +kernel
theorem dX11_again_42 : decode cX11_again 42 = .ok (.getfield 159, 3) := by decide +kernel
theorem dX11_again_45 : decode cX11_again 45 = .ok (.invokevirtual 277, 3) := by decide +kernel
theorem dX11_again_48 : decode cX11_again 48 = .ok (.putfield 159, 3) := by decide +kernel
theorem dX11_again_51 : decode cX11_again 51 = .ok (.aload_n 0, 1) := by decide +kernel
theorem dX11_again_52 : decode cX11_again 52 = .ok (.getfield 80, 3) := by decide +kernel
theorem dX11_again_55 : decode cX11_again 55 = .ok (.invokevirtual 142, 3) := by decide +kernel
theorem dX11_again_58 : decode cX11_again 58 = .ok (.aload_n 0, 1) := by decide +kernel
theorem dX11_again_59 : decode cX11_again 59 = .ok (.getfield 33, 3) := by decide +kernel
theorem dX11_again_62 : decode cX11_again 62 = .ok (.invokevirtual 145, 3) := by decide +kernel
theorem dX11_again_65 : decode cX11_again 65 = .ok (.iconst 1, 1) := by decide +kernel
theorem dX11_again_66 : decode cX11_again 66 = .ok (.ireturn, 1) := by decide +kernel
theorem dX11_count_0 : decode cX11_count 0 = .ok (.aload_n 0, 1) := by decide +kernel
theorem dX11_count_1 : decode cX11_count 1 = .ok (.getfield 26, 3) := by decide +kernel
theorem dX11_count_4 : decode cX11_count 4 = .ok (.getfield 132, 3) := by decide +kernel
theorem dX11_count_7 : decode cX11_count 7 = .ok (.astore_n 2, 1) := by decide +kernel
theorem dX11_count_8 : decode cX11_count 8 = .ok (.iload_n 1, 1) := by decide +kernel
theorem dX11_count_9 : decode cX11_count 9 = .ok (.tableswitch 180 0 12 #[67, 72, 78, 91, 96, 104, 120, 128, 138, 148, 156, 164, 172], 67) := by decide +kernel
theorem dX11_count_76 : decode cX11_count 76 = .ok (.aload_n 2, 1) := by decide +kernel
theorem dX11_count_77 : decode cX11_count 77 = .ok (.getfield 147, 3) := by decide +kernel
theorem dX11_count_80 : decode cX11_count 80 = .ok (.ireturn, 1) := by decide +kernel
theorem dX11_count_81 : decode cX11_count 81 = .ok (.aload_n 2, 1) := by decide +kernel
theorem dX11_count_82 : decode cX11_count 82 = .ok (.iconst (-1), 1) := by decide +kernel
theorem dX11_count_83 : decode cX11_count 83 = .ok (.invokevirtual 181, 3) := by decide +kernel
theorem dX11_count_86 : decode cX11_count 86 = .ok (.ireturn, 1) := by decide +kernel
theorem dX11_count_87 : decode cX11_count 87 = .ok (.iconst 3, 1) := by decide +kernel
theorem dX11_count_88 : decode cX11_count 88 = .ok (.aload_n 2, 1) := by decide +kernel
theorem dX11_count_89 : decode cX11_count 89 = .ok (.getfield 147, 3) := by decide +kernel
theorem dX11_count_92 : decode cX11_count 92 = .ok (.imul, 1) := by decide +kernel
theorem dX11_count_93 : decode cX11_count 93 = .ok (.aload_n 2, 1) := by decide +kernel
theorem dX11_count_94 : decode cX11_count 94 = .ok (.iconst (-1), 1) := by decide +kernel
theorem dX11_count_95 : decode cX11_count 95 = .ok (.invokevirtual 181, 3) := by decide +kernel
theorem dX11_count_98 : decode cX11_count 98 = .ok (.isub, 1) := by decide +kernel
theorem dX11_count_99 : decode cX11_count 99 = .ok (.ireturn, 1) := by decide +kernel
theorem dX11_count_100 : decode cX11_count 100 = .ok (.aload_n 0, 1) := by decide +kernel
theorem dX11_count_101 : decode cX11_count 101 = .ok (.getfield 108, 3) := by decide +kernel
theorem dX11_count_104 : decode cX11_count 104 = .ok (.ireturn, 1) := by decide +kernel
theorem dX11_count_105 : decode cX11_count 105 = .ok (.aload_n 0, 1) := by decide +kernel
theorem dX11_count_106 : decode cX11_count 106 = .ok (.getfield 26, 3) := by decide +kernel
theorem dX11_count_109 : decode cX11_count 109 = .ok (.getfield 159, 3) := by decide +kernel
theorem dX11_count_112 : decode cX11_count 112 = .ok (.ireturn, 1) := by decide +kernel
theorem dX11_count_113 : decode cX11_count 113 = .ok (.aload_n 0, 1) := by decide +kernel
theorem dX11_count_114 : decode cX11_count 114 = .ok (.getfield 26, 3) := by decide +kernel
theorem dX11_count_117 : decode cX11_count 117 = .ok (.invokevirtual 273, 3) := by decide +kernel
theorem dX11_count_120 : decode cX11_count 120 = .ok (.ifCond .eq 7, 3) := by decide +kernel
theorem dX11_count_123 : decode cX11_count 123 = .ok (.iconst 1, 1) := by decide +kernel
theorem dX11_count_124 : decode cX11_count 124 = .ok (.goto 4, 3) := by decide +kernel
theorem dX11_count_127 : decode cX11_count 127 = .ok (.iconst 0, 1) := by decide +kernel
theorem dX11_count_128 : decode cX11_count 128 = .ok (.ireturn, 1) := by decide +kernel
theorem dX11_count_129 : decode cX11_count 129 = .ok (.aload_n 0, 1) := by decide +kernel
theorem dX11_count_130 : decode cX11_count 130 = .ok (.getfield 26, 3) := by decide +kernel
theorem dX11_count_133 : decode cX11_count 133 = .ok (.getfield 484, 3) := by decide +kernel
theorem dX11_count_136 : decode cX11_count 136 = .ok (.ireturn, 1) := by decide +kernel
theorem dX11_count_137 : decode cX11_count 137 = .ok (.aload_n 0, 1) := by decide +kernel
theorem dX11_count_138 : decode cX11_count 138 = .ok (.getfield 48, 3) := by decide +kernel
theorem dX11_count_141 : decode cX11_count 141 = .ok (.getfield 240, 3) := by decide +kernel
theorem dX11_count_144 : decode cX11_count 144 = .ok (.iconst 0, 1) := by decide +kernel
theorem dX11_count_145 : decode cX11_count 145 = .ok (.iaload, 1) := by decide +kernel
theorem dX11_count_146 : decode cX11_count 146 = .ok (.ireturn, 1) := by decide +kernel
theorem dX11_count_147 : decode cX11_count 147 = .ok (.aload_n 0, 1) := by decide +kernel
theorem dX11_count_148 : decode cX11_count 148 = .ok (.getfield 48, 3) := by decide +kernel
theorem dX11_count_151 : decode cX11_count 151 = .ok (.getfield 240, 3) := by decide +kernel
theorem dX11_count_154 : decode cX11_count 154 = .ok (.iconst 1, 1) := by decide +kernel
theorem dX11_count_155 : decode cX11_count 155 = .ok (.iaload, 1) := by decide +kernel
theorem dX11_count_156 : decode cX11_count 156 = .ok (.ireturn, 1) := by decide +kernel
theorem dX11_count_157 : decode cX11_count 157 = .ok (.aload_n 0, 1) := by decide +kernel
theorem dX11_count_158 : decode cX11_count 158 = .ok (.getfield 33, 3) := by decide +kernel
theorem dX11_count_161 : decode cX11_count 161 = .ok (.getfield 364, 3) := by decide +kernel
theorem dX11_count_164 : decode cX11_count 164 = .ok (.ireturn, 1) := by decide +kernel
theorem dX11_count_165 : decode cX11_count 165 = .ok (.aload_n 0, 1) := by decide +kernel
theorem dX11_count_166 : decode cX11_count 166 = .ok (.getfield 80, 3) := by decide +kernel
theorem dX11_count_169 : decode cX11_count 169 = .ok (.getfield 453, 3) := by decide +kernel
theorem dX11_count_172 : decode cX11_count 172 = .ok (.ireturn, 1) := by decide +kernel
theorem dX11_count_173 : decode cX11_count 173 = .ok (.aload_n 0, 1) := by decide +kernel
theorem dX11_count_174 : decode cX11_count 174 = .ok (.getfield 19, 3) := by decide +kernel
theorem dX11_count_177 : decode cX11_count 177 = .ok (.getfield 487, 3) := by decide +kernel
theorem dX11_count_180 : decode cX11_count 180 = .ok (.ireturn, 1) := by decide +kernel
theorem dX11_count_181 : decode cX11_count 181 = .ok (.aload_n 0, 1) := by decide +kernel
theorem dX11_count_182 : decode cX11_count 182 = .ok (.getfield 12, 3) := by decide +kernel
theorem dX11_count_185 : decode cX11_count 185 = .ok (.getfield 122, 3) := by decide +kernel
theorem dX11_count_188 : decode cX11_count 188 = .ok (.ireturn, 1) := by decide +kernel
theorem dX11_count_189 : decode cX11_count 189 = .ok (.bipush (-100), 2) := by decide +kernel
theorem dX11_count_191 : decode cX11_count 191 = .ok (.ireturn, 1) := by decide +kernel
theorem dX11_row_0 : decode cX11_row 0 = .ok (.iload_n 1, 1) := by decide +kernel
theorem dX11_row_1 : decode cX11_row 1 = .ok (.ifCond .lt 14, 3) := by decide +kernel
theorem dX11_row_4 : decode cX11_row 4 = .ok (.iload_n 1, 1) := by decide +kernel
theorem dX11_row_5 : decode cX11_row 5 = .ok (.aload_n 0, 1) := by decide +kernel
theorem dX11_row_6 : decode cX11_row 6 = .ok (.getfield 19, 3) := by decide +kernel
theorem dX11_row_9 : decode cX11_row 9 = .ok (.getfield 487, 3) := by decide +kernel
theorem dX11_row_12 : decode cX11_row 12 = .ok (.if_icmp .lt 14, 3) := by decide +kernel
theorem dX11_row_15 : decode cX11_row 15 = .ok (.new 168, 3) := by decide +kernel
theorem dX11_row_18 : decode cX11_row 18 = .ok (.dup, 1) := by decide +kernel
theorem dX11_row_19 : decode cX11_row 19 = .ok (.ldc_w 488, 3) := by decide +kernel
theorem dX11_row_22 : decode cX11_row 22 = .ok (.invokespecial 172, 3) := by decide +kernel
theorem dX11_row_25 : decode cX11_row 25 = .ok (.athrow, 1) := by decide +kernel
theorem dX11_row_26 : decode cX11_row 26 = .ok (.aload_n 0, 1) := by decide +kernel
theorem dX11_row_27 : decode cX11_row 27 = .ok (.getfield 19, 3) := by decide +kernel
theorem dX11_row_30 : decode cX11_row 30 = .ok (.getfield 490, 3) := by decide +kernel
theorem dX11_row_33 : decode cX11_row 33 = .ok (.iload_n 1, 1) := by decide +kernel
theorem dX11_row_34 : decode cX11_row 34 = .ok (.laload, 1) := by decide +kernel
theorem dX11_row_35 : decode cX11_row 35 = .ok (.lreturn, 1) := by decide +kernel
theorem dX12_thrown_0 : decode cX12_thrown 0 = .ok (.aload_n 0, 1) := by decide +kernel
theorem dX12_thrown_1 : decode cX12_thrown 1 = .ok (.getfield 3, 3) := by decide +kernel
theorem dX12_thrown_4 : decode cX12_thrown 4 = .ok (.ireturn, 1) := by decide +kernel
theorem dX12_refuse_0 : decode cX12_refuse 0 = .ok (.aload_n 0, 1) := by decide +kernel
theorem dX12_refuse_1 : decode cX12_refuse 1 = .ok (.iconst 1, 1) := by decide +kernel
theorem dX12_refuse_2 : decode cX12_refuse 2 = .ok (.putfield 3, 3) := by decide +kernel
theorem dX12_refuse_5 : decode cX12_refuse 5 = .ok (.iconst 0, 1) := by decide +kernel
theorem dX12_refuse_6 : decode cX12_refuse 6 = .ok (.ireturn, 1) := by decide +kernel
theorem dX12_in_0 : decode cX12_in 0 = .ok (.lload_n 0, 1) := by decide +kernel
theorem dX12_in_1 : decode cX12_in 1 = .ok (.lload_n 2, 1) := by decide +kernel
theorem dX12_in_2 : decode cX12_in 2 = .ok (.lcmp, 1) := by decide +kernel
theorem dX12_in_3 : decode cX12_in 3 = .ok (.ifCond .lt 14, 3) := by decide +kernel
theorem dX12_in_6 : decode cX12_in 6 = .ok (.lload_n 0, 1) := by decide +kernel
theorem dX12_in_7 : decode cX12_in 7 = .ok (.lload 4, 2) := by decide +kernel
theorem dX12_in_9 : decode cX12_in 9 = .ok (.lcmp, 1) := by decide +kernel
theorem dX12_in_10 : decode cX12_in 10 = .ok (.ifCond .gt 7, 3) := by decide +kernel
theorem dX12_in_13 : decode cX12_in 13 = .ok (.iconst 1, 1) := by decide +kernel
theorem dX12_in_14 : decode cX12_in 14 = .ok (.goto 4, 3) := by decide +kernel
theorem dX12_in_17 : decode cX12_in 17 = .ok (.iconst 0, 1) := by decide +kernel
theorem dX12_in_18 : decode cX12_in 18 = .ok (.ireturn, 1) := by decide +kernel
theorem dX12_flag_0 : decode cX12_flag 0 = .ok (.iload_n 0, 1) := by decide +kernel
theorem dX12_flag_1 : decode cX12_flag 1 = .ok (.ifCond .eq 7, 3) := by decide +kernel
theorem dX12_flag_4 : decode cX12_flag 4 = .ok (.iconst 1, 1) := by decide +kernel
theorem dX12_flag_5 : decode cX12_flag 5 = .ok (.goto 4, 3) := by decide +kernel
theorem dX12_flag_8 : decode cX12_flag 8 = .ok (.iconst 0, 1) := by decide +kernel
theorem dX12_flag_9 : decode cX12_flag 9 = .ok (.ireturn, 1) := by decide +kernel
theorem dX12_common_0 : decode cX12_common 0 = .ok (.lload_n 2, 1) := by decide +kernel
theorem dX12_common_1 : decode cX12_common 1 = .ok (.lconst 0, 1) := by decide +kernel
theorem dX12_common_2 : decode cX12_common 2 = .ok (.lcmp, 1) := by decide +kernel
theorem dX12_common_3 : decode cX12_common 3 = .ok (.ifCond .ne 7, 3) := by decide +kernel
theorem dX12_common_6 : decode cX12_common 6 = .ok (.lload_n 0, 1) := by decide +kernel
theorem dX12_common_7 : decode cX12_common 7 = .ok (.goto 10, 3) := by decide +kernel
theorem dX12_common_10 : decode cX12_common 10 = .ok (.lload_n 2, 1) := by decide +kernel
theorem dX12_common_11 : decode cX12_common 11 = .ok (.lload_n 0, 1) := by decide +kernel
theorem dX12_common_12 : decode cX12_common 12 = .ok (.lload_n 2, 1) := by decide +kernel
theorem dX12_common_13 : decode cX12_common 13 = .ok (.lrem, 1) := by decide +kernel
theorem dX12_common_14 : decode cX12_common 14 = .ok (.invokestatic 7, 3) := by decide +kernel
theorem dX12_common_17 : decode cX12_common 17 = .ok (.lreturn, 1) := by decide +kernel
theorem dX12_enters_0 : decode cX12_enters 0 = .ok (.aload_n 0, 1) := by decide +kernel
theorem dX12_enters_1 : decode cX12_enters 1 = .ok (.getfield 11, 3) := by decide +kernel
theorem dX12_enters_4 : decode cX12_enters 4 = .ok (.aload_n 0, 1) := by decide +kernel
theorem dX12_enters_5 : decode cX12_enters 5 = .ok (.getfield 15, 3) := by decide +kernel
theorem dX12_enters_8 : decode cX12_enters 8 = .ok (.lload_n 1, 1) := by decide +kernel
theorem dX12_enters_9 : decode cX12_enters 9 = .ok (.lastore, 1) := by decide +kernel
theorem dX12_enters_10 : decode cX12_enters 10 = .ok (.aload_n 0, 1) := by decide +kernel
theorem dX12_enters_11 : decode cX12_enters 11 = .ok (.dup, 1) := by decide +kernel
theorem dX12_enters_12 : decode cX12_enters 12 = .ok (.getfield 15, 3) := by decide +kernel
theorem dX12_enters_15 : decode cX12_enters 15 = .ok (.iconst 1, 1) := by decide +kernel
theorem dX12_enters_16 : decode cX12_enters 16 = .ok (.iadd, 1) := by decide +kernel
theorem dX12_enters_17 : decode cX12_enters 17 = .ok (.putfield 15, 3) := by decide +kernel
theorem dX12_enters_20 : decode cX12_enters 20 = .ok (.return_, 1) := by decide +kernel
theorem dX12_init_0 : decode cX12_init 0 = .ok (.aload_n 0, 1) := by decide +kernel
theorem dX12_init_1 : decode cX12_init 1 = .ok (.invokespecial 18, 3) := by decide +kernel
theorem dX12_init_4 : decode cX12_init 4 = .ok (.aload_n 0, 1) := by decide +kernel
theorem dX12_init_5 : decode cX12_init 5 = .ok (.bipush 24, 2) := by decide +kernel
theorem dX12_init_7 : decode cX12_init 7 = .ok (.newarray .long, 2) := by decide +kernel
theorem dX12_init_9 : decode cX12_init 9 = .ok (.putfield 11, 3) := by decide +kernel
theorem dX12_init_12 : decode cX12_init 12 = .ok (.aload_n 0, 1) := by decide +kernel
theorem dX12_init_13 : decode cX12_init 13 = .ok (.bipush 54, 2) := by decide +kernel
theorem dX12_init_15 : decode cX12_init 15 = .ok (.newarray .int, 2) := by decide +kernel
theorem dX12_init_17 : decode cX12_init 17 = .ok (.putfield 24, 3) := by decide +kernel
theorem dX12_init_20 : decode cX12_init 20 = .ok (.aload_n 0, 1) := by decide +kernel
theorem dX12_init_21 : decode cX12_init 21 = .ok (.bipush 54, 2) := by decide +kernel
theorem dX12_init_23 : decode cX12_init 23 = .ok (.newarray .int, 2) := by decide +kernel
theorem dX12_init_25 : decode cX12_init 25 = .ok (.putfield 28, 3) := by decide +kernel
theorem dX12_init_28 : decode cX12_init 28 = .ok (.aload_n 0, 1) := by decide +kernel
theorem dX12_init_29 : decode cX12_init 29 = .ok (.iconst 4, 1) := by decide +kernel
theorem dX12_init_30 : decode cX12_init 30 = .ok (.newarray .int, 2) := by decide +kernel
theorem dX12_init_32 : decode cX12_init 32 = .ok (.dup, 1) := by decide +kernel
theorem dX12_init_33 : decode cX12_init 33 = .ok (.iconst 0, 1) := by decide +kernel
theorem dX12_init_34 : decode cX12_init 34 = .ok (.iconst 1, 1) := by decide +kernel
theorem dX12_init_35 : decode cX12_init 35 = .ok (.iastore, 1) := by decide +kernel
theorem dX12_init_36 : decode cX12_init 36 = .ok (.dup, 1) := by decide +kernel
theorem dX12_init_37 : decode cX12_init 37 = .ok (.iconst 1, 1) := by decide +kernel
theorem dX12_init_38 : decode cX12_init 38 = .ok (.iconst 1, 1) := by decide +kernel
theorem dX12_init_39 : decode cX12_init 39 = .ok (.iastore, 1) := by decide +kernel
theorem dX12_init_40 : decode cX12_init 40 = .ok (.dup, 1) := by decide +kernel
theorem dX12_init_41 : decode cX12_init 41 = .ok (.iconst 2, 1) := by decide +kernel
theorem dX12_init_42 : decode cX12_init 42 = .ok (.iconst 0, 1) := by decide +kernel
theorem dX12_init_43 : decode cX12_init 43 = .ok (.iastore, 1) := by decide +kernel
theorem dX12_init_44 : decode cX12_init 44 = .ok (.dup, 1) := by decide +kernel
theorem dX12_init_45 : decode cX12_init 45 = .ok (.iconst 3, 1) := by decide +kernel
theorem dX12_init_46 : decode cX12_init 46 = .ok (.iconst 0, 1) := by decide +kernel
theorem dX12_init_47 : decode cX12_init 47 = .ok (.iastore, 1) := by decide +kernel
theorem dX12_init_48 : decode cX12_init 48 = .ok (.putfield 31, 3) := by decide +kernel
theorem dX12_init_51 : decode cX12_init 51 = .ok (.aload_n 0, 1) := by decide +kernel
theorem dX12_init_52 : decode cX12_init 52 = .ok (.iconst 2, 1) := by decide +kernel
theorem dX12_init_53 : decode cX12_init 53 = .ok (.putfield 34, 3) := by decide +kernel
theorem dX12_init_56 : decode cX12_init 56 = .ok (.aload_n 0, 1) := by decide +kernel
theorem dX12_init_57 : decode cX12_init 57 = .ok (.bipush 80, 2) := by decide +kernel
theorem dX12_init_59 : decode cX12_init 59 = .ok (.newarray .int, 2) := by decide +kernel
theorem dX12_init_61 : decode cX12_init 61 = .ok (.putfield 37, 3) := by decide +kernel
theorem dX12_init_64 : decode cX12_init 64 = .ok (.aload_n 0, 1) := by decide +kernel
theorem dX12_init_65 : decode cX12_init 65 = .ok (.bipush 48, 2) := by decide +kernel
theorem dX12_init_67 : decode cX12_init 67 = .ok (.newarray .int, 2) := by decide +kernel
theorem dX12_init_69 : decode cX12_init 69 = .ok (.putfield 40, 3) := by decide +kernel
theorem dX12_init_72 : decode cX12_init 72 = .ok (.aload_n 0, 1) := by decide +kernel
theorem dX12_init_73 : decode cX12_init 73 = .ok (.bipush 80, 2) := by decide +kernel
theorem dX12_init_75 : decode cX12_init 75 = .ok (.newarray .int, 2) := by decide +kernel
theorem dX12_init_77 : decode cX12_init 77 = .ok (.putfield 43, 3) := by decide +kernel
theorem dX12_init_80 : decode cX12_init 80 = .ok (.aload_n 0, 1) := by decide +kernel
theorem dX12_init_81 : decode cX12_init 81 = .ok (.bipush 80, 2) := by decide +kernel
theorem dX12_init_83 : decode cX12_init 83 = .ok (.newarray .int, 2) := by decide +kernel
theorem dX12_init_85 : decode cX12_init 85 = .ok (.putfield 46, 3) := by decide +kernel
theorem dX12_init_88 : decode cX12_init 88 = .ok (.aload_n 0, 1) := by decide +kernel
theorem dX12_init_89 : decode cX12_init 89 = .ok (.bipush 80, 2) := by decide +kernel
theorem dX12_init_91 : decode cX12_init 91 = .ok (.newarray .int, 2) := by decide +kernel
theorem dX12_init_93 : decode cX12_init 93 = .ok (.putfield 49, 3) := by decide +kernel
theorem dX12_init_96 : decode cX12_init 96 = .ok (.aload_n 0, 1) := by decide +kernel
theorem dX12_init_97 : decode cX12_init 97 = .ok (.bipush 16, 2) := by decide +kernel
theorem dX12_init_99 : decode cX12_init 99 = .ok (.newarray .int, 2) := by decide +kernel
theorem dX12_init_101 : decode cX12_init 101 = .ok (.putfield 52, 3) := by decide +kernel
theorem dX12_init_104 : decode cX12_init 104 = .ok (.aload_n 0, 1) := by decide +kernel
theorem dX12_init_105 : decode cX12_init 105 = .ok (.bipush 16, 2) := by decide +kernel
theorem dX12_init_107 : decode cX12_init 107 = .ok (.newarray .int, 2) := by decide +kernel
theorem dX12_init_109 : decode cX12_init 109 = .ok (.putfield 55, 3) := by decide +kernel
theorem dX12_init_112 : decode cX12_init 112 = .ok (.aload_n 0, 1) := by decide +kernel
theorem dX12_init_113 : decode cX12_init 113 = .ok (.bipush 16, 2) := by decide +kernel
theorem dX12_init_115 : decode cX12_init 115 = .ok (.newarray .int, 2) := by decide +kernel
theorem dX12_init_117 : decode cX12_init 117 = .ok (.putfield 58, 3) := by decide +kernel
theorem dX12_init_120 : decode cX12_init 120 = .ok (.aload_n 0, 1) := by decide +kernel
theorem dX12_init_121 : decode cX12_init 121 = .ok (.bipush 54, 2) := by decide +kernel
theorem dX12_init_123 : decode cX12_init 123 = .ok (.newarray .int, 2) := by decide +kernel
theorem dX12_init_125 : decode cX12_init 125 = .ok (.putfield 61, 3) := by decide +kernel
theorem dX12_init_128 : decode cX12_init 128 = .ok (.aload_n 0, 1) := by decide +kernel
theorem dX12_init_129 : decode cX12_init 129 = .ok (.bipush 54, 2) := by decide +kernel
theorem dX12_init_131 : decode cX12_init 131 = .ok (.newarray .int, 2) := by decide +kernel
theorem dX12_init_133 : decode cX12_init 133 = .ok (.putfield 64, 3) := by decide +kernel
theorem dX12_init_136 : decode cX12_init 136 = .ok (.aload_n 0, 1) := by decide +kernel
theorem dX12_init_137 : decode cX12_init 137 = .ok (.sipush 864, 3) := by decide +kernel
theorem dX12_init_140 : decode cX12_init 140 = .ok (.newarray .int, 2) := by decide +kernel
theorem dX12_init_142 : decode cX12_init 142 = .ok (.putfield 67, 3) := by decide +kernel
theorem dX12_init_145 : decode cX12_init 145 = .ok (.aload_n 0, 1) := by decide +kernel
theorem dX12_init_146 : decode cX12_init 146 = .ok (.bipush 70, 2) := by decide +kernel
theorem dX12_init_148 : decode cX12_init 148 = .ok (.newarray .int, 2) := by decide +kernel
theorem dX12_init_150 : decode cX12_init 150 = .ok (.putfield 70, 3) := by decide +kernel
theorem dX12_init_153 : decode cX12_init 153 = .ok (.aload_n 0, 1) := by decide +kernel
theorem dX12_init_154 : decode cX12_init 154 = .ok (.sipush 21600, 3) := by decide +kernel
theorem dX12_init_157 : decode cX12_init 157 = .ok (.newarray .int, 2) := by decide +kernel
theorem dX12_init_159 : decode cX12_init 159 = .ok (.putfield 73, 3) := by decide +kernel
theorem dX12_init_162 : decode cX12_init 162 = .ok (.aload_n 0, 1) := by decide +kernel
theorem dX12_init_163 : decode cX12_init 163 = .ok (.sipush 400, 3) := by decide +kernel
theorem dX12_init_166 : decode cX12_init 166 = .ok (.newarray .int, 2) := by decide +kernel
theorem dX12_init_168 : decode cX12_init 168 = .ok (.putfield 76, 3) := by decide +kernel
theorem dX12_init_171 : decode cX12_init 171 = .ok (.aload_n 0, 1) := by decide +kernel
theorem dX12_init_172 : decode cX12_init 172 = .ok (.sipush 400, 3) := by decide +kernel
theorem dX12_init_175 : decode cX12_init 175 = .ok (.newarray .int, 2) := by decide +kernel
theorem dX12_init_177 : decode cX12_init 177 = .ok (.putfield 79, 3) := by decide +kernel
theorem dX12_init_180 : decode cX12_init 180 = .ok (.aload_n 0, 1) := by decide +kernel
theorem dX12_init_181 : decode cX12_init 181 = .ok (.sipush 400, 3) := by decide +kernel
theorem dX12_init_184 : decode cX12_init 184 = .ok (.newarray .int, 2) := by decide +kernel
theorem dX12_init_186 : decode cX12_init 186 = .ok (.putfield 82, 3) := by decide +kernel
theorem dX12_init_189 : decode cX12_init 189 = .ok (.aload_n 0, 1) := by decide +kernel
theorem dX12_init_190 : decode cX12_init 190 = .ok (.sipush 2048, 3) := by decide +kernel
theorem dX12_init_193 : decode cX12_init 193 = .ok (.newarray .int, 2) := by decide +kernel
theorem dX12_init_195 : decode cX12_init 195 = .ok (.putfield 85, 3) := by decide +kernel
theorem dX12_init_198 : decode cX12_init 198 = .ok (.aload_n 0, 1) := by decide +kernel
theorem dX12_init_199 : decode cX12_init 199 = .ok (.bipush 54, 2) := by decide +kernel
theorem dX12_init_201 : decode cX12_init 201 = .ok (.newarray .int, 2) := by decide +kernel
theorem dX12_init_203 : decode cX12_init 203 = .ok (.putfield 88, 3) := by decide +kernel
theorem dX12_init_206 : decode cX12_init 206 = .ok (.aload_n 0, 1) := by decide +kernel
theorem dX12_init_207 : decode cX12_init 207 = .ok (.sipush 400, 3) := by decide +kernel
theorem dX12_init_210 : decode cX12_init 210 = .ok (.newarray .int, 2) := by decide +kernel
theorem dX12_init_212 : decode cX12_init 212 = .ok (.putfield 91, 3) := by decide +kernel
theorem dX12_init_215 : decode cX12_init 215 = .ok (.aload_n 0, 1) := by decide +kernel
theorem dX12_init_216 : decode cX12_init 216 = .ok (.sipush 400, 3) := by decide +kernel
theorem dX12_init_219 : decode cX12_init 219 = .ok (.newarray .int, 2) := by decide +kernel
theorem dX12_init_221 : decode cX12_init 221 = .ok (.putfield 94, 3) := by decide +kernel
theorem dX12_init_224 : decode cX12_init 224 = .ok (.aload_n 0, 1) := by decide +kernel
theorem dX12_init_225 : decode cX12_init 225 = .ok (.sipush 400, 3) := by decide +kernel
theorem dX12_init_228 : decode cX12_init 228 = .ok (.newarray .int, 2) := by decide +kernel
theorem dX12_init_230 : decode cX12_init 230 = .ok (.putfield 97, 3) := by decide +kernel
theorem dX12_init_233 : decode cX12_init 233 = .ok (.aload_n 0, 1) := by decide +kernel
theorem dX12_init_234 : decode cX12_init 234 = .ok (.iconst 4, 1) := by decide +kernel
theorem dX12_init_235 : decode cX12_init 235 = .ok (.newarray .int, 2) := by decide +kernel
theorem dX12_init_237 : decode cX12_init 237 = .ok (.putfield 100, 3) := by decide +kernel
theorem dX12_init_240 : decode cX12_init 240 = .ok (.aload_n 0, 1) := by decide +kernel
theorem dX12_init_241 : decode cX12_init 241 = .ok (.bipush 20, 2) := by decide +kernel
theorem dX12_init_243 : decode cX12_init 243 = .ok (.newarray .int, 2) := by decide +kernel
theorem dX12_init_245 : decode cX12_init 245 = .ok (.putfield 103, 3) := by decide +kernel
theorem dX12_init_248 : decode cX12_init 248 = .ok (.aload_n 0, 1) := by decide +kernel
theorem dX12_init_249 : decode cX12_init 249 = .ok (.bipush 20, 2) := by decide +kernel
theorem dX12_init_251 : decode cX12_init 251 = .ok (.newarray .int, 2) := by decide +kernel
theorem dX12_init_253 : decode cX12_init 253 = .ok (.putfield 106, 3) := by decide +kernel
theorem dX12_init_256 : decode cX12_init 256 = .ok (.aload_n 0, 1) := by decide +kernel
theorem dX12_init_257 : decode cX12_init 257 = .ok (.bipush 48, 2) := by decide +kernel
theorem dX12_init_259 : decode cX12_init 259 = .ok (.newarray .int, 2) := by decide +kernel
theorem dX12_init_261 : decode cX12_init 261 = .ok (.putfield 109, 3) := by decide +kernel
theorem dX12_init_264 : decode cX12_init 264 = .ok (.aload_n 0, 1) := by decide +kernel
theorem dX12_init_265 : decode cX12_init 265 = .ok (.bipush 48, 2) := by decide +kernel
theorem dX12_init_267 : decode cX12_init 267 = .ok (.newarray .int, 2) := by decide +kernel
theorem dX12_init_269 : decode cX12_init 269 = .ok (.putfield 112, 3) := by decide +kernel
theorem dX12_init_272 : decode cX12_init 272 = .ok (.aload_n 0, 1) := by decide +kernel
theorem dX12_init_273 : decode cX12_init 273 = .ok (.sipush 1000, 3) := by decide +kernel
theorem dX12_init_276 : decode cX12_init 276 = .ok (.newarray .int, 2) := by decide +kernel
theorem dX12_init_278 : decode cX12_init 278 = .ok (.putfield 115, 3) := by decide +kernel
theorem dX12_init_281 : decode cX12_init 281 = .ok (.aload_n 0, 1) := by decide +kernel
theorem dX12_init_282 : decode cX12_init 282 = .ok (.iconst 3, 1) := by decide +kernel
theorem dX12_init_283 : decode cX12_init 283 = .ok (.newarray .boolean, 2) := by decide +kernel
theorem dX12_init_285 : decode cX12_init 285 = .ok (.putfield 118, 3) := by decide +kernel
theorem dX12_init_288 : decode cX12_init 288 = .ok (.aload_n 0, 1) := by decide +kernel
theorem dX12_init_289 : decode cX12_init 289 = .ok (.sipush 162, 3) := by decide +kernel
theorem dX12_init_292 : decode cX12_init 292 = .ok (.newarray .int, 2) := by decide +kernel
theorem dX12_init_294 : decode cX12_init 294 = .ok (.putfield 122, 3) := by decide +kernel
theorem dX12_init_297 : decode cX12_init 297 = .ok (.aload_n 0, 1) := by decide +kernel
theorem dX12_init_298 : decode cX12_init 298 = .ok (.getfield 24, 3) := by decide +kernel
theorem dX12_init_301 : decode cX12_init 301 = .ok (.invokestatic 125, 3) := by decide +kernel
theorem dX12_init_304 : decode cX12_init 304 = .ok (.aload_n 0, 1) := by decide +kernel
theorem dX12_init_305 : decode cX12_init 305 = .ok (.invokevirtual 129, 3) := by decide +kernel
theorem dX12_init_308 : decode cX12_init 308 = .ok (.pop, 1) := by decide +kernel
theorem dX12_init_309 : decode cX12_init 309 = .ok (.return_, 1) := by decide +kernel
theorem dX12_empties_0 : decode cX12_empties 0 = .ok (.iconst 0, 1) := by decide +kernel
theorem dX12_empties_1 : decode cX12_empties 1 = .ok (.istore_n 1, 1) := by decide +kernel
theorem dX12_empties_2 : decode cX12_empties 2 = .ok (.iload_n 1, 1) := by decide +kernel
theorem dX12_empties_3 : decode cX12_empties 3 = .ok (.bipush 48, 2) := by decide +kernel
theorem dX12_empties_5 : decode cX12_empties 5 = .ok (.if_icmp .ge 13, 3) := by decide +kernel
theorem dX12_empties_8 : decode cX12_empties 8 = .ok (.aload_n 0, 1) := by decide +kernel
theorem dX12_empties_9 : decode cX12_empties 9 = .ok (.iload_n 1, 1) := by decide +kernel
theorem dX12_empties_10 : decode cX12_empties 10 = .ok (.iconst (-1), 1) := by decide +kernel
theorem dX12_empties_11 : decode cX12_empties 11 = .ok (.iastore, 1) := by decide +kernel
theorem dX12_empties_12 : decode cX12_empties 12 = .ok (.iinc 1 1, 3) := by decide +kernel
theorem dX12_empties_15 : decode cX12_empties 15 = .ok (.goto (-13), 3) := by decide +kernel
theorem dX12_empties_18 : decode cX12_empties 18 = .ok (.bipush 48, 2) := by decide +kernel
theorem dX12_empties_20 : decode cX12_empties 20 = .ok (.istore_n 1, 1) := by decide +kernel
theorem dX12_empties_21 : decode cX12_empties 21 = .ok (.iload_n 1, 1) := by decide +kernel
theorem dX12_empties_22 : decode cX12_empties 22 = .ok (.bipush 54, 2) := by decide +kernel
theorem dX12_empties_24 : decode cX12_empties 24 = .ok (.if_icmp .ge 13, 3) := by decide +kernel
theorem dX12_empties_27 : decode cX12_empties 27 = .ok (.aload_n 0, 1) := by decide +kernel
theorem dX12_empties_28 : decode cX12_empties 28 = .ok (.iload_n 1, 1) := by decide +kernel
theorem dX12_empties_29 : decode cX12_empties 29 = .ok (.iconst 0, 1) := by decide +kernel
theorem dX12_empties_30 : decode cX12_empties 30 = .ok (.iastore, 1) := by decide +kernel
theorem dX12_empties_31 : decode cX12_empties 31 = .ok (.iinc 1 1, 3) := by decide +kernel
theorem dX12_empties_34 : decode cX12_empties 34 = .ok (.goto (-13), 3) := by decide +kernel
theorem dX12_empties_37 : decode cX12_empties 37 = .ok (.aload_n 0, 1) := by decide +kernel
theorem dX12_empties_38 : decode cX12_empties 38 = .ok (.bipush 51, 2) := by decide +kernel
theorem dX12_empties_40 : decode cX12_empties 40 = .ok (.iconst (-1), 1) := by decide +kernel
theorem dX12_empties_41 : decode cX12_empties 41 = .ok (.iastore, 1) := by decide +kernel
theorem dX12_empties_42 : decode cX12_empties 42 = .ok (.return_, 1) := by decide +kernel
theorem dX12_puts_0 : decode cX12_puts 0 = .ok (.iconst 0, 1) := by decide +kernel
theorem dX12_puts_1 : decode cX12_puts 1 = .ok (.istore_n 2, 1) := by decide +kernel
theorem dX12_puts_2 : decode cX12_puts 2 = .ok (.iload_n 2, 1) := by decide +kernel
theorem dX12_puts_3 : decode cX12_puts 3 = .ok (.bipush 54, 2) := by decide +kernel
theorem dX12_puts_5 : decode cX12_puts 5 = .ok (.if_icmp .ge 15, 3) := by decide +kernel
theorem dX12_puts_8 : decode cX12_puts 8 = .ok (.aload_n 1, 1) := by decide +kernel
theorem dX12_puts_9 : decode cX12_puts 9 = .ok (.iload_n 2, 1) := by decide +kernel
theorem dX12_puts_10 : decode cX12_puts 10 = .ok (.aload_n 0, 1) := by decide +kernel
theorem dX12_puts_11 : decode cX12_puts 11 = .ok (.iload_n 2, 1) := by decide +kernel
theorem dX12_puts_12 : decode cX12_puts 12 = .ok (.iaload, 1) := by decide +kernel
theorem dX12_puts_13 : decode cX12_puts 13 = .ok (.iastore, 1) := by decide +kernel
theorem dX12_puts_14 : decode cX12_puts 14 = .ok (.iinc 2 1, 3) := by decide +kernel
theorem dX12_puts_17 : decode cX12_puts 17 = .ok (.goto (-15), 3) := by decide +kernel
theorem dX12_puts_20 : decode cX12_puts 20 = .ok (.return_, 1) := by decide +kernel
theorem dX12_isThere_0 : decode cX12_isThere 0 = .ok (.iload_n 1, 1) := by decide +kernel
theorem dX12_isThere_1 : decode cX12_isThere 1 = .ok (.i2l, 1) := by decide +kernel
theorem dX12_isThere_2 : decode cX12_isThere 2 = .ok (.lconst 0, 1) := by decide +kernel
theorem dX12_isThere_3 : decode cX12_isThere 3 = .ok (.ldc2_w 133, 3) := by decide +kernel
theorem dX12_isThere_6 : decode cX12_isThere 6 = .ok (.invokestatic 135, 3) := by decide +kernel
theorem dX12_isThere_9 : decode cX12_isThere 9 = .ok (.ifCond .eq 13, 3) := by decide +kernel
theorem dX12_isThere_12 : decode cX12_isThere 12 = .ok (.aload_n 0, 1) := by decide +kernel
theorem dX12_isThere_13 : decode cX12_isThere 13 = .ok (.iload_n 1, 1) := by decide +kernel
theorem dX12_isThere_14 : decode cX12_isThere 14 = .ok (.iaload, 1) := by decide +kernel
theorem dX12_isThere_15 : decode cX12_isThere 15 = .ok (.ifCond .lt 7, 3) := by decide +kernel
theorem dX12_isThere_18 : decode cX12_isThere 18 = .ok (.iconst 1, 1) := by decide +kernel
theorem dX12_isThere_19 : decode cX12_isThere 19 = .ok (.goto 4, 3) := by decide +kernel
theorem dX12_isThere_22 : decode cX12_isThere 22 = .ok (.iconst 0, 1) := by decide +kernel
theorem dX12_isThere_23 : decode cX12_isThere 23 = .ok (.ireturn, 1) := by decide +kernel
theorem dX12_blocksOf_0 : decode cX12_blocksOf 0 = .ok (.aload_n 0, 1) := by decide +kernel
theorem dX12_blocksOf_1 : decode cX12_blocksOf 1 = .ok (.iconst 3, 1) := by decide +kernel
theorem dX12_blocksOf_2 : decode cX12_blocksOf 2 = .ok (.iload_n 1, 1) := by decide +kernel
theorem dX12_blocksOf_3 : decode cX12_blocksOf 3 = .ok (.imul, 1) := by decide +kernel
theorem dX12_blocksOf_4 : decode cX12_blocksOf 4 = .ok (.iaload, 1) := by decide +kernel
theorem dX12_blocksOf_5 : decode cX12_blocksOf 5 = .ok (.ifCond .lt 7, 3) := by decide +kernel
theorem dX12_blocksOf_8 : decode cX12_blocksOf 8 = .ok (.iconst 1, 1) := by decide +kernel
theorem dX12_blocksOf_9 : decode cX12_blocksOf 9 = .ok (.goto 4, 3) := by decide +kernel
theorem dX12_blocksOf_12 : decode cX12_blocksOf 12 = .ok (.iconst 0, 1) := by decide +kernel
theorem dX12_blocksOf_13 : decode cX12_blocksOf 13 = .ok (.invokestatic 139, 3) := by decide +kernel
theorem dX12_blocksOf_16 : decode cX12_blocksOf 16 = .ok (.aload_n 0, 1) := by decide +kernel
theorem dX12_blocksOf_17 : decode cX12_blocksOf 17 = .ok (.iconst 3, 1) := by decide +kernel
theorem dX12_blocksOf_18 : decode cX12_blocksOf 18 = .ok (.iload_n 1, 1) := by decide +kernel
theorem dX12_blocksOf_19 : decode cX12_blocksOf 19 = .ok (.imul, 1) := by decide +kernel
theorem dX12_blocksOf_20 : decode cX12_blocksOf 20 = .ok (.iconst 1, 1) := by decide +kernel
theorem dX12_blocksOf_21 : decode cX12_blocksOf 21 = .ok (.iadd, 1) := by decide +kernel
theorem dX12_blocksOf_22 : decode cX12_blocksOf 22 = .ok (.iaload, 1) := by decide +kernel
theorem dX12_blocksOf_23 : decode cX12_blocksOf 23 = .ok (.ifCond .lt 7, 3) := by decide +kernel
theorem dX12_blocksOf_26 : decode cX12_blocksOf 26 = .ok (.iconst 1, 1) := by decide +kernel
theorem dX12_blocksOf_27 : decode cX12_blocksOf 27 = .ok (.goto 4, 3) := by decide +kernel
theorem dX12_blocksOf_30 : decode cX12_blocksOf 30 = .ok (.iconst 0, 1) := by decide +kernel
theorem dX12_blocksOf_31 : decode cX12_blocksOf 31 = .ok (.invokestatic 139, 3) := by decide +kernel
theorem dX12_blocksOf_34 : decode cX12_blocksOf 34 = .ok (.iadd, 1) := by decide +kernel
theorem dX12_blocksOf_35 : decode cX12_blocksOf 35 = .ok (.aload_n 0, 1) := by decide +kernel
theorem dX12_blocksOf_36 : decode cX12_blocksOf 36 = .ok (.iconst 3, 1) := by decide +kernel
theorem dX12_blocksOf_37 : decode cX12_blocksOf 37 = .ok (.iload_n 1, 1) := by decide +kernel
theorem dX12_blocksOf_38 : decode cX12_blocksOf 38 = .ok (.imul, 1) := by decide +kernel
theorem dX12_blocksOf_39 : decode cX12_blocksOf 39 = .ok (.iconst 2, 1) := by decide +kernel
theorem dX12_blocksOf_40 : decode cX12_blocksOf 40 = .ok (.iadd, 1) := by decide +kernel
theorem dX12_blocksOf_41 : decode cX12_blocksOf 41 = .ok (.iaload, 1) := by decide +kernel
theorem dX12_blocksOf_42 : decode cX12_blocksOf 42 = .ok (.ifCond .lt 7, 3) := by decide +kernel
theorem dX12_blocksOf_45 : decode cX12_blocksOf 45 = .ok (.iconst 1, 1) := by decide +kernel
theorem dX12_blocksOf_46 : decode cX12_blocksOf 46 = .ok (.goto 4, 3) := by decide +kernel
theorem dX12_blocksOf_49 : decode cX12_blocksOf 49 = .ok (.iconst 0, 1) := by decide +kernel
theorem dX12_blocksOf_50 : decode cX12_blocksOf 50 = .ok (.invokestatic 139, 3) := by decide +kernel
theorem dX12_blocksOf_53 : decode cX12_blocksOf 53 = .ok (.iadd, 1) := by decide +kernel
theorem dX12_blocksOf_54 : decode cX12_blocksOf 54 = .ok (.ireturn, 1) := by decide +kernel
theorem dX12_sign_0 : decode cX12_sign 0 = .ok (.aload_n 0, 1) := by decide +kernel
theorem dX12_sign_1 : decode cX12_sign 1 = .ok (.iconst 0, 1) := by decide +kernel
theorem dX12_sign_2 : decode cX12_sign 2 = .ok (.putfield 3, 3) := by decide +kernel
theorem dX12_sign_5 : decode cX12_sign 5 = .ok (.aload_n 0, 1) := by decide +kernel
theorem dX12_sign_6 : decode cX12_sign 6 = .ok (.getfield 143, 3) := by decide +kernel
theorem dX12_sign_9 : decode cX12_sign 9 = .ok (.bipush 76, 2) := by decide +kernel
theorem dX12_sign_11 : decode cX12_sign 11 = .ok (.if_icmp .le 5, 3) := by decide +kernel
theorem dX12_sign_14 : decode cX12_sign 14 = .ok (.iconst (-1), 1) := by decide +kernel
theorem dX12_sign_15 : decode cX12_sign 15 = .ok (.ireturn, 1) := by decide +kernel
theorem dX12_sign_16 : decode cX12_sign 16 = .ok (.iconst 0, 1) := by decide +kernel
theorem dX12_sign_17 : decode cX12_sign 17 = .ok (.istore_n 2, 1) := by decide +kernel
theorem dX12_sign_18 : decode cX12_sign 18 = .ok (.iload_n 2, 1) := by decide +kernel
theorem dX12_sign_19 : decode cX12_sign 19 = .ok (.iconst 4, 1) := by decide +kernel
theorem dX12_sign_20 : decode cX12_sign 20 = .ok (.if_icmp .ge 33, 3) := by decide +kernel
theorem dX12_sign_23 : decode cX12_sign 23 = .ok (.aload_n 0, 1) := by decide +kernel
theorem dX12_sign_24 : decode cX12_sign 24 = .ok (.getfield 37, 3) := by decide +kernel
theorem dX12_sign_27 : decode cX12_sign 27 = .ok (.aload_n 0, 1) := by decide +kernel
theorem dX12_sign_28 : decode cX12_sign 28 = .ok (.getfield 143, 3) := by decide +kernel
theorem dX12_sign_31 : decode cX12_sign 31 = .ok (.iload_n 2, 1) := by decide +kernel
theorem dX12_sign_32 : decode cX12_sign 32 = .ok (.iadd, 1) := by decide +kernel
theorem dX12_sign_33 : decode cX12_sign 33 = .ok (.iload_n 1, 1) := by decide +kernel
theorem dX12_sign_34 : decode cX12_sign 34 = .ok (.bipush 24, 2) := by decide +kernel
theorem dX12_sign_36 : decode cX12_sign 36 = .ok (.bipush 8, 2) := by decide +kernel
theorem dX12_sign_38 : decode cX12_sign 38 = .ok (.iload_n 2, 1) := by decide +kernel
theorem dX12_sign_39 : decode cX12_sign 39 = .ok (.imul, 1) := by decide +kernel
theorem dX12_sign_40 : decode cX12_sign 40 = .ok (.isub, 1) := by decide +kernel
theorem dX12_sign_41 : decode cX12_sign 41 = .ok (.ishr, 1) := by decide +kernel

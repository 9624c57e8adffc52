theorem dX12_loose_90 : decode cX12_loose 90 = .ok (.invokevirtual 279, 3) := by decide +kernel
theorem dX12_loose_93 : decode cX12_loose 93 = .ok (.iinc 2 1, 3) := by decide +kernel
theorem dX12_loose_96 : decode cX12_loose 96 = .ok (.goto (-82), 3) := by decide +kernel
theorem dX12_loose_99 : decode cX12_loose 99 = .ok (.iload_n 1, 1) := by decide +kernel
theorem dX12_loose_100 : decode cX12_loose 100 = .ok (.ireturn, 1) := by decide +kernel
theorem dX12_weakest_0 : decode cX12_weakest 0 = .ok (.aload_n 0, 1) := by decide +kernel
theorem dX12_weakest_1 : decode cX12_weakest 1 = .ok (.iconst 0, 1) := by decide +kernel
theorem dX12_weakest_2 : decode cX12_weakest 2 = .ok (.putfield 3, 3) := by decide +kernel
theorem dX12_weakest_5 : decode cX12_weakest 5 = .ok (.aload_n 0, 1) := by decide +kernel
theorem dX12_weakest_6 : decode cX12_weakest 6 = .ok (.aload_n 0, 1) := by decide +kernel
theorem dX12_weakest_7 : decode cX12_weakest 7 = .ok (.getfield 24, 3) := by decide +kernel
theorem dX12_weakest_10 : decode cX12_weakest 10 = .ok (.invokevirtual 240, 3) := by decide +kernel
theorem dX12_weakest_13 : decode cX12_weakest 13 = .ok (.pop, 1) := by decide +kernel
theorem dX12_weakest_14 : decode cX12_weakest 14 = .ok (.aload_n 0, 1) := by decide +kernel
theorem dX12_weakest_15 : decode cX12_weakest 15 = .ok (.getfield 231, 3) := by decide +kernel
theorem dX12_weakest_18 : decode cX12_weakest 18 = .ok (.ifCond .ge 6, 3) := by decide +kernel
theorem dX12_weakest_21 : decode cX12_weakest 21 = .ok (.bipush (-2), 2) := by decide +kernel
theorem dX12_weakest_23 : decode cX12_weakest 23 = .ok (.ireturn, 1) := by decide +kernel
theorem dX12_weakest_24 : decode cX12_weakest 24 = .ok (.aload_n 0, 1) := by decide +kernel
theorem dX12_weakest_25 : decode cX12_weakest 25 = .ok (.iconst 0, 1) := by decide +kernel
theorem dX12_weakest_26 : decode cX12_weakest 26 = .ok (.putfield 15, 3) := by decide +kernel
theorem dX12_weakest_29 : decode cX12_weakest 29 = .ok (.aload_n 0, 1) := by decide +kernel
theorem dX12_weakest_30 : decode cX12_weakest 30 = .ok (.aload_n 0, 1) := by decide +kernel
theorem dX12_weakest_31 : decode cX12_weakest 31 = .ok (.getfield 58, 3) := by decide +kernel
theorem dX12_weakest_34 : decode cX12_weakest 34 = .ok (.aload_n 0, 1) := by decide +kernel
theorem dX12_weakest_35 : decode cX12_weakest 35 = .ok (.getfield 231, 3) := by decide +kernel
theorem dX12_weakest_38 : decode cX12_weakest 38 = .ok (.iaload, 1) := by decide +kernel
theorem dX12_weakest_39 : decode cX12_weakest 39 = .ok (.i2l, 1) := by decide +kernel
theorem dX12_weakest_40 : decode cX12_weakest 40 = .ok (.invokevirtual 279, 3) := by decide +kernel
theorem dX12_weakest_43 : decode cX12_weakest 43 = .ok (.aload_n 0, 1) := by decide +kernel
theorem dX12_weakest_44 : decode cX12_weakest 44 = .ok (.getfield 231, 3) := by decide +kernel
theorem dX12_weakest_47 : decode cX12_weakest 47 = .ok (.ireturn, 1) := by decide +kernel
theorem dX12_lean_0 : decode cX12_lean 0 = .ok (.aload_n 0, 1) := by decide +kernel
theorem dX12_lean_1 : decode cX12_lean 1 = .ok (.iconst 0, 1) := by decide +kernel
theorem dX12_lean_2 : decode cX12_lean 2 = .ok (.putfield 3, 3) := by decide +kernel
theorem dX12_lean_5 : decode cX12_lean 5 = .ok (.iload_n 1, 1) := by decide +kernel
theorem dX12_lean_6 : decode cX12_lean 6 = .ok (.i2l, 1) := by decide +kernel
theorem dX12_lean_7 : decode cX12_lean 7 = .ok (.lconst 0, 1) := by decide +kernel
theorem dX12_lean_8 : decode cX12_lean 8 = .ok (.lconst 1, 1) := by decide +kernel
theorem dX12_lean_9 : decode cX12_lean 9 = .ok (.invokestatic 135, 3) := by decide +kernel
theorem dX12_lean_12 : decode cX12_lean 12 = .ok (.ifCond .ne 7, 3) := by decide +kernel
theorem dX12_lean_15 : decode cX12_lean 15 = .ok (.ldc_w 288, 3) := by decide +kernel
theorem dX12_lean_18 : decode cX12_lean 18 = .ok (.ireturn, 1) := by decide +kernel
theorem dX12_lean_19 : decode cX12_lean 19 = .ok (.iconst 0, 1) := by decide +kernel
theorem dX12_lean_20 : decode cX12_lean 20 = .ok (.istore_n 2, 1) := by decide +kernel
theorem dX12_lean_21 : decode cX12_lean 21 = .ok (.iconst 0, 1) := by decide +kernel
theorem dX12_lean_22 : decode cX12_lean 22 = .ok (.istore_n 3, 1) := by decide +kernel
theorem dX12_lean_23 : decode cX12_lean 23 = .ok (.iconst 0, 1) := by decide +kernel
theorem dX12_lean_24 : decode cX12_lean 24 = .ok (.istore 4, 2) := by decide +kernel
theorem dX12_lean_26 : decode cX12_lean 26 = .ok (.iload 4, 2) := by decide +kernel
theorem dX12_lean_28 : decode cX12_lean 28 = .ok (.bipush 48, 2) := by decide +kernel
theorem dX12_lean_30 : decode cX12_lean 30 = .ok (.if_icmp .ge 66, 3) := by decide +kernel
theorem dX12_lean_33 : decode cX12_lean 33 = .ok (.aload_n 0, 1) := by decide +kernel
theorem dX12_lean_34 : decode cX12_lean 34 = .ok (.getfield 24, 3) := by decide +kernel
theorem dX12_lean_37 : decode cX12_lean 37 = .ok (.iload 4, 2) := by decide +kernel
theorem dX12_lean_39 : decode cX12_lean 39 = .ok (.iaload, 1) := by decide +kernel
theorem dX12_lean_40 : decode cX12_lean 40 = .ok (.ifCond .ge 7, 3) := by decide +kernel
theorem dX12_lean_43 : decode cX12_lean 43 = .ok (.iconst 0, 1) := by decide +kernel
theorem dX12_lean_44 : decode cX12_lean 44 = .ok (.goto 13, 3) := by decide +kernel
theorem dX12_lean_47 : decode cX12_lean 47 = .ok (.bipush 10, 2) := by decide +kernel
theorem dX12_lean_49 : decode cX12_lean 49 = .ok (.aload_n 0, 1) := by decide +kernel
theorem dX12_lean_50 : decode cX12_lean 50 = .ok (.getfield 24, 3) := by decide +kernel
theorem dX12_lean_53 : decode cX12_lean 53 = .ok (.iload 4, 2) := by decide +kernel
theorem dX12_lean_55 : decode cX12_lean 55 = .ok (.iaload, 1) := by decide +kernel
theorem dX12_lean_56 : decode cX12_lean 56 = .ok (.iadd, 1) := by decide +kernel
theorem dX12_lean_57 : decode cX12_lean 57 = .ok (.istore 5, 2) := by decide +kernel
theorem dX12_lean_59 : decode cX12_lean 59 = .ok (.iload_n 2, 1) := by decide +kernel
theorem dX12_lean_60 : decode cX12_lean 60 = .ok (.iload 4, 2) := by decide +kernel
theorem dX12_lean_62 : decode cX12_lean 62 = .ok (.iconst 3, 1) := by decide +kernel
theorem dX12_lean_63 : decode cX12_lean 63 = .ok (.idiv, 1) := by decide +kernel
theorem dX12_lean_64 : decode cX12_lean 64 = .ok (.iconst 2, 1) := by decide +kernel
theorem dX12_lean_65 : decode cX12_lean 65 = .ok (.irem, 1) := by decide +kernel
theorem dX12_lean_66 : decode cX12_lean 66 = .ok (.iload_n 1, 1) := by decide +kernel
theorem dX12_lean_67 : decode cX12_lean 67 = .ok (.if_icmp .ne 15, 3) := by decide +kernel
theorem dX12_lean_70 : decode cX12_lean 70 = .ok (.iload 5, 2) := by decide +kernel
theorem dX12_lean_72 : decode cX12_lean 72 = .ok (.iload 4, 2) := by decide +kernel
theorem dX12_lean_74 : decode cX12_lean 74 = .ok (.iconst 3, 1) := by decide +kernel
theorem dX12_lean_75 : decode cX12_lean 75 = .ok (.irem, 1) := by decide +kernel
theorem dX12_lean_76 : decode cX12_lean 76 = .ok (.iconst 1, 1) := by decide +kernel
theorem dX12_lean_77 : decode cX12_lean 77 = .ok (.isub, 1) := by decide +kernel
theorem dX12_lean_78 : decode cX12_lean 78 = .ok (.imul, 1) := by decide +kernel
theorem dX12_lean_79 : decode cX12_lean 79 = .ok (.goto 4, 3) := by decide +kernel
theorem dX12_lean_82 : decode cX12_lean 82 = .ok (.iconst 0, 1) := by decide +kernel
theorem dX12_lean_83 : decode cX12_lean 83 = .ok (.iadd, 1) := by decide +kernel
theorem dX12_lean_84 : decode cX12_lean 84 = .ok (.istore_n 2, 1) := by decide +kernel
theorem dX12_lean_85 : decode cX12_lean 85 = .ok (.iload_n 3, 1) := by decide +kernel
theorem dX12_lean_86 : decode cX12_lean 86 = .ok (.iload 5, 2) := by decide +kernel
theorem dX12_lean_88 : decode cX12_lean 88 = .ok (.iadd, 1) := by decide +kernel
theorem dX12_lean_89 : decode cX12_lean 89 = .ok (.istore_n 3, 1) := by decide +kernel
theorem dX12_lean_90 : decode cX12_lean 90 = .ok (.iinc 4 1, 3) := by decide +kernel
theorem dX12_lean_93 : decode cX12_lean 93 = .ok (.goto (-67), 3) := by decide +kernel
theorem dX12_lean_96 : decode cX12_lean 96 = .ok (.aload_n 0, 1) := by decide +kernel
theorem dX12_lean_97 : decode cX12_lean 97 = .ok (.iconst 0, 1) := by decide +kernel
theorem dX12_lean_98 : decode cX12_lean 98 = .ok (.putfield 15, 3) := by decide +kernel
theorem dX12_lean_101 : decode cX12_lean 101 = .ok (.aload_n 0, 1) := by decide +kernel
theorem dX12_lean_102 : decode cX12_lean 102 = .ok (.iload_n 3, 1) := by decide +kernel
theorem dX12_lean_103 : decode cX12_lean 103 = .ok (.i2l, 1) := by decide +kernel
theorem dX12_lean_104 : decode cX12_lean 104 = .ok (.invokevirtual 279, 3) := by decide +kernel
theorem dX12_lean_107 : decode cX12_lean 107 = .ok (.iload_n 2, 1) := by decide +kernel
theorem dX12_lean_108 : decode cX12_lean 108 = .ok (.ireturn, 1) := by decide +kernel
theorem dX12_hasGap_0 : decode cX12_hasGap 0 = .ok (.aload_n 0, 1) := by decide +kernel
theorem dX12_hasGap_1 : decode cX12_hasGap 1 = .ok (.bipush 48, 2) := by decide +kernel
theorem dX12_hasGap_3 : decode cX12_hasGap 3 = .ok (.iaload, 1) := by decide +kernel
theorem dX12_hasGap_4 : decode cX12_hasGap 4 = .ok (.ifCond .le 21, 3) := by decide +kernel
theorem dX12_hasGap_7 : decode cX12_hasGap 7 = .ok (.aload_n 0, 1) := by decide +kernel
theorem dX12_hasGap_8 : decode cX12_hasGap 8 = .ok (.aload_n 0, 1) := by decide +kernel
theorem dX12_hasGap_9 : decode cX12_hasGap 9 = .ok (.bipush 48, 2) := by decide +kernel
theorem dX12_hasGap_11 : decode cX12_hasGap 11 = .ok (.iaload, 1) := by decide +kernel
theorem dX12_hasGap_12 : decode cX12_hasGap 12 = .ok (.iconst 1, 1) := by decide +kernel
theorem dX12_hasGap_13 : decode cX12_hasGap 13 = .ok (.isub, 1) := by decide +kernel
theorem dX12_hasGap_14 : decode cX12_hasGap 14 = .ok (.invokestatic 256, 3) := by decide +kernel
theorem dX12_hasGap_17 : decode cX12_hasGap 17 = .ok (.iconst 3, 1) := by decide +kernel
theorem dX12_hasGap_18 : decode cX12_hasGap 18 = .ok (.if_icmp .ge 7, 3) := by decide +kernel
theorem dX12_hasGap_21 : decode cX12_hasGap 21 = .ok (.iconst 1, 1) := by decide +kernel
theorem dX12_hasGap_22 : decode cX12_hasGap 22 = .ok (.goto 4, 3) := by decide +kernel
theorem dX12_hasGap_25 : decode cX12_hasGap 25 = .ok (.iconst 0, 1) := by decide +kernel
theorem dX12_hasGap_26 : decode cX12_hasGap 26 = .ok (.ireturn, 1) := by decide +kernel
theorem dX12_canMove_0 : decode cX12_canMove 0 = .ok (.iload_n 1, 1) := by decide +kernel
theorem dX12_canMove_1 : decode cX12_canMove 1 = .ok (.bipush 10, 2) := by decide +kernel
theorem dX12_canMove_3 : decode cX12_canMove 3 = .ok (.idiv, 1) := by decide +kernel
theorem dX12_canMove_4 : decode cX12_canMove 4 = .ok (.istore_n 2, 1) := by decide +kernel
theorem dX12_canMove_5 : decode cX12_canMove 5 = .ok (.iload_n 1, 1) := by decide +kernel
theorem dX12_canMove_6 : decode cX12_canMove 6 = .ok (.bipush 10, 2) := by decide +kernel
theorem dX12_canMove_8 : decode cX12_canMove 8 = .ok (.irem, 1) := by decide +kernel
theorem dX12_canMove_9 : decode cX12_canMove 9 = .ok (.istore_n 3, 1) := by decide +kernel
theorem dX12_canMove_10 : decode cX12_canMove 10 = .ok (.aload_n 0, 1) := by decide +kernel
theorem dX12_canMove_11 : decode cX12_canMove 11 = .ok (.bipush 50, 2) := by decide +kernel
theorem dX12_canMove_13 : decode cX12_canMove 13 = .ok (.iaload, 1) := by decide +kernel
theorem dX12_canMove_14 : decode cX12_canMove 14 = .ok (.ifCond .gt 20, 3) := by decide +kernel
theorem dX12_canMove_17 : decode cX12_canMove 17 = .ok (.iload_n 1, 1) := by decide +kernel
theorem dX12_canMove_18 : decode cX12_canMove 18 = .ok (.ifCond .lt 16, 3) := by decide +kernel
theorem dX12_canMove_21 : decode cX12_canMove 21 = .ok (.iload_n 3, 1) := by decide +kernel
theorem dX12_canMove_22 : decode cX12_canMove 22 = .ok (.iconst 3, 1) := by decide +kernel
theorem dX12_canMove_23 : decode cX12_canMove 23 = .ok (.if_icmp .ge 11, 3) := by decide +kernel
theorem dX12_canMove_26 : decode cX12_canMove 26 = .ok (.aload_n 0, 1) := by decide +kernel
theorem dX12_canMove_27 : decode cX12_canMove 27 = .ok (.iload_n 2, 1) := by decide +kernel
theorem dX12_canMove_28 : decode cX12_canMove 28 = .ok (.invokestatic 244, 3) := by decide +kernel
theorem dX12_canMove_31 : decode cX12_canMove 31 = .ok (.ifCond .ne 5, 3) := by decide +kernel
theorem dX12_canMove_34 : decode cX12_canMove 34 = .ok (.iconst 0, 1) := by decide +kernel
theorem dX12_canMove_35 : decode cX12_canMove 35 = .ok (.ireturn, 1) := by decide +kernel
theorem dX12_canMove_36 : decode cX12_canMove 36 = .ok (.aload_n 0, 1) := by decide +kernel
theorem dX12_canMove_37 : decode cX12_canMove 37 = .ok (.bipush 48, 2) := by decide +kernel
theorem dX12_canMove_39 : decode cX12_canMove 39 = .ok (.iaload, 1) := by decide +kernel
theorem dX12_canMove_40 : decode cX12_canMove 40 = .ok (.iconst 1, 1) := by decide +kernel
theorem dX12_canMove_41 : decode cX12_canMove 41 = .ok (.isub, 1) := by decide +kernel
theorem dX12_canMove_42 : decode cX12_canMove 42 = .ok (.istore 4, 2) := by decide +kernel
theorem dX12_canMove_44 : decode cX12_canMove 44 = .ok (.aload_n 0, 1) := by decide +kernel
theorem dX12_canMove_45 : decode cX12_canMove 45 = .ok (.invokestatic 289, 3) := by decide +kernel
theorem dX12_canMove_48 : decode cX12_canMove 48 = .ok (.istore 5, 2) := by decide +kernel
theorem dX12_canMove_50 : decode cX12_canMove 50 = .ok (.iload_n 2, 1) := by decide +kernel
theorem dX12_canMove_51 : decode cX12_canMove 51 = .ok (.iconst 3, 1) := by decide +kernel
theorem dX12_canMove_52 : decode cX12_canMove 52 = .ok (.idiv, 1) := by decide +kernel
theorem dX12_canMove_53 : decode cX12_canMove 53 = .ok (.iload 4, 2) := by decide +kernel
theorem dX12_canMove_55 : decode cX12_canMove 55 = .ok (.iconst 1, 1) := by decide +kernel
theorem dX12_canMove_56 : decode cX12_canMove 56 = .ok (.isub, 1) := by decide +kernel
theorem dX12_canMove_57 : decode cX12_canMove 57 = .ok (.iload 5, 2) := by decide +kernel
theorem dX12_canMove_59 : decode cX12_canMove 59 = .ok (.invokestatic 139, 3) := by decide +kernel
theorem dX12_canMove_62 : decode cX12_canMove 62 = .ok (.isub, 1) := by decide +kernel
theorem dX12_canMove_63 : decode cX12_canMove 63 = .ok (.if_icmp .le 5, 3) := by decide +kernel
theorem dX12_canMove_66 : decode cX12_canMove 66 = .ok (.iconst 0, 1) := by decide +kernel
theorem dX12_canMove_67 : decode cX12_canMove 67 = .ok (.ireturn, 1) := by decide +kernel
theorem dX12_canMove_68 : decode cX12_canMove 68 = .ok (.iload 5, 2) := by decide +kernel
theorem dX12_canMove_70 : decode cX12_canMove 70 = .ok (.ifCond .eq 22, 3) := by decide +kernel
theorem dX12_canMove_73 : decode cX12_canMove 73 = .ok (.aload_n 0, 1) := by decide +kernel
theorem dX12_canMove_74 : decode cX12_canMove 74 = .ok (.iconst 3, 1) := by decide +kernel
theorem dX12_canMove_75 : decode cX12_canMove 75 = .ok (.iload 4, 2) := by decide +kernel
theorem dX12_canMove_77 : decode cX12_canMove 77 = .ok (.imul, 1) := by decide +kernel
theorem dX12_canMove_78 : decode cX12_canMove 78 = .ok (.iload_n 3, 1) := by decide +kernel
theorem dX12_canMove_79 : decode cX12_canMove 79 = .ok (.iadd, 1) := by decide +kernel
theorem dX12_canMove_80 : decode cX12_canMove 80 = .ok (.iaload, 1) := by decide +kernel
theorem dX12_canMove_81 : decode cX12_canMove 81 = .ok (.ifCond .ge 7, 3) := by decide +kernel
theorem dX12_canMove_84 : decode cX12_canMove 84 = .ok (.iconst 1, 1) := by decide +kernel
theorem dX12_canMove_85 : decode cX12_canMove 85 = .ok (.goto 21, 3) := by decide +kernel
theorem dX12_canMove_88 : decode cX12_canMove 88 = .ok (.iconst 0, 1) := by decide +kernel
theorem dX12_canMove_89 : decode cX12_canMove 89 = .ok (.goto 17, 3) := by decide +kernel
theorem dX12_canMove_92 : decode cX12_canMove 92 = .ok (.aload_n 0, 1) := by decide +kernel
theorem dX12_canMove_93 : decode cX12_canMove 93 = .ok (.bipush 48, 2) := by decide +kernel
theorem dX12_canMove_95 : decode cX12_canMove 95 = .ok (.iaload, 1) := by decide +kernel
theorem dX12_canMove_96 : decode cX12_canMove 96 = .ok (.bipush 16, 2) := by decide +kernel
theorem dX12_canMove_98 : decode cX12_canMove 98 = .ok (.if_icmp .ge 7, 3) := by decide +kernel
theorem dX12_canMove_101 : decode cX12_canMove 101 = .ok (.iconst 1, 1) := by decide +kernel
theorem dX12_canMove_102 : decode cX12_canMove 102 = .ok (.goto 4, 3) := by decide +kernel
theorem dX12_canMove_105 : decode cX12_canMove 105 = .ok (.iconst 0, 1) := by decide +kernel
theorem dX12_canMove_106 : decode cX12_canMove 106 = .ok (.ireturn, 1) := by decide +kernel
theorem dX12_draws_0 : decode cX12_draws 0 = .ok (.iload_n 2, 1) := by decide +kernel
theorem dX12_draws_1 : decode cX12_draws 1 = .ok (.bipush 10, 2) := by decide +kernel
theorem dX12_draws_3 : decode cX12_draws 3 = .ok (.idiv, 1) := by decide +kernel
theorem dX12_draws_4 : decode cX12_draws 4 = .ok (.istore_n 3, 1) := by decide +kernel
theorem dX12_draws_5 : decode cX12_draws 5 = .ok (.aload_n 1, 1) := by decide +kernel
theorem dX12_draws_6 : decode cX12_draws 6 = .ok (.iload_n 3, 1) := by decide +kernel
theorem dX12_draws_7 : decode cX12_draws 7 = .ok (.iaload, 1) := by decide +kernel
theorem dX12_draws_8 : decode cX12_draws 8 = .ok (.istore 4, 2) := by decide +kernel
theorem dX12_draws_10 : decode cX12_draws 10 = .ok (.aload_n 1, 1) := by decide +kernel
theorem dX12_draws_11 : decode cX12_draws 11 = .ok (.iload_n 3, 1) := by decide +kernel
theorem dX12_draws_12 : decode cX12_draws 12 = .ok (.iconst 3, 1) := by decide +kernel
theorem dX12_draws_13 : decode cX12_draws 13 = .ok (.idiv, 1) := by decide +kernel
theorem dX12_draws_14 : decode cX12_draws 14 = .ok (.invokestatic 256, 3) := by decide +kernel
theorem dX12_draws_17 : decode cX12_draws 17 = .ok (.iconst 1, 1) := by decide +kernel
theorem dX12_draws_18 : decode cX12_draws 18 = .ok (.if_icmp .ne 5, 3) := by decide +kernel
theorem dX12_draws_21 : decode cX12_draws 21 = .ok (.iconst 1, 1) := by decide +kernel
theorem dX12_draws_22 : decode cX12_draws 22 = .ok (.ireturn, 1) := by decide +kernel
theorem dX12_draws_23 : decode cX12_draws 23 = .ok (.aload_n 1, 1) := by decide +kernel
theorem dX12_draws_24 : decode cX12_draws 24 = .ok (.invokestatic 289, 3) := by decide +kernel
theorem dX12_draws_27 : decode cX12_draws 27 = .ok (.istore 5, 2) := by decide +kernel
theorem dX12_draws_29 : decode cX12_draws 29 = .ok (.aload_n 1, 1) := by decide +kernel
theorem dX12_draws_30 : decode cX12_draws 30 = .ok (.iload_n 3, 1) := by decide +kernel
theorem dX12_draws_31 : decode cX12_draws 31 = .ok (.iconst (-1), 1) := by decide +kernel
theorem dX12_draws_32 : decode cX12_draws 32 = .ok (.iastore, 1) := by decide +kernel
theorem dX12_draws_33 : decode cX12_draws 33 = .ok (.aload_n 0, 1) := by decide +kernel
theorem dX12_draws_34 : decode cX12_draws 34 = .ok (.aload_n 1, 1) := by decide +kernel
theorem dX12_draws_35 : decode cX12_draws 35 = .ok (.invokevirtual 263, 3) := by decide +kernel
theorem dX12_draws_38 : decode cX12_draws 38 = .ok (.ifCond .ne 5, 3) := by decide +kernel
theorem dX12_draws_41 : decode cX12_draws 41 = .ok (.iconst 2, 1) := by decide +kernel
theorem dX12_draws_42 : decode cX12_draws 42 = .ok (.ireturn, 1) := by decide +kernel
theorem dX12_draws_43 : decode cX12_draws 43 = .ok (.aload_n 1, 1) := by decide +kernel
theorem dX12_draws_44 : decode cX12_draws 44 = .ok (.bipush 48, 2) := by decide +kernel
theorem dX12_draws_46 : decode cX12_draws 46 = .ok (.dup2, 1) := by decide +kernel
theorem dX12_draws_47 : decode cX12_draws 47 = .ok (.iaload, 1) := by decide +kernel
theorem dX12_draws_48 : decode cX12_draws 48 = .ok (.iload 5, 2) := by decide +kernel
theorem dX12_draws_50 : decode cX12_draws 50 = .ok (.ifCond .ne 7, 3) := by decide +kernel
theorem dX12_draws_53 : decode cX12_draws 53 = .ok (.iconst 1, 1) := by decide +kernel
theorem dX12_draws_54 : decode cX12_draws 54 = .ok (.goto 4, 3) := by decide +kernel
theorem dX12_draws_57 : decode cX12_draws 57 = .ok (.iconst 0, 1) := by decide +kernel
theorem dX12_draws_58 : decode cX12_draws 58 = .ok (.invokestatic 139, 3) := by decide +kernel
theorem dX12_draws_61 : decode cX12_draws 61 = .ok (.iadd, 1) := by decide +kernel
theorem dX12_draws_62 : decode cX12_draws 62 = .ok (.iastore, 1) := by decide +kernel
theorem dX12_draws_63 : decode cX12_draws 63 = .ok (.aload_n 1, 1) := by decide +kernel
theorem dX12_draws_64 : decode cX12_draws 64 = .ok (.iconst 3, 1) := by decide +kernel
theorem dX12_draws_65 : decode cX12_draws 65 = .ok (.aload_n 1, 1) := by decide +kernel
theorem dX12_draws_66 : decode cX12_draws 66 = .ok (.bipush 48, 2) := by decide +kernel
theorem dX12_draws_68 : decode cX12_draws 68 = .ok (.iaload, 1) := by decide +kernel
theorem dX12_draws_69 : decode cX12_draws 69 = .ok (.iconst 1, 1) := by decide +kernel
theorem dX12_draws_70 : decode cX12_draws 70 = .ok (.isub, 1) := by decide +kernel
theorem dX12_draws_71 : decode cX12_draws 71 = .ok (.imul, 1) := by decide +kernel
theorem dX12_draws_72 : decode cX12_draws 72 = .ok (.iload_n 2, 1) := by decide +kernel
theorem dX12_draws_73 : decode cX12_draws 73 = .ok (.bipush 10, 2) := by decide +kernel
theorem dX12_draws_75 : decode cX12_draws 75 = .ok (.irem, 1) := by decide +kernel
theorem dX12_draws_76 : decode cX12_draws 76 = .ok (.iadd, 1) := by decide +kernel
theorem dX12_draws_77 : decode cX12_draws 77 = .ok (.iload 4, 2) := by decide +kernel
theorem dX12_draws_79 : decode cX12_draws 79 = .ok (.iastore, 1) := by decide +kernel
theorem dX12_draws_80 : decode cX12_draws 80 = .ok (.aload_n 0, 1) := by decide +kernel
theorem dX12_draws_81 : decode cX12_draws 81 = .ok (.aload_n 1, 1) := by decide +kernel
theorem dX12_draws_82 : decode cX12_draws 82 = .ok (.invokevirtual 263, 3) := by decide +kernel
theorem dX12_draws_85 : decode cX12_draws 85 = .ok (.ifCond .eq 7, 3) := by decide +kernel
theorem dX12_draws_88 : decode cX12_draws 88 = .ok (.iconst 0, 1) := by decide +kernel
theorem dX12_draws_89 : decode cX12_draws 89 = .ok (.goto 4, 3) := by decide +kernel
theorem dX12_draws_92 : decode cX12_draws 92 = .ok (.iconst 3, 1) := by decide +kernel
theorem dX12_draws_93 : decode cX12_draws 93 = .ok (.ireturn, 1) := by decide +kernel
theorem dX12_isSafe_0 : decode cX12_isSafe 0 = .ok (.aload_n 1, 1) := by decide +kernel
theorem dX12_isSafe_1 : decode cX12_isSafe 1 = .ok (.iload_n 2, 1) := by decide +kernel
theorem dX12_isSafe_2 : decode cX12_isSafe 2 = .ok (.invokestatic 292, 3) := by decide +kernel
theorem dX12_isSafe_5 : decode cX12_isSafe 5 = .ok (.ifCond .ne 5, 3) := by decide +kernel
theorem dX12_isSafe_8 : decode cX12_isSafe 8 = .ok (.iconst 0, 1) := by decide +kernel
theorem dX12_isSafe_9 : decode cX12_isSafe 9 = .ok (.ireturn, 1) := by decide +kernel
theorem dX12_isSafe_10 : decode cX12_isSafe 10 = .ok (.aload_n 1, 1) := by decide +kernel
theorem dX12_isSafe_11 : decode cX12_isSafe 11 = .ok (.aload_n 0, 1) := by decide +kernel
theorem dX12_isSafe_12 : decode cX12_isSafe 12 = .ok (.getfield 61, 3) := by decide +kernel
theorem dX12_isSafe_15 : decode cX12_isSafe 15 = .ok (.invokestatic 259, 3) := by decide +kernel
theorem dX12_isSafe_18 : decode cX12_isSafe 18 = .ok (.aload_n 0, 1) := by decide +kernel
theorem dX12_isSafe_19 : decode cX12_isSafe 19 = .ok (.aload_n 0, 1) := by decide +kernel
theorem dX12_isSafe_20 : decode cX12_isSafe 20 = .ok (.getfield 61, 3) := by decide +kernel
theorem dX12_isSafe_23 : decode cX12_isSafe 23 = .ok (.iload_n 2, 1) := by decide +kernel
theorem dX12_isSafe_24 : decode cX12_isSafe 24 = .ok (.invokevirtual 295, 3) := by decide +kernel
theorem dX12_isSafe_27 : decode cX12_isSafe 27 = .ok (.ifCond .ne 7, 3) := by decide +kernel
theorem dX12_isSafe_30 : decode cX12_isSafe 30 = .ok (.iconst 1, 1) := by decide +kernel
theorem dX12_isSafe_31 : decode cX12_isSafe 31 = .ok (.goto 4, 3) := by decide +kernel
theorem dX12_isSafe_34 : decode cX12_isSafe 34 = .ok (.iconst 0, 1) := by decide +kernel
theorem dX12_isSafe_35 : decode cX12_isSafe 35 = .ok (.ireturn, 1) := by decide +kernel
theorem dX12_marginOf_0 : decode cX12_marginOf 0 = .ok (.aload_n 0, 1) := by decide +kernel
theorem dX12_marginOf_1 : decode cX12_marginOf 1 = .ok (.aload_n 1, 1) := by decide +kernel
theorem dX12_marginOf_2 : decode cX12_marginOf 2 = .ok (.invokevirtual 240, 3) := by decide +kernel
theorem dX12_marginOf_5 : decode cX12_marginOf 5 = .ok (.pop, 1) := by decide +kernel
theorem dX12_marginOf_6 : decode cX12_marginOf 6 = .ok (.aload_n 0, 1) := by decide +kernel
theorem dX12_marginOf_7 : decode cX12_marginOf 7 = .ok (.getfield 58, 3) := by decide +kernel
theorem dX12_marginOf_10 : decode cX12_marginOf 10 = .ok (.iload_n 2, 1) := by decide +kernel
theorem dX12_marginOf_11 : decode cX12_marginOf 11 = .ok (.iaload, 1) := by decide +kernel
theorem dX12_marginOf_12 : decode cX12_marginOf 12 = .ok (.ireturn, 1) := by decide +kernel
theorem dX12_thingOf_0 : decode cX12_thingOf 0 = .ok (.iload_n 2, 1) := by decide +kernel
theorem dX12_thingOf_1 : decode cX12_thingOf 1 = .ok (.bipush 10, 2) := by decide +kernel
theorem dX12_thingOf_3 : decode cX12_thingOf 3 = .ok (.idiv, 1) := by decide +kernel
theorem dX12_thingOf_4 : decode cX12_thingOf 4 = .ok (.istore 6, 2) := by decide +kernel
theorem dX12_thingOf_6 : decode cX12_thingOf 6 = .ok (.iload 5, 2) := by decide +kernel
theorem dX12_thingOf_8 : decode cX12_thingOf 8 = .ok (.tableswitch 113 0 8 #[52, 62, 67, 72, 77, 82, 93, 98, 111], 52) := by decide +kernel
theorem dX12_thingOf_60 : decode cX12_thingOf 60 = .ok (.aload_n 1, 1) := by decide +kernel
theorem dX12_thingOf_61 : decode cX12_thingOf 61 = .ok (.iload 6, 2) := by decide +kernel
theorem dX12_thingOf_63 : decode cX12_thingOf 63 = .ok (.invokestatic 253, 3) := by decide +kernel
theorem dX12_thingOf_66 : decode cX12_thingOf 66 = .ok (.invokestatic 139, 3) := by decide +kernel
theorem dX12_thingOf_69 : decode cX12_thingOf 69 = .ok (.ireturn, 1) := by decide +kernel
theorem dX12_thingOf_70 : decode cX12_thingOf 70 = .ok (.aload_n 1, 1) := by decide +kernel
theorem dX12_thingOf_71 : decode cX12_thingOf 71 = .ok (.iload 6, 2) := by decide +kernel
theorem dX12_thingOf_73 : decode cX12_thingOf 73 = .ok (.iaload, 1) := by decide +kernel
theorem dX12_thingOf_74 : decode cX12_thingOf 74 = .ok (.ireturn, 1) := by decide +kernel
theorem dX12_thingOf_75 : decode cX12_thingOf 75 = .ok (.iload 6, 2) := by decide +kernel
theorem dX12_thingOf_77 : decode cX12_thingOf 77 = .ok (.iconst 3, 1) := by decide +kernel
theorem dX12_thingOf_78 : decode cX12_thingOf 78 = .ok (.idiv, 1) := by decide +kernel
theorem dX12_thingOf_79 : decode cX12_thingOf 79 = .ok (.ireturn, 1) := by decide +kernel
theorem dX12_thingOf_80 : decode cX12_thingOf 80 = .ok (.iload 6, 2) := by decide +kernel
theorem dX12_thingOf_82 : decode cX12_thingOf 82 = .ok (.iconst 3, 1) := by decide +kernel
theorem dX12_thingOf_83 : decode cX12_thingOf 83 = .ok (.irem, 1) := by decide +kernel
theorem dX12_thingOf_84 : decode cX12_thingOf 84 = .ok (.ireturn, 1) := by decide +kernel
theorem dX12_thingOf_85 : decode cX12_thingOf 85 = .ok (.iload_n 2, 1) := by decide +kernel
theorem dX12_thingOf_86 : decode cX12_thingOf 86 = .ok (.bipush 10, 2) := by decide +kernel
theorem dX12_thingOf_88 : decode cX12_thingOf 88 = .ok (.irem, 1) := by decide +kernel
theorem dX12_thingOf_89 : decode cX12_thingOf 89 = .ok (.ireturn, 1) := by decide +kernel
theorem dX12_thingOf_90 : decode cX12_thingOf 90 = .ok (.iconst 3, 1) := by decide +kernel
theorem dX12_thingOf_91 : decode cX12_thingOf 91 = .ok (.aload_n 1, 1) := by decide +kernel
theorem dX12_thingOf_92 : decode cX12_thingOf 92 = .ok (.iload 6, 2) := by decide +kernel
theorem dX12_thingOf_94 : decode cX12_thingOf 94 = .ok (.iconst 3, 1) := by decide +kernel
theorem dX12_thingOf_95 : decode cX12_thingOf 95 = .ok (.idiv, 1) := by decide +kernel
theorem dX12_thingOf_96 : decode cX12_thingOf 96 = .ok (.invokestatic 256, 3) := by decide +kernel
theorem dX12_thingOf_99 : decode cX12_thingOf 99 = .ok (.isub, 1) := by decide +kernel
theorem dX12_thingOf_100 : decode cX12_thingOf 100 = .ok (.ireturn, 1) := by decide +kernel
theorem dX12_thingOf_101 : decode cX12_thingOf 101 = .ok (.aload_n 1, 1) := by decide +kernel
theorem dX12_thingOf_102 : decode cX12_thingOf 102 = .ok (.bipush 48, 2) := by decide +kernel
theorem dX12_thingOf_104 : decode cX12_thingOf 104 = .ok (.iaload, 1) := by decide +kernel
theorem dX12_thingOf_105 : decode cX12_thingOf 105 = .ok (.ireturn, 1) := by decide +kernel
theorem dX12_thingOf_106 : decode cX12_thingOf 106 = .ok (.aload_n 0, 1) := by decide +kernel
theorem dX12_thingOf_107 : decode cX12_thingOf 107 = .ok (.aload_n 1, 1) := by decide +kernel
theorem dX12_thingOf_108 : decode cX12_thingOf 108 = .ok (.iload 6, 2) := by decide +kernel
theorem dX12_thingOf_110 : decode cX12_thingOf 110 = .ok (.iconst 3, 1) := by decide +kernel
theorem dX12_thingOf_111 : decode cX12_thingOf 111 = .ok (.idiv, 1) := by decide +kernel
theorem dX12_thingOf_112 : decode cX12_thingOf 112 = .ok (.invokevirtual 298, 3) := by decide +kernel
theorem dX12_thingOf_115 : decode cX12_thingOf 115 = .ok (.bipush 100, 2) := by decide +kernel
theorem dX12_thingOf_117 : decode cX12_thingOf 117 = .ok (.idiv, 1) := by decide +kernel
theorem dX12_thingOf_118 : decode cX12_thingOf 118 = .ok (.ireturn, 1) := by decide +kernel
theorem dX12_thingOf_119 : decode cX12_thingOf 119 = .ok (.iload_n 3, 1) := by decide +kernel
theorem dX12_thingOf_120 : decode cX12_thingOf 120 = .ok (.ireturn, 1) := by decide +kernel
theorem dX12_thingOf_121 : decode cX12_thingOf 121 = .ok (.iload 4, 2) := by decide +kernel
theorem dX12_thingOf_123 : decode cX12_thingOf 123 = .ok (.ireturn, 1) := by decide +kernel
theorem dX12_worked_0 : decode cX12_worked 0 = .ok (.iload_n 0, 1) := by decide +kernel
theorem dX12_worked_1 : decode cX12_worked 1 = .ok (.tableswitch 93 0 5 #[39, 53, 67, 81, 85, 89], 39) := by decide +kernel
theorem dX12_worked_40 : decode cX12_worked 40 = .ok (.iload_n 1, 1) := by decide +kernel
theorem dX12_worked_41 : decode cX12_worked 41 = .ok (.iload_n 2, 1) := by decide +kernel
theorem dX12_worked_42 : decode cX12_worked 42 = .ok (.if_icmp .ge 7, 3) := by decide +kernel
theorem dX12_worked_45 : decode cX12_worked 45 = .ok (.iconst 1, 1) := by decide +kernel
theorem dX12_worked_46 : decode cX12_worked 46 = .ok (.goto 4, 3) := by decide +kernel
theorem dX12_worked_49 : decode cX12_worked 49 = .ok (.iconst 0, 1) := by decide +kernel
theorem dX12_worked_50 : decode cX12_worked 50 = .ok (.invokestatic 139, 3) := by decide +kernel
theorem dX12_worked_53 : decode cX12_worked 53 = .ok (.ireturn, 1) := by decide +kernel
theorem dX12_worked_54 : decode cX12_worked 54 = .ok (.iload_n 1, 1) := by decide +kernel
theorem dX12_worked_55 : decode cX12_worked 55 = .ok (.iload_n 2, 1) := by decide +kernel
theorem dX12_worked_56 : decode cX12_worked 56 = .ok (.if_icmp .le 7, 3) := by decide +kernel
theorem dX12_worked_59 : decode cX12_worked 59 = .ok (.iconst 1, 1) := by decide +kernel
theorem dX12_worked_60 : decode cX12_worked 60 = .ok (.goto 4, 3) := by decide +kernel
theorem dX12_worked_63 : decode cX12_worked 63 = .ok (.iconst 0, 1) := by decide +kernel
theorem dX12_worked_64 : decode cX12_worked 64 = .ok (.invokestatic 139, 3) := by decide +kernel
theorem dX12_worked_67 : decode cX12_worked 67 = .ok (.ireturn, 1) := by decide +kernel
theorem dX12_worked_68 : decode cX12_worked 68 = .ok (.iload_n 1, 1) := by decide +kernel
theorem dX12_worked_69 : decode cX12_worked 69 = .ok (.iload_n 2, 1) := by decide +kernel
theorem dX12_worked_70 : decode cX12_worked 70 = .ok (.if_icmp .ne 7, 3) := by decide +kernel
theorem dX12_worked_73 : decode cX12_worked 73 = .ok (.iconst 1, 1) := by decide +kernel
theorem dX12_worked_74 : decode cX12_worked 74 = .ok (.goto 4, 3) := by decide +kernel
theorem dX12_worked_77 : decode cX12_worked 77 = .ok (.iconst 0, 1) := by decide +kernel
theorem dX12_worked_78 : decode cX12_worked 78 = .ok (.invokestatic 139, 3) := by decide +kernel
theorem dX12_worked_81 : decode cX12_worked 81 = .ok (.ireturn, 1) := by decide +kernel
theorem dX12_worked_82 : decode cX12_worked 82 = .ok (.iload_n 1, 1) := by decide +kernel
theorem dX12_worked_83 : decode cX12_worked 83 = .ok (.iload_n 2, 1) := by decide +kernel
theorem dX12_worked_84 : decode cX12_worked 84 = .ok (.iadd, 1) := by decide +kernel
theorem dX12_worked_85 : decode cX12_worked 85 = .ok (.ireturn, 1) := by decide +kernel
theorem dX12_worked_86 : decode cX12_worked 86 = .ok (.iload_n 1, 1) := by decide +kernel
theorem dX12_worked_87 : decode cX12_worked 87 = .ok (.iload_n 2, 1) := by decide +kernel
theorem dX12_worked_88 : decode cX12_worked 88 = .ok (.isub, 1) := by decide +kernel
theorem dX12_worked_89 : decode cX12_worked 89 = .ok (.ireturn, 1) := by decide +kernel
theorem dX12_worked_90 : decode cX12_worked 90 = .ok (.iload_n 1, 1) := by decide +kernel
theorem dX12_worked_91 : decode cX12_worked 91 = .ok (.iload_n 2, 1) := by decide +kernel
theorem dX12_worked_92 : decode cX12_worked 92 = .ok (.imul, 1) := by decide +kernel
theorem dX12_worked_93 : decode cX12_worked 93 = .ok (.ireturn, 1) := by decide +kernel
theorem dX12_worked_94 : decode cX12_worked 94 = .ok (.iload_n 2, 1) := by decide +kernel
theorem dX12_worked_95 : decode cX12_worked 95 = .ok (.ifCond .ne 7, 3) := by decide +kernel
theorem dX12_worked_98 : decode cX12_worked 98 = .ok (.iconst 0, 1) := by decide +kernel
theorem dX12_worked_99 : decode cX12_worked 99 = .ok (.goto 6, 3) := by decide +kernel
theorem dX12_worked_102 : decode cX12_worked 102 = .ok (.iload_n 1, 1) := by decide +kernel
theorem dX12_worked_103 : decode cX12_worked 103 = .ok (.iload_n 2, 1) := by decide +kernel
theorem dX12_worked_104 : decode cX12_worked 104 = .ok (.idiv, 1) := by decide +kernel
theorem dX12_worked_105 : decode cX12_worked 105 = .ok (.ireturn, 1) := by decide +kernel
theorem dX12_oddsOf_0 : decode cX12_oddsOf 0 = .ok (.aload_n 0, 1) := by decide +kernel
theorem dX12_oddsOf_1 : decode cX12_oddsOf 1 = .ok (.getfield 31, 3) := by decide +kernel
theorem dX12_oddsOf_4 : decode cX12_oddsOf 4 = .ok (.aload_n 1, 1) := by decide +kernel
theorem dX12_oddsOf_5 : decode cX12_oddsOf 5 = .ok (.bipush 49, 2) := by decide +kernel
theorem dX12_oddsOf_7 : decode cX12_oddsOf 7 = .ok (.iaload, 1) := by decide +kernel
theorem dX12_oddsOf_8 : decode cX12_oddsOf 8 = .ok (.iaload, 1) := by decide +kernel
theorem dX12_oddsOf_9 : decode cX12_oddsOf 9 = .ok (.istore 4, 2) := by decide +kernel
theorem dX12_oddsOf_11 : decode cX12_oddsOf 11 = .ok (.aload_n 0, 1) := by decide +kernel
theorem dX12_oddsOf_12 : decode cX12_oddsOf 12 = .ok (.getfield 221, 3) := by decide +kernel
theorem dX12_oddsOf_15 : decode cX12_oddsOf 15 = .ok (.ifCond .ne 18, 3) := by decide +kernel
theorem dX12_oddsOf_18 : decode cX12_oddsOf 18 = .ok (.iload 4, 2) := by decide +kernel
theorem dX12_oddsOf_20 : decode cX12_oddsOf 20 = .ok (.aload_n 1, 1) := by decide +kernel
theorem dX12_oddsOf_21 : decode cX12_oddsOf 21 = .ok (.iload_n 2, 1) := by decide +kernel
theorem dX12_oddsOf_22 : decode cX12_oddsOf 22 = .ok (.bipush 10, 2) := by decide +kernel
theorem dX12_oddsOf_24 : decode cX12_oddsOf 24 = .ok (.idiv, 1) := by decide +kernel
theorem dX12_oddsOf_25 : decode cX12_oddsOf 25 = .ok (.invokestatic 253, 3) := by decide +kernel
theorem dX12_oddsOf_28 : decode cX12_oddsOf 28 = .ok (.invokestatic 139, 3) := by decide +kernel
theorem dX12_oddsOf_31 : decode cX12_oddsOf 31 = .ok (.imul, 1) := by decide +kernel
theorem dX12_oddsOf_32 : decode cX12_oddsOf 32 = .ok (.ireturn, 1) := by decide +kernel
theorem dX12_oddsOf_33 : decode cX12_oddsOf 33 = .ok (.iconst 0, 1) := by decide +kernel
theorem dX12_oddsOf_34 : decode cX12_oddsOf 34 = .ok (.istore 5, 2) := by decide +kernel
theorem dX12_oddsOf_36 : decode cX12_oddsOf 36 = .ok (.iconst 0, 1) := by decide +kernel
theorem dX12_oddsOf_37 : decode cX12_oddsOf 37 = .ok (.istore 6, 2) := by decide +kernel
theorem dX12_oddsOf_39 : decode cX12_oddsOf 39 = .ok (.iload 6, 2) := by decide +kernel
theorem dX12_oddsOf_41 : decode cX12_oddsOf 41 = .ok (.aload_n 0, 1) := by decide +kernel
theorem dX12_oddsOf_42 : decode cX12_oddsOf 42 = .ok (.getfield 221, 3) := by decide +kernel
theorem dX12_oddsOf_45 : decode cX12_oddsOf 45 = .ok (.if_icmp .ge 134, 3) := by decide +kernel
theorem dX12_oddsOf_48 : decode cX12_oddsOf 48 = .ok (.aload_n 0, 1) := by decide +kernel
theorem dX12_oddsOf_49 : decode cX12_oddsOf 49 = .ok (.getfield 43, 3) := by decide +kernel
theorem dX12_oddsOf_52 : decode cX12_oddsOf 52 = .ok (.iload 6, 2) := by decide +kernel
theorem dX12_oddsOf_54 : decode cX12_oddsOf 54 = .ok (.iaload, 1) := by decide +kernel
theorem dX12_oddsOf_55 : decode cX12_oddsOf 55 = .ok (.istore 7, 2) := by decide +kernel
theorem dX12_oddsOf_57 : decode cX12_oddsOf 57 = .ok (.iload 7, 2) := by decide +kernel
theorem dX12_oddsOf_59 : decode cX12_oddsOf 59 = .ok (.sipush 3000, 3) := by decide +kernel
theorem dX12_oddsOf_62 : decode cX12_oddsOf 62 = .ok (.if_icmp .ne 25, 3) := by decide +kernel
theorem dX12_oddsOf_65 : decode cX12_oddsOf 65 = .ok (.aload_n 0, 1) := by decide +kernel
theorem dX12_oddsOf_66 : decode cX12_oddsOf 66 = .ok (.getfield 49, 3) := by decide +kernel
theorem dX12_oddsOf_69 : decode cX12_oddsOf 69 = .ok (.iload 5, 2) := by decide +kernel
theorem dX12_oddsOf_71 : decode cX12_oddsOf 71 = .ok (.iconst 1, 1) := by decide +kernel
theorem dX12_oddsOf_72 : decode cX12_oddsOf 72 = .ok (.isub, 1) := by decide +kernel
theorem dX12_oddsOf_73 : decode cX12_oddsOf 73 = .ok (.aload_n 0, 1) := by decide +kernel
theorem dX12_oddsOf_74 : decode cX12_oddsOf 74 = .ok (.getfield 49, 3) := by decide +kernel
theorem dX12_oddsOf_77 : decode cX12_oddsOf 77 = .ok (.iload 5, 2) := by decide +kernel
theorem dX12_oddsOf_79 : decode cX12_oddsOf 79 = .ok (.iconst 1, 1) := by decide +kernel
theorem dX12_oddsOf_80 : decode cX12_oddsOf 80 = .ok (.isub, 1) := by decide +kernel
theorem dX12_oddsOf_81 : decode cX12_oddsOf 81 = .ok (.iaload, 1) := by decide +kernel
theorem dX12_oddsOf_82 : decode cX12_oddsOf 82 = .ok (.ineg, 1) := by decide +kernel
theorem dX12_oddsOf_83 : decode cX12_oddsOf 83 = .ok (.iastore, 1) := by decide +kernel
theorem dX12_oddsOf_84 : decode cX12_oddsOf 84 = .ok (.goto 89, 3) := by decide +kernel
theorem dX12_oddsOf_87 : decode cX12_oddsOf 87 = .ok (.iload 7, 2) := by decide +kernel
theorem dX12_oddsOf_89 : decode cX12_oddsOf 89 = .ok (.sipush 2000, 3) := by decide +kernel
theorem dX12_oddsOf_92 : decode cX12_oddsOf 92 = .ok (.if_icmp .lt 43, 3) := by decide +kernel
theorem dX12_oddsOf_95 : decode cX12_oddsOf 95 = .ok (.iinc 5 (-1), 3) := by decide +kernel
theorem dX12_oddsOf_98 : decode cX12_oddsOf 98 = .ok (.aload_n 0, 1) := by decide +kernel
theorem dX12_oddsOf_99 : decode cX12_oddsOf 99 = .ok (.getfield 49, 3) := by decide +kernel
theorem dX12_oddsOf_102 : decode cX12_oddsOf 102 = .ok (.iload 5, 2) := by decide +kernel
theorem dX12_oddsOf_104 : decode cX12_oddsOf 104 = .ok (.iconst 1, 1) := by decide +kernel
theorem dX12_oddsOf_105 : decode cX12_oddsOf 105 = .ok (.isub, 1) := by decide +kernel
theorem dX12_oddsOf_106 : decode cX12_oddsOf 106 = .ok (.iload 7, 2) := by decide +kernel
theorem dX12_oddsOf_108 : decode cX12_oddsOf 108 = .ok (.sipush 2000, 3) := by decide +kernel
theorem dX12_oddsOf_111 : decode cX12_oddsOf 111 = .ok (.isub, 1) := by decide +kernel
theorem dX12_oddsOf_112 : decode cX12_oddsOf 112 = .ok (.aload_n 0, 1) := by decide +kernel
theorem dX12_oddsOf_113 : decode cX12_oddsOf 113 = .ok (.getfield 49, 3) := by decide +kernel
theorem dX12_oddsOf_116 : decode cX12_oddsOf 116 = .ok (.iload 5, 2) := by decide +kernel
theorem dX12_oddsOf_118 : decode cX12_oddsOf 118 = .ok (.iconst 1, 1) := by decide +kernel
theorem dX12_oddsOf_119 : decode cX12_oddsOf 119 = .ok (.isub, 1) := by decide +kernel
theorem dX12_oddsOf_120 : decode cX12_oddsOf 120 = .ok (.iaload, 1) := by decide +kernel
theorem dX12_oddsOf_121 : decode cX12_oddsOf 121 = .ok (.aload_n 0, 1) := by decide +kernel
theorem dX12_oddsOf_122 : decode cX12_oddsOf 122 = .ok (.getfield 49, 3) := by decide +kernel
theorem dX12_oddsOf_125 : decode cX12_oddsOf 125 = .ok (.iload 5, 2) := by decide +kernel
theorem dX12_oddsOf_127 : decode cX12_oddsOf 127 = .ok (.iaload, 1) := by decide +kernel
theorem dX12_oddsOf_128 : decode cX12_oddsOf 128 = .ok (.invokestatic 301, 3) := by decide +kernel
theorem dX12_oddsOf_131 : decode cX12_oddsOf 131 = .ok (.iastore, 1) := by decide +kernel
theorem dX12_oddsOf_132 : decode cX12_oddsOf 132 = .ok (.goto 41, 3) := by decide +kernel
theorem dX12_oddsOf_135 : decode cX12_oddsOf 135 = .ok (.aload_n 0, 1) := by decide +kernel
theorem dX12_oddsOf_136 : decode cX12_oddsOf 136 = .ok (.getfield 49, 3) := by decide +kernel
theorem dX12_oddsOf_139 : decode cX12_oddsOf 139 = .ok (.iload 5, 2) := by decide +kernel
theorem dX12_oddsOf_141 : decode cX12_oddsOf 141 = .ok (.iload 7, 2) := by decide +kernel
theorem dX12_oddsOf_143 : decode cX12_oddsOf 143 = .ok (.sipush 1000, 3) := by decide +kernel
theorem dX12_oddsOf_146 : decode cX12_oddsOf 146 = .ok (.if_icmp .lt 21, 3) := by decide +kernel
theorem dX12_oddsOf_149 : decode cX12_oddsOf 149 = .ok (.aload_n 0, 1) := by decide +kernel
theorem dX12_oddsOf_150 : decode cX12_oddsOf 150 = .ok (.aload_n 1, 1) := by decide +kernel
theorem dX12_oddsOf_151 : decode cX12_oddsOf 151 = .ok (.iload_n 2, 1) := by decide +kernel
theorem dX12_oddsOf_152 : decode cX12_oddsOf 152 = .ok (.iload 4, 2) := by decide +kernel
theorem dX12_oddsOf_154 : decode cX12_oddsOf 154 = .ok (.iload_n 3, 1) := by decide +kernel
theorem dX12_oddsOf_155 : decode cX12_oddsOf 155 = .ok (.iload 7, 2) := by decide +kernel
theorem dX12_oddsOf_157 : decode cX12_oddsOf 157 = .ok (.sipush 1000, 3) := by decide +kernel
theorem dX12_oddsOf_160 : decode cX12_oddsOf 160 = .ok (.isub, 1) := by decide +kernel
theorem dX12_oddsOf_161 : decode cX12_oddsOf 161 = .ok (.invokevirtual 305, 3) := by decide +kernel
theorem dX12_oddsOf_164 : decode cX12_oddsOf 164 = .ok (.goto 5, 3) := by decide +kernel
theorem dX12_oddsOf_167 : decode cX12_oddsOf 167 = .ok (.iload 7, 2) := by decide +kernel
theorem dX12_oddsOf_169 : decode cX12_oddsOf 169 = .ok (.iastore, 1) := by decide +kernel
theorem dX12_oddsOf_170 : decode cX12_oddsOf 170 = .ok (.iinc 5 1, 3) := by decide +kernel
theorem dX12_oddsOf_173 : decode cX12_oddsOf 173 = .ok (.iinc 6 1, 3) := by decide +kernel
theorem dX12_oddsOf_176 : decode cX12_oddsOf 176 = .ok (.goto (-137), 3) := by decide +kernel
theorem dX12_oddsOf_179 : decode cX12_oddsOf 179 = .ok (.iconst 0, 1) := by decide +kernel
theorem dX12_oddsOf_180 : decode cX12_oddsOf 180 = .ok (.bipush 100, 2) := by decide +kernel
theorem dX12_oddsOf_182 : decode cX12_oddsOf 182 = .ok (.aload_n 0, 1) := by decide +kernel
theorem dX12_oddsOf_183 : decode cX12_oddsOf 183 = .ok (.getfield 49, 3) := by decide +kernel
theorem dX12_oddsOf_186 : decode cX12_oddsOf 186 = .ok (.iconst 0, 1) := by decide +kernel
theorem dX12_oddsOf_187 : decode cX12_oddsOf 187 = .ok (.iaload, 1) := by decide +kernel
theorem dX12_oddsOf_188 : decode cX12_oddsOf 188 = .ok (.invokestatic 152, 3) := by decide +kernel
theorem dX12_oddsOf_191 : decode cX12_oddsOf 191 = .ok (.invokestatic 224, 3) := by decide +kernel
theorem dX12_oddsOf_194 : decode cX12_oddsOf 194 = .ok (.ireturn, 1) := by decide +kernel
theorem dX12_moves_0 : decode cX12_moves 0 = .ok (.aload_n 0, 1) := by decide +kernel
theorem dX12_moves_1 : decode cX12_moves 1 = .ok (.iconst 0, 1) := by decide +kernel
theorem dX12_moves_2 : decode cX12_moves 2 = .ok (.putfield 3, 3) := by decide +kernel
theorem dX12_moves_5 : decode cX12_moves 5 = .ok (.iconst 0, 1) := by decide +kernel
theorem dX12_moves_6 : decode cX12_moves 6 = .ok (.istore_n 1, 1) := by decide +kernel
theorem dX12_moves_7 : decode cX12_moves 7 = .ok (.iconst 0, 1) := by decide +kernel
theorem dX12_moves_8 : decode cX12_moves 8 = .ok (.istore_n 2, 1) := by decide +kernel
theorem dX12_moves_9 : decode cX12_moves 9 = .ok (.iconst (-1), 1) := by decide +kernel
theorem dX12_moves_10 : decode cX12_moves 10 = .ok (.istore_n 3, 1) := by decide +kernel
theorem dX12_moves_11 : decode cX12_moves 11 = .ok (.iconst (-1), 1) := by decide +kernel
theorem dX12_moves_12 : decode cX12_moves 12 = .ok (.istore 4, 2) := by decide +kernel
theorem dX12_moves_14 : decode cX12_moves 14 = .ok (.iconst 0, 1) := by decide +kernel
theorem dX12_moves_15 : decode cX12_moves 15 = .ok (.istore 5, 2) := by decide +kernel
theorem dX12_moves_17 : decode cX12_moves 17 = .ok (.iload 5, 2) := by decide +kernel
theorem dX12_moves_19 : decode cX12_moves 19 = .ok (.sipush 480, 3) := by decide +kernel
theorem dX12_moves_22 : decode cX12_moves 22 = .ok (.if_icmp .ge 55, 3) := by decide +kernel
theorem dX12_moves_25 : decode cX12_moves 25 = .ok (.iload_n 2, 1) := by decide +kernel
theorem dX12_moves_26 : decode cX12_moves 26 = .ok (.aload_n 0, 1) := by decide +kernel
theorem dX12_moves_27 : decode cX12_moves 27 = .ok (.getfield 24, 3) := by decide +kernel
theorem dX12_moves_30 : decode cX12_moves 30 = .ok (.iload 5, 2) := by decide +kernel
theorem dX12_moves_32 : decode cX12_moves 32 = .ok (.invokestatic 292, 3) := by decide +kernel
theorem dX12_moves_35 : decode cX12_moves 35 = .ok (.invokestatic 139, 3) := by decide +kernel
theorem dX12_moves_38 : decode cX12_moves 38 = .ok (.iadd, 1) := by decide +kernel
theorem dX12_moves_39 : decode cX12_moves 39 = .ok (.istore_n 2, 1) := by decide +kernel
theorem dX12_moves_40 : decode cX12_moves 40 = .ok (.aload_n 0, 1) := by decide +kernel
theorem dX12_moves_41 : decode cX12_moves 41 = .ok (.aload_n 0, 1) := by decide +kernel
theorem dX12_moves_42 : decode cX12_moves 42 = .ok (.getfield 24, 3) := by decide +kernel
theorem dX12_moves_45 : decode cX12_moves 45 = .ok (.iload 5, 2) := by decide +kernel
theorem dX12_moves_47 : decode cX12_moves 47 = .ok (.invokevirtual 309, 3) := by decide +kernel
theorem dX12_moves_50 : decode cX12_moves 50 = .ok (.ifCond .eq 21, 3) := by decide +kernel
theorem dX12_moves_53 : decode cX12_moves 53 = .ok (.iload_n 3, 1) := by decide +kernel
theorem dX12_moves_54 : decode cX12_moves 54 = .ok (.ifCond .ge 8, 3) := by decide +kernel
theorem dX12_moves_57 : decode cX12_moves 57 = .ok (.iload 5, 2) := by decide +kernel
theorem dX12_moves_59 : decode cX12_moves 59 = .ok (.goto 4, 3) := by decide +kernel
theorem dX12_moves_62 : decode cX12_moves 62 = .ok (.iload_n 3, 1) := by decide +kernel
theorem dX12_moves_63 : decode cX12_moves 63 = .ok (.istore_n 3, 1) := by decide +kernel
theorem dX12_moves_64 : decode cX12_moves 64 = .ok (.iload 5, 2) := by decide +kernel
theorem dX12_moves_66 : decode cX12_moves 66 = .ok (.istore 4, 2) := by decide +kernel
theorem dX12_moves_68 : decode cX12_moves 68 = .ok (.iinc 1 1, 3) := by decide +kernel
theorem dX12_moves_71 : decode cX12_moves 71 = .ok (.iinc 5 1, 3) := by decide +kernel
theorem dX12_moves_74 : decode cX12_moves 74 = .ok (.goto (-57), 3) := by decide +kernel
theorem dX12_moves_77 : decode cX12_moves 77 = .ok (.aload_n 0, 1) := by decide +kernel
theorem dX12_moves_78 : decode cX12_moves 78 = .ok (.iconst 0, 1) := by decide +kernel
theorem dX12_moves_79 : decode cX12_moves 79 = .ok (.putfield 15, 3) := by decide +kernel
theorem dX12_moves_82 : decode cX12_moves 82 = .ok (.aload_n 0, 1) := by decide +kernel
theorem dX12_moves_83 : decode cX12_moves 83 = .ok (.iload_n 3, 1) := by decide +kernel
theorem dX12_moves_84 : decode cX12_moves 84 = .ok (.i2l, 1) := by decide +kernel
theorem dX12_moves_85 : decode cX12_moves 85 = .ok (.invokevirtual 279, 3) := by decide +kernel
theorem dX12_moves_88 : decode cX12_moves 88 = .ok (.aload_n 0, 1) := by decide +kernel
theorem dX12_moves_89 : decode cX12_moves 89 = .ok (.iload 4, 2) := by decide +kernel
theorem dX12_moves_91 : decode cX12_moves 91 = .ok (.i2l, 1) := by decide +kernel
theorem dX12_moves_92 : decode cX12_moves 92 = .ok (.invokevirtual 279, 3) := by decide +kernel
theorem dX12_moves_95 : decode cX12_moves 95 = .ok (.aload_n 0, 1) := by decide +kernel
theorem dX12_moves_96 : decode cX12_moves 96 = .ok (.iload_n 2, 1) := by decide +kernel
theorem dX12_moves_97 : decode cX12_moves 97 = .ok (.i2l, 1) := by decide +kernel
theorem dX12_moves_98 : decode cX12_moves 98 = .ok (.invokevirtual 279, 3) := by decide +kernel
theorem dX12_moves_101 : decode cX12_moves 101 = .ok (.iload_n 1, 1) := by decide +kernel
theorem dX12_moves_102 : decode cX12_moves 102 = .ok (.ireturn, 1) := by decide +kernel
theorem dX12_odds_0 : decode cX12_odds 0 = .ok (.aload_n 0, 1) := by decide +kernel
theorem dX12_odds_1 : decode cX12_odds 1 = .ok (.iconst 0, 1) := by decide +kernel
theorem dX12_odds_2 : decode cX12_odds 2 = .ok (.putfield 3, 3) := by decide +kernel
theorem dX12_odds_5 : decode cX12_odds 5 = .ok (.iload_n 2, 1) := by decide +kernel
theorem dX12_odds_6 : decode cX12_odds 6 = .ok (.i2l, 1) := by decide +kernel
theorem dX12_odds_7 : decode cX12_odds 7 = .ok (.lconst 0, 1) := by decide +kernel
theorem dX12_odds_8 : decode cX12_odds 8 = .ok (.lconst 1, 1) := by decide +kernel
theorem dX12_odds_9 : decode cX12_odds 9 = .ok (.invokestatic 135, 3) := by decide +kernel
theorem dX12_odds_12 : decode cX12_odds 12 = .ok (.ifCond .ne 5, 3) := by decide +kernel
theorem dX12_odds_15 : decode cX12_odds 15 = .ok (.iconst (-1), 1) := by decide +kernel
theorem dX12_odds_16 : decode cX12_odds 16 = .ok (.ireturn, 1) := by decide +kernel
theorem dX12_odds_17 : decode cX12_odds 17 = .ok (.aload_n 0, 1) := by decide +kernel
theorem dX12_odds_18 : decode cX12_odds 18 = .ok (.getfield 24, 3) := by decide +kernel
theorem dX12_odds_21 : decode cX12_odds 21 = .ok (.iload_n 1, 1) := by decide +kernel
theorem dX12_odds_22 : decode cX12_odds 22 = .ok (.invokestatic 292, 3) := by decide +kernel
theorem dX12_odds_25 : decode cX12_odds 25 = .ok (.ifCond .ne 6, 3) := by decide +kernel
theorem dX12_odds_28 : decode cX12_odds 28 = .ok (.bipush (-2), 2) := by decide +kernel
theorem dX12_odds_30 : decode cX12_odds 30 = .ok (.ireturn, 1) := by decide +kernel
theorem dX12_odds_31 : decode cX12_odds 31 = .ok (.aload_n 0, 1) := by decide +kernel
theorem dX12_odds_32 : decode cX12_odds 32 = .ok (.aload_n 0, 1) := by decide +kernel
theorem dX12_odds_33 : decode cX12_odds 33 = .ok (.getfield 24, 3) := by decide +kernel
theorem dX12_odds_36 : decode cX12_odds 36 = .ok (.iload_n 1, 1) := by decide +kernel
theorem dX12_odds_37 : decode cX12_odds 37 = .ok (.invokevirtual 309, 3) := by decide +kernel
theorem dX12_odds_40 : decode cX12_odds 40 = .ok (.istore_n 3, 1) := by decide +kernel
theorem dX12_odds_41 : decode cX12_odds 41 = .ok (.aload_n 0, 1) := by decide +kernel
theorem dX12_odds_42 : decode cX12_odds 42 = .ok (.iconst 0, 1) := by decide +kernel
theorem dX12_odds_43 : decode cX12_odds 43 = .ok (.putfield 15, 3) := by decide +kernel
theorem dX12_odds_46 : decode cX12_odds 46 = .ok (.aload_n 0, 1) := by decide +kernel
theorem dX12_odds_47 : decode cX12_odds 47 = .ok (.iload_n 3, 1) := by decide +kernel
theorem dX12_odds_48 : decode cX12_odds 48 = .ok (.invokestatic 139, 3) := by decide +kernel
theorem dX12_odds_51 : decode cX12_odds 51 = .ok (.i2l, 1) := by decide +kernel
theorem dX12_odds_52 : decode cX12_odds 52 = .ok (.invokevirtual 279, 3) := by decide +kernel
theorem dX12_odds_55 : decode cX12_odds 55 = .ok (.iload_n 3, 1) := by decide +kernel
theorem dX12_odds_56 : decode cX12_odds 56 = .ok (.ifCond .eq 16, 3) := by decide +kernel
theorem dX12_odds_59 : decode cX12_odds 59 = .ok (.aload_n 0, 1) := by decide +kernel
theorem dX12_odds_60 : decode cX12_odds 60 = .ok (.aload_n 0, 1) := by decide +kernel
theorem dX12_odds_61 : decode cX12_odds 61 = .ok (.getfield 24, 3) := by decide +kernel
theorem dX12_odds_64 : decode cX12_odds 64 = .ok (.iload_n 1, 1) := by decide +kernel
theorem dX12_odds_65 : decode cX12_odds 65 = .ok (.iload_n 2, 1) := by decide +kernel
theorem dX12_odds_66 : decode cX12_odds 66 = .ok (.invokevirtual 312, 3) := by decide +kernel
theorem dX12_odds_69 : decode cX12_odds 69 = .ok (.goto 5, 3) := by decide +kernel
theorem dX12_odds_72 : decode cX12_odds 72 = .ok (.bipush 100, 2) := by decide +kernel
theorem dX12_odds_74 : decode cX12_odds 74 = .ok (.ireturn, 1) := by decide +kernel
theorem dX12_bestMove_0 : decode cX12_bestMove 0 = .ok (.iconst (-1), 1) := by decide +kernel
theorem dX12_bestMove_1 : decode cX12_bestMove 1 = .ok (.istore_n 2, 1) := by decide +kernel
theorem dX12_bestMove_2 : decode cX12_bestMove 2 = .ok (.aload_n 0, 1) := by decide +kernel
theorem dX12_bestMove_3 : decode cX12_bestMove 3 = .ok (.bipush 101, 2) := by decide +kernel
theorem dX12_bestMove_5 : decode cX12_bestMove 5 = .ok (.putfield 316, 3) := by decide +kernel
theorem dX12_bestMove_8 : decode cX12_bestMove 8 = .ok (.iconst 0, 1) := by decide +kernel
theorem dX12_bestMove_9 : decode cX12_bestMove 9 = .ok (.istore_n 3, 1) := by decide +kernel
theorem dX12_bestMove_10 : decode cX12_bestMove 10 = .ok (.iload_n 3, 1) := by decide +kernel
theorem dX12_bestMove_11 : decode cX12_bestMove 11 = .ok (.iconst 2, 1) := by decide +kernel
theorem dX12_bestMove_12 : decode cX12_bestMove 12 = .ok (.if_icmp .ge 69, 3) := by decide +kernel
theorem dX12_bestMove_15 : decode cX12_bestMove 15 = .ok (.iconst 0, 1) := by decide +kernel
theorem dX12_bestMove_16 : decode cX12_bestMove 16 = .ok (.istore 4, 2) := by decide +kernel
theorem dX12_bestMove_18 : decode cX12_bestMove 18 = .ok (.iload 4, 2) := by decide +kernel
theorem dX12_bestMove_20 : decode cX12_bestMove 20 = .ok (.sipush 480, 3) := by decide +kernel
theorem dX12_bestMove_23 : decode cX12_bestMove 23 = .ok (.if_icmp .ge 52, 3) := by decide +kernel
theorem dX12_bestMove_26 : decode cX12_bestMove 26 = .ok (.aload_n 0, 1) := by decide +kernel
theorem dX12_bestMove_27 : decode cX12_bestMove 27 = .ok (.aload_n 1, 1) := by decide +kernel
theorem dX12_bestMove_28 : decode cX12_bestMove 28 = .ok (.iload 4, 2) := by decide +kernel
theorem dX12_bestMove_30 : decode cX12_bestMove 30 = .ok (.invokevirtual 309, 3) := by decide +kernel
theorem dX12_bestMove_33 : decode cX12_bestMove 33 = .ok (.ifCond .eq 36, 3) := by decide +kernel
theorem dX12_bestMove_36 : decode cX12_bestMove 36 = .ok (.aload_n 0, 1) := by decide +kernel
theorem dX12_bestMove_37 : decode cX12_bestMove 37 = .ok (.aload_n 1, 1) := by decide +kernel
theorem dX12_bestMove_38 : decode cX12_bestMove 38 = .ok (.iload 4, 2) := by decide +kernel
theorem dX12_bestMove_40 : decode cX12_bestMove 40 = .ok (.iload_n 3, 1) := by decide +kernel
theorem dX12_bestMove_41 : decode cX12_bestMove 41 = .ok (.invokevirtual 312, 3) := by decide +kernel
theorem dX12_bestMove_44 : decode cX12_bestMove 44 = .ok (.istore 5, 2) := by decide +kernel
theorem dX12_bestMove_46 : decode cX12_bestMove 46 = .ok (.iload 5, 2) := by decide +kernel
theorem dX12_bestMove_48 : decode cX12_bestMove 48 = .ok (.aload_n 0, 1) := by decide +kernel
theorem dX12_bestMove_49 : decode cX12_bestMove 49 = .ok (.getfield 316, 3) := by decide +kernel
theorem dX12_bestMove_52 : decode cX12_bestMove 52 = .ok (.if_icmp .ge 17, 3) := by decide +kernel
theorem dX12_bestMove_55 : decode cX12_bestMove 55 = .ok (.iload 4, 2) := by decide +kernel
theorem dX12_bestMove_57 : decode cX12_bestMove 57 = .ok (.istore_n 2, 1) := by decide +kernel
theorem dX12_bestMove_58 : decode cX12_bestMove 58 = .ok (.aload_n 0, 1) := by decide +kernel
theorem dX12_bestMove_59 : decode cX12_bestMove 59 = .ok (.iload 5, 2) := by decide +kernel
theorem dX12_bestMove_61 : decode cX12_bestMove 61 = .ok (.putfield 316, 3) := by decide +kernel
theorem dX12_bestMove_64 : decode cX12_bestMove 64 = .ok (.aload_n 0, 1) := by decide +kernel
theorem dX12_bestMove_65 : decode cX12_bestMove 65 = .ok (.iload_n 3, 1) := by decide +kernel
theorem dX12_bestMove_66 : decode cX12_bestMove 66 = .ok (.putfield 319, 3) := by decide +kernel
theorem dX12_bestMove_69 : decode cX12_bestMove 69 = .ok (.iinc 4 1, 3) := by decide +kernel
theorem dX12_bestMove_72 : decode cX12_bestMove 72 = .ok (.goto (-54), 3) := by decide +kernel
theorem dX12_bestMove_75 : decode cX12_bestMove 75 = .ok (.iinc 3 1, 3) := by decide +kernel
theorem dX12_bestMove_78 : decode cX12_bestMove 78 = .ok (.goto (-68), 3) := by decide +kernel
theorem dX12_bestMove_81 : decode cX12_bestMove 81 = .ok (.iload_n 2, 1) := by decide +kernel
theorem dX12_bestMove_82 : decode cX12_bestMove 82 = .ok (.ireturn, 1) := by decide +kernel
theorem dX12_best_0 : decode cX12_best 0 = .ok (.aload_n 0, 1) := by decide +kernel
theorem dX12_best_1 : decode cX12_best 1 = .ok (.iconst 0, 1) := by decide +kernel
theorem dX12_best_2 : decode cX12_best 2 = .ok (.putfield 3, 3) := by decide +kernel
theorem dX12_best_5 : decode cX12_best 5 = .ok (.aload_n 0, 1) := by decide +kernel
theorem dX12_best_6 : decode cX12_best 6 = .ok (.aload_n 0, 1) := by decide +kernel
theorem dX12_best_7 : decode cX12_best 7 = .ok (.getfield 24, 3) := by decide +kernel
theorem dX12_best_10 : decode cX12_best 10 = .ok (.invokevirtual 322, 3) := by decide +kernel
theorem dX12_best_13 : decode cX12_best 13 = .ok (.istore_n 1, 1) := by decide +kernel
theorem dX12_best_14 : decode cX12_best 14 = .ok (.iload_n 1, 1) := by decide +kernel
theorem dX12_best_15 : decode cX12_best 15 = .ok (.ifCond .ge 6, 3) := by decide +kernel
theorem dX12_best_18 : decode cX12_best 18 = .ok (.bipush (-2), 2) := by decide +kernel
theorem dX12_best_20 : decode cX12_best 20 = .ok (.ireturn, 1) := by decide +kernel
theorem dX12_best_21 : decode cX12_best 21 = .ok (.aload_n 0, 1) := by decide +kernel
theorem dX12_best_22 : decode cX12_best 22 = .ok (.iconst 0, 1) := by decide +kernel
theorem dX12_best_23 : decode cX12_best 23 = .ok (.putfield 15, 3) := by decide +kernel
theorem dX12_best_26 : decode cX12_best 26 = .ok (.aload_n 0, 1) := by decide +kernel
theorem dX12_best_27 : decode cX12_best 27 = .ok (.aload_n 0, 1) := by decide +kernel
theorem dX12_best_28 : decode cX12_best 28 = .ok (.getfield 316, 3) := by decide +kernel
theorem dX12_best_31 : decode cX12_best 31 = .ok (.i2l, 1) := by decide +kernel
theorem dX12_best_32 : decode cX12_best 32 = .ok (.invokevirtual 279, 3) := by decide +kernel
theorem dX12_best_35 : decode cX12_best 35 = .ok (.aload_n 0, 1) := by decide +kernel
theorem dX12_best_36 : decode cX12_best 36 = .ok (.aload_n 0, 1) := by decide +kernel
theorem dX12_best_37 : decode cX12_best 37 = .ok (.getfield 319, 3) := by decide +kernel
theorem dX12_best_40 : decode cX12_best 40 = .ok (.i2l, 1) := by decide +kernel
theorem dX12_best_41 : decode cX12_best 41 = .ok (.invokevirtual 279, 3) := by decide +kernel
theorem dX12_best_44 : decode cX12_best 44 = .ok (.iload_n 1, 1) := by decide +kernel
theorem dX12_best_45 : decode cX12_best 45 = .ok (.ireturn, 1) := by decide +kernel
theorem dX12_safeMoves_0 : decode cX12_safeMoves 0 = .ok (.iconst 0, 1) := by decide +kernel
theorem dX12_safeMoves_1 : decode cX12_safeMoves 1 = .ok (.istore_n 2, 1) := by decide +kernel
theorem dX12_safeMoves_2 : decode cX12_safeMoves 2 = .ok (.iconst 0, 1) := by decide +kernel
theorem dX12_safeMoves_3 : decode cX12_safeMoves 3 = .ok (.istore_n 3, 1) := by decide +kernel
theorem dX12_safeMoves_4 : decode cX12_safeMoves 4 = .ok (.iload_n 3, 1) := by decide +kernel
theorem dX12_safeMoves_5 : decode cX12_safeMoves 5 = .ok (.sipush 480, 3) := by decide +kernel
theorem dX12_safeMoves_8 : decode cX12_safeMoves 8 = .ok (.if_icmp .ge 21, 3) := by decide +kernel
theorem dX12_safeMoves_11 : decode cX12_safeMoves 11 = .ok (.iload_n 2, 1) := by decide +kernel
theorem dX12_safeMoves_12 : decode cX12_safeMoves 12 = .ok (.aload_n 0, 1) := by decide +kernel
theorem dX12_safeMoves_13 : decode cX12_safeMoves 13 = .ok (.aload_n 1, 1) := by decide +kernel
theorem dX12_safeMoves_14 : decode cX12_safeMoves 14 = .ok (.iload_n 3, 1) := by decide +kernel
theorem dX12_safeMoves_15 : decode cX12_safeMoves 15 = .ok (.invokevirtual 309, 3) := by decide +kernel
theorem dX12_safeMoves_18 : decode cX12_safeMoves 18 = .ok (.invokestatic 139, 3) := by decide +kernel
theorem dX12_safeMoves_21 : decode cX12_safeMoves 21 = .ok (.iadd, 1) := by decide +kernel
theorem dX12_safeMoves_22 : decode cX12_safeMoves 22 = .ok (.istore_n 2, 1) := by decide +kernel
theorem dX12_safeMoves_23 : decode cX12_safeMoves 23 = .ok (.iinc 3 1, 3) := by decide +kernel
theorem dX12_safeMoves_26 : decode cX12_safeMoves 26 = .ok (.goto (-22), 3) := by decide +kernel
theorem dX12_safeMoves_29 : decode cX12_safeMoves 29 = .ok (.iload_n 2, 1) := by decide +kernel
theorem dX12_safeMoves_30 : decode cX12_safeMoves 30 = .ok (.ireturn, 1) := by decide +kernel
theorem dX12_leave_0 : decode cX12_leave 0 = .ok (.aload_n 0, 1) := by decide +kernel
theorem dX12_leave_1 : decode cX12_leave 1 = .ok (.iconst 0, 1) := by decide +kernel
theorem dX12_leave_2 : decode cX12_leave 2 = .ok (.putfield 3, 3) := by decide +kernel
theorem dX12_leave_5 : decode cX12_leave 5 = .ok (.bipush (-2), 2) := by decide +kernel
theorem dX12_leave_7 : decode cX12_leave 7 = .ok (.istore_n 1, 1) := by decide +kernel
theorem dX12_leave_8 : decode cX12_leave 8 = .ok (.iconst 0, 1) := by decide +kernel
theorem dX12_leave_9 : decode cX12_leave 9 = .ok (.istore_n 2, 1) := by decide +kernel
theorem dX12_leave_10 : decode cX12_leave 10 = .ok (.iconst 0, 1) := by decide +kernel
theorem dX12_leave_11 : decode cX12_leave 11 = .ok (.istore_n 3, 1) := by decide +kernel
theorem dX12_leave_12 : decode cX12_leave 12 = .ok (.iconst 0, 1) := by decide +kernel
theorem dX12_leave_13 : decode cX12_leave 13 = .ok (.istore 4, 2) := by decide +kernel
theorem dX12_leave_15 : decode cX12_leave 15 = .ok (.iload 4, 2) := by decide +kernel
theorem dX12_leave_17 : decode cX12_leave 17 = .ok (.sipush 480, 3) := by decide +kernel
theorem dX12_leave_20 : decode cX12_leave 20 = .ok (.if_icmp .ge 101, 3) := by decide +kernel
theorem dX12_leave_23 : decode cX12_leave 23 = .ok (.aload_n 0, 1) := by decide +kernel
theorem dX12_leave_24 : decode cX12_leave 24 = .ok (.aload_n 0, 1) := by decide +kernel
theorem dX12_leave_25 : decode cX12_leave 25 = .ok (.getfield 24, 3) := by decide +kernel
theorem dX12_leave_28 : decode cX12_leave 28 = .ok (.iload 4, 2) := by decide +kernel
theorem dX12_leave_30 : decode cX12_leave 30 = .ok (.invokevirtual 309, 3) := by decide +kernel
theorem dX12_leave_33 : decode cX12_leave 33 = .ok (.ifCond .ne 6, 3) := by decide +kernel
theorem dX12_leave_36 : decode cX12_leave 36 = .ok (.goto 79, 3) := by decide +kernel
theorem dX12_leave_39 : decode cX12_leave 39 = .ok (.aload_n 0, 1) := by decide +kernel
theorem dX12_leave_40 : decode cX12_leave 40 = .ok (.getfield 24, 3) := by decide +kernel
theorem dX12_leave_43 : decode cX12_leave 43 = .ok (.aload_n 0, 1) := by decide +kernel
theorem dX12_leave_44 : decode cX12_leave 44 = .ok (.getfield 64, 3) := by decide +kernel
theorem dX12_leave_47 : decode cX12_leave 47 = .ok (.invokestatic 259, 3) := by decide +kernel
theorem dX12_leave_50 : decode cX12_leave 50 = .ok (.aload_n 0, 1) := by decide +kernel
theorem dX12_leave_51 : decode cX12_leave 51 = .ok (.aload_n 0, 1) := by decide +kernel
theorem dX12_leave_52 : decode cX12_leave 52 = .ok (.getfield 64, 3) := by decide +kernel
theorem dX12_leave_55 : decode cX12_leave 55 = .ok (.iload 4, 2) := by decide +kernel
theorem dX12_leave_57 : decode cX12_leave 57 = .ok (.invokevirtual 295, 3) := by decide +kernel
theorem dX12_leave_60 : decode cX12_leave 60 = .ok (.pop, 1) := by decide +kernel
theorem dX12_leave_61 : decode cX12_leave 61 = .ok (.aload_n 0, 1) := by decide +kernel
theorem dX12_leave_62 : decode cX12_leave 62 = .ok (.aload_n 0, 1) := by decide +kernel
theorem dX12_leave_63 : decode cX12_leave 63 = .ok (.getfield 64, 3) := by decide +kernel
theorem dX12_leave_66 : decode cX12_leave 66 = .ok (.invokevirtual 325, 3) := by decide +kernel
theorem dX12_leave_69 : decode cX12_leave 69 = .ok (.istore 5, 2) := by decide +kernel
theorem dX12_leave_71 : decode cX12_leave 71 = .ok (.aload_n 0, 1) := by decide +kernel
theorem dX12_leave_72 : decode cX12_leave 72 = .ok (.aload_n 0, 1) := by decide +kernel
theorem dX12_leave_73 : decode cX12_leave 73 = .ok (.getfield 24, 3) := by decide +kernel
theorem dX12_leave_76 : decode cX12_leave 76 = .ok (.iload 4, 2) := by decide +kernel
theorem dX12_leave_78 : decode cX12_leave 78 = .ok (.iconst 0, 1) := by decide +kernel
theorem dX12_leave_79 : decode cX12_leave 79 = .ok (.invokevirtual 312, 3) := by decide +kernel
theorem dX12_leave_82 : decode cX12_leave 82 = .ok (.istore 6, 2) := by decide +kernel
theorem dX12_leave_84 : decode cX12_leave 84 = .ok (.iload_n 1, 1) := by decide +kernel
theorem dX12_leave_85 : decode cX12_leave 85 = .ok (.ifCond .lt 21, 3) := by decide +kernel
theorem dX12_leave_88 : decode cX12_leave 88 = .ok (.iload 5, 2) := by decide +kernel
theorem dX12_leave_90 : decode cX12_leave 90 = .ok (.iload_n 2, 1) := by decide +kernel
theorem dX12_leave_91 : decode cX12_leave 91 = .ok (.if_icmp .lt 15, 3) := by decide +kernel
theorem dX12_leave_94 : decode cX12_leave 94 = .ok (.iload 5, 2) := by decide +kernel
theorem dX12_leave_96 : decode cX12_leave 96 = .ok (.iload_n 2, 1) := by decide +kernel
theorem dX12_leave_97 : decode cX12_leave 97 = .ok (.if_icmp .ne 18, 3) := by decide +kernel
theorem dX12_leave_100 : decode cX12_leave 100 = .ok (.iload 6, 2) := by decide +kernel
theorem dX12_leave_102 : decode cX12_leave 102 = .ok (.iload_n 3, 1) := by decide +kernel
theorem dX12_leave_103 : decode cX12_leave 103 = .ok (.if_icmp .ge 12, 3) := by decide +kernel
theorem dX12_leave_106 : decode cX12_leave 106 = .ok (.iload 4, 2) := by decide +kernel
theorem dX12_leave_108 : decode cX12_leave 108 = .ok (.istore_n 1, 1) := by decide +kernel
theorem dX12_leave_109 : decode cX12_leave 109 = .ok (.iload 5, 2) := by decide +kernel
theorem dX12_leave_111 : decode cX12_leave 111 = .ok (.istore_n 2, 1) := by decide +kernel
theorem dX12_leave_112 : decode cX12_leave 112 = .ok (.iload 6, 2) := by decide +kernel
theorem dX12_leave_114 : decode cX12_leave 114 = .ok (.istore_n 3, 1) := by decide +kernel
theorem dX12_leave_115 : decode cX12_leave 115 = .ok (.iinc 4 1, 3) := by decide +kernel
theorem dX12_leave_118 : decode cX12_leave 118 = .ok (.goto (-103), 3) := by decide +kernel
theorem dX12_leave_121 : decode cX12_leave 121 = .ok (.iload_n 1, 1) := by decide +kernel
theorem dX12_leave_122 : decode cX12_leave 122 = .ok (.ifCond .ge 6, 3) := by decide +kernel
theorem dX12_leave_125 : decode cX12_leave 125 = .ok (.bipush (-2), 2) := by decide +kernel
theorem dX12_leave_127 : decode cX12_leave 127 = .ok (.ireturn, 1) := by decide +kernel
theorem dX12_leave_128 : decode cX12_leave 128 = .ok (.aload_n 0, 1) := by decide +kernel
theorem dX12_leave_129 : decode cX12_leave 129 = .ok (.iconst 0, 1) := by decide +kernel
theorem dX12_leave_130 : decode cX12_leave 130 = .ok (.putfield 15, 3) := by decide +kernel
theorem dX12_leave_133 : decode cX12_leave 133 = .ok (.aload_n 0, 1) := by decide +kernel
theorem dX12_leave_134 : decode cX12_leave 134 = .ok (.iload_n 2, 1) := by decide +kernel
theorem dX12_leave_135 : decode cX12_leave 135 = .ok (.i2l, 1) := by decide +kernel
theorem dX12_leave_136 : decode cX12_leave 136 = .ok (.invokevirtual 279, 3) := by decide +kernel
theorem dX12_leave_139 : decode cX12_leave 139 = .ok (.aload_n 0, 1) := by decide +kernel
theorem dX12_leave_140 : decode cX12_leave 140 = .ok (.iload_n 3, 1) := by decide +kernel
theorem dX12_leave_141 : decode cX12_leave 141 = .ok (.i2l, 1) := by decide +kernel
theorem dX12_leave_142 : decode cX12_leave 142 = .ok (.invokevirtual 279, 3) := by decide +kernel
theorem dX12_leave_145 : decode cX12_leave 145 = .ok (.iload_n 1, 1) := by decide +kernel
theorem dX12_leave_146 : decode cX12_leave 146 = .ok (.ireturn, 1) := by decide +kernel
theorem dX12_where_0 : decode cX12_where 0 = .ok (.aload_n 0, 1) := by decide +kernel
theorem dX12_where_1 : decode cX12_where 1 = .ok (.iconst 0, 1) := by decide +kernel
theorem dX12_where_2 : decode cX12_where 2 = .ok (.putfield 3, 3) := by decide +kernel
theorem dX12_where_5 : decode cX12_where 5 = .ok (.aload_n 0, 1) := by decide +kernel
theorem dX12_where_6 : decode cX12_where 6 = .ok (.getfield 24, 3) := by decide +kernel
theorem dX12_where_9 : decode cX12_where 9 = .ok (.iload_n 1, 1) := by decide +kernel
theorem dX12_where_10 : decode cX12_where 10 = .ok (.invokestatic 244, 3) := by decide +kernel
theorem dX12_where_13 : decode cX12_where 13 = .ok (.ifCond .ne 5, 3) := by decide +kernel
theorem dX12_where_16 : decode cX12_where 16 = .ok (.iconst (-1), 1) := by decide +kernel
theorem dX12_where_17 : decode cX12_where 17 = .ok (.ireturn, 1) := by decide +kernel
theorem dX12_where_18 : decode cX12_where 18 = .ok (.bipush (-2), 2) := by decide +kernel
theorem dX12_where_20 : decode cX12_where 20 = .ok (.istore_n 2, 1) := by decide +kernel
theorem dX12_where_21 : decode cX12_where 21 = .ok (.iconst 0, 1) := by decide +kernel
theorem dX12_where_22 : decode cX12_where 22 = .ok (.istore_n 3, 1) := by decide +kernel
theorem dX12_where_23 : decode cX12_where 23 = .ok (.iconst 0, 1) := by decide +kernel
theorem dX12_where_24 : decode cX12_where 24 = .ok (.istore 4, 2) := by decide +kernel
theorem dX12_where_26 : decode cX12_where 26 = .ok (.iload 4, 2) := by decide +kernel
theorem dX12_where_28 : decode cX12_where 28 = .ok (.iconst 3, 1) := by decide +kernel
theorem dX12_where_29 : decode cX12_where 29 = .ok (.if_icmp .ge 103, 3) := by decide +kernel
theorem dX12_where_32 : decode cX12_where 32 = .ok (.bipush 10, 2) := by decide +kernel
theorem dX12_where_34 : decode cX12_where 34 = .ok (.iload_n 1, 1) := by decide +kernel
theorem dX12_where_35 : decode cX12_where 35 = .ok (.imul, 1) := by decide +kernel
theorem dX12_where_36 : decode cX12_where 36 = .ok (.iload 4, 2) := by decide +kernel
theorem dX12_where_38 : decode cX12_where 38 = .ok (.iadd, 1) := by decide +kernel
theorem dX12_where_39 : decode cX12_where 39 = .ok (.istore 5, 2) := by decide +kernel
theorem dX12_where_41 : decode cX12_where 41 = .ok (.aload_n 0, 1) := by decide +kernel
theorem dX12_where_42 : decode cX12_where 42 = .ok (.aload_n 0, 1) := by decide +kernel
theorem dX12_where_43 : decode cX12_where 43 = .ok (.getfield 24, 3) := by decide +kernel
theorem dX12_where_46 : decode cX12_where 46 = .ok (.iload 5, 2) := by decide +kernel
theorem dX12_where_48 : decode cX12_where 48 = .ok (.invokevirtual 309, 3) := by decide +kernel
theorem dX12_where_51 : decode cX12_where 51 = .ok (.ifCond .ne 6, 3) := by decide +kernel
theorem dX12_where_54 : decode cX12_where 54 = .ok (.goto 72, 3) := by decide +kernel
theorem dX12_where_57 : decode cX12_where 57 = .ok (.aload_n 0, 1) := by decide +kernel
theorem dX12_where_58 : decode cX12_where 58 = .ok (.getfield 24, 3) := by decide +kernel
theorem dX12_where_61 : decode cX12_where 61 = .ok (.aload_n 0, 1) := by decide +kernel
theorem dX12_where_62 : decode cX12_where 62 = .ok (.getfield 64, 3) := by decide +kernel
theorem dX12_where_65 : decode cX12_where 65 = .ok (.invokestatic 259, 3) := by decide +kernel
theorem dX12_where_68 : decode cX12_where 68 = .ok (.aload_n 0, 1) := by decide +kernel
theorem dX12_where_69 : decode cX12_where 69 = .ok (.aload_n 0, 1) := by decide +kernel
theorem dX12_where_70 : decode cX12_where 70 = .ok (.getfield 64, 3) := by decide +kernel
theorem dX12_where_73 : decode cX12_where 73 = .ok (.iload 5, 2) := by decide +kernel
theorem dX12_where_75 : decode cX12_where 75 = .ok (.invokevirtual 295, 3) := by decide +kernel
theorem dX12_where_78 : decode cX12_where 78 = .ok (.pop, 1) := by decide +kernel
theorem dX12_where_79 : decode cX12_where 79 = .ok (.aload_n 0, 1) := by decide +kernel
theorem dX12_where_80 : decode cX12_where 80 = .ok (.aload_n 0, 1) := by decide +kernel
theorem dX12_where_81 : decode cX12_where 81 = .ok (.getfield 64, 3) := by decide +kernel
theorem dX12_where_84 : decode cX12_where 84 = .ok (.invokevirtual 240, 3) := by decide +kernel
theorem dX12_where_87 : decode cX12_where 87 = .ok (.pop, 1) := by decide +kernel
theorem dX12_where_88 : decode cX12_where 88 = .ok (.aload_n 0, 1) := by decide +kernel
theorem dX12_where_89 : decode cX12_where 89 = .ok (.getfield 231, 3) := by decide +kernel
theorem dX12_where_92 : decode cX12_where 92 = .ok (.ifCond .ge 7, 3) := by decide +kernel
theorem dX12_where_95 : decode cX12_where 95 = .ok (.iconst 0, 1) := by decide +kernel
theorem dX12_where_96 : decode cX12_where 96 = .ok (.goto 12, 3) := by decide +kernel
theorem dX12_where_99 : decode cX12_where 99 = .ok (.aload_n 0, 1) := by decide +kernel
theorem dX12_where_100 : decode cX12_where 100 = .ok (.getfield 58, 3) := by decide +kernel
theorem dX12_where_103 : decode cX12_where 103 = .ok (.aload_n 0, 1) := by decide +kernel
theorem dX12_where_104 : decode cX12_where 104 = .ok (.getfield 231, 3) := by decide +kernel
theorem dX12_where_107 : decode cX12_where 107 = .ok (.iaload, 1) := by decide +kernel
theorem dX12_where_108 : decode cX12_where 108 = .ok (.istore 6, 2) := by decide +kernel
theorem dX12_where_110 : decode cX12_where 110 = .ok (.iload_n 2, 1) := by decide +kernel
theorem dX12_where_111 : decode cX12_where 111 = .ok (.ifCond .lt 9, 3) := by decide +kernel
theorem dX12_where_114 : decode cX12_where 114 = .ok (.iload 6, 2) := by decide +kernel
theorem dX12_where_116 : decode cX12_where 116 = .ok (.iload_n 3, 1) := by decide +kernel
theorem dX12_where_117 : decode cX12_where 117 = .ok (.if_icmp .le 9, 3) := by decide +kernel
theorem dX12_where_120 : decode cX12_where 120 = .ok (.iload 4, 2) := by decide +kernel
theorem dX12_where_122 : decode cX12_where 122 = .ok (.istore_n 2, 1) := by decide +kernel
theorem dX12_where_123 : decode cX12_where 123 = .ok (.iload 6, 2) := by decide +kernel
theorem dX12_where_125 : decode cX12_where 125 = .ok (.istore_n 3, 1) := by decide +kernel
theorem dX12_where_126 : decode cX12_where 126 = .ok (.iinc 4 1, 3) := by decide +kernel
theorem dX12_where_129 : decode cX12_where 129 = .ok (.goto (-103), 3) := by decide +kernel
theorem dX12_where_132 : decode cX12_where 132 = .ok (.iload_n 2, 1) := by decide +kernel
theorem dX12_where_133 : decode cX12_where 133 = .ok (.ifCond .ge 6, 3) := by decide +kernel
theorem dX12_where_136 : decode cX12_where 136 = .ok (.bipush (-2), 2) := by decide +kernel
theorem dX12_where_138 : decode cX12_where 138 = .ok (.ireturn, 1) := by decide +kernel
theorem dX12_where_139 : decode cX12_where 139 = .ok (.aload_n 0, 1) := by decide +kernel
theorem dX12_where_140 : decode cX12_where 140 = .ok (.iconst 0, 1) := by decide +kernel
theorem dX12_where_141 : decode cX12_where 141 = .ok (.putfield 15, 3) := by decide +kernel
theorem dX12_where_144 : decode cX12_where 144 = .ok (.aload_n 0, 1) := by decide +kernel
theorem dX12_where_145 : decode cX12_where 145 = .ok (.iload_n 3, 1) := by decide +kernel
theorem dX12_where_146 : decode cX12_where 146 = .ok (.i2l, 1) := by decide +kernel
theorem dX12_where_147 : decode cX12_where 147 = .ok (.invokevirtual 279, 3) := by decide +kernel
theorem dX12_where_150 : decode cX12_where 150 = .ok (.iload_n 2, 1) := by decide +kernel
theorem dX12_where_151 : decode cX12_where 151 = .ok (.ireturn, 1) := by decide +kernel
theorem dX12_putsBy_0 : decode cX12_putsBy 0 = .ok (.iconst 0, 1) := by decide +kernel
theorem dX12_putsBy_1 : decode cX12_putsBy 1 = .ok (.istore_n 1, 1) := by decide +kernel
theorem dX12_putsBy_2 : decode cX12_putsBy 2 = .ok (.iload_n 1, 1) := by decide +kernel
theorem dX12_putsBy_3 : decode cX12_putsBy 3 = .ok (.bipush 54, 2) := by decide +kernel
theorem dX12_putsBy_5 : decode cX12_putsBy 5 = .ok (.if_icmp .ge 29, 3) := by decide +kernel
theorem dX12_putsBy_8 : decode cX12_putsBy 8 = .ok (.aload_n 0, 1) := by decide +kernel
theorem dX12_putsBy_9 : decode cX12_putsBy 9 = .ok (.getfield 67, 3) := by decide +kernel
theorem dX12_putsBy_12 : decode cX12_putsBy 12 = .ok (.bipush 54, 2) := by decide +kernel
theorem dX12_putsBy_14 : decode cX12_putsBy 14 = .ok (.aload_n 0, 1) := by decide +kernel
theorem dX12_putsBy_15 : decode cX12_putsBy 15 = .ok (.getfield 189, 3) := by decide +kernel
theorem dX12_putsBy_18 : decode cX12_putsBy 18 = .ok (.imul, 1) := by decide +kernel
theorem dX12_putsBy_19 : decode cX12_putsBy 19 = .ok (.iload_n 1, 1) := by decide +kernel
theorem dX12_putsBy_20 : decode cX12_putsBy 20 = .ok (.iadd, 1) := by decide +kernel
theorem dX12_putsBy_21 : decode cX12_putsBy 21 = .ok (.aload_n 0, 1) := by decide +kernel
theorem dX12_putsBy_22 : decode cX12_putsBy 22 = .ok (.getfield 24, 3) := by decide +kernel
theorem dX12_putsBy_25 : decode cX12_putsBy 25 = .ok (.iload_n 1, 1) := by decide +kernel
theorem dX12_putsBy_26 : decode cX12_putsBy 26 = .ok (.iaload, 1) := by decide +kernel
theorem dX12_putsBy_27 : decode cX12_putsBy 27 = .ok (.iastore, 1) := by decide +kernel
theorem dX12_putsBy_28 : decode cX12_putsBy 28 = .ok (.iinc 1 1, 3) := by decide +kernel
theorem dX12_putsBy_31 : decode cX12_putsBy 31 = .ok (.goto (-29), 3) := by decide +kernel
theorem dX12_putsBy_34 : decode cX12_putsBy 34 = .ok (.return_, 1) := by decide +kernel
theorem dX12_adds_0 : decode cX12_adds 0 = .ok (.aload_n 0, 1) := by decide +kernel
theorem dX12_adds_1 : decode cX12_adds 1 = .ok (.dup, 1) := by decide +kernel
theorem dX12_adds_2 : decode cX12_adds 2 = .ok (.getfield 189, 3) := by decide +kernel
theorem dX12_adds_5 : decode cX12_adds 5 = .ok (.iconst 1, 1) := by decide +kernel
theorem dX12_adds_6 : decode cX12_adds 6 = .ok (.iadd, 1) := by decide +kernel
theorem dX12_adds_7 : decode cX12_adds 7 = .ok (.putfield 189, 3) := by decide +kernel
theorem dX12_adds_10 : decode cX12_adds 10 = .ok (.aload_n 0, 1) := by decide +kernel
theorem dX12_adds_11 : decode cX12_adds 11 = .ok (.getfield 189, 3) := by decide +kernel
theorem dX12_adds_14 : decode cX12_adds 14 = .ok (.bipush 15, 2) := by decide +kernel
theorem dX12_adds_16 : decode cX12_adds 16 = .ok (.if_icmp .le 43, 3) := by decide +kernel
theorem dX12_adds_19 : decode cX12_adds 19 = .ok (.iconst 0, 1) := by decide +kernel
theorem dX12_adds_20 : decode cX12_adds 20 = .ok (.istore_n 1, 1) := by decide +kernel
theorem dX12_adds_21 : decode cX12_adds 21 = .ok (.iload_n 1, 1) := by decide +kernel
theorem dX12_adds_22 : decode cX12_adds 22 = .ok (.sipush 810, 3) := by decide +kernel
theorem dX12_adds_25 : decode cX12_adds 25 = .ok (.if_icmp .ge 24, 3) := by decide +kernel
theorem dX12_adds_28 : decode cX12_adds 28 = .ok (.aload_n 0, 1) := by decide +kernel
theorem dX12_adds_29 : decode cX12_adds 29 = .ok (.getfield 67, 3) := by decide +kernel
theorem dX12_adds_32 : decode cX12_adds 32 = .ok (.iload_n 1, 1) := by decide +kernel
theorem dX12_adds_33 : decode cX12_adds 33 = .ok (.aload_n 0, 1) := by decide +kernel
theorem dX12_adds_34 : decode cX12_adds 34 = .ok (.getfield 67, 3) := by decide +kernel
theorem dX12_adds_37 : decode cX12_adds 37 = .ok (.iload_n 1, 1) := by decide +kernel
theorem dX12_adds_38 : decode cX12_adds 38 = .ok (.bipush 54, 2) := by decide +kernel
theorem dX12_adds_40 : decode cX12_adds 40 = .ok (.iadd, 1) := by decide +kernel
theorem dX12_adds_41 : decode cX12_adds 41 = .ok (.iaload, 1) := by decide +kernel
theorem dX12_adds_42 : decode cX12_adds 42 = .ok (.iastore, 1) := by decide +kernel
theorem dX12_adds_43 : decode cX12_adds 43 = .ok (.iinc 1 1, 3) := by decide +kernel
theorem dX12_adds_46 : decode cX12_adds 46 = .ok (.goto (-25), 3) := by decide +kernel
theorem dX12_adds_49 : decode cX12_adds 49 = .ok (.aload_n 0, 1) := by decide +kernel
theorem dX12_adds_50 : decode cX12_adds 50 = .ok (.dup, 1) := by decide +kernel
theorem dX12_adds_51 : decode cX12_adds 51 = .ok (.getfield 189, 3) := by decide +kernel
theorem dX12_adds_54 : decode cX12_adds 54 = .ok (.iconst 1, 1) := by decide +kernel
theorem dX12_adds_55 : decode cX12_adds 55 = .ok (.isub, 1) := by decide +kernel
theorem dX12_adds_56 : decode cX12_adds 56 = .ok (.putfield 189, 3) := by decide +kernel
theorem dX12_adds_59 : decode cX12_adds 59 = .ok (.return_, 1) := by decide +kernel
theorem dX12_undo_0 : decode cX12_undo 0 = .ok (.aload_n 0, 1) := by decide +kernel
theorem dX12_undo_1 : decode cX12_undo 1 = .ok (.iconst 0, 1) := by decide +kernel
theorem dX12_undo_2 : decode cX12_undo 2 = .ok (.putfield 3, 3) := by decide +kernel
theorem dX12_undo_5 : decode cX12_undo 5 = .ok (.aload_n 0, 1) := by decide +kernel
theorem dX12_undo_6 : decode cX12_undo 6 = .ok (.getfield 189, 3) := by decide +kernel
theorem dX12_undo_9 : decode cX12_undo 9 = .ok (.ifCond .ne 5, 3) := by decide +kernel
theorem dX12_undo_12 : decode cX12_undo 12 = .ok (.iconst (-1), 1) := by decide +kernel
theorem dX12_undo_13 : decode cX12_undo 13 = .ok (.ireturn, 1) := by decide +kernel
theorem dX12_undo_14 : decode cX12_undo 14 = .ok (.aload_n 0, 1) := by decide +kernel
theorem dX12_undo_15 : decode cX12_undo 15 = .ok (.dup, 1) := by decide +kernel
theorem dX12_undo_16 : decode cX12_undo 16 = .ok (.getfield 189, 3) := by decide +kernel
theorem dX12_undo_19 : decode cX12_undo 19 = .ok (.iconst 1, 1) := by decide +kernel
theorem dX12_undo_20 : decode cX12_undo 20 = .ok (.isub, 1) := by decide +kernel
theorem dX12_undo_21 : decode cX12_undo 21 = .ok (.putfield 189, 3) := by decide +kernel
theorem dX12_undo_24 : decode cX12_undo 24 = .ok (.iconst 0, 1) := by decide +kernel
theorem dX12_undo_25 : decode cX12_undo 25 = .ok (.istore_n 1, 1) := by decide +kernel
theorem dX12_undo_26 : decode cX12_undo 26 = .ok (.iload_n 1, 1) := by decide +kernel
theorem dX12_undo_27 : decode cX12_undo 27 = .ok (.bipush 54, 2) := by decide +kernel
theorem dX12_undo_29 : decode cX12_undo 29 = .ok (.if_icmp .ge 29, 3) := by decide +kernel
theorem dX12_undo_32 : decode cX12_undo 32 = .ok (.aload_n 0, 1) := by decide +kernel
theorem dX12_undo_33 : decode cX12_undo 33 = .ok (.getfield 24, 3) := by decide +kernel
theorem dX12_undo_36 : decode cX12_undo 36 = .ok (.iload_n 1, 1) := by decide +kernel
theorem dX12_undo_37 : decode cX12_undo 37 = .ok (.aload_n 0, 1) := by decide +kernel
theorem dX12_undo_38 : decode cX12_undo 38 = .ok (.getfield 67, 3) := by decide +kernel
theorem dX12_undo_41 : decode cX12_undo 41 = .ok (.bipush 54, 2) := by decide +kernel
theorem dX12_undo_43 : decode cX12_undo 43 = .ok (.aload_n 0, 1) := by decide +kernel
theorem dX12_undo_44 : decode cX12_undo 44 = .ok (.getfield 189, 3) := by decide +kernel
theorem dX12_undo_47 : decode cX12_undo 47 = .ok (.imul, 1) := by decide +kernel
theorem dX12_undo_48 : decode cX12_undo 48 = .ok (.iload_n 1, 1) := by decide +kernel
theorem dX12_undo_49 : decode cX12_undo 49 = .ok (.iadd, 1) := by decide +kernel
theorem dX12_undo_50 : decode cX12_undo 50 = .ok (.iaload, 1) := by decide +kernel
theorem dX12_undo_51 : decode cX12_undo 51 = .ok (.iastore, 1) := by decide +kernel
theorem dX12_undo_52 : decode cX12_undo 52 = .ok (.iinc 1 1, 3) := by decide +kernel
theorem dX12_undo_55 : decode cX12_undo 55 = .ok (.goto (-29), 3) := by decide +kernel
theorem dX12_undo_58 : decode cX12_undo 58 = .ok (.aload_n 0, 1) := by decide +kernel
theorem dX12_undo_59 : decode cX12_undo 59 = .ok (.getfield 24, 3) := by decide +kernel
theorem dX12_undo_62 : decode cX12_undo 62 = .ok (.bipush 49, 2) := by decide +kernel
theorem dX12_undo_64 : decode cX12_undo 64 = .ok (.dup2, 1) := by decide +kernel
theorem dX12_undo_65 : decode cX12_undo 65 = .ok (.iaload, 1) := by decide +kernel
theorem dX12_undo_66 : decode cX12_undo 66 = .ok (.aload_n 0, 1) := by decide +kernel
theorem dX12_undo_67 : decode cX12_undo 67 = .ok (.getfield 34, 3) := by decide +kernel
theorem dX12_undo_70 : decode cX12_undo 70 = .ok (.irem, 1) := by decide +kernel
theorem dX12_undo_71 : decode cX12_undo 71 = .ok (.iastore, 1) := by decide +kernel
theorem dX12_undo_72 : decode cX12_undo 72 = .ok (.aload_n 0, 1) := by decide +kernel
theorem dX12_undo_73 : decode cX12_undo 73 = .ok (.getfield 189, 3) := by decide +kernel
theorem dX12_undo_76 : decode cX12_undo 76 = .ok (.ireturn, 1) := by decide +kernel
theorem dX12_makes_0 : decode cX12_makes 0 = .ok (.aload_n 0, 1) := by decide +kernel
theorem dX12_makes_1 : decode cX12_makes 1 = .ok (.getfield 24, 3) := by decide +kernel
theorem dX12_makes_4 : decode cX12_makes 4 = .ok (.bipush 49, 2) := by decide +kernel
theorem dX12_makes_6 : decode cX12_makes 6 = .ok (.iaload, 1) := by decide +kernel
theorem dX12_makes_7 : decode cX12_makes 7 = .ok (.istore_n 2, 1) := by decide +kernel
theorem dX12_makes_8 : decode cX12_makes 8 = .ok (.aload_n 0, 1) := by decide +kernel
theorem dX12_makes_9 : decode cX12_makes 9 = .ok (.aload_n 0, 1) := by decide +kernel
theorem dX12_makes_10 : decode cX12_makes 10 = .ok (.getfield 24, 3) := by decide +kernel
theorem dX12_makes_13 : decode cX12_makes 13 = .ok (.iload_n 1, 1) := by decide +kernel
theorem dX12_makes_14 : decode cX12_makes 14 = .ok (.invokevirtual 295, 3) := by decide +kernel
theorem dX12_makes_17 : decode cX12_makes 17 = .ok (.istore_n 3, 1) := by decide +kernel
theorem dX12_makes_18 : decode cX12_makes 18 = .ok (.aload_n 0, 1) := by decide +kernel
theorem dX12_makes_19 : decode cX12_makes 19 = .ok (.getfield 24, 3) := by decide +kernel
theorem dX12_makes_22 : decode cX12_makes 22 = .ok (.bipush 49, 2) := by decide +kernel
theorem dX12_makes_24 : decode cX12_makes 24 = .ok (.iload_n 2, 1) := by decide +kernel
theorem dX12_makes_25 : decode cX12_makes 25 = .ok (.iconst 1, 1) := by decide +kernel
theorem dX12_makes_26 : decode cX12_makes 26 = .ok (.iadd, 1) := by decide +kernel
theorem dX12_makes_27 : decode cX12_makes 27 = .ok (.aload_n 0, 1) := by decide +kernel
theorem dX12_makes_28 : decode cX12_makes 28 = .ok (.getfield 34, 3) := by decide +kernel
theorem dX12_makes_31 : decode cX12_makes 31 = .ok (.irem, 1) := by decide +kernel
theorem dX12_makes_32 : decode cX12_makes 32 = .ok (.iastore, 1) := by decide +kernel
theorem dX12_makes_33 : decode cX12_makes 33 = .ok (.iload_n 3, 1) := by decide +kernel
theorem dX12_makes_34 : decode cX12_makes 34 = .ok (.ifCond .ne 5, 3) := by decide +kernel
theorem dX12_makes_37 : decode cX12_makes 37 = .ok (.iconst 1, 1) := by decide +kernel
theorem dX12_makes_38 : decode cX12_makes 38 = .ok (.ireturn, 1) := by decide +kernel
theorem dX12_makes_39 : decode cX12_makes 39 = .ok (.iload_n 3, 1) := by decide +kernel
theorem dX12_makes_40 : decode cX12_makes 40 = .ok (.iconst 1, 1) := by decide +kernel
theorem dX12_makes_41 : decode cX12_makes 41 = .ok (.if_icmp .ne 12, 3) := by decide +kernel
theorem dX12_makes_44 : decode cX12_makes 44 = .ok (.iload_n 1, 1) := by decide +kernel
theorem dX12_makes_45 : decode cX12_makes 45 = .ok (.bipush 10, 2) := by decide +kernel
theorem dX12_makes_47 : decode cX12_makes 47 = .ok (.idiv, 1) := by decide +kernel
theorem dX12_makes_48 : decode cX12_makes 48 = .ok (.iconst 3, 1) := by decide +kernel
theorem dX12_makes_49 : decode cX12_makes 49 = .ok (.idiv, 1) := by decide +kernel
theorem dX12_makes_50 : decode cX12_makes 50 = .ok (.goto 11, 3) := by decide +kernel
theorem dX12_makes_53 : decode cX12_makes 53 = .ok (.aload_n 0, 1) := by decide +kernel
theorem dX12_makes_54 : decode cX12_makes 54 = .ok (.aload_n 0, 1) := by decide +kernel
theorem dX12_makes_55 : decode cX12_makes 55 = .ok (.getfield 24, 3) := by decide +kernel
theorem dX12_makes_58 : decode cX12_makes 58 = .ok (.invokevirtual 240, 3) := by decide +kernel
theorem dX12_makes_61 : decode cX12_makes 61 = .ok (.istore 4, 2) := by decide +kernel
theorem dX12_makes_63 : decode cX12_makes 63 = .ok (.aload_n 0, 1) := by decide +kernel
theorem dX12_makes_64 : decode cX12_makes 64 = .ok (.getfield 24, 3) := by decide +kernel
theorem dX12_makes_67 : decode cX12_makes 67 = .ok (.bipush 50, 2) := by decide +kernel
theorem dX12_makes_69 : decode cX12_makes 69 = .ok (.iload_n 3, 1) := by decide +kernel
theorem dX12_makes_70 : decode cX12_makes 70 = .ok (.iastore, 1) := by decide +kernel
theorem dX12_makes_71 : decode cX12_makes 71 = .ok (.aload_n 0, 1) := by decide +kernel
theorem dX12_makes_72 : decode cX12_makes 72 = .ok (.getfield 24, 3) := by decide +kernel
theorem dX12_makes_75 : decode cX12_makes 75 = .ok (.bipush 51, 2) := by decide +kernel
theorem dX12_makes_77 : decode cX12_makes 77 = .ok (.iload_n 2, 1) := by decide +kernel
theorem dX12_makes_78 : decode cX12_makes 78 = .ok (.iastore, 1) := by decide +kernel
theorem dX12_makes_79 : decode cX12_makes 79 = .ok (.aload_n 0, 1) := by decide +kernel
theorem dX12_makes_80 : decode cX12_makes 80 = .ok (.getfield 24, 3) := by decide +kernel
theorem dX12_makes_83 : decode cX12_makes 83 = .ok (.bipush 52, 2) := by decide +kernel
theorem dX12_makes_85 : decode cX12_makes 85 = .ok (.iload 4, 2) := by decide +kernel
theorem dX12_makes_87 : decode cX12_makes 87 = .ok (.iastore, 1) := by decide +kernel
theorem dX12_makes_88 : decode cX12_makes 88 = .ok (.aload_n 0, 1) := by decide +kernel
theorem dX12_makes_89 : decode cX12_makes 89 = .ok (.getfield 24, 3) := by decide +kernel
theorem dX12_makes_92 : decode cX12_makes 92 = .ok (.bipush 53, 2) := by decide +kernel
theorem dX12_makes_94 : decode cX12_makes 94 = .ok (.iload_n 3, 1) := by decide +kernel
theorem dX12_makes_95 : decode cX12_makes 95 = .ok (.iconst 1, 1) := by decide +kernel
theorem dX12_makes_96 : decode cX12_makes 96 = .ok (.if_icmp .ne 7, 3) := by decide +kernel
theorem dX12_makes_99 : decode cX12_makes 99 = .ok (.iconst 0, 1) := by decide +kernel
theorem dX12_makes_100 : decode cX12_makes 100 = .ok (.goto 10, 3) := by decide +kernel
theorem dX12_makes_103 : decode cX12_makes 103 = .ok (.aload_n 0, 1) := by decide +kernel
theorem dX12_makes_104 : decode cX12_makes 104 = .ok (.getfield 58, 3) := by decide +kernel
theorem dX12_makes_107 : decode cX12_makes 107 = .ok (.iload 4, 2) := by decide +kernel
theorem dX12_makes_109 : decode cX12_makes 109 = .ok (.iaload, 1) := by decide +kernel
theorem dX12_makes_110 : decode cX12_makes 110 = .ok (.iastore, 1) := by decide +kernel
theorem dX12_makes_111 : decode cX12_makes 111 = .ok (.iconst 0, 1) := by decide +kernel
theorem dX12_makes_112 : decode cX12_makes 112 = .ok (.ireturn, 1) := by decide +kernel
theorem dX12_move_0 : decode cX12_move 0 = .ok (.aload_n 0, 1) := by decide +kernel
theorem dX12_move_1 : decode cX12_move 1 = .ok (.iconst 0, 1) := by decide +kernel
theorem dX12_move_2 : decode cX12_move 2 = .ok (.putfield 3, 3) := by decide +kernel
theorem dX12_move_5 : decode cX12_move 5 = .ok (.aload_n 0, 1) := by decide +kernel
theorem dX12_move_6 : decode cX12_move 6 = .ok (.getfield 24, 3) := by decide +kernel
theorem dX12_move_9 : decode cX12_move 9 = .ok (.iload_n 1, 1) := by decide +kernel
theorem dX12_move_10 : decode cX12_move 10 = .ok (.invokestatic 292, 3) := by decide +kernel
theorem dX12_move_13 : decode cX12_move 13 = .ok (.ifCond .ne 6, 3) := by decide +kernel
theorem dX12_move_16 : decode cX12_move 16 = .ok (.bipush (-2), 2) := by decide +kernel
theorem dX12_move_18 : decode cX12_move 18 = .ok (.ireturn, 1) := by decide +kernel
theorem dX12_move_19 : decode cX12_move 19 = .ok (.aload_n 0, 1) := by decide +kernel
theorem dX12_move_20 : decode cX12_move 20 = .ok (.invokevirtual 328, 3) := by decide +kernel
theorem dX12_move_23 : decode cX12_move 23 = .ok (.aload_n 0, 1) := by decide +kernel
theorem dX12_move_24 : decode cX12_move 24 = .ok (.iload_n 1, 1) := by decide +kernel
theorem dX12_move_25 : decode cX12_move 25 = .ok (.invokevirtual 331, 3) := by decide +kernel
theorem dX12_move_28 : decode cX12_move 28 = .ok (.istore_n 2, 1) := by decide +kernel
theorem dX12_move_29 : decode cX12_move 29 = .ok (.aload_n 0, 1) := by decide +kernel
theorem dX12_move_30 : decode cX12_move 30 = .ok (.invokevirtual 334, 3) := by decide +kernel
theorem dX12_move_33 : decode cX12_move 33 = .ok (.iload_n 2, 1) := by decide +kernel
theorem dX12_move_34 : decode cX12_move 34 = .ok (.invokestatic 139, 3) := by decide +kernel
theorem dX12_move_37 : decode cX12_move 37 = .ok (.ireturn, 1) := by decide +kernel
theorem dX12_readsMove_0 : decode cX12_readsMove 0 = .ok (.aload_n 0, 1) := by decide +kernel
theorem dX12_readsMove_1 : decode cX12_readsMove 1 = .ok (.invokevirtual 174, 3) := by decide +kernel
theorem dX12_readsMove_4 : decode cX12_readsMove 4 = .ok (.ifCond .ne 5, 3) := by decide +kernel
theorem dX12_readsMove_7 : decode cX12_readsMove 7 = .ok (.iconst 0, 1) := by decide +kernel
theorem dX12_readsMove_8 : decode cX12_readsMove 8 = .ok (.ireturn, 1) := by decide +kernel
theorem dX12_readsMove_9 : decode cX12_readsMove 9 = .ok (.aload_n 0, 1) := by decide +kernel
theorem dX12_readsMove_10 : decode cX12_readsMove 10 = .ok (.getfield 37, 3) := by decide +kernel
theorem dX12_readsMove_13 : decode cX12_readsMove 13 = .ok (.aload_n 0, 1) := by decide +kernel
theorem dX12_readsMove_14 : decode cX12_readsMove 14 = .ok (.getfield 146, 3) := by decide +kernel
theorem dX12_readsMove_17 : decode cX12_readsMove 17 = .ok (.iaload, 1) := by decide +kernel
theorem dX12_readsMove_18 : decode cX12_readsMove 18 = .ok (.bipush 48, 2) := by decide +kernel
theorem dX12_readsMove_20 : decode cX12_readsMove 20 = .ok (.isub, 1) := by decide +kernel
theorem dX12_readsMove_21 : decode cX12_readsMove 21 = .ok (.istore_n 1, 1) := by decide +kernel
theorem dX12_readsMove_22 : decode cX12_readsMove 22 = .ok (.aload_n 0, 1) := by decide +kernel
theorem dX12_readsMove_23 : decode cX12_readsMove 23 = .ok (.dup, 1) := by decide +kernel
theorem dX12_readsMove_24 : decode cX12_readsMove 24 = .ok (.getfield 146, 3) := by decide +kernel
theorem dX12_readsMove_27 : decode cX12_readsMove 27 = .ok (.iconst 1, 1) := by decide +kernel
theorem dX12_readsMove_28 : decode cX12_readsMove 28 = .ok (.iadd, 1) := by decide +kernel
theorem dX12_readsMove_29 : decode cX12_readsMove 29 = .ok (.putfield 146, 3) := by decide +kernel
theorem dX12_readsMove_32 : decode cX12_readsMove 32 = .ok (.aload_n 0, 1) := by decide +kernel
theorem dX12_readsMove_33 : decode cX12_readsMove 33 = .ok (.invokevirtual 174, 3) := by decide +kernel
theorem dX12_readsMove_36 : decode cX12_readsMove 36 = .ok (.ifCond .eq 31, 3) := by decide +kernel
theorem dX12_readsMove_39 : decode cX12_readsMove 39 = .ok (.bipush 10, 2) := by decide +kernel
theorem dX12_readsMove_41 : decode cX12_readsMove 41 = .ok (.iload_n 1, 1) := by decide +kernel
theorem dX12_readsMove_42 : decode cX12_readsMove 42 = .ok (.imul, 1) := by decide +kernel
theorem dX12_readsMove_43 : decode cX12_readsMove 43 = .ok (.aload_n 0, 1) := by decide +kernel
theorem dX12_readsMove_44 : decode cX12_readsMove 44 = .ok (.getfield 37, 3) := by decide +kernel
theorem dX12_readsMove_47 : decode cX12_readsMove 47 = .ok (.aload_n 0, 1) := by decide +kernel
theorem dX12_readsMove_48 : decode cX12_readsMove 48 = .ok (.getfield 146, 3) := by decide +kernel
theorem dX12_readsMove_51 : decode cX12_readsMove 51 = .ok (.iaload, 1) := by decide +kernel
theorem dX12_readsMove_52 : decode cX12_readsMove 52 = .ok (.iadd, 1) := by decide +kernel
theorem dX12_readsMove_53 : decode cX12_readsMove 53 = .ok (.bipush 48, 2) := by decide +kernel
theorem dX12_readsMove_55 : decode cX12_readsMove 55 = .ok (.isub, 1) := by decide +kernel
theorem dX12_readsMove_56 : decode cX12_readsMove 56 = .ok (.istore_n 1, 1) := by decide +kernel
theorem dX12_readsMove_57 : decode cX12_readsMove 57 = .ok (.aload_n 0, 1) := by decide +kernel
theorem dX12_readsMove_58 : decode cX12_readsMove 58 = .ok (.dup, 1) := by decide +kernel
theorem dX12_readsMove_59 : decode cX12_readsMove 59 = .ok (.getfield 146, 3) := by decide +kernel
theorem dX12_readsMove_62 : decode cX12_readsMove 62 = .ok (.iconst 1, 1) := by decide +kernel
theorem dX12_readsMove_63 : decode cX12_readsMove 63 = .ok (.iadd, 1) := by decide +kernel
theorem dX12_readsMove_64 : decode cX12_readsMove 64 = .ok (.putfield 146, 3) := by decide +kernel
theorem dX12_readsMove_67 : decode cX12_readsMove 67 = .ok (.aload_n 0, 1) := by decide +kernel
theorem dX12_readsMove_68 : decode cX12_readsMove 68 = .ok (.ldc_w 337, 3) := by decide +kernel
theorem dX12_readsMove_71 : decode cX12_readsMove 71 = .ok (.invokevirtual 208, 3) := by decide +kernel
theorem dX12_readsMove_74 : decode cX12_readsMove 74 = .ok (.istore_n 2, 1) := by decide +kernel
theorem dX12_readsMove_75 : decode cX12_readsMove 75 = .ok (.iload_n 2, 1) := by decide +kernel
theorem dX12_readsMove_76 : decode cX12_readsMove 76 = .ok (.ifCond .ge 5, 3) := by decide +kernel
theorem dX12_readsMove_79 : decode cX12_readsMove 79 = .ok (.iconst 0, 1) := by decide +kernel
theorem dX12_readsMove_80 : decode cX12_readsMove 80 = .ok (.ireturn, 1) := by decide +kernel
theorem dX12_readsMove_81 : decode cX12_readsMove 81 = .ok (.aload_n 0, 1) := by decide +kernel
theorem dX12_readsMove_82 : decode cX12_readsMove 82 = .ok (.dup, 1) := by decide +kernel
theorem dX12_readsMove_83 : decode cX12_readsMove 83 = .ok (.getfield 146, 3) := by decide +kernel
theorem dX12_readsMove_86 : decode cX12_readsMove 86 = .ok (.iconst 1, 1) := by decide +kernel
theorem dX12_readsMove_87 : decode cX12_readsMove 87 = .ok (.iadd, 1) := by decide +kernel
theorem dX12_readsMove_88 : decode cX12_readsMove 88 = .ok (.putfield 146, 3) := by decide +kernel
theorem dX12_readsMove_91 : decode cX12_readsMove 91 = .ok (.aload_n 0, 1) := by decide +kernel
theorem dX12_readsMove_92 : decode cX12_readsMove 92 = .ok (.bipush 62, 2) := by decide +kernel
theorem dX12_readsMove_94 : decode cX12_readsMove 94 = .ok (.invokevirtual 186, 3) := by decide +kernel
theorem dX12_readsMove_97 : decode cX12_readsMove 97 = .ok (.ifCond .ne 5, 3) := by decide +kernel
theorem dX12_readsMove_100 : decode cX12_readsMove 100 = .ok (.iconst 0, 1) := by decide +kernel
theorem dX12_readsMove_101 : decode cX12_readsMove 101 = .ok (.ireturn, 1) := by decide +kernel
theorem dX12_readsMove_102 : decode cX12_readsMove 102 = .ok (.aload_n 0, 1) := by decide +kernel
theorem dX12_readsMove_103 : decode cX12_readsMove 103 = .ok (.ldc_w 337, 3) := by decide +kernel
theorem dX12_readsMove_106 : decode cX12_readsMove 106 = .ok (.invokevirtual 208, 3) := by decide +kernel
theorem dX12_readsMove_109 : decode cX12_readsMove 109 = .ok (.istore_n 3, 1) := by decide +kernel
theorem dX12_readsMove_110 : decode cX12_readsMove 110 = .ok (.iload_n 3, 1) := by decide +kernel
theorem dX12_readsMove_111 : decode cX12_readsMove 111 = .ok (.ifCond .ge 5, 3) := by decide +kernel
theorem dX12_readsMove_114 : decode cX12_readsMove 114 = .ok (.iconst 0, 1) := by decide +kernel
theorem dX12_readsMove_115 : decode cX12_readsMove 115 = .ok (.ireturn, 1) := by decide +kernel
theorem dX12_readsMove_116 : decode cX12_readsMove 116 = .ok (.aload_n 0, 1) := by decide +kernel
theorem dX12_readsMove_117 : decode cX12_readsMove 117 = .ok (.dup, 1) := by decide +kernel
theorem dX12_readsMove_118 : decode cX12_readsMove 118 = .ok (.getfield 146, 3) := by decide +kernel
theorem dX12_readsMove_121 : decode cX12_readsMove 121 = .ok (.iconst 1, 1) := by decide +kernel
theorem dX12_readsMove_122 : decode cX12_readsMove 122 = .ok (.iadd, 1) := by decide +kernel
theorem dX12_readsMove_123 : decode cX12_readsMove 123 = .ok (.putfield 146, 3) := by decide +kernel
theorem dX12_readsMove_126 : decode cX12_readsMove 126 = .ok (.aload_n 0, 1) := by decide +kernel
theorem dX12_readsMove_127 : decode cX12_readsMove 127 = .ok (.getfield 70, 3) := by decide +kernel
theorem dX12_readsMove_130 : decode cX12_readsMove 130 = .ok (.aload_n 0, 1) := by decide +kernel
theorem dX12_readsMove_131 : decode cX12_readsMove 131 = .ok (.getfield 339, 3) := by decide +kernel
theorem dX12_readsMove_134 : decode cX12_readsMove 134 = .ok (.iload_n 1, 1) := by decide +kernel
theorem dX12_readsMove_135 : decode cX12_readsMove 135 = .ok (.bipush 16, 2) := by decide +kernel
theorem dX12_readsMove_137 : decode cX12_readsMove 137 = .ok (.if_icmp .lt 7, 3) := by decide +kernel
theorem dX12_readsMove_140 : decode cX12_readsMove 140 = .ok (.iconst (-1), 1) := by decide +kernel
theorem dX12_readsMove_141 : decode cX12_readsMove 141 = .ok (.goto 13, 3) := by decide +kernel
theorem dX12_readsMove_144 : decode cX12_readsMove 144 = .ok (.bipush 10, 2) := by decide +kernel
theorem dX12_readsMove_146 : decode cX12_readsMove 146 = .ok (.iconst 3, 1) := by decide +kernel
theorem dX12_readsMove_147 : decode cX12_readsMove 147 = .ok (.iload_n 1, 1) := by decide +kernel
theorem dX12_readsMove_148 : decode cX12_readsMove 148 = .ok (.imul, 1) := by decide +kernel
theorem dX12_readsMove_149 : decode cX12_readsMove 149 = .ok (.iload_n 2, 1) := by decide +kernel
theorem dX12_readsMove_150 : decode cX12_readsMove 150 = .ok (.iadd, 1) := by decide +kernel
theorem dX12_readsMove_151 : decode cX12_readsMove 151 = .ok (.imul, 1) := by decide +kernel
theorem dX12_readsMove_152 : decode cX12_readsMove 152 = .ok (.iload_n 3, 1) := by decide +kernel
theorem dX12_readsMove_153 : decode cX12_readsMove 153 = .ok (.iadd, 1) := by decide +kernel
theorem dX12_readsMove_154 : decode cX12_readsMove 154 = .ok (.iastore, 1) := by decide +kernel
theorem dX12_readsMove_155 : decode cX12_readsMove 155 = .ok (.aload_n 0, 1) := by decide +kernel
theorem dX12_readsMove_156 : decode cX12_readsMove 156 = .ok (.dup, 1) := by decide +kernel
theorem dX12_readsMove_157 : decode cX12_readsMove 157 = .ok (.getfield 339, 3) := by decide +kernel
theorem dX12_readsMove_160 : decode cX12_readsMove 160 = .ok (.iconst 1, 1) := by decide +kernel
theorem dX12_readsMove_161 : decode cX12_readsMove 161 = .ok (.iadd, 1) := by decide +kernel
theorem dX12_readsMove_162 : decode cX12_readsMove 162 = .ok (.putfield 339, 3) := by decide +kernel
theorem dX12_readsMove_165 : decode cX12_readsMove 165 = .ok (.iconst 1, 1) := by decide +kernel
theorem dX12_readsMove_166 : decode cX12_readsMove 166 = .ok (.ireturn, 1) := by decide +kernel
theorem dX12_play_0 : decode cX12_play 0 = .ok (.aload_n 0, 1) := by decide +kernel
theorem dX12_play_1 : decode cX12_play 1 = .ok (.iconst 0, 1) := by decide +kernel
theorem dX12_play_2 : decode cX12_play 2 = .ok (.putfield 3, 3) := by decide +kernel
theorem dX12_play_5 : decode cX12_play 5 = .ok (.aload_n 0, 1) := by decide +kernel
theorem dX12_play_6 : decode cX12_play 6 = .ok (.bipush 70, 2) := by decide +kernel
theorem dX12_play_8 : decode cX12_play 8 = .ok (.invokevirtual 178, 3) := by decide +kernel
theorem dX12_play_11 : decode cX12_play 11 = .ok (.istore_n 1, 1) := by decide +kernel
theorem dX12_play_12 : decode cX12_play 12 = .ok (.aload_n 0, 1) := by decide +kernel
theorem dX12_play_13 : decode cX12_play 13 = .ok (.iconst 0, 1) := by decide +kernel
theorem dX12_play_14 : decode cX12_play 14 = .ok (.putfield 339, 3) := by decide +kernel
theorem dX12_play_17 : decode cX12_play 17 = .ok (.iconst 1, 1) := by decide +kernel
theorem dX12_play_18 : decode cX12_play 18 = .ok (.istore_n 2, 1) := by decide +kernel
theorem dX12_play_19 : decode cX12_play 19 = .ok (.iload_n 1, 1) := by decide +kernel
theorem dX12_play_20 : decode cX12_play 20 = .ok (.ifCond .le 7, 3) := by decide +kernel
theorem dX12_play_23 : decode cX12_play 23 = .ok (.iconst 1, 1) := by decide +kernel
theorem dX12_play_24 : decode cX12_play 24 = .ok (.goto 4, 3) := by decide +kernel
theorem dX12_play_27 : decode cX12_play 27 = .ok (.iconst 0, 1) := by decide +kernel
theorem dX12_play_28 : decode cX12_play 28 = .ok (.istore_n 3, 1) := by decide +kernel
theorem dX12_play_29 : decode cX12_play 29 = .ok (.iload_n 3, 1) := by decide +kernel
theorem dX12_play_30 : decode cX12_play 30 = .ok (.ifCond .eq 30, 3) := by decide +kernel
theorem dX12_play_33 : decode cX12_play 33 = .ok (.aload_n 0, 1) := by decide +kernel
theorem dX12_play_34 : decode cX12_play 34 = .ok (.invokevirtual 342, 3) := by decide +kernel
theorem dX12_play_37 : decode cX12_play 37 = .ok (.istore_n 2, 1) := by decide +kernel
theorem dX12_play_38 : decode cX12_play 38 = .ok (.iload_n 2, 1) := by decide +kernel
theorem dX12_play_39 : decode cX12_play 39 = .ok (.ifCond .eq 16, 3) := by decide +kernel
theorem dX12_play_42 : decode cX12_play 42 = .ok (.aload_n 0, 1) := by decide +kernel
theorem dX12_play_43 : decode cX12_play 43 = .ok (.bipush 59, 2) := by decide +kernel
theorem dX12_play_45 : decode cX12_play 45 = .ok (.invokevirtual 186, 3) := by decide +kernel
theorem dX12_play_48 : decode cX12_play 48 = .ok (.ifCond .eq 7, 3) := by decide +kernel
theorem dX12_play_51 : decode cX12_play 51 = .ok (.iconst 1, 1) := by decide +kernel
theorem dX12_play_52 : decode cX12_play 52 = .ok (.goto 4, 3) := by decide +kernel
theorem dX12_play_55 : decode cX12_play 55 = .ok (.iconst 0, 1) := by decide +kernel
theorem dX12_play_56 : decode cX12_play 56 = .ok (.istore_n 3, 1) := by decide +kernel
theorem dX12_play_57 : decode cX12_play 57 = .ok (.goto (-28), 3) := by decide +kernel
theorem dX12_play_60 : decode cX12_play 60 = .ok (.aload_n 0, 1) := by decide +kernel
theorem dX12_play_61 : decode cX12_play 61 = .ok (.iload_n 1, 1) := by decide +kernel
theorem dX12_play_62 : decode cX12_play 62 = .ok (.bipush 70, 2) := by decide +kernel
theorem dX12_play_64 : decode cX12_play 64 = .ok (.iload_n 2, 1) := by decide +kernel
theorem dX12_play_65 : decode cX12_play 65 = .ok (.invokevirtual 192, 3) := by decide +kernel
theorem dX12_play_68 : decode cX12_play 68 = .ok (.istore 4, 2) := by decide +kernel
theorem dX12_play_70 : decode cX12_play 70 = .ok (.iload 4, 2) := by decide +kernel
theorem dX12_play_72 : decode cX12_play 72 = .ok (.ifCond .ge 6, 3) := by decide +kernel
theorem dX12_play_75 : decode cX12_play 75 = .ok (.iload 4, 2) := by decide +kernel
theorem dX12_play_77 : decode cX12_play 77 = .ok (.ireturn, 1) := by decide +kernel
theorem dX12_play_78 : decode cX12_play 78 = .ok (.aload_n 0, 1) := by decide +kernel
theorem dX12_play_79 : decode cX12_play 79 = .ok (.invokevirtual 328, 3) := by decide +kernel
theorem dX12_play_82 : decode cX12_play 82 = .ok (.iconst 0, 1) := by decide +kernel
theorem dX12_play_83 : decode cX12_play 83 = .ok (.istore 5, 2) := by decide +kernel
theorem dX12_play_85 : decode cX12_play 85 = .ok (.iconst 1, 1) := by decide +kernel
theorem dX12_play_86 : decode cX12_play 86 = .ok (.istore 6, 2) := by decide +kernel
theorem dX12_play_88 : decode cX12_play 88 = .ok (.iconst 1, 1) := by decide +kernel
theorem dX12_play_89 : decode cX12_play 89 = .ok (.istore 7, 2) := by decide +kernel
theorem dX12_play_91 : decode cX12_play 91 = .ok (.iload 5, 2) := by decide +kernel
theorem dX12_play_93 : decode cX12_play 93 = .ok (.aload_n 0, 1) := by decide +kernel
theorem dX12_play_94 : decode cX12_play 94 = .ok (.getfield 339, 3) := by decide +kernel
theorem dX12_play_97 : decode cX12_play 97 = .ok (.if_icmp .ge 53, 3) := by decide +kernel
theorem dX12_play_100 : decode cX12_play 100 = .ok (.iload 6, 2) := by decide +kernel
theorem dX12_play_102 : decode cX12_play 102 = .ok (.ifCond .eq 48, 3) := by decide +kernel
theorem dX12_play_105 : decode cX12_play 105 = .ok (.iload 7, 2) := by decide +kernel
theorem dX12_play_107 : decode cX12_play 107 = .ok (.ifCond .eq 43, 3) := by decide +kernel
theorem dX12_play_110 : decode cX12_play 110 = .ok (.aload_n 0, 1) := by decide +kernel
theorem dX12_play_111 : decode cX12_play 111 = .ok (.getfield 24, 3) := by decide +kernel
theorem dX12_play_114 : decode cX12_play 114 = .ok (.aload_n 0, 1) := by decide +kernel
theorem dX12_play_115 : decode cX12_play 115 = .ok (.getfield 70, 3) := by decide +kernel
theorem dX12_play_118 : decode cX12_play 118 = .ok (.iload 5, 2) := by decide +kernel
theorem dX12_play_120 : decode cX12_play 120 = .ok (.iaload, 1) := by decide +kernel
theorem dX12_play_121 : decode cX12_play 121 = .ok (.invokestatic 292, 3) := by decide +kernel
theorem dX12_play_124 : decode cX12_play 124 = .ok (.istore 6, 2) := by decide +kernel
theorem dX12_play_126 : decode cX12_play 126 = .ok (.iload 6, 2) := by decide +kernel
theorem dX12_play_128 : decode cX12_play 128 = .ok (.ifCond .eq (-37), 3) := by decide +kernel
theorem dX12_play_131 : decode cX12_play 131 = .ok (.aload_n 0, 1) := by decide +kernel
theorem dX12_play_132 : decode cX12_play 132 = .ok (.aload_n 0, 1) := by decide +kernel
theorem dX12_play_133 : decode cX12_play 133 = .ok (.getfield 70, 3) := by decide +kernel
theorem dX12_play_136 : decode cX12_play 136 = .ok (.iload 5, 2) := by decide +kernel
theorem dX12_play_138 : decode cX12_play 138 = .ok (.iaload, 1) := by decide +kernel
theorem dX12_play_139 : decode cX12_play 139 = .ok (.invokevirtual 331, 3) := by decide +kernel
theorem dX12_play_142 : decode cX12_play 142 = .ok (.istore 7, 2) := by decide +kernel
theorem dX12_play_144 : decode cX12_play 144 = .ok (.iinc 5 1, 3) := by decide +kernel
theorem dX12_play_147 : decode cX12_play 147 = .ok (.goto (-56), 3) := by decide +kernel
theorem dX12_play_150 : decode cX12_play 150 = .ok (.iload 5, 2) := by decide +kernel
theorem dX12_play_152 : decode cX12_play 152 = .ok (.ifCond .le 7, 3) := by decide +kernel
theorem dX12_play_155 : decode cX12_play 155 = .ok (.aload_n 0, 1) := by decide +kernel
theorem dX12_play_156 : decode cX12_play 156 = .ok (.invokevirtual 334, 3) := by decide +kernel
theorem dX12_play_159 : decode cX12_play 159 = .ok (.aload_n 0, 1) := by decide +kernel
theorem dX12_play_160 : decode cX12_play 160 = .ok (.iconst 0, 1) := by decide +kernel
theorem dX12_play_161 : decode cX12_play 161 = .ok (.putfield 15, 3) := by decide +kernel
theorem dX12_play_164 : decode cX12_play 164 = .ok (.aload_n 0, 1) := by decide +kernel
theorem dX12_play_165 : decode cX12_play 165 = .ok (.iload 6, 2) := by decide +kernel
theorem dX12_play_167 : decode cX12_play 167 = .ok (.ifCond .ne 7, 3) := by decide +kernel
theorem dX12_play_170 : decode cX12_play 170 = .ok (.iconst 1, 1) := by decide +kernel
theorem dX12_play_171 : decode cX12_play 171 = .ok (.goto 4, 3) := by decide +kernel
theorem dX12_play_174 : decode cX12_play 174 = .ok (.iconst 0, 1) := by decide +kernel
theorem dX12_play_175 : decode cX12_play 175 = .ok (.invokestatic 139, 3) := by decide +kernel
theorem dX12_play_178 : decode cX12_play 178 = .ok (.i2l, 1) := by decide +kernel
theorem dX12_play_179 : decode cX12_play 179 = .ok (.invokevirtual 279, 3) := by decide +kernel
theorem dX12_play_182 : decode cX12_play 182 = .ok (.aload_n 0, 1) := by decide +kernel
theorem dX12_play_183 : decode cX12_play 183 = .ok (.aload_n 0, 1) := by decide +kernel
theorem dX12_play_184 : decode cX12_play 184 = .ok (.getfield 24, 3) := by decide +kernel
theorem dX12_play_187 : decode cX12_play 187 = .ok (.bipush 50, 2) := by decide +kernel
theorem dX12_play_189 : decode cX12_play 189 = .ok (.iaload, 1) := by decide +kernel
theorem dX12_play_190 : decode cX12_play 190 = .ok (.ifCond .le 7, 3) := by decide +kernel
theorem dX12_play_193 : decode cX12_play 193 = .ok (.iconst 1, 1) := by decide +kernel
theorem dX12_play_194 : decode cX12_play 194 = .ok (.goto 4, 3) := by decide +kernel
theorem dX12_play_197 : decode cX12_play 197 = .ok (.iconst 0, 1) := by decide +kernel
theorem dX12_play_198 : decode cX12_play 198 = .ok (.invokestatic 139, 3) := by decide +kernel
theorem dX12_play_201 : decode cX12_play 201 = .ok (.i2l, 1) := by decide +kernel
theorem dX12_play_202 : decode cX12_play 202 = .ok (.invokevirtual 279, 3) := by decide +kernel
theorem dX12_play_205 : decode cX12_play 205 = .ok (.iload 5, 2) := by decide +kernel
theorem dX12_play_207 : decode cX12_play 207 = .ok (.ireturn, 1) := by decide +kernel
theorem dX12_why_0 : decode cX12_why 0 = .ok (.aload_n 0, 1) := by decide +kernel
theorem dX12_why_1 : decode cX12_why 1 = .ok (.iconst 0, 1) := by decide +kernel
theorem dX12_why_2 : decode cX12_why 2 = .ok (.putfield 3, 3) := by decide +kernel
theorem dX12_why_5 : decode cX12_why 5 = .ok (.aload_n 0, 1) := by decide +kernel
theorem dX12_why_6 : decode cX12_why 6 = .ok (.iconst 0, 1) := by decide +kernel
theorem dX12_why_7 : decode cX12_why 7 = .ok (.putfield 15, 3) := by decide +kernel
theorem dX12_why_10 : decode cX12_why 10 = .ok (.aload_n 0, 1) := by decide +kernel
theorem dX12_why_11 : decode cX12_why 11 = .ok (.getfield 24, 3) := by decide +kernel
theorem dX12_why_14 : decode cX12_why 14 = .ok (.bipush 50, 2) := by decide +kernel
theorem dX12_why_16 : decode cX12_why 16 = .ok (.iaload, 1) := by decide +kernel
theorem dX12_why_17 : decode cX12_why 17 = .ok (.ifCond .le 27, 3) := by decide +kernel
theorem dX12_why_20 : decode cX12_why 20 = .ok (.aload_n 0, 1) := by decide +kernel
theorem dX12_why_21 : decode cX12_why 21 = .ok (.aload_n 0, 1) := by decide +kernel
theorem dX12_why_22 : decode cX12_why 22 = .ok (.getfield 24, 3) := by decide +kernel
theorem dX12_why_25 : decode cX12_why 25 = .ok (.bipush 52, 2) := by decide +kernel
theorem dX12_why_27 : decode cX12_why 27 = .ok (.iaload, 1) := by decide +kernel
theorem dX12_why_28 : decode cX12_why 28 = .ok (.i2l, 1) := by decide +kernel
theorem dX12_why_29 : decode cX12_why 29 = .ok (.invokevirtual 279, 3) := by decide +kernel
theorem dX12_why_32 : decode cX12_why 32 = .ok (.aload_n 0, 1) := by decide +kernel
theorem dX12_why_33 : decode cX12_why 33 = .ok (.aload_n 0, 1) := by decide +kernel
theorem dX12_why_34 : decode cX12_why 34 = .ok (.getfield 24, 3) := by decide +kernel
theorem dX12_why_37 : decode cX12_why 37 = .ok (.bipush 53, 2) := by decide +kernel
theorem dX12_why_39 : decode cX12_why 39 = .ok (.iaload, 1) := by decide +kernel
theorem dX12_why_40 : decode cX12_why 40 = .ok (.i2l, 1) := by decide +kernel
theorem dX12_why_41 : decode cX12_why 41 = .ok (.invokevirtual 279, 3) := by decide +kernel
theorem dX12_why_44 : decode cX12_why 44 = .ok (.aload_n 0, 1) := by decide +kernel
theorem dX12_why_45 : decode cX12_why 45 = .ok (.getfield 24, 3) := by decide +kernel
theorem dX12_why_48 : decode cX12_why 48 = .ok (.bipush 50, 2) := by decide +kernel
theorem dX12_why_50 : decode cX12_why 50 = .ok (.iaload, 1) := by decide +kernel
theorem dX12_why_51 : decode cX12_why 51 = .ok (.ireturn, 1) := by decide +kernel
theorem dX12_unpacks_0 : decode cX12_unpacks 0 = .ok (.iconst 0, 1) := by decide +kernel
theorem dX12_unpacks_1 : decode cX12_unpacks 1 = .ok (.istore_n 3, 1) := by decide +kernel
theorem dX12_unpacks_2 : decode cX12_unpacks 2 = .ok (.iload_n 3, 1) := by decide +kernel
theorem dX12_unpacks_3 : decode cX12_unpacks 3 = .ok (.bipush 54, 2) := by decide +kernel
theorem dX12_unpacks_5 : decode cX12_unpacks 5 = .ok (.if_icmp .ge 23, 3) := by decide +kernel
theorem dX12_unpacks_8 : decode cX12_unpacks 8 = .ok (.aload_n 2, 1) := by decide +kernel
theorem dX12_unpacks_9 : decode cX12_unpacks 9 = .ok (.iload_n 3, 1) := by decide +kernel
theorem dX12_unpacks_10 : decode cX12_unpacks 10 = .ok (.aload_n 0, 1) := by decide +kernel
theorem dX12_unpacks_11 : decode cX12_unpacks 11 = .ok (.getfield 73, 3) := by decide +kernel
theorem dX12_unpacks_14 : decode cX12_unpacks 14 = .ok (.bipush 54, 2) := by decide +kernel
theorem dX12_unpacks_16 : decode cX12_unpacks 16 = .ok (.iload_n 1, 1) := by decide +kernel
theorem dX12_unpacks_17 : decode cX12_unpacks 17 = .ok (.imul, 1) := by decide +kernel
theorem dX12_unpacks_18 : decode cX12_unpacks 18 = .ok (.iload_n 3, 1) := by decide +kernel
theorem dX12_unpacks_19 : decode cX12_unpacks 19 = .ok (.iadd, 1) := by decide +kernel
theorem dX12_unpacks_20 : decode cX12_unpacks 20 = .ok (.iaload, 1) := by decide +kernel
theorem dX12_unpacks_21 : decode cX12_unpacks 21 = .ok (.iastore, 1) := by decide +kernel
theorem dX12_unpacks_22 : decode cX12_unpacks 22 = .ok (.iinc 3 1, 3) := by decide +kernel
theorem dX12_unpacks_25 : decode cX12_unpacks 25 = .ok (.goto (-23), 3) := by decide +kernel
theorem dX12_unpacks_28 : decode cX12_unpacks 28 = .ok (.return_, 1) := by decide +kernel
theorem dX12_slotOf_0 : decode cX12_slotOf 0 = .ok (.ldc2_w 345, 3) := by decide +kernel
theorem dX12_slotOf_3 : decode cX12_slotOf 3 = .ok (.lstore_n 2, 1) := by decide +kernel
theorem dX12_slotOf_4 : decode cX12_slotOf 4 = .ok (.iconst 0, 1) := by decide +kernel
theorem dX12_slotOf_5 : decode cX12_slotOf 5 = .ok (.istore 4, 2) := by decide +kernel
theorem dX12_slotOf_7 : decode cX12_slotOf 7 = .ok (.iload 4, 2) := by decide +kernel
theorem dX12_slotOf_9 : decode cX12_slotOf 9 = .ok (.bipush 48, 2) := by decide +kernel
theorem dX12_slotOf_11 : decode cX12_slotOf 11 = .ok (.if_icmp .ge 23, 3) := by decide +kernel
theorem dX12_slotOf_14 : decode cX12_slotOf 14 = .ok (.lload_n 2, 1) := by decide +kernel
theorem dX12_slotOf_15 : decode cX12_slotOf 15 = .ok (.ldc2_w 347, 3) := by decide +kernel
theorem dX12_slotOf_18 : decode cX12_slotOf 18 = .ok (.lmul, 1) := by decide +kernel
theorem dX12_slotOf_19 : decode cX12_slotOf 19 = .ok (.aload_n 1, 1) := by decide +kernel
theorem dX12_slotOf_20 : decode cX12_slotOf 20 = .ok (.iload 4, 2) := by decide +kernel
theorem dX12_slotOf_22 : decode cX12_slotOf 22 = .ok (.iaload, 1) := by decide +kernel
theorem dX12_slotOf_23 : decode cX12_slotOf 23 = .ok (.i2l, 1) := by decide +kernel
theorem dX12_slotOf_24 : decode cX12_slotOf 24 = .ok (.ladd, 1) := by decide +kernel
theorem dX12_slotOf_25 : decode cX12_slotOf 25 = .ok (.lconst 1, 1) := by decide +kernel
theorem dX12_slotOf_26 : decode cX12_slotOf 26 = .ok (.ladd, 1) := by decide +kernel
theorem dX12_slotOf_27 : decode cX12_slotOf 27 = .ok (.lstore_n 2, 1) := by decide +kernel
theorem dX12_slotOf_28 : decode cX12_slotOf 28 = .ok (.iinc 4 1, 3) := by decide +kernel
theorem dX12_slotOf_31 : decode cX12_slotOf 31 = .ok (.goto (-24), 3) := by decide +kernel
theorem dX12_slotOf_34 : decode cX12_slotOf 34 = .ok (.lload_n 2, 1) := by decide +kernel
theorem dX12_slotOf_35 : decode cX12_slotOf 35 = .ok (.lload_n 2, 1) := by decide +kernel
theorem dX12_slotOf_36 : decode cX12_slotOf 36 = .ok (.bipush 21, 2) := by decide +kernel
theorem dX12_slotOf_38 : decode cX12_slotOf 38 = .ok (.lushr, 1) := by decide +kernel
theorem dX12_slotOf_39 : decode cX12_slotOf 39 = .ok (.lxor, 1) := by decide +kernel
theorem dX12_slotOf_40 : decode cX12_slotOf 40 = .ok (.ldc2_w 349, 3) := by decide +kernel
theorem dX12_slotOf_43 : decode cX12_slotOf 43 = .ok (.land, 1) := by decide +kernel
theorem dX12_slotOf_44 : decode cX12_slotOf 44 = .ok (.l2i, 1) := by decide +kernel
theorem dX12_slotOf_45 : decode cX12_slotOf 45 = .ok (.istore 4, 2) := by decide +kernel
theorem dX12_slotOf_47 : decode cX12_slotOf 47 = .ok (.aload_n 0, 1) := by decide +kernel
theorem dX12_slotOf_48 : decode cX12_slotOf 48 = .ok (.getfield 85, 3) := by decide +kernel
theorem dX12_slotOf_51 : decode cX12_slotOf 51 = .ok (.iload 4, 2) := by decide +kernel
theorem dX12_slotOf_53 : decode cX12_slotOf 53 = .ok (.iaload, 1) := by decide +kernel
theorem dX12_slotOf_54 : decode cX12_slotOf 54 = .ok (.ifCond .lt 31, 3) := by decide +kernel
theorem dX12_slotOf_57 : decode cX12_slotOf 57 = .ok (.aload_n 0, 1) := by decide +kernel
theorem dX12_slotOf_58 : decode cX12_slotOf 58 = .ok (.aload_n 1, 1) := by decide +kernel
theorem dX12_slotOf_59 : decode cX12_slotOf 59 = .ok (.aload_n 0, 1) := by decide +kernel
theorem dX12_slotOf_60 : decode cX12_slotOf 60 = .ok (.getfield 85, 3) := by decide +kernel
theorem dX12_slotOf_63 : decode cX12_slotOf 63 = .ok (.iload 4, 2) := by decide +kernel
theorem dX12_slotOf_65 : decode cX12_slotOf 65 = .ok (.iaload, 1) := by decide +kernel
theorem dX12_slotOf_66 : decode cX12_slotOf 66 = .ok (.invokevirtual 351, 3) := by decide +kernel
theorem dX12_slotOf_69 : decode cX12_slotOf 69 = .ok (.ifCond .ne 16, 3) := by decide +kernel
theorem dX12_slotOf_72 : decode cX12_slotOf 72 = .ok (.iload 4, 2) := by decide +kernel
theorem dX12_slotOf_74 : decode cX12_slotOf 74 = .ok (.iconst 1, 1) := by decide +kernel
theorem dX12_slotOf_75 : decode cX12_slotOf 75 = .ok (.iadd, 1) := by decide +kernel
theorem dX12_slotOf_76 : decode cX12_slotOf 76 = .ok (.sipush 2047, 3) := by decide +kernel
theorem dX12_slotOf_79 : decode cX12_slotOf 79 = .ok (.iand, 1) := by decide +kernel
theorem dX12_slotOf_80 : decode cX12_slotOf 80 = .ok (.istore 4, 2) := by decide +kernel
theorem dX12_slotOf_82 : decode cX12_slotOf 82 = .ok (.goto (-35), 3) := by decide +kernel
theorem dX12_slotOf_85 : decode cX12_slotOf 85 = .ok (.iload 4, 2) := by decide +kernel
theorem dX12_slotOf_87 : decode cX12_slotOf 87 = .ok (.ireturn, 1) := by decide +kernel
theorem dX12_isSame_0 : decode cX12_isSame 0 = .ok (.iconst 1, 1) := by decide +kernel
theorem dX12_isSame_1 : decode cX12_isSame 1 = .ok (.istore_n 3, 1) := by decide +kernel
theorem dX12_isSame_2 : decode cX12_isSame 2 = .ok (.iconst 0, 1) := by decide +kernel
theorem dX12_isSame_3 : decode cX12_isSame 3 = .ok (.istore 4, 2) := by decide +kernel
theorem dX12_isSame_5 : decode cX12_isSame 5 = .ok (.iload 4, 2) := by decide +kernel
theorem dX12_isSame_7 : decode cX12_isSame 7 = .ok (.bipush 48, 2) := by decide +kernel
theorem dX12_isSame_9 : decode cX12_isSame 9 = .ok (.if_icmp .ge 38, 3) := by decide +kernel
theorem dX12_isSame_12 : decode cX12_isSame 12 = .ok (.iload_n 3, 1) := by decide +kernel
theorem dX12_isSame_13 : decode cX12_isSame 13 = .ok (.ifCond .eq 34, 3) := by decide +kernel
theorem dX12_isSame_16 : decode cX12_isSame 16 = .ok (.aload_n 0, 1) := by decide +kernel
theorem dX12_isSame_17 : decode cX12_isSame 17 = .ok (.getfield 73, 3) := by decide +kernel
theorem dX12_isSame_20 : decode cX12_isSame 20 = .ok (.bipush 54, 2) := by decide +kernel
theorem dX12_isSame_22 : decode cX12_isSame 22 = .ok (.iload_n 2, 1) := by decide +kernel
theorem dX12_isSame_23 : decode cX12_isSame 23 = .ok (.imul, 1) := by decide +kernel
theorem dX12_isSame_24 : decode cX12_isSame 24 = .ok (.iload 4, 2) := by decide +kernel
theorem dX12_isSame_26 : decode cX12_isSame 26 = .ok (.iadd, 1) := by decide +kernel
theorem dX12_isSame_27 : decode cX12_isSame 27 = .ok (.iaload, 1) := by decide +kernel
theorem dX12_isSame_28 : decode cX12_isSame 28 = .ok (.aload_n 1, 1) := by decide +kernel
theorem dX12_isSame_29 : decode cX12_isSame 29 = .ok (.iload 4, 2) := by decide +kernel
theorem dX12_isSame_31 : decode cX12_isSame 31 = .ok (.iaload, 1) := by decide +kernel
theorem dX12_isSame_32 : decode cX12_isSame 32 = .ok (.if_icmp .ne 7, 3) := by decide +kernel
theorem dX12_isSame_35 : decode cX12_isSame 35 = .ok (.iconst 1, 1) := by decide +kernel
theorem dX12_isSame_36 : decode cX12_isSame 36 = .ok (.goto 4, 3) := by decide +kernel
theorem dX12_isSame_39 : decode cX12_isSame 39 = .ok (.iconst 0, 1) := by decide +kernel
theorem dX12_isSame_40 : decode cX12_isSame 40 = .ok (.istore_n 3, 1) := by decide +kernel
theorem dX12_isSame_41 : decode cX12_isSame 41 = .ok (.iinc 4 1, 3) := by decide +kernel
theorem dX12_isSame_44 : decode cX12_isSame 44 = .ok (.goto (-39), 3) := by decide +kernel
theorem dX12_isSame_47 : decode cX12_isSame 47 = .ok (.iload_n 3, 1) := by decide +kernel
theorem dX12_isSame_48 : decode cX12_isSame 48 = .ok (.ireturn, 1) := by decide +kernel
theorem dX12_finds_0 : decode cX12_finds 0 = .ok (.aload_n 0, 1) := by decide +kernel
theorem dX12_finds_1 : decode cX12_finds 1 = .ok (.aload_n 1, 1) := by decide +kernel
theorem dX12_finds_2 : decode cX12_finds 2 = .ok (.invokevirtual 354, 3) := by decide +kernel
theorem dX12_finds_5 : decode cX12_finds 5 = .ok (.istore 4, 2) := by decide +kernel
theorem dX12_finds_7 : decode cX12_finds 7 = .ok (.aload_n 0, 1) := by decide +kernel
theorem dX12_finds_8 : decode cX12_finds 8 = .ok (.getfield 85, 3) := by decide +kernel
theorem dX12_finds_11 : decode cX12_finds 11 = .ok (.iload 4, 2) := by decide +kernel
theorem dX12_finds_13 : decode cX12_finds 13 = .ok (.iaload, 1) := by decide +kernel
theorem dX12_finds_14 : decode cX12_finds 14 = .ok (.ifCond .lt 4, 3) := by decide +kernel
theorem dX12_finds_17 : decode cX12_finds 17 = .ok (.return_, 1) := by decide +kernel
theorem dX12_finds_18 : decode cX12_finds 18 = .ok (.aload_n 0, 1) := by decide +kernel
theorem dX12_finds_19 : decode cX12_finds 19 = .ok (.getfield 357, 3) := by decide +kernel
theorem dX12_finds_22 : decode cX12_finds 22 = .ok (.sipush 400, 3) := by decide +kernel
theorem dX12_finds_25 : decode cX12_finds 25 = .ok (.if_icmp .ne 9, 3) := by decide +kernel
theorem dX12_finds_28 : decode cX12_finds 28 = .ok (.aload_n 0, 1) := by decide +kernel
theorem dX12_finds_29 : decode cX12_finds 29 = .ok (.iconst 1, 1) := by decide +kernel
theorem dX12_finds_30 : decode cX12_finds 30 = .ok (.putfield 360, 3) := by decide +kernel
theorem dX12_finds_33 : decode cX12_finds 33 = .ok (.return_, 1) := by decide +kernel
theorem dX12_finds_34 : decode cX12_finds 34 = .ok (.iconst 0, 1) := by decide +kernel
theorem dX12_finds_35 : decode cX12_finds 35 = .ok (.istore 5, 2) := by decide +kernel
theorem dX12_finds_37 : decode cX12_finds 37 = .ok (.iload 5, 2) := by decide +kernel
theorem dX12_finds_39 : decode cX12_finds 39 = .ok (.bipush 54, 2) := by decide +kernel
theorem dX12_finds_41 : decode cX12_finds 41 = .ok (.if_icmp .ge 28, 3) := by decide +kernel
theorem dX12_finds_44 : decode cX12_finds 44 = .ok (.aload_n 0, 1) := by decide +kernel
theorem dX12_finds_45 : decode cX12_finds 45 = .ok (.getfield 73, 3) := by decide +kernel
theorem dX12_finds_48 : decode cX12_finds 48 = .ok (.bipush 54, 2) := by decide +kernel
theorem dX12_finds_50 : decode cX12_finds 50 = .ok (.aload_n 0, 1) := by decide +kernel
theorem dX12_finds_51 : decode cX12_finds 51 = .ok (.getfield 357, 3) := by decide +kernel
theorem dX12_finds_54 : decode cX12_finds 54 = .ok (.imul, 1) := by decide +kernel
theorem dX12_finds_55 : decode cX12_finds 55 = .ok (.iload 5, 2) := by decide +kernel
theorem dX12_finds_57 : decode cX12_finds 57 = .ok (.iadd, 1) := by decide +kernel
theorem dX12_finds_58 : decode cX12_finds 58 = .ok (.aload_n 1, 1) := by decide +kernel
theorem dX12_finds_59 : decode cX12_finds 59 = .ok (.iload 5, 2) := by decide +kernel
theorem dX12_finds_61 : decode cX12_finds 61 = .ok (.iaload, 1) := by decide +kernel
theorem dX12_finds_62 : decode cX12_finds 62 = .ok (.iastore, 1) := by decide +kernel
theorem dX12_finds_63 : decode cX12_finds 63 = .ok (.iinc 5 1, 3) := by decide +kernel
theorem dX12_finds_66 : decode cX12_finds 66 = .ok (.goto (-29), 3) := by decide +kernel
theorem dX12_finds_69 : decode cX12_finds 69 = .ok (.aload_n 0, 1) := by decide +kernel
theorem dX12_finds_70 : decode cX12_finds 70 = .ok (.getfield 76, 3) := by decide +kernel
theorem dX12_finds_73 : decode cX12_finds 73 = .ok (.aload_n 0, 1) := by decide +kernel
theorem dX12_finds_74 : decode cX12_finds 74 = .ok (.getfield 357, 3) := by decide +kernel
theorem dX12_finds_77 : decode cX12_finds 77 = .ok (.iload_n 2, 1) := by decide +kernel
theorem dX12_finds_78 : decode cX12_finds 78 = .ok (.iastore, 1) := by decide +kernel
theorem dX12_finds_79 : decode cX12_finds 79 = .ok (.aload_n 0, 1) := by decide +kernel
theorem dX12_finds_80 : decode cX12_finds 80 = .ok (.getfield 79, 3) := by decide +kernel
theorem dX12_finds_83 : decode cX12_finds 83 = .ok (.aload_n 0, 1) := by decide +kernel
theorem dX12_finds_84 : decode cX12_finds 84 = .ok (.getfield 357, 3) := by decide +kernel
theorem dX12_finds_87 : decode cX12_finds 87 = .ok (.iload_n 3, 1) := by decide +kernel
theorem dX12_finds_88 : decode cX12_finds 88 = .ok (.iastore, 1) := by decide +kernel
theorem dX12_finds_89 : decode cX12_finds 89 = .ok (.aload_n 0, 1) := by decide +kernel
theorem dX12_finds_90 : decode cX12_finds 90 = .ok (.getfield 82, 3) := by decide +kernel
theorem dX12_finds_93 : decode cX12_finds 93 = .ok (.aload_n 0, 1) := by decide +kernel
theorem dX12_finds_94 : decode cX12_finds 94 = .ok (.getfield 357, 3) := by decide +kernel
theorem dX12_finds_97 : decode cX12_finds 97 = .ok (.iload_n 2, 1) := by decide +kernel
theorem dX12_finds_98 : decode cX12_finds 98 = .ok (.ifCond .ge 7, 3) := by decide +kernel
theorem dX12_finds_101 : decode cX12_finds 101 = .ok (.iconst 0, 1) := by decide +kernel
theorem dX12_finds_102 : decode cX12_finds 102 = .ok (.goto 11, 3) := by decide +kernel
theorem dX12_finds_105 : decode cX12_finds 105 = .ok (.aload_n 0, 1) := by decide +kernel
theorem dX12_finds_106 : decode cX12_finds 106 = .ok (.getfield 82, 3) := by decide +kernel
theorem dX12_finds_109 : decode cX12_finds 109 = .ok (.iload_n 2, 1) := by decide +kernel
theorem dX12_finds_110 : decode cX12_finds 110 = .ok (.iaload, 1) := by decide +kernel
theorem dX12_finds_111 : decode cX12_finds 111 = .ok (.iconst 1, 1) := by decide +kernel
theorem dX12_finds_112 : decode cX12_finds 112 = .ok (.iadd, 1) := by decide +kernel
theorem dX12_finds_113 : decode cX12_finds 113 = .ok (.iastore, 1) := by decide +kernel
theorem dX12_finds_114 : decode cX12_finds 114 = .ok (.aload_n 0, 1) := by decide +kernel
theorem dX12_finds_115 : decode cX12_finds 115 = .ok (.getfield 85, 3) := by decide +kernel
theorem dX12_finds_118 : decode cX12_finds 118 = .ok (.iload 4, 2) := by decide +kernel
theorem dX12_finds_120 : decode cX12_finds 120 = .ok (.aload_n 0, 1) := by decide +kernel
theorem dX12_finds_121 : decode cX12_finds 121 = .ok (.getfield 357, 3) := by decide +kernel
theorem dX12_finds_124 : decode cX12_finds 124 = .ok (.iastore, 1) := by decide +kernel
theorem dX12_finds_125 : decode cX12_finds 125 = .ok (.aload_n 0, 1) := by decide +kernel
theorem dX12_finds_126 : decode cX12_finds 126 = .ok (.dup, 1) := by decide +kernel
theorem dX12_finds_127 : decode cX12_finds 127 = .ok (.getfield 357, 3) := by decide +kernel
theorem dX12_finds_130 : decode cX12_finds 130 = .ok (.iconst 1, 1) := by decide +kernel
theorem dX12_finds_131 : decode cX12_finds 131 = .ok (.iadd, 1) := by decide +kernel
theorem dX12_finds_132 : decode cX12_finds 132 = .ok (.putfield 357, 3) := by decide +kernel
theorem dX12_finds_135 : decode cX12_finds 135 = .ok (.return_, 1) := by decide +kernel
theorem dX12_findsFirst_0 : decode cX12_findsFirst 0 = .ok (.iconst 0, 1) := by decide +kernel
theorem dX12_findsFirst_1 : decode cX12_findsFirst 1 = .ok (.istore_n 1, 1) := by decide +kernel
theorem dX12_findsFirst_2 : decode cX12_findsFirst 2 = .ok (.iload_n 1, 1) := by decide +kernel
theorem dX12_findsFirst_3 : decode cX12_findsFirst 3 = .ok (.sipush 2048, 3) := by decide +kernel
theorem dX12_findsFirst_6 : decode cX12_findsFirst 6 = .ok (.if_icmp .ge 16, 3) := by decide +kernel
theorem dX12_findsFirst_9 : decode cX12_findsFirst 9 = .ok (.aload_n 0, 1) := by decide +kernel
theorem dX12_findsFirst_10 : decode cX12_findsFirst 10 = .ok (.getfield 85, 3) := by decide +kernel
theorem dX12_findsFirst_13 : decode cX12_findsFirst 13 = .ok (.iload_n 1, 1) := by decide +kernel
theorem dX12_findsFirst_14 : decode cX12_findsFirst 14 = .ok (.iconst (-1), 1) := by decide +kernel
theorem dX12_findsFirst_15 : decode cX12_findsFirst 15 = .ok (.iastore, 1) := by decide +kernel
theorem dX12_findsFirst_16 : decode cX12_findsFirst 16 = .ok (.iinc 1 1, 3) := by decide +kernel
theorem dX12_findsFirst_19 : decode cX12_findsFirst 19 = .ok (.goto (-17), 3) := by decide +kernel
theorem dX12_findsFirst_22 : decode cX12_findsFirst 22 = .ok (.aload_n 0, 1) := by decide +kernel
theorem dX12_findsFirst_23 : decode cX12_findsFirst 23 = .ok (.iconst 0, 1) := by decide +kernel
theorem dX12_findsFirst_24 : decode cX12_findsFirst 24 = .ok (.putfield 357, 3) := by decide +kernel
theorem dX12_findsFirst_27 : decode cX12_findsFirst 27 = .ok (.aload_n 0, 1) := by decide +kernel
theorem dX12_findsFirst_28 : decode cX12_findsFirst 28 = .ok (.iconst 0, 1) := by decide +kernel
theorem dX12_findsFirst_29 : decode cX12_findsFirst 29 = .ok (.putfield 360, 3) := by decide +kernel
theorem dX12_findsFirst_32 : decode cX12_findsFirst 32 = .ok (.aload_n 0, 1) := by decide +kernel
theorem dX12_findsFirst_33 : decode cX12_findsFirst 33 = .ok (.aload_n 0, 1) := by decide +kernel
theorem dX12_findsFirst_34 : decode cX12_findsFirst 34 = .ok (.getfield 24, 3) := by decide +kernel
theorem dX12_findsFirst_37 : decode cX12_findsFirst 37 = .ok (.iconst (-1), 1) := by decide +kernel
theorem dX12_findsFirst_38 : decode cX12_findsFirst 38 = .ok (.iconst (-1), 1) := by decide +kernel
theorem dX12_findsFirst_39 : decode cX12_findsFirst 39 = .ok (.invokevirtual 364, 3) := by decide +kernel
theorem dX12_findsFirst_42 : decode cX12_findsFirst 42 = .ok (.return_, 1) := by decide +kernel
theorem dX12_findsFrom_0 : decode cX12_findsFrom 0 = .ok (.aload_n 0, 1) := by decide +kernel
theorem dX12_findsFrom_1 : decode cX12_findsFrom 1 = .ok (.iload_n 1, 1) := by decide +kernel
theorem dX12_findsFrom_2 : decode cX12_findsFrom 2 = .ok (.aload_n 0, 1) := by decide +kernel
theorem dX12_findsFrom_3 : decode cX12_findsFrom 3 = .ok (.getfield 88, 3) := by decide +kernel
theorem dX12_findsFrom_6 : decode cX12_findsFrom 6 = .ok (.invokevirtual 368, 3) := by decide +kernel
theorem dX12_findsFrom_9 : decode cX12_findsFrom 9 = .ok (.iconst 0, 1) := by decide +kernel
theorem dX12_findsFrom_10 : decode cX12_findsFrom 10 = .ok (.istore_n 2, 1) := by decide +kernel
theorem dX12_findsFrom_11 : decode cX12_findsFrom 11 = .ok (.iload_n 2, 1) := by decide +kernel
theorem dX12_findsFrom_12 : decode cX12_findsFrom 12 = .ok (.sipush 480, 3) := by decide +kernel
theorem dX12_findsFrom_15 : decode cX12_findsFrom 15 = .ok (.if_icmp .ge 60, 3) := by decide +kernel
theorem dX12_findsFrom_18 : decode cX12_findsFrom 18 = .ok (.aload_n 0, 1) := by decide +kernel
theorem dX12_findsFrom_19 : decode cX12_findsFrom 19 = .ok (.getfield 360, 3) := by decide +kernel
theorem dX12_findsFrom_22 : decode cX12_findsFrom 22 = .ok (.ifCond .ne 53, 3) := by decide +kernel
theorem dX12_findsFrom_25 : decode cX12_findsFrom 25 = .ok (.aload_n 0, 1) := by decide +kernel
theorem dX12_findsFrom_26 : decode cX12_findsFrom 26 = .ok (.getfield 88, 3) := by decide +kernel
theorem dX12_findsFrom_29 : decode cX12_findsFrom 29 = .ok (.iload_n 2, 1) := by decide +kernel
theorem dX12_findsFrom_30 : decode cX12_findsFrom 30 = .ok (.invokestatic 292, 3) := by decide +kernel
theorem dX12_findsFrom_33 : decode cX12_findsFrom 33 = .ok (.ifCond .eq 36, 3) := by decide +kernel
theorem dX12_findsFrom_36 : decode cX12_findsFrom 36 = .ok (.aload_n 0, 1) := by decide +kernel
theorem dX12_findsFrom_37 : decode cX12_findsFrom 37 = .ok (.getfield 88, 3) := by decide +kernel
theorem dX12_findsFrom_40 : decode cX12_findsFrom 40 = .ok (.aload_n 0, 1) := by decide +kernel
theorem dX12_findsFrom_41 : decode cX12_findsFrom 41 = .ok (.getfield 64, 3) := by decide +kernel
theorem dX12_findsFrom_44 : decode cX12_findsFrom 44 = .ok (.invokestatic 259, 3) := by decide +kernel
theorem dX12_findsFrom_47 : decode cX12_findsFrom 47 = .ok (.aload_n 0, 1) := by decide +kernel
theorem dX12_findsFrom_48 : decode cX12_findsFrom 48 = .ok (.aload_n 0, 1) := by decide +kernel
theorem dX12_findsFrom_49 : decode cX12_findsFrom 49 = .ok (.getfield 64, 3) := by decide +kernel
theorem dX12_findsFrom_52 : decode cX12_findsFrom 52 = .ok (.iload_n 2, 1) := by decide +kernel
theorem dX12_findsFrom_53 : decode cX12_findsFrom 53 = .ok (.invokevirtual 295, 3) := by decide +kernel
theorem dX12_findsFrom_56 : decode cX12_findsFrom 56 = .ok (.ifCond .ne 13, 3) := by decide +kernel
theorem dX12_findsFrom_59 : decode cX12_findsFrom 59 = .ok (.aload_n 0, 1) := by decide +kernel
theorem dX12_findsFrom_60 : decode cX12_findsFrom 60 = .ok (.aload_n 0, 1) := by decide +kernel
theorem dX12_findsFrom_61 : decode cX12_findsFrom 61 = .ok (.getfield 64, 3) := by decide +kernel
theorem dX12_findsFrom_64 : decode cX12_findsFrom 64 = .ok (.iload_n 1, 1) := by decide +kernel
theorem dX12_findsFrom_65 : decode cX12_findsFrom 65 = .ok (.iload_n 2, 1) := by decide +kernel
theorem dX12_findsFrom_66 : decode cX12_findsFrom 66 = .ok (.invokevirtual 364, 3) := by decide +kernel

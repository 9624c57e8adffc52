theorem dX10_wrongSign_118 : decode cX10_wrongSign 118 = .ok (.aload_n 0, 1) := by decide +kernel
theorem dX10_wrongSign_119 : decode cX10_wrongSign 119 = .ok (.getfield 39, 3) := by decide +kernel
theorem dX10_wrongSign_122 : decode cX10_wrongSign 122 = .ok (.ireturn, 1) := by decide +kernel
theorem dX10_readFrom_0 : decode cX10_readFrom 0 = .ok (.aload_n 0, 1) := by decide +kernel
theorem dX10_readFrom_1 : decode cX10_readFrom 1 = .ok (.invokevirtual 55, 3) := by decide +kernel
theorem dX10_readFrom_4 : decode cX10_readFrom 4 = .ok (.iconst 0, 1) := by decide +kernel
theorem dX10_readFrom_5 : decode cX10_readFrom 5 = .ok (.istore_n 2, 1) := by decide +kernel
theorem dX10_readFrom_6 : decode cX10_readFrom 6 = .ok (.iload_n 2, 1) := by decide +kernel
theorem dX10_readFrom_7 : decode cX10_readFrom 7 = .ok (.aload_n 1, 1) := by decide +kernel
theorem dX10_readFrom_8 : decode cX10_readFrom 8 = .ok (.getfield 39, 3) := by decide +kernel
theorem dX10_readFrom_11 : decode cX10_readFrom 11 = .ok (.if_icmp .ge 39, 3) := by decide +kernel
theorem dX10_readFrom_14 : decode cX10_readFrom 14 = .ok (.aload_n 1, 1) := by decide +kernel
theorem dX10_readFrom_15 : decode cX10_readFrom 15 = .ok (.iload_n 2, 1) := by decide +kernel
theorem dX10_readFrom_16 : decode cX10_readFrom 16 = .ok (.invokevirtual 58, 3) := by decide +kernel
theorem dX10_readFrom_19 : decode cX10_readFrom 19 = .ok (.ifCond .eq 25, 3) := by decide +kernel
theorem dX10_readFrom_22 : decode cX10_readFrom 22 = .ok (.aload_n 0, 1) := by decide +kernel
theorem dX10_readFrom_23 : decode cX10_readFrom 23 = .ok (.iload_n 2, 1) := by decide +kernel
theorem dX10_readFrom_24 : decode cX10_readFrom 24 = .ok (.iconst 4, 1) := by decide +kernel
theorem dX10_readFrom_25 : decode cX10_readFrom 25 = .ok (.idiv, 1) := by decide +kernel
theorem dX10_readFrom_26 : decode cX10_readFrom 26 = .ok (.iconst 3, 1) := by decide +kernel
theorem dX10_readFrom_27 : decode cX10_readFrom 27 = .ok (.imul, 1) := by decide +kernel
theorem dX10_readFrom_28 : decode cX10_readFrom 28 = .ok (.iload_n 2, 1) := by decide +kernel
theorem dX10_readFrom_29 : decode cX10_readFrom 29 = .ok (.iconst 4, 1) := by decide +kernel
theorem dX10_readFrom_30 : decode cX10_readFrom 30 = .ok (.irem, 1) := by decide +kernel
theorem dX10_readFrom_31 : decode cX10_readFrom 31 = .ok (.iadd, 1) := by decide +kernel
theorem dX10_readFrom_32 : decode cX10_readFrom 32 = .ok (.aload_n 1, 1) := by decide +kernel
theorem dX10_readFrom_33 : decode cX10_readFrom 33 = .ok (.getfield 62, 3) := by decide +kernel
theorem dX10_readFrom_36 : decode cX10_readFrom 36 = .ok (.iload_n 2, 1) := by decide +kernel
theorem dX10_readFrom_37 : decode cX10_readFrom 37 = .ok (.iaload, 1) := by decide +kernel
theorem dX10_readFrom_38 : decode cX10_readFrom 38 = .ok (.bipush 48, 2) := by decide +kernel
theorem dX10_readFrom_40 : decode cX10_readFrom 40 = .ok (.isub, 1) := by decide +kernel
theorem dX10_readFrom_41 : decode cX10_readFrom 41 = .ok (.invokevirtual 65, 3) := by decide +kernel
theorem dX10_readFrom_44 : decode cX10_readFrom 44 = .ok (.iinc 2 1, 3) := by decide +kernel
theorem dX10_readFrom_47 : decode cX10_readFrom 47 = .ok (.goto (-41), 3) := by decide +kernel
theorem dX10_readFrom_50 : decode cX10_readFrom 50 = .ok (.return_, 1) := by decide +kernel
theorem dX10_clear_0 : decode cX10_clear 0 = .ok (.aload_n 0, 1) := by decide +kernel
theorem dX10_clear_1 : decode cX10_clear 1 = .ok (.getfield 9, 3) := by decide +kernel
theorem dX10_clear_4 : decode cX10_clear 4 = .ok (.iconst (-1), 1) := by decide +kernel
theorem dX10_clear_5 : decode cX10_clear 5 = .ok (.invokestatic 24, 3) := by decide +kernel
theorem dX10_clear_8 : decode cX10_clear 8 = .ok (.aload_n 0, 1) := by decide +kernel
theorem dX10_clear_9 : decode cX10_clear 9 = .ok (.iconst 0, 1) := by decide +kernel
theorem dX10_clear_10 : decode cX10_clear 10 = .ok (.putfield 69, 3) := by decide +kernel
theorem dX10_clear_13 : decode cX10_clear 13 = .ok (.return_, 1) := by decide +kernel
theorem dX10_copyFrom_0 : decode cX10_copyFrom 0 = .ok (.aload_n 1, 1) := by decide +kernel
theorem dX10_copyFrom_1 : decode cX10_copyFrom 1 = .ok (.getfield 9, 3) := by decide +kernel
theorem dX10_copyFrom_4 : decode cX10_copyFrom 4 = .ok (.iconst 0, 1) := by decide +kernel
theorem dX10_copyFrom_5 : decode cX10_copyFrom 5 = .ok (.aload_n 0, 1) := by decide +kernel
theorem dX10_copyFrom_6 : decode cX10_copyFrom 6 = .ok (.getfield 9, 3) := by decide +kernel
theorem dX10_copyFrom_9 : decode cX10_copyFrom 9 = .ok (.iconst 0, 1) := by decide +kernel
theorem dX10_copyFrom_10 : decode cX10_copyFrom 10 = .ok (.bipush 48, 2) := by decide +kernel
theorem dX10_copyFrom_12 : decode cX10_copyFrom 12 = .ok (.invokestatic 72, 3) := by decide +kernel
theorem dX10_copyFrom_15 : decode cX10_copyFrom 15 = .ok (.aload_n 1, 1) := by decide +kernel
theorem dX10_copyFrom_16 : decode cX10_copyFrom 16 = .ok (.getfield 15, 3) := by decide +kernel
theorem dX10_copyFrom_19 : decode cX10_copyFrom 19 = .ok (.iconst 0, 1) := by decide +kernel
theorem dX10_copyFrom_20 : decode cX10_copyFrom 20 = .ok (.aload_n 0, 1) := by decide +kernel
theorem dX10_copyFrom_21 : decode cX10_copyFrom 21 = .ok (.getfield 15, 3) := by decide +kernel
theorem dX10_copyFrom_24 : decode cX10_copyFrom 24 = .ok (.iconst 0, 1) := by decide +kernel
theorem dX10_copyFrom_25 : decode cX10_copyFrom 25 = .ok (.bipush 16, 2) := by decide +kernel
theorem dX10_copyFrom_27 : decode cX10_copyFrom 27 = .ok (.invokestatic 72, 3) := by decide +kernel
theorem dX10_copyFrom_30 : decode cX10_copyFrom 30 = .ok (.aload_n 1, 1) := by decide +kernel
theorem dX10_copyFrom_31 : decode cX10_copyFrom 31 = .ok (.getfield 18, 3) := by decide +kernel
theorem dX10_copyFrom_34 : decode cX10_copyFrom 34 = .ok (.iconst 0, 1) := by decide +kernel
theorem dX10_copyFrom_35 : decode cX10_copyFrom 35 = .ok (.aload_n 0, 1) := by decide +kernel
theorem dX10_copyFrom_36 : decode cX10_copyFrom 36 = .ok (.getfield 18, 3) := by decide +kernel
theorem dX10_copyFrom_39 : decode cX10_copyFrom 39 = .ok (.iconst 0, 1) := by decide +kernel
theorem dX10_copyFrom_40 : decode cX10_copyFrom 40 = .ok (.bipush 16, 2) := by decide +kernel
theorem dX10_copyFrom_42 : decode cX10_copyFrom 42 = .ok (.invokestatic 72, 3) := by decide +kernel
theorem dX10_copyFrom_45 : decode cX10_copyFrom 45 = .ok (.aload_n 1, 1) := by decide +kernel
theorem dX10_copyFrom_46 : decode cX10_copyFrom 46 = .ok (.getfield 21, 3) := by decide +kernel
theorem dX10_copyFrom_49 : decode cX10_copyFrom 49 = .ok (.iconst 0, 1) := by decide +kernel
theorem dX10_copyFrom_50 : decode cX10_copyFrom 50 = .ok (.aload_n 0, 1) := by decide +kernel
theorem dX10_copyFrom_51 : decode cX10_copyFrom 51 = .ok (.getfield 21, 3) := by decide +kernel
theorem dX10_copyFrom_54 : decode cX10_copyFrom 54 = .ok (.iconst 0, 1) := by decide +kernel
theorem dX10_copyFrom_55 : decode cX10_copyFrom 55 = .ok (.bipush 16, 2) := by decide +kernel
theorem dX10_copyFrom_57 : decode cX10_copyFrom 57 = .ok (.invokestatic 72, 3) := by decide +kernel
theorem dX10_copyFrom_60 : decode cX10_copyFrom 60 = .ok (.aload_n 0, 1) := by decide +kernel
theorem dX10_copyFrom_61 : decode cX10_copyFrom 61 = .ok (.aload_n 1, 1) := by decide +kernel
theorem dX10_copyFrom_62 : decode cX10_copyFrom 62 = .ok (.getfield 69, 3) := by decide +kernel
theorem dX10_copyFrom_65 : decode cX10_copyFrom 65 = .ok (.putfield 69, 3) := by decide +kernel
theorem dX10_copyFrom_68 : decode cX10_copyFrom 68 = .ok (.return_, 1) := by decide +kernel
theorem dX10_has_0 : decode cX10_has 0 = .ok (.iload_n 1, 1) := by decide +kernel
theorem dX10_has_1 : decode cX10_has 1 = .ok (.ifCond .lt 23, 3) := by decide +kernel
theorem dX10_has_4 : decode cX10_has 4 = .ok (.iload_n 1, 1) := by decide +kernel
theorem dX10_has_5 : decode cX10_has 5 = .ok (.bipush 48, 2) := by decide +kernel
theorem dX10_has_7 : decode cX10_has 7 = .ok (.if_icmp .ge 17, 3) := by decide +kernel
theorem dX10_has_10 : decode cX10_has 10 = .ok (.aload_n 0, 1) := by decide +kernel
theorem dX10_has_11 : decode cX10_has 11 = .ok (.getfield 9, 3) := by decide +kernel
theorem dX10_has_14 : decode cX10_has 14 = .ok (.iload_n 1, 1) := by decide +kernel
theorem dX10_has_15 : decode cX10_has 15 = .ok (.iaload, 1) := by decide +kernel
theorem dX10_has_16 : decode cX10_has 16 = .ok (.iconst (-1), 1) := by decide +kernel
theorem dX10_has_17 : decode cX10_has 17 = .ok (.if_icmp .eq 7, 3) := by decide +kernel
theorem dX10_has_20 : decode cX10_has 20 = .ok (.iconst 1, 1) := by decide +kernel
theorem dX10_has_21 : decode cX10_has 21 = .ok (.goto 4, 3) := by decide +kernel
theorem dX10_has_24 : decode cX10_has 24 = .ok (.iconst 0, 1) := by decide +kernel
theorem dX10_has_25 : decode cX10_has 25 = .ok (.ireturn, 1) := by decide +kernel
theorem dX10_hasLayer_0 : decode cX10_hasLayer 0 = .ok (.iload_n 1, 1) := by decide +kernel
theorem dX10_hasLayer_1 : decode cX10_hasLayer 1 = .ok (.ifCond .lt 15, 3) := by decide +kernel
theorem dX10_hasLayer_4 : decode cX10_hasLayer 4 = .ok (.iload_n 1, 1) := by decide +kernel
theorem dX10_hasLayer_5 : decode cX10_hasLayer 5 = .ok (.aload_n 0, 1) := by decide +kernel
theorem dX10_hasLayer_6 : decode cX10_hasLayer 6 = .ok (.getfield 69, 3) := by decide +kernel
theorem dX10_hasLayer_9 : decode cX10_hasLayer 9 = .ok (.if_icmp .ge 7, 3) := by decide +kernel
theorem dX10_hasLayer_12 : decode cX10_hasLayer 12 = .ok (.iconst 1, 1) := by decide +kernel
theorem dX10_hasLayer_13 : decode cX10_hasLayer 13 = .ok (.goto 4, 3) := by decide +kernel
theorem dX10_hasLayer_16 : decode cX10_hasLayer 16 = .ok (.iconst 0, 1) := by decide +kernel
theorem dX10_hasLayer_17 : decode cX10_hasLayer 17 = .ok (.ireturn, 1) := by decide +kernel
theorem dX10_put_0 : decode cX10_put 0 = .ok (.iload_n 1, 1) := by decide +kernel
theorem dX10_put_1 : decode cX10_put 1 = .ok (.ifCond .lt 39, 3) := by decide +kernel
theorem dX10_put_4 : decode cX10_put 4 = .ok (.iload_n 1, 1) := by decide +kernel
theorem dX10_put_5 : decode cX10_put 5 = .ok (.bipush 48, 2) := by decide +kernel
theorem dX10_put_7 : decode cX10_put 7 = .ok (.if_icmp .ge 33, 3) := by decide +kernel
theorem dX10_put_10 : decode cX10_put 10 = .ok (.aload_n 0, 1) := by decide +kernel
theorem dX10_put_11 : decode cX10_put 11 = .ok (.getfield 9, 3) := by decide +kernel
theorem dX10_put_14 : decode cX10_put 14 = .ok (.iload_n 1, 1) := by decide +kernel
theorem dX10_put_15 : decode cX10_put 15 = .ok (.iload_n 2, 1) := by decide +kernel
theorem dX10_put_16 : decode cX10_put 16 = .ok (.iastore, 1) := by decide +kernel
theorem dX10_put_17 : decode cX10_put 17 = .ok (.aload_n 0, 1) := by decide +kernel
theorem dX10_put_18 : decode cX10_put 18 = .ok (.aload_n 0, 1) := by decide +kernel
theorem dX10_put_19 : decode cX10_put 19 = .ok (.getfield 69, 3) := by decide +kernel
theorem dX10_put_22 : decode cX10_put 22 = .ok (.iload_n 1, 1) := by decide +kernel
theorem dX10_put_23 : decode cX10_put 23 = .ok (.iconst 3, 1) := by decide +kernel
theorem dX10_put_24 : decode cX10_put 24 = .ok (.idiv, 1) := by decide +kernel
theorem dX10_put_25 : decode cX10_put 25 = .ok (.iconst 1, 1) := by decide +kernel
theorem dX10_put_26 : decode cX10_put 26 = .ok (.iadd, 1) := by decide +kernel
theorem dX10_put_27 : decode cX10_put 27 = .ok (.invokestatic 36, 3) := by decide +kernel
theorem dX10_put_30 : decode cX10_put 30 = .ok (.putfield 69, 3) := by decide +kernel
theorem dX10_put_33 : decode cX10_put 33 = .ok (.aload_n 0, 1) := by decide +kernel
theorem dX10_put_34 : decode cX10_put 34 = .ok (.iload_n 1, 1) := by decide +kernel
theorem dX10_put_35 : decode cX10_put 35 = .ok (.iconst 3, 1) := by decide +kernel
theorem dX10_put_36 : decode cX10_put 36 = .ok (.idiv, 1) := by decide +kernel
theorem dX10_put_37 : decode cX10_put 37 = .ok (.invokevirtual 78, 3) := by decide +kernel
theorem dX10_put_40 : decode cX10_put 40 = .ok (.return_, 1) := by decide +kernel
theorem dX10_take_0 : decode cX10_take 0 = .ok (.aload_n 0, 1) := by decide +kernel
theorem dX10_take_1 : decode cX10_take 1 = .ok (.iload_n 1, 1) := by decide +kernel
theorem dX10_take_2 : decode cX10_take 2 = .ok (.invokevirtual 82, 3) := by decide +kernel
theorem dX10_take_5 : decode cX10_take 5 = .ok (.ifCond .ne 5, 3) := by decide +kernel
theorem dX10_take_8 : decode cX10_take 8 = .ok (.iconst (-1), 1) := by decide +kernel
theorem dX10_take_9 : decode cX10_take 9 = .ok (.ireturn, 1) := by decide +kernel
theorem dX10_take_10 : decode cX10_take 10 = .ok (.aload_n 0, 1) := by decide +kernel
theorem dX10_take_11 : decode cX10_take 11 = .ok (.getfield 9, 3) := by decide +kernel
theorem dX10_take_14 : decode cX10_take 14 = .ok (.iload_n 1, 1) := by decide +kernel
theorem dX10_take_15 : decode cX10_take 15 = .ok (.iaload, 1) := by decide +kernel
theorem dX10_take_16 : decode cX10_take 16 = .ok (.istore_n 2, 1) := by decide +kernel
theorem dX10_take_17 : decode cX10_take 17 = .ok (.iload_n 1, 1) := by decide +kernel
theorem dX10_take_18 : decode cX10_take 18 = .ok (.iconst 3, 1) := by decide +kernel
theorem dX10_take_19 : decode cX10_take 19 = .ok (.idiv, 1) := by decide +kernel
theorem dX10_take_20 : decode cX10_take 20 = .ok (.istore_n 3, 1) := by decide +kernel
theorem dX10_take_21 : decode cX10_take 21 = .ok (.aload_n 0, 1) := by decide +kernel
theorem dX10_take_22 : decode cX10_take 22 = .ok (.getfield 9, 3) := by decide +kernel
theorem dX10_take_25 : decode cX10_take 25 = .ok (.iload_n 1, 1) := by decide +kernel
theorem dX10_take_26 : decode cX10_take 26 = .ok (.iconst (-1), 1) := by decide +kernel
theorem dX10_take_27 : decode cX10_take 27 = .ok (.iastore, 1) := by decide +kernel
theorem dX10_take_28 : decode cX10_take 28 = .ok (.aload_n 0, 1) := by decide +kernel
theorem dX10_take_29 : decode cX10_take 29 = .ok (.iload_n 3, 1) := by decide +kernel
theorem dX10_take_30 : decode cX10_take 30 = .ok (.invokevirtual 78, 3) := by decide +kernel
theorem dX10_take_33 : decode cX10_take 33 = .ok (.iload_n 3, 1) := by decide +kernel
theorem dX10_take_34 : decode cX10_take 34 = .ok (.aload_n 0, 1) := by decide +kernel
theorem dX10_take_35 : decode cX10_take 35 = .ok (.getfield 69, 3) := by decide +kernel
theorem dX10_take_38 : decode cX10_take 38 = .ok (.iconst 1, 1) := by decide +kernel
theorem dX10_take_39 : decode cX10_take 39 = .ok (.isub, 1) := by decide +kernel
theorem dX10_take_40 : decode cX10_take 40 = .ok (.if_icmp .ne 17, 3) := by decide +kernel
theorem dX10_take_43 : decode cX10_take 43 = .ok (.aload_n 0, 1) := by decide +kernel
theorem dX10_take_44 : decode cX10_take 44 = .ok (.getfield 15, 3) := by decide +kernel
theorem dX10_take_47 : decode cX10_take 47 = .ok (.iload_n 3, 1) := by decide +kernel
theorem dX10_take_48 : decode cX10_take 48 = .ok (.iaload, 1) := by decide +kernel
theorem dX10_take_49 : decode cX10_take 49 = .ok (.ifCond .ne 8, 3) := by decide +kernel
theorem dX10_take_52 : decode cX10_take 52 = .ok (.aload_n 0, 1) := by decide +kernel
theorem dX10_take_53 : decode cX10_take 53 = .ok (.iload_n 3, 1) := by decide +kernel
theorem dX10_take_54 : decode cX10_take 54 = .ok (.putfield 69, 3) := by decide +kernel
theorem dX10_take_57 : decode cX10_take 57 = .ok (.iload_n 2, 1) := by decide +kernel
theorem dX10_take_58 : decode cX10_take 58 = .ok (.ireturn, 1) := by decide +kernel
theorem dX10_carry_0 : decode cX10_carry 0 = .ok (.aload_n 0, 1) := by decide +kernel
theorem dX10_carry_1 : decode cX10_carry 1 = .ok (.iload_n 2, 1) := by decide +kernel
theorem dX10_carry_2 : decode cX10_carry 2 = .ok (.aload_n 0, 1) := by decide +kernel
theorem dX10_carry_3 : decode cX10_carry 3 = .ok (.iload_n 1, 1) := by decide +kernel
theorem dX10_carry_4 : decode cX10_carry 4 = .ok (.invokevirtual 85, 3) := by decide +kernel
theorem dX10_carry_7 : decode cX10_carry 7 = .ok (.invokevirtual 65, 3) := by decide +kernel
theorem dX10_carry_10 : decode cX10_carry 10 = .ok (.return_, 1) := by decide +kernel
theorem dX10_refresh_0 : decode cX10_refresh 0 = .ok (.aload_n 0, 1) := by decide +kernel
theorem dX10_refresh_1 : decode cX10_refresh 1 = .ok (.getfield 9, 3) := by decide +kernel
theorem dX10_refresh_4 : decode cX10_refresh 4 = .ok (.iconst 3, 1) := by decide +kernel
theorem dX10_refresh_5 : decode cX10_refresh 5 = .ok (.iload_n 1, 1) := by decide +kernel
theorem dX10_refresh_6 : decode cX10_refresh 6 = .ok (.imul, 1) := by decide +kernel
theorem dX10_refresh_7 : decode cX10_refresh 7 = .ok (.iaload, 1) := by decide +kernel
theorem dX10_refresh_8 : decode cX10_refresh 8 = .ok (.istore_n 2, 1) := by decide +kernel
theorem dX10_refresh_9 : decode cX10_refresh 9 = .ok (.aload_n 0, 1) := by decide +kernel
theorem dX10_refresh_10 : decode cX10_refresh 10 = .ok (.getfield 9, 3) := by decide +kernel
theorem dX10_refresh_13 : decode cX10_refresh 13 = .ok (.iconst 3, 1) := by decide +kernel
theorem dX10_refresh_14 : decode cX10_refresh 14 = .ok (.iload_n 1, 1) := by decide +kernel
theorem dX10_refresh_15 : decode cX10_refresh 15 = .ok (.imul, 1) := by decide +kernel
theorem dX10_refresh_16 : decode cX10_refresh 16 = .ok (.iconst 1, 1) := by decide +kernel
theorem dX10_refresh_17 : decode cX10_refresh 17 = .ok (.iadd, 1) := by decide +kernel
theorem dX10_refresh_18 : decode cX10_refresh 18 = .ok (.iaload, 1) := by decide +kernel
theorem dX10_refresh_19 : decode cX10_refresh 19 = .ok (.istore_n 3, 1) := by decide +kernel
theorem dX10_refresh_20 : decode cX10_refresh 20 = .ok (.aload_n 0, 1) := by decide +kernel
theorem dX10_refresh_21 : decode cX10_refresh 21 = .ok (.getfield 9, 3) := by decide +kernel
theorem dX10_refresh_24 : decode cX10_refresh 24 = .ok (.iconst 3, 1) := by decide +kernel
theorem dX10_refresh_25 : decode cX10_refresh 25 = .ok (.iload_n 1, 1) := by decide +kernel
theorem dX10_refresh_26 : decode cX10_refresh 26 = .ok (.imul, 1) := by decide +kernel
theorem dX10_refresh_27 : decode cX10_refresh 27 = .ok (.iconst 2, 1) := by decide +kernel
theorem dX10_refresh_28 : decode cX10_refresh 28 = .ok (.iadd, 1) := by decide +kernel
theorem dX10_refresh_29 : decode cX10_refresh 29 = .ok (.iaload, 1) := by decide +kernel
theorem dX10_refresh_30 : decode cX10_refresh 30 = .ok (.istore 4, 2) := by decide +kernel
theorem dX10_refresh_32 : decode cX10_refresh 32 = .ok (.iload_n 2, 1) := by decide +kernel
theorem dX10_refresh_33 : decode cX10_refresh 33 = .ok (.iconst (-1), 1) := by decide +kernel
theorem dX10_refresh_34 : decode cX10_refresh 34 = .ok (.if_icmp .ne 7, 3) := by decide +kernel
theorem dX10_refresh_37 : decode cX10_refresh 37 = .ok (.iconst 0, 1) := by decide +kernel
theorem dX10_refresh_38 : decode cX10_refresh 38 = .ok (.goto 7, 3) := by decide +kernel
theorem dX10_refresh_41 : decode cX10_refresh 41 = .ok (.iload_n 2, 1) := by decide +kernel
theorem dX10_refresh_42 : decode cX10_refresh 42 = .ok (.bipush 10, 2) := by decide +kernel
theorem dX10_refresh_44 : decode cX10_refresh 44 = .ok (.iadd, 1) := by decide +kernel
theorem dX10_refresh_45 : decode cX10_refresh 45 = .ok (.istore 5, 2) := by decide +kernel
theorem dX10_refresh_47 : decode cX10_refresh 47 = .ok (.iload_n 3, 1) := by decide +kernel
theorem dX10_refresh_48 : decode cX10_refresh 48 = .ok (.iconst (-1), 1) := by decide +kernel
theorem dX10_refresh_49 : decode cX10_refresh 49 = .ok (.if_icmp .ne 7, 3) := by decide +kernel
theorem dX10_refresh_52 : decode cX10_refresh 52 = .ok (.iconst 0, 1) := by decide +kernel
theorem dX10_refresh_53 : decode cX10_refresh 53 = .ok (.goto 7, 3) := by decide +kernel
theorem dX10_refresh_56 : decode cX10_refresh 56 = .ok (.iload_n 3, 1) := by decide +kernel
theorem dX10_refresh_57 : decode cX10_refresh 57 = .ok (.bipush 10, 2) := by decide +kernel
theorem dX10_refresh_59 : decode cX10_refresh 59 = .ok (.iadd, 1) := by decide +kernel
theorem dX10_refresh_60 : decode cX10_refresh 60 = .ok (.istore 6, 2) := by decide +kernel
theorem dX10_refresh_62 : decode cX10_refresh 62 = .ok (.iload 4, 2) := by decide +kernel
theorem dX10_refresh_64 : decode cX10_refresh 64 = .ok (.iconst (-1), 1) := by decide +kernel
theorem dX10_refresh_65 : decode cX10_refresh 65 = .ok (.if_icmp .ne 7, 3) := by decide +kernel
theorem dX10_refresh_68 : decode cX10_refresh 68 = .ok (.iconst 0, 1) := by decide +kernel
theorem dX10_refresh_69 : decode cX10_refresh 69 = .ok (.goto 8, 3) := by decide +kernel
theorem dX10_refresh_72 : decode cX10_refresh 72 = .ok (.iload 4, 2) := by decide +kernel
theorem dX10_refresh_74 : decode cX10_refresh 74 = .ok (.bipush 10, 2) := by decide +kernel
theorem dX10_refresh_76 : decode cX10_refresh 76 = .ok (.iadd, 1) := by decide +kernel
theorem dX10_refresh_77 : decode cX10_refresh 77 = .ok (.istore 7, 2) := by decide +kernel
theorem dX10_refresh_79 : decode cX10_refresh 79 = .ok (.aload_n 0, 1) := by decide +kernel
theorem dX10_refresh_80 : decode cX10_refresh 80 = .ok (.getfield 15, 3) := by decide +kernel
theorem dX10_refresh_83 : decode cX10_refresh 83 = .ok (.iload_n 1, 1) := by decide +kernel
theorem dX10_refresh_84 : decode cX10_refresh 84 = .ok (.iload 5, 2) := by decide +kernel
theorem dX10_refresh_86 : decode cX10_refresh 86 = .ok (.iload 6, 2) := by decide +kernel
theorem dX10_refresh_88 : decode cX10_refresh 88 = .ok (.iadd, 1) := by decide +kernel
theorem dX10_refresh_89 : decode cX10_refresh 89 = .ok (.iload 7, 2) := by decide +kernel
theorem dX10_refresh_91 : decode cX10_refresh 91 = .ok (.iadd, 1) := by decide +kernel
theorem dX10_refresh_92 : decode cX10_refresh 92 = .ok (.iastore, 1) := by decide +kernel
theorem dX10_refresh_93 : decode cX10_refresh 93 = .ok (.aload_n 0, 1) := by decide +kernel
theorem dX10_refresh_94 : decode cX10_refresh 94 = .ok (.getfield 18, 3) := by decide +kernel
theorem dX10_refresh_97 : decode cX10_refresh 97 = .ok (.iload_n 1, 1) := by decide +kernel
theorem dX10_refresh_98 : decode cX10_refresh 98 = .ok (.iload 7, 2) := by decide +kernel
theorem dX10_refresh_100 : decode cX10_refresh 100 = .ok (.iload 5, 2) := by decide +kernel
theorem dX10_refresh_102 : decode cX10_refresh 102 = .ok (.isub, 1) := by decide +kernel
theorem dX10_refresh_103 : decode cX10_refresh 103 = .ok (.iastore, 1) := by decide +kernel
theorem dX10_refresh_104 : decode cX10_refresh 104 = .ok (.aload_n 0, 1) := by decide +kernel
theorem dX10_refresh_105 : decode cX10_refresh 105 = .ok (.getfield 21, 3) := by decide +kernel
theorem dX10_refresh_108 : decode cX10_refresh 108 = .ok (.iload_n 1, 1) := by decide +kernel
theorem dX10_refresh_109 : decode cX10_refresh 109 = .ok (.iload_n 2, 1) := by decide +kernel
theorem dX10_refresh_110 : decode cX10_refresh 110 = .ok (.iload_n 3, 1) := by decide +kernel
theorem dX10_refresh_111 : decode cX10_refresh 111 = .ok (.iload 4, 2) := by decide +kernel
theorem dX10_refresh_113 : decode cX10_refresh 113 = .ok (.invokestatic 89, 3) := by decide +kernel
theorem dX10_refresh_116 : decode cX10_refresh 116 = .ok (.iastore, 1) := by decide +kernel
theorem dX10_refresh_117 : decode cX10_refresh 117 = .ok (.return_, 1) := by decide +kernel
theorem dX10_bearers_0 : decode cX10_bearers 0 = .ok (.iload_n 0, 1) := by decide +kernel
theorem dX10_bearers_1 : decode cX10_bearers 1 = .ok (.iload_n 2, 1) := by decide +kernel
theorem dX10_bearers_2 : decode cX10_bearers 2 = .ok (.if_icmp .le 7, 3) := by decide +kernel
theorem dX10_bearers_5 : decode cX10_bearers 5 = .ok (.iload_n 0, 1) := by decide +kernel
theorem dX10_bearers_6 : decode cX10_bearers 6 = .ok (.goto 4, 3) := by decide +kernel
theorem dX10_bearers_9 : decode cX10_bearers 9 = .ok (.iload_n 2, 1) := by decide +kernel
theorem dX10_bearers_10 : decode cX10_bearers 10 = .ok (.istore_n 3, 1) := by decide +kernel
theorem dX10_bearers_11 : decode cX10_bearers 11 = .ok (.iload_n 1, 1) := by decide +kernel
theorem dX10_bearers_12 : decode cX10_bearers 12 = .ok (.iload_n 3, 1) := by decide +kernel
theorem dX10_bearers_13 : decode cX10_bearers 13 = .ok (.if_icmp .le 7, 3) := by decide +kernel
theorem dX10_bearers_16 : decode cX10_bearers 16 = .ok (.iload_n 1, 1) := by decide +kernel
theorem dX10_bearers_17 : decode cX10_bearers 17 = .ok (.goto 4, 3) := by decide +kernel
theorem dX10_bearers_20 : decode cX10_bearers 20 = .ok (.iload_n 3, 1) := by decide +kernel
theorem dX10_bearers_21 : decode cX10_bearers 21 = .ok (.istore 4, 2) := by decide +kernel
theorem dX10_bearers_23 : decode cX10_bearers 23 = .ok (.iload 4, 2) := by decide +kernel
theorem dX10_bearers_25 : decode cX10_bearers 25 = .ok (.iconst (-1), 1) := by decide +kernel
theorem dX10_bearers_26 : decode cX10_bearers 26 = .ok (.if_icmp .ne 5, 3) := by decide +kernel
theorem dX10_bearers_29 : decode cX10_bearers 29 = .ok (.iconst 0, 1) := by decide +kernel
theorem dX10_bearers_30 : decode cX10_bearers 30 = .ok (.ireturn, 1) := by decide +kernel
theorem dX10_bearers_31 : decode cX10_bearers 31 = .ok (.iload_n 0, 1) := by decide +kernel
theorem dX10_bearers_32 : decode cX10_bearers 32 = .ok (.iload 4, 2) := by decide +kernel
theorem dX10_bearers_34 : decode cX10_bearers 34 = .ok (.if_icmp .ne 7, 3) := by decide +kernel
theorem dX10_bearers_37 : decode cX10_bearers 37 = .ok (.iconst 1, 1) := by decide +kernel
theorem dX10_bearers_38 : decode cX10_bearers 38 = .ok (.goto 4, 3) := by decide +kernel
theorem dX10_bearers_41 : decode cX10_bearers 41 = .ok (.iconst 0, 1) := by decide +kernel
theorem dX10_bearers_42 : decode cX10_bearers 42 = .ok (.iload_n 1, 1) := by decide +kernel
theorem dX10_bearers_43 : decode cX10_bearers 43 = .ok (.iload 4, 2) := by decide +kernel
theorem dX10_bearers_45 : decode cX10_bearers 45 = .ok (.if_icmp .ne 7, 3) := by decide +kernel
theorem dX10_bearers_48 : decode cX10_bearers 48 = .ok (.iconst 2, 1) := by decide +kernel
theorem dX10_bearers_49 : decode cX10_bearers 49 = .ok (.goto 4, 3) := by decide +kernel
theorem dX10_bearers_52 : decode cX10_bearers 52 = .ok (.iconst 0, 1) := by decide +kernel
theorem dX10_bearers_53 : decode cX10_bearers 53 = .ok (.ior, 1) := by decide +kernel
theorem dX10_bearers_54 : decode cX10_bearers 54 = .ok (.iload_n 2, 1) := by decide +kernel
theorem dX10_bearers_55 : decode cX10_bearers 55 = .ok (.iload 4, 2) := by decide +kernel
theorem dX10_bearers_57 : decode cX10_bearers 57 = .ok (.if_icmp .ne 7, 3) := by decide +kernel
theorem dX10_bearers_60 : decode cX10_bearers 60 = .ok (.iconst 4, 1) := by decide +kernel
theorem dX10_bearers_61 : decode cX10_bearers 61 = .ok (.goto 4, 3) := by decide +kernel
theorem dX10_bearers_64 : decode cX10_bearers 64 = .ok (.iconst 0, 1) := by decide +kernel
theorem dX10_bearers_65 : decode cX10_bearers 65 = .ok (.ior, 1) := by decide +kernel
theorem dX10_bearers_66 : decode cX10_bearers 66 = .ok (.istore 5, 2) := by decide +kernel
theorem dX10_bearers_68 : decode cX10_bearers 68 = .ok (.iload 5, 2) := by decide +kernel
theorem dX10_bearers_70 : decode cX10_bearers 70 = .ok (.iconst 1, 1) := by decide +kernel
theorem dX10_bearers_71 : decode cX10_bearers 71 = .ok (.if_icmp .ne 7, 3) := by decide +kernel
theorem dX10_bearers_74 : decode cX10_bearers 74 = .ok (.iload_n 2, 1) := by decide +kernel
theorem dX10_bearers_75 : decode cX10_bearers 75 = .ok (.goto 4, 3) := by decide +kernel
theorem dX10_bearers_78 : decode cX10_bearers 78 = .ok (.iload_n 0, 1) := by decide +kernel
theorem dX10_bearers_79 : decode cX10_bearers 79 = .ok (.istore 6, 2) := by decide +kernel
theorem dX10_bearers_81 : decode cX10_bearers 81 = .ok (.iload_n 1, 1) := by decide +kernel
theorem dX10_bearers_82 : decode cX10_bearers 82 = .ok (.iload 6, 2) := by decide +kernel
theorem dX10_bearers_84 : decode cX10_bearers 84 = .ok (.if_icmp .le 7, 3) := by decide +kernel
theorem dX10_bearers_87 : decode cX10_bearers 87 = .ok (.iload_n 1, 1) := by decide +kernel
theorem dX10_bearers_88 : decode cX10_bearers 88 = .ok (.goto 5, 3) := by decide +kernel
theorem dX10_bearers_91 : decode cX10_bearers 91 = .ok (.iload 6, 2) := by decide +kernel
theorem dX10_bearers_93 : decode cX10_bearers 93 = .ok (.istore 7, 2) := by decide +kernel
theorem dX10_bearers_95 : decode cX10_bearers 95 = .ok (.iload 5, 2) := by decide +kernel
theorem dX10_bearers_97 : decode cX10_bearers 97 = .ok (.iconst 1, 1) := by decide +kernel
theorem dX10_bearers_98 : decode cX10_bearers 98 = .ok (.if_icmp .eq 9, 3) := by decide +kernel
theorem dX10_bearers_101 : decode cX10_bearers 101 = .ok (.iload 5, 2) := by decide +kernel
theorem dX10_bearers_103 : decode cX10_bearers 103 = .ok (.iconst 4, 1) := by decide +kernel
theorem dX10_bearers_104 : decode cX10_bearers 104 = .ok (.if_icmp .ne 9, 3) := by decide +kernel
theorem dX10_bearers_107 : decode cX10_bearers 107 = .ok (.iload 7, 2) := by decide +kernel
theorem dX10_bearers_109 : decode cX10_bearers 109 = .ok (.iconst (-1), 1) := by decide +kernel
theorem dX10_bearers_110 : decode cX10_bearers 110 = .ok (.if_icmp .ne 6, 3) := by decide +kernel
theorem dX10_bearers_113 : decode cX10_bearers 113 = .ok (.iload 5, 2) := by decide +kernel
theorem dX10_bearers_115 : decode cX10_bearers 115 = .ok (.ireturn, 1) := by decide +kernel
theorem dX10_bearers_116 : decode cX10_bearers 116 = .ok (.iload 5, 2) := by decide +kernel
theorem dX10_bearers_118 : decode cX10_bearers 118 = .ok (.iload_n 0, 1) := by decide +kernel
theorem dX10_bearers_119 : decode cX10_bearers 119 = .ok (.iload 7, 2) := by decide +kernel
theorem dX10_bearers_121 : decode cX10_bearers 121 = .ok (.if_icmp .ne 7, 3) := by decide +kernel
theorem dX10_bearers_124 : decode cX10_bearers 124 = .ok (.iconst 1, 1) := by decide +kernel
theorem dX10_bearers_125 : decode cX10_bearers 125 = .ok (.goto 4, 3) := by decide +kernel
theorem dX10_bearers_128 : decode cX10_bearers 128 = .ok (.iconst 0, 1) := by decide +kernel
theorem dX10_bearers_129 : decode cX10_bearers 129 = .ok (.ior, 1) := by decide +kernel
theorem dX10_bearers_130 : decode cX10_bearers 130 = .ok (.iload_n 1, 1) := by decide +kernel
theorem dX10_bearers_131 : decode cX10_bearers 131 = .ok (.iload 7, 2) := by decide +kernel
theorem dX10_bearers_133 : decode cX10_bearers 133 = .ok (.if_icmp .ne 7, 3) := by decide +kernel
theorem dX10_bearers_136 : decode cX10_bearers 136 = .ok (.iconst 2, 1) := by decide +kernel
theorem dX10_bearers_137 : decode cX10_bearers 137 = .ok (.goto 4, 3) := by decide +kernel
theorem dX10_bearers_140 : decode cX10_bearers 140 = .ok (.iconst 0, 1) := by decide +kernel
theorem dX10_bearers_141 : decode cX10_bearers 141 = .ok (.ior, 1) := by decide +kernel
theorem dX10_bearers_142 : decode cX10_bearers 142 = .ok (.iload_n 2, 1) := by decide +kernel
theorem dX10_bearers_143 : decode cX10_bearers 143 = .ok (.iload 7, 2) := by decide +kernel
theorem dX10_bearers_145 : decode cX10_bearers 145 = .ok (.if_icmp .ne 7, 3) := by decide +kernel
theorem dX10_bearers_148 : decode cX10_bearers 148 = .ok (.iconst 4, 1) := by decide +kernel
theorem dX10_bearers_149 : decode cX10_bearers 149 = .ok (.goto 4, 3) := by decide +kernel
theorem dX10_bearers_152 : decode cX10_bearers 152 = .ok (.iconst 0, 1) := by decide +kernel
theorem dX10_bearers_153 : decode cX10_bearers 153 = .ok (.ior, 1) := by decide +kernel
theorem dX10_bearers_154 : decode cX10_bearers 154 = .ok (.ireturn, 1) := by decide +kernel
theorem dX10_blocksIn_0 : decode cX10_blocksIn 0 = .ok (.iconst 0, 1) := by decide +kernel
theorem dX10_blocksIn_1 : decode cX10_blocksIn 1 = .ok (.istore_n 2, 1) := by decide +kernel
theorem dX10_blocksIn_2 : decode cX10_blocksIn 2 = .ok (.iconst 0, 1) := by decide +kernel
theorem dX10_blocksIn_3 : decode cX10_blocksIn 3 = .ok (.istore_n 3, 1) := by decide +kernel
theorem dX10_blocksIn_4 : decode cX10_blocksIn 4 = .ok (.iload_n 3, 1) := by decide +kernel
theorem dX10_blocksIn_5 : decode cX10_blocksIn 5 = .ok (.iconst 3, 1) := by decide +kernel
theorem dX10_blocksIn_6 : decode cX10_blocksIn 6 = .ok (.if_icmp .ge 29, 3) := by decide +kernel
theorem dX10_blocksIn_9 : decode cX10_blocksIn 9 = .ok (.iload_n 2, 1) := by decide +kernel
theorem dX10_blocksIn_10 : decode cX10_blocksIn 10 = .ok (.aload_n 0, 1) := by decide +kernel
theorem dX10_blocksIn_11 : decode cX10_blocksIn 11 = .ok (.iconst 3, 1) := by decide +kernel
theorem dX10_blocksIn_12 : decode cX10_blocksIn 12 = .ok (.iload_n 1, 1) := by decide +kernel
theorem dX10_blocksIn_13 : decode cX10_blocksIn 13 = .ok (.imul, 1) := by decide +kernel
theorem dX10_blocksIn_14 : decode cX10_blocksIn 14 = .ok (.iload_n 3, 1) := by decide +kernel
theorem dX10_blocksIn_15 : decode cX10_blocksIn 15 = .ok (.iadd, 1) := by decide +kernel
theorem dX10_blocksIn_16 : decode cX10_blocksIn 16 = .ok (.invokevirtual 82, 3) := by decide +kernel
theorem dX10_blocksIn_19 : decode cX10_blocksIn 19 = .ok (.ifCond .eq 7, 3) := by decide +kernel
theorem dX10_blocksIn_22 : decode cX10_blocksIn 22 = .ok (.iconst 1, 1) := by decide +kernel
theorem dX10_blocksIn_23 : decode cX10_blocksIn 23 = .ok (.goto 4, 3) := by decide +kernel
theorem dX10_blocksIn_26 : decode cX10_blocksIn 26 = .ok (.iconst 0, 1) := by decide +kernel
theorem dX10_blocksIn_27 : decode cX10_blocksIn 27 = .ok (.iadd, 1) := by decide +kernel
theorem dX10_blocksIn_28 : decode cX10_blocksIn 28 = .ok (.istore_n 2, 1) := by decide +kernel
theorem dX10_blocksIn_29 : decode cX10_blocksIn 29 = .ok (.iinc 3 1, 3) := by decide +kernel
theorem dX10_blocksIn_32 : decode cX10_blocksIn 32 = .ok (.goto (-28), 3) := by decide +kernel
theorem dX10_blocksIn_35 : decode cX10_blocksIn 35 = .ok (.iload_n 2, 1) := by decide +kernel
theorem dX10_blocksIn_36 : decode cX10_blocksIn 36 = .ok (.ireturn, 1) := by decide +kernel
theorem dX10_blocksAbove_0 : decode cX10_blocksAbove 0 = .ok (.iconst 0, 1) := by decide +kernel
theorem dX10_blocksAbove_1 : decode cX10_blocksAbove 1 = .ok (.istore_n 2, 1) := by decide +kernel
theorem dX10_blocksAbove_2 : decode cX10_blocksAbove 2 = .ok (.iload_n 1, 1) := by decide +kernel
theorem dX10_blocksAbove_3 : decode cX10_blocksAbove 3 = .ok (.iconst 1, 1) := by decide +kernel
theorem dX10_blocksAbove_4 : decode cX10_blocksAbove 4 = .ok (.iadd, 1) := by decide +kernel
theorem dX10_blocksAbove_5 : decode cX10_blocksAbove 5 = .ok (.istore_n 3, 1) := by decide +kernel
theorem dX10_blocksAbove_6 : decode cX10_blocksAbove 6 = .ok (.iload_n 3, 1) := by decide +kernel
theorem dX10_blocksAbove_7 : decode cX10_blocksAbove 7 = .ok (.aload_n 0, 1) := by decide +kernel
theorem dX10_blocksAbove_8 : decode cX10_blocksAbove 8 = .ok (.getfield 69, 3) := by decide +kernel
theorem dX10_blocksAbove_11 : decode cX10_blocksAbove 11 = .ok (.if_icmp .ge 17, 3) := by decide +kernel
theorem dX10_blocksAbove_14 : decode cX10_blocksAbove 14 = .ok (.iload_n 2, 1) := by decide +kernel
theorem dX10_blocksAbove_15 : decode cX10_blocksAbove 15 = .ok (.aload_n 0, 1) := by decide +kernel
theorem dX10_blocksAbove_16 : decode cX10_blocksAbove 16 = .ok (.iload_n 3, 1) := by decide +kernel
theorem dX10_blocksAbove_17 : decode cX10_blocksAbove 17 = .ok (.invokevirtual 93, 3) := by decide +kernel
theorem dX10_blocksAbove_20 : decode cX10_blocksAbove 20 = .ok (.iadd, 1) := by decide +kernel
theorem dX10_blocksAbove_21 : decode cX10_blocksAbove 21 = .ok (.istore_n 2, 1) := by decide +kernel
theorem dX10_blocksAbove_22 : decode cX10_blocksAbove 22 = .ok (.iinc 3 1, 3) := by decide +kernel
theorem dX10_blocksAbove_25 : decode cX10_blocksAbove 25 = .ok (.goto (-19), 3) := by decide +kernel
theorem dX10_blocksAbove_28 : decode cX10_blocksAbove 28 = .ok (.iload_n 2, 1) := by decide +kernel
theorem dX10_blocksAbove_29 : decode cX10_blocksAbove 29 = .ok (.ireturn, 1) := by decide +kernel
theorem dX10_isTight_0 : decode cX10_isTight 0 = .ok (.aload_n 0, 1) := by decide +kernel
theorem dX10_isTight_1 : decode cX10_isTight 1 = .ok (.iload_n 1, 1) := by decide +kernel
theorem dX10_isTight_2 : decode cX10_isTight 2 = .ok (.invokevirtual 82, 3) := by decide +kernel
theorem dX10_isTight_5 : decode cX10_isTight 5 = .ok (.ifCond .eq 25, 3) := by decide +kernel
theorem dX10_isTight_8 : decode cX10_isTight 8 = .ok (.aload_n 0, 1) := by decide +kernel
theorem dX10_isTight_9 : decode cX10_isTight 9 = .ok (.getfield 21, 3) := by decide +kernel
theorem dX10_isTight_12 : decode cX10_isTight 12 = .ok (.iload_n 1, 1) := by decide +kernel
theorem dX10_isTight_13 : decode cX10_isTight 13 = .ok (.iconst 3, 1) := by decide +kernel
theorem dX10_isTight_14 : decode cX10_isTight 14 = .ok (.idiv, 1) := by decide +kernel
theorem dX10_isTight_15 : decode cX10_isTight 15 = .ok (.iaload, 1) := by decide +kernel
theorem dX10_isTight_16 : decode cX10_isTight 16 = .ok (.iload_n 1, 1) := by decide +kernel
theorem dX10_isTight_17 : decode cX10_isTight 17 = .ok (.iconst 3, 1) := by decide +kernel
theorem dX10_isTight_18 : decode cX10_isTight 18 = .ok (.irem, 1) := by decide +kernel
theorem dX10_isTight_19 : decode cX10_isTight 19 = .ok (.ishr, 1) := by decide +kernel
theorem dX10_isTight_20 : decode cX10_isTight 20 = .ok (.iconst 1, 1) := by decide +kernel
theorem dX10_isTight_21 : decode cX10_isTight 21 = .ok (.iand, 1) := by decide +kernel
theorem dX10_isTight_22 : decode cX10_isTight 22 = .ok (.iconst 1, 1) := by decide +kernel
theorem dX10_isTight_23 : decode cX10_isTight 23 = .ok (.if_icmp .ne 7, 3) := by decide +kernel
theorem dX10_isTight_26 : decode cX10_isTight 26 = .ok (.iconst 1, 1) := by decide +kernel
theorem dX10_isTight_27 : decode cX10_isTight 27 = .ok (.goto 4, 3) := by decide +kernel
theorem dX10_isTight_30 : decode cX10_isTight 30 = .ok (.iconst 0, 1) := by decide +kernel
theorem dX10_isTight_31 : decode cX10_isTight 31 = .ok (.ireturn, 1) := by decide +kernel
theorem dX10_looseIn_0 : decode cX10_looseIn 0 = .ok (.iconst 0, 1) := by decide +kernel
theorem dX10_looseIn_1 : decode cX10_looseIn 1 = .ok (.istore_n 2, 1) := by decide +kernel
theorem dX10_looseIn_2 : decode cX10_looseIn 2 = .ok (.iconst 0, 1) := by decide +kernel
theorem dX10_looseIn_3 : decode cX10_looseIn 3 = .ok (.istore_n 3, 1) := by decide +kernel
theorem dX10_looseIn_4 : decode cX10_looseIn 4 = .ok (.iload_n 3, 1) := by decide +kernel
theorem dX10_looseIn_5 : decode cX10_looseIn 5 = .ok (.iconst 3, 1) := by decide +kernel
theorem dX10_looseIn_6 : decode cX10_looseIn 6 = .ok (.if_icmp .ge 31, 3) := by decide +kernel
theorem dX10_looseIn_9 : decode cX10_looseIn 9 = .ok (.iload_n 2, 1) := by decide +kernel
theorem dX10_looseIn_10 : decode cX10_looseIn 10 = .ok (.aload_n 0, 1) := by decide +kernel
theorem dX10_looseIn_11 : decode cX10_looseIn 11 = .ok (.iconst 3, 1) := by decide +kernel
theorem dX10_looseIn_12 : decode cX10_looseIn 12 = .ok (.iload_n 1, 1) := by decide +kernel
theorem dX10_looseIn_13 : decode cX10_looseIn 13 = .ok (.imul, 1) := by decide +kernel
theorem dX10_looseIn_14 : decode cX10_looseIn 14 = .ok (.iload_n 3, 1) := by decide +kernel
theorem dX10_looseIn_15 : decode cX10_looseIn 15 = .ok (.iadd, 1) := by decide +kernel
theorem dX10_looseIn_16 : decode cX10_looseIn 16 = .ok (.invokevirtual 82, 3) := by decide +kernel
theorem dX10_looseIn_19 : decode cX10_looseIn 19 = .ok (.ifCond .eq 9, 3) := by decide +kernel
theorem dX10_looseIn_22 : decode cX10_looseIn 22 = .ok (.iconst 1, 1) := by decide +kernel
theorem dX10_looseIn_23 : decode cX10_looseIn 23 = .ok (.iload_n 3, 1) := by decide +kernel
theorem dX10_looseIn_24 : decode cX10_looseIn 24 = .ok (.ishl, 1) := by decide +kernel
theorem dX10_looseIn_25 : decode cX10_looseIn 25 = .ok (.goto 4, 3) := by decide +kernel
theorem dX10_looseIn_28 : decode cX10_looseIn 28 = .ok (.iconst 0, 1) := by decide +kernel
theorem dX10_looseIn_29 : decode cX10_looseIn 29 = .ok (.ior, 1) := by decide +kernel
theorem dX10_looseIn_30 : decode cX10_looseIn 30 = .ok (.istore_n 2, 1) := by decide +kernel
theorem dX10_looseIn_31 : decode cX10_looseIn 31 = .ok (.iinc 3 1, 3) := by decide +kernel
theorem dX10_looseIn_34 : decode cX10_looseIn 34 = .ok (.goto (-30), 3) := by decide +kernel
theorem dX10_looseIn_37 : decode cX10_looseIn 37 = .ok (.aload_n 0, 1) := by decide +kernel
theorem dX10_looseIn_38 : decode cX10_looseIn 38 = .ok (.iload_n 1, 1) := by decide +kernel
theorem dX10_looseIn_39 : decode cX10_looseIn 39 = .ok (.invokevirtual 96, 3) := by decide +kernel
theorem dX10_looseIn_42 : decode cX10_looseIn 42 = .ok (.ifCond .eq 16, 3) := by decide +kernel
theorem dX10_looseIn_45 : decode cX10_looseIn 45 = .ok (.iload_n 2, 1) := by decide +kernel
theorem dX10_looseIn_46 : decode cX10_looseIn 46 = .ok (.aload_n 0, 1) := by decide +kernel
theorem dX10_looseIn_47 : decode cX10_looseIn 47 = .ok (.getfield 21, 3) := by decide +kernel
theorem dX10_looseIn_50 : decode cX10_looseIn 50 = .ok (.iload_n 1, 1) := by decide +kernel
theorem dX10_looseIn_51 : decode cX10_looseIn 51 = .ok (.iaload, 1) := by decide +kernel
theorem dX10_looseIn_52 : decode cX10_looseIn 52 = .ok (.iconst (-1), 1) := by decide +kernel
theorem dX10_looseIn_53 : decode cX10_looseIn 53 = .ok (.ixor, 1) := by decide +kernel
theorem dX10_looseIn_54 : decode cX10_looseIn 54 = .ok (.iand, 1) := by decide +kernel
theorem dX10_looseIn_55 : decode cX10_looseIn 55 = .ok (.goto 4, 3) := by decide +kernel
theorem dX10_looseIn_58 : decode cX10_looseIn 58 = .ok (.iconst 0, 1) := by decide +kernel
theorem dX10_looseIn_59 : decode cX10_looseIn 59 = .ok (.ireturn, 1) := by decide +kernel
theorem dX10_movesEnd_0 : decode cX10_movesEnd 0 = .ok (.bipush 30, 2) := by decide +kernel
theorem dX10_movesEnd_2 : decode cX10_movesEnd 2 = .ok (.aload_n 0, 1) := by decide +kernel
theorem dX10_movesEnd_3 : decode cX10_movesEnd 3 = .ok (.getfield 69, 3) := by decide +kernel
theorem dX10_movesEnd_6 : decode cX10_movesEnd 6 = .ok (.imul, 1) := by decide +kernel
theorem dX10_movesEnd_7 : decode cX10_movesEnd 7 = .ok (.ireturn, 1) := by decide +kernel
theorem dX10_canGo_0 : decode cX10_canGo 0 = .ok (.iload_n 1, 1) := by decide +kernel
theorem dX10_canGo_1 : decode cX10_canGo 1 = .ok (.ifCond .lt 22, 3) := by decide +kernel
theorem dX10_canGo_4 : decode cX10_canGo 4 = .ok (.iload_n 1, 1) := by decide +kernel
theorem dX10_canGo_5 : decode cX10_canGo 5 = .ok (.bipush 10, 2) := by decide +kernel
theorem dX10_canGo_7 : decode cX10_canGo 7 = .ok (.irem, 1) := by decide +kernel
theorem dX10_canGo_8 : decode cX10_canGo 8 = .ok (.iconst 3, 1) := by decide +kernel
theorem dX10_canGo_9 : decode cX10_canGo 9 = .ok (.if_icmp .ge 14, 3) := by decide +kernel
theorem dX10_canGo_12 : decode cX10_canGo 12 = .ok (.aload_n 0, 1) := by decide +kernel
theorem dX10_canGo_13 : decode cX10_canGo 13 = .ok (.iload_n 1, 1) := by decide +kernel
theorem dX10_canGo_14 : decode cX10_canGo 14 = .ok (.bipush 10, 2) := by decide +kernel
theorem dX10_canGo_16 : decode cX10_canGo 16 = .ok (.idiv, 1) := by decide +kernel
theorem dX10_canGo_17 : decode cX10_canGo 17 = .ok (.invokevirtual 82, 3) := by decide +kernel
theorem dX10_canGo_20 : decode cX10_canGo 20 = .ok (.ifCond .ne 5, 3) := by decide +kernel
theorem dX10_canGo_23 : decode cX10_canGo 23 = .ok (.iconst 0, 1) := by decide +kernel
theorem dX10_canGo_24 : decode cX10_canGo 24 = .ok (.ireturn, 1) := by decide +kernel
theorem dX10_canGo_25 : decode cX10_canGo 25 = .ok (.iload_n 1, 1) := by decide +kernel
theorem dX10_canGo_26 : decode cX10_canGo 26 = .ok (.bipush 10, 2) := by decide +kernel
theorem dX10_canGo_28 : decode cX10_canGo 28 = .ok (.idiv, 1) := by decide +kernel
theorem dX10_canGo_29 : decode cX10_canGo 29 = .ok (.iconst 3, 1) := by decide +kernel
theorem dX10_canGo_30 : decode cX10_canGo 30 = .ok (.idiv, 1) := by decide +kernel
theorem dX10_canGo_31 : decode cX10_canGo 31 = .ok (.istore_n 2, 1) := by decide +kernel
theorem dX10_canGo_32 : decode cX10_canGo 32 = .ok (.aload_n 0, 1) := by decide +kernel
theorem dX10_canGo_33 : decode cX10_canGo 33 = .ok (.getfield 69, 3) := by decide +kernel
theorem dX10_canGo_36 : decode cX10_canGo 36 = .ok (.iconst 1, 1) := by decide +kernel
theorem dX10_canGo_37 : decode cX10_canGo 37 = .ok (.isub, 1) := by decide +kernel
theorem dX10_canGo_38 : decode cX10_canGo 38 = .ok (.istore_n 3, 1) := by decide +kernel
theorem dX10_canGo_39 : decode cX10_canGo 39 = .ok (.aload_n 0, 1) := by decide +kernel
theorem dX10_canGo_40 : decode cX10_canGo 40 = .ok (.iload_n 3, 1) := by decide +kernel
theorem dX10_canGo_41 : decode cX10_canGo 41 = .ok (.invokevirtual 93, 3) := by decide +kernel
theorem dX10_canGo_44 : decode cX10_canGo 44 = .ok (.iconst 3, 1) := by decide +kernel
theorem dX10_canGo_45 : decode cX10_canGo 45 = .ok (.if_icmp .ge 31, 3) := by decide +kernel
theorem dX10_canGo_48 : decode cX10_canGo 48 = .ok (.iload_n 2, 1) := by decide +kernel
theorem dX10_canGo_49 : decode cX10_canGo 49 = .ok (.iload_n 3, 1) := by decide +kernel
theorem dX10_canGo_50 : decode cX10_canGo 50 = .ok (.iconst 1, 1) := by decide +kernel
theorem dX10_canGo_51 : decode cX10_canGo 51 = .ok (.isub, 1) := by decide +kernel
theorem dX10_canGo_52 : decode cX10_canGo 52 = .ok (.if_icmp .ge 22, 3) := by decide +kernel
theorem dX10_canGo_55 : decode cX10_canGo 55 = .ok (.aload_n 0, 1) := by decide +kernel
theorem dX10_canGo_56 : decode cX10_canGo 56 = .ok (.iconst 3, 1) := by decide +kernel
theorem dX10_canGo_57 : decode cX10_canGo 57 = .ok (.iload_n 3, 1) := by decide +kernel
theorem dX10_canGo_58 : decode cX10_canGo 58 = .ok (.imul, 1) := by decide +kernel
theorem dX10_canGo_59 : decode cX10_canGo 59 = .ok (.iload_n 1, 1) := by decide +kernel
theorem dX10_canGo_60 : decode cX10_canGo 60 = .ok (.bipush 10, 2) := by decide +kernel
theorem dX10_canGo_62 : decode cX10_canGo 62 = .ok (.irem, 1) := by decide +kernel
theorem dX10_canGo_63 : decode cX10_canGo 63 = .ok (.iadd, 1) := by decide +kernel
theorem dX10_canGo_64 : decode cX10_canGo 64 = .ok (.invokevirtual 82, 3) := by decide +kernel
theorem dX10_canGo_67 : decode cX10_canGo 67 = .ok (.ifCond .ne 7, 3) := by decide +kernel
theorem dX10_canGo_70 : decode cX10_canGo 70 = .ok (.iconst 1, 1) := by decide +kernel
theorem dX10_canGo_71 : decode cX10_canGo 71 = .ok (.goto 4, 3) := by decide +kernel
theorem dX10_canGo_74 : decode cX10_canGo 74 = .ok (.iconst 0, 1) := by decide +kernel
theorem dX10_canGo_75 : decode cX10_canGo 75 = .ok (.ireturn, 1) := by decide +kernel
theorem dX10_canGo_76 : decode cX10_canGo 76 = .ok (.iload_n 2, 1) := by decide +kernel
theorem dX10_canGo_77 : decode cX10_canGo 77 = .ok (.iload_n 3, 1) := by decide +kernel
theorem dX10_canGo_78 : decode cX10_canGo 78 = .ok (.if_icmp .ge 16, 3) := by decide +kernel
theorem dX10_canGo_81 : decode cX10_canGo 81 = .ok (.aload_n 0, 1) := by decide +kernel
theorem dX10_canGo_82 : decode cX10_canGo 82 = .ok (.getfield 69, 3) := by decide +kernel
theorem dX10_canGo_85 : decode cX10_canGo 85 = .ok (.bipush 16, 2) := by decide +kernel
theorem dX10_canGo_87 : decode cX10_canGo 87 = .ok (.if_icmp .ge 7, 3) := by decide +kernel
theorem dX10_canGo_90 : decode cX10_canGo 90 = .ok (.iconst 1, 1) := by decide +kernel
theorem dX10_canGo_91 : decode cX10_canGo 91 = .ok (.goto 4, 3) := by decide +kernel
theorem dX10_canGo_94 : decode cX10_canGo 94 = .ok (.iconst 0, 1) := by decide +kernel
theorem dX10_canGo_95 : decode cX10_canGo 95 = .ok (.ireturn, 1) := by decide +kernel
theorem dX10_landing_0 : decode cX10_landing 0 = .ok (.aload_n 0, 1) := by decide +kernel
theorem dX10_landing_1 : decode cX10_landing 1 = .ok (.getfield 69, 3) := by decide +kernel
theorem dX10_landing_4 : decode cX10_landing 4 = .ok (.iconst 1, 1) := by decide +kernel
theorem dX10_landing_5 : decode cX10_landing 5 = .ok (.isub, 1) := by decide +kernel
theorem dX10_landing_6 : decode cX10_landing 6 = .ok (.istore_n 2, 1) := by decide +kernel
theorem dX10_landing_7 : decode cX10_landing 7 = .ok (.iconst 3, 1) := by decide +kernel
theorem dX10_landing_8 : decode cX10_landing 8 = .ok (.aload_n 0, 1) := by decide +kernel
theorem dX10_landing_9 : decode cX10_landing 9 = .ok (.iload_n 2, 1) := by decide +kernel
theorem dX10_landing_10 : decode cX10_landing 10 = .ok (.invokevirtual 93, 3) := by decide +kernel
theorem dX10_landing_13 : decode cX10_landing 13 = .ok (.iconst 3, 1) := by decide +kernel
theorem dX10_landing_14 : decode cX10_landing 14 = .ok (.if_icmp .ge 7, 3) := by decide +kernel
theorem dX10_landing_17 : decode cX10_landing 17 = .ok (.iload_n 2, 1) := by decide +kernel
theorem dX10_landing_18 : decode cX10_landing 18 = .ok (.goto 7, 3) := by decide +kernel
theorem dX10_landing_21 : decode cX10_landing 21 = .ok (.aload_n 0, 1) := by decide +kernel
theorem dX10_landing_22 : decode cX10_landing 22 = .ok (.getfield 69, 3) := by decide +kernel
theorem dX10_landing_25 : decode cX10_landing 25 = .ok (.imul, 1) := by decide +kernel
theorem dX10_landing_26 : decode cX10_landing 26 = .ok (.iload_n 1, 1) := by decide +kernel
theorem dX10_landing_27 : decode cX10_landing 27 = .ok (.bipush 10, 2) := by decide +kernel
theorem dX10_landing_29 : decode cX10_landing 29 = .ok (.irem, 1) := by decide +kernel
theorem dX10_landing_30 : decode cX10_landing 30 = .ok (.iadd, 1) := by decide +kernel
theorem dX10_landing_31 : decode cX10_landing 31 = .ok (.ireturn, 1) := by decide +kernel
theorem dX11_init_0 : decode cX11_init 0 = .ok (.aload_n 0, 1) := by decide +kernel
theorem dX11_init_1 : decode cX11_init 1 = .ok (.invokespecial 3, 3) := by decide +kernel
theorem dX11_init_4 : decode cX11_init 4 = .ok (.aload_n 0, 1) := by decide +kernel
theorem dX11_init_5 : decode cX11_init 5 = .ok (.new 9, 3) := by decide +kernel
theorem dX11_init_8 : decode cX11_init 8 = .ok (.dup, 1) := by decide +kernel
theorem dX11_init_9 : decode cX11_init 9 = .ok (.invokespecial 11, 3) := by decide +kernel
theorem dX11_init_12 : decode cX11_init 12 = .ok (.putfield 12, 3) := by decide +kernel
theorem dX11_init_15 : decode cX11_init 15 = .ok (.aload_n 0, 1) := by decide +kernel
theorem dX11_init_16 : decode cX11_init 16 = .ok (.new 16, 3) := by decide +kernel
theorem dX11_init_19 : decode cX11_init 19 = .ok (.dup, 1) := by decide +kernel
theorem dX11_init_20 : decode cX11_init 20 = .ok (.invokespecial 18, 3) := by decide +kernel
theorem dX11_init_23 : decode cX11_init 23 = .ok (.putfield 19, 3) := by decide +kernel
theorem dX11_init_26 : decode cX11_init 26 = .ok (.aload_n 0, 1) := by decide +kernel
theorem dX11_init_27 : decode cX11_init 27 = .ok (.new 23, 3) := by decide +kernel
theorem dX11_init_30 : decode cX11_init 30 = .ok (.dup, 1) := by decide +kernel
theorem dX11_init_31 : decode cX11_init 31 = .ok (.invokespecial 25, 3) := by decide +kernel
theorem dX11_init_34 : decode cX11_init 34 = .ok (.putfield 26, 3) := by decide +kernel
theorem dX11_init_37 : decode cX11_init 37 = .ok (.aload_n 0, 1) := by decide +kernel
theorem dX11_init_38 : decode cX11_init 38 = .ok (.new 30, 3) := by decide +kernel
theorem dX11_init_41 : decode cX11_init 41 = .ok (.dup, 1) := by decide +kernel
theorem dX11_init_42 : decode cX11_init 42 = .ok (.invokespecial 32, 3) := by decide +kernel
theorem dX11_init_45 : decode cX11_init 45 = .ok (.putfield 33, 3) := by decide +kernel
theorem dX11_init_48 : decode cX11_init 48 = .ok (.aload_n 0, 1) := by decide +kernel
theorem dX11_init_49 : decode cX11_init 49 = .ok (.iconst 3, 1) := by decide +kernel
theorem dX11_init_50 : decode cX11_init 50 = .ok (.anewarray 23, 3) := by decide +kernel
theorem dX11_init_53 : decode cX11_init 53 = .ok (.putfield 37, 3) := by decide +kernel
theorem dX11_init_56 : decode cX11_init 56 = .ok (.aload_n 0, 1) := by decide +kernel
theorem dX11_init_57 : decode cX11_init 57 = .ok (.iconst 3, 1) := by decide +kernel
theorem dX11_init_58 : decode cX11_init 58 = .ok (.newarray .boolean, 2) := by decide +kernel
theorem dX11_init_60 : decode cX11_init 60 = .ok (.putfield 41, 3) := by decide +kernel
theorem dX11_init_63 : decode cX11_init 63 = .ok (.aload_n 0, 1) := by decide +kernel
theorem dX11_init_64 : decode cX11_init 64 = .ok (.new 45, 3) := by decide +kernel
theorem dX11_init_67 : decode cX11_init 67 = .ok (.dup, 1) := by decide +kernel
theorem dX11_init_68 : decode cX11_init 68 = .ok (.invokespecial 47, 3) := by decide +kernel
theorem dX11_init_71 : decode cX11_init 71 = .ok (.putfield 48, 3) := by decide +kernel
theorem dX11_init_74 : decode cX11_init 74 = .ok (.aload_n 0, 1) := by decide +kernel
theorem dX11_init_75 : decode cX11_init 75 = .ok (.new 52, 3) := by decide +kernel
theorem dX11_init_78 : decode cX11_init 78 = .ok (.dup, 1) := by decide +kernel
theorem dX11_init_79 : decode cX11_init 79 = .ok (.invokespecial 54, 3) := by decide +kernel
theorem dX11_init_82 : decode cX11_init 82 = .ok (.putfield 55, 3) := by decide +kernel
theorem dX11_init_85 : decode cX11_init 85 = .ok (.aload_n 0, 1) := by decide +kernel
theorem dX11_init_86 : decode cX11_init 86 = .ok (.new 59, 3) := by decide +kernel
theorem dX11_init_89 : decode cX11_init 89 = .ok (.dup, 1) := by decide +kernel
theorem dX11_init_90 : decode cX11_init 90 = .ok (.aload_n 0, 1) := by decide +kernel
theorem dX11_init_91 : decode cX11_init 91 = .ok (.getfield 48, 3) := by decide +kernel
theorem dX11_init_94 : decode cX11_init 94 = .ok (.aload_n 0, 1) := by decide +kernel
theorem dX11_init_95 : decode cX11_init 95 = .ok (.getfield 55, 3) := by decide +kernel
theorem dX11_init_98 : decode cX11_init 98 = .ok (.invokespecial 61, 3) := by decide +kernel
theorem dX11_init_101 : decode cX11_init 101 = .ok (.putfield 64, 3) := by decide +kernel
theorem dX11_init_104 : decode cX11_init 104 = .ok (.aload_n 0, 1) := by decide +kernel
theorem dX11_init_105 : decode cX11_init 105 = .ok (.new 68, 3) := by decide +kernel
theorem dX11_init_108 : decode cX11_init 108 = .ok (.dup, 1) := by decide +kernel
theorem dX11_init_109 : decode cX11_init 109 = .ok (.aload_n 0, 1) := by decide +kernel
theorem dX11_init_110 : decode cX11_init 110 = .ok (.getfield 64, 3) := by decide +kernel
theorem dX11_init_113 : decode cX11_init 113 = .ok (.invokespecial 70, 3) := by decide +kernel
theorem dX11_init_116 : decode cX11_init 116 = .ok (.putfield 73, 3) := by decide +kernel
theorem dX11_init_119 : decode cX11_init 119 = .ok (.aload_n 0, 1) := by decide +kernel
theorem dX11_init_120 : decode cX11_init 120 = .ok (.new 77, 3) := by decide +kernel
theorem dX11_init_123 : decode cX11_init 123 = .ok (.dup, 1) := by decide +kernel
theorem dX11_init_124 : decode cX11_init 124 = .ok (.invokespecial 79, 3) := by decide +kernel
theorem dX11_init_127 : decode cX11_init 127 = .ok (.putfield 80, 3) := by decide +kernel
theorem dX11_init_130 : decode cX11_init 130 = .ok (.aload_n 0, 1) := by decide +kernel
theorem dX11_init_131 : decode cX11_init 131 = .ok (.new 84, 3) := by decide +kernel
theorem dX11_init_134 : decode cX11_init 134 = .ok (.dup, 1) := by decide +kernel
theorem dX11_init_135 : decode cX11_init 135 = .ok (.invokespecial 86, 3) := by decide +kernel
theorem dX11_init_138 : decode cX11_init 138 = .ok (.putfield 87, 3) := by decide +kernel
theorem dX11_init_141 : decode cX11_init 141 = .ok (.aload_n 0, 1) := by decide +kernel
theorem dX11_init_142 : decode cX11_init 142 = .ok (.new 91, 3) := by decide +kernel
theorem dX11_init_145 : decode cX11_init 145 = .ok (.dup, 1) := by decide +kernel
theorem dX11_init_146 : decode cX11_init 146 = .ok (.invokespecial 93, 3) := by decide +kernel
theorem dX11_init_149 : decode cX11_init 149 = .ok (.putfield 94, 3) := by decide +kernel
theorem dX11_init_152 : decode cX11_init 152 = .ok (.aload_n 0, 1) := by decide +kernel
theorem dX11_init_153 : decode cX11_init 153 = .ok (.new 91, 3) := by decide +kernel
theorem dX11_init_156 : decode cX11_init 156 = .ok (.dup, 1) := by decide +kernel
theorem dX11_init_157 : decode cX11_init 157 = .ok (.invokespecial 93, 3) := by decide +kernel
theorem dX11_init_160 : decode cX11_init 160 = .ok (.putfield 98, 3) := by decide +kernel
theorem dX11_init_163 : decode cX11_init 163 = .ok (.aload_n 0, 1) := by decide +kernel
theorem dX11_init_164 : decode cX11_init 164 = .ok (.iconst 4, 1) := by decide +kernel
theorem dX11_init_165 : decode cX11_init 165 = .ok (.newarray .int, 2) := by decide +kernel
theorem dX11_init_167 : decode cX11_init 167 = .ok (.putfield 101, 3) := by decide +kernel
theorem dX11_init_170 : decode cX11_init 170 = .ok (.aload_n 0, 1) := by decide +kernel
theorem dX11_init_171 : decode cX11_init 171 = .ok (.iconst 4, 1) := by decide +kernel
theorem dX11_init_172 : decode cX11_init 172 = .ok (.newarray .int, 2) := by decide +kernel
theorem dX11_init_174 : decode cX11_init 174 = .ok (.putfield 105, 3) := by decide +kernel
theorem dX11_init_177 : decode cX11_init 177 = .ok (.aload_n 0, 1) := by decide +kernel
theorem dX11_init_178 : decode cX11_init 178 = .ok (.iconst 2, 1) := by decide +kernel
theorem dX11_init_179 : decode cX11_init 179 = .ok (.putfield 108, 3) := by decide +kernel
theorem dX11_init_182 : decode cX11_init 182 = .ok (.iconst 0, 1) := by decide +kernel
theorem dX11_init_183 : decode cX11_init 183 = .ok (.istore_n 1, 1) := by decide +kernel
theorem dX11_init_184 : decode cX11_init 184 = .ok (.iload_n 1, 1) := by decide +kernel
theorem dX11_init_185 : decode cX11_init 185 = .ok (.iconst 3, 1) := by decide +kernel
theorem dX11_init_186 : decode cX11_init 186 = .ok (.if_icmp .ge 22, 3) := by decide +kernel
theorem dX11_init_189 : decode cX11_init 189 = .ok (.aload_n 0, 1) := by decide +kernel
theorem dX11_init_190 : decode cX11_init 190 = .ok (.getfield 37, 3) := by decide +kernel
theorem dX11_init_193 : decode cX11_init 193 = .ok (.iload_n 1, 1) := by decide +kernel
theorem dX11_init_194 : decode cX11_init 194 = .ok (.new 23, 3) := by decide +kernel
theorem dX11_init_197 : decode cX11_init 197 = .ok (.dup, 1) := by decide +kernel
theorem dX11_init_198 : decode cX11_init 198 = .ok (.invokespecial 25, 3) := by decide +kernel
theorem dX11_init_201 : decode cX11_init 201 = .ok (.aastore, 1) := by decide +kernel
theorem dX11_init_202 : decode cX11_init 202 = .ok (.iinc 1 1, 3) := by decide +kernel
theorem dX11_init_205 : decode cX11_init 205 = .ok (.goto (-21), 3) := by decide +kernel
theorem dX11_init_208 : decode cX11_init 208 = .ok (.aload_n 0, 1) := by decide +kernel
theorem dX11_init_209 : decode cX11_init 209 = .ok (.getfield 101, 3) := by decide +kernel
theorem dX11_init_212 : decode cX11_init 212 = .ok (.iconst 1, 1) := by decide +kernel
theorem dX11_init_213 : decode cX11_init 213 = .ok (.invokestatic 112, 3) := by decide +kernel
theorem dX11_init_216 : decode cX11_init 216 = .ok (.return_, 1) := by decide +kernel
theorem dX11_sign_0 : decode cX11_sign 0 = .ok (.aload_n 0, 1) := by decide +kernel
theorem dX11_sign_1 : decode cX11_sign 1 = .ok (.getfield 12, 3) := by decide +kernel
theorem dX11_sign_4 : decode cX11_sign 4 = .ok (.iload_n 1, 1) := by decide +kernel
theorem dX11_sign_5 : decode cX11_sign 5 = .ok (.invokevirtual 118, 3) := by decide +kernel
theorem dX11_sign_8 : decode cX11_sign 8 = .ok (.ifCond .eq 13, 3) := by decide +kernel
theorem dX11_sign_11 : decode cX11_sign 11 = .ok (.aload_n 0, 1) := by decide +kernel
theorem dX11_sign_12 : decode cX11_sign 12 = .ok (.getfield 12, 3) := by decide +kernel
theorem dX11_sign_15 : decode cX11_sign 15 = .ok (.getfield 122, 3) := by decide +kernel
theorem dX11_sign_18 : decode cX11_sign 18 = .ok (.goto 4, 3) := by decide +kernel
theorem dX11_sign_21 : decode cX11_sign 21 = .ok (.iconst (-1), 1) := by decide +kernel
theorem dX11_sign_22 : decode cX11_sign 22 = .ok (.ireturn, 1) := by decide +kernel
theorem dX11_end_0 : decode cX11_end 0 = .ok (.aload_n 0, 1) := by decide +kernel
theorem dX11_end_1 : decode cX11_end 1 = .ok (.getfield 12, 3) := by decide +kernel
theorem dX11_end_4 : decode cX11_end 4 = .ok (.iload_n 1, 1) := by decide +kernel
theorem dX11_end_5 : decode cX11_end 5 = .ok (.invokevirtual 125, 3) := by decide +kernel
theorem dX11_end_8 : decode cX11_end 8 = .ok (.ireturn, 1) := by decide +kernel
theorem dX11_tower_0 : decode cX11_tower 0 = .ok (.aload_n 0, 1) := by decide +kernel
theorem dX11_tower_1 : decode cX11_tower 1 = .ok (.getfield 12, 3) := by decide +kernel
theorem dX11_tower_4 : decode cX11_tower 4 = .ok (.invokestatic 128, 3) := by decide +kernel
theorem dX11_tower_7 : decode cX11_tower 7 = .ok (.istore_n 1, 1) := by decide +kernel
theorem dX11_tower_8 : decode cX11_tower 8 = .ok (.iload_n 1, 1) := by decide +kernel
theorem dX11_tower_9 : decode cX11_tower 9 = .ok (.iconst (-1), 1) := by decide +kernel
theorem dX11_tower_10 : decode cX11_tower 10 = .ok (.if_icmp .ne 38, 3) := by decide +kernel
theorem dX11_tower_13 : decode cX11_tower 13 = .ok (.aload_n 0, 1) := by decide +kernel
theorem dX11_tower_14 : decode cX11_tower 14 = .ok (.getfield 26, 3) := by decide +kernel
theorem dX11_tower_17 : decode cX11_tower 17 = .ok (.getfield 132, 3) := by decide +kernel
theorem dX11_tower_20 : decode cX11_tower 20 = .ok (.aload_n 0, 1) := by decide +kernel
theorem dX11_tower_21 : decode cX11_tower 21 = .ok (.getfield 12, 3) := by decide +kernel
theorem dX11_tower_24 : decode cX11_tower 24 = .ok (.invokevirtual 135, 3) := by decide +kernel
theorem dX11_tower_27 : decode cX11_tower 27 = .ok (.aload_n 0, 1) := by decide +kernel
theorem dX11_tower_28 : decode cX11_tower 28 = .ok (.getfield 26, 3) := by decide +kernel
theorem dX11_tower_31 : decode cX11_tower 31 = .ok (.invokevirtual 139, 3) := by decide +kernel
theorem dX11_tower_34 : decode cX11_tower 34 = .ok (.aload_n 0, 1) := by decide +kernel
theorem dX11_tower_35 : decode cX11_tower 35 = .ok (.getfield 80, 3) := by decide +kernel
theorem dX11_tower_38 : decode cX11_tower 38 = .ok (.invokevirtual 142, 3) := by decide +kernel
theorem dX11_tower_41 : decode cX11_tower 41 = .ok (.aload_n 0, 1) := by decide +kernel
theorem dX11_tower_42 : decode cX11_tower 42 = .ok (.getfield 33, 3) := by decide +kernel
theorem dX11_tower_45 : decode cX11_tower 45 = .ok (.invokevirtual 145, 3) := by decide +kernel
theorem dX11_tower_48 : decode cX11_tower 48 = .ok (.aload_n 0, 1) := by decide +kernel
theorem dX11_tower_49 : decode cX11_tower 49 = .ok (.getfield 12, 3) := by decide +kernel
theorem dX11_tower_52 : decode cX11_tower 52 = .ok (.invokevirtual 146, 3) := by decide +kernel
theorem dX11_tower_55 : decode cX11_tower 55 = .ok (.iload_n 1, 1) := by decide +kernel
theorem dX11_tower_56 : decode cX11_tower 56 = .ok (.iconst (-1), 1) := by decide +kernel
theorem dX11_tower_57 : decode cX11_tower 57 = .ok (.if_icmp .ne 16, 3) := by decide +kernel
theorem dX11_tower_60 : decode cX11_tower 60 = .ok (.aload_n 0, 1) := by decide +kernel
theorem dX11_tower_61 : decode cX11_tower 61 = .ok (.getfield 26, 3) := by decide +kernel
theorem dX11_tower_64 : decode cX11_tower 64 = .ok (.getfield 132, 3) := by decide +kernel
theorem dX11_tower_67 : decode cX11_tower 67 = .ok (.getfield 147, 3) := by decide +kernel
theorem dX11_tower_70 : decode cX11_tower 70 = .ok (.goto 6, 3) := by decide +kernel
theorem dX11_tower_73 : decode cX11_tower 73 = .ok (.iconst (-1), 1) := by decide +kernel
theorem dX11_tower_74 : decode cX11_tower 74 = .ok (.iload_n 1, 1) := by decide +kernel
theorem dX11_tower_75 : decode cX11_tower 75 = .ok (.isub, 1) := by decide +kernel
theorem dX11_tower_76 : decode cX11_tower 76 = .ok (.ireturn, 1) := by decide +kernel
theorem dX11_rule_0 : decode cX11_rule 0 = .ok (.aload_n 0, 1) := by decide +kernel
theorem dX11_rule_1 : decode cX11_rule 1 = .ok (.getfield 55, 3) := by decide +kernel
theorem dX11_rule_4 : decode cX11_rule 4 = .ok (.aload_n 0, 1) := by decide +kernel
theorem dX11_rule_5 : decode cX11_rule 5 = .ok (.getfield 12, 3) := by decide +kernel
theorem dX11_rule_8 : decode cX11_rule 8 = .ok (.invokevirtual 150, 3) := by decide +kernel
theorem dX11_rule_11 : decode cX11_rule 11 = .ok (.istore_n 1, 1) := by decide +kernel
theorem dX11_rule_12 : decode cX11_rule 12 = .ok (.aload_n 0, 1) := by decide +kernel
theorem dX11_rule_13 : decode cX11_rule 13 = .ok (.getfield 12, 3) := by decide +kernel
theorem dX11_rule_16 : decode cX11_rule 16 = .ok (.invokevirtual 146, 3) := by decide +kernel
theorem dX11_rule_19 : decode cX11_rule 19 = .ok (.iload_n 1, 1) := by decide +kernel
theorem dX11_rule_20 : decode cX11_rule 20 = .ok (.iconst (-1), 1) := by decide +kernel
theorem dX11_rule_21 : decode cX11_rule 21 = .ok (.if_icmp .ne 7, 3) := by decide +kernel
theorem dX11_rule_24 : decode cX11_rule 24 = .ok (.iconst 0, 1) := by decide +kernel
theorem dX11_rule_25 : decode cX11_rule 25 = .ok (.goto 6, 3) := by decide +kernel
theorem dX11_rule_28 : decode cX11_rule 28 = .ok (.iconst (-1), 1) := by decide +kernel
theorem dX11_rule_29 : decode cX11_rule 29 = .ok (.iload_n 1, 1) := by decide +kernel
theorem dX11_rule_30 : decode cX11_rule 30 = .ok (.isub, 1) := by decide +kernel
theorem dX11_rule_31 : decode cX11_rule 31 = .ok (.ireturn, 1) := by decide +kernel
theorem dX11_players_0 : decode cX11_players 0 = .ok (.aload_n 0, 1) := by decide +kernel
theorem dX11_players_1 : decode cX11_players 1 = .ok (.invokevirtual 152, 3) := by decide +kernel
theorem dX11_players_4 : decode cX11_players 4 = .ok (.istore_n 1, 1) := by decide +kernel
theorem dX11_players_5 : decode cX11_players 5 = .ok (.iload_n 1, 1) := by decide +kernel
theorem dX11_players_6 : decode cX11_players 6 = .ok (.iconst (-1), 1) := by decide +kernel
theorem dX11_players_7 : decode cX11_players 7 = .ok (.if_icmp .ne 61, 3) := by decide +kernel
theorem dX11_players_10 : decode cX11_players 10 = .ok (.aload_n 0, 1) := by decide +kernel
theorem dX11_players_11 : decode cX11_players 11 = .ok (.aload_n 0, 1) := by decide +kernel
theorem dX11_players_12 : decode cX11_players 12 = .ok (.getfield 12, 3) := by decide +kernel
theorem dX11_players_15 : decode cX11_players 15 = .ok (.getfield 122, 3) := by decide +kernel
theorem dX11_players_18 : decode cX11_players 18 = .ok (.putfield 108, 3) := by decide +kernel
theorem dX11_players_21 : decode cX11_players 21 = .ok (.iconst 0, 1) := by decide +kernel
theorem dX11_players_22 : decode cX11_players 22 = .ok (.istore_n 2, 1) := by decide +kernel
theorem dX11_players_23 : decode cX11_players 23 = .ok (.iload_n 2, 1) := by decide +kernel
theorem dX11_players_24 : decode cX11_players 24 = .ok (.aload_n 0, 1) := by decide +kernel
theorem dX11_players_25 : decode cX11_players 25 = .ok (.getfield 108, 3) := by decide +kernel
theorem dX11_players_28 : decode cX11_players 28 = .ok (.if_icmp .ge 32, 3) := by decide +kernel
theorem dX11_players_31 : decode cX11_players 31 = .ok (.iload_n 2, 1) := by decide +kernel
theorem dX11_players_32 : decode cX11_players 32 = .ok (.iconst 4, 1) := by decide +kernel
theorem dX11_players_33 : decode cX11_players 33 = .ok (.if_icmp .ge 27, 3) := by decide +kernel
theorem dX11_players_36 : decode cX11_players 36 = .ok (.aload_n 0, 1) := by decide +kernel
theorem dX11_players_37 : decode cX11_players 37 = .ok (.getfield 101, 3) := by decide +kernel
theorem dX11_players_40 : decode cX11_players 40 = .ok (.iload_n 2, 1) := by decide +kernel
theorem dX11_players_41 : decode cX11_players 41 = .ok (.aload_n 0, 1) := by decide +kernel
theorem dX11_players_42 : decode cX11_players 42 = .ok (.getfield 12, 3) := by decide +kernel
theorem dX11_players_45 : decode cX11_players 45 = .ok (.getfield 156, 3) := by decide +kernel
theorem dX11_players_48 : decode cX11_players 48 = .ok (.iload_n 2, 1) := by decide +kernel
theorem dX11_players_49 : decode cX11_players 49 = .ok (.iaload, 1) := by decide +kernel
theorem dX11_players_50 : decode cX11_players 50 = .ok (.bipush 48, 2) := by decide +kernel
theorem dX11_players_52 : decode cX11_players 52 = .ok (.isub, 1) := by decide +kernel
theorem dX11_players_53 : decode cX11_players 53 = .ok (.iastore, 1) := by decide +kernel
theorem dX11_players_54 : decode cX11_players 54 = .ok (.iinc 2 1, 3) := by decide +kernel
theorem dX11_players_57 : decode cX11_players 57 = .ok (.goto (-34), 3) := by decide +kernel
theorem dX11_players_60 : decode cX11_players 60 = .ok (.aload_n 0, 1) := by decide +kernel
theorem dX11_players_61 : decode cX11_players 61 = .ok (.getfield 26, 3) := by decide +kernel
theorem dX11_players_64 : decode cX11_players 64 = .ok (.iconst 0, 1) := by decide +kernel
theorem dX11_players_65 : decode cX11_players 65 = .ok (.putfield 159, 3) := by decide +kernel
theorem dX11_players_68 : decode cX11_players 68 = .ok (.aload_n 0, 1) := by decide +kernel
theorem dX11_players_69 : decode cX11_players 69 = .ok (.getfield 12, 3) := by decide +kernel
theorem dX11_players_72 : decode cX11_players 72 = .ok (.invokevirtual 146, 3) := by decide +kernel
theorem dX11_players_75 : decode cX11_players 75 = .ok (.iload_n 1, 1) := by decide +kernel
theorem dX11_players_76 : decode cX11_players 76 = .ok (.iconst (-1), 1) := by decide +kernel
theorem dX11_players_77 : decode cX11_players 77 = .ok (.if_icmp .ne 10, 3) := by decide +kernel
theorem dX11_players_80 : decode cX11_players 80 = .ok (.aload_n 0, 1) := by decide +kernel
theorem dX11_players_81 : decode cX11_players 81 = .ok (.getfield 108, 3) := by decide +kernel
theorem dX11_players_84 : decode cX11_players 84 = .ok (.goto 6, 3) := by decide +kernel
theorem dX11_players_87 : decode cX11_players 87 = .ok (.iconst (-1), 1) := by decide +kernel
theorem dX11_players_88 : decode cX11_players 88 = .ok (.iload_n 1, 1) := by decide +kernel
theorem dX11_players_89 : decode cX11_players 89 = .ok (.isub, 1) := by decide +kernel
theorem dX11_players_90 : decode cX11_players 90 = .ok (.ireturn, 1) := by decide +kernel
theorem dX11_wrongHand_0 : decode cX11_wrongHand 0 = .ok (.iconst 0, 1) := by decide +kernel
theorem dX11_wrongHand_1 : decode cX11_wrongHand 1 = .ok (.istore_n 1, 1) := by decide +kernel
theorem dX11_wrongHand_2 : decode cX11_wrongHand 2 = .ok (.iload_n 1, 1) := by decide +kernel
theorem dX11_wrongHand_3 : decode cX11_wrongHand 3 = .ok (.aload_n 0, 1) := by decide +kernel
theorem dX11_wrongHand_4 : decode cX11_wrongHand 4 = .ok (.getfield 12, 3) := by decide +kernel
theorem dX11_wrongHand_7 : decode cX11_wrongHand 7 = .ok (.getfield 122, 3) := by decide +kernel
theorem dX11_wrongHand_10 : decode cX11_wrongHand 10 = .ok (.if_icmp .ge 27, 3) := by decide +kernel
theorem dX11_wrongHand_13 : decode cX11_wrongHand 13 = .ok (.iload_n 1, 1) := by decide +kernel
theorem dX11_wrongHand_14 : decode cX11_wrongHand 14 = .ok (.iconst 4, 1) := by decide +kernel
theorem dX11_wrongHand_15 : decode cX11_wrongHand 15 = .ok (.if_icmp .ge 22, 3) := by decide +kernel
theorem dX11_wrongHand_18 : decode cX11_wrongHand 18 = .ok (.aload_n 0, 1) := by decide +kernel
theorem dX11_wrongHand_19 : decode cX11_wrongHand 19 = .ok (.getfield 12, 3) := by decide +kernel
theorem dX11_wrongHand_22 : decode cX11_wrongHand 22 = .ok (.iload_n 1, 1) := by decide +kernel
theorem dX11_wrongHand_23 : decode cX11_wrongHand 23 = .ok (.invokevirtual 162, 3) := by decide +kernel
theorem dX11_wrongHand_26 : decode cX11_wrongHand 26 = .ok (.ifCond .ne 5, 3) := by decide +kernel
theorem dX11_wrongHand_29 : decode cX11_wrongHand 29 = .ok (.iload_n 1, 1) := by decide +kernel
theorem dX11_wrongHand_30 : decode cX11_wrongHand 30 = .ok (.ireturn, 1) := by decide +kernel
theorem dX11_wrongHand_31 : decode cX11_wrongHand 31 = .ok (.iinc 1 1, 3) := by decide +kernel
theorem dX11_wrongHand_34 : decode cX11_wrongHand 34 = .ok (.goto (-32), 3) := by decide +kernel
theorem dX11_wrongHand_37 : decode cX11_wrongHand 37 = .ok (.aload_n 0, 1) := by decide +kernel
theorem dX11_wrongHand_38 : decode cX11_wrongHand 38 = .ok (.getfield 12, 3) := by decide +kernel
theorem dX11_wrongHand_41 : decode cX11_wrongHand 41 = .ok (.getfield 122, 3) := by decide +kernel
theorem dX11_wrongHand_44 : decode cX11_wrongHand 44 = .ok (.ifCond .ne 5, 3) := by decide +kernel
theorem dX11_wrongHand_47 : decode cX11_wrongHand 47 = .ok (.iconst 0, 1) := by decide +kernel
theorem dX11_wrongHand_48 : decode cX11_wrongHand 48 = .ok (.ireturn, 1) := by decide +kernel
theorem dX11_wrongHand_49 : decode cX11_wrongHand 49 = .ok (.aload_n 0, 1) := by decide +kernel
theorem dX11_wrongHand_50 : decode cX11_wrongHand 50 = .ok (.getfield 12, 3) := by decide +kernel
theorem dX11_wrongHand_53 : decode cX11_wrongHand 53 = .ok (.getfield 122, 3) := by decide +kernel
theorem dX11_wrongHand_56 : decode cX11_wrongHand 56 = .ok (.iconst 4, 1) := by decide +kernel
theorem dX11_wrongHand_57 : decode cX11_wrongHand 57 = .ok (.if_icmp .le 7, 3) := by decide +kernel
theorem dX11_wrongHand_60 : decode cX11_wrongHand 60 = .ok (.iconst 4, 1) := by decide +kernel
theorem dX11_wrongHand_61 : decode cX11_wrongHand 61 = .ok (.goto 4, 3) := by decide +kernel
theorem dX11_wrongHand_64 : decode cX11_wrongHand 64 = .ok (.iconst (-1), 1) := by decide +kernel
theorem dX11_wrongHand_65 : decode cX11_wrongHand 65 = .ok (.ireturn, 1) := by decide +kernel
theorem dX11_block_0 : decode cX11_block 0 = .ok (.aload_n 0, 1) := by decide +kernel
theorem dX11_block_1 : decode cX11_block 1 = .ok (.getfield 26, 3) := by decide +kernel
theorem dX11_block_4 : decode cX11_block 4 = .ok (.getfield 132, 3) := by decide +kernel
theorem dX11_block_7 : decode cX11_block 7 = .ok (.astore_n 3, 1) := by decide +kernel
theorem dX11_block_8 : decode cX11_block 8 = .ok (.aload_n 3, 1) := by decide +kernel
theorem dX11_block_9 : decode cX11_block 9 = .ok (.iload_n 1, 1) := by decide +kernel
theorem dX11_block_10 : decode cX11_block 10 = .ok (.invokevirtual 165, 3) := by decide +kernel
theorem dX11_block_13 : decode cX11_block 13 = .ok (.ifCond .ne 13, 3) := by decide +kernel
theorem dX11_block_16 : decode cX11_block 16 = .ok (.new 168, 3) := by decide +kernel
theorem dX11_block_19 : decode cX11_block 19 = .ok (.dup, 1) := by decide +kernel
theorem dX11_block_20 : decode cX11_block 20 = .ok (.ldc 170, 2) := by decide +kernel
theorem dX11_block_22 : decode cX11_block 22 = .ok (.invokespecial 172, 3) := by decide +kernel
theorem dX11_block_25 : decode cX11_block 25 = .ok (.athrow, 1) := by decide +kernel
theorem dX11_block_26 : decode cX11_block 26 = .ok (.iload_n 2, 1) := by decide +kernel
theorem dX11_block_27 : decode cX11_block 27 = .ok (.tableswitch 86 0 4 #[33, 40, 50, 64, 72], 33) := by decide +kernel
theorem dX11_block_60 : decode cX11_block 60 = .ok (.aload_n 3, 1) := by decide +kernel
theorem dX11_block_61 : decode cX11_block 61 = .ok (.getfield 175, 3) := by decide +kernel
theorem dX11_block_64 : decode cX11_block 64 = .ok (.iload_n 1, 1) := by decide +kernel
theorem dX11_block_65 : decode cX11_block 65 = .ok (.iaload, 1) := by decide +kernel
theorem dX11_block_66 : decode cX11_block 66 = .ok (.ireturn, 1) := by decide +kernel
theorem dX11_block_67 : decode cX11_block 67 = .ok (.aload_n 3, 1) := by decide +kernel
theorem dX11_block_68 : decode cX11_block 68 = .ok (.getfield 175, 3) := by decide +kernel
theorem dX11_block_71 : decode cX11_block 71 = .ok (.iload_n 1, 1) := by decide +kernel
theorem dX11_block_72 : decode cX11_block 72 = .ok (.iaload, 1) := by decide +kernel
theorem dX11_block_73 : decode cX11_block 73 = .ok (.bipush 10, 2) := by decide +kernel
theorem dX11_block_75 : decode cX11_block 75 = .ok (.iadd, 1) := by decide +kernel
theorem dX11_block_76 : decode cX11_block 76 = .ok (.ireturn, 1) := by decide +kernel
theorem dX11_block_77 : decode cX11_block 77 = .ok (.aload_n 3, 1) := by decide +kernel
theorem dX11_block_78 : decode cX11_block 78 = .ok (.iload_n 1, 1) := by decide +kernel
theorem dX11_block_79 : decode cX11_block 79 = .ok (.invokevirtual 178, 3) := by decide +kernel
theorem dX11_block_82 : decode cX11_block 82 = .ok (.ifCond .eq 7, 3) := by decide +kernel
theorem dX11_block_85 : decode cX11_block 85 = .ok (.iconst 1, 1) := by decide +kernel
theorem dX11_block_86 : decode cX11_block 86 = .ok (.goto 4, 3) := by decide +kernel
theorem dX11_block_89 : decode cX11_block 89 = .ok (.iconst 0, 1) := by decide +kernel
theorem dX11_block_90 : decode cX11_block 90 = .ok (.ireturn, 1) := by decide +kernel
theorem dX11_block_91 : decode cX11_block 91 = .ok (.aload_n 3, 1) := by decide +kernel
theorem dX11_block_92 : decode cX11_block 92 = .ok (.iload_n 1, 1) := by decide +kernel
theorem dX11_block_93 : decode cX11_block 93 = .ok (.iconst 3, 1) := by decide +kernel
theorem dX11_block_94 : decode cX11_block 94 = .ok (.idiv, 1) := by decide +kernel
theorem dX11_block_95 : decode cX11_block 95 = .ok (.invokevirtual 181, 3) := by decide +kernel
theorem dX11_block_98 : decode cX11_block 98 = .ok (.ireturn, 1) := by decide +kernel
theorem dX11_block_99 : decode cX11_block 99 = .ok (.aload_n 0, 1) := by decide +kernel
theorem dX11_block_100 : decode cX11_block 100 = .ok (.iload_n 1, 1) := by decide +kernel
theorem dX11_block_101 : decode cX11_block 101 = .ok (.invokevirtual 185, 3) := by decide +kernel
theorem dX11_block_104 : decode cX11_block 104 = .ok (.ifCond .eq 7, 3) := by decide +kernel
theorem dX11_block_107 : decode cX11_block 107 = .ok (.iconst 1, 1) := by decide +kernel
theorem dX11_block_108 : decode cX11_block 108 = .ok (.goto 4, 3) := by decide +kernel
theorem dX11_block_111 : decode cX11_block 111 = .ok (.iconst 0, 1) := by decide +kernel
theorem dX11_block_112 : decode cX11_block 112 = .ok (.ireturn, 1) := by decide +kernel
theorem dX11_block_113 : decode cX11_block 113 = .ok (.new 168, 3) := by decide +kernel
theorem dX11_block_116 : decode cX11_block 116 = .ok (.dup, 1) := by decide +kernel
theorem dX11_block_117 : decode cX11_block 117 = .ok (.ldc 188, 2) := by decide +kernel
theorem dX11_block_119 : decode cX11_block 119 = .ok (.invokespecial 172, 3) := by decide +kernel
theorem dX11_block_122 : decode cX11_block 122 = .ok (.athrow, 1) := by decide +kernel
theorem dX11_canBeDrawn_0 : decode cX11_canBeDrawn 0 = .ok (.aload_n 0, 1) := by decide +kernel
theorem dX11_canBeDrawn_1 : decode cX11_canBeDrawn 1 = .ok (.getfield 26, 3) := by decide +kernel
theorem dX11_canBeDrawn_4 : decode cX11_canBeDrawn 4 = .ok (.getfield 132, 3) := by decide +kernel
theorem dX11_canBeDrawn_7 : decode cX11_canBeDrawn 7 = .ok (.astore_n 2, 1) := by decide +kernel
theorem dX11_canBeDrawn_8 : decode cX11_canBeDrawn 8 = .ok (.aload_n 2, 1) := by decide +kernel
theorem dX11_canBeDrawn_9 : decode cX11_canBeDrawn 9 = .ok (.iload_n 1, 1) := by decide +kernel
theorem dX11_canBeDrawn_10 : decode cX11_canBeDrawn 10 = .ok (.iconst 3, 1) := by decide +kernel
theorem dX11_canBeDrawn_11 : decode cX11_canBeDrawn 11 = .ok (.idiv, 1) := by decide +kernel
theorem dX11_canBeDrawn_12 : decode cX11_canBeDrawn 12 = .ok (.invokevirtual 190, 3) := by decide +kernel
theorem dX11_canBeDrawn_15 : decode cX11_canBeDrawn 15 = .ok (.iconst 2, 1) := by decide +kernel
theorem dX11_canBeDrawn_16 : decode cX11_canBeDrawn 16 = .ok (.if_icmp .ge 5, 3) := by decide +kernel
theorem dX11_canBeDrawn_19 : decode cX11_canBeDrawn 19 = .ok (.iconst 0, 1) := by decide +kernel
theorem dX11_canBeDrawn_20 : decode cX11_canBeDrawn 20 = .ok (.ireturn, 1) := by decide +kernel
theorem dX11_canBeDrawn_21 : decode cX11_canBeDrawn 21 = .ok (.aload_n 2, 1) := by decide +kernel
theorem dX11_canBeDrawn_22 : decode cX11_canBeDrawn 22 = .ok (.iload_n 1, 1) := by decide +kernel
theorem dX11_canBeDrawn_23 : decode cX11_canBeDrawn 23 = .ok (.invokevirtual 193, 3) := by decide +kernel
theorem dX11_canBeDrawn_26 : decode cX11_canBeDrawn 26 = .ok (.istore_n 3, 1) := by decide +kernel
theorem dX11_canBeDrawn_27 : decode cX11_canBeDrawn 27 = .ok (.aload_n 0, 1) := by decide +kernel
theorem dX11_canBeDrawn_28 : decode cX11_canBeDrawn 28 = .ok (.getfield 48, 3) := by decide +kernel
theorem dX11_canBeDrawn_31 : decode cX11_canBeDrawn 31 = .ok (.aload_n 2, 1) := by decide +kernel
theorem dX11_canBeDrawn_32 : decode cX11_canBeDrawn 32 = .ok (.invokevirtual 196, 3) := by decide +kernel
theorem dX11_canBeDrawn_35 : decode cX11_canBeDrawn 35 = .ok (.istore 4, 2) := by decide +kernel
theorem dX11_canBeDrawn_37 : decode cX11_canBeDrawn 37 = .ok (.aload_n 2, 1) := by decide +kernel
theorem dX11_canBeDrawn_38 : decode cX11_canBeDrawn 38 = .ok (.iload_n 1, 1) := by decide +kernel
theorem dX11_canBeDrawn_39 : decode cX11_canBeDrawn 39 = .ok (.iload_n 3, 1) := by decide +kernel
theorem dX11_canBeDrawn_40 : decode cX11_canBeDrawn 40 = .ok (.invokevirtual 200, 3) := by decide +kernel
theorem dX11_canBeDrawn_43 : decode cX11_canBeDrawn 43 = .ok (.iload 4, 2) := by decide +kernel
theorem dX11_canBeDrawn_45 : decode cX11_canBeDrawn 45 = .ok (.ireturn, 1) := by decide +kernel
theorem dX11_layer_0 : decode cX11_layer 0 = .ok (.aload_n 0, 1) := by decide +kernel
theorem dX11_layer_1 : decode cX11_layer 1 = .ok (.getfield 26, 3) := by decide +kernel
theorem dX11_layer_4 : decode cX11_layer 4 = .ok (.getfield 132, 3) := by decide +kernel
theorem dX11_layer_7 : decode cX11_layer 7 = .ok (.astore_n 3, 1) := by decide +kernel
theorem dX11_layer_8 : decode cX11_layer 8 = .ok (.aload_n 3, 1) := by decide +kernel
theorem dX11_layer_9 : decode cX11_layer 9 = .ok (.iload_n 1, 1) := by decide +kernel
theorem dX11_layer_10 : decode cX11_layer 10 = .ok (.invokevirtual 204, 3) := by decide +kernel
theorem dX11_layer_13 : decode cX11_layer 13 = .ok (.ifCond .ne 13, 3) := by decide +kernel
theorem dX11_layer_16 : decode cX11_layer 16 = .ok (.new 168, 3) := by decide +kernel
theorem dX11_layer_19 : decode cX11_layer 19 = .ok (.dup, 1) := by decide +kernel
theorem dX11_layer_20 : decode cX11_layer 20 = .ok (.ldc 207, 2) := by decide +kernel
theorem dX11_layer_22 : decode cX11_layer 22 = .ok (.invokespecial 172, 3) := by decide +kernel
theorem dX11_layer_25 : decode cX11_layer 25 = .ok (.athrow, 1) := by decide +kernel
theorem dX11_layer_26 : decode cX11_layer 26 = .ok (.aload_n 0, 1) := by decide +kernel
theorem dX11_layer_27 : decode cX11_layer 27 = .ok (.getfield 48, 3) := by decide +kernel
theorem dX11_layer_30 : decode cX11_layer 30 = .ok (.aload_n 3, 1) := by decide +kernel
theorem dX11_layer_31 : decode cX11_layer 31 = .ok (.invokevirtual 196, 3) := by decide +kernel
theorem dX11_layer_34 : decode cX11_layer 34 = .ok (.pop, 1) := by decide +kernel
theorem dX11_layer_35 : decode cX11_layer 35 = .ok (.iload_n 2, 1) := by decide +kernel
theorem dX11_layer_36 : decode cX11_layer 36 = .ok (.tableswitch 107 0 6 #[44, 50, 60, 70, 80, 90, 100], 44) := by decide +kernel
theorem dX11_layer_80 : decode cX11_layer 80 = .ok (.aload_n 3, 1) := by decide +kernel
theorem dX11_layer_81 : decode cX11_layer 81 = .ok (.iload_n 1, 1) := by decide +kernel
theorem dX11_layer_82 : decode cX11_layer 82 = .ok (.invokevirtual 190, 3) := by decide +kernel
theorem dX11_layer_85 : decode cX11_layer 85 = .ok (.ireturn, 1) := by decide +kernel
theorem dX11_layer_86 : decode cX11_layer 86 = .ok (.aload_n 0, 1) := by decide +kernel
theorem dX11_layer_87 : decode cX11_layer 87 = .ok (.getfield 48, 3) := by decide +kernel
theorem dX11_layer_90 : decode cX11_layer 90 = .ok (.getfield 209, 3) := by decide +kernel
theorem dX11_layer_93 : decode cX11_layer 93 = .ok (.iload_n 1, 1) := by decide +kernel
theorem dX11_layer_94 : decode cX11_layer 94 = .ok (.iaload, 1) := by decide +kernel
theorem dX11_layer_95 : decode cX11_layer 95 = .ok (.ireturn, 1) := by decide +kernel
theorem dX11_layer_96 : decode cX11_layer 96 = .ok (.aload_n 0, 1) := by decide +kernel
theorem dX11_layer_97 : decode cX11_layer 97 = .ok (.getfield 48, 3) := by decide +kernel
theorem dX11_layer_100 : decode cX11_layer 100 = .ok (.getfield 212, 3) := by decide +kernel
theorem dX11_layer_103 : decode cX11_layer 103 = .ok (.iload_n 1, 1) := by decide +kernel
theorem dX11_layer_104 : decode cX11_layer 104 = .ok (.iaload, 1) := by decide +kernel
theorem dX11_layer_105 : decode cX11_layer 105 = .ok (.ireturn, 1) := by decide +kernel
theorem dX11_layer_106 : decode cX11_layer 106 = .ok (.aload_n 0, 1) := by decide +kernel
theorem dX11_layer_107 : decode cX11_layer 107 = .ok (.getfield 48, 3) := by decide +kernel
theorem dX11_layer_110 : decode cX11_layer 110 = .ok (.getfield 215, 3) := by decide +kernel
theorem dX11_layer_113 : decode cX11_layer 113 = .ok (.iload_n 1, 1) := by decide +kernel
theorem dX11_layer_114 : decode cX11_layer 114 = .ok (.iaload, 1) := by decide +kernel
theorem dX11_layer_115 : decode cX11_layer 115 = .ok (.ireturn, 1) := by decide +kernel
theorem dX11_layer_116 : decode cX11_layer 116 = .ok (.aload_n 3, 1) := by decide +kernel
theorem dX11_layer_117 : decode cX11_layer 117 = .ok (.getfield 218, 3) := by decide +kernel
theorem dX11_layer_120 : decode cX11_layer 120 = .ok (.iload_n 1, 1) := by decide +kernel
theorem dX11_layer_121 : decode cX11_layer 121 = .ok (.iaload, 1) := by decide +kernel
theorem dX11_layer_122 : decode cX11_layer 122 = .ok (.invokestatic 221, 3) := by decide +kernel
theorem dX11_layer_125 : decode cX11_layer 125 = .ok (.ireturn, 1) := by decide +kernel
theorem dX11_layer_126 : decode cX11_layer 126 = .ok (.aload_n 3, 1) := by decide +kernel
theorem dX11_layer_127 : decode cX11_layer 127 = .ok (.getfield 218, 3) := by decide +kernel
theorem dX11_layer_130 : decode cX11_layer 130 = .ok (.iload_n 1, 1) := by decide +kernel
theorem dX11_layer_131 : decode cX11_layer 131 = .ok (.iaload, 1) := by decide +kernel
theorem dX11_layer_132 : decode cX11_layer 132 = .ok (.invokestatic 224, 3) := by decide +kernel
theorem dX11_layer_135 : decode cX11_layer 135 = .ok (.ireturn, 1) := by decide +kernel
theorem dX11_layer_136 : decode cX11_layer 136 = .ok (.aload_n 3, 1) := by decide +kernel
theorem dX11_layer_137 : decode cX11_layer 137 = .ok (.getfield 218, 3) := by decide +kernel
theorem dX11_layer_140 : decode cX11_layer 140 = .ok (.iload_n 1, 1) := by decide +kernel
theorem dX11_layer_141 : decode cX11_layer 141 = .ok (.iaload, 1) := by decide +kernel
theorem dX11_layer_142 : decode cX11_layer 142 = .ok (.ireturn, 1) := by decide +kernel
theorem dX11_layer_143 : decode cX11_layer 143 = .ok (.new 168, 3) := by decide +kernel
theorem dX11_layer_146 : decode cX11_layer 146 = .ok (.dup, 1) := by decide +kernel
theorem dX11_layer_147 : decode cX11_layer 147 = .ok (.ldc 227, 2) := by decide +kernel
theorem dX11_layer_149 : decode cX11_layer 149 = .ok (.invokespecial 172, 3) := by decide +kernel
theorem dX11_layer_152 : decode cX11_layer 152 = .ok (.athrow, 1) := by decide +kernel
theorem dX11_plane_0 : decode cX11_plane 0 = .ok (.aload_n 0, 1) := by decide +kernel
theorem dX11_plane_1 : decode cX11_plane 1 = .ok (.getfield 26, 3) := by decide +kernel
theorem dX11_plane_4 : decode cX11_plane 4 = .ok (.getfield 132, 3) := by decide +kernel
theorem dX11_plane_7 : decode cX11_plane 7 = .ok (.iload_n 1, 1) := by decide +kernel
theorem dX11_plane_8 : decode cX11_plane 8 = .ok (.invokevirtual 165, 3) := by decide +kernel
theorem dX11_plane_11 : decode cX11_plane 11 = .ok (.ifCond .eq 13, 3) := by decide +kernel
theorem dX11_plane_14 : decode cX11_plane 14 = .ok (.iload_n 2, 1) := by decide +kernel
theorem dX11_plane_15 : decode cX11_plane 15 = .ok (.ifCond .lt 9, 3) := by decide +kernel
theorem dX11_plane_18 : decode cX11_plane 18 = .ok (.iload_n 2, 1) := by decide +kernel
theorem dX11_plane_19 : decode cX11_plane 19 = .ok (.bipush 9, 2) := by decide +kernel
theorem dX11_plane_21 : decode cX11_plane 21 = .ok (.if_icmp .le 5, 3) := by decide +kernel
theorem dX11_plane_24 : decode cX11_plane 24 = .ok (.iconst (-1), 1) := by decide +kernel
theorem dX11_plane_25 : decode cX11_plane 25 = .ok (.ireturn, 1) := by decide +kernel
theorem dX11_plane_26 : decode cX11_plane 26 = .ok (.aload_n 0, 1) := by decide +kernel
theorem dX11_plane_27 : decode cX11_plane 27 = .ok (.getfield 26, 3) := by decide +kernel
theorem dX11_plane_30 : decode cX11_plane 30 = .ok (.getfield 132, 3) := by decide +kernel
theorem dX11_plane_33 : decode cX11_plane 33 = .ok (.getfield 175, 3) := by decide +kernel
theorem dX11_plane_36 : decode cX11_plane 36 = .ok (.iload_n 1, 1) := by decide +kernel
theorem dX11_plane_37 : decode cX11_plane 37 = .ok (.iaload, 1) := by decide +kernel
theorem dX11_plane_38 : decode cX11_plane 38 = .ok (.istore_n 3, 1) := by decide +kernel
theorem dX11_plane_39 : decode cX11_plane 39 = .ok (.aload_n 0, 1) := by decide +kernel
theorem dX11_plane_40 : decode cX11_plane 40 = .ok (.getfield 26, 3) := by decide +kernel
theorem dX11_plane_43 : decode cX11_plane 43 = .ok (.getfield 132, 3) := by decide +kernel
theorem dX11_plane_46 : decode cX11_plane 46 = .ok (.iload_n 1, 1) := by decide +kernel
theorem dX11_plane_47 : decode cX11_plane 47 = .ok (.iload_n 2, 1) := by decide +kernel
theorem dX11_plane_48 : decode cX11_plane 48 = .ok (.invokevirtual 200, 3) := by decide +kernel
theorem dX11_plane_51 : decode cX11_plane 51 = .ok (.iload_n 3, 1) := by decide +kernel
theorem dX11_plane_52 : decode cX11_plane 52 = .ok (.ireturn, 1) := by decide +kernel
theorem dX11_sheet_0 : decode cX11_sheet 0 = .ok (.iload_n 1, 1) := by decide +kernel
theorem dX11_sheet_1 : decode cX11_sheet 1 = .ok (.ifCond .lt 14, 3) := by decide +kernel
theorem dX11_sheet_4 : decode cX11_sheet 4 = .ok (.iload_n 1, 1) := by decide +kernel
theorem dX11_sheet_5 : decode cX11_sheet 5 = .ok (.iconst 3, 1) := by decide +kernel
theorem dX11_sheet_6 : decode cX11_sheet 6 = .ok (.if_icmp .gt 9, 3) := by decide +kernel
theorem dX11_sheet_9 : decode cX11_sheet 9 = .ok (.iload_n 2, 1) := by decide +kernel
theorem dX11_sheet_10 : decode cX11_sheet 10 = .ok (.bipush 48, 2) := by decide +kernel
theorem dX11_sheet_12 : decode cX11_sheet 12 = .ok (.if_icmp .le 5, 3) := by decide +kernel
theorem dX11_sheet_15 : decode cX11_sheet 15 = .ok (.iconst (-1), 1) := by decide +kernel
theorem dX11_sheet_16 : decode cX11_sheet 16 = .ok (.ireturn, 1) := by decide +kernel
theorem dX11_sheet_17 : decode cX11_sheet 17 = .ok (.iload_n 1, 1) := by decide +kernel
theorem dX11_sheet_18 : decode cX11_sheet 18 = .ok (.iconst 3, 1) := by decide +kernel
theorem dX11_sheet_19 : decode cX11_sheet 19 = .ok (.if_icmp .ne 16, 3) := by decide +kernel
theorem dX11_sheet_22 : decode cX11_sheet 22 = .ok (.aload_n 0, 1) := by decide +kernel
theorem dX11_sheet_23 : decode cX11_sheet 23 = .ok (.iload_n 1, 1) := by decide +kernel
theorem dX11_sheet_24 : decode cX11_sheet 24 = .ok (.iconst 0, 1) := by decide +kernel
theorem dX11_sheet_25 : decode cX11_sheet 25 = .ok (.iload_n 3, 1) := by decide +kernel
theorem dX11_sheet_26 : decode cX11_sheet 26 = .ok (.iload 4, 2) := by decide +kernel
theorem dX11_sheet_28 : decode cX11_sheet 28 = .ok (.invokevirtual 229, 3) := by decide +kernel
theorem dX11_sheet_31 : decode cX11_sheet 31 = .ok (.pop, 1) := by decide +kernel
theorem dX11_sheet_32 : decode cX11_sheet 32 = .ok (.bipush (-3), 2) := by decide +kernel
theorem dX11_sheet_34 : decode cX11_sheet 34 = .ok (.ireturn, 1) := by decide +kernel
theorem dX11_sheet_35 : decode cX11_sheet 35 = .ok (.iload_n 2, 1) := by decide +kernel
theorem dX11_sheet_36 : decode cX11_sheet 36 = .ok (.ifCond .ge 8, 3) := by decide +kernel
theorem dX11_sheet_39 : decode cX11_sheet 39 = .ok (.bipush (-2), 2) := by decide +kernel
theorem dX11_sheet_41 : decode cX11_sheet 41 = .ok (.goto 12, 3) := by decide +kernel
theorem dX11_sheet_44 : decode cX11_sheet 44 = .ok (.aload_n 0, 1) := by decide +kernel
theorem dX11_sheet_45 : decode cX11_sheet 45 = .ok (.iload_n 1, 1) := by decide +kernel
theorem dX11_sheet_46 : decode cX11_sheet 46 = .ok (.iload_n 2, 1) := by decide +kernel
theorem dX11_sheet_47 : decode cX11_sheet 47 = .ok (.iload_n 3, 1) := by decide +kernel
theorem dX11_sheet_48 : decode cX11_sheet 48 = .ok (.iload 4, 2) := by decide +kernel
theorem dX11_sheet_50 : decode cX11_sheet 50 = .ok (.invokevirtual 229, 3) := by decide +kernel
theorem dX11_sheet_53 : decode cX11_sheet 53 = .ok (.ireturn, 1) := by decide +kernel
theorem dX11_copySheet_0 : decode cX11_copySheet 0 = .ok (.aload_n 0, 1) := by decide +kernel
theorem dX11_copySheet_1 : decode cX11_copySheet 1 = .ok (.getfield 26, 3) := by decide +kernel
theorem dX11_copySheet_4 : decode cX11_copySheet 4 = .ok (.getfield 132, 3) := by decide +kernel
theorem dX11_copySheet_7 : decode cX11_copySheet 7 = .ok (.astore 5, 2) := by decide +kernel
theorem dX11_copySheet_9 : decode cX11_copySheet 9 = .ok (.iconst 0, 1) := by decide +kernel
theorem dX11_copySheet_10 : decode cX11_copySheet 10 = .ok (.istore 6, 2) := by decide +kernel
theorem dX11_copySheet_12 : decode cX11_copySheet 12 = .ok (.iconst 0, 1) := by decide +kernel
theorem dX11_copySheet_13 : decode cX11_copySheet 13 = .ok (.istore 7, 2) := by decide +kernel
theorem dX11_copySheet_15 : decode cX11_copySheet 15 = .ok (.iconst 0, 1) := by decide +kernel
theorem dX11_copySheet_16 : decode cX11_copySheet 16 = .ok (.istore 8, 2) := by decide +kernel
theorem dX11_copySheet_18 : decode cX11_copySheet 18 = .ok (.iload 8, 2) := by decide +kernel
theorem dX11_copySheet_20 : decode cX11_copySheet 20 = .ok (.bipush 48, 2) := by decide +kernel
theorem dX11_copySheet_22 : decode cX11_copySheet 22 = .ok (.if_icmp .ge 64, 3) := by decide +kernel
theorem dX11_copySheet_25 : decode cX11_copySheet 25 = .ok (.aload 5, 2) := by decide +kernel
theorem dX11_copySheet_27 : decode cX11_copySheet 27 = .ok (.iload 8, 2) := by decide +kernel
theorem dX11_copySheet_29 : decode cX11_copySheet 29 = .ok (.invokevirtual 165, 3) := by decide +kernel
theorem dX11_copySheet_32 : decode cX11_copySheet 32 = .ok (.ifCond .eq 48, 3) := by decide +kernel
theorem dX11_copySheet_35 : decode cX11_copySheet 35 = .ok (.iload 7, 2) := by decide +kernel
theorem dX11_copySheet_37 : decode cX11_copySheet 37 = .ok (.iload_n 2, 1) := by decide +kernel
theorem dX11_copySheet_38 : decode cX11_copySheet 38 = .ok (.if_icmp .ge 20, 3) := by decide +kernel
theorem dX11_copySheet_41 : decode cX11_copySheet 41 = .ok (.iload_n 1, 1) := by decide +kernel
theorem dX11_copySheet_42 : decode cX11_copySheet 42 = .ok (.iload_n 3, 1) := by decide +kernel
theorem dX11_copySheet_43 : decode cX11_copySheet 43 = .ok (.iload 7, 2) := by decide +kernel
theorem dX11_copySheet_45 : decode cX11_copySheet 45 = .ok (.iload 4, 2) := by decide +kernel
theorem dX11_copySheet_47 : decode cX11_copySheet 47 = .ok (.imul, 1) := by decide +kernel
theorem dX11_copySheet_48 : decode cX11_copySheet 48 = .ok (.iadd, 1) := by decide +kernel
theorem dX11_copySheet_49 : decode cX11_copySheet 49 = .ok (.invokestatic 233, 3) := by decide +kernel
theorem dX11_copySheet_52 : decode cX11_copySheet 52 = .ok (.invokestatic 237, 3) := by decide +kernel
theorem dX11_copySheet_55 : decode cX11_copySheet 55 = .ok (.goto 4, 3) := by decide +kernel
theorem dX11_copySheet_58 : decode cX11_copySheet 58 = .ok (.iconst 0, 1) := by decide +kernel
theorem dX11_copySheet_59 : decode cX11_copySheet 59 = .ok (.istore 9, 2) := by decide +kernel
theorem dX11_copySheet_61 : decode cX11_copySheet 61 = .ok (.aload 5, 2) := by decide +kernel
theorem dX11_copySheet_63 : decode cX11_copySheet 63 = .ok (.iload 8, 2) := by decide +kernel
theorem dX11_copySheet_65 : decode cX11_copySheet 65 = .ok (.iload 9, 2) := by decide +kernel
theorem dX11_copySheet_67 : decode cX11_copySheet 67 = .ok (.invokevirtual 200, 3) := by decide +kernel
theorem dX11_copySheet_70 : decode cX11_copySheet 70 = .ok (.iload 6, 2) := by decide +kernel
theorem dX11_copySheet_72 : decode cX11_copySheet 72 = .ok (.iload 9, 2) := by decide +kernel
theorem dX11_copySheet_74 : decode cX11_copySheet 74 = .ok (.iadd, 1) := by decide +kernel
theorem dX11_copySheet_75 : decode cX11_copySheet 75 = .ok (.istore 6, 2) := by decide +kernel
theorem dX11_copySheet_77 : decode cX11_copySheet 77 = .ok (.iinc 7 1, 3) := by decide +kernel
theorem dX11_copySheet_80 : decode cX11_copySheet 80 = .ok (.iinc 8 1, 3) := by decide +kernel
theorem dX11_copySheet_83 : decode cX11_copySheet 83 = .ok (.goto (-65), 3) := by decide +kernel
theorem dX11_copySheet_86 : decode cX11_copySheet 86 = .ok (.iload 6, 2) := by decide +kernel
theorem dX11_copySheet_88 : decode cX11_copySheet 88 = .ok (.ireturn, 1) := by decide +kernel
theorem dX11_entry_0 : decode cX11_entry 0 = .ok (.iload_n 0, 1) := by decide +kernel
theorem dX11_entry_1 : decode cX11_entry 1 = .ok (.ifCond .ne 6, 3) := by decide +kernel
theorem dX11_entry_4 : decode cX11_entry 4 = .ok (.iload_n 1, 1) := by decide +kernel
theorem dX11_entry_5 : decode cX11_entry 5 = .ok (.i2b, 1) := by decide +kernel
theorem dX11_entry_6 : decode cX11_entry 6 = .ok (.ireturn, 1) := by decide +kernel
theorem dX11_entry_7 : decode cX11_entry 7 = .ok (.iload_n 0, 1) := by decide +kernel
theorem dX11_entry_8 : decode cX11_entry 8 = .ok (.iconst 1, 1) := by decide +kernel
theorem dX11_entry_9 : decode cX11_entry 9 = .ok (.if_icmp .ne 8, 3) := by decide +kernel
theorem dX11_entry_12 : decode cX11_entry 12 = .ok (.iload_n 1, 1) := by decide +kernel
theorem dX11_entry_13 : decode cX11_entry 13 = .ok (.i2s, 1) := by decide +kernel
theorem dX11_entry_14 : decode cX11_entry 14 = .ok (.goto 4, 3) := by decide +kernel
theorem dX11_entry_17 : decode cX11_entry 17 = .ok (.iload_n 1, 1) := by decide +kernel
theorem dX11_entry_18 : decode cX11_entry 18 = .ok (.ireturn, 1) := by decide +kernel
theorem dX11_table_0 : decode cX11_table 0 = .ok (.iload_n 1, 1) := by decide +kernel
theorem dX11_table_1 : decode cX11_table 1 = .ok (.ifCond .lt 20, 3) := by decide +kernel
theorem dX11_table_4 : decode cX11_table 4 = .ok (.iload_n 1, 1) := by decide +kernel
theorem dX11_table_5 : decode cX11_table 5 = .ok (.iconst 1, 1) := by decide +kernel
theorem dX11_table_6 : decode cX11_table 6 = .ok (.if_icmp .gt 15, 3) := by decide +kernel
theorem dX11_table_9 : decode cX11_table 9 = .ok (.iload_n 2, 1) := by decide +kernel
theorem dX11_table_10 : decode cX11_table 10 = .ok (.bipush (-9), 2) := by decide +kernel
theorem dX11_table_12 : decode cX11_table 12 = .ok (.if_icmp .lt 9, 3) := by decide +kernel
theorem dX11_table_15 : decode cX11_table 15 = .ok (.iload_n 2, 1) := by decide +kernel
theorem dX11_table_16 : decode cX11_table 16 = .ok (.bipush 9, 2) := by decide +kernel
theorem dX11_table_18 : decode cX11_table 18 = .ok (.if_icmp .le 5, 3) := by decide +kernel
theorem dX11_table_21 : decode cX11_table 21 = .ok (.iconst 0, 1) := by decide +kernel
theorem dX11_table_22 : decode cX11_table 22 = .ok (.ireturn, 1) := by decide +kernel
theorem dX11_table_23 : decode cX11_table 23 = .ok (.aload_n 0, 1) := by decide +kernel
theorem dX11_table_24 : decode cX11_table 24 = .ok (.getfield 48, 3) := by decide +kernel
theorem dX11_table_27 : decode cX11_table 27 = .ok (.getfield 240, 3) := by decide +kernel
theorem dX11_table_30 : decode cX11_table 30 = .ok (.iload_n 1, 1) := by decide +kernel
theorem dX11_table_31 : decode cX11_table 31 = .ok (.iload_n 2, 1) := by decide +kernel
theorem dX11_table_32 : decode cX11_table 32 = .ok (.iastore, 1) := by decide +kernel
theorem dX11_table_33 : decode cX11_table 33 = .ok (.iconst 1, 1) := by decide +kernel
theorem dX11_table_34 : decode cX11_table 34 = .ok (.ireturn, 1) := by decide +kernel
theorem dX11_swell_0 : decode cX11_swell 0 = .ok (.aload_n 0, 1) := by decide +kernel
theorem dX11_swell_1 : decode cX11_swell 1 = .ok (.getfield 26, 3) := by decide +kernel
theorem dX11_swell_4 : decode cX11_swell 4 = .ok (.getfield 132, 3) := by decide +kernel
theorem dX11_swell_7 : decode cX11_swell 7 = .ok (.astore_n 3, 1) := by decide +kernel
theorem dX11_swell_8 : decode cX11_swell 8 = .ok (.aload_n 3, 1) := by decide +kernel
theorem dX11_swell_9 : decode cX11_swell 9 = .ok (.iload_n 1, 1) := by decide +kernel
theorem dX11_swell_10 : decode cX11_swell 10 = .ok (.invokevirtual 204, 3) := by decide +kernel
theorem dX11_swell_13 : decode cX11_swell 13 = .ok (.ifCond .eq 15, 3) := by decide +kernel
theorem dX11_swell_16 : decode cX11_swell 16 = .ok (.iload_n 2, 1) := by decide +kernel
theorem dX11_swell_17 : decode cX11_swell 17 = .ok (.bipush (-9), 2) := by decide +kernel
theorem dX11_swell_19 : decode cX11_swell 19 = .ok (.if_icmp .lt 9, 3) := by decide +kernel
theorem dX11_swell_22 : decode cX11_swell 22 = .ok (.iload_n 2, 1) := by decide +kernel
theorem dX11_swell_23 : decode cX11_swell 23 = .ok (.bipush 9, 2) := by decide +kernel
theorem dX11_swell_25 : decode cX11_swell 25 = .ok (.if_icmp .le 5, 3) := by decide +kernel
theorem dX11_swell_28 : decode cX11_swell 28 = .ok (.iconst (-1), 1) := by decide +kernel
theorem dX11_swell_29 : decode cX11_swell 29 = .ok (.ireturn, 1) := by decide +kernel
theorem dX11_swell_30 : decode cX11_swell 30 = .ok (.iconst 0, 1) := by decide +kernel
theorem dX11_swell_31 : decode cX11_swell 31 = .ok (.istore 4, 2) := by decide +kernel
theorem dX11_swell_33 : decode cX11_swell 33 = .ok (.iconst 3, 1) := by decide +kernel
theorem dX11_swell_34 : decode cX11_swell 34 = .ok (.iload_n 1, 1) := by decide +kernel
theorem dX11_swell_35 : decode cX11_swell 35 = .ok (.imul, 1) := by decide +kernel
theorem dX11_swell_36 : decode cX11_swell 36 = .ok (.istore 5, 2) := by decide +kernel
theorem dX11_swell_38 : decode cX11_swell 38 = .ok (.iload 5, 2) := by decide +kernel
theorem dX11_swell_40 : decode cX11_swell 40 = .ok (.iconst 3, 1) := by decide +kernel
theorem dX11_swell_41 : decode cX11_swell 41 = .ok (.iload_n 1, 1) := by decide +kernel
theorem dX11_swell_42 : decode cX11_swell 42 = .ok (.imul, 1) := by decide +kernel
theorem dX11_swell_43 : decode cX11_swell 43 = .ok (.iconst 3, 1) := by decide +kernel
theorem dX11_swell_44 : decode cX11_swell 44 = .ok (.iadd, 1) := by decide +kernel
theorem dX11_swell_45 : decode cX11_swell 45 = .ok (.if_icmp .ge 62, 3) := by decide +kernel
theorem dX11_swell_48 : decode cX11_swell 48 = .ok (.aload_n 3, 1) := by decide +kernel
theorem dX11_swell_49 : decode cX11_swell 49 = .ok (.iload 5, 2) := by decide +kernel
theorem dX11_swell_51 : decode cX11_swell 51 = .ok (.invokevirtual 165, 3) := by decide +kernel
theorem dX11_swell_54 : decode cX11_swell 54 = .ok (.ifCond .eq 47, 3) := by decide +kernel
theorem dX11_swell_57 : decode cX11_swell 57 = .ok (.aload_n 3, 1) := by decide +kernel
theorem dX11_swell_58 : decode cX11_swell 58 = .ok (.getfield 175, 3) := by decide +kernel
theorem dX11_swell_61 : decode cX11_swell 61 = .ok (.iload 5, 2) := by decide +kernel
theorem dX11_swell_63 : decode cX11_swell 63 = .ok (.iaload, 1) := by decide +kernel
theorem dX11_swell_64 : decode cX11_swell 64 = .ok (.iload_n 2, 1) := by decide +kernel
theorem dX11_swell_65 : decode cX11_swell 65 = .ok (.iadd, 1) := by decide +kernel
theorem dX11_swell_66 : decode cX11_swell 66 = .ok (.invokestatic 237, 3) := by decide +kernel
theorem dX11_swell_69 : decode cX11_swell 69 = .ok (.istore 6, 2) := by decide +kernel
theorem dX11_swell_71 : decode cX11_swell 71 = .ok (.iload 4, 2) := by decide +kernel
theorem dX11_swell_73 : decode cX11_swell 73 = .ok (.iload 6, 2) := by decide +kernel
theorem dX11_swell_75 : decode cX11_swell 75 = .ok (.aload_n 3, 1) := by decide +kernel
theorem dX11_swell_76 : decode cX11_swell 76 = .ok (.getfield 175, 3) := by decide +kernel
theorem dX11_swell_79 : decode cX11_swell 79 = .ok (.iload 5, 2) := by decide +kernel
theorem dX11_swell_81 : decode cX11_swell 81 = .ok (.iaload, 1) := by decide +kernel
theorem dX11_swell_82 : decode cX11_swell 82 = .ok (.if_icmp .ne 7, 3) := by decide +kernel
theorem dX11_swell_85 : decode cX11_swell 85 = .ok (.iconst 0, 1) := by decide +kernel
theorem dX11_swell_86 : decode cX11_swell 86 = .ok (.goto 4, 3) := by decide +kernel
theorem dX11_swell_89 : decode cX11_swell 89 = .ok (.iconst 1, 1) := by decide +kernel
theorem dX11_swell_90 : decode cX11_swell 90 = .ok (.iadd, 1) := by decide +kernel
theorem dX11_swell_91 : decode cX11_swell 91 = .ok (.istore 4, 2) := by decide +kernel
theorem dX11_swell_93 : decode cX11_swell 93 = .ok (.aload_n 3, 1) := by decide +kernel
theorem dX11_swell_94 : decode cX11_swell 94 = .ok (.iload 5, 2) := by decide +kernel
theorem dX11_swell_96 : decode cX11_swell 96 = .ok (.iload 6, 2) := by decide +kernel
theorem dX11_swell_98 : decode cX11_swell 98 = .ok (.invokevirtual 200, 3) := by decide +kernel
theorem dX11_swell_101 : decode cX11_swell 101 = .ok (.iinc 5 1, 3) := by decide +kernel
theorem dX11_swell_104 : decode cX11_swell 104 = .ok (.goto (-66), 3) := by decide +kernel
theorem dX11_swell_107 : decode cX11_swell 107 = .ok (.iload 4, 2) := by decide +kernel
theorem dX11_swell_109 : decode cX11_swell 109 = .ok (.ireturn, 1) := by decide +kernel
theorem dX11_bump_0 : decode cX11_bump 0 = .ok (.iload_n 1, 1) := by decide +kernel
theorem dX11_bump_1 : decode cX11_bump 1 = .ok (.istore_n 2, 1) := by decide +kernel
theorem dX11_bump_2 : decode cX11_bump 2 = .ok (.iconst 0, 1) := by decide +kernel
theorem dX11_bump_3 : decode cX11_bump 3 = .ok (.istore_n 3, 1) := by decide +kernel
theorem dX11_bump_4 : decode cX11_bump 4 = .ok (.iload_n 3, 1) := by decide +kernel
theorem dX11_bump_5 : decode cX11_bump 5 = .ok (.iconst 2, 1) := by decide +kernel
theorem dX11_bump_6 : decode cX11_bump 6 = .ok (.if_icmp .ge 37, 3) := by decide +kernel
theorem dX11_bump_9 : decode cX11_bump 9 = .ok (.iload_n 2, 1) := by decide +kernel
theorem dX11_bump_10 : decode cX11_bump 10 = .ok (.ldc 243, 2) := by decide +kernel
theorem dX11_bump_12 : decode cX11_bump 12 = .ok (.imul, 1) := by decide +kernel
theorem dX11_bump_13 : decode cX11_bump 13 = .ok (.sipush 12345, 3) := by decide +kernel
theorem dX11_bump_16 : decode cX11_bump 16 = .ok (.iadd, 1) := by decide +kernel
theorem dX11_bump_17 : decode cX11_bump 17 = .ok (.istore_n 2, 1) := by decide +kernel
theorem dX11_bump_18 : decode cX11_bump 18 = .ok (.aload_n 0, 1) := by decide +kernel
theorem dX11_bump_19 : decode cX11_bump 19 = .ok (.getfield 48, 3) := by decide +kernel
theorem dX11_bump_22 : decode cX11_bump 22 = .ok (.getfield 240, 3) := by decide +kernel
theorem dX11_bump_25 : decode cX11_bump 25 = .ok (.iload_n 3, 1) := by decide +kernel
theorem dX11_bump_26 : decode cX11_bump 26 = .ok (.iload_n 2, 1) := by decide +kernel
theorem dX11_bump_27 : decode cX11_bump 27 = .ok (.bipush 16, 2) := by decide +kernel
theorem dX11_bump_29 : decode cX11_bump 29 = .ok (.iushr, 1) := by decide +kernel
theorem dX11_bump_30 : decode cX11_bump 30 = .ok (.bipush 19, 2) := by decide +kernel
theorem dX11_bump_32 : decode cX11_bump 32 = .ok (.irem, 1) := by decide +kernel
theorem dX11_bump_33 : decode cX11_bump 33 = .ok (.bipush 9, 2) := by decide +kernel
theorem dX11_bump_35 : decode cX11_bump 35 = .ok (.isub, 1) := by decide +kernel
theorem dX11_bump_36 : decode cX11_bump 36 = .ok (.iastore, 1) := by decide +kernel
theorem dX11_bump_37 : decode cX11_bump 37 = .ok (.iinc 3 1, 3) := by decide +kernel
theorem dX11_bump_40 : decode cX11_bump 40 = .ok (.goto (-36), 3) := by decide +kernel
theorem dX11_bump_43 : decode cX11_bump 43 = .ok (.aload_n 0, 1) := by decide +kernel
theorem dX11_bump_44 : decode cX11_bump 44 = .ok (.getfield 48, 3) := by decide +kernel
theorem dX11_bump_47 : decode cX11_bump 47 = .ok (.aload_n 0, 1) := by decide +kernel
theorem dX11_bump_48 : decode cX11_bump 48 = .ok (.getfield 26, 3) := by decide +kernel
theorem dX11_bump_51 : decode cX11_bump 51 = .ok (.getfield 132, 3) := by decide +kernel
theorem dX11_bump_54 : decode cX11_bump 54 = .ok (.invokevirtual 196, 3) := by decide +kernel
theorem dX11_bump_57 : decode cX11_bump 57 = .ok (.ifCond .eq 7, 3) := by decide +kernel
theorem dX11_bump_60 : decode cX11_bump 60 = .ok (.iconst 1, 1) := by decide +kernel
theorem dX11_bump_61 : decode cX11_bump 61 = .ok (.goto 4, 3) := by decide +kernel
theorem dX11_bump_64 : decode cX11_bump 64 = .ok (.iconst 0, 1) := by decide +kernel
theorem dX11_bump_65 : decode cX11_bump 65 = .ok (.ireturn, 1) := by decide +kernel
theorem dX11_stands_0 : decode cX11_stands 0 = .ok (.aload_n 0, 1) := by decide +kernel
theorem dX11_stands_1 : decode cX11_stands 1 = .ok (.getfield 48, 3) := by decide +kernel
theorem dX11_stands_4 : decode cX11_stands 4 = .ok (.aload_n 0, 1) := by decide +kernel
theorem dX11_stands_5 : decode cX11_stands 5 = .ok (.getfield 26, 3) := by decide +kernel
theorem dX11_stands_8 : decode cX11_stands 8 = .ok (.getfield 132, 3) := by decide +kernel
theorem dX11_stands_11 : decode cX11_stands 11 = .ok (.invokevirtual 196, 3) := by decide +kernel
theorem dX11_stands_14 : decode cX11_stands 14 = .ok (.pop, 1) := by decide +kernel
theorem dX11_stands_15 : decode cX11_stands 15 = .ok (.aload_n 0, 1) := by decide +kernel
theorem dX11_stands_16 : decode cX11_stands 16 = .ok (.getfield 19, 3) := by decide +kernel
theorem dX11_stands_19 : decode cX11_stands 19 = .ok (.invokevirtual 244, 3) := by decide +kernel
theorem dX11_stands_22 : decode cX11_stands 22 = .ok (.aload_n 0, 1) := by decide +kernel
theorem dX11_stands_23 : decode cX11_stands 23 = .ok (.getfield 19, 3) := by decide +kernel
theorem dX11_stands_26 : decode cX11_stands 26 = .ok (.aload_n 0, 1) := by decide +kernel
theorem dX11_stands_27 : decode cX11_stands 27 = .ok (.getfield 48, 3) := by decide +kernel
theorem dX11_stands_30 : decode cX11_stands 30 = .ok (.getfield 245, 3) := by decide +kernel
theorem dX11_stands_33 : decode cX11_stands 33 = .ok (.i2l, 1) := by decide +kernel
theorem dX11_stands_34 : decode cX11_stands 34 = .ok (.invokevirtual 248, 3) := by decide +kernel
theorem dX11_stands_37 : decode cX11_stands 37 = .ok (.aload_n 0, 1) := by decide +kernel
theorem dX11_stands_38 : decode cX11_stands 38 = .ok (.getfield 19, 3) := by decide +kernel
theorem dX11_stands_41 : decode cX11_stands 41 = .ok (.aload_n 0, 1) := by decide +kernel
theorem dX11_stands_42 : decode cX11_stands 42 = .ok (.getfield 48, 3) := by decide +kernel
theorem dX11_stands_45 : decode cX11_stands 45 = .ok (.getfield 252, 3) := by decide +kernel
theorem dX11_stands_48 : decode cX11_stands 48 = .ok (.i2l, 1) := by decide +kernel
theorem dX11_stands_49 : decode cX11_stands 49 = .ok (.invokevirtual 248, 3) := by decide +kernel
theorem dX11_stands_52 : decode cX11_stands 52 = .ok (.aload_n 0, 1) := by decide +kernel
theorem dX11_stands_53 : decode cX11_stands 53 = .ok (.getfield 48, 3) := by decide +kernel
theorem dX11_stands_56 : decode cX11_stands 56 = .ok (.getfield 245, 3) := by decide +kernel
theorem dX11_stands_59 : decode cX11_stands 59 = .ok (.iconst (-1), 1) := by decide +kernel
theorem dX11_stands_60 : decode cX11_stands 60 = .ok (.if_icmp .ne 7, 3) := by decide +kernel
theorem dX11_stands_63 : decode cX11_stands 63 = .ok (.iconst 1, 1) := by decide +kernel
theorem dX11_stands_64 : decode cX11_stands 64 = .ok (.goto 4, 3) := by decide +kernel
theorem dX11_stands_67 : decode cX11_stands 67 = .ok (.iconst 0, 1) := by decide +kernel
theorem dX11_stands_68 : decode cX11_stands 68 = .ok (.ireturn, 1) := by decide +kernel
theorem dX11_loose_0 : decode cX11_loose 0 = .ok (.aload_n 0, 1) := by decide +kernel
theorem dX11_loose_1 : decode cX11_loose 1 = .ok (.getfield 26, 3) := by decide +kernel
theorem dX11_loose_4 : decode cX11_loose 4 = .ok (.getfield 132, 3) := by decide +kernel
theorem dX11_loose_7 : decode cX11_loose 7 = .ok (.astore_n 1, 1) := by decide +kernel
theorem dX11_loose_8 : decode cX11_loose 8 = .ok (.iconst 0, 1) := by decide +kernel
theorem dX11_loose_9 : decode cX11_loose 9 = .ok (.istore_n 2, 1) := by decide +kernel
theorem dX11_loose_10 : decode cX11_loose 10 = .ok (.aload_n 0, 1) := by decide +kernel
theorem dX11_loose_11 : decode cX11_loose 11 = .ok (.getfield 19, 3) := by decide +kernel
theorem dX11_loose_14 : decode cX11_loose 14 = .ok (.invokevirtual 244, 3) := by decide +kernel
theorem dX11_loose_17 : decode cX11_loose 17 = .ok (.iconst 0, 1) := by decide +kernel
theorem dX11_loose_18 : decode cX11_loose 18 = .ok (.istore_n 3, 1) := by decide +kernel
theorem dX11_loose_19 : decode cX11_loose 19 = .ok (.iload_n 3, 1) := by decide +kernel
theorem dX11_loose_20 : decode cX11_loose 20 = .ok (.aload_n 1, 1) := by decide +kernel
theorem dX11_loose_21 : decode cX11_loose 21 = .ok (.getfield 147, 3) := by decide +kernel
theorem dX11_loose_24 : decode cX11_loose 24 = .ok (.if_icmp .ge 34, 3) := by decide +kernel
theorem dX11_loose_27 : decode cX11_loose 27 = .ok (.aload_n 1, 1) := by decide +kernel
theorem dX11_loose_28 : decode cX11_loose 28 = .ok (.iload_n 3, 1) := by decide +kernel
theorem dX11_loose_29 : decode cX11_loose 29 = .ok (.invokevirtual 255, 3) := by decide +kernel
theorem dX11_loose_32 : decode cX11_loose 32 = .ok (.istore 4, 2) := by decide +kernel
theorem dX11_loose_34 : decode cX11_loose 34 = .ok (.iload_n 2, 1) := by decide +kernel
theorem dX11_loose_35 : decode cX11_loose 35 = .ok (.iload 4, 2) := by decide +kernel
theorem dX11_loose_37 : decode cX11_loose 37 = .ok (.invokestatic 258, 3) := by decide +kernel
theorem dX11_loose_40 : decode cX11_loose 40 = .ok (.iadd, 1) := by decide +kernel
theorem dX11_loose_41 : decode cX11_loose 41 = .ok (.istore_n 2, 1) := by decide +kernel
theorem dX11_loose_42 : decode cX11_loose 42 = .ok (.aload_n 0, 1) := by decide +kernel
theorem dX11_loose_43 : decode cX11_loose 43 = .ok (.getfield 19, 3) := by decide +kernel
theorem dX11_loose_46 : decode cX11_loose 46 = .ok (.iload 4, 2) := by decide +kernel
theorem dX11_loose_48 : decode cX11_loose 48 = .ok (.i2l, 1) := by decide +kernel
theorem dX11_loose_49 : decode cX11_loose 49 = .ok (.invokevirtual 248, 3) := by decide +kernel
theorem dX11_loose_52 : decode cX11_loose 52 = .ok (.iinc 3 1, 3) := by decide +kernel
theorem dX11_loose_55 : decode cX11_loose 55 = .ok (.goto (-36), 3) := by decide +kernel
theorem dX11_loose_58 : decode cX11_loose 58 = .ok (.iload_n 2, 1) := by decide +kernel
theorem dX11_loose_59 : decode cX11_loose 59 = .ok (.ireturn, 1) := by decide +kernel
theorem dX11_weakest_0 : decode cX11_weakest 0 = .ok (.aload_n 0, 1) := by decide +kernel
theorem dX11_weakest_1 : decode cX11_weakest 1 = .ok (.getfield 26, 3) := by decide +kernel
theorem dX11_weakest_4 : decode cX11_weakest 4 = .ok (.getfield 132, 3) := by decide +kernel
theorem dX11_weakest_7 : decode cX11_weakest 7 = .ok (.getfield 147, 3) := by decide +kernel
theorem dX11_weakest_10 : decode cX11_weakest 10 = .ok (.iconst 2, 1) := by decide +kernel
theorem dX11_weakest_11 : decode cX11_weakest 11 = .ok (.if_icmp .ge 6, 3) := by decide +kernel
theorem dX11_weakest_14 : decode cX11_weakest 14 = .ok (.bipush (-2), 2) := by decide +kernel
theorem dX11_weakest_16 : decode cX11_weakest 16 = .ok (.ireturn, 1) := by decide +kernel
theorem dX11_weakest_17 : decode cX11_weakest 17 = .ok (.aload_n 0, 1) := by decide +kernel
theorem dX11_weakest_18 : decode cX11_weakest 18 = .ok (.getfield 48, 3) := by decide +kernel
theorem dX11_weakest_21 : decode cX11_weakest 21 = .ok (.aload_n 0, 1) := by decide +kernel
theorem dX11_weakest_22 : decode cX11_weakest 22 = .ok (.getfield 26, 3) := by decide +kernel
theorem dX11_weakest_25 : decode cX11_weakest 25 = .ok (.getfield 132, 3) := by decide +kernel
theorem dX11_weakest_28 : decode cX11_weakest 28 = .ok (.invokevirtual 196, 3) := by decide +kernel
theorem dX11_weakest_31 : decode cX11_weakest 31 = .ok (.pop, 1) := by decide +kernel
theorem dX11_weakest_32 : decode cX11_weakest 32 = .ok (.aload_n 0, 1) := by decide +kernel
theorem dX11_weakest_33 : decode cX11_weakest 33 = .ok (.getfield 19, 3) := by decide +kernel
theorem dX11_weakest_36 : decode cX11_weakest 36 = .ok (.invokevirtual 244, 3) := by decide +kernel
theorem dX11_weakest_39 : decode cX11_weakest 39 = .ok (.aload_n 0, 1) := by decide +kernel
theorem dX11_weakest_40 : decode cX11_weakest 40 = .ok (.getfield 19, 3) := by decide +kernel
theorem dX11_weakest_43 : decode cX11_weakest 43 = .ok (.aload_n 0, 1) := by decide +kernel
theorem dX11_weakest_44 : decode cX11_weakest 44 = .ok (.getfield 48, 3) := by decide +kernel
theorem dX11_weakest_47 : decode cX11_weakest 47 = .ok (.getfield 252, 3) := by decide +kernel
theorem dX11_weakest_50 : decode cX11_weakest 50 = .ok (.i2l, 1) := by decide +kernel
theorem dX11_weakest_51 : decode cX11_weakest 51 = .ok (.invokevirtual 248, 3) := by decide +kernel
theorem dX11_weakest_54 : decode cX11_weakest 54 = .ok (.aload_n 0, 1) := by decide +kernel
theorem dX11_weakest_55 : decode cX11_weakest 55 = .ok (.getfield 48, 3) := by decide +kernel
theorem dX11_weakest_58 : decode cX11_weakest 58 = .ok (.getfield 263, 3) := by decide +kernel
theorem dX11_weakest_61 : decode cX11_weakest 61 = .ok (.ireturn, 1) := by decide +kernel
theorem dX11_lean_0 : decode cX11_lean 0 = .ok (.iload_n 1, 1) := by decide +kernel
theorem dX11_lean_1 : decode cX11_lean 1 = .ok (.ifCond .lt 8, 3) := by decide +kernel
theorem dX11_lean_4 : decode cX11_lean 4 = .ok (.iload_n 1, 1) := by decide +kernel
theorem dX11_lean_5 : decode cX11_lean 5 = .ok (.iconst 1, 1) := by decide +kernel
theorem dX11_lean_6 : decode cX11_lean 6 = .ok (.if_icmp .le 7, 3) := by decide +kernel
theorem dX11_lean_9 : decode cX11_lean 9 = .ok (.ldc_w 266, 3) := by decide +kernel
theorem dX11_lean_12 : decode cX11_lean 12 = .ok (.ireturn, 1) := by decide +kernel
theorem dX11_lean_13 : decode cX11_lean 13 = .ok (.aload_n 0, 1) := by decide +kernel
theorem dX11_lean_14 : decode cX11_lean 14 = .ok (.getfield 26, 3) := by decide +kernel
theorem dX11_lean_17 : decode cX11_lean 17 = .ok (.getfield 132, 3) := by decide +kernel
theorem dX11_lean_20 : decode cX11_lean 20 = .ok (.astore_n 2, 1) := by decide +kernel
theorem dX11_lean_21 : decode cX11_lean 21 = .ok (.iconst 0, 1) := by decide +kernel
theorem dX11_lean_22 : decode cX11_lean 22 = .ok (.istore_n 3, 1) := by decide +kernel
theorem dX11_lean_23 : decode cX11_lean 23 = .ok (.iconst 0, 1) := by decide +kernel
theorem dX11_lean_24 : decode cX11_lean 24 = .ok (.istore 4, 2) := by decide +kernel
theorem dX11_lean_26 : decode cX11_lean 26 = .ok (.iconst 0, 1) := by decide +kernel
theorem dX11_lean_27 : decode cX11_lean 27 = .ok (.istore 5, 2) := by decide +kernel
theorem dX11_lean_29 : decode cX11_lean 29 = .ok (.iload 5, 2) := by decide +kernel
theorem dX11_lean_31 : decode cX11_lean 31 = .ok (.aload_n 2, 1) := by decide +kernel
theorem dX11_lean_32 : decode cX11_lean 32 = .ok (.getfield 147, 3) := by decide +kernel
theorem dX11_lean_35 : decode cX11_lean 35 = .ok (.if_icmp .ge 43, 3) := by decide +kernel
theorem dX11_lean_38 : decode cX11_lean 38 = .ok (.iload_n 3, 1) := by decide +kernel
theorem dX11_lean_39 : decode cX11_lean 39 = .ok (.iload 5, 2) := by decide +kernel
theorem dX11_lean_41 : decode cX11_lean 41 = .ok (.iconst 2, 1) := by decide +kernel
theorem dX11_lean_42 : decode cX11_lean 42 = .ok (.irem, 1) := by decide +kernel
theorem dX11_lean_43 : decode cX11_lean 43 = .ok (.iload_n 1, 1) := by decide +kernel
theorem dX11_lean_44 : decode cX11_lean 44 = .ok (.if_icmp .ne 13, 3) := by decide +kernel
theorem dX11_lean_47 : decode cX11_lean 47 = .ok (.aload_n 2, 1) := by decide +kernel
theorem dX11_lean_48 : decode cX11_lean 48 = .ok (.getfield 267, 3) := by decide +kernel
theorem dX11_lean_51 : decode cX11_lean 51 = .ok (.iload 5, 2) := by decide +kernel
theorem dX11_lean_53 : decode cX11_lean 53 = .ok (.iaload, 1) := by decide +kernel
theorem dX11_lean_54 : decode cX11_lean 54 = .ok (.goto 4, 3) := by decide +kernel
theorem dX11_lean_57 : decode cX11_lean 57 = .ok (.iconst 0, 1) := by decide +kernel
theorem dX11_lean_58 : decode cX11_lean 58 = .ok (.iadd, 1) := by decide +kernel
theorem dX11_lean_59 : decode cX11_lean 59 = .ok (.istore_n 3, 1) := by decide +kernel
theorem dX11_lean_60 : decode cX11_lean 60 = .ok (.iload 4, 2) := by decide +kernel
theorem dX11_lean_62 : decode cX11_lean 62 = .ok (.aload_n 2, 1) := by decide +kernel
theorem dX11_lean_63 : decode cX11_lean 63 = .ok (.getfield 270, 3) := by decide +kernel
theorem dX11_lean_66 : decode cX11_lean 66 = .ok (.iload 5, 2) := by decide +kernel
theorem dX11_lean_68 : decode cX11_lean 68 = .ok (.iaload, 1) := by decide +kernel
theorem dX11_lean_69 : decode cX11_lean 69 = .ok (.iadd, 1) := by decide +kernel
theorem dX11_lean_70 : decode cX11_lean 70 = .ok (.istore 4, 2) := by decide +kernel
theorem dX11_lean_72 : decode cX11_lean 72 = .ok (.iinc 5 1, 3) := by decide +kernel
theorem dX11_lean_75 : decode cX11_lean 75 = .ok (.goto (-46), 3) := by decide +kernel
theorem dX11_lean_78 : decode cX11_lean 78 = .ok (.aload_n 0, 1) := by decide +kernel
theorem dX11_lean_79 : decode cX11_lean 79 = .ok (.getfield 19, 3) := by decide +kernel
theorem dX11_lean_82 : decode cX11_lean 82 = .ok (.invokevirtual 244, 3) := by decide +kernel
theorem dX11_lean_85 : decode cX11_lean 85 = .ok (.aload_n 0, 1) := by decide +kernel
theorem dX11_lean_86 : decode cX11_lean 86 = .ok (.getfield 19, 3) := by decide +kernel
theorem dX11_lean_89 : decode cX11_lean 89 = .ok (.iload 4, 2) := by decide +kernel
theorem dX11_lean_91 : decode cX11_lean 91 = .ok (.i2l, 1) := by decide +kernel
theorem dX11_lean_92 : decode cX11_lean 92 = .ok (.invokevirtual 248, 3) := by decide +kernel
theorem dX11_lean_95 : decode cX11_lean 95 = .ok (.iload_n 3, 1) := by decide +kernel
theorem dX11_lean_96 : decode cX11_lean 96 = .ok (.ireturn, 1) := by decide +kernel
theorem dX11_movable_0 : decode cX11_movable 0 = .ok (.aload_n 0, 1) := by decide +kernel
theorem dX11_movable_1 : decode cX11_movable 1 = .ok (.getfield 26, 3) := by decide +kernel
theorem dX11_movable_4 : decode cX11_movable 4 = .ok (.invokevirtual 273, 3) := by decide +kernel
theorem dX11_movable_7 : decode cX11_movable 7 = .ok (.ifCond .eq 10, 3) := by decide +kernel
theorem dX11_movable_10 : decode cX11_movable 10 = .ok (.aload_n 0, 1) := by decide +kernel
theorem dX11_movable_11 : decode cX11_movable 11 = .ok (.getfield 94, 3) := by decide +kernel
theorem dX11_movable_14 : decode cX11_movable 14 = .ok (.goto 10, 3) := by decide +kernel
theorem dX11_movable_17 : decode cX11_movable 17 = .ok (.aload_n 0, 1) := by decide +kernel
theorem dX11_movable_18 : decode cX11_movable 18 = .ok (.getfield 26, 3) := by decide +kernel
theorem dX11_movable_21 : decode cX11_movable 21 = .ok (.getfield 132, 3) := by decide +kernel
theorem dX11_movable_24 : decode cX11_movable 24 = .ok (.areturn, 1) := by decide +kernel
theorem dX11_inTurn_0 : decode cX11_inTurn 0 = .ok (.aload_n 0, 1) := by decide +kernel
theorem dX11_inTurn_1 : decode cX11_inTurn 1 = .ok (.getfield 108, 3) := by decide +kernel
theorem dX11_inTurn_4 : decode cX11_inTurn 4 = .ok (.ifCond .le 16, 3) := by decide +kernel
theorem dX11_inTurn_7 : decode cX11_inTurn 7 = .ok (.iload_n 1, 1) := by decide +kernel
theorem dX11_inTurn_8 : decode cX11_inTurn 8 = .ok (.ifCond .le 12, 3) := by decide +kernel
theorem dX11_inTurn_11 : decode cX11_inTurn 11 = .ok (.iload_n 1, 1) := by decide +kernel
theorem dX11_inTurn_12 : decode cX11_inTurn 12 = .ok (.aload_n 0, 1) := by decide +kernel
theorem dX11_inTurn_13 : decode cX11_inTurn 13 = .ok (.getfield 108, 3) := by decide +kernel
theorem dX11_inTurn_16 : decode cX11_inTurn 16 = .ok (.irem, 1) := by decide +kernel
theorem dX11_inTurn_17 : decode cX11_inTurn 17 = .ok (.goto 4, 3) := by decide +kernel
theorem dX11_inTurn_20 : decode cX11_inTurn 20 = .ok (.iconst 0, 1) := by decide +kernel
theorem dX11_inTurn_21 : decode cX11_inTurn 21 = .ok (.ireturn, 1) := by decide +kernel
theorem dX11_handOf_0 : decode cX11_handOf 0 = .ok (.aload_n 0, 1) := by decide +kernel
theorem dX11_handOf_1 : decode cX11_handOf 1 = .ok (.iload_n 1, 1) := by decide +kernel
theorem dX11_handOf_2 : decode cX11_handOf 2 = .ok (.invokevirtual 277, 3) := by decide +kernel
theorem dX11_handOf_5 : decode cX11_handOf 5 = .ok (.istore_n 2, 1) := by decide +kernel
theorem dX11_handOf_6 : decode cX11_handOf 6 = .ok (.iload_n 2, 1) := by decide +kernel
theorem dX11_handOf_7 : decode cX11_handOf 7 = .ok (.ifCond .lt 17, 3) := by decide +kernel
theorem dX11_handOf_10 : decode cX11_handOf 10 = .ok (.iload_n 2, 1) := by decide +kernel
theorem dX11_handOf_11 : decode cX11_handOf 11 = .ok (.iconst 4, 1) := by decide +kernel
theorem dX11_handOf_12 : decode cX11_handOf 12 = .ok (.if_icmp .ge 12, 3) := by decide +kernel
theorem dX11_handOf_15 : decode cX11_handOf 15 = .ok (.aload_n 0, 1) := by decide +kernel
theorem dX11_handOf_16 : decode cX11_handOf 16 = .ok (.getfield 101, 3) := by decide +kernel
theorem dX11_handOf_19 : decode cX11_handOf 19 = .ok (.iload_n 2, 1) := by decide +kernel
theorem dX11_handOf_20 : decode cX11_handOf 20 = .ok (.iaload, 1) := by decide +kernel
theorem dX11_handOf_21 : decode cX11_handOf 21 = .ok (.goto 4, 3) := by decide +kernel
theorem dX11_handOf_24 : decode cX11_handOf 24 = .ok (.iconst 0, 1) := by decide +kernel
theorem dX11_handOf_25 : decode cX11_handOf 25 = .ok (.ireturn, 1) := by decide +kernel
theorem dX11_moves_0 : decode cX11_moves 0 = .ok (.aload_n 0, 1) := by decide +kernel
theorem dX11_moves_1 : decode cX11_moves 1 = .ok (.getfield 64, 3) := by decide +kernel
theorem dX11_moves_4 : decode cX11_moves 4 = .ok (.aload_n 0, 1) := by decide +kernel
theorem dX11_moves_5 : decode cX11_moves 5 = .ok (.invokevirtual 280, 3) := by decide +kernel
theorem dX11_moves_8 : decode cX11_moves 8 = .ok (.invokevirtual 284, 3) := by decide +kernel
theorem dX11_moves_11 : decode cX11_moves 11 = .ok (.aload_n 0, 1) := by decide +kernel
theorem dX11_moves_12 : decode cX11_moves 12 = .ok (.getfield 19, 3) := by decide +kernel
theorem dX11_moves_15 : decode cX11_moves 15 = .ok (.invokevirtual 244, 3) := by decide +kernel
theorem dX11_moves_18 : decode cX11_moves 18 = .ok (.aload_n 0, 1) := by decide +kernel
theorem dX11_moves_19 : decode cX11_moves 19 = .ok (.getfield 19, 3) := by decide +kernel
theorem dX11_moves_22 : decode cX11_moves 22 = .ok (.aload_n 0, 1) := by decide +kernel
theorem dX11_moves_23 : decode cX11_moves 23 = .ok (.getfield 64, 3) := by decide +kernel
theorem dX11_moves_26 : decode cX11_moves 26 = .ok (.getfield 288, 3) := by decide +kernel
theorem dX11_moves_29 : decode cX11_moves 29 = .ok (.i2l, 1) := by decide +kernel
theorem dX11_moves_30 : decode cX11_moves 30 = .ok (.invokevirtual 248, 3) := by decide +kernel
theorem dX11_moves_33 : decode cX11_moves 33 = .ok (.aload_n 0, 1) := by decide +kernel
theorem dX11_moves_34 : decode cX11_moves 34 = .ok (.getfield 19, 3) := by decide +kernel
theorem dX11_moves_37 : decode cX11_moves 37 = .ok (.aload_n 0, 1) := by decide +kernel
theorem dX11_moves_38 : decode cX11_moves 38 = .ok (.getfield 64, 3) := by decide +kernel
theorem dX11_moves_41 : decode cX11_moves 41 = .ok (.getfield 291, 3) := by decide +kernel
theorem dX11_moves_44 : decode cX11_moves 44 = .ok (.i2l, 1) := by decide +kernel
theorem dX11_moves_45 : decode cX11_moves 45 = .ok (.invokevirtual 248, 3) := by decide +kernel
theorem dX11_moves_48 : decode cX11_moves 48 = .ok (.aload_n 0, 1) := by decide +kernel
theorem dX11_moves_49 : decode cX11_moves 49 = .ok (.getfield 19, 3) := by decide +kernel
theorem dX11_moves_52 : decode cX11_moves 52 = .ok (.aload_n 0, 1) := by decide +kernel
theorem dX11_moves_53 : decode cX11_moves 53 = .ok (.getfield 64, 3) := by decide +kernel
theorem dX11_moves_56 : decode cX11_moves 56 = .ok (.getfield 294, 3) := by decide +kernel
theorem dX11_moves_59 : decode cX11_moves 59 = .ok (.i2l, 1) := by decide +kernel
theorem dX11_moves_60 : decode cX11_moves 60 = .ok (.invokevirtual 248, 3) := by decide +kernel
theorem dX11_moves_63 : decode cX11_moves 63 = .ok (.aload_n 0, 1) := by decide +kernel
theorem dX11_moves_64 : decode cX11_moves 64 = .ok (.getfield 64, 3) := by decide +kernel
theorem dX11_moves_67 : decode cX11_moves 67 = .ok (.getfield 297, 3) := by decide +kernel
theorem dX11_moves_70 : decode cX11_moves 70 = .ok (.ireturn, 1) := by decide +kernel
theorem dX11_odds_0 : decode cX11_odds 0 = .ok (.iload_n 2, 1) := by decide +kernel
theorem dX11_odds_1 : decode cX11_odds 1 = .ok (.ifCond .lt 8, 3) := by decide +kernel
theorem dX11_odds_4 : decode cX11_odds 4 = .ok (.iload_n 2, 1) := by decide +kernel
theorem dX11_odds_5 : decode cX11_odds 5 = .ok (.iconst 1, 1) := by decide +kernel
theorem dX11_odds_6 : decode cX11_odds 6 = .ok (.if_icmp .le 5, 3) := by decide +kernel
theorem dX11_odds_9 : decode cX11_odds 9 = .ok (.iconst (-1), 1) := by decide +kernel
theorem dX11_odds_10 : decode cX11_odds 10 = .ok (.ireturn, 1) := by decide +kernel
theorem dX11_odds_11 : decode cX11_odds 11 = .ok (.aload_n 0, 1) := by decide +kernel
theorem dX11_odds_12 : decode cX11_odds 12 = .ok (.invokevirtual 280, 3) := by decide +kernel
theorem dX11_odds_15 : decode cX11_odds 15 = .ok (.astore_n 3, 1) := by decide +kernel
theorem dX11_odds_16 : decode cX11_odds 16 = .ok (.aload_n 3, 1) := by decide +kernel
theorem dX11_odds_17 : decode cX11_odds 17 = .ok (.iload_n 1, 1) := by decide +kernel
theorem dX11_odds_18 : decode cX11_odds 18 = .ok (.invokevirtual 300, 3) := by decide +kernel
theorem dX11_odds_21 : decode cX11_odds 21 = .ok (.ifCond .ne 6, 3) := by decide +kernel
theorem dX11_odds_24 : decode cX11_odds 24 = .ok (.bipush (-2), 2) := by decide +kernel
theorem dX11_odds_26 : decode cX11_odds 26 = .ok (.ireturn, 1) := by decide +kernel
theorem dX11_odds_27 : decode cX11_odds 27 = .ok (.aload_n 0, 1) := by decide +kernel
theorem dX11_odds_28 : decode cX11_odds 28 = .ok (.getfield 64, 3) := by decide +kernel
theorem dX11_odds_31 : decode cX11_odds 31 = .ok (.aload_n 3, 1) := by decide +kernel
theorem dX11_odds_32 : decode cX11_odds 32 = .ok (.iload_n 1, 1) := by decide +kernel
theorem dX11_odds_33 : decode cX11_odds 33 = .ok (.invokevirtual 303, 3) := by decide +kernel
theorem dX11_odds_36 : decode cX11_odds 36 = .ok (.istore 4, 2) := by decide +kernel
theorem dX11_odds_38 : decode cX11_odds 38 = .ok (.aload_n 0, 1) := by decide +kernel
theorem dX11_odds_39 : decode cX11_odds 39 = .ok (.getfield 19, 3) := by decide +kernel
theorem dX11_odds_42 : decode cX11_odds 42 = .ok (.invokevirtual 244, 3) := by decide +kernel
theorem dX11_odds_45 : decode cX11_odds 45 = .ok (.aload_n 0, 1) := by decide +kernel
theorem dX11_odds_46 : decode cX11_odds 46 = .ok (.getfield 19, 3) := by decide +kernel
theorem dX11_odds_49 : decode cX11_odds 49 = .ok (.iload 4, 2) := by decide +kernel
theorem dX11_odds_51 : decode cX11_odds 51 = .ok (.ifCond .eq 7, 3) := by decide +kernel
theorem dX11_odds_54 : decode cX11_odds 54 = .ok (.lconst 1, 1) := by decide +kernel
theorem dX11_odds_55 : decode cX11_odds 55 = .ok (.goto 4, 3) := by decide +kernel
theorem dX11_odds_58 : decode cX11_odds 58 = .ok (.lconst 0, 1) := by decide +kernel
theorem dX11_odds_59 : decode cX11_odds 59 = .ok (.invokevirtual 248, 3) := by decide +kernel
theorem dX11_odds_62 : decode cX11_odds 62 = .ok (.iload 4, 2) := by decide +kernel
theorem dX11_odds_64 : decode cX11_odds 64 = .ok (.ifCond .ne 6, 3) := by decide +kernel
theorem dX11_odds_67 : decode cX11_odds 67 = .ok (.bipush 100, 2) := by decide +kernel
theorem dX11_odds_69 : decode cX11_odds 69 = .ok (.ireturn, 1) := by decide +kernel
theorem dX11_odds_70 : decode cX11_odds 70 = .ok (.aload_n 0, 1) := by decide +kernel
theorem dX11_odds_71 : decode cX11_odds 71 = .ok (.getfield 64, 3) := by decide +kernel
theorem dX11_odds_74 : decode cX11_odds 74 = .ok (.aload_n 3, 1) := by decide +kernel
theorem dX11_odds_75 : decode cX11_odds 75 = .ok (.iload_n 1, 1) := by decide +kernel
theorem dX11_odds_76 : decode cX11_odds 76 = .ok (.aload_n 0, 1) := by decide +kernel
theorem dX11_odds_77 : decode cX11_odds 77 = .ok (.aload_n 0, 1) := by decide +kernel
theorem dX11_odds_78 : decode cX11_odds 78 = .ok (.getfield 26, 3) := by decide +kernel
theorem dX11_odds_81 : decode cX11_odds 81 = .ok (.getfield 159, 3) := by decide +kernel
theorem dX11_odds_84 : decode cX11_odds 84 = .ok (.invokevirtual 307, 3) := by decide +kernel
theorem dX11_odds_87 : decode cX11_odds 87 = .ok (.invokevirtual 310, 3) := by decide +kernel
theorem dX11_odds_90 : decode cX11_odds 90 = .ok (.aload_n 0, 1) := by decide +kernel
theorem dX11_odds_91 : decode cX11_odds 91 = .ok (.getfield 64, 3) := by decide +kernel
theorem dX11_odds_94 : decode cX11_odds 94 = .ok (.iload_n 2, 1) := by decide +kernel
theorem dX11_odds_95 : decode cX11_odds 95 = .ok (.invokevirtual 314, 3) := by decide +kernel
theorem dX11_odds_98 : decode cX11_odds 98 = .ok (.ireturn, 1) := by decide +kernel
theorem dX11_best_0 : decode cX11_best 0 = .ok (.aload_n 0, 1) := by decide +kernel
theorem dX11_best_1 : decode cX11_best 1 = .ok (.getfield 64, 3) := by decide +kernel
theorem dX11_best_4 : decode cX11_best 4 = .ok (.aload_n 0, 1) := by decide +kernel
theorem dX11_best_5 : decode cX11_best 5 = .ok (.invokevirtual 280, 3) := by decide +kernel
theorem dX11_best_8 : decode cX11_best 8 = .ok (.aload_n 0, 1) := by decide +kernel
theorem dX11_best_9 : decode cX11_best 9 = .ok (.aload_n 0, 1) := by decide +kernel
theorem dX11_best_10 : decode cX11_best 10 = .ok (.getfield 26, 3) := by decide +kernel
theorem dX11_best_13 : decode cX11_best 13 = .ok (.getfield 159, 3) := by decide +kernel
theorem dX11_best_16 : decode cX11_best 16 = .ok (.invokevirtual 307, 3) := by decide +kernel
theorem dX11_best_19 : decode cX11_best 19 = .ok (.invokevirtual 317, 3) := by decide +kernel
theorem dX11_best_22 : decode cX11_best 22 = .ok (.aload_n 0, 1) := by decide +kernel
theorem dX11_best_23 : decode cX11_best 23 = .ok (.getfield 64, 3) := by decide +kernel
theorem dX11_best_26 : decode cX11_best 26 = .ok (.getfield 321, 3) := by decide +kernel
theorem dX11_best_29 : decode cX11_best 29 = .ok (.iconst (-1), 1) := by decide +kernel
theorem dX11_best_30 : decode cX11_best 30 = .ok (.if_icmp .ne 6, 3) := by decide +kernel
theorem dX11_best_33 : decode cX11_best 33 = .ok (.bipush (-2), 2) := by decide +kernel
theorem dX11_best_35 : decode cX11_best 35 = .ok (.ireturn, 1) := by decide +kernel
theorem dX11_best_36 : decode cX11_best 36 = .ok (.aload_n 0, 1) := by decide +kernel
theorem dX11_best_37 : decode cX11_best 37 = .ok (.getfield 19, 3) := by decide +kernel
theorem dX11_best_40 : decode cX11_best 40 = .ok (.invokevirtual 244, 3) := by decide +kernel
theorem dX11_best_43 : decode cX11_best 43 = .ok (.aload_n 0, 1) := by decide +kernel
theorem dX11_best_44 : decode cX11_best 44 = .ok (.getfield 19, 3) := by decide +kernel
theorem dX11_best_47 : decode cX11_best 47 = .ok (.aload_n 0, 1) := by decide +kernel
theorem dX11_best_48 : decode cX11_best 48 = .ok (.getfield 64, 3) := by decide +kernel
theorem dX11_best_51 : decode cX11_best 51 = .ok (.getfield 324, 3) := by decide +kernel
theorem dX11_best_54 : decode cX11_best 54 = .ok (.i2l, 1) := by decide +kernel
theorem dX11_best_55 : decode cX11_best 55 = .ok (.invokevirtual 248, 3) := by decide +kernel
theorem dX11_best_58 : decode cX11_best 58 = .ok (.aload_n 0, 1) := by decide +kernel
theorem dX11_best_59 : decode cX11_best 59 = .ok (.getfield 19, 3) := by decide +kernel
theorem dX11_best_62 : decode cX11_best 62 = .ok (.aload_n 0, 1) := by decide +kernel
theorem dX11_best_63 : decode cX11_best 63 = .ok (.getfield 64, 3) := by decide +kernel
theorem dX11_best_66 : decode cX11_best 66 = .ok (.getfield 327, 3) := by decide +kernel
theorem dX11_best_69 : decode cX11_best 69 = .ok (.i2l, 1) := by decide +kernel
theorem dX11_best_70 : decode cX11_best 70 = .ok (.invokevirtual 248, 3) := by decide +kernel
theorem dX11_best_73 : decode cX11_best 73 = .ok (.aload_n 0, 1) := by decide +kernel
theorem dX11_best_74 : decode cX11_best 74 = .ok (.getfield 64, 3) := by decide +kernel
theorem dX11_best_77 : decode cX11_best 77 = .ok (.getfield 321, 3) := by decide +kernel
theorem dX11_best_80 : decode cX11_best 80 = .ok (.ireturn, 1) := by decide +kernel
theorem dX11_leave_0 : decode cX11_leave 0 = .ok (.aload_n 0, 1) := by decide +kernel
theorem dX11_leave_1 : decode cX11_leave 1 = .ok (.getfield 64, 3) := by decide +kernel
theorem dX11_leave_4 : decode cX11_leave 4 = .ok (.aload_n 0, 1) := by decide +kernel
theorem dX11_leave_5 : decode cX11_leave 5 = .ok (.invokevirtual 280, 3) := by decide +kernel
theorem dX11_leave_8 : decode cX11_leave 8 = .ok (.aload_n 0, 1) := by decide +kernel
theorem dX11_leave_9 : decode cX11_leave 9 = .ok (.aload_n 0, 1) := by decide +kernel
theorem dX11_leave_10 : decode cX11_leave 10 = .ok (.getfield 26, 3) := by decide +kernel
theorem dX11_leave_13 : decode cX11_leave 13 = .ok (.getfield 159, 3) := by decide +kernel

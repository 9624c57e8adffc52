theorem dX2_tracePath_50 : decode cX2_tracePath 50 = .ok (.return_, 1) := by decide +kernel
theorem dX2_firstMoveTo_0 : decode cX2_firstMoveTo 0 = .ok (.aload_n 0, 1) := by decide +kernel
theorem dX2_firstMoveTo_1 : decode cX2_firstMoveTo 1 = .ok (.iload_n 1, 1) := by decide +kernel
theorem dX2_firstMoveTo_2 : decode cX2_firstMoveTo 2 = .ok (.invokevirtual 165, 3) := by decide +kernel
theorem dX2_firstMoveTo_5 : decode cX2_firstMoveTo 5 = .ok (.aload_n 0, 1) := by decide +kernel
theorem dX2_firstMoveTo_6 : decode cX2_firstMoveTo 6 = .ok (.getfield 35, 3) := by decide +kernel
theorem dX2_firstMoveTo_9 : decode cX2_firstMoveTo 9 = .ok (.iload_n 1, 1) := by decide +kernel
theorem dX2_firstMoveTo_10 : decode cX2_firstMoveTo 10 = .ok (.iaload, 1) := by decide +kernel
theorem dX2_firstMoveTo_11 : decode cX2_firstMoveTo 11 = .ok (.ifCond .ne 7, 3) := by decide +kernel
theorem dX2_firstMoveTo_14 : decode cX2_firstMoveTo 14 = .ok (.iconst (-1), 1) := by decide +kernel
theorem dX2_firstMoveTo_15 : decode cX2_firstMoveTo 15 = .ok (.goto 9, 3) := by decide +kernel
theorem dX2_firstMoveTo_18 : decode cX2_firstMoveTo 18 = .ok (.aload_n 0, 1) := by decide +kernel
theorem dX2_firstMoveTo_19 : decode cX2_firstMoveTo 19 = .ok (.getfield 51, 3) := by decide +kernel
theorem dX2_firstMoveTo_22 : decode cX2_firstMoveTo 22 = .ok (.iconst 0, 1) := by decide +kernel
theorem dX2_firstMoveTo_23 : decode cX2_firstMoveTo 23 = .ok (.iaload, 1) := by decide +kernel
theorem dX2_firstMoveTo_24 : decode cX2_firstMoveTo 24 = .ok (.ireturn, 1) := by decide +kernel
theorem dX2_tellPathTo_0 : decode cX2_tellPathTo 0 = .ok (.aload_n 0, 1) := by decide +kernel
theorem dX2_tellPathTo_1 : decode cX2_tellPathTo 1 = .ok (.iload_n 1, 1) := by decide +kernel
theorem dX2_tellPathTo_2 : decode cX2_tellPathTo 2 = .ok (.invokevirtual 165, 3) := by decide +kernel
theorem dX2_tellPathTo_5 : decode cX2_tellPathTo 5 = .ok (.aload_n 2, 1) := by decide +kernel
theorem dX2_tellPathTo_6 : decode cX2_tellPathTo 6 = .ok (.invokevirtual 158, 3) := by decide +kernel
theorem dX2_tellPathTo_9 : decode cX2_tellPathTo 9 = .ok (.iconst 0, 1) := by decide +kernel
theorem dX2_tellPathTo_10 : decode cX2_tellPathTo 10 = .ok (.istore_n 3, 1) := by decide +kernel
theorem dX2_tellPathTo_11 : decode cX2_tellPathTo 11 = .ok (.iload_n 3, 1) := by decide +kernel
theorem dX2_tellPathTo_12 : decode cX2_tellPathTo 12 = .ok (.bipush 10, 2) := by decide +kernel
theorem dX2_tellPathTo_14 : decode cX2_tellPathTo 14 = .ok (.if_icmp .ge 30, 3) := by decide +kernel
theorem dX2_tellPathTo_17 : decode cX2_tellPathTo 17 = .ok (.iload_n 3, 1) := by decide +kernel
theorem dX2_tellPathTo_18 : decode cX2_tellPathTo 18 = .ok (.aload_n 0, 1) := by decide +kernel
theorem dX2_tellPathTo_19 : decode cX2_tellPathTo 19 = .ok (.getfield 35, 3) := by decide +kernel
theorem dX2_tellPathTo_22 : decode cX2_tellPathTo 22 = .ok (.iload_n 1, 1) := by decide +kernel
theorem dX2_tellPathTo_23 : decode cX2_tellPathTo 23 = .ok (.iaload, 1) := by decide +kernel
theorem dX2_tellPathTo_24 : decode cX2_tellPathTo 24 = .ok (.if_icmp .ge 20, 3) := by decide +kernel
theorem dX2_tellPathTo_27 : decode cX2_tellPathTo 27 = .ok (.aload_n 2, 1) := by decide +kernel
theorem dX2_tellPathTo_28 : decode cX2_tellPathTo 28 = .ok (.aload_n 0, 1) := by decide +kernel
theorem dX2_tellPathTo_29 : decode cX2_tellPathTo 29 = .ok (.getfield 51, 3) := by decide +kernel
theorem dX2_tellPathTo_32 : decode cX2_tellPathTo 32 = .ok (.iload_n 3, 1) := by decide +kernel
theorem dX2_tellPathTo_33 : decode cX2_tellPathTo 33 = .ok (.iaload, 1) := by decide +kernel
theorem dX2_tellPathTo_34 : decode cX2_tellPathTo 34 = .ok (.i2l, 1) := by decide +kernel
theorem dX2_tellPathTo_35 : decode cX2_tellPathTo 35 = .ok (.invokevirtual 161, 3) := by decide +kernel
theorem dX2_tellPathTo_38 : decode cX2_tellPathTo 38 = .ok (.iinc 3 1, 3) := by decide +kernel
theorem dX2_tellPathTo_41 : decode cX2_tellPathTo 41 = .ok (.goto (-30), 3) := by decide +kernel
theorem dX2_tellPathTo_44 : decode cX2_tellPathTo 44 = .ok (.return_, 1) := by decide +kernel
theorem dX2_ends_0 : decode cX2_ends 0 = .ok (.iconst 0, 1) := by decide +kernel
theorem dX2_ends_1 : decode cX2_ends 1 = .ok (.istore_n 1, 1) := by decide +kernel
theorem dX2_ends_2 : decode cX2_ends 2 = .ok (.iconst 0, 1) := by decide +kernel
theorem dX2_ends_3 : decode cX2_ends 3 = .ok (.istore_n 2, 1) := by decide +kernel
theorem dX2_ends_4 : decode cX2_ends 4 = .ok (.iload_n 2, 1) := by decide +kernel
theorem dX2_ends_5 : decode cX2_ends 5 = .ok (.aload_n 0, 1) := by decide +kernel
theorem dX2_ends_6 : decode cX2_ends 6 = .ok (.getfield 68, 3) := by decide +kernel
theorem dX2_ends_9 : decode cX2_ends 9 = .ok (.if_icmp .ge 34, 3) := by decide +kernel
theorem dX2_ends_12 : decode cX2_ends 12 = .ok (.iload_n 1, 1) := by decide +kernel
theorem dX2_ends_13 : decode cX2_ends 13 = .ok (.aload_n 0, 1) := by decide +kernel
theorem dX2_ends_14 : decode cX2_ends 14 = .ok (.getfield 44, 3) := by decide +kernel
theorem dX2_ends_17 : decode cX2_ends 17 = .ok (.iload_n 2, 1) := by decide +kernel
theorem dX2_ends_18 : decode cX2_ends 18 = .ok (.iaload, 1) := by decide +kernel
theorem dX2_ends_19 : decode cX2_ends 19 = .ok (.aload_n 0, 1) := by decide +kernel
theorem dX2_ends_20 : decode cX2_ends 20 = .ok (.getfield 44, 3) := by decide +kernel
theorem dX2_ends_23 : decode cX2_ends 23 = .ok (.iload_n 2, 1) := by decide +kernel
theorem dX2_ends_24 : decode cX2_ends 24 = .ok (.iconst 1, 1) := by decide +kernel
theorem dX2_ends_25 : decode cX2_ends 25 = .ok (.iadd, 1) := by decide +kernel
theorem dX2_ends_26 : decode cX2_ends 26 = .ok (.iaload, 1) := by decide +kernel
theorem dX2_ends_27 : decode cX2_ends 27 = .ok (.if_icmp .ne 7, 3) := by decide +kernel
theorem dX2_ends_30 : decode cX2_ends 30 = .ok (.iconst 1, 1) := by decide +kernel
theorem dX2_ends_31 : decode cX2_ends 31 = .ok (.goto 4, 3) := by decide +kernel
theorem dX2_ends_34 : decode cX2_ends 34 = .ok (.iconst 0, 1) := by decide +kernel
theorem dX2_ends_35 : decode cX2_ends 35 = .ok (.iadd, 1) := by decide +kernel
theorem dX2_ends_36 : decode cX2_ends 36 = .ok (.istore_n 1, 1) := by decide +kernel
theorem dX2_ends_37 : decode cX2_ends 37 = .ok (.iinc 2 1, 3) := by decide +kernel
theorem dX2_ends_40 : decode cX2_ends 40 = .ok (.goto (-36), 3) := by decide +kernel
theorem dX2_ends_43 : decode cX2_ends 43 = .ok (.iload_n 1, 1) := by decide +kernel
theorem dX2_ends_44 : decode cX2_ends 44 = .ok (.ireturn, 1) := by decide +kernel
theorem dX3_init_0 : decode cX3_init 0 = .ok (.aload_n 0, 1) := by decide +kernel
theorem dX3_init_1 : decode cX3_init 1 = .ok (.invokespecial 1, 3) := by decide +kernel
theorem dX3_init_4 : decode cX3_init 4 = .ok (.aload_n 0, 1) := by decide +kernel
theorem dX3_init_5 : decode cX3_init 5 = .ok (.bipush 15, 2) := by decide +kernel
theorem dX3_init_7 : decode cX3_init 7 = .ok (.anewarray 9, 3) := by decide +kernel
theorem dX3_init_10 : decode cX3_init 10 = .ok (.putfield 11, 3) := by decide +kernel
theorem dX3_init_13 : decode cX3_init 13 = .ok (.iconst 0, 1) := by decide +kernel
theorem dX3_init_14 : decode cX3_init 14 = .ok (.istore_n 1, 1) := by decide +kernel
theorem dX3_init_15 : decode cX3_init 15 = .ok (.iload_n 1, 1) := by decide +kernel
theorem dX3_init_16 : decode cX3_init 16 = .ok (.bipush 15, 2) := by decide +kernel
theorem dX3_init_18 : decode cX3_init 18 = .ok (.if_icmp .ge 22, 3) := by decide +kernel
theorem dX3_init_21 : decode cX3_init 21 = .ok (.aload_n 0, 1) := by decide +kernel
theorem dX3_init_22 : decode cX3_init 22 = .ok (.getfield 11, 3) := by decide +kernel
theorem dX3_init_25 : decode cX3_init 25 = .ok (.iload_n 1, 1) := by decide +kernel
theorem dX3_init_26 : decode cX3_init 26 = .ok (.new 9, 3) := by decide +kernel
theorem dX3_init_29 : decode cX3_init 29 = .ok (.dup, 1) := by decide +kernel
theorem dX3_init_30 : decode cX3_init 30 = .ok (.invokespecial 15, 3) := by decide +kernel
theorem dX3_init_33 : decode cX3_init 33 = .ok (.aastore, 1) := by decide +kernel
theorem dX3_init_34 : decode cX3_init 34 = .ok (.iinc 1 1, 3) := by decide +kernel
theorem dX3_init_37 : decode cX3_init 37 = .ok (.goto (-22), 3) := by decide +kernel
theorem dX3_init_40 : decode cX3_init 40 = .ok (.return_, 1) := by decide +kernel
theorem dX3_clear_0 : decode cX3_clear 0 = .ok (.aload_n 0, 1) := by decide +kernel
theorem dX3_clear_1 : decode cX3_clear 1 = .ok (.iconst 0, 1) := by decide +kernel
theorem dX3_clear_2 : decode cX3_clear 2 = .ok (.putfield 16, 3) := by decide +kernel
theorem dX3_clear_5 : decode cX3_clear 5 = .ok (.return_, 1) := by decide +kernel
theorem dX3_push_0 : decode cX3_push 0 = .ok (.aload_n 0, 1) := by decide +kernel
theorem dX3_push_1 : decode cX3_push 1 = .ok (.getfield 11, 3) := by decide +kernel
theorem dX3_push_4 : decode cX3_push 4 = .ok (.aload_n 0, 1) := by decide +kernel
theorem dX3_push_5 : decode cX3_push 5 = .ok (.getfield 20, 3) := by decide +kernel
theorem dX3_push_8 : decode cX3_push 8 = .ok (.aaload, 1) := by decide +kernel
theorem dX3_push_9 : decode cX3_push 9 = .ok (.aload_n 1, 1) := by decide +kernel
theorem dX3_push_10 : decode cX3_push 10 = .ok (.invokevirtual 23, 3) := by decide +kernel
theorem dX3_push_13 : decode cX3_push 13 = .ok (.aload_n 0, 1) := by decide +kernel
theorem dX3_push_14 : decode cX3_push 14 = .ok (.aload_n 0, 1) := by decide +kernel
theorem dX3_push_15 : decode cX3_push 15 = .ok (.getfield 20, 3) := by decide +kernel
theorem dX3_push_18 : decode cX3_push 18 = .ok (.iconst 1, 1) := by decide +kernel
theorem dX3_push_19 : decode cX3_push 19 = .ok (.iadd, 1) := by decide +kernel
theorem dX3_push_20 : decode cX3_push 20 = .ok (.bipush 15, 2) := by decide +kernel
theorem dX3_push_22 : decode cX3_push 22 = .ok (.irem, 1) := by decide +kernel
theorem dX3_push_23 : decode cX3_push 23 = .ok (.putfield 20, 3) := by decide +kernel
theorem dX3_push_26 : decode cX3_push 26 = .ok (.aload_n 0, 1) := by decide +kernel
theorem dX3_push_27 : decode cX3_push 27 = .ok (.bipush 15, 2) := by decide +kernel
theorem dX3_push_29 : decode cX3_push 29 = .ok (.aload_n 0, 1) := by decide +kernel
theorem dX3_push_30 : decode cX3_push 30 = .ok (.getfield 16, 3) := by decide +kernel
theorem dX3_push_33 : decode cX3_push 33 = .ok (.iconst 1, 1) := by decide +kernel
theorem dX3_push_34 : decode cX3_push 34 = .ok (.iadd, 1) := by decide +kernel
theorem dX3_push_35 : decode cX3_push 35 = .ok (.invokestatic 27, 3) := by decide +kernel
theorem dX3_push_38 : decode cX3_push 38 = .ok (.putfield 16, 3) := by decide +kernel
theorem dX3_push_41 : decode cX3_push 41 = .ok (.return_, 1) := by decide +kernel
theorem dX3_popInto_0 : decode cX3_popInto 0 = .ok (.aload_n 0, 1) := by decide +kernel
theorem dX3_popInto_1 : decode cX3_popInto 1 = .ok (.getfield 16, 3) := by decide +kernel
theorem dX3_popInto_4 : decode cX3_popInto 4 = .ok (.ifCond .le 42, 3) := by decide +kernel
theorem dX3_popInto_7 : decode cX3_popInto 7 = .ok (.aload_n 0, 1) := by decide +kernel
theorem dX3_popInto_8 : decode cX3_popInto 8 = .ok (.aload_n 0, 1) := by decide +kernel
theorem dX3_popInto_9 : decode cX3_popInto 9 = .ok (.getfield 20, 3) := by decide +kernel
theorem dX3_popInto_12 : decode cX3_popInto 12 = .ok (.bipush 15, 2) := by decide +kernel
theorem dX3_popInto_14 : decode cX3_popInto 14 = .ok (.iadd, 1) := by decide +kernel
theorem dX3_popInto_15 : decode cX3_popInto 15 = .ok (.iconst 1, 1) := by decide +kernel
theorem dX3_popInto_16 : decode cX3_popInto 16 = .ok (.isub, 1) := by decide +kernel
theorem dX3_popInto_17 : decode cX3_popInto 17 = .ok (.bipush 15, 2) := by decide +kernel
theorem dX3_popInto_19 : decode cX3_popInto 19 = .ok (.irem, 1) := by decide +kernel
theorem dX3_popInto_20 : decode cX3_popInto 20 = .ok (.putfield 20, 3) := by decide +kernel
theorem dX3_popInto_23 : decode cX3_popInto 23 = .ok (.aload_n 0, 1) := by decide +kernel
theorem dX3_popInto_24 : decode cX3_popInto 24 = .ok (.dup, 1) := by decide +kernel
theorem dX3_popInto_25 : decode cX3_popInto 25 = .ok (.getfield 16, 3) := by decide +kernel
theorem dX3_popInto_28 : decode cX3_popInto 28 = .ok (.iconst 1, 1) := by decide +kernel
theorem dX3_popInto_29 : decode cX3_popInto 29 = .ok (.isub, 1) := by decide +kernel
theorem dX3_popInto_30 : decode cX3_popInto 30 = .ok (.putfield 16, 3) := by decide +kernel
theorem dX3_popInto_33 : decode cX3_popInto 33 = .ok (.aload_n 1, 1) := by decide +kernel
theorem dX3_popInto_34 : decode cX3_popInto 34 = .ok (.aload_n 0, 1) := by decide +kernel
theorem dX3_popInto_35 : decode cX3_popInto 35 = .ok (.getfield 11, 3) := by decide +kernel
theorem dX3_popInto_38 : decode cX3_popInto 38 = .ok (.aload_n 0, 1) := by decide +kernel
theorem dX3_popInto_39 : decode cX3_popInto 39 = .ok (.getfield 20, 3) := by decide +kernel
theorem dX3_popInto_42 : decode cX3_popInto 42 = .ok (.aaload, 1) := by decide +kernel
theorem dX3_popInto_43 : decode cX3_popInto 43 = .ok (.invokevirtual 23, 3) := by decide +kernel
theorem dX3_popInto_46 : decode cX3_popInto 46 = .ok (.return_, 1) := by decide +kernel
theorem dX4_init_0 : decode cX4_init 0 = .ok (.aload_n 0, 1) := by decide +kernel
theorem dX4_init_1 : decode cX4_init 1 = .ok (.invokespecial 3, 3) := by decide +kernel
theorem dX4_init_4 : decode cX4_init 4 = .ok (.aload_n 0, 1) := by decide +kernel
theorem dX4_init_5 : decode cX4_init 5 = .ok (.bipush 70, 2) := by decide +kernel
theorem dX4_init_7 : decode cX4_init 7 = .ok (.newarray .int, 2) := by decide +kernel
theorem dX4_init_9 : decode cX4_init 9 = .ok (.putfield 11, 3) := by decide +kernel
theorem dX4_init_12 : decode cX4_init 12 = .ok (.return_, 1) := by decide +kernel
theorem dX4_readFrom_0 : decode cX4_readFrom 0 = .ok (.bipush 70, 2) := by decide +kernel
theorem dX4_readFrom_2 : decode cX4_readFrom 2 = .ok (.aload_n 1, 1) := by decide +kernel
theorem dX4_readFrom_3 : decode cX4_readFrom 3 = .ok (.getfield 15, 3) := by decide +kernel
theorem dX4_readFrom_6 : decode cX4_readFrom 6 = .ok (.invokestatic 21, 3) := by decide +kernel
theorem dX4_readFrom_9 : decode cX4_readFrom 9 = .ok (.istore_n 2, 1) := by decide +kernel
theorem dX4_readFrom_10 : decode cX4_readFrom 10 = .ok (.iconst 0, 1) := by decide +kernel
theorem dX4_readFrom_11 : decode cX4_readFrom 11 = .ok (.istore_n 3, 1) := by decide +kernel
theorem dX4_readFrom_12 : decode cX4_readFrom 12 = .ok (.aload_n 0, 1) := by decide +kernel
theorem dX4_readFrom_13 : decode cX4_readFrom 13 = .ok (.iconst 0, 1) := by decide +kernel
theorem dX4_readFrom_14 : decode cX4_readFrom 14 = .ok (.putfield 27, 3) := by decide +kernel
theorem dX4_readFrom_17 : decode cX4_readFrom 17 = .ok (.iconst 0, 1) := by decide +kernel
theorem dX4_readFrom_18 : decode cX4_readFrom 18 = .ok (.istore 4, 2) := by decide +kernel
theorem dX4_readFrom_20 : decode cX4_readFrom 20 = .ok (.iload 4, 2) := by decide +kernel
theorem dX4_readFrom_22 : decode cX4_readFrom 22 = .ok (.iload_n 2, 1) := by decide +kernel
theorem dX4_readFrom_23 : decode cX4_readFrom 23 = .ok (.if_icmp .ge 26, 3) := by decide +kernel
theorem dX4_readFrom_26 : decode cX4_readFrom 26 = .ok (.aload_n 0, 1) := by decide +kernel
theorem dX4_readFrom_27 : decode cX4_readFrom 27 = .ok (.aload_n 1, 1) := by decide +kernel
theorem dX4_readFrom_28 : decode cX4_readFrom 28 = .ok (.iload 4, 2) := by decide +kernel
theorem dX4_readFrom_30 : decode cX4_readFrom 30 = .ok (.iload_n 3, 1) := by decide +kernel
theorem dX4_readFrom_31 : decode cX4_readFrom 31 = .ok (.invokevirtual 30, 3) := by decide +kernel
theorem dX4_readFrom_34 : decode cX4_readFrom 34 = .ok (.istore_n 3, 1) := by decide +kernel
theorem dX4_readFrom_35 : decode cX4_readFrom 35 = .ok (.iload_n 3, 1) := by decide +kernel
theorem dX4_readFrom_36 : decode cX4_readFrom 36 = .ok (.iconst (-1), 1) := by decide +kernel
theorem dX4_readFrom_37 : decode cX4_readFrom 37 = .ok (.if_icmp .ne 6, 3) := by decide +kernel
theorem dX4_readFrom_40 : decode cX4_readFrom 40 = .ok (.iload 4, 2) := by decide +kernel
theorem dX4_readFrom_42 : decode cX4_readFrom 42 = .ok (.ireturn, 1) := by decide +kernel
theorem dX4_readFrom_43 : decode cX4_readFrom 43 = .ok (.iinc 4 1, 3) := by decide +kernel
theorem dX4_readFrom_46 : decode cX4_readFrom 46 = .ok (.goto (-26), 3) := by decide +kernel
theorem dX4_readFrom_49 : decode cX4_readFrom 49 = .ok (.aload_n 1, 1) := by decide +kernel
theorem dX4_readFrom_50 : decode cX4_readFrom 50 = .ok (.getfield 15, 3) := by decide +kernel
theorem dX4_readFrom_53 : decode cX4_readFrom 53 = .ok (.bipush 70, 2) := by decide +kernel
theorem dX4_readFrom_55 : decode cX4_readFrom 55 = .ok (.if_icmp .le 6, 3) := by decide +kernel
theorem dX4_readFrom_58 : decode cX4_readFrom 58 = .ok (.bipush 70, 2) := by decide +kernel
theorem dX4_readFrom_60 : decode cX4_readFrom 60 = .ok (.ireturn, 1) := by decide +kernel
theorem dX4_readFrom_61 : decode cX4_readFrom 61 = .ok (.iload_n 2, 1) := by decide +kernel
theorem dX4_readFrom_62 : decode cX4_readFrom 62 = .ok (.ifCond .eq 8, 3) := by decide +kernel
theorem dX4_readFrom_65 : decode cX4_readFrom 65 = .ok (.iload_n 3, 1) := by decide +kernel
theorem dX4_readFrom_66 : decode cX4_readFrom 66 = .ok (.iconst 5, 1) := by decide +kernel
theorem dX4_readFrom_67 : decode cX4_readFrom 67 = .ok (.if_icmp .ne 7, 3) := by decide +kernel
theorem dX4_readFrom_70 : decode cX4_readFrom 70 = .ok (.iconst (-1), 1) := by decide +kernel
theorem dX4_readFrom_71 : decode cX4_readFrom 71 = .ok (.goto 4, 3) := by decide +kernel
theorem dX4_readFrom_74 : decode cX4_readFrom 74 = .ok (.iload_n 2, 1) := by decide +kernel
theorem dX4_readFrom_75 : decode cX4_readFrom 75 = .ok (.ireturn, 1) := by decide +kernel
theorem dX4_step_0 : decode cX4_step 0 = .ok (.iload_n 3, 1) := by decide +kernel
theorem dX4_step_1 : decode cX4_step 1 = .ok (.iconst 5, 1) := by decide +kernel
theorem dX4_step_2 : decode cX4_step 2 = .ok (.if_icmp .ne 19, 3) := by decide +kernel
theorem dX4_step_5 : decode cX4_step 5 = .ok (.aload_n 1, 1) := by decide +kernel
theorem dX4_step_6 : decode cX4_step 6 = .ok (.iload_n 2, 1) := by decide +kernel
theorem dX4_step_7 : decode cX4_step 7 = .ok (.ldc 34, 2) := by decide +kernel
theorem dX4_step_9 : decode cX4_step 9 = .ok (.invokevirtual 36, 3) := by decide +kernel
theorem dX4_step_12 : decode cX4_step 12 = .ok (.ifCond .eq 7, 3) := by decide +kernel
theorem dX4_step_15 : decode cX4_step 15 = .ok (.iconst 0, 1) := by decide +kernel
theorem dX4_step_16 : decode cX4_step 16 = .ok (.goto 4, 3) := by decide +kernel
theorem dX4_step_19 : decode cX4_step 19 = .ok (.iconst (-1), 1) := by decide +kernel
theorem dX4_step_20 : decode cX4_step 20 = .ok (.ireturn, 1) := by decide +kernel
theorem dX4_step_21 : decode cX4_step 21 = .ok (.iload_n 3, 1) := by decide +kernel
theorem dX4_step_22 : decode cX4_step 22 = .ok (.iconst 3, 1) := by decide +kernel
theorem dX4_step_23 : decode cX4_step 23 = .ok (.if_icmp .ne 19, 3) := by decide +kernel
theorem dX4_step_26 : decode cX4_step 26 = .ok (.aload_n 1, 1) := by decide +kernel
theorem dX4_step_27 : decode cX4_step 27 = .ok (.iload_n 2, 1) := by decide +kernel
theorem dX4_step_28 : decode cX4_step 28 = .ok (.ldc 40, 2) := by decide +kernel
theorem dX4_step_30 : decode cX4_step 30 = .ok (.invokevirtual 36, 3) := by decide +kernel
theorem dX4_step_33 : decode cX4_step 33 = .ok (.ifCond .eq 7, 3) := by decide +kernel
theorem dX4_step_36 : decode cX4_step 36 = .ok (.iconst 4, 1) := by decide +kernel
theorem dX4_step_37 : decode cX4_step 37 = .ok (.goto 4, 3) := by decide +kernel
theorem dX4_step_40 : decode cX4_step 40 = .ok (.iconst (-1), 1) := by decide +kernel
theorem dX4_step_41 : decode cX4_step 41 = .ok (.ireturn, 1) := by decide +kernel
theorem dX4_step_42 : decode cX4_step 42 = .ok (.iload_n 3, 1) := by decide +kernel
theorem dX4_step_43 : decode cX4_step 43 = .ok (.ifCond .eq 16, 3) := by decide +kernel
theorem dX4_step_46 : decode cX4_step 46 = .ok (.iload_n 3, 1) := by decide +kernel
theorem dX4_step_47 : decode cX4_step 47 = .ok (.iconst 1, 1) := by decide +kernel
theorem dX4_step_48 : decode cX4_step 48 = .ok (.if_icmp .ne 19, 3) := by decide +kernel
theorem dX4_step_51 : decode cX4_step 51 = .ok (.aload_n 1, 1) := by decide +kernel
theorem dX4_step_52 : decode cX4_step 52 = .ok (.iload_n 2, 1) := by decide +kernel
theorem dX4_step_53 : decode cX4_step 53 = .ok (.invokevirtual 42, 3) := by decide +kernel
theorem dX4_step_56 : decode cX4_step 56 = .ok (.ifCond .eq 11, 3) := by decide +kernel
theorem dX4_step_59 : decode cX4_step 59 = .ok (.aload_n 0, 1) := by decide +kernel
theorem dX4_step_60 : decode cX4_step 60 = .ok (.aload_n 1, 1) := by decide +kernel
theorem dX4_step_61 : decode cX4_step 61 = .ok (.iload_n 2, 1) := by decide +kernel
theorem dX4_step_62 : decode cX4_step 62 = .ok (.iload_n 3, 1) := by decide +kernel
theorem dX4_step_63 : decode cX4_step 63 = .ok (.invokevirtual 46, 3) := by decide +kernel
theorem dX4_step_66 : decode cX4_step 66 = .ok (.ireturn, 1) := by decide +kernel
theorem dX4_step_67 : decode cX4_step 67 = .ok (.aload_n 1, 1) := by decide +kernel
theorem dX4_step_68 : decode cX4_step 68 = .ok (.iload_n 2, 1) := by decide +kernel
theorem dX4_step_69 : decode cX4_step 69 = .ok (.ldc 49, 2) := by decide +kernel
theorem dX4_step_71 : decode cX4_step 71 = .ok (.invokevirtual 36, 3) := by decide +kernel
theorem dX4_step_74 : decode cX4_step 74 = .ok (.ifCond .ne 5, 3) := by decide +kernel
theorem dX4_step_77 : decode cX4_step 77 = .ok (.iconst (-1), 1) := by decide +kernel
theorem dX4_step_78 : decode cX4_step 78 = .ok (.ireturn, 1) := by decide +kernel
theorem dX4_step_79 : decode cX4_step 79 = .ok (.ldc 49, 2) := by decide +kernel
theorem dX4_step_81 : decode cX4_step 81 = .ok (.aload_n 1, 1) := by decide +kernel
theorem dX4_step_82 : decode cX4_step 82 = .ok (.getfield 51, 3) := by decide +kernel
theorem dX4_step_85 : decode cX4_step 85 = .ok (.iload_n 2, 1) := by decide +kernel
theorem dX4_step_86 : decode cX4_step 86 = .ok (.iaload, 1) := by decide +kernel
theorem dX4_step_87 : decode cX4_step 87 = .ok (.i2c, 1) := by decide +kernel
theorem dX4_step_88 : decode cX4_step 88 = .ok (.invokevirtual 54, 3) := by decide +kernel
theorem dX4_step_91 : decode cX4_step 91 = .ok (.istore 4, 2) := by decide +kernel
theorem dX4_step_93 : decode cX4_step 93 = .ok (.iload_n 3, 1) := by decide +kernel
theorem dX4_step_94 : decode cX4_step 94 = .ok (.iconst 4, 1) := by decide +kernel
theorem dX4_step_95 : decode cX4_step 95 = .ok (.if_icmp .ne 19, 3) := by decide +kernel
theorem dX4_step_98 : decode cX4_step 98 = .ok (.aload_n 0, 1) := by decide +kernel
theorem dX4_step_99 : decode cX4_step 99 = .ok (.bipush 10, 2) := by decide +kernel
theorem dX4_step_101 : decode cX4_step 101 = .ok (.aload_n 0, 1) := by decide +kernel
theorem dX4_step_102 : decode cX4_step 102 = .ok (.getfield 60, 3) := by decide +kernel
theorem dX4_step_105 : decode cX4_step 105 = .ok (.imul, 1) := by decide +kernel
theorem dX4_step_106 : decode cX4_step 106 = .ok (.iload 4, 2) := by decide +kernel
theorem dX4_step_108 : decode cX4_step 108 = .ok (.iadd, 1) := by decide +kernel
theorem dX4_step_109 : decode cX4_step 109 = .ok (.invokevirtual 63, 3) := by decide +kernel
theorem dX4_step_112 : decode cX4_step 112 = .ok (.iconst 5, 1) := by decide +kernel
theorem dX4_step_113 : decode cX4_step 113 = .ok (.ireturn, 1) := by decide +kernel
theorem dX4_step_114 : decode cX4_step 114 = .ok (.aload_n 0, 1) := by decide +kernel
theorem dX4_step_115 : decode cX4_step 115 = .ok (.iconst 3, 1) := by decide +kernel
theorem dX4_step_116 : decode cX4_step 116 = .ok (.aload_n 0, 1) := by decide +kernel
theorem dX4_step_117 : decode cX4_step 117 = .ok (.getfield 60, 3) := by decide +kernel
theorem dX4_step_120 : decode cX4_step 120 = .ok (.imul, 1) := by decide +kernel
theorem dX4_step_121 : decode cX4_step 121 = .ok (.iload 4, 2) := by decide +kernel
theorem dX4_step_123 : decode cX4_step 123 = .ok (.iadd, 1) := by decide +kernel
theorem dX4_step_124 : decode cX4_step 124 = .ok (.putfield 60, 3) := by decide +kernel
theorem dX4_step_127 : decode cX4_step 127 = .ok (.iconst 3, 1) := by decide +kernel
theorem dX4_step_128 : decode cX4_step 128 = .ok (.ireturn, 1) := by decide +kernel
theorem dX4_note_0 : decode cX4_note 0 = .ok (.aload_n 0, 1) := by decide +kernel
theorem dX4_note_1 : decode cX4_note 1 = .ok (.getfield 27, 3) := by decide +kernel
theorem dX4_note_4 : decode cX4_note 4 = .ok (.bipush 70, 2) := by decide +kernel
theorem dX4_note_6 : decode cX4_note 6 = .ok (.if_icmp .ge 20, 3) := by decide +kernel
theorem dX4_note_9 : decode cX4_note 9 = .ok (.aload_n 0, 1) := by decide +kernel
theorem dX4_note_10 : decode cX4_note 10 = .ok (.getfield 11, 3) := by decide +kernel
theorem dX4_note_13 : decode cX4_note 13 = .ok (.aload_n 0, 1) := by decide +kernel
theorem dX4_note_14 : decode cX4_note 14 = .ok (.dup, 1) := by decide +kernel
theorem dX4_note_15 : decode cX4_note 15 = .ok (.getfield 27, 3) := by decide +kernel
theorem dX4_note_18 : decode cX4_note 18 = .ok (.dup_x1, 1) := by decide +kernel
theorem dX4_note_19 : decode cX4_note 19 = .ok (.iconst 1, 1) := by decide +kernel
theorem dX4_note_20 : decode cX4_note 20 = .ok (.iadd, 1) := by decide +kernel
theorem dX4_note_21 : decode cX4_note 21 = .ok (.putfield 27, 3) := by decide +kernel
theorem dX4_note_24 : decode cX4_note 24 = .ok (.iload_n 1, 1) := by decide +kernel
theorem dX4_note_25 : decode cX4_note 25 = .ok (.iastore, 1) := by decide +kernel
theorem dX4_note_26 : decode cX4_note 26 = .ok (.return_, 1) := by decide +kernel
theorem dX4_readDigit_0 : decode cX4_readDigit 0 = .ok (.aload_n 1, 1) := by decide +kernel
theorem dX4_readDigit_1 : decode cX4_readDigit 1 = .ok (.iload_n 2, 1) := by decide +kernel
theorem dX4_readDigit_2 : decode cX4_readDigit 2 = .ok (.invokevirtual 42, 3) := by decide +kernel
theorem dX4_readDigit_5 : decode cX4_readDigit 5 = .ok (.ifCond .ne 5, 3) := by decide +kernel
theorem dX4_readDigit_8 : decode cX4_readDigit 8 = .ok (.iconst (-1), 1) := by decide +kernel
theorem dX4_readDigit_9 : decode cX4_readDigit 9 = .ok (.ireturn, 1) := by decide +kernel
theorem dX4_readDigit_10 : decode cX4_readDigit 10 = .ok (.aload_n 1, 1) := by decide +kernel
theorem dX4_readDigit_11 : decode cX4_readDigit 11 = .ok (.getfield 51, 3) := by decide +kernel
theorem dX4_readDigit_14 : decode cX4_readDigit 14 = .ok (.iload_n 2, 1) := by decide +kernel
theorem dX4_readDigit_15 : decode cX4_readDigit 15 = .ok (.iaload, 1) := by decide +kernel
theorem dX4_readDigit_16 : decode cX4_readDigit 16 = .ok (.bipush 48, 2) := by decide +kernel
theorem dX4_readDigit_18 : decode cX4_readDigit 18 = .ok (.isub, 1) := by decide +kernel
theorem dX4_readDigit_19 : decode cX4_readDigit 19 = .ok (.istore 4, 2) := by decide +kernel
theorem dX4_readDigit_21 : decode cX4_readDigit 21 = .ok (.aload_n 0, 1) := by decide +kernel
theorem dX4_readDigit_22 : decode cX4_readDigit 22 = .ok (.iload_n 3, 1) := by decide +kernel
theorem dX4_readDigit_23 : decode cX4_readDigit 23 = .ok (.ifCond .ne 8, 3) := by decide +kernel
theorem dX4_readDigit_26 : decode cX4_readDigit 26 = .ok (.iload 4, 2) := by decide +kernel
theorem dX4_readDigit_28 : decode cX4_readDigit 28 = .ok (.goto 13, 3) := by decide +kernel
theorem dX4_readDigit_31 : decode cX4_readDigit 31 = .ok (.bipush 10, 2) := by decide +kernel
theorem dX4_readDigit_33 : decode cX4_readDigit 33 = .ok (.aload_n 0, 1) := by decide +kernel
theorem dX4_readDigit_34 : decode cX4_readDigit 34 = .ok (.getfield 60, 3) := by decide +kernel
theorem dX4_readDigit_37 : decode cX4_readDigit 37 = .ok (.imul, 1) := by decide +kernel
theorem dX4_readDigit_38 : decode cX4_readDigit 38 = .ok (.iload 4, 2) := by decide +kernel
theorem dX4_readDigit_40 : decode cX4_readDigit 40 = .ok (.iadd, 1) := by decide +kernel
theorem dX4_readDigit_41 : decode cX4_readDigit 41 = .ok (.putfield 60, 3) := by decide +kernel
theorem dX4_readDigit_44 : decode cX4_readDigit 44 = .ok (.iload_n 3, 1) := by decide +kernel
theorem dX4_readDigit_45 : decode cX4_readDigit 45 = .ok (.ifCond .ne 7, 3) := by decide +kernel
theorem dX4_readDigit_48 : decode cX4_readDigit 48 = .ok (.iconst 1, 1) := by decide +kernel
theorem dX4_readDigit_49 : decode cX4_readDigit 49 = .ok (.goto 4, 3) := by decide +kernel
theorem dX4_readDigit_52 : decode cX4_readDigit 52 = .ok (.iconst 2, 1) := by decide +kernel
theorem dX4_readDigit_53 : decode cX4_readDigit 53 = .ok (.ireturn, 1) := by decide +kernel
theorem dX5_init_0 : decode cX5_init 0 = .ok (.aload_n 0, 1) := by decide +kernel
theorem dX5_init_1 : decode cX5_init 1 = .ok (.invokespecial 3, 3) := by decide +kernel
theorem dX5_init_4 : decode cX5_init 4 = .ok (.aload_n 0, 1) := by decide +kernel
theorem dX5_init_5 : decode cX5_init 5 = .ok (.bipush 16, 2) := by decide +kernel
theorem dX5_init_7 : decode cX5_init 7 = .ok (.newarray .long, 2) := by decide +kernel
theorem dX5_init_9 : decode cX5_init 9 = .ok (.putfield 9, 3) := by decide +kernel
theorem dX5_init_12 : decode cX5_init 12 = .ok (.return_, 1) := by decide +kernel
theorem dX5_clear_0 : decode cX5_clear 0 = .ok (.aload_n 0, 1) := by decide +kernel
theorem dX5_clear_1 : decode cX5_clear 1 = .ok (.iconst 0, 1) := by decide +kernel
theorem dX5_clear_2 : decode cX5_clear 2 = .ok (.putfield 15, 3) := by decide +kernel
theorem dX5_clear_5 : decode cX5_clear 5 = .ok (.return_, 1) := by decide +kernel
theorem dX5_add_0 : decode cX5_add 0 = .ok (.aload_n 0, 1) := by decide +kernel
theorem dX5_add_1 : decode cX5_add 1 = .ok (.getfield 15, 3) := by decide +kernel
theorem dX5_add_4 : decode cX5_add 4 = .ok (.bipush 16, 2) := by decide +kernel
theorem dX5_add_6 : decode cX5_add 6 = .ok (.if_icmp .ge 20, 3) := by decide +kernel
theorem dX5_add_9 : decode cX5_add 9 = .ok (.aload_n 0, 1) := by decide +kernel
theorem dX5_add_10 : decode cX5_add 10 = .ok (.getfield 9, 3) := by decide +kernel
theorem dX5_add_13 : decode cX5_add 13 = .ok (.aload_n 0, 1) := by decide +kernel
theorem dX5_add_14 : decode cX5_add 14 = .ok (.dup, 1) := by decide +kernel
theorem dX5_add_15 : decode cX5_add 15 = .ok (.getfield 15, 3) := by decide +kernel
theorem dX5_add_18 : decode cX5_add 18 = .ok (.dup_x1, 1) := by decide +kernel
theorem dX5_add_19 : decode cX5_add 19 = .ok (.iconst 1, 1) := by decide +kernel
theorem dX5_add_20 : decode cX5_add 20 = .ok (.iadd, 1) := by decide +kernel
theorem dX5_add_21 : decode cX5_add 21 = .ok (.putfield 15, 3) := by decide +kernel
theorem dX5_add_24 : decode cX5_add 24 = .ok (.lload_n 1, 1) := by decide +kernel
theorem dX5_add_25 : decode cX5_add 25 = .ok (.lastore, 1) := by decide +kernel
theorem dX5_add_26 : decode cX5_add 26 = .ok (.return_, 1) := by decide +kernel
theorem dX6_init_0 : decode cX6_init 0 = .ok (.aload_n 0, 1) := by decide +kernel
theorem dX6_init_1 : decode cX6_init 1 = .ok (.invokespecial 3, 3) := by decide +kernel
theorem dX6_init_4 : decode cX6_init 4 = .ok (.aload_n 0, 1) := by decide +kernel
theorem dX6_init_5 : decode cX6_init 5 = .ok (.bipush 40, 2) := by decide +kernel
theorem dX6_init_7 : decode cX6_init 7 = .ok (.newarray .int, 2) := by decide +kernel
theorem dX6_init_9 : decode cX6_init 9 = .ok (.putfield 11, 3) := by decide +kernel
theorem dX6_init_12 : decode cX6_init 12 = .ok (.aload_n 0, 1) := by decide +kernel
theorem dX6_init_13 : decode cX6_init 13 = .ok (.bipush 40, 2) := by decide +kernel
theorem dX6_init_15 : decode cX6_init 15 = .ok (.newarray .int, 2) := by decide +kernel
theorem dX6_init_17 : decode cX6_init 17 = .ok (.putfield 15, 3) := by decide +kernel
theorem dX6_init_20 : decode cX6_init 20 = .ok (.aload_n 0, 1) := by decide +kernel
theorem dX6_init_21 : decode cX6_init 21 = .ok (.bipush 40, 2) := by decide +kernel
theorem dX6_init_23 : decode cX6_init 23 = .ok (.newarray .int, 2) := by decide +kernel
theorem dX6_init_25 : decode cX6_init 25 = .ok (.putfield 18, 3) := by decide +kernel
theorem dX6_init_28 : decode cX6_init 28 = .ok (.aload_n 0, 1) := by decide +kernel
theorem dX6_init_29 : decode cX6_init 29 = .ok (.bipush 40, 2) := by decide +kernel
theorem dX6_init_31 : decode cX6_init 31 = .ok (.newarray .int, 2) := by decide +kernel
theorem dX6_init_33 : decode cX6_init 33 = .ok (.putfield 21, 3) := by decide +kernel
theorem dX6_init_36 : decode cX6_init 36 = .ok (.aload_n 0, 1) := by decide +kernel
theorem dX6_init_37 : decode cX6_init 37 = .ok (.iconst 5, 1) := by decide +kernel
theorem dX6_init_38 : decode cX6_init 38 = .ok (.newarray .boolean, 2) := by decide +kernel
theorem dX6_init_40 : decode cX6_init 40 = .ok (.putfield 24, 3) := by decide +kernel
theorem dX6_init_43 : decode cX6_init 43 = .ok (.aload_n 0, 1) := by decide +kernel
theorem dX6_init_44 : decode cX6_init 44 = .ok (.invokevirtual 28, 3) := by decide +kernel
theorem dX6_init_47 : decode cX6_init 47 = .ok (.aload_n 0, 1) := by decide +kernel
theorem dX6_init_48 : decode cX6_init 48 = .ok (.invokevirtual 31, 3) := by decide +kernel
theorem dX6_init_51 : decode cX6_init 51 = .ok (.return_, 1) := by decide +kernel
theorem dX6_readFrom_0 : decode cX6_readFrom 0 = .ok (.bipush 40, 2) := by decide +kernel
theorem dX6_readFrom_2 : decode cX6_readFrom 2 = .ok (.aload_n 1, 1) := by decide +kernel
theorem dX6_readFrom_3 : decode cX6_readFrom 3 = .ok (.getfield 34, 3) := by decide +kernel
theorem dX6_readFrom_6 : decode cX6_readFrom 6 = .ok (.invokestatic 40, 3) := by decide +kernel
theorem dX6_readFrom_9 : decode cX6_readFrom 9 = .ok (.istore_n 2, 1) := by decide +kernel
theorem dX6_readFrom_10 : decode cX6_readFrom 10 = .ok (.aload_n 0, 1) := by decide +kernel
theorem dX6_readFrom_11 : decode cX6_readFrom 11 = .ok (.invokevirtual 46, 3) := by decide +kernel
theorem dX6_readFrom_14 : decode cX6_readFrom 14 = .ok (.iconst 0, 1) := by decide +kernel
theorem dX6_readFrom_15 : decode cX6_readFrom 15 = .ok (.istore_n 3, 1) := by decide +kernel
theorem dX6_readFrom_16 : decode cX6_readFrom 16 = .ok (.iload_n 3, 1) := by decide +kernel
theorem dX6_readFrom_17 : decode cX6_readFrom 17 = .ok (.iload_n 2, 1) := by decide +kernel
theorem dX6_readFrom_18 : decode cX6_readFrom 18 = .ok (.if_icmp .ge 39, 3) := by decide +kernel
theorem dX6_readFrom_21 : decode cX6_readFrom 21 = .ok (.aload_n 0, 1) := by decide +kernel
theorem dX6_readFrom_22 : decode cX6_readFrom 22 = .ok (.getfield 49, 3) := by decide +kernel
theorem dX6_readFrom_25 : decode cX6_readFrom 25 = .ok (.ifCond .eq 15, 3) := by decide +kernel
theorem dX6_readFrom_28 : decode cX6_readFrom 28 = .ok (.aload_n 0, 1) := by decide +kernel
theorem dX6_readFrom_29 : decode cX6_readFrom 29 = .ok (.aload_n 1, 1) := by decide +kernel
theorem dX6_readFrom_30 : decode cX6_readFrom 30 = .ok (.iload_n 3, 1) := by decide +kernel
theorem dX6_readFrom_31 : decode cX6_readFrom 31 = .ok (.invokevirtual 53, 3) := by decide +kernel
theorem dX6_readFrom_34 : decode cX6_readFrom 34 = .ok (.ifCond .ne 17, 3) := by decide +kernel
theorem dX6_readFrom_37 : decode cX6_readFrom 37 = .ok (.goto 12, 3) := by decide +kernel
theorem dX6_readFrom_40 : decode cX6_readFrom 40 = .ok (.aload_n 0, 1) := by decide +kernel
theorem dX6_readFrom_41 : decode cX6_readFrom 41 = .ok (.aload_n 1, 1) := by decide +kernel
theorem dX6_readFrom_42 : decode cX6_readFrom 42 = .ok (.iload_n 3, 1) := by decide +kernel
theorem dX6_readFrom_43 : decode cX6_readFrom 43 = .ok (.invokevirtual 57, 3) := by decide +kernel
theorem dX6_readFrom_46 : decode cX6_readFrom 46 = .ok (.ifCond .ne 5, 3) := by decide +kernel
theorem dX6_readFrom_49 : decode cX6_readFrom 49 = .ok (.iload_n 3, 1) := by decide +kernel
theorem dX6_readFrom_50 : decode cX6_readFrom 50 = .ok (.ireturn, 1) := by decide +kernel
theorem dX6_readFrom_51 : decode cX6_readFrom 51 = .ok (.iinc 3 1, 3) := by decide +kernel
theorem dX6_readFrom_54 : decode cX6_readFrom 54 = .ok (.goto (-38), 3) := by decide +kernel
theorem dX6_readFrom_57 : decode cX6_readFrom 57 = .ok (.aload_n 1, 1) := by decide +kernel
theorem dX6_readFrom_58 : decode cX6_readFrom 58 = .ok (.getfield 34, 3) := by decide +kernel
theorem dX6_readFrom_61 : decode cX6_readFrom 61 = .ok (.bipush 40, 2) := by decide +kernel
theorem dX6_readFrom_63 : decode cX6_readFrom 63 = .ok (.if_icmp .le 6, 3) := by decide +kernel
theorem dX6_readFrom_66 : decode cX6_readFrom 66 = .ok (.bipush 40, 2) := by decide +kernel
theorem dX6_readFrom_68 : decode cX6_readFrom 68 = .ok (.ireturn, 1) := by decide +kernel
theorem dX6_readFrom_69 : decode cX6_readFrom 69 = .ok (.iload_n 2, 1) := by decide +kernel
theorem dX6_readFrom_70 : decode cX6_readFrom 70 = .ok (.ifCond .le 19, 3) := by decide +kernel
theorem dX6_readFrom_73 : decode cX6_readFrom 73 = .ok (.aload_n 0, 1) := by decide +kernel
theorem dX6_readFrom_74 : decode cX6_readFrom 74 = .ok (.getfield 49, 3) := by decide +kernel
theorem dX6_readFrom_77 : decode cX6_readFrom 77 = .ok (.ifCond .ne 10, 3) := by decide +kernel
theorem dX6_readFrom_80 : decode cX6_readFrom 80 = .ok (.aload_n 0, 1) := by decide +kernel
theorem dX6_readFrom_81 : decode cX6_readFrom 81 = .ok (.getfield 60, 3) := by decide +kernel
theorem dX6_readFrom_84 : decode cX6_readFrom 84 = .ok (.ifCond .le 5, 3) := by decide +kernel
theorem dX6_readFrom_87 : decode cX6_readFrom 87 = .ok (.iload_n 2, 1) := by decide +kernel
theorem dX6_readFrom_88 : decode cX6_readFrom 88 = .ok (.ireturn, 1) := by decide +kernel
theorem dX6_readFrom_89 : decode cX6_readFrom 89 = .ok (.iload_n 2, 1) := by decide +kernel
theorem dX6_readFrom_90 : decode cX6_readFrom 90 = .ok (.ifCond .ne 7, 3) := by decide +kernel
theorem dX6_readFrom_93 : decode cX6_readFrom 93 = .ok (.aload_n 0, 1) := by decide +kernel
theorem dX6_readFrom_94 : decode cX6_readFrom 94 = .ok (.invokevirtual 28, 3) := by decide +kernel
theorem dX6_readFrom_97 : decode cX6_readFrom 97 = .ok (.aload_n 0, 1) := by decide +kernel
theorem dX6_readFrom_98 : decode cX6_readFrom 98 = .ok (.iconst 0, 1) := by decide +kernel
theorem dX6_readFrom_99 : decode cX6_readFrom 99 = .ok (.invokevirtual 63, 3) := by decide +kernel
theorem dX6_readFrom_102 : decode cX6_readFrom 102 = .ok (.aload_n 0, 1) := by decide +kernel
theorem dX6_readFrom_103 : decode cX6_readFrom 103 = .ok (.invokevirtual 31, 3) := by decide +kernel
theorem dX6_readFrom_106 : decode cX6_readFrom 106 = .ok (.iconst (-1), 1) := by decide +kernel
theorem dX6_readFrom_107 : decode cX6_readFrom 107 = .ok (.ireturn, 1) := by decide +kernel
theorem dX6_adoptDraft_0 : decode cX6_adoptDraft 0 = .ok (.aload_n 0, 1) := by decide +kernel
theorem dX6_adoptDraft_1 : decode cX6_adoptDraft 1 = .ok (.getfield 15, 3) := by decide +kernel
theorem dX6_adoptDraft_4 : decode cX6_adoptDraft 4 = .ok (.iconst 0, 1) := by decide +kernel
theorem dX6_adoptDraft_5 : decode cX6_adoptDraft 5 = .ok (.aload_n 0, 1) := by decide +kernel
theorem dX6_adoptDraft_6 : decode cX6_adoptDraft 6 = .ok (.getfield 11, 3) := by decide +kernel
theorem dX6_adoptDraft_9 : decode cX6_adoptDraft 9 = .ok (.iconst 0, 1) := by decide +kernel
theorem dX6_adoptDraft_10 : decode cX6_adoptDraft 10 = .ok (.bipush 40, 2) := by decide +kernel
theorem dX6_adoptDraft_12 : decode cX6_adoptDraft 12 = .ok (.invokestatic 67, 3) := by decide +kernel
theorem dX6_adoptDraft_15 : decode cX6_adoptDraft 15 = .ok (.aload_n 0, 1) := by decide +kernel
theorem dX6_adoptDraft_16 : decode cX6_adoptDraft 16 = .ok (.aload_n 0, 1) := by decide +kernel
theorem dX6_adoptDraft_17 : decode cX6_adoptDraft 17 = .ok (.getfield 73, 3) := by decide +kernel
theorem dX6_adoptDraft_20 : decode cX6_adoptDraft 20 = .ok (.putfield 76, 3) := by decide +kernel
theorem dX6_adoptDraft_23 : decode cX6_adoptDraft 23 = .ok (.return_, 1) := by decide +kernel
theorem dX6_startReading_0 : decode cX6_startReading 0 = .ok (.aload_n 0, 1) := by decide +kernel
theorem dX6_startReading_1 : decode cX6_startReading 1 = .ok (.iconst 0, 1) := by decide +kernel
theorem dX6_startReading_2 : decode cX6_startReading 2 = .ok (.putfield 73, 3) := by decide +kernel
theorem dX6_startReading_5 : decode cX6_startReading 5 = .ok (.aload_n 0, 1) := by decide +kernel
theorem dX6_startReading_6 : decode cX6_startReading 6 = .ok (.iconst 0, 1) := by decide +kernel
theorem dX6_startReading_7 : decode cX6_startReading 7 = .ok (.putfield 79, 3) := by decide +kernel
theorem dX6_startReading_10 : decode cX6_startReading 10 = .ok (.aload_n 0, 1) := by decide +kernel
theorem dX6_startReading_11 : decode cX6_startReading 11 = .ok (.iconst 0, 1) := by decide +kernel
theorem dX6_startReading_12 : decode cX6_startReading 12 = .ok (.putfield 60, 3) := by decide +kernel
theorem dX6_startReading_15 : decode cX6_startReading 15 = .ok (.aload_n 0, 1) := by decide +kernel
theorem dX6_startReading_16 : decode cX6_startReading 16 = .ok (.iconst 0, 1) := by decide +kernel
theorem dX6_startReading_17 : decode cX6_startReading 17 = .ok (.putfield 82, 3) := by decide +kernel
theorem dX6_startReading_20 : decode cX6_startReading 20 = .ok (.aload_n 0, 1) := by decide +kernel
theorem dX6_startReading_21 : decode cX6_startReading 21 = .ok (.iconst 1, 1) := by decide +kernel
theorem dX6_startReading_22 : decode cX6_startReading 22 = .ok (.putfield 49, 3) := by decide +kernel
theorem dX6_startReading_25 : decode cX6_startReading 25 = .ok (.aload_n 0, 1) := by decide +kernel
theorem dX6_startReading_26 : decode cX6_startReading 26 = .ok (.getfield 24, 3) := by decide +kernel
theorem dX6_startReading_29 : decode cX6_startReading 29 = .ok (.iconst 0, 1) := by decide +kernel
theorem dX6_startReading_30 : decode cX6_startReading 30 = .ok (.iconst 0, 1) := by decide +kernel
theorem dX6_startReading_31 : decode cX6_startReading 31 = .ok (.bastore, 1) := by decide +kernel
theorem dX6_startReading_32 : decode cX6_startReading 32 = .ok (.return_, 1) := by decide +kernel
theorem dX6_draftNone_0 : decode cX6_draftNone 0 = .ok (.aload_n 0, 1) := by decide +kernel
theorem dX6_draftNone_1 : decode cX6_draftNone 1 = .ok (.sipush 1000, 3) := by decide +kernel
theorem dX6_draftNone_4 : decode cX6_draftNone 4 = .ok (.ldc 85, 2) := by decide +kernel
theorem dX6_draftNone_6 : decode cX6_draftNone 6 = .ok (.bipush 104, 2) := by decide +kernel
theorem dX6_draftNone_8 : decode cX6_draftNone 8 = .ok (.invokevirtual 87, 3) := by decide +kernel
theorem dX6_draftNone_11 : decode cX6_draftNone 11 = .ok (.iadd, 1) := by decide +kernel
theorem dX6_draftNone_12 : decode cX6_draftNone 12 = .ok (.invokevirtual 93, 3) := by decide +kernel
theorem dX6_draftNone_15 : decode cX6_draftNone 15 = .ok (.aload_n 0, 1) := by decide +kernel
theorem dX6_draftNone_16 : decode cX6_draftNone 16 = .ok (.sipush 1000, 3) := by decide +kernel
theorem dX6_draftNone_19 : decode cX6_draftNone 19 = .ok (.ldc 85, 2) := by decide +kernel
theorem dX6_draftNone_21 : decode cX6_draftNone 21 = .ok (.bipush 116, 2) := by decide +kernel
theorem dX6_draftNone_23 : decode cX6_draftNone 23 = .ok (.invokevirtual 87, 3) := by decide +kernel
theorem dX6_draftNone_26 : decode cX6_draftNone 26 = .ok (.iadd, 1) := by decide +kernel
theorem dX6_draftNone_27 : decode cX6_draftNone 27 = .ok (.invokevirtual 93, 3) := by decide +kernel
theorem dX6_draftNone_30 : decode cX6_draftNone 30 = .ok (.aload_n 0, 1) := by decide +kernel
theorem dX6_draftNone_31 : decode cX6_draftNone 31 = .ok (.sipush 2042, 3) := by decide +kernel
theorem dX6_draftNone_34 : decode cX6_draftNone 34 = .ok (.invokevirtual 93, 3) := by decide +kernel
theorem dX6_draftNone_37 : decode cX6_draftNone 37 = .ok (.return_, 1) := by decide +kernel
theorem dX6_emit_0 : decode cX6_emit 0 = .ok (.aload_n 0, 1) := by decide +kernel
theorem dX6_emit_1 : decode cX6_emit 1 = .ok (.getfield 73, 3) := by decide +kernel
theorem dX6_emit_4 : decode cX6_emit 4 = .ok (.bipush 40, 2) := by decide +kernel
theorem dX6_emit_6 : decode cX6_emit 6 = .ok (.if_icmp .ge 20, 3) := by decide +kernel
theorem dX6_emit_9 : decode cX6_emit 9 = .ok (.aload_n 0, 1) := by decide +kernel
theorem dX6_emit_10 : decode cX6_emit 10 = .ok (.getfield 15, 3) := by decide +kernel
theorem dX6_emit_13 : decode cX6_emit 13 = .ok (.aload_n 0, 1) := by decide +kernel
theorem dX6_emit_14 : decode cX6_emit 14 = .ok (.dup, 1) := by decide +kernel
theorem dX6_emit_15 : decode cX6_emit 15 = .ok (.getfield 73, 3) := by decide +kernel
theorem dX6_emit_18 : decode cX6_emit 18 = .ok (.dup_x1, 1) := by decide +kernel
theorem dX6_emit_19 : decode cX6_emit 19 = .ok (.iconst 1, 1) := by decide +kernel
theorem dX6_emit_20 : decode cX6_emit 20 = .ok (.iadd, 1) := by decide +kernel
theorem dX6_emit_21 : decode cX6_emit 21 = .ok (.putfield 73, 3) := by decide +kernel
theorem dX6_emit_24 : decode cX6_emit 24 = .ok (.iload_n 1, 1) := by decide +kernel
theorem dX6_emit_25 : decode cX6_emit 25 = .ok (.iastore, 1) := by decide +kernel
theorem dX6_emit_26 : decode cX6_emit 26 = .ok (.return_, 1) := by decide +kernel
theorem dX6_postpone_0 : decode cX6_postpone 0 = .ok (.aload_n 0, 1) := by decide +kernel
theorem dX6_postpone_1 : decode cX6_postpone 1 = .ok (.getfield 79, 3) := by decide +kernel
theorem dX6_postpone_4 : decode cX6_postpone 4 = .ok (.bipush 40, 2) := by decide +kernel
theorem dX6_postpone_6 : decode cX6_postpone 6 = .ok (.if_icmp .ge 20, 3) := by decide +kernel
theorem dX6_postpone_9 : decode cX6_postpone 9 = .ok (.aload_n 0, 1) := by decide +kernel
theorem dX6_postpone_10 : decode cX6_postpone 10 = .ok (.getfield 18, 3) := by decide +kernel
theorem dX6_postpone_13 : decode cX6_postpone 13 = .ok (.aload_n 0, 1) := by decide +kernel
theorem dX6_postpone_14 : decode cX6_postpone 14 = .ok (.dup, 1) := by decide +kernel
theorem dX6_postpone_15 : decode cX6_postpone 15 = .ok (.getfield 79, 3) := by decide +kernel
theorem dX6_postpone_18 : decode cX6_postpone 18 = .ok (.dup_x1, 1) := by decide +kernel
theorem dX6_postpone_19 : decode cX6_postpone 19 = .ok (.iconst 1, 1) := by decide +kernel
theorem dX6_postpone_20 : decode cX6_postpone 20 = .ok (.iadd, 1) := by decide +kernel
theorem dX6_postpone_21 : decode cX6_postpone 21 = .ok (.putfield 79, 3) := by decide +kernel
theorem dX6_postpone_24 : decode cX6_postpone 24 = .ok (.iload_n 1, 1) := by decide +kernel
theorem dX6_postpone_25 : decode cX6_postpone 25 = .ok (.iastore, 1) := by decide +kernel
theorem dX6_postpone_26 : decode cX6_postpone 26 = .ok (.return_, 1) := by decide +kernel
theorem dX6_readThing_0 : decode cX6_readThing 0 = .ok (.aload_n 1, 1) := by decide +kernel
theorem dX6_readThing_1 : decode cX6_readThing 1 = .ok (.iload_n 2, 1) := by decide +kernel
theorem dX6_readThing_2 : decode cX6_readThing 2 = .ok (.ldc 96, 2) := by decide +kernel
theorem dX6_readThing_4 : decode cX6_readThing 4 = .ok (.invokevirtual 98, 3) := by decide +kernel
theorem dX6_readThing_7 : decode cX6_readThing 7 = .ok (.ifCond .eq 12, 3) := by decide +kernel
theorem dX6_readThing_10 : decode cX6_readThing 10 = .ok (.aload_n 0, 1) := by decide +kernel
theorem dX6_readThing_11 : decode cX6_readThing 11 = .ok (.sipush 3000, 3) := by decide +kernel
theorem dX6_readThing_14 : decode cX6_readThing 14 = .ok (.invokevirtual 102, 3) := by decide +kernel
theorem dX6_readThing_17 : decode cX6_readThing 17 = .ok (.iconst 1, 1) := by decide +kernel
theorem dX6_readThing_18 : decode cX6_readThing 18 = .ok (.ireturn, 1) := by decide +kernel
theorem dX6_readThing_19 : decode cX6_readThing 19 = .ok (.aload_n 1, 1) := by decide +kernel
theorem dX6_readThing_20 : decode cX6_readThing 20 = .ok (.iload_n 2, 1) := by decide +kernel
theorem dX6_readThing_21 : decode cX6_readThing 21 = .ok (.ldc 105, 2) := by decide +kernel
theorem dX6_readThing_23 : decode cX6_readThing 23 = .ok (.invokevirtual 98, 3) := by decide +kernel
theorem dX6_readThing_26 : decode cX6_readThing 26 = .ok (.ifCond .eq 40, 3) := by decide +kernel
theorem dX6_readThing_29 : decode cX6_readThing 29 = .ok (.aload_n 0, 1) := by decide +kernel
theorem dX6_readThing_30 : decode cX6_readThing 30 = .ok (.getfield 60, 3) := by decide +kernel
theorem dX6_readThing_33 : decode cX6_readThing 33 = .ok (.iconst 4, 1) := by decide +kernel
theorem dX6_readThing_34 : decode cX6_readThing 34 = .ok (.if_icmp .ge 32, 3) := by decide +kernel
theorem dX6_readThing_37 : decode cX6_readThing 37 = .ok (.aload_n 0, 1) := by decide +kernel
theorem dX6_readThing_38 : decode cX6_readThing 38 = .ok (.sipush 4000, 3) := by decide +kernel
theorem dX6_readThing_41 : decode cX6_readThing 41 = .ok (.invokevirtual 102, 3) := by decide +kernel
theorem dX6_readThing_44 : decode cX6_readThing 44 = .ok (.aload_n 0, 1) := by decide +kernel
theorem dX6_readThing_45 : decode cX6_readThing 45 = .ok (.dup, 1) := by decide +kernel
theorem dX6_readThing_46 : decode cX6_readThing 46 = .ok (.getfield 60, 3) := by decide +kernel
theorem dX6_readThing_49 : decode cX6_readThing 49 = .ok (.iconst 1, 1) := by decide +kernel
theorem dX6_readThing_50 : decode cX6_readThing 50 = .ok (.iadd, 1) := by decide +kernel
theorem dX6_readThing_51 : decode cX6_readThing 51 = .ok (.putfield 60, 3) := by decide +kernel
theorem dX6_readThing_54 : decode cX6_readThing 54 = .ok (.aload_n 0, 1) := by decide +kernel
theorem dX6_readThing_55 : decode cX6_readThing 55 = .ok (.getfield 24, 3) := by decide +kernel
theorem dX6_readThing_58 : decode cX6_readThing 58 = .ok (.aload_n 0, 1) := by decide +kernel
theorem dX6_readThing_59 : decode cX6_readThing 59 = .ok (.getfield 60, 3) := by decide +kernel
theorem dX6_readThing_62 : decode cX6_readThing 62 = .ok (.iconst 0, 1) := by decide +kernel
theorem dX6_readThing_63 : decode cX6_readThing 63 = .ok (.bastore, 1) := by decide +kernel
theorem dX6_readThing_64 : decode cX6_readThing 64 = .ok (.iconst 1, 1) := by decide +kernel
theorem dX6_readThing_65 : decode cX6_readThing 65 = .ok (.ireturn, 1) := by decide +kernel
theorem dX6_readThing_66 : decode cX6_readThing 66 = .ok (.aload_n 1, 1) := by decide +kernel
theorem dX6_readThing_67 : decode cX6_readThing 67 = .ok (.iload_n 2, 1) := by decide +kernel
theorem dX6_readThing_68 : decode cX6_readThing 68 = .ok (.invokevirtual 107, 3) := by decide +kernel
theorem dX6_readThing_71 : decode cX6_readThing 71 = .ok (.ifCond .eq 24, 3) := by decide +kernel
theorem dX6_readThing_74 : decode cX6_readThing 74 = .ok (.aload_n 0, 1) := by decide +kernel
theorem dX6_readThing_75 : decode cX6_readThing 75 = .ok (.aload_n 1, 1) := by decide +kernel
theorem dX6_readThing_76 : decode cX6_readThing 76 = .ok (.getfield 111, 3) := by decide +kernel
theorem dX6_readThing_79 : decode cX6_readThing 79 = .ok (.iload_n 2, 1) := by decide +kernel
theorem dX6_readThing_80 : decode cX6_readThing 80 = .ok (.iaload, 1) := by decide +kernel
theorem dX6_readThing_81 : decode cX6_readThing 81 = .ok (.bipush 48, 2) := by decide +kernel
theorem dX6_readThing_83 : decode cX6_readThing 83 = .ok (.isub, 1) := by decide +kernel
theorem dX6_readThing_84 : decode cX6_readThing 84 = .ok (.invokevirtual 93, 3) := by decide +kernel
theorem dX6_readThing_87 : decode cX6_readThing 87 = .ok (.aload_n 0, 1) := by decide +kernel
theorem dX6_readThing_88 : decode cX6_readThing 88 = .ok (.iconst 1, 1) := by decide +kernel
theorem dX6_readThing_89 : decode cX6_readThing 89 = .ok (.putfield 82, 3) := by decide +kernel
theorem dX6_readThing_92 : decode cX6_readThing 92 = .ok (.goto 43, 3) := by decide +kernel
theorem dX6_readThing_95 : decode cX6_readThing 95 = .ok (.aload_n 1, 1) := by decide +kernel
theorem dX6_readThing_96 : decode cX6_readThing 96 = .ok (.iload_n 2, 1) := by decide +kernel
theorem dX6_readThing_97 : decode cX6_readThing 97 = .ok (.ldc 85, 2) := by decide +kernel
theorem dX6_readThing_99 : decode cX6_readThing 99 = .ok (.invokevirtual 98, 3) := by decide +kernel
theorem dX6_readThing_102 : decode cX6_readThing 102 = .ok (.ifCond .eq 31, 3) := by decide +kernel
theorem dX6_readThing_105 : decode cX6_readThing 105 = .ok (.aload_n 0, 1) := by decide +kernel
theorem dX6_readThing_106 : decode cX6_readThing 106 = .ok (.sipush 1000, 3) := by decide +kernel
theorem dX6_readThing_109 : decode cX6_readThing 109 = .ok (.ldc 85, 2) := by decide +kernel
theorem dX6_readThing_111 : decode cX6_readThing 111 = .ok (.aload_n 1, 1) := by decide +kernel
theorem dX6_readThing_112 : decode cX6_readThing 112 = .ok (.getfield 111, 3) := by decide +kernel
theorem dX6_readThing_115 : decode cX6_readThing 115 = .ok (.iload_n 2, 1) := by decide +kernel
theorem dX6_readThing_116 : decode cX6_readThing 116 = .ok (.iaload, 1) := by decide +kernel
theorem dX6_readThing_117 : decode cX6_readThing 117 = .ok (.i2c, 1) := by decide +kernel
theorem dX6_readThing_118 : decode cX6_readThing 118 = .ok (.invokevirtual 87, 3) := by decide +kernel
theorem dX6_readThing_121 : decode cX6_readThing 121 = .ok (.iadd, 1) := by decide +kernel
theorem dX6_readThing_122 : decode cX6_readThing 122 = .ok (.invokevirtual 93, 3) := by decide +kernel
theorem dX6_readThing_125 : decode cX6_readThing 125 = .ok (.aload_n 0, 1) := by decide +kernel
theorem dX6_readThing_126 : decode cX6_readThing 126 = .ok (.iconst 0, 1) := by decide +kernel
theorem dX6_readThing_127 : decode cX6_readThing 127 = .ok (.putfield 82, 3) := by decide +kernel
theorem dX6_readThing_130 : decode cX6_readThing 130 = .ok (.goto 5, 3) := by decide +kernel
theorem dX6_readThing_133 : decode cX6_readThing 133 = .ok (.iconst 0, 1) := by decide +kernel
theorem dX6_readThing_134 : decode cX6_readThing 134 = .ok (.ireturn, 1) := by decide +kernel
theorem dX6_readThing_135 : decode cX6_readThing 135 = .ok (.aload_n 0, 1) := by decide +kernel
theorem dX6_readThing_136 : decode cX6_readThing 136 = .ok (.iconst 0, 1) := by decide +kernel
theorem dX6_readThing_137 : decode cX6_readThing 137 = .ok (.putfield 49, 3) := by decide +kernel
theorem dX6_readThing_140 : decode cX6_readThing 140 = .ok (.iconst 1, 1) := by decide +kernel
theorem dX6_readThing_141 : decode cX6_readThing 141 = .ok (.ireturn, 1) := by decide +kernel
theorem dX6_readBehindThing_0 : decode cX6_readBehindThing 0 = .ok (.aload_n 1, 1) := by decide +kernel
theorem dX6_readBehindThing_1 : decode cX6_readBehindThing 1 = .ok (.iload_n 2, 1) := by decide +kernel
theorem dX6_readBehindThing_2 : decode cX6_readBehindThing 2 = .ok (.invokevirtual 107, 3) := by decide +kernel
theorem dX6_readBehindThing_5 : decode cX6_readBehindThing 5 = .ok (.ifCond .eq 72, 3) := by decide +kernel
theorem dX6_readBehindThing_8 : decode cX6_readBehindThing 8 = .ok (.aload_n 0, 1) := by decide +kernel
theorem dX6_readBehindThing_9 : decode cX6_readBehindThing 9 = .ok (.getfield 82, 3) := by decide +kernel
theorem dX6_readBehindThing_12 : decode cX6_readBehindThing 12 = .ok (.ifCond .le 65, 3) := by decide +kernel
theorem dX6_readBehindThing_15 : decode cX6_readBehindThing 15 = .ok (.aload_n 0, 1) := by decide +kernel
theorem dX6_readBehindThing_16 : decode cX6_readBehindThing 16 = .ok (.getfield 82, 3) := by decide +kernel
theorem dX6_readBehindThing_19 : decode cX6_readBehindThing 19 = .ok (.iconst 3, 1) := by decide +kernel
theorem dX6_readBehindThing_20 : decode cX6_readBehindThing 20 = .ok (.if_icmp .ge 57, 3) := by decide +kernel
theorem dX6_readBehindThing_23 : decode cX6_readBehindThing 23 = .ok (.aload_n 0, 1) := by decide +kernel
theorem dX6_readBehindThing_24 : decode cX6_readBehindThing 24 = .ok (.getfield 73, 3) := by decide +kernel
theorem dX6_readBehindThing_27 : decode cX6_readBehindThing 27 = .ok (.ifCond .le 50, 3) := by decide +kernel
theorem dX6_readBehindThing_30 : decode cX6_readBehindThing 30 = .ok (.aload_n 0, 1) := by decide +kernel
theorem dX6_readBehindThing_31 : decode cX6_readBehindThing 31 = .ok (.getfield 15, 3) := by decide +kernel
theorem dX6_readBehindThing_34 : decode cX6_readBehindThing 34 = .ok (.aload_n 0, 1) := by decide +kernel
theorem dX6_readBehindThing_35 : decode cX6_readBehindThing 35 = .ok (.getfield 73, 3) := by decide +kernel
theorem dX6_readBehindThing_38 : decode cX6_readBehindThing 38 = .ok (.iconst 1, 1) := by decide +kernel
theorem dX6_readBehindThing_39 : decode cX6_readBehindThing 39 = .ok (.isub, 1) := by decide +kernel
theorem dX6_readBehindThing_40 : decode cX6_readBehindThing 40 = .ok (.bipush 10, 2) := by decide +kernel
theorem dX6_readBehindThing_42 : decode cX6_readBehindThing 42 = .ok (.aload_n 0, 1) := by decide +kernel
theorem dX6_readBehindThing_43 : decode cX6_readBehindThing 43 = .ok (.getfield 15, 3) := by decide +kernel
theorem dX6_readBehindThing_46 : decode cX6_readBehindThing 46 = .ok (.aload_n 0, 1) := by decide +kernel
theorem dX6_readBehindThing_47 : decode cX6_readBehindThing 47 = .ok (.getfield 73, 3) := by decide +kernel
theorem dX6_readBehindThing_50 : decode cX6_readBehindThing 50 = .ok (.iconst 1, 1) := by decide +kernel
theorem dX6_readBehindThing_51 : decode cX6_readBehindThing 51 = .ok (.isub, 1) := by decide +kernel
theorem dX6_readBehindThing_52 : decode cX6_readBehindThing 52 = .ok (.iaload, 1) := by decide +kernel
theorem dX6_readBehindThing_53 : decode cX6_readBehindThing 53 = .ok (.imul, 1) := by decide +kernel
theorem dX6_readBehindThing_54 : decode cX6_readBehindThing 54 = .ok (.aload_n 1, 1) := by decide +kernel
theorem dX6_readBehindThing_55 : decode cX6_readBehindThing 55 = .ok (.getfield 111, 3) := by decide +kernel
theorem dX6_readBehindThing_58 : decode cX6_readBehindThing 58 = .ok (.iload_n 2, 1) := by decide +kernel
theorem dX6_readBehindThing_59 : decode cX6_readBehindThing 59 = .ok (.iaload, 1) := by decide +kernel
theorem dX6_readBehindThing_60 : decode cX6_readBehindThing 60 = .ok (.iadd, 1) := by decide +kernel
theorem dX6_readBehindThing_61 : decode cX6_readBehindThing 61 = .ok (.bipush 48, 2) := by decide +kernel
theorem dX6_readBehindThing_63 : decode cX6_readBehindThing 63 = .ok (.isub, 1) := by decide +kernel
theorem dX6_readBehindThing_64 : decode cX6_readBehindThing 64 = .ok (.iastore, 1) := by decide +kernel
theorem dX6_readBehindThing_65 : decode cX6_readBehindThing 65 = .ok (.aload_n 0, 1) := by decide +kernel
theorem dX6_readBehindThing_66 : decode cX6_readBehindThing 66 = .ok (.dup, 1) := by decide +kernel
theorem dX6_readBehindThing_67 : decode cX6_readBehindThing 67 = .ok (.getfield 82, 3) := by decide +kernel
theorem dX6_readBehindThing_70 : decode cX6_readBehindThing 70 = .ok (.iconst 1, 1) := by decide +kernel
theorem dX6_readBehindThing_71 : decode cX6_readBehindThing 71 = .ok (.iadd, 1) := by decide +kernel
theorem dX6_readBehindThing_72 : decode cX6_readBehindThing 72 = .ok (.putfield 82, 3) := by decide +kernel
theorem dX6_readBehindThing_75 : decode cX6_readBehindThing 75 = .ok (.iconst 1, 1) := by decide +kernel
theorem dX6_readBehindThing_76 : decode cX6_readBehindThing 76 = .ok (.ireturn, 1) := by decide +kernel
theorem dX6_readBehindThing_77 : decode cX6_readBehindThing 77 = .ok (.aload_n 0, 1) := by decide +kernel
theorem dX6_readBehindThing_78 : decode cX6_readBehindThing 78 = .ok (.iconst 0, 1) := by decide +kernel
theorem dX6_readBehindThing_79 : decode cX6_readBehindThing 79 = .ok (.putfield 82, 3) := by decide +kernel
theorem dX6_readBehindThing_82 : decode cX6_readBehindThing 82 = .ok (.aload_n 1, 1) := by decide +kernel
theorem dX6_readBehindThing_83 : decode cX6_readBehindThing 83 = .ok (.iload_n 2, 1) := by decide +kernel
theorem dX6_readBehindThing_84 : decode cX6_readBehindThing 84 = .ok (.ldc 114, 2) := by decide +kernel
theorem dX6_readBehindThing_86 : decode cX6_readBehindThing 86 = .ok (.invokevirtual 98, 3) := by decide +kernel
theorem dX6_readBehindThing_89 : decode cX6_readBehindThing 89 = .ok (.ifCond .eq 37, 3) := by decide +kernel
theorem dX6_readBehindThing_92 : decode cX6_readBehindThing 92 = .ok (.aload_n 0, 1) := by decide +kernel
theorem dX6_readBehindThing_93 : decode cX6_readBehindThing 93 = .ok (.getfield 60, 3) := by decide +kernel
theorem dX6_readBehindThing_96 : decode cX6_readBehindThing 96 = .ok (.ifCond .le 30, 3) := by decide +kernel
theorem dX6_readBehindThing_99 : decode cX6_readBehindThing 99 = .ok (.aload_n 0, 1) := by decide +kernel
theorem dX6_readBehindThing_100 : decode cX6_readBehindThing 100 = .ok (.iconst 0, 1) := by decide +kernel
theorem dX6_readBehindThing_101 : decode cX6_readBehindThing 101 = .ok (.invokevirtual 63, 3) := by decide +kernel
theorem dX6_readBehindThing_104 : decode cX6_readBehindThing 104 = .ok (.aload_n 0, 1) := by decide +kernel
theorem dX6_readBehindThing_105 : decode cX6_readBehindThing 105 = .ok (.dup, 1) := by decide +kernel
theorem dX6_readBehindThing_106 : decode cX6_readBehindThing 106 = .ok (.getfield 79, 3) := by decide +kernel
theorem dX6_readBehindThing_109 : decode cX6_readBehindThing 109 = .ok (.iconst 1, 1) := by decide +kernel
theorem dX6_readBehindThing_110 : decode cX6_readBehindThing 110 = .ok (.isub, 1) := by decide +kernel
theorem dX6_readBehindThing_111 : decode cX6_readBehindThing 111 = .ok (.putfield 79, 3) := by decide +kernel
theorem dX6_readBehindThing_114 : decode cX6_readBehindThing 114 = .ok (.aload_n 0, 1) := by decide +kernel
theorem dX6_readBehindThing_115 : decode cX6_readBehindThing 115 = .ok (.dup, 1) := by decide +kernel
theorem dX6_readBehindThing_116 : decode cX6_readBehindThing 116 = .ok (.getfield 60, 3) := by decide +kernel
theorem dX6_readBehindThing_119 : decode cX6_readBehindThing 119 = .ok (.iconst 1, 1) := by decide +kernel
theorem dX6_readBehindThing_120 : decode cX6_readBehindThing 120 = .ok (.isub, 1) := by decide +kernel
theorem dX6_readBehindThing_121 : decode cX6_readBehindThing 121 = .ok (.putfield 60, 3) := by decide +kernel
theorem dX6_readBehindThing_124 : decode cX6_readBehindThing 124 = .ok (.iconst 1, 1) := by decide +kernel
theorem dX6_readBehindThing_125 : decode cX6_readBehindThing 125 = .ok (.ireturn, 1) := by decide +kernel
theorem dX6_readBehindThing_126 : decode cX6_readBehindThing 126 = .ok (.aload_n 1, 1) := by decide +kernel
theorem dX6_readBehindThing_127 : decode cX6_readBehindThing 127 = .ok (.iload_n 2, 1) := by decide +kernel
theorem dX6_readBehindThing_128 : decode cX6_readBehindThing 128 = .ok (.ldc 116, 2) := by decide +kernel
theorem dX6_readBehindThing_130 : decode cX6_readBehindThing 130 = .ok (.invokevirtual 98, 3) := by decide +kernel
theorem dX6_readBehindThing_133 : decode cX6_readBehindThing 133 = .ok (.ifCond .eq 20, 3) := by decide +kernel
theorem dX6_readBehindThing_136 : decode cX6_readBehindThing 136 = .ok (.aload_n 0, 1) := by decide +kernel
theorem dX6_readBehindThing_137 : decode cX6_readBehindThing 137 = .ok (.aload_n 1, 1) := by decide +kernel
theorem dX6_readBehindThing_138 : decode cX6_readBehindThing 138 = .ok (.getfield 111, 3) := by decide +kernel
theorem dX6_readBehindThing_141 : decode cX6_readBehindThing 141 = .ok (.iload_n 2, 1) := by decide +kernel
theorem dX6_readBehindThing_142 : decode cX6_readBehindThing 142 = .ok (.iaload, 1) := by decide +kernel
theorem dX6_readBehindThing_143 : decode cX6_readBehindThing 143 = .ok (.invokevirtual 118, 3) := by decide +kernel
theorem dX6_readBehindThing_146 : decode cX6_readBehindThing 146 = .ok (.ifCond .eq 7, 3) := by decide +kernel
theorem dX6_readBehindThing_149 : decode cX6_readBehindThing 149 = .ok (.iconst 1, 1) := by decide +kernel
theorem dX6_readBehindThing_150 : decode cX6_readBehindThing 150 = .ok (.goto 4, 3) := by decide +kernel
theorem dX6_readBehindThing_153 : decode cX6_readBehindThing 153 = .ok (.iconst 0, 1) := by decide +kernel
theorem dX6_readBehindThing_154 : decode cX6_readBehindThing 154 = .ok (.ireturn, 1) := by decide +kernel
theorem dX6_readOperator_0 : decode cX6_readOperator 0 = .ok (.sipush 2000, 3) := by decide +kernel
theorem dX6_readOperator_3 : decode cX6_readOperator 3 = .ok (.iload_n 1, 1) := by decide +kernel
theorem dX6_readOperator_4 : decode cX6_readOperator 4 = .ok (.iadd, 1) := by decide +kernel
theorem dX6_readOperator_5 : decode cX6_readOperator 5 = .ok (.invokestatic 121, 3) := by decide +kernel
theorem dX6_readOperator_8 : decode cX6_readOperator 8 = .ok (.istore_n 2, 1) := by decide +kernel
theorem dX6_readOperator_9 : decode cX6_readOperator 9 = .ok (.iload_n 2, 1) := by decide +kernel
theorem dX6_readOperator_10 : decode cX6_readOperator 10 = .ok (.iconst 1, 1) := by decide +kernel
theorem dX6_readOperator_11 : decode cX6_readOperator 11 = .ok (.if_icmp .ne 27, 3) := by decide +kernel
theorem dX6_readOperator_14 : decode cX6_readOperator 14 = .ok (.aload_n 0, 1) := by decide +kernel
theorem dX6_readOperator_15 : decode cX6_readOperator 15 = .ok (.getfield 24, 3) := by decide +kernel
theorem dX6_readOperator_18 : decode cX6_readOperator 18 = .ok (.aload_n 0, 1) := by decide +kernel
theorem dX6_readOperator_19 : decode cX6_readOperator 19 = .ok (.getfield 60, 3) := by decide +kernel
theorem dX6_readOperator_22 : decode cX6_readOperator 22 = .ok (.baload, 1) := by decide +kernel
theorem dX6_readOperator_23 : decode cX6_readOperator 23 = .ok (.ifCond .eq 5, 3) := by decide +kernel
theorem dX6_readOperator_26 : decode cX6_readOperator 26 = .ok (.iconst 0, 1) := by decide +kernel
theorem dX6_readOperator_27 : decode cX6_readOperator 27 = .ok (.ireturn, 1) := by decide +kernel
theorem dX6_readOperator_28 : decode cX6_readOperator 28 = .ok (.aload_n 0, 1) := by decide +kernel
theorem dX6_readOperator_29 : decode cX6_readOperator 29 = .ok (.getfield 24, 3) := by decide +kernel
theorem dX6_readOperator_32 : decode cX6_readOperator 32 = .ok (.aload_n 0, 1) := by decide +kernel
theorem dX6_readOperator_33 : decode cX6_readOperator 33 = .ok (.getfield 60, 3) := by decide +kernel
theorem dX6_readOperator_36 : decode cX6_readOperator 36 = .ok (.iconst 1, 1) := by decide +kernel
theorem dX6_readOperator_37 : decode cX6_readOperator 37 = .ok (.bastore, 1) := by decide +kernel
theorem dX6_readOperator_38 : decode cX6_readOperator 38 = .ok (.aload_n 0, 1) := by decide +kernel
theorem dX6_readOperator_39 : decode cX6_readOperator 39 = .ok (.iload_n 2, 1) := by decide +kernel
theorem dX6_readOperator_40 : decode cX6_readOperator 40 = .ok (.invokevirtual 63, 3) := by decide +kernel
theorem dX6_readOperator_43 : decode cX6_readOperator 43 = .ok (.aload_n 0, 1) := by decide +kernel
theorem dX6_readOperator_44 : decode cX6_readOperator 44 = .ok (.sipush 2000, 3) := by decide +kernel
theorem dX6_readOperator_47 : decode cX6_readOperator 47 = .ok (.iload_n 1, 1) := by decide +kernel
theorem dX6_readOperator_48 : decode cX6_readOperator 48 = .ok (.iadd, 1) := by decide +kernel
theorem dX6_readOperator_49 : decode cX6_readOperator 49 = .ok (.invokevirtual 102, 3) := by decide +kernel
theorem dX6_readOperator_52 : decode cX6_readOperator 52 = .ok (.aload_n 0, 1) := by decide +kernel
theorem dX6_readOperator_53 : decode cX6_readOperator 53 = .ok (.iconst 1, 1) := by decide +kernel
theorem dX6_readOperator_54 : decode cX6_readOperator 54 = .ok (.putfield 49, 3) := by decide +kernel
theorem dX6_readOperator_57 : decode cX6_readOperator 57 = .ok (.iconst 1, 1) := by decide +kernel
theorem dX6_readOperator_58 : decode cX6_readOperator 58 = .ok (.ireturn, 1) := by decide +kernel
theorem dX6_bindingOf_0 : decode cX6_bindingOf 0 = .ok (.iload_n 0, 1) := by decide +kernel
theorem dX6_bindingOf_1 : decode cX6_bindingOf 1 = .ok (.sipush 2000, 3) := by decide +kernel
theorem dX6_bindingOf_4 : decode cX6_bindingOf 4 = .ok (.isub, 1) := by decide +kernel
theorem dX6_bindingOf_5 : decode cX6_bindingOf 5 = .ok (.tableswitch 105 42 62 #[103, 101, 105, 101, 105, 103, 105, 105, 105, 105, 105, 105, 105, 105, 105, 105, 105, 105, 99, 99, 99], 99) := by decide +kernel
theorem dX6_bindingOf_104 : decode cX6_bindingOf 104 = .ok (.iconst 1, 1) := by decide +kernel
theorem dX6_bindingOf_105 : decode cX6_bindingOf 105 = .ok (.ireturn, 1) := by decide +kernel
theorem dX6_bindingOf_106 : decode cX6_bindingOf 106 = .ok (.iconst 2, 1) := by decide +kernel
theorem dX6_bindingOf_107 : decode cX6_bindingOf 107 = .ok (.ireturn, 1) := by decide +kernel
theorem dX6_bindingOf_108 : decode cX6_bindingOf 108 = .ok (.iconst 3, 1) := by decide +kernel
theorem dX6_bindingOf_109 : decode cX6_bindingOf 109 = .ok (.ireturn, 1) := by decide +kernel
theorem dX6_bindingOf_110 : decode cX6_bindingOf 110 = .ok (.iconst 4, 1) := by decide +kernel
theorem dX6_bindingOf_111 : decode cX6_bindingOf 111 = .ok (.ireturn, 1) := by decide +kernel
theorem dX6_releaseDownTo_0 : decode cX6_releaseDownTo 0 = .ok (.aload_n 0, 1) := by decide +kernel
theorem dX6_releaseDownTo_1 : decode cX6_releaseDownTo 1 = .ok (.getfield 79, 3) := by decide +kernel
theorem dX6_releaseDownTo_4 : decode cX6_releaseDownTo 4 = .ok (.iconst 1, 1) := by decide +kernel
theorem dX6_releaseDownTo_5 : decode cX6_releaseDownTo 5 = .ok (.isub, 1) := by decide +kernel
theorem dX6_releaseDownTo_6 : decode cX6_releaseDownTo 6 = .ok (.istore_n 2, 1) := by decide +kernel
theorem dX6_releaseDownTo_7 : decode cX6_releaseDownTo 7 = .ok (.iload_n 2, 1) := by decide +kernel
theorem dX6_releaseDownTo_8 : decode cX6_releaseDownTo 8 = .ok (.ifCond .lt 50, 3) := by decide +kernel
theorem dX6_releaseDownTo_11 : decode cX6_releaseDownTo 11 = .ok (.aload_n 0, 1) := by decide +kernel
theorem dX6_releaseDownTo_12 : decode cX6_releaseDownTo 12 = .ok (.getfield 18, 3) := by decide +kernel
theorem dX6_releaseDownTo_15 : decode cX6_releaseDownTo 15 = .ok (.iload_n 2, 1) := by decide +kernel
theorem dX6_releaseDownTo_16 : decode cX6_releaseDownTo 16 = .ok (.iaload, 1) := by decide +kernel
theorem dX6_releaseDownTo_17 : decode cX6_releaseDownTo 17 = .ok (.sipush 4000, 3) := by decide +kernel
theorem dX6_releaseDownTo_20 : decode cX6_releaseDownTo 20 = .ok (.if_icmp .eq 16, 3) := by decide +kernel
theorem dX6_releaseDownTo_23 : decode cX6_releaseDownTo 23 = .ok (.aload_n 0, 1) := by decide +kernel
theorem dX6_releaseDownTo_24 : decode cX6_releaseDownTo 24 = .ok (.getfield 18, 3) := by decide +kernel
theorem dX6_releaseDownTo_27 : decode cX6_releaseDownTo 27 = .ok (.iload_n 2, 1) := by decide +kernel
theorem dX6_releaseDownTo_28 : decode cX6_releaseDownTo 28 = .ok (.iaload, 1) := by decide +kernel
theorem dX6_releaseDownTo_29 : decode cX6_releaseDownTo 29 = .ok (.invokestatic 121, 3) := by decide +kernel
theorem dX6_releaseDownTo_32 : decode cX6_releaseDownTo 32 = .ok (.iload_n 1, 1) := by decide +kernel
theorem dX6_releaseDownTo_33 : decode cX6_releaseDownTo 33 = .ok (.if_icmp .ge 4, 3) := by decide +kernel
theorem dX6_releaseDownTo_36 : decode cX6_releaseDownTo 36 = .ok (.return_, 1) := by decide +kernel
theorem dX6_releaseDownTo_37 : decode cX6_releaseDownTo 37 = .ok (.aload_n 0, 1) := by decide +kernel
theorem dX6_releaseDownTo_38 : decode cX6_releaseDownTo 38 = .ok (.aload_n 0, 1) := by decide +kernel
theorem dX6_releaseDownTo_39 : decode cX6_releaseDownTo 39 = .ok (.getfield 18, 3) := by decide +kernel
theorem dX6_releaseDownTo_42 : decode cX6_releaseDownTo 42 = .ok (.iload_n 2, 1) := by decide +kernel
theorem dX6_releaseDownTo_43 : decode cX6_releaseDownTo 43 = .ok (.iaload, 1) := by decide +kernel
theorem dX6_releaseDownTo_44 : decode cX6_releaseDownTo 44 = .ok (.invokevirtual 93, 3) := by decide +kernel
theorem dX6_releaseDownTo_47 : decode cX6_releaseDownTo 47 = .ok (.aload_n 0, 1) := by decide +kernel
theorem dX6_releaseDownTo_48 : decode cX6_releaseDownTo 48 = .ok (.iload_n 2, 1) := by decide +kernel
theorem dX6_releaseDownTo_49 : decode cX6_releaseDownTo 49 = .ok (.putfield 79, 3) := by decide +kernel
theorem dX6_releaseDownTo_52 : decode cX6_releaseDownTo 52 = .ok (.iinc 2 (-1), 3) := by decide +kernel
theorem dX6_releaseDownTo_55 : decode cX6_releaseDownTo 55 = .ok (.goto (-48), 3) := by decide +kernel
theorem dX6_releaseDownTo_58 : decode cX6_releaseDownTo 58 = .ok (.return_, 1) := by decide +kernel
theorem dX6_valueOf_0 : decode cX6_valueOf 0 = .ok (.iconst 0, 1) := by decide +kernel
theorem dX6_valueOf_1 : decode cX6_valueOf 1 = .ok (.istore_n 2, 1) := by decide +kernel
theorem dX6_valueOf_2 : decode cX6_valueOf 2 = .ok (.iconst 0, 1) := by decide +kernel
theorem dX6_valueOf_3 : decode cX6_valueOf 3 = .ok (.istore_n 3, 1) := by decide +kernel
theorem dX6_valueOf_4 : decode cX6_valueOf 4 = .ok (.iload_n 3, 1) := by decide +kernel
theorem dX6_valueOf_5 : decode cX6_valueOf 5 = .ok (.aload_n 0, 1) := by decide +kernel
theorem dX6_valueOf_6 : decode cX6_valueOf 6 = .ok (.getfield 76, 3) := by decide +kernel
theorem dX6_valueOf_9 : decode cX6_valueOf 9 = .ok (.if_icmp .ge 153, 3) := by decide +kernel
theorem dX6_valueOf_12 : decode cX6_valueOf 12 = .ok (.aload_n 0, 1) := by decide +kernel
theorem dX6_valueOf_13 : decode cX6_valueOf 13 = .ok (.getfield 11, 3) := by decide +kernel
theorem dX6_valueOf_16 : decode cX6_valueOf 16 = .ok (.iload_n 3, 1) := by decide +kernel
theorem dX6_valueOf_17 : decode cX6_valueOf 17 = .ok (.iaload, 1) := by decide +kernel
theorem dX6_valueOf_18 : decode cX6_valueOf 18 = .ok (.istore 4, 2) := by decide +kernel
theorem dX6_valueOf_20 : decode cX6_valueOf 20 = .ok (.iload 4, 2) := by decide +kernel
theorem dX6_valueOf_22 : decode cX6_valueOf 22 = .ok (.sipush 3000, 3) := by decide +kernel
theorem dX6_valueOf_25 : decode cX6_valueOf 25 = .ok (.if_icmp .ne 27, 3) := by decide +kernel
theorem dX6_valueOf_28 : decode cX6_valueOf 28 = .ok (.iload_n 2, 1) := by decide +kernel
theorem dX6_valueOf_29 : decode cX6_valueOf 29 = .ok (.ifCond .le 23, 3) := by decide +kernel
theorem dX6_valueOf_32 : decode cX6_valueOf 32 = .ok (.aload_n 0, 1) := by decide +kernel
theorem dX6_valueOf_33 : decode cX6_valueOf 33 = .ok (.getfield 21, 3) := by decide +kernel
theorem dX6_valueOf_36 : decode cX6_valueOf 36 = .ok (.iload_n 2, 1) := by decide +kernel
theorem dX6_valueOf_37 : decode cX6_valueOf 37 = .ok (.iconst 1, 1) := by decide +kernel
theorem dX6_valueOf_38 : decode cX6_valueOf 38 = .ok (.isub, 1) := by decide +kernel
theorem dX6_valueOf_39 : decode cX6_valueOf 39 = .ok (.aload_n 0, 1) := by decide +kernel
theorem dX6_valueOf_40 : decode cX6_valueOf 40 = .ok (.getfield 21, 3) := by decide +kernel
theorem dX6_valueOf_43 : decode cX6_valueOf 43 = .ok (.iload_n 2, 1) := by decide +kernel
theorem dX6_valueOf_44 : decode cX6_valueOf 44 = .ok (.iconst 1, 1) := by decide +kernel
theorem dX6_valueOf_45 : decode cX6_valueOf 45 = .ok (.isub, 1) := by decide +kernel
theorem dX6_valueOf_46 : decode cX6_valueOf 46 = .ok (.iaload, 1) := by decide +kernel
theorem dX6_valueOf_47 : decode cX6_valueOf 47 = .ok (.ineg, 1) := by decide +kernel
theorem dX6_valueOf_48 : decode cX6_valueOf 48 = .ok (.iastore, 1) := by decide +kernel
theorem dX6_valueOf_49 : decode cX6_valueOf 49 = .ok (.goto 107, 3) := by decide +kernel
theorem dX6_valueOf_52 : decode cX6_valueOf 52 = .ok (.iload 4, 2) := by decide +kernel
theorem dX6_valueOf_54 : decode cX6_valueOf 54 = .ok (.sipush 2000, 3) := by decide +kernel
theorem dX6_valueOf_57 : decode cX6_valueOf 57 = .ok (.if_icmp .lt 53, 3) := by decide +kernel
theorem dX6_valueOf_60 : decode cX6_valueOf 60 = .ok (.iload 4, 2) := by decide +kernel
theorem dX6_valueOf_62 : decode cX6_valueOf 62 = .ok (.sipush 3000, 3) := by decide +kernel
theorem dX6_valueOf_65 : decode cX6_valueOf 65 = .ok (.if_icmp .ge 45, 3) := by decide +kernel
theorem dX6_valueOf_68 : decode cX6_valueOf 68 = .ok (.iload_n 2, 1) := by decide +kernel
theorem dX6_valueOf_69 : decode cX6_valueOf 69 = .ok (.iconst 1, 1) := by decide +kernel
theorem dX6_valueOf_70 : decode cX6_valueOf 70 = .ok (.if_icmp .le 40, 3) := by decide +kernel
theorem dX6_valueOf_73 : decode cX6_valueOf 73 = .ok (.iinc 2 (-1), 3) := by decide +kernel
theorem dX6_valueOf_76 : decode cX6_valueOf 76 = .ok (.aload_n 0, 1) := by decide +kernel
theorem dX6_valueOf_77 : decode cX6_valueOf 77 = .ok (.getfield 21, 3) := by decide +kernel
theorem dX6_valueOf_80 : decode cX6_valueOf 80 = .ok (.iload_n 2, 1) := by decide +kernel
theorem dX6_valueOf_81 : decode cX6_valueOf 81 = .ok (.iconst 1, 1) := by decide +kernel
theorem dX6_valueOf_82 : decode cX6_valueOf 82 = .ok (.isub, 1) := by decide +kernel
theorem dX6_valueOf_83 : decode cX6_valueOf 83 = .ok (.iload 4, 2) := by decide +kernel
theorem dX6_valueOf_85 : decode cX6_valueOf 85 = .ok (.sipush 2000, 3) := by decide +kernel
theorem dX6_valueOf_88 : decode cX6_valueOf 88 = .ok (.isub, 1) := by decide +kernel
theorem dX6_valueOf_89 : decode cX6_valueOf 89 = .ok (.aload_n 0, 1) := by decide +kernel
theorem dX6_valueOf_90 : decode cX6_valueOf 90 = .ok (.getfield 21, 3) := by decide +kernel
theorem dX6_valueOf_93 : decode cX6_valueOf 93 = .ok (.iload_n 2, 1) := by decide +kernel
theorem dX6_valueOf_94 : decode cX6_valueOf 94 = .ok (.iconst 1, 1) := by decide +kernel
theorem dX6_valueOf_95 : decode cX6_valueOf 95 = .ok (.isub, 1) := by decide +kernel
theorem dX6_valueOf_96 : decode cX6_valueOf 96 = .ok (.iaload, 1) := by decide +kernel
theorem dX6_valueOf_97 : decode cX6_valueOf 97 = .ok (.aload_n 0, 1) := by decide +kernel
theorem dX6_valueOf_98 : decode cX6_valueOf 98 = .ok (.getfield 21, 3) := by decide +kernel
theorem dX6_valueOf_101 : decode cX6_valueOf 101 = .ok (.iload_n 2, 1) := by decide +kernel
theorem dX6_valueOf_102 : decode cX6_valueOf 102 = .ok (.iaload, 1) := by decide +kernel
theorem dX6_valueOf_103 : decode cX6_valueOf 103 = .ok (.invokestatic 124, 3) := by decide +kernel
theorem dX6_valueOf_106 : decode cX6_valueOf 106 = .ok (.iastore, 1) := by decide +kernel
theorem dX6_valueOf_107 : decode cX6_valueOf 107 = .ok (.goto 49, 3) := by decide +kernel
theorem dX6_valueOf_110 : decode cX6_valueOf 110 = .ok (.iload 4, 2) := by decide +kernel
theorem dX6_valueOf_112 : decode cX6_valueOf 112 = .ok (.sipush 2000, 3) := by decide +kernel
theorem dX6_valueOf_115 : decode cX6_valueOf 115 = .ok (.if_icmp .ge 41, 3) := by decide +kernel
theorem dX6_valueOf_118 : decode cX6_valueOf 118 = .ok (.iload_n 2, 1) := by decide +kernel
theorem dX6_valueOf_119 : decode cX6_valueOf 119 = .ok (.bipush 40, 2) := by decide +kernel
theorem dX6_valueOf_121 : decode cX6_valueOf 121 = .ok (.if_icmp .ge 35, 3) := by decide +kernel
theorem dX6_valueOf_124 : decode cX6_valueOf 124 = .ok (.aload_n 0, 1) := by decide +kernel
theorem dX6_valueOf_125 : decode cX6_valueOf 125 = .ok (.getfield 21, 3) := by decide +kernel
theorem dX6_valueOf_128 : decode cX6_valueOf 128 = .ok (.iload_n 2, 1) := by decide +kernel
theorem dX6_valueOf_129 : decode cX6_valueOf 129 = .ok (.iinc 2 1, 3) := by decide +kernel
theorem dX6_valueOf_132 : decode cX6_valueOf 132 = .ok (.iload 4, 2) := by decide +kernel
theorem dX6_valueOf_134 : decode cX6_valueOf 134 = .ok (.sipush 1000, 3) := by decide +kernel
theorem dX6_valueOf_137 : decode cX6_valueOf 137 = .ok (.if_icmp .ge 8, 3) := by decide +kernel
theorem dX6_valueOf_140 : decode cX6_valueOf 140 = .ok (.iload 4, 2) := by decide +kernel
theorem dX6_valueOf_142 : decode cX6_valueOf 142 = .ok (.goto 13, 3) := by decide +kernel
theorem dX6_valueOf_145 : decode cX6_valueOf 145 = .ok (.aload_n 1, 1) := by decide +kernel
theorem dX6_valueOf_146 : decode cX6_valueOf 146 = .ok (.iload 4, 2) := by decide +kernel
theorem dX6_valueOf_148 : decode cX6_valueOf 148 = .ok (.sipush 1000, 3) := by decide +kernel
theorem dX6_valueOf_151 : decode cX6_valueOf 151 = .ok (.isub, 1) := by decide +kernel
theorem dX6_valueOf_152 : decode cX6_valueOf 152 = .ok (.invokestatic 128, 3) := by decide +kernel
theorem dX6_valueOf_155 : decode cX6_valueOf 155 = .ok (.iastore, 1) := by decide +kernel
theorem dX6_valueOf_156 : decode cX6_valueOf 156 = .ok (.iinc 3 1, 3) := by decide +kernel
theorem dX6_valueOf_159 : decode cX6_valueOf 159 = .ok (.goto (-155), 3) := by decide +kernel
theorem dX6_valueOf_162 : decode cX6_valueOf 162 = .ok (.iload_n 2, 1) := by decide +kernel
theorem dX6_valueOf_163 : decode cX6_valueOf 163 = .ok (.ifCond .le 12, 3) := by decide +kernel
theorem dX6_valueOf_166 : decode cX6_valueOf 166 = .ok (.aload_n 0, 1) := by decide +kernel
theorem dX6_valueOf_167 : decode cX6_valueOf 167 = .ok (.getfield 21, 3) := by decide +kernel
theorem dX6_valueOf_170 : decode cX6_valueOf 170 = .ok (.iconst 0, 1) := by decide +kernel
theorem dX6_valueOf_171 : decode cX6_valueOf 171 = .ok (.iaload, 1) := by decide +kernel
theorem dX6_valueOf_172 : decode cX6_valueOf 172 = .ok (.goto 4, 3) := by decide +kernel
theorem dX6_valueOf_175 : decode cX6_valueOf 175 = .ok (.iconst 0, 1) := by decide +kernel
theorem dX6_valueOf_176 : decode cX6_valueOf 176 = .ok (.ireturn, 1) := by decide +kernel
theorem dX6_factOf_0 : decode cX6_factOf 0 = .ok (.iload_n 1, 1) := by decide +kernel
theorem dX6_factOf_1 : decode cX6_factOf 1 = .ok (.ifCond .lt 15, 3) := by decide +kernel
theorem dX6_factOf_4 : decode cX6_factOf 4 = .ok (.iload_n 1, 1) := by decide +kernel
theorem dX6_factOf_5 : decode cX6_factOf 5 = .ok (.aload_n 0, 1) := by decide +kernel
theorem dX6_factOf_6 : decode cX6_factOf 6 = .ok (.arraylength, 1) := by decide +kernel
theorem dX6_factOf_7 : decode cX6_factOf 7 = .ok (.if_icmp .ge 9, 3) := by decide +kernel
theorem dX6_factOf_10 : decode cX6_factOf 10 = .ok (.aload_n 0, 1) := by decide +kernel
theorem dX6_factOf_11 : decode cX6_factOf 11 = .ok (.iload_n 1, 1) := by decide +kernel
theorem dX6_factOf_12 : decode cX6_factOf 12 = .ok (.iaload, 1) := by decide +kernel
theorem dX6_factOf_13 : decode cX6_factOf 13 = .ok (.goto 4, 3) := by decide +kernel
theorem dX6_factOf_16 : decode cX6_factOf 16 = .ok (.iconst 0, 1) := by decide +kernel
theorem dX6_factOf_17 : decode cX6_factOf 17 = .ok (.ireturn, 1) := by decide +kernel
theorem dX6_apply_0 : decode cX6_apply 0 = .ok (.iload_n 0, 1) := by decide +kernel
theorem dX6_apply_1 : decode cX6_apply 1 = .ok (.lookupswitch 105 #[(42, 67), (43, 59), (45, 63), (47, 71), (60, 83), (62, 94)], 59) := by decide +kernel
theorem dX6_apply_60 : decode cX6_apply 60 = .ok (.iload_n 1, 1) := by decide +kernel
theorem dX6_apply_61 : decode cX6_apply 61 = .ok (.iload_n 2, 1) := by decide +kernel
theorem dX6_apply_62 : decode cX6_apply 62 = .ok (.iadd, 1) := by decide +kernel
theorem dX6_apply_63 : decode cX6_apply 63 = .ok (.ireturn, 1) := by decide +kernel
theorem dX6_apply_64 : decode cX6_apply 64 = .ok (.iload_n 1, 1) := by decide +kernel
theorem dX6_apply_65 : decode cX6_apply 65 = .ok (.iload_n 2, 1) := by decide +kernel
theorem dX6_apply_66 : decode cX6_apply 66 = .ok (.isub, 1) := by decide +kernel
theorem dX6_apply_67 : decode cX6_apply 67 = .ok (.ireturn, 1) := by decide +kernel
theorem dX6_apply_68 : decode cX6_apply 68 = .ok (.iload_n 1, 1) := by decide +kernel
theorem dX6_apply_69 : decode cX6_apply 69 = .ok (.iload_n 2, 1) := by decide +kernel
theorem dX6_apply_70 : decode cX6_apply 70 = .ok (.imul, 1) := by decide +kernel
theorem dX6_apply_71 : decode cX6_apply 71 = .ok (.ireturn, 1) := by decide +kernel
theorem dX6_apply_72 : decode cX6_apply 72 = .ok (.iload_n 2, 1) := by decide +kernel
theorem dX6_apply_73 : decode cX6_apply 73 = .ok (.ifCond .ne 7, 3) := by decide +kernel
theorem dX6_apply_76 : decode cX6_apply 76 = .ok (.iconst 0, 1) := by decide +kernel
theorem dX6_apply_77 : decode cX6_apply 77 = .ok (.goto 6, 3) := by decide +kernel
theorem dX6_apply_80 : decode cX6_apply 80 = .ok (.iload_n 1, 1) := by decide +kernel
theorem dX6_apply_81 : decode cX6_apply 81 = .ok (.iload_n 2, 1) := by decide +kernel
theorem dX6_apply_82 : decode cX6_apply 82 = .ok (.idiv, 1) := by decide +kernel
theorem dX6_apply_83 : decode cX6_apply 83 = .ok (.ireturn, 1) := by decide +kernel
theorem dX6_apply_84 : decode cX6_apply 84 = .ok (.iload_n 1, 1) := by decide +kernel
theorem dX6_apply_85 : decode cX6_apply 85 = .ok (.iload_n 2, 1) := by decide +kernel
theorem dX6_apply_86 : decode cX6_apply 86 = .ok (.if_icmp .ge 7, 3) := by decide +kernel
theorem dX6_apply_89 : decode cX6_apply 89 = .ok (.iconst 1, 1) := by decide +kernel
theorem dX6_apply_90 : decode cX6_apply 90 = .ok (.goto 4, 3) := by decide +kernel
theorem dX6_apply_93 : decode cX6_apply 93 = .ok (.iconst 0, 1) := by decide +kernel
theorem dX6_apply_94 : decode cX6_apply 94 = .ok (.ireturn, 1) := by decide +kernel
theorem dX6_apply_95 : decode cX6_apply 95 = .ok (.iload_n 1, 1) := by decide +kernel
theorem dX6_apply_96 : decode cX6_apply 96 = .ok (.iload_n 2, 1) := by decide +kernel
theorem dX6_apply_97 : decode cX6_apply 97 = .ok (.if_icmp .le 7, 3) := by decide +kernel
theorem dX6_apply_100 : decode cX6_apply 100 = .ok (.iconst 1, 1) := by decide +kernel
theorem dX6_apply_101 : decode cX6_apply 101 = .ok (.goto 4, 3) := by decide +kernel
theorem dX6_apply_104 : decode cX6_apply 104 = .ok (.iconst 0, 1) := by decide +kernel
theorem dX6_apply_105 : decode cX6_apply 105 = .ok (.ireturn, 1) := by decide +kernel
theorem dX6_apply_106 : decode cX6_apply 106 = .ok (.iload_n 1, 1) := by decide +kernel
theorem dX6_apply_107 : decode cX6_apply 107 = .ok (.iload_n 2, 1) := by decide +kernel
theorem dX6_apply_108 : decode cX6_apply 108 = .ok (.if_icmp .ne 7, 3) := by decide +kernel
theorem dX6_apply_111 : decode cX6_apply 111 = .ok (.iconst 1, 1) := by decide +kernel
theorem dX6_apply_112 : decode cX6_apply 112 = .ok (.goto 4, 3) := by decide +kernel
theorem dX6_apply_115 : decode cX6_apply 115 = .ok (.iconst 0, 1) := by decide +kernel
theorem dX6_apply_116 : decode cX6_apply 116 = .ok (.ireturn, 1) := by decide +kernel
theorem dX7_init_0 : decode cX7_init 0 = .ok (.aload_n 0, 1) := by decide +kernel
theorem dX7_init_1 : decode cX7_init 1 = .ok (.invokespecial 3, 3) := by decide +kernel
theorem dX7_init_4 : decode cX7_init 4 = .ok (.aload_n 0, 1) := by decide +kernel
theorem dX7_init_5 : decode cX7_init 5 = .ok (.new 9, 3) := by decide +kernel
theorem dX7_init_8 : decode cX7_init 8 = .ok (.dup, 1) := by decide +kernel
theorem dX7_init_9 : decode cX7_init 9 = .ok (.invokespecial 11, 3) := by decide +kernel
theorem dX7_init_12 : decode cX7_init 12 = .ok (.putfield 12, 3) := by decide +kernel
theorem dX7_init_15 : decode cX7_init 15 = .ok (.aload_n 0, 1) := by decide +kernel
theorem dX7_init_16 : decode cX7_init 16 = .ok (.iconst (-1), 1) := by decide +kernel
theorem dX7_init_17 : decode cX7_init 17 = .ok (.putfield 18, 3) := by decide +kernel
theorem dX7_init_20 : decode cX7_init 20 = .ok (.aload_n 0, 1) := by decide +kernel
theorem dX7_init_21 : decode cX7_init 21 = .ok (.iconst 0, 1) := by decide +kernel
theorem dX7_init_22 : decode cX7_init 22 = .ok (.putfield 22, 3) := by decide +kernel
theorem dX7_init_25 : decode cX7_init 25 = .ok (.return_, 1) := by decide +kernel
theorem dX7_isFelled_0 : decode cX7_isFelled 0 = .ok (.aload_n 0, 1) := by decide +kernel
theorem dX7_isFelled_1 : decode cX7_isFelled 1 = .ok (.getfield 22, 3) := by decide +kernel
theorem dX7_isFelled_4 : decode cX7_isFelled 4 = .ok (.ifCond .eq 7, 3) := by decide +kernel
theorem dX7_isFelled_7 : decode cX7_isFelled 7 = .ok (.iconst 1, 1) := by decide +kernel
theorem dX7_isFelled_8 : decode cX7_isFelled 8 = .ok (.goto 4, 3) := by decide +kernel
theorem dX7_isFelled_11 : decode cX7_isFelled 11 = .ok (.iconst 0, 1) := by decide +kernel
theorem dX7_isFelled_12 : decode cX7_isFelled 12 = .ok (.ireturn, 1) := by decide +kernel
theorem dX7_begin_0 : decode cX7_begin 0 = .ok (.aload_n 0, 1) := by decide +kernel
theorem dX7_begin_1 : decode cX7_begin 1 = .ok (.iconst 0, 1) := by decide +kernel
theorem dX7_begin_2 : decode cX7_begin 2 = .ok (.putfield 25, 3) := by decide +kernel
theorem dX7_begin_5 : decode cX7_begin 5 = .ok (.aload_n 0, 1) := by decide +kernel
theorem dX7_begin_6 : decode cX7_begin 6 = .ok (.iconst (-1), 1) := by decide +kernel
theorem dX7_begin_7 : decode cX7_begin 7 = .ok (.putfield 18, 3) := by decide +kernel
theorem dX7_begin_10 : decode cX7_begin 10 = .ok (.aload_n 0, 1) := by decide +kernel
theorem dX7_begin_11 : decode cX7_begin 11 = .ok (.iconst 0, 1) := by decide +kernel
theorem dX7_begin_12 : decode cX7_begin 12 = .ok (.putfield 22, 3) := by decide +kernel
theorem dX7_begin_15 : decode cX7_begin 15 = .ok (.return_, 1) := by decide +kernel
theorem dX7_fell_0 : decode cX7_fell 0 = .ok (.aload_n 0, 1) := by decide +kernel
theorem dX7_fell_1 : decode cX7_fell 1 = .ok (.aload_n 0, 1) := by decide +kernel
theorem dX7_fell_2 : decode cX7_fell 2 = .ok (.getfield 25, 3) := by decide +kernel
theorem dX7_fell_5 : decode cX7_fell 5 = .ok (.putfield 18, 3) := by decide +kernel
theorem dX7_fell_8 : decode cX7_fell 8 = .ok (.aload_n 0, 1) := by decide +kernel
theorem dX7_fell_9 : decode cX7_fell 9 = .ok (.iload_n 1, 1) := by decide +kernel
theorem dX7_fell_10 : decode cX7_fell 10 = .ok (.putfield 22, 3) := by decide +kernel
theorem dX7_fell_13 : decode cX7_fell 13 = .ok (.aload_n 0, 1) := by decide +kernel
theorem dX7_fell_14 : decode cX7_fell 14 = .ok (.iload_n 2, 1) := by decide +kernel
theorem dX7_fell_15 : decode cX7_fell 15 = .ok (.putfield 28, 3) := by decide +kernel
theorem dX7_fell_18 : decode cX7_fell 18 = .ok (.aload_n 0, 1) := by decide +kernel
theorem dX7_fell_19 : decode cX7_fell 19 = .ok (.iload_n 3, 1) := by decide +kernel
theorem dX7_fell_20 : decode cX7_fell 20 = .ok (.putfield 31, 3) := by decide +kernel
theorem dX7_fell_23 : decode cX7_fell 23 = .ok (.return_, 1) := by decide +kernel
theorem dX7_copyFrom_0 : decode cX7_copyFrom 0 = .ok (.aload_n 0, 1) := by decide +kernel
theorem dX7_copyFrom_1 : decode cX7_copyFrom 1 = .ok (.getfield 12, 3) := by decide +kernel
theorem dX7_copyFrom_4 : decode cX7_copyFrom 4 = .ok (.aload_n 1, 1) := by decide +kernel
theorem dX7_copyFrom_5 : decode cX7_copyFrom 5 = .ok (.getfield 12, 3) := by decide +kernel
theorem dX7_copyFrom_8 : decode cX7_copyFrom 8 = .ok (.invokevirtual 34, 3) := by decide +kernel
theorem dX7_copyFrom_11 : decode cX7_copyFrom 11 = .ok (.aload_n 0, 1) := by decide +kernel
theorem dX7_copyFrom_12 : decode cX7_copyFrom 12 = .ok (.aload_n 1, 1) := by decide +kernel
theorem dX7_copyFrom_13 : decode cX7_copyFrom 13 = .ok (.getfield 25, 3) := by decide +kernel
theorem dX7_copyFrom_16 : decode cX7_copyFrom 16 = .ok (.putfield 25, 3) := by decide +kernel
theorem dX7_copyFrom_19 : decode cX7_copyFrom 19 = .ok (.aload_n 0, 1) := by decide +kernel
theorem dX7_copyFrom_20 : decode cX7_copyFrom 20 = .ok (.aload_n 1, 1) := by decide +kernel
theorem dX7_copyFrom_21 : decode cX7_copyFrom 21 = .ok (.getfield 18, 3) := by decide +kernel
theorem dX7_copyFrom_24 : decode cX7_copyFrom 24 = .ok (.putfield 18, 3) := by decide +kernel
theorem dX7_copyFrom_27 : decode cX7_copyFrom 27 = .ok (.aload_n 0, 1) := by decide +kernel
theorem dX7_copyFrom_28 : decode cX7_copyFrom 28 = .ok (.aload_n 1, 1) := by decide +kernel
theorem dX7_copyFrom_29 : decode cX7_copyFrom 29 = .ok (.getfield 22, 3) := by decide +kernel
theorem dX7_copyFrom_32 : decode cX7_copyFrom 32 = .ok (.putfield 22, 3) := by decide +kernel
theorem dX7_copyFrom_35 : decode cX7_copyFrom 35 = .ok (.aload_n 0, 1) := by decide +kernel
theorem dX7_copyFrom_36 : decode cX7_copyFrom 36 = .ok (.aload_n 1, 1) := by decide +kernel
theorem dX7_copyFrom_37 : decode cX7_copyFrom 37 = .ok (.getfield 28, 3) := by decide +kernel
theorem dX7_copyFrom_40 : decode cX7_copyFrom 40 = .ok (.putfield 28, 3) := by decide +kernel
theorem dX7_copyFrom_43 : decode cX7_copyFrom 43 = .ok (.aload_n 0, 1) := by decide +kernel
theorem dX7_copyFrom_44 : decode cX7_copyFrom 44 = .ok (.aload_n 1, 1) := by decide +kernel
theorem dX7_copyFrom_45 : decode cX7_copyFrom 45 = .ok (.getfield 31, 3) := by decide +kernel
theorem dX7_copyFrom_48 : decode cX7_copyFrom 48 = .ok (.putfield 31, 3) := by decide +kernel
theorem dX7_copyFrom_51 : decode cX7_copyFrom 51 = .ok (.return_, 1) := by decide +kernel
theorem dX8_init_0 : decode cX8_init 0 = .ok (.aload_n 0, 1) := by decide +kernel
theorem dX8_init_1 : decode cX8_init 1 = .ok (.invokespecial 1, 3) := by decide +kernel
theorem dX8_init_4 : decode cX8_init 4 = .ok (.aload_n 0, 1) := by decide +kernel
theorem dX8_init_5 : decode cX8_init 5 = .ok (.bipush 80, 2) := by decide +kernel
theorem dX8_init_7 : decode cX8_init 7 = .ok (.newarray .int, 2) := by decide +kernel
theorem dX8_init_9 : decode cX8_init 9 = .ok (.putfield 9, 3) := by decide +kernel
theorem dX8_init_12 : decode cX8_init 12 = .ok (.return_, 1) := by decide +kernel
theorem dX8_addFour_0 : decode cX8_addFour 0 = .ok (.aload_n 0, 1) := by decide +kernel
theorem dX8_addFour_1 : decode cX8_addFour 1 = .ok (.getfield 13, 3) := by decide +kernel
theorem dX8_addFour_4 : decode cX8_addFour 4 = .ok (.bipush 76, 2) := by decide +kernel
theorem dX8_addFour_6 : decode cX8_addFour 6 = .ok (.if_icmp .le 5, 3) := by decide +kernel
theorem dX8_addFour_9 : decode cX8_addFour 9 = .ok (.iconst 0, 1) := by decide +kernel
theorem dX8_addFour_10 : decode cX8_addFour 10 = .ok (.ireturn, 1) := by decide +kernel
theorem dX8_addFour_11 : decode cX8_addFour 11 = .ok (.bipush 24, 2) := by decide +kernel
theorem dX8_addFour_13 : decode cX8_addFour 13 = .ok (.istore_n 2, 1) := by decide +kernel
theorem dX8_addFour_14 : decode cX8_addFour 14 = .ok (.iload_n 2, 1) := by decide +kernel
theorem dX8_addFour_15 : decode cX8_addFour 15 = .ok (.ifCond .lt 32, 3) := by decide +kernel
theorem dX8_addFour_18 : decode cX8_addFour 18 = .ok (.aload_n 0, 1) := by decide +kernel
theorem dX8_addFour_19 : decode cX8_addFour 19 = .ok (.getfield 9, 3) := by decide +kernel
theorem dX8_addFour_22 : decode cX8_addFour 22 = .ok (.aload_n 0, 1) := by decide +kernel
theorem dX8_addFour_23 : decode cX8_addFour 23 = .ok (.dup, 1) := by decide +kernel
theorem dX8_addFour_24 : decode cX8_addFour 24 = .ok (.getfield 13, 3) := by decide +kernel
theorem dX8_addFour_27 : decode cX8_addFour 27 = .ok (.dup_x1, 1) := by decide +kernel
theorem dX8_addFour_28 : decode cX8_addFour 28 = .ok (.iconst 1, 1) := by decide +kernel
theorem dX8_addFour_29 : decode cX8_addFour 29 = .ok (.iadd, 1) := by decide +kernel
theorem dX8_addFour_30 : decode cX8_addFour 30 = .ok (.putfield 13, 3) := by decide +kernel
theorem dX8_addFour_33 : decode cX8_addFour 33 = .ok (.iload_n 1, 1) := by decide +kernel
theorem dX8_addFour_34 : decode cX8_addFour 34 = .ok (.iload_n 2, 1) := by decide +kernel
theorem dX8_addFour_35 : decode cX8_addFour 35 = .ok (.iushr, 1) := by decide +kernel
theorem dX8_addFour_36 : decode cX8_addFour 36 = .ok (.sipush 255, 3) := by decide +kernel
theorem dX8_addFour_39 : decode cX8_addFour 39 = .ok (.iand, 1) := by decide +kernel
theorem dX8_addFour_40 : decode cX8_addFour 40 = .ok (.iastore, 1) := by decide +kernel
theorem dX8_addFour_41 : decode cX8_addFour 41 = .ok (.iinc 2 (-8), 3) := by decide +kernel
theorem dX8_addFour_44 : decode cX8_addFour 44 = .ok (.goto (-30), 3) := by decide +kernel
theorem dX8_addFour_47 : decode cX8_addFour 47 = .ok (.iconst 1, 1) := by decide +kernel
theorem dX8_addFour_48 : decode cX8_addFour 48 = .ok (.ireturn, 1) := by decide +kernel
theorem dX8_cut_0 : decode cX8_cut 0 = .ok (.iload_n 1, 1) := by decide +kernel
theorem dX8_cut_1 : decode cX8_cut 1 = .ok (.ifCond .lt 11, 3) := by decide +kernel
theorem dX8_cut_4 : decode cX8_cut 4 = .ok (.iload_n 1, 1) := by decide +kernel
theorem dX8_cut_5 : decode cX8_cut 5 = .ok (.aload_n 0, 1) := by decide +kernel
theorem dX8_cut_6 : decode cX8_cut 6 = .ok (.getfield 13, 3) := by decide +kernel
theorem dX8_cut_9 : decode cX8_cut 9 = .ok (.if_icmp .le 5, 3) := by decide +kernel
theorem dX8_cut_12 : decode cX8_cut 12 = .ok (.iconst 0, 1) := by decide +kernel
theorem dX8_cut_13 : decode cX8_cut 13 = .ok (.ireturn, 1) := by decide +kernel
theorem dX8_cut_14 : decode cX8_cut 14 = .ok (.aload_n 0, 1) := by decide +kernel
theorem dX8_cut_15 : decode cX8_cut 15 = .ok (.iload_n 1, 1) := by decide +kernel
theorem dX8_cut_16 : decode cX8_cut 16 = .ok (.putfield 13, 3) := by decide +kernel
theorem dX8_cut_19 : decode cX8_cut 19 = .ok (.iconst 1, 1) := by decide +kernel
theorem dX8_cut_20 : decode cX8_cut 20 = .ok (.ireturn, 1) := by decide +kernel
theorem dX8_clear_0 : decode cX8_clear 0 = .ok (.aload_n 0, 1) := by decide +kernel
theorem dX8_clear_1 : decode cX8_clear 1 = .ok (.iconst 0, 1) := by decide +kernel
theorem dX8_clear_2 : decode cX8_clear 2 = .ok (.putfield 13, 3) := by decide +kernel
theorem dX8_clear_5 : decode cX8_clear 5 = .ok (.return_, 1) := by decide +kernel
theorem dX8_isDigit_0 : decode cX8_isDigit 0 = .ok (.iload_n 1, 1) := by decide +kernel
theorem dX8_isDigit_1 : decode cX8_isDigit 1 = .ok (.ifCond .lt 37, 3) := by decide +kernel
theorem dX8_isDigit_4 : decode cX8_isDigit 4 = .ok (.iload_n 1, 1) := by decide +kernel
theorem dX8_isDigit_5 : decode cX8_isDigit 5 = .ok (.aload_n 0, 1) := by decide +kernel
theorem dX8_isDigit_6 : decode cX8_isDigit 6 = .ok (.getfield 13, 3) := by decide +kernel
theorem dX8_isDigit_9 : decode cX8_isDigit 9 = .ok (.if_icmp .ge 29, 3) := by decide +kernel
theorem dX8_isDigit_12 : decode cX8_isDigit 12 = .ok (.aload_n 0, 1) := by decide +kernel
theorem dX8_isDigit_13 : decode cX8_isDigit 13 = .ok (.getfield 9, 3) := by decide +kernel
theorem dX8_isDigit_16 : decode cX8_isDigit 16 = .ok (.iload_n 1, 1) := by decide +kernel
theorem dX8_isDigit_17 : decode cX8_isDigit 17 = .ok (.iaload, 1) := by decide +kernel
theorem dX8_isDigit_18 : decode cX8_isDigit 18 = .ok (.bipush 48, 2) := by decide +kernel
theorem dX8_isDigit_20 : decode cX8_isDigit 20 = .ok (.if_icmp .lt 18, 3) := by decide +kernel
theorem dX8_isDigit_23 : decode cX8_isDigit 23 = .ok (.aload_n 0, 1) := by decide +kernel
theorem dX8_isDigit_24 : decode cX8_isDigit 24 = .ok (.getfield 9, 3) := by decide +kernel
theorem dX8_isDigit_27 : decode cX8_isDigit 27 = .ok (.iload_n 1, 1) := by decide +kernel
theorem dX8_isDigit_28 : decode cX8_isDigit 28 = .ok (.iaload, 1) := by decide +kernel
theorem dX8_isDigit_29 : decode cX8_isDigit 29 = .ok (.bipush 57, 2) := by decide +kernel
theorem dX8_isDigit_31 : decode cX8_isDigit 31 = .ok (.if_icmp .gt 7, 3) := by decide +kernel
theorem dX8_isDigit_34 : decode cX8_isDigit 34 = .ok (.iconst 1, 1) := by decide +kernel
theorem dX8_isDigit_35 : decode cX8_isDigit 35 = .ok (.goto 4, 3) := by decide +kernel
theorem dX8_isDigit_38 : decode cX8_isDigit 38 = .ok (.iconst 0, 1) := by decide +kernel
theorem dX8_isDigit_39 : decode cX8_isDigit 39 = .ok (.ireturn, 1) := by decide +kernel
theorem dX8_isOneOf_0 : decode cX8_isOneOf 0 = .ok (.iload_n 1, 1) := by decide +kernel
theorem dX8_isOneOf_1 : decode cX8_isOneOf 1 = .ok (.ifCond .lt 29, 3) := by decide +kernel
theorem dX8_isOneOf_4 : decode cX8_isOneOf 4 = .ok (.iload_n 1, 1) := by decide +kernel
theorem dX8_isOneOf_5 : decode cX8_isOneOf 5 = .ok (.aload_n 0, 1) := by decide +kernel
theorem dX8_isOneOf_6 : decode cX8_isOneOf 6 = .ok (.getfield 13, 3) := by decide +kernel
theorem dX8_isOneOf_9 : decode cX8_isOneOf 9 = .ok (.if_icmp .ge 21, 3) := by decide +kernel
theorem dX8_isOneOf_12 : decode cX8_isOneOf 12 = .ok (.aload_n 2, 1) := by decide +kernel
theorem dX8_isOneOf_13 : decode cX8_isOneOf 13 = .ok (.aload_n 0, 1) := by decide +kernel
theorem dX8_isOneOf_14 : decode cX8_isOneOf 14 = .ok (.getfield 9, 3) := by decide +kernel
theorem dX8_isOneOf_17 : decode cX8_isOneOf 17 = .ok (.iload_n 1, 1) := by decide +kernel
theorem dX8_isOneOf_18 : decode cX8_isOneOf 18 = .ok (.iaload, 1) := by decide +kernel
theorem dX8_isOneOf_19 : decode cX8_isOneOf 19 = .ok (.i2c, 1) := by decide +kernel
theorem dX8_isOneOf_20 : decode cX8_isOneOf 20 = .ok (.invokevirtual 17, 3) := by decide +kernel
theorem dX8_isOneOf_23 : decode cX8_isOneOf 23 = .ok (.ifCond .lt 7, 3) := by decide +kernel
theorem dX8_isOneOf_26 : decode cX8_isOneOf 26 = .ok (.iconst 1, 1) := by decide +kernel
theorem dX8_isOneOf_27 : decode cX8_isOneOf 27 = .ok (.goto 4, 3) := by decide +kernel
theorem dX8_isOneOf_30 : decode cX8_isOneOf 30 = .ok (.iconst 0, 1) := by decide +kernel
theorem dX8_isOneOf_31 : decode cX8_isOneOf 31 = .ok (.ireturn, 1) := by decide +kernel
theorem dX9_init_0 : decode cX9_init 0 = .ok (.aload_n 0, 1) := by decide +kernel
theorem dX9_init_1 : decode cX9_init 1 = .ok (.invokespecial 3, 3) := by decide +kernel
theorem dX9_init_4 : decode cX9_init 4 = .ok (.aload_n 0, 1) := by decide +kernel
theorem dX9_init_5 : decode cX9_init 5 = .ok (.bipush 20, 2) := by decide +kernel
theorem dX9_init_7 : decode cX9_init 7 = .ok (.newarray .int, 2) := by decide +kernel
theorem dX9_init_9 : decode cX9_init 9 = .ok (.putfield 11, 3) := by decide +kernel
theorem dX9_init_12 : decode cX9_init 12 = .ok (.aload_n 0, 1) := by decide +kernel
theorem dX9_init_13 : decode cX9_init 13 = .ok (.bipush 20, 2) := by decide +kernel
theorem dX9_init_15 : decode cX9_init 15 = .ok (.newarray .boolean, 2) := by decide +kernel
theorem dX9_init_17 : decode cX9_init 17 = .ok (.putfield 15, 3) := by decide +kernel
theorem dX9_init_20 : decode cX9_init 20 = .ok (.aload_n 0, 1) := by decide +kernel
theorem dX9_init_21 : decode cX9_init 21 = .ok (.bipush 48, 2) := by decide +kernel
theorem dX9_init_23 : decode cX9_init 23 = .ok (.newarray .int, 2) := by decide +kernel
theorem dX9_init_25 : decode cX9_init 25 = .ok (.putfield 19, 3) := by decide +kernel
theorem dX9_init_28 : decode cX9_init 28 = .ok (.aload_n 0, 1) := by decide +kernel
theorem dX9_init_29 : decode cX9_init 29 = .ok (.bipush 48, 2) := by decide +kernel
theorem dX9_init_31 : decode cX9_init 31 = .ok (.newarray .int, 2) := by decide +kernel
theorem dX9_init_33 : decode cX9_init 33 = .ok (.putfield 22, 3) := by decide +kernel
theorem dX9_init_36 : decode cX9_init 36 = .ok (.aload_n 0, 1) := by decide +kernel
theorem dX9_init_37 : decode cX9_init 37 = .ok (.iconst 3, 1) := by decide +kernel
theorem dX9_init_38 : decode cX9_init 38 = .ok (.newarray .int, 2) := by decide +kernel
theorem dX9_init_40 : decode cX9_init 40 = .ok (.putfield 25, 3) := by decide +kernel
theorem dX9_init_43 : decode cX9_init 43 = .ok (.aload_n 0, 1) := by decide +kernel
theorem dX9_init_44 : decode cX9_init 44 = .ok (.iconst 3, 1) := by decide +kernel
theorem dX9_init_45 : decode cX9_init 45 = .ok (.newarray .int, 2) := by decide +kernel
theorem dX9_init_47 : decode cX9_init 47 = .ok (.putfield 28, 3) := by decide +kernel
theorem dX9_init_50 : decode cX9_init 50 = .ok (.aload_n 0, 1) := by decide +kernel
theorem dX9_init_51 : decode cX9_init 51 = .ok (.iconst 3, 1) := by decide +kernel
theorem dX9_init_52 : decode cX9_init 52 = .ok (.newarray .int, 2) := by decide +kernel
theorem dX9_init_54 : decode cX9_init 54 = .ok (.putfield 31, 3) := by decide +kernel
theorem dX9_init_57 : decode cX9_init 57 = .ok (.aload_n 0, 1) := by decide +kernel
theorem dX9_init_58 : decode cX9_init 58 = .ok (.iconst 3, 1) := by decide +kernel
theorem dX9_init_59 : decode cX9_init 59 = .ok (.newarray .int, 2) := by decide +kernel
theorem dX9_init_61 : decode cX9_init 61 = .ok (.putfield 34, 3) := by decide +kernel
theorem dX9_init_64 : decode cX9_init 64 = .ok (.aload_n 0, 1) := by decide +kernel
theorem dX9_init_65 : decode cX9_init 65 = .ok (.iconst 3, 1) := by decide +kernel
theorem dX9_init_66 : decode cX9_init 66 = .ok (.newarray .int, 2) := by decide +kernel
theorem dX9_init_68 : decode cX9_init 68 = .ok (.putfield 37, 3) := by decide +kernel
theorem dX9_init_71 : decode cX9_init 71 = .ok (.aload_n 0, 1) := by decide +kernel
theorem dX9_init_72 : decode cX9_init 72 = .ok (.iconst 3, 1) := by decide +kernel
theorem dX9_init_73 : decode cX9_init 73 = .ok (.newarray .int, 2) := by decide +kernel
theorem dX9_init_75 : decode cX9_init 75 = .ok (.putfield 40, 3) := by decide +kernel
theorem dX9_init_78 : decode cX9_init 78 = .ok (.aload_n 0, 1) := by decide +kernel
theorem dX9_init_79 : decode cX9_init 79 = .ok (.invokevirtual 43, 3) := by decide +kernel
theorem dX9_init_82 : decode cX9_init 82 = .ok (.return_, 1) := by decide +kernel
theorem dX9_clear_0 : decode cX9_clear 0 = .ok (.aload_n 0, 1) := by decide +kernel
theorem dX9_clear_1 : decode cX9_clear 1 = .ok (.iconst 0, 1) := by decide +kernel
theorem dX9_clear_2 : decode cX9_clear 2 = .ok (.putfield 46, 3) := by decide +kernel
theorem dX9_clear_5 : decode cX9_clear 5 = .ok (.aload_n 0, 1) := by decide +kernel
theorem dX9_clear_6 : decode cX9_clear 6 = .ok (.getfield 19, 3) := by decide +kernel
theorem dX9_clear_9 : decode cX9_clear 9 = .ok (.iconst 0, 1) := by decide +kernel
theorem dX9_clear_10 : decode cX9_clear 10 = .ok (.invokestatic 50, 3) := by decide +kernel
theorem dX9_clear_13 : decode cX9_clear 13 = .ok (.aload_n 0, 1) := by decide +kernel
theorem dX9_clear_14 : decode cX9_clear 14 = .ok (.getfield 22, 3) := by decide +kernel
theorem dX9_clear_17 : decode cX9_clear 17 = .ok (.bipush 9, 2) := by decide +kernel
theorem dX9_clear_19 : decode cX9_clear 19 = .ok (.invokestatic 50, 3) := by decide +kernel
theorem dX9_clear_22 : decode cX9_clear 22 = .ok (.return_, 1) := by decide +kernel
theorem dX9_tell_0 : decode cX9_tell 0 = .ok (.aload_n 0, 1) := by decide +kernel
theorem dX9_tell_1 : decode cX9_tell 1 = .ok (.getfield 46, 3) := by decide +kernel
theorem dX9_tell_4 : decode cX9_tell 4 = .ok (.bipush 20, 2) := by decide +kernel
theorem dX9_tell_6 : decode cX9_tell 6 = .ok (.if_icmp .lt 5, 3) := by decide +kernel
theorem dX9_tell_9 : decode cX9_tell 9 = .ok (.iconst 0, 1) := by decide +kernel
theorem dX9_tell_10 : decode cX9_tell 10 = .ok (.ireturn, 1) := by decide +kernel
theorem dX9_tell_11 : decode cX9_tell 11 = .ok (.aload_n 0, 1) := by decide +kernel
theorem dX9_tell_12 : decode cX9_tell 12 = .ok (.getfield 11, 3) := by decide +kernel
theorem dX9_tell_15 : decode cX9_tell 15 = .ok (.aload_n 0, 1) := by decide +kernel
theorem dX9_tell_16 : decode cX9_tell 16 = .ok (.getfield 46, 3) := by decide +kernel
theorem dX9_tell_19 : decode cX9_tell 19 = .ok (.iload_n 1, 1) := by decide +kernel
theorem dX9_tell_20 : decode cX9_tell 20 = .ok (.iastore, 1) := by decide +kernel
theorem dX9_tell_21 : decode cX9_tell 21 = .ok (.aload_n 0, 1) := by decide +kernel
theorem dX9_tell_22 : decode cX9_tell 22 = .ok (.getfield 15, 3) := by decide +kernel
theorem dX9_tell_25 : decode cX9_tell 25 = .ok (.aload_n 0, 1) := by decide +kernel
theorem dX9_tell_26 : decode cX9_tell 26 = .ok (.dup, 1) := by decide +kernel
theorem dX9_tell_27 : decode cX9_tell 27 = .ok (.getfield 46, 3) := by decide +kernel
theorem dX9_tell_30 : decode cX9_tell 30 = .ok (.dup_x1, 1) := by decide +kernel
theorem dX9_tell_31 : decode cX9_tell 31 = .ok (.iconst 1, 1) := by decide +kernel
theorem dX9_tell_32 : decode cX9_tell 32 = .ok (.iadd, 1) := by decide +kernel
theorem dX9_tell_33 : decode cX9_tell 33 = .ok (.putfield 46, 3) := by decide +kernel
theorem dX9_tell_36 : decode cX9_tell 36 = .ok (.iload_n 2, 1) := by decide +kernel
theorem dX9_tell_37 : decode cX9_tell 37 = .ok (.bastore, 1) := by decide +kernel
theorem dX9_tell_38 : decode cX9_tell 38 = .ok (.iconst 1, 1) := by decide +kernel
theorem dX9_tell_39 : decode cX9_tell 39 = .ok (.ireturn, 1) := by decide +kernel
theorem dX9_touched_0 : decode cX9_touched 0 = .ok (.iconst 0, 1) := by decide +kernel
theorem dX9_touched_1 : decode cX9_touched 1 = .ok (.istore 4, 2) := by decide +kernel
theorem dX9_touched_3 : decode cX9_touched 3 = .ok (.iconst 0, 1) := by decide +kernel
theorem dX9_touched_4 : decode cX9_touched 4 = .ok (.istore 5, 2) := by decide +kernel
theorem dX9_touched_6 : decode cX9_touched 6 = .ok (.iload 5, 2) := by decide +kernel
theorem dX9_touched_8 : decode cX9_touched 8 = .ok (.aload_n 0, 1) := by decide +kernel
theorem dX9_touched_9 : decode cX9_touched 9 = .ok (.getfield 46, 3) := by decide +kernel
theorem dX9_touched_12 : decode cX9_touched 12 = .ok (.if_icmp .ge 63, 3) := by decide +kernel
theorem dX9_touched_15 : decode cX9_touched 15 = .ok (.aload_n 0, 1) := by decide +kernel
theorem dX9_touched_16 : decode cX9_touched 16 = .ok (.getfield 11, 3) := by decide +kernel
theorem dX9_touched_19 : decode cX9_touched 19 = .ok (.iload 5, 2) := by decide +kernel
theorem dX9_touched_21 : decode cX9_touched 21 = .ok (.iaload, 1) := by decide +kernel
theorem dX9_touched_22 : decode cX9_touched 22 = .ok (.iconst 3, 1) := by decide +kernel
theorem dX9_touched_23 : decode cX9_touched 23 = .ok (.idiv, 1) := by decide +kernel
theorem dX9_touched_24 : decode cX9_touched 24 = .ok (.iload_n 2, 1) := by decide +kernel
theorem dX9_touched_25 : decode cX9_touched 25 = .ok (.if_icmp .ne 44, 3) := by decide +kernel
theorem dX9_touched_28 : decode cX9_touched 28 = .ok (.aload_n 0, 1) := by decide +kernel
theorem dX9_touched_29 : decode cX9_touched 29 = .ok (.getfield 15, 3) := by decide +kernel
theorem dX9_touched_32 : decode cX9_touched 32 = .ok (.iload 5, 2) := by decide +kernel
theorem dX9_touched_34 : decode cX9_touched 34 = .ok (.baload, 1) := by decide +kernel
theorem dX9_touched_35 : decode cX9_touched 35 = .ok (.iload_n 3, 1) := by decide +kernel
theorem dX9_touched_36 : decode cX9_touched 36 = .ok (.if_icmp .ne 33, 3) := by decide +kernel
theorem dX9_touched_39 : decode cX9_touched 39 = .ok (.aload_n 1, 1) := by decide +kernel
theorem dX9_touched_40 : decode cX9_touched 40 = .ok (.aload_n 0, 1) := by decide +kernel
theorem dX9_touched_41 : decode cX9_touched 41 = .ok (.getfield 11, 3) := by decide +kernel
theorem dX9_touched_44 : decode cX9_touched 44 = .ok (.iload 5, 2) := by decide +kernel
theorem dX9_touched_46 : decode cX9_touched 46 = .ok (.iaload, 1) := by decide +kernel
theorem dX9_touched_47 : decode cX9_touched 47 = .ok (.invokevirtual 56, 3) := by decide +kernel
theorem dX9_touched_50 : decode cX9_touched 50 = .ok (.ifCond .eq 19, 3) := by decide +kernel
theorem dX9_touched_53 : decode cX9_touched 53 = .ok (.iload 4, 2) := by decide +kernel
theorem dX9_touched_55 : decode cX9_touched 55 = .ok (.iconst 1, 1) := by decide +kernel
theorem dX9_touched_56 : decode cX9_touched 56 = .ok (.aload_n 0, 1) := by decide +kernel
theorem dX9_touched_57 : decode cX9_touched 57 = .ok (.getfield 11, 3) := by decide +kernel
theorem dX9_touched_60 : decode cX9_touched 60 = .ok (.iload 5, 2) := by decide +kernel
theorem dX9_touched_62 : decode cX9_touched 62 = .ok (.iaload, 1) := by decide +kernel
theorem dX9_touched_63 : decode cX9_touched 63 = .ok (.iconst 3, 1) := by decide +kernel
theorem dX9_touched_64 : decode cX9_touched 64 = .ok (.irem, 1) := by decide +kernel
theorem dX9_touched_65 : decode cX9_touched 65 = .ok (.ishl, 1) := by decide +kernel
theorem dX9_touched_66 : decode cX9_touched 66 = .ok (.ior, 1) := by decide +kernel
theorem dX9_touched_67 : decode cX9_touched 67 = .ok (.istore 4, 2) := by decide +kernel
theorem dX9_touched_69 : decode cX9_touched 69 = .ok (.iinc 5 1, 3) := by decide +kernel
theorem dX9_touched_72 : decode cX9_touched 72 = .ok (.goto (-66), 3) := by decide +kernel
theorem dX9_touched_75 : decode cX9_touched 75 = .ok (.iload 4, 2) := by decide +kernel
theorem dX9_touched_77 : decode cX9_touched 77 = .ok (.ireturn, 1) := by decide +kernel
theorem dX9_sift_0 : decode cX9_sift 0 = .ok (.iconst 0, 1) := by decide +kernel
theorem dX9_sift_1 : decode cX9_sift 1 = .ok (.istore_n 3, 1) := by decide +kernel
theorem dX9_sift_2 : decode cX9_sift 2 = .ok (.iload_n 3, 1) := by decide +kernel
theorem dX9_sift_3 : decode cX9_sift 3 = .ok (.iconst 3, 1) := by decide +kernel
theorem dX9_sift_4 : decode cX9_sift 4 = .ok (.if_icmp .ge 68, 3) := by decide +kernel
theorem dX9_sift_7 : decode cX9_sift 7 = .ok (.iconst 3, 1) := by decide +kernel
theorem dX9_sift_8 : decode cX9_sift 8 = .ok (.iload_n 2, 1) := by decide +kernel
theorem dX9_sift_9 : decode cX9_sift 9 = .ok (.imul, 1) := by decide +kernel
theorem dX9_sift_10 : decode cX9_sift 10 = .ok (.iload_n 3, 1) := by decide +kernel
theorem dX9_sift_11 : decode cX9_sift 11 = .ok (.iadd, 1) := by decide +kernel
theorem dX9_sift_12 : decode cX9_sift 12 = .ok (.istore 4, 2) := by decide +kernel
theorem dX9_sift_14 : decode cX9_sift 14 = .ok (.aload_n 0, 1) := by decide +kernel
theorem dX9_sift_15 : decode cX9_sift 15 = .ok (.getfield 25, 3) := by decide +kernel
theorem dX9_sift_18 : decode cX9_sift 18 = .ok (.iload_n 3, 1) := by decide +kernel
theorem dX9_sift_19 : decode cX9_sift 19 = .ok (.aload_n 1, 1) := by decide +kernel
theorem dX9_sift_20 : decode cX9_sift 20 = .ok (.iload 4, 2) := by decide +kernel
theorem dX9_sift_22 : decode cX9_sift 22 = .ok (.invokevirtual 56, 3) := by decide +kernel
theorem dX9_sift_25 : decode cX9_sift 25 = .ok (.ifCond .eq 13, 3) := by decide +kernel
theorem dX9_sift_28 : decode cX9_sift 28 = .ok (.aload_n 0, 1) := by decide +kernel
theorem dX9_sift_29 : decode cX9_sift 29 = .ok (.getfield 19, 3) := by decide +kernel
theorem dX9_sift_32 : decode cX9_sift 32 = .ok (.iload 4, 2) := by decide +kernel
theorem dX9_sift_34 : decode cX9_sift 34 = .ok (.iaload, 1) := by decide +kernel
theorem dX9_sift_35 : decode cX9_sift 35 = .ok (.goto 4, 3) := by decide +kernel
theorem dX9_sift_38 : decode cX9_sift 38 = .ok (.iconst (-1), 1) := by decide +kernel
theorem dX9_sift_39 : decode cX9_sift 39 = .ok (.iastore, 1) := by decide +kernel
theorem dX9_sift_40 : decode cX9_sift 40 = .ok (.aload_n 0, 1) := by decide +kernel
theorem dX9_sift_41 : decode cX9_sift 41 = .ok (.getfield 28, 3) := by decide +kernel
theorem dX9_sift_44 : decode cX9_sift 44 = .ok (.iload_n 3, 1) := by decide +kernel
theorem dX9_sift_45 : decode cX9_sift 45 = .ok (.aload_n 1, 1) := by decide +kernel
theorem dX9_sift_46 : decode cX9_sift 46 = .ok (.iload 4, 2) := by decide +kernel
theorem dX9_sift_48 : decode cX9_sift 48 = .ok (.invokevirtual 56, 3) := by decide +kernel
theorem dX9_sift_51 : decode cX9_sift 51 = .ok (.ifCond .eq 13, 3) := by decide +kernel
theorem dX9_sift_54 : decode cX9_sift 54 = .ok (.aload_n 0, 1) := by decide +kernel
theorem dX9_sift_55 : decode cX9_sift 55 = .ok (.getfield 22, 3) := by decide +kernel
theorem dX9_sift_58 : decode cX9_sift 58 = .ok (.iload 4, 2) := by decide +kernel
theorem dX9_sift_60 : decode cX9_sift 60 = .ok (.iaload, 1) := by decide +kernel
theorem dX9_sift_61 : decode cX9_sift 61 = .ok (.goto 4, 3) := by decide +kernel
theorem dX9_sift_64 : decode cX9_sift 64 = .ok (.iconst (-1), 1) := by decide +kernel
theorem dX9_sift_65 : decode cX9_sift 65 = .ok (.iastore, 1) := by decide +kernel
theorem dX9_sift_66 : decode cX9_sift 66 = .ok (.iinc 3 1, 3) := by decide +kernel
theorem dX9_sift_69 : decode cX9_sift 69 = .ok (.goto (-67), 3) := by decide +kernel
theorem dX9_sift_72 : decode cX9_sift 72 = .ok (.aload_n 0, 1) := by decide +kernel
theorem dX9_sift_73 : decode cX9_sift 73 = .ok (.aload_n 1, 1) := by decide +kernel
theorem dX9_sift_74 : decode cX9_sift 74 = .ok (.iload_n 2, 1) := by decide +kernel
theorem dX9_sift_75 : decode cX9_sift 75 = .ok (.iconst 1, 1) := by decide +kernel
theorem dX9_sift_76 : decode cX9_sift 76 = .ok (.invokevirtual 62, 3) := by decide +kernel
theorem dX9_sift_79 : decode cX9_sift 79 = .ok (.istore_n 3, 1) := by decide +kernel
theorem dX9_sift_80 : decode cX9_sift 80 = .ok (.aload_n 0, 1) := by decide +kernel
theorem dX9_sift_81 : decode cX9_sift 81 = .ok (.aload_n 1, 1) := by decide +kernel
theorem dX9_sift_82 : decode cX9_sift 82 = .ok (.iload_n 2, 1) := by decide +kernel
theorem dX9_sift_83 : decode cX9_sift 83 = .ok (.iconst 0, 1) := by decide +kernel
theorem dX9_sift_84 : decode cX9_sift 84 = .ok (.invokevirtual 62, 3) := by decide +kernel
theorem dX9_sift_87 : decode cX9_sift 87 = .ok (.istore 4, 2) := by decide +kernel
theorem dX9_sift_89 : decode cX9_sift 89 = .ok (.aload_n 0, 1) := by decide +kernel
theorem dX9_sift_90 : decode cX9_sift 90 = .ok (.iconst 0, 1) := by decide +kernel
theorem dX9_sift_91 : decode cX9_sift 91 = .ok (.putfield 66, 3) := by decide +kernel
theorem dX9_sift_94 : decode cX9_sift 94 = .ok (.aload_n 0, 1) := by decide +kernel
theorem dX9_sift_95 : decode cX9_sift 95 = .ok (.getfield 31, 3) := by decide +kernel
theorem dX9_sift_98 : decode cX9_sift 98 = .ok (.iconst 0, 1) := by decide +kernel
theorem dX9_sift_99 : decode cX9_sift 99 = .ok (.invokestatic 50, 3) := by decide +kernel
theorem dX9_sift_102 : decode cX9_sift 102 = .ok (.aload_n 0, 1) := by decide +kernel
theorem dX9_sift_103 : decode cX9_sift 103 = .ok (.getfield 34, 3) := by decide +kernel
theorem dX9_sift_106 : decode cX9_sift 106 = .ok (.iconst 0, 1) := by decide +kernel
theorem dX9_sift_107 : decode cX9_sift 107 = .ok (.invokestatic 50, 3) := by decide +kernel
theorem dX9_sift_110 : decode cX9_sift 110 = .ok (.aload_n 0, 1) := by decide +kernel
theorem dX9_sift_111 : decode cX9_sift 111 = .ok (.getfield 25, 3) := by decide +kernel
theorem dX9_sift_114 : decode cX9_sift 114 = .ok (.iconst 0, 1) := by decide +kernel
theorem dX9_sift_115 : decode cX9_sift 115 = .ok (.iaload, 1) := by decide +kernel
theorem dX9_sift_116 : decode cX9_sift 116 = .ok (.istore 5, 2) := by decide +kernel
theorem dX9_sift_118 : decode cX9_sift 118 = .ok (.iload 5, 2) := by decide +kernel
theorem dX9_sift_120 : decode cX9_sift 120 = .ok (.aload_n 0, 1) := by decide +kernel
theorem dX9_sift_121 : decode cX9_sift 121 = .ok (.getfield 28, 3) := by decide +kernel
theorem dX9_sift_124 : decode cX9_sift 124 = .ok (.iconst 0, 1) := by decide +kernel
theorem dX9_sift_125 : decode cX9_sift 125 = .ok (.iaload, 1) := by decide +kernel
theorem dX9_sift_126 : decode cX9_sift 126 = .ok (.if_icmp .gt 98, 3) := by decide +kernel
theorem dX9_sift_129 : decode cX9_sift 129 = .ok (.aload_n 0, 1) := by decide +kernel
theorem dX9_sift_130 : decode cX9_sift 130 = .ok (.getfield 25, 3) := by decide +kernel
theorem dX9_sift_133 : decode cX9_sift 133 = .ok (.iconst 1, 1) := by decide +kernel
theorem dX9_sift_134 : decode cX9_sift 134 = .ok (.iaload, 1) := by decide +kernel
theorem dX9_sift_135 : decode cX9_sift 135 = .ok (.istore 6, 2) := by decide +kernel
theorem dX9_sift_137 : decode cX9_sift 137 = .ok (.iload 6, 2) := by decide +kernel
theorem dX9_sift_139 : decode cX9_sift 139 = .ok (.aload_n 0, 1) := by decide +kernel
theorem dX9_sift_140 : decode cX9_sift 140 = .ok (.getfield 28, 3) := by decide +kernel
theorem dX9_sift_143 : decode cX9_sift 143 = .ok (.iconst 1, 1) := by decide +kernel
theorem dX9_sift_144 : decode cX9_sift 144 = .ok (.iaload, 1) := by decide +kernel
theorem dX9_sift_145 : decode cX9_sift 145 = .ok (.if_icmp .gt 73, 3) := by decide +kernel
theorem dX9_sift_148 : decode cX9_sift 148 = .ok (.aload_n 0, 1) := by decide +kernel
theorem dX9_sift_149 : decode cX9_sift 149 = .ok (.getfield 25, 3) := by decide +kernel
theorem dX9_sift_152 : decode cX9_sift 152 = .ok (.iconst 2, 1) := by decide +kernel
theorem dX9_sift_153 : decode cX9_sift 153 = .ok (.iaload, 1) := by decide +kernel
theorem dX9_sift_154 : decode cX9_sift 154 = .ok (.istore 7, 2) := by decide +kernel
theorem dX9_sift_156 : decode cX9_sift 156 = .ok (.iload 7, 2) := by decide +kernel
theorem dX9_sift_158 : decode cX9_sift 158 = .ok (.aload_n 0, 1) := by decide +kernel
theorem dX9_sift_159 : decode cX9_sift 159 = .ok (.getfield 28, 3) := by decide +kernel
theorem dX9_sift_162 : decode cX9_sift 162 = .ok (.iconst 2, 1) := by decide +kernel
theorem dX9_sift_163 : decode cX9_sift 163 = .ok (.iaload, 1) := by decide +kernel
theorem dX9_sift_164 : decode cX9_sift 164 = .ok (.if_icmp .gt 48, 3) := by decide +kernel
theorem dX9_sift_167 : decode cX9_sift 167 = .ok (.iload 5, 2) := by decide +kernel
theorem dX9_sift_169 : decode cX9_sift 169 = .ok (.iload 6, 2) := by decide +kernel
theorem dX9_sift_171 : decode cX9_sift 171 = .ok (.iload 7, 2) := by decide +kernel
theorem dX9_sift_173 : decode cX9_sift 173 = .ok (.invokestatic 69, 3) := by decide +kernel
theorem dX9_sift_176 : decode cX9_sift 176 = .ok (.istore 8, 2) := by decide +kernel
theorem dX9_sift_178 : decode cX9_sift 178 = .ok (.iload 8, 2) := by decide +kernel
theorem dX9_sift_180 : decode cX9_sift 180 = .ok (.iload_n 3, 1) := by decide +kernel
theorem dX9_sift_181 : decode cX9_sift 181 = .ok (.iand, 1) := by decide +kernel
theorem dX9_sift_182 : decode cX9_sift 182 = .ok (.iload_n 3, 1) := by decide +kernel
theorem dX9_sift_183 : decode cX9_sift 183 = .ok (.if_icmp .ne 23, 3) := by decide +kernel
theorem dX9_sift_186 : decode cX9_sift 186 = .ok (.iload 8, 2) := by decide +kernel
theorem dX9_sift_188 : decode cX9_sift 188 = .ok (.iload 4, 2) := by decide +kernel
theorem dX9_sift_190 : decode cX9_sift 190 = .ok (.iand, 1) := by decide +kernel
theorem dX9_sift_191 : decode cX9_sift 191 = .ok (.ifCond .ne 15, 3) := by decide +kernel
theorem dX9_sift_194 : decode cX9_sift 194 = .ok (.aload_n 0, 1) := by decide +kernel
theorem dX9_sift_195 : decode cX9_sift 195 = .ok (.iload 5, 2) := by decide +kernel
theorem dX9_sift_197 : decode cX9_sift 197 = .ok (.iload 6, 2) := by decide +kernel
theorem dX9_sift_199 : decode cX9_sift 199 = .ok (.iload 7, 2) := by decide +kernel
theorem dX9_sift_201 : decode cX9_sift 201 = .ok (.iload 8, 2) := by decide +kernel
theorem dX9_sift_203 : decode cX9_sift 203 = .ok (.invokevirtual 73, 3) := by decide +kernel
theorem dX9_sift_206 : decode cX9_sift 206 = .ok (.iinc 7 1, 3) := by decide +kernel
theorem dX9_sift_209 : decode cX9_sift 209 = .ok (.goto (-53), 3) := by decide +kernel
theorem dX9_sift_212 : decode cX9_sift 212 = .ok (.iinc 6 1, 3) := by decide +kernel
theorem dX9_sift_215 : decode cX9_sift 215 = .ok (.goto (-78), 3) := by decide +kernel
theorem dX9_sift_218 : decode cX9_sift 218 = .ok (.iinc 5 1, 3) := by decide +kernel
theorem dX9_sift_221 : decode cX9_sift 221 = .ok (.goto (-103), 3) := by decide +kernel
theorem dX9_sift_224 : decode cX9_sift 224 = .ok (.return_, 1) := by decide +kernel
theorem dX9_noteRow_0 : decode cX9_noteRow 0 = .ok (.aload_n 0, 1) := by decide +kernel
theorem dX9_noteRow_1 : decode cX9_noteRow 1 = .ok (.getfield 40, 3) := by decide +kernel
theorem dX9_noteRow_4 : decode cX9_noteRow 4 = .ok (.iconst 0, 1) := by decide +kernel
theorem dX9_noteRow_5 : decode cX9_noteRow 5 = .ok (.iload_n 1, 1) := by decide +kernel
theorem dX9_noteRow_6 : decode cX9_noteRow 6 = .ok (.iastore, 1) := by decide +kernel
theorem dX9_noteRow_7 : decode cX9_noteRow 7 = .ok (.aload_n 0, 1) := by decide +kernel
theorem dX9_noteRow_8 : decode cX9_noteRow 8 = .ok (.getfield 40, 3) := by decide +kernel
theorem dX9_noteRow_11 : decode cX9_noteRow 11 = .ok (.iconst 1, 1) := by decide +kernel
theorem dX9_noteRow_12 : decode cX9_noteRow 12 = .ok (.iload_n 2, 1) := by decide +kernel
theorem dX9_noteRow_13 : decode cX9_noteRow 13 = .ok (.iastore, 1) := by decide +kernel
theorem dX9_noteRow_14 : decode cX9_noteRow 14 = .ok (.aload_n 0, 1) := by decide +kernel
theorem dX9_noteRow_15 : decode cX9_noteRow 15 = .ok (.getfield 40, 3) := by decide +kernel
theorem dX9_noteRow_18 : decode cX9_noteRow 18 = .ok (.iconst 2, 1) := by decide +kernel
theorem dX9_noteRow_19 : decode cX9_noteRow 19 = .ok (.iload_n 3, 1) := by decide +kernel
theorem dX9_noteRow_20 : decode cX9_noteRow 20 = .ok (.iastore, 1) := by decide +kernel
theorem dX9_noteRow_21 : decode cX9_noteRow 21 = .ok (.aload_n 0, 1) := by decide +kernel
theorem dX9_noteRow_22 : decode cX9_noteRow 22 = .ok (.getfield 66, 3) := by decide +kernel
theorem dX9_noteRow_25 : decode cX9_noteRow 25 = .ok (.ifCond .ne 17, 3) := by decide +kernel
theorem dX9_noteRow_28 : decode cX9_noteRow 28 = .ok (.aload_n 0, 1) := by decide +kernel
theorem dX9_noteRow_29 : decode cX9_noteRow 29 = .ok (.getfield 40, 3) := by decide +kernel
theorem dX9_noteRow_32 : decode cX9_noteRow 32 = .ok (.iconst 0, 1) := by decide +kernel
theorem dX9_noteRow_33 : decode cX9_noteRow 33 = .ok (.aload_n 0, 1) := by decide +kernel
theorem dX9_noteRow_34 : decode cX9_noteRow 34 = .ok (.getfield 37, 3) := by decide +kernel
theorem dX9_noteRow_37 : decode cX9_noteRow 37 = .ok (.iconst 0, 1) := by decide +kernel
theorem dX9_noteRow_38 : decode cX9_noteRow 38 = .ok (.iconst 3, 1) := by decide +kernel
theorem dX9_noteRow_39 : decode cX9_noteRow 39 = .ok (.invokestatic 77, 3) := by decide +kernel
theorem dX9_noteRow_42 : decode cX9_noteRow 42 = .ok (.aload_n 0, 1) := by decide +kernel
theorem dX9_noteRow_43 : decode cX9_noteRow 43 = .ok (.dup, 1) := by decide +kernel
theorem dX9_noteRow_44 : decode cX9_noteRow 44 = .ok (.getfield 66, 3) := by decide +kernel
theorem dX9_noteRow_47 : decode cX9_noteRow 47 = .ok (.iconst 1, 1) := by decide +kernel
theorem dX9_noteRow_48 : decode cX9_noteRow 48 = .ok (.iadd, 1) := by decide +kernel
theorem dX9_noteRow_49 : decode cX9_noteRow 49 = .ok (.putfield 66, 3) := by decide +kernel
theorem dX9_noteRow_52 : decode cX9_noteRow 52 = .ok (.iconst 0, 1) := by decide +kernel
theorem dX9_noteRow_53 : decode cX9_noteRow 53 = .ok (.istore 5, 2) := by decide +kernel
theorem dX9_noteRow_55 : decode cX9_noteRow 55 = .ok (.iload 5, 2) := by decide +kernel
theorem dX9_noteRow_57 : decode cX9_noteRow 57 = .ok (.iconst 3, 1) := by decide +kernel
theorem dX9_noteRow_58 : decode cX9_noteRow 58 = .ok (.if_icmp .ge 60, 3) := by decide +kernel
theorem dX9_noteRow_61 : decode cX9_noteRow 61 = .ok (.aload_n 0, 1) := by decide +kernel
theorem dX9_noteRow_62 : decode cX9_noteRow 62 = .ok (.getfield 31, 3) := by decide +kernel
theorem dX9_noteRow_65 : decode cX9_noteRow 65 = .ok (.iload 5, 2) := by decide +kernel
theorem dX9_noteRow_67 : decode cX9_noteRow 67 = .ok (.dup2, 1) := by decide +kernel
theorem dX9_noteRow_68 : decode cX9_noteRow 68 = .ok (.iaload, 1) := by decide +kernel
theorem dX9_noteRow_69 : decode cX9_noteRow 69 = .ok (.iload 4, 2) := by decide +kernel
theorem dX9_noteRow_71 : decode cX9_noteRow 71 = .ok (.iload 5, 2) := by decide +kernel
theorem dX9_noteRow_73 : decode cX9_noteRow 73 = .ok (.ishr, 1) := by decide +kernel
theorem dX9_noteRow_74 : decode cX9_noteRow 74 = .ok (.iconst 1, 1) := by decide +kernel
theorem dX9_noteRow_75 : decode cX9_noteRow 75 = .ok (.iand, 1) := by decide +kernel
theorem dX9_noteRow_76 : decode cX9_noteRow 76 = .ok (.iadd, 1) := by decide +kernel
theorem dX9_noteRow_77 : decode cX9_noteRow 77 = .ok (.iastore, 1) := by decide +kernel
theorem dX9_noteRow_78 : decode cX9_noteRow 78 = .ok (.aload_n 0, 1) := by decide +kernel
theorem dX9_noteRow_79 : decode cX9_noteRow 79 = .ok (.getfield 34, 3) := by decide +kernel
theorem dX9_noteRow_82 : decode cX9_noteRow 82 = .ok (.iload 5, 2) := by decide +kernel
theorem dX9_noteRow_84 : decode cX9_noteRow 84 = .ok (.dup2, 1) := by decide +kernel
theorem dX9_noteRow_85 : decode cX9_noteRow 85 = .ok (.iaload, 1) := by decide +kernel
theorem dX9_noteRow_86 : decode cX9_noteRow 86 = .ok (.aload_n 0, 1) := by decide +kernel
theorem dX9_noteRow_87 : decode cX9_noteRow 87 = .ok (.getfield 40, 3) := by decide +kernel
theorem dX9_noteRow_90 : decode cX9_noteRow 90 = .ok (.iload 5, 2) := by decide +kernel
theorem dX9_noteRow_92 : decode cX9_noteRow 92 = .ok (.iaload, 1) := by decide +kernel
theorem dX9_noteRow_93 : decode cX9_noteRow 93 = .ok (.iconst (-1), 1) := by decide +kernel
theorem dX9_noteRow_94 : decode cX9_noteRow 94 = .ok (.if_icmp .ne 7, 3) := by decide +kernel
theorem dX9_noteRow_97 : decode cX9_noteRow 97 = .ok (.iconst 0, 1) := by decide +kernel
theorem dX9_noteRow_98 : decode cX9_noteRow 98 = .ok (.goto 12, 3) := by decide +kernel
theorem dX9_noteRow_101 : decode cX9_noteRow 101 = .ok (.iconst 1, 1) := by decide +kernel
theorem dX9_noteRow_102 : decode cX9_noteRow 102 = .ok (.aload_n 0, 1) := by decide +kernel
theorem dX9_noteRow_103 : decode cX9_noteRow 103 = .ok (.getfield 40, 3) := by decide +kernel
theorem dX9_noteRow_106 : decode cX9_noteRow 106 = .ok (.iload 5, 2) := by decide +kernel
theorem dX9_noteRow_108 : decode cX9_noteRow 108 = .ok (.iaload, 1) := by decide +kernel
theorem dX9_noteRow_109 : decode cX9_noteRow 109 = .ok (.ishl, 1) := by decide +kernel
theorem dX9_noteRow_110 : decode cX9_noteRow 110 = .ok (.ior, 1) := by decide +kernel
theorem dX9_noteRow_111 : decode cX9_noteRow 111 = .ok (.iastore, 1) := by decide +kernel
theorem dX9_noteRow_112 : decode cX9_noteRow 112 = .ok (.iinc 5 1, 3) := by decide +kernel
theorem dX9_noteRow_115 : decode cX9_noteRow 115 = .ok (.goto (-60), 3) := by decide +kernel
theorem dX9_noteRow_118 : decode cX9_noteRow 118 = .ok (.return_, 1) := by decide +kernel
theorem dX10_init_0 : decode cX10_init 0 = .ok (.aload_n 0, 1) := by decide +kernel
theorem dX10_init_1 : decode cX10_init 1 = .ok (.invokespecial 3, 3) := by decide +kernel
theorem dX10_init_4 : decode cX10_init 4 = .ok (.aload_n 0, 1) := by decide +kernel
theorem dX10_init_5 : decode cX10_init 5 = .ok (.bipush 48, 2) := by decide +kernel
theorem dX10_init_7 : decode cX10_init 7 = .ok (.newarray .int, 2) := by decide +kernel
theorem dX10_init_9 : decode cX10_init 9 = .ok (.putfield 9, 3) := by decide +kernel
theorem dX10_init_12 : decode cX10_init 12 = .ok (.aload_n 0, 1) := by decide +kernel
theorem dX10_init_13 : decode cX10_init 13 = .ok (.bipush 16, 2) := by decide +kernel
theorem dX10_init_15 : decode cX10_init 15 = .ok (.newarray .int, 2) := by decide +kernel
theorem dX10_init_17 : decode cX10_init 17 = .ok (.putfield 15, 3) := by decide +kernel
theorem dX10_init_20 : decode cX10_init 20 = .ok (.aload_n 0, 1) := by decide +kernel
theorem dX10_init_21 : decode cX10_init 21 = .ok (.bipush 16, 2) := by decide +kernel
theorem dX10_init_23 : decode cX10_init 23 = .ok (.newarray .int, 2) := by decide +kernel
theorem dX10_init_25 : decode cX10_init 25 = .ok (.putfield 18, 3) := by decide +kernel
theorem dX10_init_28 : decode cX10_init 28 = .ok (.aload_n 0, 1) := by decide +kernel
theorem dX10_init_29 : decode cX10_init 29 = .ok (.bipush 16, 2) := by decide +kernel
theorem dX10_init_31 : decode cX10_init 31 = .ok (.newarray .int, 2) := by decide +kernel
theorem dX10_init_33 : decode cX10_init 33 = .ok (.putfield 21, 3) := by decide +kernel
theorem dX10_init_36 : decode cX10_init 36 = .ok (.aload_n 0, 1) := by decide +kernel
theorem dX10_init_37 : decode cX10_init 37 = .ok (.getfield 9, 3) := by decide +kernel
theorem dX10_init_40 : decode cX10_init 40 = .ok (.iconst (-1), 1) := by decide +kernel
theorem dX10_init_41 : decode cX10_init 41 = .ok (.invokestatic 24, 3) := by decide +kernel
theorem dX10_init_44 : decode cX10_init 44 = .ok (.return_, 1) := by decide +kernel
theorem dX10_fitThickness_0 : decode cX10_fitThickness 0 = .ok (.iconst 0, 1) := by decide +kernel
theorem dX10_fitThickness_1 : decode cX10_fitThickness 1 = .ok (.bipush 9, 2) := by decide +kernel
theorem dX10_fitThickness_3 : decode cX10_fitThickness 3 = .ok (.iload_n 0, 1) := by decide +kernel
theorem dX10_fitThickness_4 : decode cX10_fitThickness 4 = .ok (.invokestatic 30, 3) := by decide +kernel
theorem dX10_fitThickness_7 : decode cX10_fitThickness 7 = .ok (.invokestatic 36, 3) := by decide +kernel
theorem dX10_fitThickness_10 : decode cX10_fitThickness 10 = .ok (.ireturn, 1) := by decide +kernel
theorem dX10_wrongSign_0 : decode cX10_wrongSign 0 = .ok (.iconst 0, 1) := by decide +kernel
theorem dX10_wrongSign_1 : decode cX10_wrongSign 1 = .ok (.istore_n 1, 1) := by decide +kernel
theorem dX10_wrongSign_2 : decode cX10_wrongSign 2 = .ok (.iconst 0, 1) := by decide +kernel
theorem dX10_wrongSign_3 : decode cX10_wrongSign 3 = .ok (.istore_n 2, 1) := by decide +kernel
theorem dX10_wrongSign_4 : decode cX10_wrongSign 4 = .ok (.iload_n 2, 1) := by decide +kernel
theorem dX10_wrongSign_5 : decode cX10_wrongSign 5 = .ok (.aload_n 0, 1) := by decide +kernel
theorem dX10_wrongSign_6 : decode cX10_wrongSign 6 = .ok (.getfield 39, 3) := by decide +kernel
theorem dX10_wrongSign_9 : decode cX10_wrongSign 9 = .ok (.if_icmp .ge 88, 3) := by decide +kernel
theorem dX10_wrongSign_12 : decode cX10_wrongSign 12 = .ok (.iload_n 2, 1) := by decide +kernel
theorem dX10_wrongSign_13 : decode cX10_wrongSign 13 = .ok (.iconst 4, 1) := by decide +kernel
theorem dX10_wrongSign_14 : decode cX10_wrongSign 14 = .ok (.irem, 1) := by decide +kernel
theorem dX10_wrongSign_15 : decode cX10_wrongSign 15 = .ok (.istore_n 3, 1) := by decide +kernel
theorem dX10_wrongSign_16 : decode cX10_wrongSign 16 = .ok (.iload_n 3, 1) := by decide +kernel
theorem dX10_wrongSign_17 : decode cX10_wrongSign 17 = .ok (.ifCond .ne 7, 3) := by decide +kernel
theorem dX10_wrongSign_20 : decode cX10_wrongSign 20 = .ok (.iconst 0, 1) := by decide +kernel
theorem dX10_wrongSign_21 : decode cX10_wrongSign 21 = .ok (.goto 4, 3) := by decide +kernel
theorem dX10_wrongSign_24 : decode cX10_wrongSign 24 = .ok (.iload_n 1, 1) := by decide +kernel
theorem dX10_wrongSign_25 : decode cX10_wrongSign 25 = .ok (.istore_n 1, 1) := by decide +kernel
theorem dX10_wrongSign_26 : decode cX10_wrongSign 26 = .ok (.iload_n 2, 1) := by decide +kernel
theorem dX10_wrongSign_27 : decode cX10_wrongSign 27 = .ok (.iconst 4, 1) := by decide +kernel
theorem dX10_wrongSign_28 : decode cX10_wrongSign 28 = .ok (.idiv, 1) := by decide +kernel
theorem dX10_wrongSign_29 : decode cX10_wrongSign 29 = .ok (.bipush 16, 2) := by decide +kernel
theorem dX10_wrongSign_31 : decode cX10_wrongSign 31 = .ok (.if_icmp .lt 5, 3) := by decide +kernel
theorem dX10_wrongSign_34 : decode cX10_wrongSign 34 = .ok (.iload_n 2, 1) := by decide +kernel
theorem dX10_wrongSign_35 : decode cX10_wrongSign 35 = .ok (.ireturn, 1) := by decide +kernel
theorem dX10_wrongSign_36 : decode cX10_wrongSign 36 = .ok (.iload_n 3, 1) := by decide +kernel
theorem dX10_wrongSign_37 : decode cX10_wrongSign 37 = .ok (.iconst 3, 1) := by decide +kernel
theorem dX10_wrongSign_38 : decode cX10_wrongSign 38 = .ok (.if_icmp .ne 16, 3) := by decide +kernel
theorem dX10_wrongSign_41 : decode cX10_wrongSign 41 = .ok (.aload_n 0, 1) := by decide +kernel
theorem dX10_wrongSign_42 : decode cX10_wrongSign 42 = .ok (.iload_n 2, 1) := by decide +kernel
theorem dX10_wrongSign_43 : decode cX10_wrongSign 43 = .ok (.ldc 45, 2) := by decide +kernel
theorem dX10_wrongSign_45 : decode cX10_wrongSign 45 = .ok (.invokevirtual 47, 3) := by decide +kernel
theorem dX10_wrongSign_48 : decode cX10_wrongSign 48 = .ok (.ifCond .ne 18, 3) := by decide +kernel
theorem dX10_wrongSign_51 : decode cX10_wrongSign 51 = .ok (.goto 13, 3) := by decide +kernel
theorem dX10_wrongSign_54 : decode cX10_wrongSign 54 = .ok (.aload_n 0, 1) := by decide +kernel
theorem dX10_wrongSign_55 : decode cX10_wrongSign 55 = .ok (.iload_n 2, 1) := by decide +kernel
theorem dX10_wrongSign_56 : decode cX10_wrongSign 56 = .ok (.ldc 51, 2) := by decide +kernel
theorem dX10_wrongSign_58 : decode cX10_wrongSign 58 = .ok (.invokevirtual 47, 3) := by decide +kernel
theorem dX10_wrongSign_61 : decode cX10_wrongSign 61 = .ok (.ifCond .ne 5, 3) := by decide +kernel
theorem dX10_wrongSign_64 : decode cX10_wrongSign 64 = .ok (.iload_n 2, 1) := by decide +kernel
theorem dX10_wrongSign_65 : decode cX10_wrongSign 65 = .ok (.ireturn, 1) := by decide +kernel
theorem dX10_wrongSign_66 : decode cX10_wrongSign 66 = .ok (.iload_n 1, 1) := by decide +kernel
theorem dX10_wrongSign_67 : decode cX10_wrongSign 67 = .ok (.aload_n 0, 1) := by decide +kernel
theorem dX10_wrongSign_68 : decode cX10_wrongSign 68 = .ok (.iload_n 2, 1) := by decide +kernel
theorem dX10_wrongSign_69 : decode cX10_wrongSign 69 = .ok (.ldc 53, 2) := by decide +kernel
theorem dX10_wrongSign_71 : decode cX10_wrongSign 71 = .ok (.invokevirtual 47, 3) := by decide +kernel
theorem dX10_wrongSign_74 : decode cX10_wrongSign 74 = .ok (.ifCond .eq 7, 3) := by decide +kernel
theorem dX10_wrongSign_77 : decode cX10_wrongSign 77 = .ok (.iconst 1, 1) := by decide +kernel
theorem dX10_wrongSign_78 : decode cX10_wrongSign 78 = .ok (.goto 4, 3) := by decide +kernel
theorem dX10_wrongSign_81 : decode cX10_wrongSign 81 = .ok (.iconst 0, 1) := by decide +kernel
theorem dX10_wrongSign_82 : decode cX10_wrongSign 82 = .ok (.iadd, 1) := by decide +kernel
theorem dX10_wrongSign_83 : decode cX10_wrongSign 83 = .ok (.istore_n 1, 1) := by decide +kernel
theorem dX10_wrongSign_84 : decode cX10_wrongSign 84 = .ok (.iload_n 1, 1) := by decide +kernel
theorem dX10_wrongSign_85 : decode cX10_wrongSign 85 = .ok (.iconst 3, 1) := by decide +kernel
theorem dX10_wrongSign_86 : decode cX10_wrongSign 86 = .ok (.if_icmp .ne 5, 3) := by decide +kernel
theorem dX10_wrongSign_89 : decode cX10_wrongSign 89 = .ok (.iload_n 2, 1) := by decide +kernel
theorem dX10_wrongSign_90 : decode cX10_wrongSign 90 = .ok (.ireturn, 1) := by decide +kernel
theorem dX10_wrongSign_91 : decode cX10_wrongSign 91 = .ok (.iinc 2 1, 3) := by decide +kernel
theorem dX10_wrongSign_94 : decode cX10_wrongSign 94 = .ok (.goto (-90), 3) := by decide +kernel
theorem dX10_wrongSign_97 : decode cX10_wrongSign 97 = .ok (.aload_n 0, 1) := by decide +kernel
theorem dX10_wrongSign_98 : decode cX10_wrongSign 98 = .ok (.getfield 39, 3) := by decide +kernel
theorem dX10_wrongSign_101 : decode cX10_wrongSign 101 = .ok (.ifCond .eq 13, 3) := by decide +kernel
theorem dX10_wrongSign_104 : decode cX10_wrongSign 104 = .ok (.aload_n 0, 1) := by decide +kernel
theorem dX10_wrongSign_105 : decode cX10_wrongSign 105 = .ok (.getfield 39, 3) := by decide +kernel
theorem dX10_wrongSign_108 : decode cX10_wrongSign 108 = .ok (.iconst 4, 1) := by decide +kernel
theorem dX10_wrongSign_109 : decode cX10_wrongSign 109 = .ok (.irem, 1) := by decide +kernel
theorem dX10_wrongSign_110 : decode cX10_wrongSign 110 = .ok (.iconst 3, 1) := by decide +kernel
theorem dX10_wrongSign_111 : decode cX10_wrongSign 111 = .ok (.if_icmp .ne 7, 3) := by decide +kernel
theorem dX10_wrongSign_114 : decode cX10_wrongSign 114 = .ok (.iconst (-1), 1) := by decide +kernel
theorem dX10_wrongSign_115 : decode cX10_wrongSign 115 = .ok (.goto 7, 3) := by decide +kernel

theorem dX12_sign_42 : decode cX12_sign 42 = .ok (.sipush 255, 3) := by decide +kernel
theorem dX12_sign_45 : decode cX12_sign 45 = .ok (.iand, 1) := by decide +kernel
theorem dX12_sign_46 : decode cX12_sign 46 = .ok (.iastore, 1) := by decide +kernel
theorem dX12_sign_47 : decode cX12_sign 47 = .ok (.iinc 2 1, 3) := by decide +kernel
theorem dX12_sign_50 : decode cX12_sign 50 = .ok (.goto (-32), 3) := by decide +kernel
theorem dX12_sign_53 : decode cX12_sign 53 = .ok (.aload_n 0, 1) := by decide +kernel
theorem dX12_sign_54 : decode cX12_sign 54 = .ok (.dup, 1) := by decide +kernel
theorem dX12_sign_55 : decode cX12_sign 55 = .ok (.getfield 143, 3) := by decide +kernel
theorem dX12_sign_58 : decode cX12_sign 58 = .ok (.iconst 4, 1) := by decide +kernel
theorem dX12_sign_59 : decode cX12_sign 59 = .ok (.iadd, 1) := by decide +kernel
theorem dX12_sign_60 : decode cX12_sign 60 = .ok (.putfield 143, 3) := by decide +kernel
theorem dX12_sign_63 : decode cX12_sign 63 = .ok (.aload_n 0, 1) := by decide +kernel
theorem dX12_sign_64 : decode cX12_sign 64 = .ok (.getfield 143, 3) := by decide +kernel
theorem dX12_sign_67 : decode cX12_sign 67 = .ok (.ireturn, 1) := by decide +kernel
theorem dX12_end_0 : decode cX12_end 0 = .ok (.aload_n 0, 1) := by decide +kernel
theorem dX12_end_1 : decode cX12_end 1 = .ok (.iconst 0, 1) := by decide +kernel
theorem dX12_end_2 : decode cX12_end 2 = .ok (.putfield 3, 3) := by decide +kernel
theorem dX12_end_5 : decode cX12_end 5 = .ok (.iload_n 1, 1) := by decide +kernel
theorem dX12_end_6 : decode cX12_end 6 = .ok (.i2l, 1) := by decide +kernel
theorem dX12_end_7 : decode cX12_end 7 = .ok (.lconst 0, 1) := by decide +kernel
theorem dX12_end_8 : decode cX12_end 8 = .ok (.aload_n 0, 1) := by decide +kernel
theorem dX12_end_9 : decode cX12_end 9 = .ok (.getfield 143, 3) := by decide +kernel
theorem dX12_end_12 : decode cX12_end 12 = .ok (.i2l, 1) := by decide +kernel
theorem dX12_end_13 : decode cX12_end 13 = .ok (.invokestatic 135, 3) := by decide +kernel
theorem dX12_end_16 : decode cX12_end 16 = .ok (.ifCond .ne 5, 3) := by decide +kernel
theorem dX12_end_19 : decode cX12_end 19 = .ok (.iconst 0, 1) := by decide +kernel
theorem dX12_end_20 : decode cX12_end 20 = .ok (.ireturn, 1) := by decide +kernel
theorem dX12_end_21 : decode cX12_end 21 = .ok (.aload_n 0, 1) := by decide +kernel
theorem dX12_end_22 : decode cX12_end 22 = .ok (.iload_n 1, 1) := by decide +kernel
theorem dX12_end_23 : decode cX12_end 23 = .ok (.putfield 143, 3) := by decide +kernel
theorem dX12_end_26 : decode cX12_end 26 = .ok (.iconst 1, 1) := by decide +kernel
theorem dX12_end_27 : decode cX12_end 27 = .ok (.ireturn, 1) := by decide +kernel
theorem dX12_begins_0 : decode cX12_begins 0 = .ok (.aload_n 0, 1) := by decide +kernel
theorem dX12_begins_1 : decode cX12_begins 1 = .ok (.getfield 143, 3) := by decide +kernel
theorem dX12_begins_4 : decode cX12_begins 4 = .ok (.istore_n 2, 1) := by decide +kernel
theorem dX12_begins_5 : decode cX12_begins 5 = .ok (.aload_n 0, 1) := by decide +kernel
theorem dX12_begins_6 : decode cX12_begins 6 = .ok (.iconst 0, 1) := by decide +kernel
theorem dX12_begins_7 : decode cX12_begins 7 = .ok (.putfield 143, 3) := by decide +kernel
theorem dX12_begins_10 : decode cX12_begins 10 = .ok (.aload_n 0, 1) := by decide +kernel
theorem dX12_begins_11 : decode cX12_begins 11 = .ok (.iconst 0, 1) := by decide +kernel
theorem dX12_begins_12 : decode cX12_begins 12 = .ok (.putfield 146, 3) := by decide +kernel
theorem dX12_begins_15 : decode cX12_begins 15 = .ok (.aload_n 0, 1) := by decide +kernel
theorem dX12_begins_16 : decode cX12_begins 16 = .ok (.iconst 0, 1) := by decide +kernel
theorem dX12_begins_17 : decode cX12_begins 17 = .ok (.putfield 149, 3) := by decide +kernel
theorem dX12_begins_20 : decode cX12_begins 20 = .ok (.aload_n 0, 1) := by decide +kernel
theorem dX12_begins_21 : decode cX12_begins 21 = .ok (.iload_n 2, 1) := by decide +kernel
theorem dX12_begins_22 : decode cX12_begins 22 = .ok (.iload_n 1, 1) := by decide +kernel
theorem dX12_begins_23 : decode cX12_begins 23 = .ok (.invokestatic 152, 3) := by decide +kernel
theorem dX12_begins_26 : decode cX12_begins 26 = .ok (.putfield 158, 3) := by decide +kernel
theorem dX12_begins_29 : decode cX12_begins 29 = .ok (.iload_n 2, 1) := by decide +kernel
theorem dX12_begins_30 : decode cX12_begins 30 = .ok (.ireturn, 1) := by decide +kernel
theorem dX12_takes_0 : decode cX12_takes 0 = .ok (.aload_n 0, 1) := by decide +kernel
theorem dX12_takes_1 : decode cX12_takes 1 = .ok (.getfield 146, 3) := by decide +kernel
theorem dX12_takes_4 : decode cX12_takes 4 = .ok (.aload_n 0, 1) := by decide +kernel
theorem dX12_takes_5 : decode cX12_takes 5 = .ok (.getfield 158, 3) := by decide +kernel
theorem dX12_takes_8 : decode cX12_takes 8 = .ok (.if_icmp .ge 20, 3) := by decide +kernel
theorem dX12_takes_11 : decode cX12_takes 11 = .ok (.aload_n 0, 1) := by decide +kernel
theorem dX12_takes_12 : decode cX12_takes 12 = .ok (.getfield 37, 3) := by decide +kernel
theorem dX12_takes_15 : decode cX12_takes 15 = .ok (.aload_n 0, 1) := by decide +kernel
theorem dX12_takes_16 : decode cX12_takes 16 = .ok (.getfield 146, 3) := by decide +kernel
theorem dX12_takes_19 : decode cX12_takes 19 = .ok (.iaload, 1) := by decide +kernel
theorem dX12_takes_20 : decode cX12_takes 20 = .ok (.iload_n 1, 1) := by decide +kernel
theorem dX12_takes_21 : decode cX12_takes 21 = .ok (.if_icmp .ne 7, 3) := by decide +kernel
theorem dX12_takes_24 : decode cX12_takes 24 = .ok (.iconst 1, 1) := by decide +kernel
theorem dX12_takes_25 : decode cX12_takes 25 = .ok (.goto 4, 3) := by decide +kernel
theorem dX12_takes_28 : decode cX12_takes 28 = .ok (.iconst 0, 1) := by decide +kernel
theorem dX12_takes_29 : decode cX12_takes 29 = .ok (.istore_n 2, 1) := by decide +kernel
theorem dX12_takes_30 : decode cX12_takes 30 = .ok (.aload_n 0, 1) := by decide +kernel
theorem dX12_takes_31 : decode cX12_takes 31 = .ok (.dup, 1) := by decide +kernel
theorem dX12_takes_32 : decode cX12_takes 32 = .ok (.getfield 146, 3) := by decide +kernel
theorem dX12_takes_35 : decode cX12_takes 35 = .ok (.iload_n 2, 1) := by decide +kernel
theorem dX12_takes_36 : decode cX12_takes 36 = .ok (.invokestatic 139, 3) := by decide +kernel
theorem dX12_takes_39 : decode cX12_takes 39 = .ok (.iadd, 1) := by decide +kernel
theorem dX12_takes_40 : decode cX12_takes 40 = .ok (.putfield 146, 3) := by decide +kernel
theorem dX12_takes_43 : decode cX12_takes 43 = .ok (.iload_n 2, 1) := by decide +kernel
theorem dX12_takes_44 : decode cX12_takes 44 = .ok (.ireturn, 1) := by decide +kernel
theorem dX12_isDigit_0 : decode cX12_isDigit 0 = .ok (.aload_n 0, 1) := by decide +kernel
theorem dX12_isDigit_1 : decode cX12_isDigit 1 = .ok (.getfield 146, 3) := by decide +kernel
theorem dX12_isDigit_4 : decode cX12_isDigit 4 = .ok (.aload_n 0, 1) := by decide +kernel
theorem dX12_isDigit_5 : decode cX12_isDigit 5 = .ok (.getfield 158, 3) := by decide +kernel
theorem dX12_isDigit_8 : decode cX12_isDigit 8 = .ok (.if_icmp .ge 29, 3) := by decide +kernel
theorem dX12_isDigit_11 : decode cX12_isDigit 11 = .ok (.aload_n 0, 1) := by decide +kernel
theorem dX12_isDigit_12 : decode cX12_isDigit 12 = .ok (.getfield 37, 3) := by decide +kernel
theorem dX12_isDigit_15 : decode cX12_isDigit 15 = .ok (.aload_n 0, 1) := by decide +kernel
theorem dX12_isDigit_16 : decode cX12_isDigit 16 = .ok (.getfield 146, 3) := by decide +kernel
theorem dX12_isDigit_19 : decode cX12_isDigit 19 = .ok (.iaload, 1) := by decide +kernel
theorem dX12_isDigit_20 : decode cX12_isDigit 20 = .ok (.i2l, 1) := by decide +kernel
theorem dX12_isDigit_21 : decode cX12_isDigit 21 = .ok (.ldc2_w 161, 3) := by decide +kernel
theorem dX12_isDigit_24 : decode cX12_isDigit 24 = .ok (.ldc2_w 163, 3) := by decide +kernel
theorem dX12_isDigit_27 : decode cX12_isDigit 27 = .ok (.invokestatic 135, 3) := by decide +kernel
theorem dX12_isDigit_30 : decode cX12_isDigit 30 = .ok (.ifCond .eq 7, 3) := by decide +kernel
theorem dX12_isDigit_33 : decode cX12_isDigit 33 = .ok (.iconst 1, 1) := by decide +kernel
theorem dX12_isDigit_34 : decode cX12_isDigit 34 = .ok (.goto 4, 3) := by decide +kernel
theorem dX12_isDigit_37 : decode cX12_isDigit 37 = .ok (.iconst 0, 1) := by decide +kernel
theorem dX12_isDigit_38 : decode cX12_isDigit 38 = .ok (.ireturn, 1) := by decide +kernel
theorem dX12_among_0 : decode cX12_among 0 = .ok (.iconst 0, 1) := by decide +kernel
theorem dX12_among_1 : decode cX12_among 1 = .ok (.istore_n 2, 1) := by decide +kernel
theorem dX12_among_2 : decode cX12_among 2 = .ok (.iload_n 2, 1) := by decide +kernel
theorem dX12_among_3 : decode cX12_among 3 = .ok (.aload_n 1, 1) := by decide +kernel
theorem dX12_among_4 : decode cX12_among 4 = .ok (.invokevirtual 165, 3) := by decide +kernel
theorem dX12_among_7 : decode cX12_among 7 = .ok (.if_icmp .ge 39, 3) := by decide +kernel
theorem dX12_among_10 : decode cX12_among 10 = .ok (.aload_n 0, 1) := by decide +kernel
theorem dX12_among_11 : decode cX12_among 11 = .ok (.getfield 146, 3) := by decide +kernel
theorem dX12_among_14 : decode cX12_among 14 = .ok (.aload_n 0, 1) := by decide +kernel
theorem dX12_among_15 : decode cX12_among 15 = .ok (.getfield 158, 3) := by decide +kernel
theorem dX12_among_18 : decode cX12_among 18 = .ok (.if_icmp .ge 28, 3) := by decide +kernel
theorem dX12_among_21 : decode cX12_among 21 = .ok (.aload_n 1, 1) := by decide +kernel
theorem dX12_among_22 : decode cX12_among 22 = .ok (.iload_n 2, 1) := by decide +kernel
theorem dX12_among_23 : decode cX12_among 23 = .ok (.invokevirtual 170, 3) := by decide +kernel
theorem dX12_among_26 : decode cX12_among 26 = .ok (.aload_n 0, 1) := by decide +kernel
theorem dX12_among_27 : decode cX12_among 27 = .ok (.getfield 37, 3) := by decide +kernel
theorem dX12_among_30 : decode cX12_among 30 = .ok (.aload_n 0, 1) := by decide +kernel
theorem dX12_among_31 : decode cX12_among 31 = .ok (.getfield 146, 3) := by decide +kernel
theorem dX12_among_34 : decode cX12_among 34 = .ok (.iaload, 1) := by decide +kernel
theorem dX12_among_35 : decode cX12_among 35 = .ok (.if_icmp .ne 5, 3) := by decide +kernel
theorem dX12_among_38 : decode cX12_among 38 = .ok (.iload_n 2, 1) := by decide +kernel
theorem dX12_among_39 : decode cX12_among 39 = .ok (.ireturn, 1) := by decide +kernel
theorem dX12_among_40 : decode cX12_among 40 = .ok (.iinc 2 1, 3) := by decide +kernel
theorem dX12_among_43 : decode cX12_among 43 = .ok (.goto (-41), 3) := by decide +kernel
theorem dX12_among_46 : decode cX12_among 46 = .ok (.iconst (-1), 1) := by decide +kernel
theorem dX12_among_47 : decode cX12_among 47 = .ok (.ireturn, 1) := by decide +kernel
theorem dX12_faultOf_0 : decode cX12_faultOf 0 = .ok (.iload_n 3, 1) := by decide +kernel
theorem dX12_faultOf_1 : decode cX12_faultOf 1 = .ok (.ifCond .eq 18, 3) := by decide +kernel
theorem dX12_faultOf_4 : decode cX12_faultOf 4 = .ok (.aload_n 0, 1) := by decide +kernel
theorem dX12_faultOf_5 : decode cX12_faultOf 5 = .ok (.getfield 146, 3) := by decide +kernel
theorem dX12_faultOf_8 : decode cX12_faultOf 8 = .ok (.aload_n 0, 1) := by decide +kernel
theorem dX12_faultOf_9 : decode cX12_faultOf 9 = .ok (.getfield 158, 3) := by decide +kernel
theorem dX12_faultOf_12 : decode cX12_faultOf 12 = .ok (.if_icmp .ne 7, 3) := by decide +kernel
theorem dX12_faultOf_15 : decode cX12_faultOf 15 = .ok (.iconst 1, 1) := by decide +kernel
theorem dX12_faultOf_16 : decode cX12_faultOf 16 = .ok (.goto 4, 3) := by decide +kernel
theorem dX12_faultOf_19 : decode cX12_faultOf 19 = .ok (.iconst 0, 1) := by decide +kernel
theorem dX12_faultOf_20 : decode cX12_faultOf 20 = .ok (.istore 4, 2) := by decide +kernel
theorem dX12_faultOf_22 : decode cX12_faultOf 22 = .ok (.iload_n 1, 1) := by decide +kernel
theorem dX12_faultOf_23 : decode cX12_faultOf 23 = .ok (.iload_n 2, 1) := by decide +kernel
theorem dX12_faultOf_24 : decode cX12_faultOf 24 = .ok (.if_icmp .le 20, 3) := by decide +kernel
theorem dX12_faultOf_27 : decode cX12_faultOf 27 = .ok (.iload 4, 2) := by decide +kernel
theorem dX12_faultOf_29 : decode cX12_faultOf 29 = .ok (.ifCond .ne 11, 3) := by decide +kernel
theorem dX12_faultOf_32 : decode cX12_faultOf 32 = .ok (.aload_n 0, 1) := by decide +kernel
theorem dX12_faultOf_33 : decode cX12_faultOf 33 = .ok (.getfield 146, 3) := by decide +kernel
theorem dX12_faultOf_36 : decode cX12_faultOf 36 = .ok (.iload_n 2, 1) := by decide +kernel
theorem dX12_faultOf_37 : decode cX12_faultOf 37 = .ok (.if_icmp .lt 7, 3) := by decide +kernel
theorem dX12_faultOf_40 : decode cX12_faultOf 40 = .ok (.iconst (-1), 1) := by decide +kernel
theorem dX12_faultOf_41 : decode cX12_faultOf 41 = .ok (.iload_n 2, 1) := by decide +kernel
theorem dX12_faultOf_42 : decode cX12_faultOf 42 = .ok (.isub, 1) := by decide +kernel
theorem dX12_faultOf_43 : decode cX12_faultOf 43 = .ok (.ireturn, 1) := by decide +kernel
theorem dX12_faultOf_44 : decode cX12_faultOf 44 = .ok (.iload 4, 2) := by decide +kernel
theorem dX12_faultOf_46 : decode cX12_faultOf 46 = .ok (.ifCond .eq 7, 3) := by decide +kernel
theorem dX12_faultOf_49 : decode cX12_faultOf 49 = .ok (.iconst 0, 1) := by decide +kernel
theorem dX12_faultOf_50 : decode cX12_faultOf 50 = .ok (.goto 9, 3) := by decide +kernel
theorem dX12_faultOf_53 : decode cX12_faultOf 53 = .ok (.iconst (-1), 1) := by decide +kernel
theorem dX12_faultOf_54 : decode cX12_faultOf 54 = .ok (.aload_n 0, 1) := by decide +kernel
theorem dX12_faultOf_55 : decode cX12_faultOf 55 = .ok (.getfield 146, 3) := by decide +kernel
theorem dX12_faultOf_58 : decode cX12_faultOf 58 = .ok (.isub, 1) := by decide +kernel
theorem dX12_faultOf_59 : decode cX12_faultOf 59 = .ok (.ireturn, 1) := by decide +kernel
theorem dX12_readsLayer_0 : decode cX12_readsLayer 0 = .ok (.iconst 0, 1) := by decide +kernel
theorem dX12_readsLayer_1 : decode cX12_readsLayer 1 = .ok (.istore_n 2, 1) := by decide +kernel
theorem dX12_readsLayer_2 : decode cX12_readsLayer 2 = .ok (.iconst 0, 1) := by decide +kernel
theorem dX12_readsLayer_3 : decode cX12_readsLayer 3 = .ok (.istore_n 3, 1) := by decide +kernel
theorem dX12_readsLayer_4 : decode cX12_readsLayer 4 = .ok (.iload_n 3, 1) := by decide +kernel
theorem dX12_readsLayer_5 : decode cX12_readsLayer 5 = .ok (.iconst 3, 1) := by decide +kernel
theorem dX12_readsLayer_6 : decode cX12_readsLayer 6 = .ok (.if_icmp .ge 120, 3) := by decide +kernel
theorem dX12_readsLayer_9 : decode cX12_readsLayer 9 = .ok (.aload_n 0, 1) := by decide +kernel
theorem dX12_readsLayer_10 : decode cX12_readsLayer 10 = .ok (.getfield 146, 3) := by decide +kernel
theorem dX12_readsLayer_13 : decode cX12_readsLayer 13 = .ok (.aload_n 0, 1) := by decide +kernel
theorem dX12_readsLayer_14 : decode cX12_readsLayer 14 = .ok (.getfield 158, 3) := by decide +kernel
theorem dX12_readsLayer_17 : decode cX12_readsLayer 17 = .ok (.if_icmp .ge 21, 3) := by decide +kernel
theorem dX12_readsLayer_20 : decode cX12_readsLayer 20 = .ok (.aload_n 0, 1) := by decide +kernel
theorem dX12_readsLayer_21 : decode cX12_readsLayer 21 = .ok (.getfield 37, 3) := by decide +kernel
theorem dX12_readsLayer_24 : decode cX12_readsLayer 24 = .ok (.aload_n 0, 1) := by decide +kernel
theorem dX12_readsLayer_25 : decode cX12_readsLayer 25 = .ok (.getfield 146, 3) := by decide +kernel
theorem dX12_readsLayer_28 : decode cX12_readsLayer 28 = .ok (.iaload, 1) := by decide +kernel
theorem dX12_readsLayer_29 : decode cX12_readsLayer 29 = .ok (.bipush 46, 2) := by decide +kernel
theorem dX12_readsLayer_31 : decode cX12_readsLayer 31 = .ok (.if_icmp .ne 7, 3) := by decide +kernel
theorem dX12_readsLayer_34 : decode cX12_readsLayer 34 = .ok (.iconst 1, 1) := by decide +kernel
theorem dX12_readsLayer_35 : decode cX12_readsLayer 35 = .ok (.goto 4, 3) := by decide +kernel
theorem dX12_readsLayer_38 : decode cX12_readsLayer 38 = .ok (.iconst 0, 1) := by decide +kernel
theorem dX12_readsLayer_39 : decode cX12_readsLayer 39 = .ok (.istore 4, 2) := by decide +kernel
theorem dX12_readsLayer_41 : decode cX12_readsLayer 41 = .ok (.iload_n 1, 1) := by decide +kernel
theorem dX12_readsLayer_42 : decode cX12_readsLayer 42 = .ok (.bipush 16, 2) := by decide +kernel
theorem dX12_readsLayer_44 : decode cX12_readsLayer 44 = .ok (.if_icmp .eq 25, 3) := by decide +kernel
theorem dX12_readsLayer_47 : decode cX12_readsLayer 47 = .ok (.iload 4, 2) := by decide +kernel
theorem dX12_readsLayer_49 : decode cX12_readsLayer 49 = .ok (.ifCond .ne 10, 3) := by decide +kernel
theorem dX12_readsLayer_52 : decode cX12_readsLayer 52 = .ok (.aload_n 0, 1) := by decide +kernel
theorem dX12_readsLayer_53 : decode cX12_readsLayer 53 = .ok (.invokevirtual 174, 3) := by decide +kernel
theorem dX12_readsLayer_56 : decode cX12_readsLayer 56 = .ok (.ifCond .eq 13, 3) := by decide +kernel
theorem dX12_readsLayer_59 : decode cX12_readsLayer 59 = .ok (.iload 4, 2) := by decide +kernel
theorem dX12_readsLayer_61 : decode cX12_readsLayer 61 = .ok (.ifCond .eq 10, 3) := by decide +kernel
theorem dX12_readsLayer_64 : decode cX12_readsLayer 64 = .ok (.iload_n 2, 1) := by decide +kernel
theorem dX12_readsLayer_65 : decode cX12_readsLayer 65 = .ok (.iconst 2, 1) := by decide +kernel
theorem dX12_readsLayer_66 : decode cX12_readsLayer 66 = .ok (.if_icmp .ne 5, 3) := by decide +kernel
theorem dX12_readsLayer_69 : decode cX12_readsLayer 69 = .ok (.iconst 0, 1) := by decide +kernel
theorem dX12_readsLayer_70 : decode cX12_readsLayer 70 = .ok (.ireturn, 1) := by decide +kernel
theorem dX12_readsLayer_71 : decode cX12_readsLayer 71 = .ok (.aload_n 0, 1) := by decide +kernel
theorem dX12_readsLayer_72 : decode cX12_readsLayer 72 = .ok (.getfield 40, 3) := by decide +kernel
theorem dX12_readsLayer_75 : decode cX12_readsLayer 75 = .ok (.iconst 3, 1) := by decide +kernel
theorem dX12_readsLayer_76 : decode cX12_readsLayer 76 = .ok (.iload_n 1, 1) := by decide +kernel
theorem dX12_readsLayer_77 : decode cX12_readsLayer 77 = .ok (.imul, 1) := by decide +kernel
theorem dX12_readsLayer_78 : decode cX12_readsLayer 78 = .ok (.iload_n 3, 1) := by decide +kernel
theorem dX12_readsLayer_79 : decode cX12_readsLayer 79 = .ok (.iadd, 1) := by decide +kernel
theorem dX12_readsLayer_80 : decode cX12_readsLayer 80 = .ok (.iload 4, 2) := by decide +kernel
theorem dX12_readsLayer_82 : decode cX12_readsLayer 82 = .ok (.ifCond .eq 7, 3) := by decide +kernel
theorem dX12_readsLayer_85 : decode cX12_readsLayer 85 = .ok (.iconst (-1), 1) := by decide +kernel
theorem dX12_readsLayer_86 : decode cX12_readsLayer 86 = .ok (.goto 15, 3) := by decide +kernel
theorem dX12_readsLayer_89 : decode cX12_readsLayer 89 = .ok (.aload_n 0, 1) := by decide +kernel
theorem dX12_readsLayer_90 : decode cX12_readsLayer 90 = .ok (.getfield 37, 3) := by decide +kernel
theorem dX12_readsLayer_93 : decode cX12_readsLayer 93 = .ok (.aload_n 0, 1) := by decide +kernel
theorem dX12_readsLayer_94 : decode cX12_readsLayer 94 = .ok (.getfield 146, 3) := by decide +kernel
theorem dX12_readsLayer_97 : decode cX12_readsLayer 97 = .ok (.iaload, 1) := by decide +kernel
theorem dX12_readsLayer_98 : decode cX12_readsLayer 98 = .ok (.bipush 48, 2) := by decide +kernel
theorem dX12_readsLayer_100 : decode cX12_readsLayer 100 = .ok (.isub, 1) := by decide +kernel
theorem dX12_readsLayer_101 : decode cX12_readsLayer 101 = .ok (.iastore, 1) := by decide +kernel
theorem dX12_readsLayer_102 : decode cX12_readsLayer 102 = .ok (.iload_n 2, 1) := by decide +kernel
theorem dX12_readsLayer_103 : decode cX12_readsLayer 103 = .ok (.iload 4, 2) := by decide +kernel
theorem dX12_readsLayer_105 : decode cX12_readsLayer 105 = .ok (.invokestatic 139, 3) := by decide +kernel
theorem dX12_readsLayer_108 : decode cX12_readsLayer 108 = .ok (.iadd, 1) := by decide +kernel
theorem dX12_readsLayer_109 : decode cX12_readsLayer 109 = .ok (.istore_n 2, 1) := by decide +kernel
theorem dX12_readsLayer_110 : decode cX12_readsLayer 110 = .ok (.aload_n 0, 1) := by decide +kernel
theorem dX12_readsLayer_111 : decode cX12_readsLayer 111 = .ok (.dup, 1) := by decide +kernel
theorem dX12_readsLayer_112 : decode cX12_readsLayer 112 = .ok (.getfield 146, 3) := by decide +kernel
theorem dX12_readsLayer_115 : decode cX12_readsLayer 115 = .ok (.iconst 1, 1) := by decide +kernel
theorem dX12_readsLayer_116 : decode cX12_readsLayer 116 = .ok (.iadd, 1) := by decide +kernel
theorem dX12_readsLayer_117 : decode cX12_readsLayer 117 = .ok (.putfield 146, 3) := by decide +kernel
theorem dX12_readsLayer_120 : decode cX12_readsLayer 120 = .ok (.iinc 3 1, 3) := by decide +kernel
theorem dX12_readsLayer_123 : decode cX12_readsLayer 123 = .ok (.goto (-119), 3) := by decide +kernel
theorem dX12_readsLayer_126 : decode cX12_readsLayer 126 = .ok (.iconst 1, 1) := by decide +kernel
theorem dX12_readsLayer_127 : decode cX12_readsLayer 127 = .ok (.ireturn, 1) := by decide +kernel
theorem dX12_tower_0 : decode cX12_tower 0 = .ok (.aload_n 0, 1) := by decide +kernel
theorem dX12_tower_1 : decode cX12_tower 1 = .ok (.iconst 0, 1) := by decide +kernel
theorem dX12_tower_2 : decode cX12_tower 2 = .ok (.putfield 3, 3) := by decide +kernel
theorem dX12_tower_5 : decode cX12_tower 5 = .ok (.aload_n 0, 1) := by decide +kernel
theorem dX12_tower_6 : decode cX12_tower 6 = .ok (.bipush 80, 2) := by decide +kernel
theorem dX12_tower_8 : decode cX12_tower 8 = .ok (.invokevirtual 178, 3) := by decide +kernel
theorem dX12_tower_11 : decode cX12_tower 11 = .ok (.istore_n 1, 1) := by decide +kernel
theorem dX12_tower_12 : decode cX12_tower 12 = .ok (.iconst 0, 1) := by decide +kernel
theorem dX12_tower_13 : decode cX12_tower 13 = .ok (.istore_n 2, 1) := by decide +kernel
theorem dX12_tower_14 : decode cX12_tower 14 = .ok (.iload_n 1, 1) := by decide +kernel
theorem dX12_tower_15 : decode cX12_tower 15 = .ok (.ifCond .le 7, 3) := by decide +kernel
theorem dX12_tower_18 : decode cX12_tower 18 = .ok (.iconst 1, 1) := by decide +kernel
theorem dX12_tower_19 : decode cX12_tower 19 = .ok (.goto 4, 3) := by decide +kernel
theorem dX12_tower_22 : decode cX12_tower 22 = .ok (.iconst 0, 1) := by decide +kernel
theorem dX12_tower_23 : decode cX12_tower 23 = .ok (.istore_n 3, 1) := by decide +kernel
theorem dX12_tower_24 : decode cX12_tower 24 = .ok (.iload_n 3, 1) := by decide +kernel
theorem dX12_tower_25 : decode cX12_tower 25 = .ok (.ifCond .eq 31, 3) := by decide +kernel
theorem dX12_tower_28 : decode cX12_tower 28 = .ok (.aload_n 0, 1) := by decide +kernel
theorem dX12_tower_29 : decode cX12_tower 29 = .ok (.iload_n 2, 1) := by decide +kernel
theorem dX12_tower_30 : decode cX12_tower 30 = .ok (.invokevirtual 182, 3) := by decide +kernel
theorem dX12_tower_33 : decode cX12_tower 33 = .ok (.ifCond .ne 10, 3) := by decide +kernel
theorem dX12_tower_36 : decode cX12_tower 36 = .ok (.iconst (-1), 1) := by decide +kernel
theorem dX12_tower_37 : decode cX12_tower 37 = .ok (.aload_n 0, 1) := by decide +kernel
theorem dX12_tower_38 : decode cX12_tower 38 = .ok (.getfield 146, 3) := by decide +kernel
theorem dX12_tower_41 : decode cX12_tower 41 = .ok (.isub, 1) := by decide +kernel
theorem dX12_tower_42 : decode cX12_tower 42 = .ok (.ireturn, 1) := by decide +kernel
theorem dX12_tower_43 : decode cX12_tower 43 = .ok (.iinc 2 1, 3) := by decide +kernel
theorem dX12_tower_46 : decode cX12_tower 46 = .ok (.aload_n 0, 1) := by decide +kernel
theorem dX12_tower_47 : decode cX12_tower 47 = .ok (.bipush 47, 2) := by decide +kernel
theorem dX12_tower_49 : decode cX12_tower 49 = .ok (.invokevirtual 186, 3) := by decide +kernel
theorem dX12_tower_52 : decode cX12_tower 52 = .ok (.istore_n 3, 1) := by decide +kernel
theorem dX12_tower_53 : decode cX12_tower 53 = .ok (.goto (-29), 3) := by decide +kernel
theorem dX12_tower_56 : decode cX12_tower 56 = .ok (.aload_n 0, 1) := by decide +kernel
theorem dX12_tower_57 : decode cX12_tower 57 = .ok (.getfield 146, 3) := by decide +kernel
theorem dX12_tower_60 : decode cX12_tower 60 = .ok (.aload_n 0, 1) := by decide +kernel
theorem dX12_tower_61 : decode cX12_tower 61 = .ok (.getfield 158, 3) := by decide +kernel
theorem dX12_tower_64 : decode cX12_tower 64 = .ok (.if_icmp .ge 10, 3) := by decide +kernel
theorem dX12_tower_67 : decode cX12_tower 67 = .ok (.iconst (-1), 1) := by decide +kernel
theorem dX12_tower_68 : decode cX12_tower 68 = .ok (.aload_n 0, 1) := by decide +kernel
theorem dX12_tower_69 : decode cX12_tower 69 = .ok (.getfield 146, 3) := by decide +kernel
theorem dX12_tower_72 : decode cX12_tower 72 = .ok (.isub, 1) := by decide +kernel
theorem dX12_tower_73 : decode cX12_tower 73 = .ok (.ireturn, 1) := by decide +kernel
theorem dX12_tower_74 : decode cX12_tower 74 = .ok (.aload_n 0, 1) := by decide +kernel
theorem dX12_tower_75 : decode cX12_tower 75 = .ok (.getfield 24, 3) := by decide +kernel
theorem dX12_tower_78 : decode cX12_tower 78 = .ok (.invokestatic 125, 3) := by decide +kernel
theorem dX12_tower_81 : decode cX12_tower 81 = .ok (.iconst 0, 1) := by decide +kernel
theorem dX12_tower_82 : decode cX12_tower 82 = .ok (.istore 4, 2) := by decide +kernel
theorem dX12_tower_84 : decode cX12_tower 84 = .ok (.iload 4, 2) := by decide +kernel
theorem dX12_tower_86 : decode cX12_tower 86 = .ok (.iconst 3, 1) := by decide +kernel
theorem dX12_tower_87 : decode cX12_tower 87 = .ok (.iload_n 2, 1) := by decide +kernel
theorem dX12_tower_88 : decode cX12_tower 88 = .ok (.imul, 1) := by decide +kernel
theorem dX12_tower_89 : decode cX12_tower 89 = .ok (.if_icmp .ge 23, 3) := by decide +kernel
theorem dX12_tower_92 : decode cX12_tower 92 = .ok (.aload_n 0, 1) := by decide +kernel
theorem dX12_tower_93 : decode cX12_tower 93 = .ok (.getfield 24, 3) := by decide +kernel
theorem dX12_tower_96 : decode cX12_tower 96 = .ok (.iload 4, 2) := by decide +kernel
theorem dX12_tower_98 : decode cX12_tower 98 = .ok (.aload_n 0, 1) := by decide +kernel
theorem dX12_tower_99 : decode cX12_tower 99 = .ok (.getfield 40, 3) := by decide +kernel
theorem dX12_tower_102 : decode cX12_tower 102 = .ok (.iload 4, 2) := by decide +kernel
theorem dX12_tower_104 : decode cX12_tower 104 = .ok (.iaload, 1) := by decide +kernel
theorem dX12_tower_105 : decode cX12_tower 105 = .ok (.iastore, 1) := by decide +kernel
theorem dX12_tower_106 : decode cX12_tower 106 = .ok (.iinc 4 1, 3) := by decide +kernel
theorem dX12_tower_109 : decode cX12_tower 109 = .ok (.goto (-25), 3) := by decide +kernel
theorem dX12_tower_112 : decode cX12_tower 112 = .ok (.aload_n 0, 1) := by decide +kernel
theorem dX12_tower_113 : decode cX12_tower 113 = .ok (.getfield 24, 3) := by decide +kernel
theorem dX12_tower_116 : decode cX12_tower 116 = .ok (.bipush 48, 2) := by decide +kernel
theorem dX12_tower_118 : decode cX12_tower 118 = .ok (.iload_n 2, 1) := by decide +kernel
theorem dX12_tower_119 : decode cX12_tower 119 = .ok (.iastore, 1) := by decide +kernel
theorem dX12_tower_120 : decode cX12_tower 120 = .ok (.aload_n 0, 1) := by decide +kernel
theorem dX12_tower_121 : decode cX12_tower 121 = .ok (.invokevirtual 129, 3) := by decide +kernel
theorem dX12_tower_124 : decode cX12_tower 124 = .ok (.pop, 1) := by decide +kernel
theorem dX12_tower_125 : decode cX12_tower 125 = .ok (.aload_n 0, 1) := by decide +kernel
theorem dX12_tower_126 : decode cX12_tower 126 = .ok (.iconst 0, 1) := by decide +kernel
theorem dX12_tower_127 : decode cX12_tower 127 = .ok (.putfield 189, 3) := by decide +kernel
theorem dX12_tower_130 : decode cX12_tower 130 = .ok (.iload_n 2, 1) := by decide +kernel
theorem dX12_tower_131 : decode cX12_tower 131 = .ok (.ireturn, 1) := by decide +kernel
theorem dX12_players_0 : decode cX12_players 0 = .ok (.aload_n 0, 1) := by decide +kernel
theorem dX12_players_1 : decode cX12_players 1 = .ok (.iconst 0, 1) := by decide +kernel
theorem dX12_players_2 : decode cX12_players 2 = .ok (.putfield 3, 3) := by decide +kernel
theorem dX12_players_5 : decode cX12_players 5 = .ok (.aload_n 0, 1) := by decide +kernel
theorem dX12_players_6 : decode cX12_players 6 = .ok (.iconst 4, 1) := by decide +kernel
theorem dX12_players_7 : decode cX12_players 7 = .ok (.invokevirtual 178, 3) := by decide +kernel
theorem dX12_players_10 : decode cX12_players 10 = .ok (.istore_n 1, 1) := by decide +kernel
theorem dX12_players_11 : decode cX12_players 11 = .ok (.iconst 0, 1) := by decide +kernel
theorem dX12_players_12 : decode cX12_players 12 = .ok (.istore_n 2, 1) := by decide +kernel
theorem dX12_players_13 : decode cX12_players 13 = .ok (.aload_n 0, 1) := by decide +kernel
theorem dX12_players_14 : decode cX12_players 14 = .ok (.invokevirtual 174, 3) := by decide +kernel
theorem dX12_players_17 : decode cX12_players 17 = .ok (.ifCond .eq 37, 3) := by decide +kernel
theorem dX12_players_20 : decode cX12_players 20 = .ok (.aload_n 0, 1) := by decide +kernel
theorem dX12_players_21 : decode cX12_players 21 = .ok (.getfield 40, 3) := by decide +kernel
theorem dX12_players_24 : decode cX12_players 24 = .ok (.iload_n 2, 1) := by decide +kernel
theorem dX12_players_25 : decode cX12_players 25 = .ok (.aload_n 0, 1) := by decide +kernel
theorem dX12_players_26 : decode cX12_players 26 = .ok (.getfield 37, 3) := by decide +kernel
theorem dX12_players_29 : decode cX12_players 29 = .ok (.aload_n 0, 1) := by decide +kernel
theorem dX12_players_30 : decode cX12_players 30 = .ok (.getfield 146, 3) := by decide +kernel
theorem dX12_players_33 : decode cX12_players 33 = .ok (.iaload, 1) := by decide +kernel
theorem dX12_players_34 : decode cX12_players 34 = .ok (.bipush 48, 2) := by decide +kernel
theorem dX12_players_36 : decode cX12_players 36 = .ok (.isub, 1) := by decide +kernel
theorem dX12_players_37 : decode cX12_players 37 = .ok (.iastore, 1) := by decide +kernel
theorem dX12_players_38 : decode cX12_players 38 = .ok (.iinc 2 1, 3) := by decide +kernel
theorem dX12_players_41 : decode cX12_players 41 = .ok (.aload_n 0, 1) := by decide +kernel
theorem dX12_players_42 : decode cX12_players 42 = .ok (.dup, 1) := by decide +kernel
theorem dX12_players_43 : decode cX12_players 43 = .ok (.getfield 146, 3) := by decide +kernel
theorem dX12_players_46 : decode cX12_players 46 = .ok (.iconst 1, 1) := by decide +kernel
theorem dX12_players_47 : decode cX12_players 47 = .ok (.iadd, 1) := by decide +kernel
theorem dX12_players_48 : decode cX12_players 48 = .ok (.putfield 146, 3) := by decide +kernel
theorem dX12_players_51 : decode cX12_players 51 = .ok (.goto (-38), 3) := by decide +kernel
theorem dX12_players_54 : decode cX12_players 54 = .ok (.aload_n 0, 1) := by decide +kernel
theorem dX12_players_55 : decode cX12_players 55 = .ok (.iload_n 1, 1) := by decide +kernel
theorem dX12_players_56 : decode cX12_players 56 = .ok (.iconst 4, 1) := by decide +kernel
theorem dX12_players_57 : decode cX12_players 57 = .ok (.iload_n 2, 1) := by decide +kernel
theorem dX12_players_58 : decode cX12_players 58 = .ok (.ifCond .le 7, 3) := by decide +kernel
theorem dX12_players_61 : decode cX12_players 61 = .ok (.iconst 1, 1) := by decide +kernel
theorem dX12_players_62 : decode cX12_players 62 = .ok (.goto 4, 3) := by decide +kernel
theorem dX12_players_65 : decode cX12_players 65 = .ok (.iconst 0, 1) := by decide +kernel
theorem dX12_players_66 : decode cX12_players 66 = .ok (.invokevirtual 192, 3) := by decide +kernel
theorem dX12_players_69 : decode cX12_players 69 = .ok (.istore_n 3, 1) := by decide +kernel
theorem dX12_players_70 : decode cX12_players 70 = .ok (.iload_n 3, 1) := by decide +kernel
theorem dX12_players_71 : decode cX12_players 71 = .ok (.ifCond .ge 5, 3) := by decide +kernel
theorem dX12_players_74 : decode cX12_players 74 = .ok (.iload_n 3, 1) := by decide +kernel
theorem dX12_players_75 : decode cX12_players 75 = .ok (.ireturn, 1) := by decide +kernel
theorem dX12_players_76 : decode cX12_players 76 = .ok (.iconst 0, 1) := by decide +kernel
theorem dX12_players_77 : decode cX12_players 77 = .ok (.istore 4, 2) := by decide +kernel
theorem dX12_players_79 : decode cX12_players 79 = .ok (.iload 4, 2) := by decide +kernel
theorem dX12_players_81 : decode cX12_players 81 = .ok (.iload_n 2, 1) := by decide +kernel
theorem dX12_players_82 : decode cX12_players 82 = .ok (.if_icmp .ge 23, 3) := by decide +kernel
theorem dX12_players_85 : decode cX12_players 85 = .ok (.aload_n 0, 1) := by decide +kernel
theorem dX12_players_86 : decode cX12_players 86 = .ok (.getfield 31, 3) := by decide +kernel
theorem dX12_players_89 : decode cX12_players 89 = .ok (.iload 4, 2) := by decide +kernel
theorem dX12_players_91 : decode cX12_players 91 = .ok (.aload_n 0, 1) := by decide +kernel
theorem dX12_players_92 : decode cX12_players 92 = .ok (.getfield 40, 3) := by decide +kernel
theorem dX12_players_95 : decode cX12_players 95 = .ok (.iload 4, 2) := by decide +kernel
theorem dX12_players_97 : decode cX12_players 97 = .ok (.iaload, 1) := by decide +kernel
theorem dX12_players_98 : decode cX12_players 98 = .ok (.iastore, 1) := by decide +kernel
theorem dX12_players_99 : decode cX12_players 99 = .ok (.iinc 4 1, 3) := by decide +kernel
theorem dX12_players_102 : decode cX12_players 102 = .ok (.goto (-23), 3) := by decide +kernel
theorem dX12_players_105 : decode cX12_players 105 = .ok (.aload_n 0, 1) := by decide +kernel
theorem dX12_players_106 : decode cX12_players 106 = .ok (.iload_n 2, 1) := by decide +kernel
theorem dX12_players_107 : decode cX12_players 107 = .ok (.putfield 34, 3) := by decide +kernel
theorem dX12_players_110 : decode cX12_players 110 = .ok (.aload_n 0, 1) := by decide +kernel
theorem dX12_players_111 : decode cX12_players 111 = .ok (.getfield 24, 3) := by decide +kernel
theorem dX12_players_114 : decode cX12_players 114 = .ok (.bipush 49, 2) := by decide +kernel
theorem dX12_players_116 : decode cX12_players 116 = .ok (.iconst 0, 1) := by decide +kernel
theorem dX12_players_117 : decode cX12_players 117 = .ok (.iastore, 1) := by decide +kernel
theorem dX12_players_118 : decode cX12_players 118 = .ok (.iload_n 2, 1) := by decide +kernel
theorem dX12_players_119 : decode cX12_players 119 = .ok (.ireturn, 1) := by decide +kernel
theorem dX12_codes_0 : decode cX12_codes 0 = .ok (.aload_n 0, 1) := by decide +kernel
theorem dX12_codes_1 : decode cX12_codes 1 = .ok (.getfield 46, 3) := by decide +kernel
theorem dX12_codes_4 : decode cX12_codes 4 = .ok (.aload_n 0, 1) := by decide +kernel
theorem dX12_codes_5 : decode cX12_codes 5 = .ok (.getfield 196, 3) := by decide +kernel
theorem dX12_codes_8 : decode cX12_codes 8 = .ok (.iload_n 1, 1) := by decide +kernel
theorem dX12_codes_9 : decode cX12_codes 9 = .ok (.iastore, 1) := by decide +kernel
theorem dX12_codes_10 : decode cX12_codes 10 = .ok (.aload_n 0, 1) := by decide +kernel
theorem dX12_codes_11 : decode cX12_codes 11 = .ok (.dup, 1) := by decide +kernel
theorem dX12_codes_12 : decode cX12_codes 12 = .ok (.getfield 196, 3) := by decide +kernel
theorem dX12_codes_15 : decode cX12_codes 15 = .ok (.iconst 1, 1) := by decide +kernel
theorem dX12_codes_16 : decode cX12_codes 16 = .ok (.iadd, 1) := by decide +kernel
theorem dX12_codes_17 : decode cX12_codes 17 = .ok (.putfield 196, 3) := by decide +kernel
theorem dX12_codes_20 : decode cX12_codes 20 = .ok (.return_, 1) := by decide +kernel
theorem dX12_readsThing_0 : decode cX12_readsThing 0 = .ok (.aload_n 0, 1) := by decide +kernel
theorem dX12_readsThing_1 : decode cX12_readsThing 1 = .ok (.bipush 45, 2) := by decide +kernel
theorem dX12_readsThing_3 : decode cX12_readsThing 3 = .ok (.invokevirtual 186, 3) := by decide +kernel
theorem dX12_readsThing_6 : decode cX12_readsThing 6 = .ok (.ifCond .eq 17, 3) := by decide +kernel
theorem dX12_readsThing_9 : decode cX12_readsThing 9 = .ok (.aload_n 0, 1) := by decide +kernel
theorem dX12_readsThing_10 : decode cX12_readsThing 10 = .ok (.invokevirtual 199, 3) := by decide +kernel
theorem dX12_readsThing_13 : decode cX12_readsThing 13 = .ok (.istore_n 1, 1) := by decide +kernel
theorem dX12_readsThing_14 : decode cX12_readsThing 14 = .ok (.aload_n 0, 1) := by decide +kernel
theorem dX12_readsThing_15 : decode cX12_readsThing 15 = .ok (.sipush 3000, 3) := by decide +kernel
theorem dX12_readsThing_18 : decode cX12_readsThing 18 = .ok (.invokevirtual 202, 3) := by decide +kernel
theorem dX12_readsThing_21 : decode cX12_readsThing 21 = .ok (.iload_n 1, 1) := by decide +kernel
theorem dX12_readsThing_22 : decode cX12_readsThing 22 = .ok (.ireturn, 1) := by decide +kernel
theorem dX12_readsThing_23 : decode cX12_readsThing 23 = .ok (.aload_n 0, 1) := by decide +kernel
theorem dX12_readsThing_24 : decode cX12_readsThing 24 = .ok (.invokevirtual 174, 3) := by decide +kernel
theorem dX12_readsThing_27 : decode cX12_readsThing 27 = .ok (.ifCond .eq 60, 3) := by decide +kernel
theorem dX12_readsThing_30 : decode cX12_readsThing 30 = .ok (.iconst 0, 1) := by decide +kernel
theorem dX12_readsThing_31 : decode cX12_readsThing 31 = .ok (.istore_n 1, 1) := by decide +kernel
theorem dX12_readsThing_32 : decode cX12_readsThing 32 = .ok (.iconst 0, 1) := by decide +kernel
theorem dX12_readsThing_33 : decode cX12_readsThing 33 = .ok (.istore_n 2, 1) := by decide +kernel
theorem dX12_readsThing_34 : decode cX12_readsThing 34 = .ok (.iload_n 2, 1) := by decide +kernel
theorem dX12_readsThing_35 : decode cX12_readsThing 35 = .ok (.iconst 3, 1) := by decide +kernel
theorem dX12_readsThing_36 : decode cX12_readsThing 36 = .ok (.if_icmp .ge 44, 3) := by decide +kernel
theorem dX12_readsThing_39 : decode cX12_readsThing 39 = .ok (.aload_n 0, 1) := by decide +kernel
theorem dX12_readsThing_40 : decode cX12_readsThing 40 = .ok (.invokevirtual 174, 3) := by decide +kernel
theorem dX12_readsThing_43 : decode cX12_readsThing 43 = .ok (.ifCond .eq 37, 3) := by decide +kernel
theorem dX12_readsThing_46 : decode cX12_readsThing 46 = .ok (.bipush 10, 2) := by decide +kernel
theorem dX12_readsThing_48 : decode cX12_readsThing 48 = .ok (.iload_n 1, 1) := by decide +kernel
theorem dX12_readsThing_49 : decode cX12_readsThing 49 = .ok (.imul, 1) := by decide +kernel
theorem dX12_readsThing_50 : decode cX12_readsThing 50 = .ok (.aload_n 0, 1) := by decide +kernel
theorem dX12_readsThing_51 : decode cX12_readsThing 51 = .ok (.getfield 37, 3) := by decide +kernel
theorem dX12_readsThing_54 : decode cX12_readsThing 54 = .ok (.aload_n 0, 1) := by decide +kernel
theorem dX12_readsThing_55 : decode cX12_readsThing 55 = .ok (.getfield 146, 3) := by decide +kernel
theorem dX12_readsThing_58 : decode cX12_readsThing 58 = .ok (.iaload, 1) := by decide +kernel
theorem dX12_readsThing_59 : decode cX12_readsThing 59 = .ok (.iadd, 1) := by decide +kernel
theorem dX12_readsThing_60 : decode cX12_readsThing 60 = .ok (.bipush 48, 2) := by decide +kernel
theorem dX12_readsThing_62 : decode cX12_readsThing 62 = .ok (.isub, 1) := by decide +kernel
theorem dX12_readsThing_63 : decode cX12_readsThing 63 = .ok (.istore_n 1, 1) := by decide +kernel
theorem dX12_readsThing_64 : decode cX12_readsThing 64 = .ok (.aload_n 0, 1) := by decide +kernel
theorem dX12_readsThing_65 : decode cX12_readsThing 65 = .ok (.dup, 1) := by decide +kernel
theorem dX12_readsThing_66 : decode cX12_readsThing 66 = .ok (.getfield 146, 3) := by decide +kernel
theorem dX12_readsThing_69 : decode cX12_readsThing 69 = .ok (.iconst 1, 1) := by decide +kernel
theorem dX12_readsThing_70 : decode cX12_readsThing 70 = .ok (.iadd, 1) := by decide +kernel
theorem dX12_readsThing_71 : decode cX12_readsThing 71 = .ok (.putfield 146, 3) := by decide +kernel
theorem dX12_readsThing_74 : decode cX12_readsThing 74 = .ok (.iinc 2 1, 3) := by decide +kernel
theorem dX12_readsThing_77 : decode cX12_readsThing 77 = .ok (.goto (-43), 3) := by decide +kernel
theorem dX12_readsThing_80 : decode cX12_readsThing 80 = .ok (.aload_n 0, 1) := by decide +kernel
theorem dX12_readsThing_81 : decode cX12_readsThing 81 = .ok (.iload_n 1, 1) := by decide +kernel
theorem dX12_readsThing_82 : decode cX12_readsThing 82 = .ok (.invokevirtual 202, 3) := by decide +kernel
theorem dX12_readsThing_85 : decode cX12_readsThing 85 = .ok (.iconst 1, 1) := by decide +kernel
theorem dX12_readsThing_86 : decode cX12_readsThing 86 = .ok (.ireturn, 1) := by decide +kernel
theorem dX12_readsThing_87 : decode cX12_readsThing 87 = .ok (.aload_n 0, 1) := by decide +kernel
theorem dX12_readsThing_88 : decode cX12_readsThing 88 = .ok (.ldc 206, 2) := by decide +kernel
theorem dX12_readsThing_90 : decode cX12_readsThing 90 = .ok (.invokevirtual 208, 3) := by decide +kernel
theorem dX12_readsThing_93 : decode cX12_readsThing 93 = .ok (.istore_n 1, 1) := by decide +kernel
theorem dX12_readsThing_94 : decode cX12_readsThing 94 = .ok (.iload_n 1, 1) := by decide +kernel
theorem dX12_readsThing_95 : decode cX12_readsThing 95 = .ok (.ifCond .lt 24, 3) := by decide +kernel
theorem dX12_readsThing_98 : decode cX12_readsThing 98 = .ok (.aload_n 0, 1) := by decide +kernel
theorem dX12_readsThing_99 : decode cX12_readsThing 99 = .ok (.dup, 1) := by decide +kernel
theorem dX12_readsThing_100 : decode cX12_readsThing 100 = .ok (.getfield 146, 3) := by decide +kernel
theorem dX12_readsThing_103 : decode cX12_readsThing 103 = .ok (.iconst 1, 1) := by decide +kernel
theorem dX12_readsThing_104 : decode cX12_readsThing 104 = .ok (.iadd, 1) := by decide +kernel
theorem dX12_readsThing_105 : decode cX12_readsThing 105 = .ok (.putfield 146, 3) := by decide +kernel
theorem dX12_readsThing_108 : decode cX12_readsThing 108 = .ok (.aload_n 0, 1) := by decide +kernel
theorem dX12_readsThing_109 : decode cX12_readsThing 109 = .ok (.sipush 1000, 3) := by decide +kernel
theorem dX12_readsThing_112 : decode cX12_readsThing 112 = .ok (.iload_n 1, 1) := by decide +kernel
theorem dX12_readsThing_113 : decode cX12_readsThing 113 = .ok (.iadd, 1) := by decide +kernel
theorem dX12_readsThing_114 : decode cX12_readsThing 114 = .ok (.invokevirtual 202, 3) := by decide +kernel
theorem dX12_readsThing_117 : decode cX12_readsThing 117 = .ok (.iconst 1, 1) := by decide +kernel
theorem dX12_readsThing_118 : decode cX12_readsThing 118 = .ok (.ireturn, 1) := by decide +kernel
theorem dX12_readsThing_119 : decode cX12_readsThing 119 = .ok (.aload_n 0, 1) := by decide +kernel
theorem dX12_readsThing_120 : decode cX12_readsThing 120 = .ok (.getfield 149, 3) := by decide +kernel
theorem dX12_readsThing_123 : decode cX12_readsThing 123 = .ok (.iconst 4, 1) := by decide +kernel
theorem dX12_readsThing_124 : decode cX12_readsThing 124 = .ok (.if_icmp .eq 12, 3) := by decide +kernel
theorem dX12_readsThing_127 : decode cX12_readsThing 127 = .ok (.aload_n 0, 1) := by decide +kernel
theorem dX12_readsThing_128 : decode cX12_readsThing 128 = .ok (.bipush 40, 2) := by decide +kernel
theorem dX12_readsThing_130 : decode cX12_readsThing 130 = .ok (.invokevirtual 186, 3) := by decide +kernel
theorem dX12_readsThing_133 : decode cX12_readsThing 133 = .ok (.ifCond .ne 5, 3) := by decide +kernel
theorem dX12_readsThing_136 : decode cX12_readsThing 136 = .ok (.iconst 0, 1) := by decide +kernel
theorem dX12_readsThing_137 : decode cX12_readsThing 137 = .ok (.ireturn, 1) := by decide +kernel
theorem dX12_readsThing_138 : decode cX12_readsThing 138 = .ok (.aload_n 0, 1) := by decide +kernel
theorem dX12_readsThing_139 : decode cX12_readsThing 139 = .ok (.dup, 1) := by decide +kernel
theorem dX12_readsThing_140 : decode cX12_readsThing 140 = .ok (.getfield 149, 3) := by decide +kernel
theorem dX12_readsThing_143 : decode cX12_readsThing 143 = .ok (.iconst 1, 1) := by decide +kernel
theorem dX12_readsThing_144 : decode cX12_readsThing 144 = .ok (.iadd, 1) := by decide +kernel
theorem dX12_readsThing_145 : decode cX12_readsThing 145 = .ok (.putfield 149, 3) := by decide +kernel
theorem dX12_readsThing_148 : decode cX12_readsThing 148 = .ok (.aload_n 0, 1) := by decide +kernel
theorem dX12_readsThing_149 : decode cX12_readsThing 149 = .ok (.iconst 0, 1) := by decide +kernel
theorem dX12_readsThing_150 : decode cX12_readsThing 150 = .ok (.invokevirtual 212, 3) := by decide +kernel
theorem dX12_readsThing_153 : decode cX12_readsThing 153 = .ok (.ifCond .eq 12, 3) := by decide +kernel
theorem dX12_readsThing_156 : decode cX12_readsThing 156 = .ok (.aload_n 0, 1) := by decide +kernel
theorem dX12_readsThing_157 : decode cX12_readsThing 157 = .ok (.bipush 41, 2) := by decide +kernel
theorem dX12_readsThing_159 : decode cX12_readsThing 159 = .ok (.invokevirtual 186, 3) := by decide +kernel
theorem dX12_readsThing_162 : decode cX12_readsThing 162 = .ok (.ifCond .ne 5, 3) := by decide +kernel
theorem dX12_readsThing_165 : decode cX12_readsThing 165 = .ok (.iconst 0, 1) := by decide +kernel
theorem dX12_readsThing_166 : decode cX12_readsThing 166 = .ok (.ireturn, 1) := by decide +kernel
theorem dX12_readsThing_167 : decode cX12_readsThing 167 = .ok (.aload_n 0, 1) := by decide +kernel
theorem dX12_readsThing_168 : decode cX12_readsThing 168 = .ok (.dup, 1) := by decide +kernel
theorem dX12_readsThing_169 : decode cX12_readsThing 169 = .ok (.getfield 149, 3) := by decide +kernel
theorem dX12_readsThing_172 : decode cX12_readsThing 172 = .ok (.iconst 1, 1) := by decide +kernel
theorem dX12_readsThing_173 : decode cX12_readsThing 173 = .ok (.isub, 1) := by decide +kernel
theorem dX12_readsThing_174 : decode cX12_readsThing 174 = .ok (.putfield 149, 3) := by decide +kernel
theorem dX12_readsThing_177 : decode cX12_readsThing 177 = .ok (.iconst 1, 1) := by decide +kernel
theorem dX12_readsThing_178 : decode cX12_readsThing 178 = .ok (.ireturn, 1) := by decide +kernel
theorem dX12_readsRank_0 : decode cX12_readsRank 0 = .ok (.iload_n 1, 1) := by decide +kernel
theorem dX12_readsRank_1 : decode cX12_readsRank 1 = .ok (.iconst 3, 1) := by decide +kernel
theorem dX12_readsRank_2 : decode cX12_readsRank 2 = .ok (.if_icmp .ne 8, 3) := by decide +kernel
theorem dX12_readsRank_5 : decode cX12_readsRank 5 = .ok (.aload_n 0, 1) := by decide +kernel
theorem dX12_readsRank_6 : decode cX12_readsRank 6 = .ok (.invokevirtual 199, 3) := by decide +kernel
theorem dX12_readsRank_9 : decode cX12_readsRank 9 = .ok (.ireturn, 1) := by decide +kernel
theorem dX12_readsRank_10 : decode cX12_readsRank 10 = .ok (.aload_n 0, 1) := by decide +kernel
theorem dX12_readsRank_11 : decode cX12_readsRank 11 = .ok (.iload_n 1, 1) := by decide +kernel
theorem dX12_readsRank_12 : decode cX12_readsRank 12 = .ok (.iconst 1, 1) := by decide +kernel
theorem dX12_readsRank_13 : decode cX12_readsRank 13 = .ok (.iadd, 1) := by decide +kernel
theorem dX12_readsRank_14 : decode cX12_readsRank 14 = .ok (.invokevirtual 212, 3) := by decide +kernel
theorem dX12_readsRank_17 : decode cX12_readsRank 17 = .ok (.ifCond .ne 5, 3) := by decide +kernel
theorem dX12_readsRank_20 : decode cX12_readsRank 20 = .ok (.iconst 0, 1) := by decide +kernel
theorem dX12_readsRank_21 : decode cX12_readsRank 21 = .ok (.ireturn, 1) := by decide +kernel
theorem dX12_readsRank_22 : decode cX12_readsRank 22 = .ok (.iconst 1, 1) := by decide +kernel
theorem dX12_readsRank_23 : decode cX12_readsRank 23 = .ok (.istore_n 2, 1) := by decide +kernel
theorem dX12_readsRank_24 : decode cX12_readsRank 24 = .ok (.iload_n 2, 1) := by decide +kernel
theorem dX12_readsRank_25 : decode cX12_readsRank 25 = .ok (.ifCond .eq 98, 3) := by decide +kernel
theorem dX12_readsRank_28 : decode cX12_readsRank 28 = .ok (.aload_n 0, 1) := by decide +kernel
theorem dX12_readsRank_29 : decode cX12_readsRank 29 = .ok (.iload_n 1, 1) := by decide +kernel
theorem dX12_readsRank_30 : decode cX12_readsRank 30 = .ok (.ifCond .ne 8, 3) := by decide +kernel
theorem dX12_readsRank_33 : decode cX12_readsRank 33 = .ok (.ldc 215, 2) := by decide +kernel
theorem dX12_readsRank_35 : decode cX12_readsRank 35 = .ok (.goto 15, 3) := by decide +kernel
theorem dX12_readsRank_38 : decode cX12_readsRank 38 = .ok (.iload_n 1, 1) := by decide +kernel
theorem dX12_readsRank_39 : decode cX12_readsRank 39 = .ok (.iconst 1, 1) := by decide +kernel
theorem dX12_readsRank_40 : decode cX12_readsRank 40 = .ok (.if_icmp .ne 8, 3) := by decide +kernel
theorem dX12_readsRank_43 : decode cX12_readsRank 43 = .ok (.ldc 217, 2) := by decide +kernel
theorem dX12_readsRank_45 : decode cX12_readsRank 45 = .ok (.goto 5, 3) := by decide +kernel
theorem dX12_readsRank_48 : decode cX12_readsRank 48 = .ok (.ldc 219, 2) := by decide +kernel
theorem dX12_readsRank_50 : decode cX12_readsRank 50 = .ok (.invokevirtual 208, 3) := by decide +kernel
theorem dX12_readsRank_53 : decode cX12_readsRank 53 = .ok (.istore_n 3, 1) := by decide +kernel
theorem dX12_readsRank_54 : decode cX12_readsRank 54 = .ok (.iload_n 3, 1) := by decide +kernel
theorem dX12_readsRank_55 : decode cX12_readsRank 55 = .ok (.ifCond .ge 5, 3) := by decide +kernel
theorem dX12_readsRank_58 : decode cX12_readsRank 58 = .ok (.iconst 1, 1) := by decide +kernel
theorem dX12_readsRank_59 : decode cX12_readsRank 59 = .ok (.ireturn, 1) := by decide +kernel
theorem dX12_readsRank_60 : decode cX12_readsRank 60 = .ok (.aload_n 0, 1) := by decide +kernel
theorem dX12_readsRank_61 : decode cX12_readsRank 61 = .ok (.dup, 1) := by decide +kernel
theorem dX12_readsRank_62 : decode cX12_readsRank 62 = .ok (.getfield 146, 3) := by decide +kernel
theorem dX12_readsRank_65 : decode cX12_readsRank 65 = .ok (.iconst 1, 1) := by decide +kernel
theorem dX12_readsRank_66 : decode cX12_readsRank 66 = .ok (.iadd, 1) := by decide +kernel
theorem dX12_readsRank_67 : decode cX12_readsRank 67 = .ok (.putfield 146, 3) := by decide +kernel
theorem dX12_readsRank_70 : decode cX12_readsRank 70 = .ok (.aload_n 0, 1) := by decide +kernel
theorem dX12_readsRank_71 : decode cX12_readsRank 71 = .ok (.iload_n 1, 1) := by decide +kernel
theorem dX12_readsRank_72 : decode cX12_readsRank 72 = .ok (.iconst 1, 1) := by decide +kernel
theorem dX12_readsRank_73 : decode cX12_readsRank 73 = .ok (.iadd, 1) := by decide +kernel
theorem dX12_readsRank_74 : decode cX12_readsRank 74 = .ok (.invokevirtual 212, 3) := by decide +kernel
theorem dX12_readsRank_77 : decode cX12_readsRank 77 = .ok (.ifCond .ne 5, 3) := by decide +kernel
theorem dX12_readsRank_80 : decode cX12_readsRank 80 = .ok (.iconst 0, 1) := by decide +kernel
theorem dX12_readsRank_81 : decode cX12_readsRank 81 = .ok (.ireturn, 1) := by decide +kernel
theorem dX12_readsRank_82 : decode cX12_readsRank 82 = .ok (.aload_n 0, 1) := by decide +kernel
theorem dX12_readsRank_83 : decode cX12_readsRank 83 = .ok (.sipush 2000, 3) := by decide +kernel
theorem dX12_readsRank_86 : decode cX12_readsRank 86 = .ok (.iload_n 3, 1) := by decide +kernel
theorem dX12_readsRank_87 : decode cX12_readsRank 87 = .ok (.iadd, 1) := by decide +kernel
theorem dX12_readsRank_88 : decode cX12_readsRank 88 = .ok (.iload_n 1, 1) := by decide +kernel
theorem dX12_readsRank_89 : decode cX12_readsRank 89 = .ok (.ifCond .ne 7, 3) := by decide +kernel
theorem dX12_readsRank_92 : decode cX12_readsRank 92 = .ok (.iconst 0, 1) := by decide +kernel
theorem dX12_readsRank_93 : decode cX12_readsRank 93 = .ok (.goto 13, 3) := by decide +kernel
theorem dX12_readsRank_96 : decode cX12_readsRank 96 = .ok (.iload_n 1, 1) := by decide +kernel
theorem dX12_readsRank_97 : decode cX12_readsRank 97 = .ok (.iconst 1, 1) := by decide +kernel
theorem dX12_readsRank_98 : decode cX12_readsRank 98 = .ok (.if_icmp .ne 7, 3) := by decide +kernel
theorem dX12_readsRank_101 : decode cX12_readsRank 101 = .ok (.iconst 3, 1) := by decide +kernel
theorem dX12_readsRank_102 : decode cX12_readsRank 102 = .ok (.goto 4, 3) := by decide +kernel
theorem dX12_readsRank_105 : decode cX12_readsRank 105 = .ok (.iconst 5, 1) := by decide +kernel
theorem dX12_readsRank_106 : decode cX12_readsRank 106 = .ok (.iadd, 1) := by decide +kernel
theorem dX12_readsRank_107 : decode cX12_readsRank 107 = .ok (.invokevirtual 202, 3) := by decide +kernel
theorem dX12_readsRank_110 : decode cX12_readsRank 110 = .ok (.iload_n 1, 1) := by decide +kernel
theorem dX12_readsRank_111 : decode cX12_readsRank 111 = .ok (.ifCond .le 7, 3) := by decide +kernel
theorem dX12_readsRank_114 : decode cX12_readsRank 114 = .ok (.iconst 1, 1) := by decide +kernel
theorem dX12_readsRank_115 : decode cX12_readsRank 115 = .ok (.goto 4, 3) := by decide +kernel
theorem dX12_readsRank_118 : decode cX12_readsRank 118 = .ok (.iconst 0, 1) := by decide +kernel
theorem dX12_readsRank_119 : decode cX12_readsRank 119 = .ok (.istore_n 2, 1) := by decide +kernel
theorem dX12_readsRank_120 : decode cX12_readsRank 120 = .ok (.goto (-96), 3) := by decide +kernel
theorem dX12_readsRank_123 : decode cX12_readsRank 123 = .ok (.iconst 1, 1) := by decide +kernel
theorem dX12_readsRank_124 : decode cX12_readsRank 124 = .ok (.ireturn, 1) := by decide +kernel
theorem dX12_rule_0 : decode cX12_rule 0 = .ok (.aload_n 0, 1) := by decide +kernel
theorem dX12_rule_1 : decode cX12_rule 1 = .ok (.iconst 0, 1) := by decide +kernel
theorem dX12_rule_2 : decode cX12_rule 2 = .ok (.putfield 3, 3) := by decide +kernel
theorem dX12_rule_5 : decode cX12_rule 5 = .ok (.aload_n 0, 1) := by decide +kernel
theorem dX12_rule_6 : decode cX12_rule 6 = .ok (.bipush 40, 2) := by decide +kernel
theorem dX12_rule_8 : decode cX12_rule 8 = .ok (.invokevirtual 178, 3) := by decide +kernel
theorem dX12_rule_11 : decode cX12_rule 11 = .ok (.istore_n 1, 1) := by decide +kernel
theorem dX12_rule_12 : decode cX12_rule 12 = .ok (.aload_n 0, 1) := by decide +kernel
theorem dX12_rule_13 : decode cX12_rule 13 = .ok (.iconst 0, 1) := by decide +kernel
theorem dX12_rule_14 : decode cX12_rule 14 = .ok (.putfield 196, 3) := by decide +kernel
theorem dX12_rule_17 : decode cX12_rule 17 = .ok (.iload_n 1, 1) := by decide +kernel
theorem dX12_rule_18 : decode cX12_rule 18 = .ok (.ifCond .eq 11, 3) := by decide +kernel
theorem dX12_rule_21 : decode cX12_rule 21 = .ok (.aload_n 0, 1) := by decide +kernel
theorem dX12_rule_22 : decode cX12_rule 22 = .ok (.iconst 0, 1) := by decide +kernel
theorem dX12_rule_23 : decode cX12_rule 23 = .ok (.invokevirtual 212, 3) := by decide +kernel
theorem dX12_rule_26 : decode cX12_rule 26 = .ok (.ifCond .eq 7, 3) := by decide +kernel
theorem dX12_rule_29 : decode cX12_rule 29 = .ok (.iconst 1, 1) := by decide +kernel
theorem dX12_rule_30 : decode cX12_rule 30 = .ok (.goto 4, 3) := by decide +kernel
theorem dX12_rule_33 : decode cX12_rule 33 = .ok (.iconst 0, 1) := by decide +kernel
theorem dX12_rule_34 : decode cX12_rule 34 = .ok (.istore_n 2, 1) := by decide +kernel
theorem dX12_rule_35 : decode cX12_rule 35 = .ok (.aload_n 0, 1) := by decide +kernel
theorem dX12_rule_36 : decode cX12_rule 36 = .ok (.iload_n 1, 1) := by decide +kernel
theorem dX12_rule_37 : decode cX12_rule 37 = .ok (.bipush 40, 2) := by decide +kernel
theorem dX12_rule_39 : decode cX12_rule 39 = .ok (.iload_n 2, 1) := by decide +kernel
theorem dX12_rule_40 : decode cX12_rule 40 = .ok (.invokevirtual 192, 3) := by decide +kernel
theorem dX12_rule_43 : decode cX12_rule 43 = .ok (.istore_n 3, 1) := by decide +kernel
theorem dX12_rule_44 : decode cX12_rule 44 = .ok (.iload_n 3, 1) := by decide +kernel
theorem dX12_rule_45 : decode cX12_rule 45 = .ok (.ifCond .ge 5, 3) := by decide +kernel
theorem dX12_rule_48 : decode cX12_rule 48 = .ok (.iload_n 3, 1) := by decide +kernel
theorem dX12_rule_49 : decode cX12_rule 49 = .ok (.ireturn, 1) := by decide +kernel
theorem dX12_rule_50 : decode cX12_rule 50 = .ok (.aload_n 0, 1) := by decide +kernel
theorem dX12_rule_51 : decode cX12_rule 51 = .ok (.aload_n 0, 1) := by decide +kernel
theorem dX12_rule_52 : decode cX12_rule 52 = .ok (.getfield 196, 3) := by decide +kernel
theorem dX12_rule_55 : decode cX12_rule 55 = .ok (.putfield 221, 3) := by decide +kernel
theorem dX12_rule_58 : decode cX12_rule 58 = .ok (.iconst 0, 1) := by decide +kernel
theorem dX12_rule_59 : decode cX12_rule 59 = .ok (.istore 4, 2) := by decide +kernel
theorem dX12_rule_61 : decode cX12_rule 61 = .ok (.iload 4, 2) := by decide +kernel
theorem dX12_rule_63 : decode cX12_rule 63 = .ok (.aload_n 0, 1) := by decide +kernel
theorem dX12_rule_64 : decode cX12_rule 64 = .ok (.getfield 196, 3) := by decide +kernel
theorem dX12_rule_67 : decode cX12_rule 67 = .ok (.if_icmp .ge 23, 3) := by decide +kernel
theorem dX12_rule_70 : decode cX12_rule 70 = .ok (.aload_n 0, 1) := by decide +kernel
theorem dX12_rule_71 : decode cX12_rule 71 = .ok (.getfield 43, 3) := by decide +kernel
theorem dX12_rule_74 : decode cX12_rule 74 = .ok (.iload 4, 2) := by decide +kernel
theorem dX12_rule_76 : decode cX12_rule 76 = .ok (.aload_n 0, 1) := by decide +kernel
theorem dX12_rule_77 : decode cX12_rule 77 = .ok (.getfield 46, 3) := by decide +kernel
theorem dX12_rule_80 : decode cX12_rule 80 = .ok (.iload 4, 2) := by decide +kernel
theorem dX12_rule_82 : decode cX12_rule 82 = .ok (.iaload, 1) := by decide +kernel
theorem dX12_rule_83 : decode cX12_rule 83 = .ok (.iastore, 1) := by decide +kernel
theorem dX12_rule_84 : decode cX12_rule 84 = .ok (.iinc 4 1, 3) := by decide +kernel
theorem dX12_rule_87 : decode cX12_rule 87 = .ok (.goto (-26), 3) := by decide +kernel
theorem dX12_rule_90 : decode cX12_rule 90 = .ok (.iconst 0, 1) := by decide +kernel
theorem dX12_rule_91 : decode cX12_rule 91 = .ok (.ireturn, 1) := by decide +kernel
theorem dX12_bearing_0 : decode cX12_bearing 0 = .ok (.iconst (-1), 1) := by decide +kernel
theorem dX12_bearing_1 : decode cX12_bearing 1 = .ok (.istore_n 2, 1) := by decide +kernel
theorem dX12_bearing_2 : decode cX12_bearing 2 = .ok (.iconst 0, 1) := by decide +kernel
theorem dX12_bearing_3 : decode cX12_bearing 3 = .ok (.istore_n 3, 1) := by decide +kernel
theorem dX12_bearing_4 : decode cX12_bearing 4 = .ok (.iload_n 3, 1) := by decide +kernel
theorem dX12_bearing_5 : decode cX12_bearing 5 = .ok (.iconst 3, 1) := by decide +kernel
theorem dX12_bearing_6 : decode cX12_bearing 6 = .ok (.if_icmp .ge 21, 3) := by decide +kernel
theorem dX12_bearing_9 : decode cX12_bearing 9 = .ok (.iload_n 2, 1) := by decide +kernel
theorem dX12_bearing_10 : decode cX12_bearing 10 = .ok (.aload_n 0, 1) := by decide +kernel
theorem dX12_bearing_11 : decode cX12_bearing 11 = .ok (.iconst 3, 1) := by decide +kernel
theorem dX12_bearing_12 : decode cX12_bearing 12 = .ok (.iload_n 1, 1) := by decide +kernel
theorem dX12_bearing_13 : decode cX12_bearing 13 = .ok (.imul, 1) := by decide +kernel
theorem dX12_bearing_14 : decode cX12_bearing 14 = .ok (.iload_n 3, 1) := by decide +kernel
theorem dX12_bearing_15 : decode cX12_bearing 15 = .ok (.iadd, 1) := by decide +kernel
theorem dX12_bearing_16 : decode cX12_bearing 16 = .ok (.iaload, 1) := by decide +kernel
theorem dX12_bearing_17 : decode cX12_bearing 17 = .ok (.invokestatic 224, 3) := by decide +kernel
theorem dX12_bearing_20 : decode cX12_bearing 20 = .ok (.istore_n 2, 1) := by decide +kernel
theorem dX12_bearing_21 : decode cX12_bearing 21 = .ok (.iinc 3 1, 3) := by decide +kernel
theorem dX12_bearing_24 : decode cX12_bearing 24 = .ok (.goto (-20), 3) := by decide +kernel
theorem dX12_bearing_27 : decode cX12_bearing 27 = .ok (.iconst 0, 1) := by decide +kernel
theorem dX12_bearing_28 : decode cX12_bearing 28 = .ok (.istore_n 3, 1) := by decide +kernel
theorem dX12_bearing_29 : decode cX12_bearing 29 = .ok (.iconst (-1), 1) := by decide +kernel
theorem dX12_bearing_30 : decode cX12_bearing 30 = .ok (.istore 4, 2) := by decide +kernel
theorem dX12_bearing_32 : decode cX12_bearing 32 = .ok (.iconst 0, 1) := by decide +kernel
theorem dX12_bearing_33 : decode cX12_bearing 33 = .ok (.istore 5, 2) := by decide +kernel
theorem dX12_bearing_35 : decode cX12_bearing 35 = .ok (.iload 5, 2) := by decide +kernel
theorem dX12_bearing_37 : decode cX12_bearing 37 = .ok (.iconst 3, 1) := by decide +kernel
theorem dX12_bearing_38 : decode cX12_bearing 38 = .ok (.if_icmp .ge 56, 3) := by decide +kernel
theorem dX12_bearing_41 : decode cX12_bearing 41 = .ok (.aload_n 0, 1) := by decide +kernel
theorem dX12_bearing_42 : decode cX12_bearing 42 = .ok (.iconst 3, 1) := by decide +kernel
theorem dX12_bearing_43 : decode cX12_bearing 43 = .ok (.iload_n 1, 1) := by decide +kernel
theorem dX12_bearing_44 : decode cX12_bearing 44 = .ok (.imul, 1) := by decide +kernel
theorem dX12_bearing_45 : decode cX12_bearing 45 = .ok (.iload 5, 2) := by decide +kernel
theorem dX12_bearing_47 : decode cX12_bearing 47 = .ok (.iadd, 1) := by decide +kernel
theorem dX12_bearing_48 : decode cX12_bearing 48 = .ok (.iaload, 1) := by decide +kernel
theorem dX12_bearing_49 : decode cX12_bearing 49 = .ok (.istore 6, 2) := by decide +kernel
theorem dX12_bearing_51 : decode cX12_bearing 51 = .ok (.iload_n 3, 1) := by decide +kernel
theorem dX12_bearing_52 : decode cX12_bearing 52 = .ok (.iload 6, 2) := by decide +kernel
theorem dX12_bearing_54 : decode cX12_bearing 54 = .ok (.iload_n 2, 1) := by decide +kernel
theorem dX12_bearing_55 : decode cX12_bearing 55 = .ok (.if_icmp .ne 10, 3) := by decide +kernel
theorem dX12_bearing_58 : decode cX12_bearing 58 = .ok (.iconst 1, 1) := by decide +kernel
theorem dX12_bearing_59 : decode cX12_bearing 59 = .ok (.iload 5, 2) := by decide +kernel
theorem dX12_bearing_61 : decode cX12_bearing 61 = .ok (.ishl, 1) := by decide +kernel
theorem dX12_bearing_62 : decode cX12_bearing 62 = .ok (.goto 4, 3) := by decide +kernel
theorem dX12_bearing_65 : decode cX12_bearing 65 = .ok (.iconst 0, 1) := by decide +kernel
theorem dX12_bearing_66 : decode cX12_bearing 66 = .ok (.ior, 1) := by decide +kernel
theorem dX12_bearing_67 : decode cX12_bearing 67 = .ok (.istore_n 3, 1) := by decide +kernel
theorem dX12_bearing_68 : decode cX12_bearing 68 = .ok (.iload 6, 2) := by decide +kernel
theorem dX12_bearing_70 : decode cX12_bearing 70 = .ok (.iload_n 2, 1) := by decide +kernel
theorem dX12_bearing_71 : decode cX12_bearing 71 = .ok (.if_icmp .ge 13, 3) := by decide +kernel
theorem dX12_bearing_74 : decode cX12_bearing 74 = .ok (.iload 4, 2) := by decide +kernel
theorem dX12_bearing_76 : decode cX12_bearing 76 = .ok (.iload 6, 2) := by decide +kernel
theorem dX12_bearing_78 : decode cX12_bearing 78 = .ok (.invokestatic 224, 3) := by decide +kernel
theorem dX12_bearing_81 : decode cX12_bearing 81 = .ok (.goto 5, 3) := by decide +kernel
theorem dX12_bearing_84 : decode cX12_bearing 84 = .ok (.iload 4, 2) := by decide +kernel
theorem dX12_bearing_86 : decode cX12_bearing 86 = .ok (.istore 4, 2) := by decide +kernel
theorem dX12_bearing_88 : decode cX12_bearing 88 = .ok (.iinc 5 1, 3) := by decide +kernel
theorem dX12_bearing_91 : decode cX12_bearing 91 = .ok (.goto (-56), 3) := by decide +kernel
theorem dX12_bearing_94 : decode cX12_bearing 94 = .ok (.iload_n 3, 1) := by decide +kernel
theorem dX12_bearing_95 : decode cX12_bearing 95 = .ok (.iconst 1, 1) := by decide +kernel
theorem dX12_bearing_96 : decode cX12_bearing 96 = .ok (.if_icmp .eq 8, 3) := by decide +kernel
theorem dX12_bearing_99 : decode cX12_bearing 99 = .ok (.iload_n 3, 1) := by decide +kernel
theorem dX12_bearing_100 : decode cX12_bearing 100 = .ok (.iconst 4, 1) := by decide +kernel
theorem dX12_bearing_101 : decode cX12_bearing 101 = .ok (.if_icmp .ne 47, 3) := by decide +kernel
theorem dX12_bearing_104 : decode cX12_bearing 104 = .ok (.iload 4, 2) := by decide +kernel
theorem dX12_bearing_106 : decode cX12_bearing 106 = .ok (.ifCond .lt 42, 3) := by decide +kernel
theorem dX12_bearing_109 : decode cX12_bearing 109 = .ok (.iconst 0, 1) := by decide +kernel
theorem dX12_bearing_110 : decode cX12_bearing 110 = .ok (.istore 5, 2) := by decide +kernel
theorem dX12_bearing_112 : decode cX12_bearing 112 = .ok (.iload 5, 2) := by decide +kernel
theorem dX12_bearing_114 : decode cX12_bearing 114 = .ok (.iconst 3, 1) := by decide +kernel
theorem dX12_bearing_115 : decode cX12_bearing 115 = .ok (.if_icmp .ge 33, 3) := by decide +kernel
theorem dX12_bearing_118 : decode cX12_bearing 118 = .ok (.iload_n 3, 1) := by decide +kernel
theorem dX12_bearing_119 : decode cX12_bearing 119 = .ok (.aload_n 0, 1) := by decide +kernel
theorem dX12_bearing_120 : decode cX12_bearing 120 = .ok (.iconst 3, 1) := by decide +kernel
theorem dX12_bearing_121 : decode cX12_bearing 121 = .ok (.iload_n 1, 1) := by decide +kernel
theorem dX12_bearing_122 : decode cX12_bearing 122 = .ok (.imul, 1) := by decide +kernel
theorem dX12_bearing_123 : decode cX12_bearing 123 = .ok (.iload 5, 2) := by decide +kernel
theorem dX12_bearing_125 : decode cX12_bearing 125 = .ok (.iadd, 1) := by decide +kernel
theorem dX12_bearing_126 : decode cX12_bearing 126 = .ok (.iaload, 1) := by decide +kernel
theorem dX12_bearing_127 : decode cX12_bearing 127 = .ok (.iload 4, 2) := by decide +kernel
theorem dX12_bearing_129 : decode cX12_bearing 129 = .ok (.if_icmp .ne 10, 3) := by decide +kernel
theorem dX12_bearing_132 : decode cX12_bearing 132 = .ok (.iconst 1, 1) := by decide +kernel
theorem dX12_bearing_133 : decode cX12_bearing 133 = .ok (.iload 5, 2) := by decide +kernel
theorem dX12_bearing_135 : decode cX12_bearing 135 = .ok (.ishl, 1) := by decide +kernel
theorem dX12_bearing_136 : decode cX12_bearing 136 = .ok (.goto 4, 3) := by decide +kernel
theorem dX12_bearing_139 : decode cX12_bearing 139 = .ok (.iconst 0, 1) := by decide +kernel
theorem dX12_bearing_140 : decode cX12_bearing 140 = .ok (.ior, 1) := by decide +kernel
theorem dX12_bearing_141 : decode cX12_bearing 141 = .ok (.istore_n 3, 1) := by decide +kernel
theorem dX12_bearing_142 : decode cX12_bearing 142 = .ok (.iinc 5 1, 3) := by decide +kernel
theorem dX12_bearing_145 : decode cX12_bearing 145 = .ok (.goto (-33), 3) := by decide +kernel
theorem dX12_bearing_148 : decode cX12_bearing 148 = .ok (.iload_n 3, 1) := by decide +kernel
theorem dX12_bearing_149 : decode cX12_bearing 149 = .ok (.ireturn, 1) := by decide +kernel
theorem dX12_isTight_0 : decode cX12_isTight 0 = .ok (.aload_n 0, 1) := by decide +kernel
theorem dX12_isTight_1 : decode cX12_isTight 1 = .ok (.iload_n 1, 1) := by decide +kernel
theorem dX12_isTight_2 : decode cX12_isTight 2 = .ok (.iconst 3, 1) := by decide +kernel
theorem dX12_isTight_3 : decode cX12_isTight 3 = .ok (.idiv, 1) := by decide +kernel
theorem dX12_isTight_4 : decode cX12_isTight 4 = .ok (.invokestatic 227, 3) := by decide +kernel
theorem dX12_isTight_7 : decode cX12_isTight 7 = .ok (.iload_n 1, 1) := by decide +kernel
theorem dX12_isTight_8 : decode cX12_isTight 8 = .ok (.iconst 3, 1) := by decide +kernel
theorem dX12_isTight_9 : decode cX12_isTight 9 = .ok (.irem, 1) := by decide +kernel
theorem dX12_isTight_10 : decode cX12_isTight 10 = .ok (.ishr, 1) := by decide +kernel
theorem dX12_isTight_11 : decode cX12_isTight 11 = .ok (.iconst 1, 1) := by decide +kernel
theorem dX12_isTight_12 : decode cX12_isTight 12 = .ok (.iand, 1) := by decide +kernel
theorem dX12_isTight_13 : decode cX12_isTight 13 = .ok (.iconst 1, 1) := by decide +kernel
theorem dX12_isTight_14 : decode cX12_isTight 14 = .ok (.if_icmp .ne 7, 3) := by decide +kernel
theorem dX12_isTight_17 : decode cX12_isTight 17 = .ok (.iconst 1, 1) := by decide +kernel
theorem dX12_isTight_18 : decode cX12_isTight 18 = .ok (.goto 4, 3) := by decide +kernel
theorem dX12_isTight_21 : decode cX12_isTight 21 = .ok (.iconst 0, 1) := by decide +kernel
theorem dX12_isTight_22 : decode cX12_isTight 22 = .ok (.ireturn, 1) := by decide +kernel
theorem dX12_measures_0 : decode cX12_measures 0 = .ok (.iconst 0, 1) := by decide +kernel
theorem dX12_measures_1 : decode cX12_measures 1 = .ok (.istore_n 2, 1) := by decide +kernel
theorem dX12_measures_2 : decode cX12_measures 2 = .ok (.iconst 0, 1) := by decide +kernel
theorem dX12_measures_3 : decode cX12_measures 3 = .ok (.istore_n 3, 1) := by decide +kernel
theorem dX12_measures_4 : decode cX12_measures 4 = .ok (.iconst 0, 1) := by decide +kernel
theorem dX12_measures_5 : decode cX12_measures 5 = .ok (.istore 4, 2) := by decide +kernel
theorem dX12_measures_7 : decode cX12_measures 7 = .ok (.iconst 0, 1) := by decide +kernel
theorem dX12_measures_8 : decode cX12_measures 8 = .ok (.istore 5, 2) := by decide +kernel
theorem dX12_measures_10 : decode cX12_measures 10 = .ok (.iconst (-1), 1) := by decide +kernel
theorem dX12_measures_11 : decode cX12_measures 11 = .ok (.istore 6, 2) := by decide +kernel
theorem dX12_measures_13 : decode cX12_measures 13 = .ok (.aload_n 0, 1) := by decide +kernel
theorem dX12_measures_14 : decode cX12_measures 14 = .ok (.iconst (-1), 1) := by decide +kernel
theorem dX12_measures_15 : decode cX12_measures 15 = .ok (.putfield 231, 3) := by decide +kernel
theorem dX12_measures_18 : decode cX12_measures 18 = .ok (.aload_n 1, 1) := by decide +kernel
theorem dX12_measures_19 : decode cX12_measures 19 = .ok (.bipush 48, 2) := by decide +kernel
theorem dX12_measures_21 : decode cX12_measures 21 = .ok (.iaload, 1) := by decide +kernel
theorem dX12_measures_22 : decode cX12_measures 22 = .ok (.iconst 1, 1) := by decide +kernel
theorem dX12_measures_23 : decode cX12_measures 23 = .ok (.isub, 1) := by decide +kernel
theorem dX12_measures_24 : decode cX12_measures 24 = .ok (.istore 7, 2) := by decide +kernel
theorem dX12_measures_26 : decode cX12_measures 26 = .ok (.iload 7, 2) := by decide +kernel
theorem dX12_measures_28 : decode cX12_measures 28 = .ok (.ifCond .lt 371, 3) := by decide +kernel
theorem dX12_measures_31 : decode cX12_measures 31 = .ok (.iload 7, 2) := by decide +kernel
theorem dX12_measures_33 : decode cX12_measures 33 = .ok (.iconst 2, 1) := by decide +kernel
theorem dX12_measures_34 : decode cX12_measures 34 = .ok (.irem, 1) := by decide +kernel
theorem dX12_measures_35 : decode cX12_measures 35 = .ok (.ifCond .ne 7, 3) := by decide +kernel
theorem dX12_measures_38 : decode cX12_measures 38 = .ok (.iconst 1, 1) := by decide +kernel
theorem dX12_measures_39 : decode cX12_measures 39 = .ok (.goto 4, 3) := by decide +kernel
theorem dX12_measures_42 : decode cX12_measures 42 = .ok (.iconst 0, 1) := by decide +kernel
theorem dX12_measures_43 : decode cX12_measures 43 = .ok (.istore 8, 2) := by decide +kernel
theorem dX12_measures_45 : decode cX12_measures 45 = .ok (.iload_n 3, 1) := by decide +kernel
theorem dX12_measures_46 : decode cX12_measures 46 = .ok (.iload_n 2, 1) := by decide +kernel
theorem dX12_measures_47 : decode cX12_measures 47 = .ok (.iadd, 1) := by decide +kernel
theorem dX12_measures_48 : decode cX12_measures 48 = .ok (.istore_n 3, 1) := by decide +kernel
theorem dX12_measures_49 : decode cX12_measures 49 = .ok (.aload_n 0, 1) := by decide +kernel
theorem dX12_measures_50 : decode cX12_measures 50 = .ok (.getfield 52, 3) := by decide +kernel
theorem dX12_measures_53 : decode cX12_measures 53 = .ok (.iload 7, 2) := by decide +kernel
theorem dX12_measures_55 : decode cX12_measures 55 = .ok (.iload_n 2, 1) := by decide +kernel
theorem dX12_measures_56 : decode cX12_measures 56 = .ok (.iastore, 1) := by decide +kernel
theorem dX12_measures_57 : decode cX12_measures 57 = .ok (.aload_n 0, 1) := by decide +kernel
theorem dX12_measures_58 : decode cX12_measures 58 = .ok (.getfield 55, 3) := by decide +kernel
theorem dX12_measures_61 : decode cX12_measures 61 = .ok (.iload 7, 2) := by decide +kernel
theorem dX12_measures_63 : decode cX12_measures 63 = .ok (.bipush 10, 2) := by decide +kernel
theorem dX12_measures_65 : decode cX12_measures 65 = .ok (.iload 8, 2) := by decide +kernel
theorem dX12_measures_67 : decode cX12_measures 67 = .ok (.ifCond .eq 8, 3) := by decide +kernel
theorem dX12_measures_70 : decode cX12_measures 70 = .ok (.iload 4, 2) := by decide +kernel
theorem dX12_measures_72 : decode cX12_measures 72 = .ok (.goto 5, 3) := by decide +kernel
theorem dX12_measures_75 : decode cX12_measures 75 = .ok (.iload 5, 2) := by decide +kernel
theorem dX12_measures_77 : decode cX12_measures 77 = .ok (.imul, 1) := by decide +kernel
theorem dX12_measures_78 : decode cX12_measures 78 = .ok (.iload 8, 2) := by decide +kernel
theorem dX12_measures_80 : decode cX12_measures 80 = .ok (.ifCond .eq 10, 3) := by decide +kernel
theorem dX12_measures_83 : decode cX12_measures 83 = .ok (.aload_n 0, 1) := by decide +kernel
theorem dX12_measures_84 : decode cX12_measures 84 = .ok (.getfield 234, 3) := by decide +kernel
theorem dX12_measures_87 : decode cX12_measures 87 = .ok (.goto 7, 3) := by decide +kernel
theorem dX12_measures_90 : decode cX12_measures 90 = .ok (.aload_n 0, 1) := by decide +kernel
theorem dX12_measures_91 : decode cX12_measures 91 = .ok (.getfield 237, 3) := by decide +kernel
theorem dX12_measures_94 : decode cX12_measures 94 = .ok (.iload_n 3, 1) := by decide +kernel
theorem dX12_measures_95 : decode cX12_measures 95 = .ok (.imul, 1) := by decide +kernel
theorem dX12_measures_96 : decode cX12_measures 96 = .ok (.iadd, 1) := by decide +kernel
theorem dX12_measures_97 : decode cX12_measures 97 = .ok (.iastore, 1) := by decide +kernel
theorem dX12_measures_98 : decode cX12_measures 98 = .ok (.aload_n 1, 1) := by decide +kernel
theorem dX12_measures_99 : decode cX12_measures 99 = .ok (.iload 7, 2) := by decide +kernel
theorem dX12_measures_101 : decode cX12_measures 101 = .ok (.invokestatic 227, 3) := by decide +kernel
theorem dX12_measures_104 : decode cX12_measures 104 = .ok (.istore 9, 2) := by decide +kernel
theorem dX12_measures_106 : decode cX12_measures 106 = .ok (.iload 9, 2) := by decide +kernel
theorem dX12_measures_108 : decode cX12_measures 108 = .ok (.iconst 2, 1) := by decide +kernel
theorem dX12_measures_109 : decode cX12_measures 109 = .ok (.irem, 1) := by decide +kernel
theorem dX12_measures_110 : decode cX12_measures 110 = .ok (.iconst 1, 1) := by decide +kernel
theorem dX12_measures_111 : decode cX12_measures 111 = .ok (.if_icmp .ne 7, 3) := by decide +kernel
theorem dX12_measures_114 : decode cX12_measures 114 = .ok (.iconst 0, 1) := by decide +kernel
theorem dX12_measures_115 : decode cX12_measures 115 = .ok (.goto 16, 3) := by decide +kernel
theorem dX12_measures_118 : decode cX12_measures 118 = .ok (.iload 9, 2) := by decide +kernel
theorem dX12_measures_120 : decode cX12_measures 120 = .ok (.iconst 4, 1) := by decide +kernel
theorem dX12_measures_121 : decode cX12_measures 121 = .ok (.irem, 1) := by decide +kernel
theorem dX12_measures_122 : decode cX12_measures 122 = .ok (.iconst 1, 1) := by decide +kernel
theorem dX12_measures_123 : decode cX12_measures 123 = .ok (.if_icmp .le 7, 3) := by decide +kernel
theorem dX12_measures_126 : decode cX12_measures 126 = .ok (.iconst 1, 1) := by decide +kernel
theorem dX12_measures_127 : decode cX12_measures 127 = .ok (.goto 4, 3) := by decide +kernel
theorem dX12_measures_130 : decode cX12_measures 130 = .ok (.iconst 2, 1) := by decide +kernel
theorem dX12_measures_131 : decode cX12_measures 131 = .ok (.istore 10, 2) := by decide +kernel
theorem dX12_measures_133 : decode cX12_measures 133 = .ok (.iload 9, 2) := by decide +kernel
theorem dX12_measures_135 : decode cX12_measures 135 = .ok (.iconst 3, 1) := by decide +kernel
theorem dX12_measures_136 : decode cX12_measures 136 = .ok (.if_icmp .le 7, 3) := by decide +kernel
theorem dX12_measures_139 : decode cX12_measures 139 = .ok (.iconst 2, 1) := by decide +kernel
theorem dX12_measures_140 : decode cX12_measures 140 = .ok (.goto 14, 3) := by decide +kernel
theorem dX12_measures_143 : decode cX12_measures 143 = .ok (.iload 9, 2) := by decide +kernel
theorem dX12_measures_145 : decode cX12_measures 145 = .ok (.iconst 1, 1) := by decide +kernel
theorem dX12_measures_146 : decode cX12_measures 146 = .ok (.if_icmp .le 7, 3) := by decide +kernel
theorem dX12_measures_149 : decode cX12_measures 149 = .ok (.iconst 1, 1) := by decide +kernel
theorem dX12_measures_150 : decode cX12_measures 150 = .ok (.goto 4, 3) := by decide +kernel
theorem dX12_measures_153 : decode cX12_measures 153 = .ok (.iconst 0, 1) := by decide +kernel
theorem dX12_measures_154 : decode cX12_measures 154 = .ok (.istore 11, 2) := by decide +kernel
theorem dX12_measures_156 : decode cX12_measures 156 = .ok (.iconst 2, 1) := by decide +kernel
theorem dX12_measures_157 : decode cX12_measures 157 = .ok (.aload_n 0, 1) := by decide +kernel
theorem dX12_measures_158 : decode cX12_measures 158 = .ok (.getfield 55, 3) := by decide +kernel
theorem dX12_measures_161 : decode cX12_measures 161 = .ok (.iload 7, 2) := by decide +kernel
theorem dX12_measures_163 : decode cX12_measures 163 = .ok (.iaload, 1) := by decide +kernel
theorem dX12_measures_164 : decode cX12_measures 164 = .ok (.imul, 1) := by decide +kernel
theorem dX12_measures_165 : decode cX12_measures 165 = .ok (.bipush 10, 2) := by decide +kernel
theorem dX12_measures_167 : decode cX12_measures 167 = .ok (.iload_n 2, 1) := by decide +kernel
theorem dX12_measures_168 : decode cX12_measures 168 = .ok (.imul, 1) := by decide +kernel
theorem dX12_measures_169 : decode cX12_measures 169 = .ok (.iconst 2, 1) := by decide +kernel
theorem dX12_measures_170 : decode cX12_measures 170 = .ok (.iload 10, 2) := by decide +kernel
theorem dX12_measures_172 : decode cX12_measures 172 = .ok (.iconst 1, 1) := by decide +kernel
theorem dX12_measures_173 : decode cX12_measures 173 = .ok (.isub, 1) := by decide +kernel
theorem dX12_measures_174 : decode cX12_measures 174 = .ok (.imul, 1) := by decide +kernel
theorem dX12_measures_175 : decode cX12_measures 175 = .ok (.iconst 1, 1) := by decide +kernel
theorem dX12_measures_176 : decode cX12_measures 176 = .ok (.isub, 1) := by decide +kernel
theorem dX12_measures_177 : decode cX12_measures 177 = .ok (.imul, 1) := by decide +kernel
theorem dX12_measures_178 : decode cX12_measures 178 = .ok (.isub, 1) := by decide +kernel
theorem dX12_measures_179 : decode cX12_measures 179 = .ok (.istore 12, 2) := by decide +kernel
theorem dX12_measures_181 : decode cX12_measures 181 = .ok (.bipush 10, 2) := by decide +kernel
theorem dX12_measures_183 : decode cX12_measures 183 = .ok (.iload_n 2, 1) := by decide +kernel
theorem dX12_measures_184 : decode cX12_measures 184 = .ok (.imul, 1) := by decide +kernel
theorem dX12_measures_185 : decode cX12_measures 185 = .ok (.iconst 2, 1) := by decide +kernel
theorem dX12_measures_186 : decode cX12_measures 186 = .ok (.iload 11, 2) := by decide +kernel
theorem dX12_measures_188 : decode cX12_measures 188 = .ok (.iconst 1, 1) := by decide +kernel
theorem dX12_measures_189 : decode cX12_measures 189 = .ok (.isub, 1) := by decide +kernel
theorem dX12_measures_190 : decode cX12_measures 190 = .ok (.imul, 1) := by decide +kernel
theorem dX12_measures_191 : decode cX12_measures 191 = .ok (.iconst 1, 1) := by decide +kernel
theorem dX12_measures_192 : decode cX12_measures 192 = .ok (.iadd, 1) := by decide +kernel
theorem dX12_measures_193 : decode cX12_measures 193 = .ok (.imul, 1) := by decide +kernel
theorem dX12_measures_194 : decode cX12_measures 194 = .ok (.iconst 2, 1) := by decide +kernel
theorem dX12_measures_195 : decode cX12_measures 195 = .ok (.aload_n 0, 1) := by decide +kernel
theorem dX12_measures_196 : decode cX12_measures 196 = .ok (.getfield 55, 3) := by decide +kernel
theorem dX12_measures_199 : decode cX12_measures 199 = .ok (.iload 7, 2) := by decide +kernel
theorem dX12_measures_201 : decode cX12_measures 201 = .ok (.iaload, 1) := by decide +kernel
theorem dX12_measures_202 : decode cX12_measures 202 = .ok (.imul, 1) := by decide +kernel
theorem dX12_measures_203 : decode cX12_measures 203 = .ok (.isub, 1) := by decide +kernel
theorem dX12_measures_204 : decode cX12_measures 204 = .ok (.istore 13, 2) := by decide +kernel
theorem dX12_measures_206 : decode cX12_measures 206 = .ok (.aload_n 0, 1) := by decide +kernel
theorem dX12_measures_207 : decode cX12_measures 207 = .ok (.getfield 58, 3) := by decide +kernel
theorem dX12_measures_210 : decode cX12_measures 210 = .ok (.iload 7, 2) := by decide +kernel
theorem dX12_measures_212 : decode cX12_measures 212 = .ok (.iload 7, 2) := by decide +kernel
theorem dX12_measures_214 : decode cX12_measures 214 = .ok (.aload_n 1, 1) := by decide +kernel
theorem dX12_measures_215 : decode cX12_measures 215 = .ok (.bipush 48, 2) := by decide +kernel
theorem dX12_measures_217 : decode cX12_measures 217 = .ok (.iaload, 1) := by decide +kernel
theorem dX12_measures_218 : decode cX12_measures 218 = .ok (.iconst 1, 1) := by decide +kernel
theorem dX12_measures_219 : decode cX12_measures 219 = .ok (.isub, 1) := by decide +kernel
theorem dX12_measures_220 : decode cX12_measures 220 = .ok (.if_icmp .ne 7, 3) := by decide +kernel
theorem dX12_measures_223 : decode cX12_measures 223 = .ok (.iconst 0, 1) := by decide +kernel
theorem dX12_measures_224 : decode cX12_measures 224 = .ok (.goto 10, 3) := by decide +kernel
theorem dX12_measures_227 : decode cX12_measures 227 = .ok (.iload 12, 2) := by decide +kernel
theorem dX12_measures_229 : decode cX12_measures 229 = .ok (.iload 13, 2) := by decide +kernel
theorem dX12_measures_231 : decode cX12_measures 231 = .ok (.invokestatic 152, 3) := by decide +kernel
theorem dX12_measures_234 : decode cX12_measures 234 = .ok (.iastore, 1) := by decide +kernel
theorem dX12_measures_235 : decode cX12_measures 235 = .ok (.aload_n 0, 1) := by decide +kernel
theorem dX12_measures_236 : decode cX12_measures 236 = .ok (.getfield 58, 3) := by decide +kernel
theorem dX12_measures_239 : decode cX12_measures 239 = .ok (.iload 7, 2) := by decide +kernel
theorem dX12_measures_241 : decode cX12_measures 241 = .ok (.iaload, 1) := by decide +kernel
theorem dX12_measures_242 : decode cX12_measures 242 = .ok (.ifCond .ge 8, 3) := by decide +kernel
theorem dX12_measures_245 : decode cX12_measures 245 = .ok (.iload 7, 2) := by decide +kernel
theorem dX12_measures_247 : decode cX12_measures 247 = .ok (.goto 5, 3) := by decide +kernel
theorem dX12_measures_250 : decode cX12_measures 250 = .ok (.iload 6, 2) := by decide +kernel
theorem dX12_measures_252 : decode cX12_measures 252 = .ok (.istore 6, 2) := by decide +kernel
theorem dX12_measures_254 : decode cX12_measures 254 = .ok (.aload_n 0, 1) := by decide +kernel
theorem dX12_measures_255 : decode cX12_measures 255 = .ok (.iload 7, 2) := by decide +kernel
theorem dX12_measures_257 : decode cX12_measures 257 = .ok (.aload_n 1, 1) := by decide +kernel
theorem dX12_measures_258 : decode cX12_measures 258 = .ok (.bipush 48, 2) := by decide +kernel
theorem dX12_measures_260 : decode cX12_measures 260 = .ok (.iaload, 1) := by decide +kernel
theorem dX12_measures_261 : decode cX12_measures 261 = .ok (.iconst 1, 1) := by decide +kernel
theorem dX12_measures_262 : decode cX12_measures 262 = .ok (.isub, 1) := by decide +kernel
theorem dX12_measures_263 : decode cX12_measures 263 = .ok (.if_icmp .ge 34, 3) := by decide +kernel
theorem dX12_measures_266 : decode cX12_measures 266 = .ok (.aload_n 0, 1) := by decide +kernel
theorem dX12_measures_267 : decode cX12_measures 267 = .ok (.getfield 231, 3) := by decide +kernel
theorem dX12_measures_270 : decode cX12_measures 270 = .ok (.ifCond .lt 22, 3) := by decide +kernel
theorem dX12_measures_273 : decode cX12_measures 273 = .ok (.aload_n 0, 1) := by decide +kernel
theorem dX12_measures_274 : decode cX12_measures 274 = .ok (.getfield 58, 3) := by decide +kernel
theorem dX12_measures_277 : decode cX12_measures 277 = .ok (.iload 7, 2) := by decide +kernel
theorem dX12_measures_279 : decode cX12_measures 279 = .ok (.iaload, 1) := by decide +kernel
theorem dX12_measures_280 : decode cX12_measures 280 = .ok (.aload_n 0, 1) := by decide +kernel
theorem dX12_measures_281 : decode cX12_measures 281 = .ok (.getfield 58, 3) := by decide +kernel
theorem dX12_measures_284 : decode cX12_measures 284 = .ok (.aload_n 0, 1) := by decide +kernel
theorem dX12_measures_285 : decode cX12_measures 285 = .ok (.getfield 231, 3) := by decide +kernel
theorem dX12_measures_288 : decode cX12_measures 288 = .ok (.iaload, 1) := by decide +kernel
theorem dX12_measures_289 : decode cX12_measures 289 = .ok (.if_icmp .gt 8, 3) := by decide +kernel
theorem dX12_measures_292 : decode cX12_measures 292 = .ok (.iload 7, 2) := by decide +kernel
theorem dX12_measures_294 : decode cX12_measures 294 = .ok (.goto 7, 3) := by decide +kernel
theorem dX12_measures_297 : decode cX12_measures 297 = .ok (.aload_n 0, 1) := by decide +kernel
theorem dX12_measures_298 : decode cX12_measures 298 = .ok (.getfield 231, 3) := by decide +kernel
theorem dX12_measures_301 : decode cX12_measures 301 = .ok (.putfield 231, 3) := by decide +kernel
theorem dX12_measures_304 : decode cX12_measures 304 = .ok (.iconst 0, 1) := by decide +kernel
theorem dX12_measures_305 : decode cX12_measures 305 = .ok (.istore 14, 2) := by decide +kernel
theorem dX12_measures_307 : decode cX12_measures 307 = .ok (.iload 14, 2) := by decide +kernel
theorem dX12_measures_309 : decode cX12_measures 309 = .ok (.iconst 3, 1) := by decide +kernel
theorem dX12_measures_310 : decode cX12_measures 310 = .ok (.if_icmp .ge 83, 3) := by decide +kernel
theorem dX12_measures_313 : decode cX12_measures 313 = .ok (.aload_n 1, 1) := by decide +kernel
theorem dX12_measures_314 : decode cX12_measures 314 = .ok (.iconst 3, 1) := by decide +kernel
theorem dX12_measures_315 : decode cX12_measures 315 = .ok (.iload 7, 2) := by decide +kernel
theorem dX12_measures_317 : decode cX12_measures 317 = .ok (.imul, 1) := by decide +kernel
theorem dX12_measures_318 : decode cX12_measures 318 = .ok (.iload 14, 2) := by decide +kernel
theorem dX12_measures_320 : decode cX12_measures 320 = .ok (.iadd, 1) := by decide +kernel
theorem dX12_measures_321 : decode cX12_measures 321 = .ok (.iaload, 1) := by decide +kernel
theorem dX12_measures_322 : decode cX12_measures 322 = .ok (.istore 15, 2) := by decide +kernel
theorem dX12_measures_324 : decode cX12_measures 324 = .ok (.iload 15, 2) := by decide +kernel
theorem dX12_measures_326 : decode cX12_measures 326 = .ok (.ifCond .ge 7, 3) := by decide +kernel
theorem dX12_measures_329 : decode cX12_measures 329 = .ok (.iconst 0, 1) := by decide +kernel
theorem dX12_measures_330 : decode cX12_measures 330 = .ok (.goto 8, 3) := by decide +kernel
theorem dX12_measures_333 : decode cX12_measures 333 = .ok (.bipush 10, 2) := by decide +kernel
theorem dX12_measures_335 : decode cX12_measures 335 = .ok (.iload 15, 2) := by decide +kernel
theorem dX12_measures_337 : decode cX12_measures 337 = .ok (.iadd, 1) := by decide +kernel
theorem dX12_measures_338 : decode cX12_measures 338 = .ok (.istore 16, 2) := by decide +kernel
theorem dX12_measures_340 : decode cX12_measures 340 = .ok (.iload_n 2, 1) := by decide +kernel
theorem dX12_measures_341 : decode cX12_measures 341 = .ok (.iload 16, 2) := by decide +kernel
theorem dX12_measures_343 : decode cX12_measures 343 = .ok (.iadd, 1) := by decide +kernel
theorem dX12_measures_344 : decode cX12_measures 344 = .ok (.istore_n 2, 1) := by decide +kernel
theorem dX12_measures_345 : decode cX12_measures 345 = .ok (.iload 4, 2) := by decide +kernel
theorem dX12_measures_347 : decode cX12_measures 347 = .ok (.iload 8, 2) := by decide +kernel
theorem dX12_measures_349 : decode cX12_measures 349 = .ok (.ifCond .eq 13, 3) := by decide +kernel
theorem dX12_measures_352 : decode cX12_measures 352 = .ok (.iload 16, 2) := by decide +kernel
theorem dX12_measures_354 : decode cX12_measures 354 = .ok (.iload 14, 2) := by decide +kernel
theorem dX12_measures_356 : decode cX12_measures 356 = .ok (.iconst 1, 1) := by decide +kernel
theorem dX12_measures_357 : decode cX12_measures 357 = .ok (.isub, 1) := by decide +kernel
theorem dX12_measures_358 : decode cX12_measures 358 = .ok (.imul, 1) := by decide +kernel
theorem dX12_measures_359 : decode cX12_measures 359 = .ok (.goto 4, 3) := by decide +kernel
theorem dX12_measures_362 : decode cX12_measures 362 = .ok (.iconst 0, 1) := by decide +kernel
theorem dX12_measures_363 : decode cX12_measures 363 = .ok (.iadd, 1) := by decide +kernel
theorem dX12_measures_364 : decode cX12_measures 364 = .ok (.istore 4, 2) := by decide +kernel
theorem dX12_measures_366 : decode cX12_measures 366 = .ok (.iload 5, 2) := by decide +kernel
theorem dX12_measures_368 : decode cX12_measures 368 = .ok (.iload 8, 2) := by decide +kernel
theorem dX12_measures_370 : decode cX12_measures 370 = .ok (.ifCond .eq 7, 3) := by decide +kernel
theorem dX12_measures_373 : decode cX12_measures 373 = .ok (.iconst 0, 1) := by decide +kernel
theorem dX12_measures_374 : decode cX12_measures 374 = .ok (.goto 10, 3) := by decide +kernel
theorem dX12_measures_377 : decode cX12_measures 377 = .ok (.iload 16, 2) := by decide +kernel
theorem dX12_measures_379 : decode cX12_measures 379 = .ok (.iload 14, 2) := by decide +kernel
theorem dX12_measures_381 : decode cX12_measures 381 = .ok (.iconst 1, 1) := by decide +kernel
theorem dX12_measures_382 : decode cX12_measures 382 = .ok (.isub, 1) := by decide +kernel
theorem dX12_measures_383 : decode cX12_measures 383 = .ok (.imul, 1) := by decide +kernel
theorem dX12_measures_384 : decode cX12_measures 384 = .ok (.iadd, 1) := by decide +kernel
theorem dX12_measures_385 : decode cX12_measures 385 = .ok (.istore 5, 2) := by decide +kernel
theorem dX12_measures_387 : decode cX12_measures 387 = .ok (.iinc 14 1, 3) := by decide +kernel
theorem dX12_measures_390 : decode cX12_measures 390 = .ok (.goto (-83), 3) := by decide +kernel
theorem dX12_measures_393 : decode cX12_measures 393 = .ok (.iinc 7 (-1), 3) := by decide +kernel
theorem dX12_measures_396 : decode cX12_measures 396 = .ok (.goto (-370), 3) := by decide +kernel
theorem dX12_measures_399 : decode cX12_measures 399 = .ok (.iload 6, 2) := by decide +kernel
theorem dX12_measures_401 : decode cX12_measures 401 = .ok (.ireturn, 1) := by decide +kernel
theorem dX12_isStanding_0 : decode cX12_isStanding 0 = .ok (.aload_n 0, 1) := by decide +kernel
theorem dX12_isStanding_1 : decode cX12_isStanding 1 = .ok (.aload_n 1, 1) := by decide +kernel
theorem dX12_isStanding_2 : decode cX12_isStanding 2 = .ok (.invokevirtual 240, 3) := by decide +kernel
theorem dX12_isStanding_5 : decode cX12_isStanding 5 = .ok (.ifCond .ge 7, 3) := by decide +kernel
theorem dX12_isStanding_8 : decode cX12_isStanding 8 = .ok (.iconst 1, 1) := by decide +kernel
theorem dX12_isStanding_9 : decode cX12_isStanding 9 = .ok (.goto 4, 3) := by decide +kernel
theorem dX12_isStanding_12 : decode cX12_isStanding 12 = .ok (.iconst 0, 1) := by decide +kernel
theorem dX12_isStanding_13 : decode cX12_isStanding 13 = .ok (.ireturn, 1) := by decide +kernel
theorem dX12_block_0 : decode cX12_block 0 = .ok (.aload_n 0, 1) := by decide +kernel
theorem dX12_block_1 : decode cX12_block 1 = .ok (.iconst 0, 1) := by decide +kernel
theorem dX12_block_2 : decode cX12_block 2 = .ok (.putfield 3, 3) := by decide +kernel
theorem dX12_block_5 : decode cX12_block 5 = .ok (.aload_n 0, 1) := by decide +kernel
theorem dX12_block_6 : decode cX12_block 6 = .ok (.getfield 24, 3) := by decide +kernel
theorem dX12_block_9 : decode cX12_block 9 = .ok (.iload_n 1, 1) := by decide +kernel
theorem dX12_block_10 : decode cX12_block 10 = .ok (.invokestatic 244, 3) := by decide +kernel
theorem dX12_block_13 : decode cX12_block 13 = .ok (.ifCond .eq 15, 3) := by decide +kernel
theorem dX12_block_16 : decode cX12_block 16 = .ok (.iload_n 2, 1) := by decide +kernel
theorem dX12_block_17 : decode cX12_block 17 = .ok (.i2l, 1) := by decide +kernel
theorem dX12_block_18 : decode cX12_block 18 = .ok (.lconst 0, 1) := by decide +kernel
theorem dX12_block_19 : decode cX12_block 19 = .ok (.ldc2_w 248, 3) := by decide +kernel
theorem dX12_block_22 : decode cX12_block 22 = .ok (.invokestatic 135, 3) := by decide +kernel
theorem dX12_block_25 : decode cX12_block 25 = .ok (.ifCond .ne 8, 3) := by decide +kernel
theorem dX12_block_28 : decode cX12_block 28 = .ok (.aload_n 0, 1) := by decide +kernel
theorem dX12_block_29 : decode cX12_block 29 = .ok (.invokevirtual 250, 3) := by decide +kernel
theorem dX12_block_32 : decode cX12_block 32 = .ok (.ireturn, 1) := by decide +kernel
theorem dX12_block_33 : decode cX12_block 33 = .ok (.iload_n 2, 1) := by decide +kernel
theorem dX12_block_34 : decode cX12_block 34 = .ok (.iconst 2, 1) := by decide +kernel
theorem dX12_block_35 : decode cX12_block 35 = .ok (.if_icmp .ge 15, 3) := by decide +kernel
theorem dX12_block_38 : decode cX12_block 38 = .ok (.aload_n 0, 1) := by decide +kernel
theorem dX12_block_39 : decode cX12_block 39 = .ok (.getfield 24, 3) := by decide +kernel
theorem dX12_block_42 : decode cX12_block 42 = .ok (.iload_n 1, 1) := by decide +kernel
theorem dX12_block_43 : decode cX12_block 43 = .ok (.iaload, 1) := by decide +kernel
theorem dX12_block_44 : decode cX12_block 44 = .ok (.bipush 10, 2) := by decide +kernel
theorem dX12_block_46 : decode cX12_block 46 = .ok (.iload_n 2, 1) := by decide +kernel
theorem dX12_block_47 : decode cX12_block 47 = .ok (.imul, 1) := by decide +kernel
theorem dX12_block_48 : decode cX12_block 48 = .ok (.iadd, 1) := by decide +kernel
theorem dX12_block_49 : decode cX12_block 49 = .ok (.ireturn, 1) := by decide +kernel
theorem dX12_block_50 : decode cX12_block 50 = .ok (.iload_n 2, 1) := by decide +kernel
theorem dX12_block_51 : decode cX12_block 51 = .ok (.iconst 2, 1) := by decide +kernel
theorem dX12_block_52 : decode cX12_block 52 = .ok (.if_icmp .ne 15, 3) := by decide +kernel
theorem dX12_block_55 : decode cX12_block 55 = .ok (.aload_n 0, 1) := by decide +kernel
theorem dX12_block_56 : decode cX12_block 56 = .ok (.getfield 24, 3) := by decide +kernel
theorem dX12_block_59 : decode cX12_block 59 = .ok (.iload_n 1, 1) := by decide +kernel
theorem dX12_block_60 : decode cX12_block 60 = .ok (.invokestatic 253, 3) := by decide +kernel
theorem dX12_block_63 : decode cX12_block 63 = .ok (.invokestatic 139, 3) := by decide +kernel
theorem dX12_block_66 : decode cX12_block 66 = .ok (.ireturn, 1) := by decide +kernel
theorem dX12_block_67 : decode cX12_block 67 = .ok (.iload_n 2, 1) := by decide +kernel
theorem dX12_block_68 : decode cX12_block 68 = .ok (.iconst 3, 1) := by decide +kernel
theorem dX12_block_69 : decode cX12_block 69 = .ok (.if_icmp .ne 44, 3) := by decide +kernel
theorem dX12_block_72 : decode cX12_block 72 = .ok (.iconst 0, 1) := by decide +kernel
theorem dX12_block_73 : decode cX12_block 73 = .ok (.istore_n 3, 1) := by decide +kernel
theorem dX12_block_74 : decode cX12_block 74 = .ok (.iload_n 1, 1) := by decide +kernel
theorem dX12_block_75 : decode cX12_block 75 = .ok (.iconst 3, 1) := by decide +kernel
theorem dX12_block_76 : decode cX12_block 76 = .ok (.idiv, 1) := by decide +kernel
theorem dX12_block_77 : decode cX12_block 77 = .ok (.iconst 1, 1) := by decide +kernel
theorem dX12_block_78 : decode cX12_block 78 = .ok (.iadd, 1) := by decide +kernel
theorem dX12_block_79 : decode cX12_block 79 = .ok (.istore 4, 2) := by decide +kernel
theorem dX12_block_81 : decode cX12_block 81 = .ok (.iload 4, 2) := by decide +kernel
theorem dX12_block_83 : decode cX12_block 83 = .ok (.aload_n 0, 1) := by decide +kernel
theorem dX12_block_84 : decode cX12_block 84 = .ok (.getfield 24, 3) := by decide +kernel
theorem dX12_block_87 : decode cX12_block 87 = .ok (.bipush 48, 2) := by decide +kernel
theorem dX12_block_89 : decode cX12_block 89 = .ok (.iaload, 1) := by decide +kernel
theorem dX12_block_90 : decode cX12_block 90 = .ok (.if_icmp .ge 21, 3) := by decide +kernel
theorem dX12_block_93 : decode cX12_block 93 = .ok (.iload_n 3, 1) := by decide +kernel
theorem dX12_block_94 : decode cX12_block 94 = .ok (.aload_n 0, 1) := by decide +kernel
theorem dX12_block_95 : decode cX12_block 95 = .ok (.getfield 24, 3) := by decide +kernel
theorem dX12_block_98 : decode cX12_block 98 = .ok (.iload 4, 2) := by decide +kernel
theorem dX12_block_100 : decode cX12_block 100 = .ok (.invokestatic 256, 3) := by decide +kernel
theorem dX12_block_103 : decode cX12_block 103 = .ok (.iadd, 1) := by decide +kernel
theorem dX12_block_104 : decode cX12_block 104 = .ok (.istore_n 3, 1) := by decide +kernel
theorem dX12_block_105 : decode cX12_block 105 = .ok (.iinc 4 1, 3) := by decide +kernel
theorem dX12_block_108 : decode cX12_block 108 = .ok (.goto (-27), 3) := by decide +kernel
theorem dX12_block_111 : decode cX12_block 111 = .ok (.iload_n 3, 1) := by decide +kernel
theorem dX12_block_112 : decode cX12_block 112 = .ok (.ireturn, 1) := by decide +kernel
theorem dX12_block_113 : decode cX12_block 113 = .ok (.aload_n 0, 1) := by decide +kernel
theorem dX12_block_114 : decode cX12_block 114 = .ok (.getfield 24, 3) := by decide +kernel
theorem dX12_block_117 : decode cX12_block 117 = .ok (.aload_n 0, 1) := by decide +kernel
theorem dX12_block_118 : decode cX12_block 118 = .ok (.getfield 28, 3) := by decide +kernel
theorem dX12_block_121 : decode cX12_block 121 = .ok (.invokestatic 259, 3) := by decide +kernel
theorem dX12_block_124 : decode cX12_block 124 = .ok (.aload_n 0, 1) := by decide +kernel
theorem dX12_block_125 : decode cX12_block 125 = .ok (.getfield 28, 3) := by decide +kernel
theorem dX12_block_128 : decode cX12_block 128 = .ok (.iload_n 1, 1) := by decide +kernel
theorem dX12_block_129 : decode cX12_block 129 = .ok (.iconst (-1), 1) := by decide +kernel
theorem dX12_block_130 : decode cX12_block 130 = .ok (.iastore, 1) := by decide +kernel
theorem dX12_block_131 : decode cX12_block 131 = .ok (.aload_n 0, 1) := by decide +kernel
theorem dX12_block_132 : decode cX12_block 132 = .ok (.getfield 24, 3) := by decide +kernel
theorem dX12_block_135 : decode cX12_block 135 = .ok (.iload_n 1, 1) := by decide +kernel
theorem dX12_block_136 : decode cX12_block 136 = .ok (.iconst 3, 1) := by decide +kernel
theorem dX12_block_137 : decode cX12_block 137 = .ok (.idiv, 1) := by decide +kernel
theorem dX12_block_138 : decode cX12_block 138 = .ok (.invokestatic 256, 3) := by decide +kernel
theorem dX12_block_141 : decode cX12_block 141 = .ok (.iconst 1, 1) := by decide +kernel
theorem dX12_block_142 : decode cX12_block 142 = .ok (.if_icmp .le 18, 3) := by decide +kernel
theorem dX12_block_145 : decode cX12_block 145 = .ok (.aload_n 0, 1) := by decide +kernel
theorem dX12_block_146 : decode cX12_block 146 = .ok (.aload_n 0, 1) := by decide +kernel
theorem dX12_block_147 : decode cX12_block 147 = .ok (.getfield 28, 3) := by decide +kernel
theorem dX12_block_150 : decode cX12_block 150 = .ok (.invokevirtual 263, 3) := by decide +kernel
theorem dX12_block_153 : decode cX12_block 153 = .ok (.ifCond .eq 7, 3) := by decide +kernel
theorem dX12_block_156 : decode cX12_block 156 = .ok (.iconst 1, 1) := by decide +kernel
theorem dX12_block_157 : decode cX12_block 157 = .ok (.goto 4, 3) := by decide +kernel
theorem dX12_block_160 : decode cX12_block 160 = .ok (.iconst 0, 1) := by decide +kernel
theorem dX12_block_161 : decode cX12_block 161 = .ok (.invokestatic 139, 3) := by decide +kernel
theorem dX12_block_164 : decode cX12_block 164 = .ok (.ireturn, 1) := by decide +kernel
theorem dX12_isLayer_0 : decode cX12_isLayer 0 = .ok (.iload_n 1, 1) := by decide +kernel
theorem dX12_isLayer_1 : decode cX12_isLayer 1 = .ok (.i2l, 1) := by decide +kernel
theorem dX12_isLayer_2 : decode cX12_isLayer 2 = .ok (.lconst 0, 1) := by decide +kernel
theorem dX12_isLayer_3 : decode cX12_isLayer 3 = .ok (.aload_n 0, 1) := by decide +kernel
theorem dX12_isLayer_4 : decode cX12_isLayer 4 = .ok (.getfield 24, 3) := by decide +kernel
theorem dX12_isLayer_7 : decode cX12_isLayer 7 = .ok (.bipush 48, 2) := by decide +kernel
theorem dX12_isLayer_9 : decode cX12_isLayer 9 = .ok (.iaload, 1) := by decide +kernel
theorem dX12_isLayer_10 : decode cX12_isLayer 10 = .ok (.iconst 1, 1) := by decide +kernel
theorem dX12_isLayer_11 : decode cX12_isLayer 11 = .ok (.isub, 1) := by decide +kernel
theorem dX12_isLayer_12 : decode cX12_isLayer 12 = .ok (.i2l, 1) := by decide +kernel
theorem dX12_isLayer_13 : decode cX12_isLayer 13 = .ok (.invokestatic 135, 3) := by decide +kernel
theorem dX12_isLayer_16 : decode cX12_isLayer 16 = .ok (.ireturn, 1) := by decide +kernel
theorem dX12_layer_0 : decode cX12_layer 0 = .ok (.aload_n 0, 1) := by decide +kernel
theorem dX12_layer_1 : decode cX12_layer 1 = .ok (.iconst 0, 1) := by decide +kernel
theorem dX12_layer_2 : decode cX12_layer 2 = .ok (.putfield 3, 3) := by decide +kernel
theorem dX12_layer_5 : decode cX12_layer 5 = .ok (.aload_n 0, 1) := by decide +kernel
theorem dX12_layer_6 : decode cX12_layer 6 = .ok (.iload_n 1, 1) := by decide +kernel
theorem dX12_layer_7 : decode cX12_layer 7 = .ok (.invokevirtual 267, 3) := by decide +kernel
theorem dX12_layer_10 : decode cX12_layer 10 = .ok (.ifCond .eq 15, 3) := by decide +kernel
theorem dX12_layer_13 : decode cX12_layer 13 = .ok (.iload_n 2, 1) := by decide +kernel
theorem dX12_layer_14 : decode cX12_layer 14 = .ok (.i2l, 1) := by decide +kernel
theorem dX12_layer_15 : decode cX12_layer 15 = .ok (.lconst 0, 1) := by decide +kernel
theorem dX12_layer_16 : decode cX12_layer 16 = .ok (.ldc2_w 270, 3) := by decide +kernel
theorem dX12_layer_19 : decode cX12_layer 19 = .ok (.invokestatic 135, 3) := by decide +kernel
theorem dX12_layer_22 : decode cX12_layer 22 = .ok (.ifCond .ne 8, 3) := by decide +kernel
theorem dX12_layer_25 : decode cX12_layer 25 = .ok (.aload_n 0, 1) := by decide +kernel
theorem dX12_layer_26 : decode cX12_layer 26 = .ok (.invokevirtual 250, 3) := by decide +kernel
theorem dX12_layer_29 : decode cX12_layer 29 = .ok (.ireturn, 1) := by decide +kernel
theorem dX12_layer_30 : decode cX12_layer 30 = .ok (.aload_n 0, 1) := by decide +kernel
theorem dX12_layer_31 : decode cX12_layer 31 = .ok (.aload_n 0, 1) := by decide +kernel
theorem dX12_layer_32 : decode cX12_layer 32 = .ok (.getfield 24, 3) := by decide +kernel
theorem dX12_layer_35 : decode cX12_layer 35 = .ok (.invokevirtual 240, 3) := by decide +kernel
theorem dX12_layer_38 : decode cX12_layer 38 = .ok (.pop, 1) := by decide +kernel
theorem dX12_layer_39 : decode cX12_layer 39 = .ok (.aload_n 0, 1) := by decide +kernel
theorem dX12_layer_40 : decode cX12_layer 40 = .ok (.getfield 24, 3) := by decide +kernel
theorem dX12_layer_43 : decode cX12_layer 43 = .ok (.iload_n 1, 1) := by decide +kernel
theorem dX12_layer_44 : decode cX12_layer 44 = .ok (.invokestatic 227, 3) := by decide +kernel
theorem dX12_layer_47 : decode cX12_layer 47 = .ok (.istore_n 3, 1) := by decide +kernel
theorem dX12_layer_48 : decode cX12_layer 48 = .ok (.iload_n 2, 1) := by decide +kernel
theorem dX12_layer_49 : decode cX12_layer 49 = .ok (.tableswitch 113 0 5 #[39, 48, 55, 62, 69, 93], 39) := by decide +kernel
theorem dX12_layer_88 : decode cX12_layer 88 = .ok (.aload_n 0, 1) := by decide +kernel
theorem dX12_layer_89 : decode cX12_layer 89 = .ok (.getfield 24, 3) := by decide +kernel
theorem dX12_layer_92 : decode cX12_layer 92 = .ok (.iload_n 1, 1) := by decide +kernel
theorem dX12_layer_93 : decode cX12_layer 93 = .ok (.invokestatic 256, 3) := by decide +kernel
theorem dX12_layer_96 : decode cX12_layer 96 = .ok (.ireturn, 1) := by decide +kernel
theorem dX12_layer_97 : decode cX12_layer 97 = .ok (.aload_n 0, 1) := by decide +kernel
theorem dX12_layer_98 : decode cX12_layer 98 = .ok (.getfield 52, 3) := by decide +kernel
theorem dX12_layer_101 : decode cX12_layer 101 = .ok (.iload_n 1, 1) := by decide +kernel
theorem dX12_layer_102 : decode cX12_layer 102 = .ok (.iaload, 1) := by decide +kernel
theorem dX12_layer_103 : decode cX12_layer 103 = .ok (.ireturn, 1) := by decide +kernel
theorem dX12_layer_104 : decode cX12_layer 104 = .ok (.aload_n 0, 1) := by decide +kernel
theorem dX12_layer_105 : decode cX12_layer 105 = .ok (.getfield 55, 3) := by decide +kernel
theorem dX12_layer_108 : decode cX12_layer 108 = .ok (.iload_n 1, 1) := by decide +kernel
theorem dX12_layer_109 : decode cX12_layer 109 = .ok (.iaload, 1) := by decide +kernel
theorem dX12_layer_110 : decode cX12_layer 110 = .ok (.ireturn, 1) := by decide +kernel
theorem dX12_layer_111 : decode cX12_layer 111 = .ok (.aload_n 0, 1) := by decide +kernel
theorem dX12_layer_112 : decode cX12_layer 112 = .ok (.getfield 58, 3) := by decide +kernel
theorem dX12_layer_115 : decode cX12_layer 115 = .ok (.iload_n 1, 1) := by decide +kernel
theorem dX12_layer_116 : decode cX12_layer 116 = .ok (.iaload, 1) := by decide +kernel
theorem dX12_layer_117 : decode cX12_layer 117 = .ok (.ireturn, 1) := by decide +kernel
theorem dX12_layer_118 : decode cX12_layer 118 = .ok (.iload_n 3, 1) := by decide +kernel
theorem dX12_layer_119 : decode cX12_layer 119 = .ok (.iconst 2, 1) := by decide +kernel
theorem dX12_layer_120 : decode cX12_layer 120 = .ok (.irem, 1) := by decide +kernel
theorem dX12_layer_121 : decode cX12_layer 121 = .ok (.iconst 1, 1) := by decide +kernel
theorem dX12_layer_122 : decode cX12_layer 122 = .ok (.if_icmp .ne 7, 3) := by decide +kernel
theorem dX12_layer_125 : decode cX12_layer 125 = .ok (.iconst 0, 1) := by decide +kernel
theorem dX12_layer_126 : decode cX12_layer 126 = .ok (.goto 15, 3) := by decide +kernel
theorem dX12_layer_129 : decode cX12_layer 129 = .ok (.iload_n 3, 1) := by decide +kernel
theorem dX12_layer_130 : decode cX12_layer 130 = .ok (.iconst 4, 1) := by decide +kernel
theorem dX12_layer_131 : decode cX12_layer 131 = .ok (.irem, 1) := by decide +kernel
theorem dX12_layer_132 : decode cX12_layer 132 = .ok (.iconst 1, 1) := by decide +kernel
theorem dX12_layer_133 : decode cX12_layer 133 = .ok (.if_icmp .le 7, 3) := by decide +kernel
theorem dX12_layer_136 : decode cX12_layer 136 = .ok (.iconst 1, 1) := by decide +kernel
theorem dX12_layer_137 : decode cX12_layer 137 = .ok (.goto 4, 3) := by decide +kernel
theorem dX12_layer_140 : decode cX12_layer 140 = .ok (.iconst 2, 1) := by decide +kernel
theorem dX12_layer_141 : decode cX12_layer 141 = .ok (.ireturn, 1) := by decide +kernel
theorem dX12_layer_142 : decode cX12_layer 142 = .ok (.iload_n 3, 1) := by decide +kernel
theorem dX12_layer_143 : decode cX12_layer 143 = .ok (.iconst 3, 1) := by decide +kernel
theorem dX12_layer_144 : decode cX12_layer 144 = .ok (.if_icmp .le 7, 3) := by decide +kernel
theorem dX12_layer_147 : decode cX12_layer 147 = .ok (.iconst 2, 1) := by decide +kernel
theorem dX12_layer_148 : decode cX12_layer 148 = .ok (.goto 13, 3) := by decide +kernel
theorem dX12_layer_151 : decode cX12_layer 151 = .ok (.iload_n 3, 1) := by decide +kernel
theorem dX12_layer_152 : decode cX12_layer 152 = .ok (.iconst 1, 1) := by decide +kernel
theorem dX12_layer_153 : decode cX12_layer 153 = .ok (.if_icmp .le 7, 3) := by decide +kernel
theorem dX12_layer_156 : decode cX12_layer 156 = .ok (.iconst 1, 1) := by decide +kernel
theorem dX12_layer_157 : decode cX12_layer 157 = .ok (.goto 4, 3) := by decide +kernel
theorem dX12_layer_160 : decode cX12_layer 160 = .ok (.iconst 0, 1) := by decide +kernel
theorem dX12_layer_161 : decode cX12_layer 161 = .ok (.ireturn, 1) := by decide +kernel
theorem dX12_layer_162 : decode cX12_layer 162 = .ok (.iload_n 3, 1) := by decide +kernel
theorem dX12_layer_163 : decode cX12_layer 163 = .ok (.ireturn, 1) := by decide +kernel
theorem dX12_plane_0 : decode cX12_plane 0 = .ok (.aload_n 0, 1) := by decide +kernel
theorem dX12_plane_1 : decode cX12_plane 1 = .ok (.iconst 0, 1) := by decide +kernel
theorem dX12_plane_2 : decode cX12_plane 2 = .ok (.putfield 3, 3) := by decide +kernel
theorem dX12_plane_5 : decode cX12_plane 5 = .ok (.aload_n 0, 1) := by decide +kernel
theorem dX12_plane_6 : decode cX12_plane 6 = .ok (.getfield 24, 3) := by decide +kernel
theorem dX12_plane_9 : decode cX12_plane 9 = .ok (.iload_n 1, 1) := by decide +kernel
theorem dX12_plane_10 : decode cX12_plane 10 = .ok (.invokestatic 244, 3) := by decide +kernel
theorem dX12_plane_13 : decode cX12_plane 13 = .ok (.ifCond .eq 15, 3) := by decide +kernel
theorem dX12_plane_16 : decode cX12_plane 16 = .ok (.iload_n 2, 1) := by decide +kernel
theorem dX12_plane_17 : decode cX12_plane 17 = .ok (.i2l, 1) := by decide +kernel
theorem dX12_plane_18 : decode cX12_plane 18 = .ok (.lconst 0, 1) := by decide +kernel
theorem dX12_plane_19 : decode cX12_plane 19 = .ok (.ldc2_w 272, 3) := by decide +kernel
theorem dX12_plane_22 : decode cX12_plane 22 = .ok (.invokestatic 135, 3) := by decide +kernel
theorem dX12_plane_25 : decode cX12_plane 25 = .ok (.ifCond .ne 5, 3) := by decide +kernel
theorem dX12_plane_28 : decode cX12_plane 28 = .ok (.iconst (-1), 1) := by decide +kernel
theorem dX12_plane_29 : decode cX12_plane 29 = .ok (.ireturn, 1) := by decide +kernel
theorem dX12_plane_30 : decode cX12_plane 30 = .ok (.aload_n 0, 1) := by decide +kernel
theorem dX12_plane_31 : decode cX12_plane 31 = .ok (.getfield 24, 3) := by decide +kernel
theorem dX12_plane_34 : decode cX12_plane 34 = .ok (.iload_n 1, 1) := by decide +kernel
theorem dX12_plane_35 : decode cX12_plane 35 = .ok (.iaload, 1) := by decide +kernel
theorem dX12_plane_36 : decode cX12_plane 36 = .ok (.istore_n 3, 1) := by decide +kernel
theorem dX12_plane_37 : decode cX12_plane 37 = .ok (.aload_n 0, 1) := by decide +kernel
theorem dX12_plane_38 : decode cX12_plane 38 = .ok (.getfield 24, 3) := by decide +kernel
theorem dX12_plane_41 : decode cX12_plane 41 = .ok (.iload_n 1, 1) := by decide +kernel
theorem dX12_plane_42 : decode cX12_plane 42 = .ok (.iload_n 2, 1) := by decide +kernel
theorem dX12_plane_43 : decode cX12_plane 43 = .ok (.iastore, 1) := by decide +kernel
theorem dX12_plane_44 : decode cX12_plane 44 = .ok (.iload_n 3, 1) := by decide +kernel
theorem dX12_plane_45 : decode cX12_plane 45 = .ok (.ireturn, 1) := by decide +kernel
theorem dX12_sheet_0 : decode cX12_sheet 0 = .ok (.aload_n 0, 1) := by decide +kernel
theorem dX12_sheet_1 : decode cX12_sheet 1 = .ok (.iconst 0, 1) := by decide +kernel
theorem dX12_sheet_2 : decode cX12_sheet 2 = .ok (.putfield 3, 3) := by decide +kernel
theorem dX12_sheet_5 : decode cX12_sheet 5 = .ok (.iload_n 1, 1) := by decide +kernel
theorem dX12_sheet_6 : decode cX12_sheet 6 = .ok (.i2l, 1) := by decide +kernel
theorem dX12_sheet_7 : decode cX12_sheet 7 = .ok (.lconst 0, 1) := by decide +kernel
theorem dX12_sheet_8 : decode cX12_sheet 8 = .ok (.ldc2_w 274, 3) := by decide +kernel
theorem dX12_sheet_11 : decode cX12_sheet 11 = .ok (.invokestatic 135, 3) := by decide +kernel
theorem dX12_sheet_14 : decode cX12_sheet 14 = .ok (.ifCond .eq 9, 3) := by decide +kernel
theorem dX12_sheet_17 : decode cX12_sheet 17 = .ok (.iload_n 2, 1) := by decide +kernel
theorem dX12_sheet_18 : decode cX12_sheet 18 = .ok (.bipush 48, 2) := by decide +kernel
theorem dX12_sheet_20 : decode cX12_sheet 20 = .ok (.if_icmp .le 5, 3) := by decide +kernel
theorem dX12_sheet_23 : decode cX12_sheet 23 = .ok (.iconst (-1), 1) := by decide +kernel
theorem dX12_sheet_24 : decode cX12_sheet 24 = .ok (.ireturn, 1) := by decide +kernel
theorem dX12_sheet_25 : decode cX12_sheet 25 = .ok (.iload_n 1, 1) := by decide +kernel
theorem dX12_sheet_26 : decode cX12_sheet 26 = .ok (.iconst 3, 1) := by decide +kernel
theorem dX12_sheet_27 : decode cX12_sheet 27 = .ok (.if_icmp .eq 10, 3) := by decide +kernel
theorem dX12_sheet_30 : decode cX12_sheet 30 = .ok (.iload_n 2, 1) := by decide +kernel
theorem dX12_sheet_31 : decode cX12_sheet 31 = .ok (.ifCond .ge 6, 3) := by decide +kernel
theorem dX12_sheet_34 : decode cX12_sheet 34 = .ok (.bipush (-2), 2) := by decide +kernel
theorem dX12_sheet_36 : decode cX12_sheet 36 = .ok (.ireturn, 1) := by decide +kernel
theorem dX12_sheet_37 : decode cX12_sheet 37 = .ok (.iconst 0, 1) := by decide +kernel
theorem dX12_sheet_38 : decode cX12_sheet 38 = .ok (.istore 5, 2) := by decide +kernel
theorem dX12_sheet_40 : decode cX12_sheet 40 = .ok (.iload_n 3, 1) := by decide +kernel
theorem dX12_sheet_41 : decode cX12_sheet 41 = .ok (.istore 6, 2) := by decide +kernel
theorem dX12_sheet_43 : decode cX12_sheet 43 = .ok (.iconst 0, 1) := by decide +kernel
theorem dX12_sheet_44 : decode cX12_sheet 44 = .ok (.istore 7, 2) := by decide +kernel
theorem dX12_sheet_46 : decode cX12_sheet 46 = .ok (.iconst 0, 1) := by decide +kernel
theorem dX12_sheet_47 : decode cX12_sheet 47 = .ok (.istore 8, 2) := by decide +kernel
theorem dX12_sheet_49 : decode cX12_sheet 49 = .ok (.iload 8, 2) := by decide +kernel
theorem dX12_sheet_51 : decode cX12_sheet 51 = .ok (.bipush 48, 2) := by decide +kernel
theorem dX12_sheet_53 : decode cX12_sheet 53 = .ok (.if_icmp .ge 102, 3) := by decide +kernel
theorem dX12_sheet_56 : decode cX12_sheet 56 = .ok (.aload_n 0, 1) := by decide +kernel
theorem dX12_sheet_57 : decode cX12_sheet 57 = .ok (.getfield 24, 3) := by decide +kernel
theorem dX12_sheet_60 : decode cX12_sheet 60 = .ok (.iload 8, 2) := by decide +kernel
theorem dX12_sheet_62 : decode cX12_sheet 62 = .ok (.iaload, 1) := by decide +kernel
theorem dX12_sheet_63 : decode cX12_sheet 63 = .ok (.ifCond .ge 6, 3) := by decide +kernel
theorem dX12_sheet_66 : decode cX12_sheet 66 = .ok (.goto 83, 3) := by decide +kernel
theorem dX12_sheet_69 : decode cX12_sheet 69 = .ok (.iload_n 1, 1) := by decide +kernel
theorem dX12_sheet_70 : decode cX12_sheet 70 = .ok (.ifCond .ne 9, 3) := by decide +kernel
theorem dX12_sheet_73 : decode cX12_sheet 73 = .ok (.iload 6, 2) := by decide +kernel
theorem dX12_sheet_75 : decode cX12_sheet 75 = .ok (.i2b, 1) := by decide +kernel
theorem dX12_sheet_76 : decode cX12_sheet 76 = .ok (.goto 16, 3) := by decide +kernel
theorem dX12_sheet_79 : decode cX12_sheet 79 = .ok (.iload_n 1, 1) := by decide +kernel
theorem dX12_sheet_80 : decode cX12_sheet 80 = .ok (.iconst 1, 1) := by decide +kernel
theorem dX12_sheet_81 : decode cX12_sheet 81 = .ok (.if_icmp .ne 9, 3) := by decide +kernel
theorem dX12_sheet_84 : decode cX12_sheet 84 = .ok (.iload 6, 2) := by decide +kernel
theorem dX12_sheet_86 : decode cX12_sheet 86 = .ok (.i2s, 1) := by decide +kernel
theorem dX12_sheet_87 : decode cX12_sheet 87 = .ok (.goto 5, 3) := by decide +kernel
theorem dX12_sheet_90 : decode cX12_sheet 90 = .ok (.iload 6, 2) := by decide +kernel
theorem dX12_sheet_92 : decode cX12_sheet 92 = .ok (.istore 9, 2) := by decide +kernel
theorem dX12_sheet_94 : decode cX12_sheet 94 = .ok (.aload_n 0, 1) := by decide +kernel
theorem dX12_sheet_95 : decode cX12_sheet 95 = .ok (.getfield 24, 3) := by decide +kernel
theorem dX12_sheet_98 : decode cX12_sheet 98 = .ok (.iload 8, 2) := by decide +kernel
theorem dX12_sheet_100 : decode cX12_sheet 100 = .ok (.iload_n 1, 1) := by decide +kernel
theorem dX12_sheet_101 : decode cX12_sheet 101 = .ok (.iconst 3, 1) := by decide +kernel
theorem dX12_sheet_102 : decode cX12_sheet 102 = .ok (.if_icmp .eq 9, 3) := by decide +kernel
theorem dX12_sheet_105 : decode cX12_sheet 105 = .ok (.iload 7, 2) := by decide +kernel
theorem dX12_sheet_107 : decode cX12_sheet 107 = .ok (.iload_n 2, 1) := by decide +kernel
theorem dX12_sheet_108 : decode cX12_sheet 108 = .ok (.if_icmp .lt 7, 3) := by decide +kernel
theorem dX12_sheet_111 : decode cX12_sheet 111 = .ok (.iconst 0, 1) := by decide +kernel
theorem dX12_sheet_112 : decode cX12_sheet 112 = .ok (.goto 14, 3) := by decide +kernel
theorem dX12_sheet_115 : decode cX12_sheet 115 = .ok (.iconst 0, 1) := by decide +kernel
theorem dX12_sheet_116 : decode cX12_sheet 116 = .ok (.bipush 9, 2) := by decide +kernel
theorem dX12_sheet_118 : decode cX12_sheet 118 = .ok (.iload 9, 2) := by decide +kernel
theorem dX12_sheet_120 : decode cX12_sheet 120 = .ok (.invokestatic 152, 3) := by decide +kernel
theorem dX12_sheet_123 : decode cX12_sheet 123 = .ok (.invokestatic 224, 3) := by decide +kernel
theorem dX12_sheet_126 : decode cX12_sheet 126 = .ok (.iastore, 1) := by decide +kernel
theorem dX12_sheet_127 : decode cX12_sheet 127 = .ok (.iload 5, 2) := by decide +kernel
theorem dX12_sheet_129 : decode cX12_sheet 129 = .ok (.aload_n 0, 1) := by decide +kernel
theorem dX12_sheet_130 : decode cX12_sheet 130 = .ok (.getfield 24, 3) := by decide +kernel
theorem dX12_sheet_133 : decode cX12_sheet 133 = .ok (.iload 8, 2) := by decide +kernel
theorem dX12_sheet_135 : decode cX12_sheet 135 = .ok (.iaload, 1) := by decide +kernel
theorem dX12_sheet_136 : decode cX12_sheet 136 = .ok (.iadd, 1) := by decide +kernel
theorem dX12_sheet_137 : decode cX12_sheet 137 = .ok (.istore 5, 2) := by decide +kernel
theorem dX12_sheet_139 : decode cX12_sheet 139 = .ok (.iload 6, 2) := by decide +kernel
theorem dX12_sheet_141 : decode cX12_sheet 141 = .ok (.iload 4, 2) := by decide +kernel
theorem dX12_sheet_143 : decode cX12_sheet 143 = .ok (.iadd, 1) := by decide +kernel
theorem dX12_sheet_144 : decode cX12_sheet 144 = .ok (.istore 6, 2) := by decide +kernel
theorem dX12_sheet_146 : decode cX12_sheet 146 = .ok (.iinc 7 1, 3) := by decide +kernel
theorem dX12_sheet_149 : decode cX12_sheet 149 = .ok (.iinc 8 1, 3) := by decide +kernel
theorem dX12_sheet_152 : decode cX12_sheet 152 = .ok (.goto (-103), 3) := by decide +kernel
theorem dX12_sheet_155 : decode cX12_sheet 155 = .ok (.iload_n 1, 1) := by decide +kernel
theorem dX12_sheet_156 : decode cX12_sheet 156 = .ok (.iconst 3, 1) := by decide +kernel
theorem dX12_sheet_157 : decode cX12_sheet 157 = .ok (.if_icmp .ne 8, 3) := by decide +kernel
theorem dX12_sheet_160 : decode cX12_sheet 160 = .ok (.bipush (-3), 2) := by decide +kernel
theorem dX12_sheet_162 : decode cX12_sheet 162 = .ok (.goto 5, 3) := by decide +kernel
theorem dX12_sheet_165 : decode cX12_sheet 165 = .ok (.iload 5, 2) := by decide +kernel
theorem dX12_sheet_167 : decode cX12_sheet 167 = .ok (.ireturn, 1) := by decide +kernel
theorem dX12_table_0 : decode cX12_table 0 = .ok (.aload_n 0, 1) := by decide +kernel
theorem dX12_table_1 : decode cX12_table 1 = .ok (.iconst 0, 1) := by decide +kernel
theorem dX12_table_2 : decode cX12_table 2 = .ok (.putfield 3, 3) := by decide +kernel
theorem dX12_table_5 : decode cX12_table 5 = .ok (.iload_n 1, 1) := by decide +kernel
theorem dX12_table_6 : decode cX12_table 6 = .ok (.i2l, 1) := by decide +kernel
theorem dX12_table_7 : decode cX12_table 7 = .ok (.lconst 0, 1) := by decide +kernel
theorem dX12_table_8 : decode cX12_table 8 = .ok (.lconst 1, 1) := by decide +kernel
theorem dX12_table_9 : decode cX12_table 9 = .ok (.invokestatic 135, 3) := by decide +kernel
theorem dX12_table_12 : decode cX12_table 12 = .ok (.ifCond .eq 17, 3) := by decide +kernel
theorem dX12_table_15 : decode cX12_table 15 = .ok (.iload_n 2, 1) := by decide +kernel
theorem dX12_table_16 : decode cX12_table 16 = .ok (.i2l, 1) := by decide +kernel
theorem dX12_table_17 : decode cX12_table 17 = .ok (.ldc2_w 276, 3) := by decide +kernel
theorem dX12_table_20 : decode cX12_table 20 = .ok (.ldc2_w 272, 3) := by decide +kernel
theorem dX12_table_23 : decode cX12_table 23 = .ok (.invokestatic 135, 3) := by decide +kernel
theorem dX12_table_26 : decode cX12_table 26 = .ok (.ifCond .ne 5, 3) := by decide +kernel
theorem dX12_table_29 : decode cX12_table 29 = .ok (.iconst 0, 1) := by decide +kernel
theorem dX12_table_30 : decode cX12_table 30 = .ok (.ireturn, 1) := by decide +kernel
theorem dX12_table_31 : decode cX12_table 31 = .ok (.aload_n 0, 1) := by decide +kernel
theorem dX12_table_32 : decode cX12_table 32 = .ok (.iload_n 1, 1) := by decide +kernel
theorem dX12_table_33 : decode cX12_table 33 = .ok (.ifCond .ne 7, 3) := by decide +kernel
theorem dX12_table_36 : decode cX12_table 36 = .ok (.iload_n 2, 1) := by decide +kernel
theorem dX12_table_37 : decode cX12_table 37 = .ok (.goto 7, 3) := by decide +kernel
theorem dX12_table_40 : decode cX12_table 40 = .ok (.aload_n 0, 1) := by decide +kernel
theorem dX12_table_41 : decode cX12_table 41 = .ok (.getfield 234, 3) := by decide +kernel
theorem dX12_table_44 : decode cX12_table 44 = .ok (.putfield 234, 3) := by decide +kernel
theorem dX12_table_47 : decode cX12_table 47 = .ok (.aload_n 0, 1) := by decide +kernel
theorem dX12_table_48 : decode cX12_table 48 = .ok (.iload_n 1, 1) := by decide +kernel
theorem dX12_table_49 : decode cX12_table 49 = .ok (.iconst 1, 1) := by decide +kernel
theorem dX12_table_50 : decode cX12_table 50 = .ok (.if_icmp .ne 7, 3) := by decide +kernel
theorem dX12_table_53 : decode cX12_table 53 = .ok (.iload_n 2, 1) := by decide +kernel
theorem dX12_table_54 : decode cX12_table 54 = .ok (.goto 7, 3) := by decide +kernel
theorem dX12_table_57 : decode cX12_table 57 = .ok (.aload_n 0, 1) := by decide +kernel
theorem dX12_table_58 : decode cX12_table 58 = .ok (.getfield 237, 3) := by decide +kernel
theorem dX12_table_61 : decode cX12_table 61 = .ok (.putfield 237, 3) := by decide +kernel
theorem dX12_table_64 : decode cX12_table 64 = .ok (.iconst 1, 1) := by decide +kernel
theorem dX12_table_65 : decode cX12_table 65 = .ok (.ireturn, 1) := by decide +kernel
theorem dX12_swell_0 : decode cX12_swell 0 = .ok (.aload_n 0, 1) := by decide +kernel
theorem dX12_swell_1 : decode cX12_swell 1 = .ok (.iconst 0, 1) := by decide +kernel
theorem dX12_swell_2 : decode cX12_swell 2 = .ok (.putfield 3, 3) := by decide +kernel
theorem dX12_swell_5 : decode cX12_swell 5 = .ok (.aload_n 0, 1) := by decide +kernel
theorem dX12_swell_6 : decode cX12_swell 6 = .ok (.iload_n 1, 1) := by decide +kernel
theorem dX12_swell_7 : decode cX12_swell 7 = .ok (.invokevirtual 267, 3) := by decide +kernel
theorem dX12_swell_10 : decode cX12_swell 10 = .ok (.ifCond .eq 17, 3) := by decide +kernel
theorem dX12_swell_13 : decode cX12_swell 13 = .ok (.iload_n 2, 1) := by decide +kernel
theorem dX12_swell_14 : decode cX12_swell 14 = .ok (.i2l, 1) := by decide +kernel
theorem dX12_swell_15 : decode cX12_swell 15 = .ok (.ldc2_w 276, 3) := by decide +kernel
theorem dX12_swell_18 : decode cX12_swell 18 = .ok (.ldc2_w 272, 3) := by decide +kernel
theorem dX12_swell_21 : decode cX12_swell 21 = .ok (.invokestatic 135, 3) := by decide +kernel
theorem dX12_swell_24 : decode cX12_swell 24 = .ok (.ifCond .ne 5, 3) := by decide +kernel
theorem dX12_swell_27 : decode cX12_swell 27 = .ok (.iconst (-1), 1) := by decide +kernel
theorem dX12_swell_28 : decode cX12_swell 28 = .ok (.ireturn, 1) := by decide +kernel
theorem dX12_swell_29 : decode cX12_swell 29 = .ok (.iconst 0, 1) := by decide +kernel
theorem dX12_swell_30 : decode cX12_swell 30 = .ok (.istore_n 3, 1) := by decide +kernel
theorem dX12_swell_31 : decode cX12_swell 31 = .ok (.iconst 3, 1) := by decide +kernel
theorem dX12_swell_32 : decode cX12_swell 32 = .ok (.iload_n 1, 1) := by decide +kernel
theorem dX12_swell_33 : decode cX12_swell 33 = .ok (.imul, 1) := by decide +kernel
theorem dX12_swell_34 : decode cX12_swell 34 = .ok (.istore 4, 2) := by decide +kernel
theorem dX12_swell_36 : decode cX12_swell 36 = .ok (.iload 4, 2) := by decide +kernel
theorem dX12_swell_38 : decode cX12_swell 38 = .ok (.iconst 3, 1) := by decide +kernel
theorem dX12_swell_39 : decode cX12_swell 39 = .ok (.iload_n 1, 1) := by decide +kernel
theorem dX12_swell_40 : decode cX12_swell 40 = .ok (.imul, 1) := by decide +kernel
theorem dX12_swell_41 : decode cX12_swell 41 = .ok (.iconst 3, 1) := by decide +kernel
theorem dX12_swell_42 : decode cX12_swell 42 = .ok (.iadd, 1) := by decide +kernel
theorem dX12_swell_43 : decode cX12_swell 43 = .ok (.if_icmp .ge 71, 3) := by decide +kernel
theorem dX12_swell_46 : decode cX12_swell 46 = .ok (.aload_n 0, 1) := by decide +kernel
theorem dX12_swell_47 : decode cX12_swell 47 = .ok (.getfield 24, 3) := by decide +kernel
theorem dX12_swell_50 : decode cX12_swell 50 = .ok (.iload 4, 2) := by decide +kernel
theorem dX12_swell_52 : decode cX12_swell 52 = .ok (.iaload, 1) := by decide +kernel
theorem dX12_swell_53 : decode cX12_swell 53 = .ok (.istore 5, 2) := by decide +kernel
theorem dX12_swell_55 : decode cX12_swell 55 = .ok (.aload_n 0, 1) := by decide +kernel
theorem dX12_swell_56 : decode cX12_swell 56 = .ok (.getfield 24, 3) := by decide +kernel
theorem dX12_swell_59 : decode cX12_swell 59 = .ok (.iload 4, 2) := by decide +kernel
theorem dX12_swell_61 : decode cX12_swell 61 = .ok (.iload 5, 2) := by decide +kernel
theorem dX12_swell_63 : decode cX12_swell 63 = .ok (.ifCond .ge 8, 3) := by decide +kernel
theorem dX12_swell_66 : decode cX12_swell 66 = .ok (.iload 5, 2) := by decide +kernel
theorem dX12_swell_68 : decode cX12_swell 68 = .ok (.goto 16, 3) := by decide +kernel
theorem dX12_swell_71 : decode cX12_swell 71 = .ok (.iconst 0, 1) := by decide +kernel
theorem dX12_swell_72 : decode cX12_swell 72 = .ok (.bipush 9, 2) := by decide +kernel
theorem dX12_swell_74 : decode cX12_swell 74 = .ok (.iload 5, 2) := by decide +kernel
theorem dX12_swell_76 : decode cX12_swell 76 = .ok (.iload_n 2, 1) := by decide +kernel
theorem dX12_swell_77 : decode cX12_swell 77 = .ok (.iadd, 1) := by decide +kernel
theorem dX12_swell_78 : decode cX12_swell 78 = .ok (.invokestatic 152, 3) := by decide +kernel
theorem dX12_swell_81 : decode cX12_swell 81 = .ok (.invokestatic 224, 3) := by decide +kernel
theorem dX12_swell_84 : decode cX12_swell 84 = .ok (.iastore, 1) := by decide +kernel
theorem dX12_swell_85 : decode cX12_swell 85 = .ok (.iload_n 3, 1) := by decide +kernel
theorem dX12_swell_86 : decode cX12_swell 86 = .ok (.aload_n 0, 1) := by decide +kernel
theorem dX12_swell_87 : decode cX12_swell 87 = .ok (.getfield 24, 3) := by decide +kernel
theorem dX12_swell_90 : decode cX12_swell 90 = .ok (.iload 4, 2) := by decide +kernel
theorem dX12_swell_92 : decode cX12_swell 92 = .ok (.iaload, 1) := by decide +kernel
theorem dX12_swell_93 : decode cX12_swell 93 = .ok (.iload 5, 2) := by decide +kernel
theorem dX12_swell_95 : decode cX12_swell 95 = .ok (.if_icmp .eq 7, 3) := by decide +kernel
theorem dX12_swell_98 : decode cX12_swell 98 = .ok (.iconst 1, 1) := by decide +kernel
theorem dX12_swell_99 : decode cX12_swell 99 = .ok (.goto 4, 3) := by decide +kernel
theorem dX12_swell_102 : decode cX12_swell 102 = .ok (.iconst 0, 1) := by decide +kernel
theorem dX12_swell_103 : decode cX12_swell 103 = .ok (.invokestatic 139, 3) := by decide +kernel
theorem dX12_swell_106 : decode cX12_swell 106 = .ok (.iadd, 1) := by decide +kernel
theorem dX12_swell_107 : decode cX12_swell 107 = .ok (.istore_n 3, 1) := by decide +kernel
theorem dX12_swell_108 : decode cX12_swell 108 = .ok (.iinc 4 1, 3) := by decide +kernel
theorem dX12_swell_111 : decode cX12_swell 111 = .ok (.goto (-75), 3) := by decide +kernel
theorem dX12_swell_114 : decode cX12_swell 114 = .ok (.iload_n 3, 1) := by decide +kernel
theorem dX12_swell_115 : decode cX12_swell 115 = .ok (.ireturn, 1) := by decide +kernel
theorem dX12_bump_0 : decode cX12_bump 0 = .ok (.aload_n 0, 1) := by decide +kernel
theorem dX12_bump_1 : decode cX12_bump 1 = .ok (.iconst 0, 1) := by decide +kernel
theorem dX12_bump_2 : decode cX12_bump 2 = .ok (.putfield 3, 3) := by decide +kernel
theorem dX12_bump_5 : decode cX12_bump 5 = .ok (.iload_n 1, 1) := by decide +kernel
theorem dX12_bump_6 : decode cX12_bump 6 = .ok (.ldc_w 278, 3) := by decide +kernel
theorem dX12_bump_9 : decode cX12_bump 9 = .ok (.imul, 1) := by decide +kernel
theorem dX12_bump_10 : decode cX12_bump 10 = .ok (.sipush 12345, 3) := by decide +kernel
theorem dX12_bump_13 : decode cX12_bump 13 = .ok (.iadd, 1) := by decide +kernel
theorem dX12_bump_14 : decode cX12_bump 14 = .ok (.istore_n 2, 1) := by decide +kernel
theorem dX12_bump_15 : decode cX12_bump 15 = .ok (.aload_n 0, 1) := by decide +kernel
theorem dX12_bump_16 : decode cX12_bump 16 = .ok (.iload_n 2, 1) := by decide +kernel
theorem dX12_bump_17 : decode cX12_bump 17 = .ok (.bipush 16, 2) := by decide +kernel
theorem dX12_bump_19 : decode cX12_bump 19 = .ok (.iushr, 1) := by decide +kernel
theorem dX12_bump_20 : decode cX12_bump 20 = .ok (.bipush 19, 2) := by decide +kernel
theorem dX12_bump_22 : decode cX12_bump 22 = .ok (.irem, 1) := by decide +kernel
theorem dX12_bump_23 : decode cX12_bump 23 = .ok (.bipush 9, 2) := by decide +kernel
theorem dX12_bump_25 : decode cX12_bump 25 = .ok (.isub, 1) := by decide +kernel
theorem dX12_bump_26 : decode cX12_bump 26 = .ok (.putfield 234, 3) := by decide +kernel
theorem dX12_bump_29 : decode cX12_bump 29 = .ok (.iload_n 2, 1) := by decide +kernel
theorem dX12_bump_30 : decode cX12_bump 30 = .ok (.ldc_w 278, 3) := by decide +kernel
theorem dX12_bump_33 : decode cX12_bump 33 = .ok (.imul, 1) := by decide +kernel
theorem dX12_bump_34 : decode cX12_bump 34 = .ok (.sipush 12345, 3) := by decide +kernel
theorem dX12_bump_37 : decode cX12_bump 37 = .ok (.iadd, 1) := by decide +kernel
theorem dX12_bump_38 : decode cX12_bump 38 = .ok (.istore_n 2, 1) := by decide +kernel
theorem dX12_bump_39 : decode cX12_bump 39 = .ok (.aload_n 0, 1) := by decide +kernel
theorem dX12_bump_40 : decode cX12_bump 40 = .ok (.iload_n 2, 1) := by decide +kernel
theorem dX12_bump_41 : decode cX12_bump 41 = .ok (.bipush 16, 2) := by decide +kernel
theorem dX12_bump_43 : decode cX12_bump 43 = .ok (.iushr, 1) := by decide +kernel
theorem dX12_bump_44 : decode cX12_bump 44 = .ok (.bipush 19, 2) := by decide +kernel
theorem dX12_bump_46 : decode cX12_bump 46 = .ok (.irem, 1) := by decide +kernel
theorem dX12_bump_47 : decode cX12_bump 47 = .ok (.bipush 9, 2) := by decide +kernel
theorem dX12_bump_49 : decode cX12_bump 49 = .ok (.isub, 1) := by decide +kernel
theorem dX12_bump_50 : decode cX12_bump 50 = .ok (.putfield 237, 3) := by decide +kernel
theorem dX12_bump_53 : decode cX12_bump 53 = .ok (.aload_n 0, 1) := by decide +kernel
theorem dX12_bump_54 : decode cX12_bump 54 = .ok (.aload_n 0, 1) := by decide +kernel
theorem dX12_bump_55 : decode cX12_bump 55 = .ok (.getfield 24, 3) := by decide +kernel
theorem dX12_bump_58 : decode cX12_bump 58 = .ok (.invokevirtual 263, 3) := by decide +kernel
theorem dX12_bump_61 : decode cX12_bump 61 = .ok (.invokestatic 139, 3) := by decide +kernel
theorem dX12_bump_64 : decode cX12_bump 64 = .ok (.ireturn, 1) := by decide +kernel
theorem dX12_stands_0 : decode cX12_stands 0 = .ok (.aload_n 0, 1) := by decide +kernel
theorem dX12_stands_1 : decode cX12_stands 1 = .ok (.iconst 0, 1) := by decide +kernel
theorem dX12_stands_2 : decode cX12_stands 2 = .ok (.putfield 3, 3) := by decide +kernel
theorem dX12_stands_5 : decode cX12_stands 5 = .ok (.aload_n 0, 1) := by decide +kernel
theorem dX12_stands_6 : decode cX12_stands 6 = .ok (.aload_n 0, 1) := by decide +kernel
theorem dX12_stands_7 : decode cX12_stands 7 = .ok (.getfield 24, 3) := by decide +kernel
theorem dX12_stands_10 : decode cX12_stands 10 = .ok (.invokevirtual 240, 3) := by decide +kernel
theorem dX12_stands_13 : decode cX12_stands 13 = .ok (.istore_n 1, 1) := by decide +kernel
theorem dX12_stands_14 : decode cX12_stands 14 = .ok (.aload_n 0, 1) := by decide +kernel
theorem dX12_stands_15 : decode cX12_stands 15 = .ok (.iconst 0, 1) := by decide +kernel
theorem dX12_stands_16 : decode cX12_stands 16 = .ok (.putfield 15, 3) := by decide +kernel
theorem dX12_stands_19 : decode cX12_stands 19 = .ok (.aload_n 0, 1) := by decide +kernel
theorem dX12_stands_20 : decode cX12_stands 20 = .ok (.iload_n 1, 1) := by decide +kernel
theorem dX12_stands_21 : decode cX12_stands 21 = .ok (.i2l, 1) := by decide +kernel
theorem dX12_stands_22 : decode cX12_stands 22 = .ok (.invokevirtual 279, 3) := by decide +kernel
theorem dX12_stands_25 : decode cX12_stands 25 = .ok (.aload_n 0, 1) := by decide +kernel
theorem dX12_stands_26 : decode cX12_stands 26 = .ok (.aload_n 0, 1) := by decide +kernel
theorem dX12_stands_27 : decode cX12_stands 27 = .ok (.getfield 231, 3) := by decide +kernel
theorem dX12_stands_30 : decode cX12_stands 30 = .ok (.ifCond .ge 7, 3) := by decide +kernel
theorem dX12_stands_33 : decode cX12_stands 33 = .ok (.lconst 0, 1) := by decide +kernel
theorem dX12_stands_34 : decode cX12_stands 34 = .ok (.goto 13, 3) := by decide +kernel
theorem dX12_stands_37 : decode cX12_stands 37 = .ok (.aload_n 0, 1) := by decide +kernel
theorem dX12_stands_38 : decode cX12_stands 38 = .ok (.getfield 58, 3) := by decide +kernel
theorem dX12_stands_41 : decode cX12_stands 41 = .ok (.aload_n 0, 1) := by decide +kernel
theorem dX12_stands_42 : decode cX12_stands 42 = .ok (.getfield 231, 3) := by decide +kernel
theorem dX12_stands_45 : decode cX12_stands 45 = .ok (.iaload, 1) := by decide +kernel
theorem dX12_stands_46 : decode cX12_stands 46 = .ok (.i2l, 1) := by decide +kernel
theorem dX12_stands_47 : decode cX12_stands 47 = .ok (.invokevirtual 279, 3) := by decide +kernel
theorem dX12_stands_50 : decode cX12_stands 50 = .ok (.iload_n 1, 1) := by decide +kernel
theorem dX12_stands_51 : decode cX12_stands 51 = .ok (.ifCond .ge 7, 3) := by decide +kernel
theorem dX12_stands_54 : decode cX12_stands 54 = .ok (.iconst 1, 1) := by decide +kernel
theorem dX12_stands_55 : decode cX12_stands 55 = .ok (.goto 4, 3) := by decide +kernel
theorem dX12_stands_58 : decode cX12_stands 58 = .ok (.iconst 0, 1) := by decide +kernel
theorem dX12_stands_59 : decode cX12_stands 59 = .ok (.invokestatic 139, 3) := by decide +kernel
theorem dX12_stands_62 : decode cX12_stands 62 = .ok (.ireturn, 1) := by decide +kernel
theorem dX12_loose_0 : decode cX12_loose 0 = .ok (.aload_n 0, 1) := by decide +kernel
theorem dX12_loose_1 : decode cX12_loose 1 = .ok (.iconst 0, 1) := by decide +kernel
theorem dX12_loose_2 : decode cX12_loose 2 = .ok (.putfield 3, 3) := by decide +kernel
theorem dX12_loose_5 : decode cX12_loose 5 = .ok (.iconst 0, 1) := by decide +kernel
theorem dX12_loose_6 : decode cX12_loose 6 = .ok (.istore_n 1, 1) := by decide +kernel
theorem dX12_loose_7 : decode cX12_loose 7 = .ok (.aload_n 0, 1) := by decide +kernel
theorem dX12_loose_8 : decode cX12_loose 8 = .ok (.iconst 0, 1) := by decide +kernel
theorem dX12_loose_9 : decode cX12_loose 9 = .ok (.putfield 15, 3) := by decide +kernel
theorem dX12_loose_12 : decode cX12_loose 12 = .ok (.iconst 0, 1) := by decide +kernel
theorem dX12_loose_13 : decode cX12_loose 13 = .ok (.istore_n 2, 1) := by decide +kernel
theorem dX12_loose_14 : decode cX12_loose 14 = .ok (.iload_n 2, 1) := by decide +kernel
theorem dX12_loose_15 : decode cX12_loose 15 = .ok (.aload_n 0, 1) := by decide +kernel
theorem dX12_loose_16 : decode cX12_loose 16 = .ok (.getfield 24, 3) := by decide +kernel
theorem dX12_loose_19 : decode cX12_loose 19 = .ok (.bipush 48, 2) := by decide +kernel
theorem dX12_loose_21 : decode cX12_loose 21 = .ok (.iaload, 1) := by decide +kernel
theorem dX12_loose_22 : decode cX12_loose 22 = .ok (.if_icmp .ge 77, 3) := by decide +kernel
theorem dX12_loose_25 : decode cX12_loose 25 = .ok (.iconst 0, 1) := by decide +kernel
theorem dX12_loose_26 : decode cX12_loose 26 = .ok (.istore_n 3, 1) := by decide +kernel
theorem dX12_loose_27 : decode cX12_loose 27 = .ok (.iconst 0, 1) := by decide +kernel
theorem dX12_loose_28 : decode cX12_loose 28 = .ok (.istore 4, 2) := by decide +kernel
theorem dX12_loose_30 : decode cX12_loose 30 = .ok (.iload 4, 2) := by decide +kernel
theorem dX12_loose_32 : decode cX12_loose 32 = .ok (.iconst 3, 1) := by decide +kernel
theorem dX12_loose_33 : decode cX12_loose 33 = .ok (.if_icmp .ge 34, 3) := by decide +kernel
theorem dX12_loose_36 : decode cX12_loose 36 = .ok (.iload_n 3, 1) := by decide +kernel
theorem dX12_loose_37 : decode cX12_loose 37 = .ok (.aload_n 0, 1) := by decide +kernel
theorem dX12_loose_38 : decode cX12_loose 38 = .ok (.getfield 24, 3) := by decide +kernel
theorem dX12_loose_41 : decode cX12_loose 41 = .ok (.iconst 3, 1) := by decide +kernel
theorem dX12_loose_42 : decode cX12_loose 42 = .ok (.iload_n 2, 1) := by decide +kernel
theorem dX12_loose_43 : decode cX12_loose 43 = .ok (.imul, 1) := by decide +kernel
theorem dX12_loose_44 : decode cX12_loose 44 = .ok (.iload 4, 2) := by decide +kernel
theorem dX12_loose_46 : decode cX12_loose 46 = .ok (.iadd, 1) := by decide +kernel
theorem dX12_loose_47 : decode cX12_loose 47 = .ok (.iaload, 1) := by decide +kernel
theorem dX12_loose_48 : decode cX12_loose 48 = .ok (.ifCond .lt 10, 3) := by decide +kernel
theorem dX12_loose_51 : decode cX12_loose 51 = .ok (.iconst 1, 1) := by decide +kernel
theorem dX12_loose_52 : decode cX12_loose 52 = .ok (.iload 4, 2) := by decide +kernel
theorem dX12_loose_54 : decode cX12_loose 54 = .ok (.ishl, 1) := by decide +kernel
theorem dX12_loose_55 : decode cX12_loose 55 = .ok (.goto 4, 3) := by decide +kernel
theorem dX12_loose_58 : decode cX12_loose 58 = .ok (.iconst 0, 1) := by decide +kernel
theorem dX12_loose_59 : decode cX12_loose 59 = .ok (.ior, 1) := by decide +kernel
theorem dX12_loose_60 : decode cX12_loose 60 = .ok (.istore_n 3, 1) := by decide +kernel
theorem dX12_loose_61 : decode cX12_loose 61 = .ok (.iinc 4 1, 3) := by decide +kernel
theorem dX12_loose_64 : decode cX12_loose 64 = .ok (.goto (-34), 3) := by decide +kernel
theorem dX12_loose_67 : decode cX12_loose 67 = .ok (.iload_n 3, 1) := by decide +kernel
theorem dX12_loose_68 : decode cX12_loose 68 = .ok (.aload_n 0, 1) := by decide +kernel
theorem dX12_loose_69 : decode cX12_loose 69 = .ok (.getfield 24, 3) := by decide +kernel
theorem dX12_loose_72 : decode cX12_loose 72 = .ok (.iload_n 2, 1) := by decide +kernel
theorem dX12_loose_73 : decode cX12_loose 73 = .ok (.invokestatic 227, 3) := by decide +kernel
theorem dX12_loose_76 : decode cX12_loose 76 = .ok (.iconst (-1), 1) := by decide +kernel
theorem dX12_loose_77 : decode cX12_loose 77 = .ok (.ixor, 1) := by decide +kernel
theorem dX12_loose_78 : decode cX12_loose 78 = .ok (.iand, 1) := by decide +kernel
theorem dX12_loose_79 : decode cX12_loose 79 = .ok (.istore_n 3, 1) := by decide +kernel
theorem dX12_loose_80 : decode cX12_loose 80 = .ok (.iload_n 1, 1) := by decide +kernel
theorem dX12_loose_81 : decode cX12_loose 81 = .ok (.iload_n 3, 1) := by decide +kernel
theorem dX12_loose_82 : decode cX12_loose 82 = .ok (.invokestatic 283, 3) := by decide +kernel
theorem dX12_loose_85 : decode cX12_loose 85 = .ok (.iadd, 1) := by decide +kernel
theorem dX12_loose_86 : decode cX12_loose 86 = .ok (.istore_n 1, 1) := by decide +kernel
theorem dX12_loose_87 : decode cX12_loose 87 = .ok (.aload_n 0, 1) := by decide +kernel
theorem dX12_loose_88 : decode cX12_loose 88 = .ok (.iload_n 3, 1) := by decide +kernel
theorem dX12_loose_89 : decode cX12_loose 89 = .ok (.i2l, 1) := by decide +kernel

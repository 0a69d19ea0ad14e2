theorem d_M_text_1 : decode b_M_text 1 = .ok (.invokestatic 117, 3) := by decide +kernel
theorem d_M_text_4 : decode b_M_text 4 = .ok (.ifCond .eq 9, 3) := by decide +kernel
theorem d_M_text_7 : decode b_M_text 7 = .ok (.iload_n 2, 1) := by decide +kernel
theorem d_M_text_8 : decode b_M_text 8 = .ok (.bipush 80, 2) := by decide +kernel
theorem d_M_text_10 : decode b_M_text 10 = .ok (.if_icmp .le 5, 3) := by decide +kernel
theorem d_M_text_13 : decode b_M_text 13 = .ok (.iconst (-1), 1) := by decide +kernel
theorem d_M_text_14 : decode b_M_text 14 = .ok (.ireturn, 1) := by decide +kernel
theorem d_M_text_15 : decode b_M_text 15 = .ok (.iload_n 2, 1) := by decide +kernel
theorem d_M_text_16 : decode b_M_text 16 = .ok (.ifCond .ge 9, 3) := by decide +kernel
theorem d_M_text_19 : decode b_M_text 19 = .ok (.aload_n 0, 1) := by decide +kernel
theorem d_M_text_20 : decode b_M_text 20 = .ok (.iconst 5, 1) := by decide +kernel
theorem d_M_text_21 : decode b_M_text 21 = .ok (.invokevirtual 110, 3) := by decide +kernel
theorem d_M_text_24 : decode b_M_text 24 = .ok (.ireturn, 1) := by decide +kernel
theorem d_M_text_25 : decode b_M_text 25 = .ok (.aload_n 0, 1) := by decide +kernel
theorem d_M_text_26 : decode b_M_text 26 = .ok (.getfield 16, 3) := by decide +kernel
theorem d_M_text_29 : decode b_M_text 29 = .ok (.iload_n 1, 1) := by decide +kernel
theorem d_M_text_30 : decode b_M_text 30 = .ok (.iload_n 2, 1) := by decide +kernel
theorem d_M_text_31 : decode b_M_text 31 = .ok (.iastore, 1) := by decide +kernel
theorem d_M_text_32 : decode b_M_text 32 = .ok (.iconst 0, 1) := by decide +kernel
theorem d_M_text_33 : decode b_M_text 33 = .ok (.istore_n 3, 1) := by decide +kernel
theorem d_M_text_34 : decode b_M_text 34 = .ok (.iload_n 3, 1) := by decide +kernel
theorem d_M_text_35 : decode b_M_text 35 = .ok (.bipush 80, 2) := by decide +kernel
theorem d_M_text_37 : decode b_M_text 37 = .ok (.if_icmp .ge 22, 3) := by decide +kernel
theorem d_M_text_40 : decode b_M_text 40 = .ok (.aload_n 0, 1) := by decide +kernel
theorem d_M_text_41 : decode b_M_text 41 = .ok (.getfield 19, 3) := by decide +kernel
theorem d_M_text_44 : decode b_M_text 44 = .ok (.bipush 80, 2) := by decide +kernel
theorem d_M_text_46 : decode b_M_text 46 = .ok (.iload_n 1, 1) := by decide +kernel
theorem d_M_text_47 : decode b_M_text 47 = .ok (.imul, 1) := by decide +kernel
theorem d_M_text_48 : decode b_M_text 48 = .ok (.iload_n 3, 1) := by decide +kernel
theorem d_M_text_49 : decode b_M_text 49 = .ok (.iadd, 1) := by decide +kernel
theorem d_M_text_50 : decode b_M_text 50 = .ok (.bipush 32, 2) := by decide +kernel
theorem d_M_text_52 : decode b_M_text 52 = .ok (.iastore, 1) := by decide +kernel
theorem d_M_text_53 : decode b_M_text 53 = .ok (.iinc 3 1, 3) := by decide +kernel
theorem d_M_text_56 : decode b_M_text 56 = .ok (.goto (-22), 3) := by decide +kernel
theorem d_M_text_59 : decode b_M_text 59 = .ok (.iload_n 2, 1) := by decide +kernel
theorem d_M_text_60 : decode b_M_text 60 = .ok (.ireturn, 1) := by decide +kernel
theorem d_M_put_0 : decode b_M_put 0 = .ok (.iload_n 1, 1) := by decide +kernel
theorem d_M_put_1 : decode b_M_put 1 = .ok (.invokestatic 117, 3) := by decide +kernel
theorem d_M_put_4 : decode b_M_put 4 = .ok (.ifCond .ne 5, 3) := by decide +kernel
theorem d_M_put_7 : decode b_M_put 7 = .ok (.iconst (-1), 1) := by decide +kernel
theorem d_M_put_8 : decode b_M_put 8 = .ok (.ireturn, 1) := by decide +kernel
theorem d_M_put_9 : decode b_M_put 9 = .ok (.aload_n 0, 1) := by decide +kernel
theorem d_M_put_10 : decode b_M_put 10 = .ok (.getfield 16, 3) := by decide +kernel
theorem d_M_put_13 : decode b_M_put 13 = .ok (.iload_n 1, 1) := by decide +kernel
theorem d_M_put_14 : decode b_M_put 14 = .ok (.iaload, 1) := by decide +kernel
theorem d_M_put_15 : decode b_M_put 15 = .ok (.ifCond .ge 9, 3) := by decide +kernel
theorem d_M_put_18 : decode b_M_put 18 = .ok (.aload_n 0, 1) := by decide +kernel
theorem d_M_put_19 : decode b_M_put 19 = .ok (.iconst 1, 1) := by decide +kernel
theorem d_M_put_20 : decode b_M_put 20 = .ok (.invokevirtual 110, 3) := by decide +kernel
theorem d_M_put_23 : decode b_M_put 23 = .ok (.ireturn, 1) := by decide +kernel
theorem d_M_put_24 : decode b_M_put 24 = .ok (.iload_n 2, 1) := by decide +kernel
theorem d_M_put_25 : decode b_M_put 25 = .ok (.i2l, 1) := by decide +kernel
theorem d_M_put_26 : decode b_M_put 26 = .ok (.lconst 0, 1) := by decide +kernel
theorem d_M_put_27 : decode b_M_put 27 = .ok (.aload_n 0, 1) := by decide +kernel
theorem d_M_put_28 : decode b_M_put 28 = .ok (.getfield 16, 3) := by decide +kernel
theorem d_M_put_31 : decode b_M_put 31 = .ok (.iload_n 1, 1) := by decide +kernel
theorem d_M_put_32 : decode b_M_put 32 = .ok (.iaload, 1) := by decide +kernel
theorem d_M_put_33 : decode b_M_put 33 = .ok (.iconst 1, 1) := by decide +kernel
theorem d_M_put_34 : decode b_M_put 34 = .ok (.isub, 1) := by decide +kernel
theorem d_M_put_35 : decode b_M_put 35 = .ok (.i2l, 1) := by decide +kernel
theorem d_M_put_36 : decode b_M_put 36 = .ok (.invokestatic 100, 3) := by decide +kernel
theorem d_M_put_39 : decode b_M_put 39 = .ok (.ifCond .ne 9, 3) := by decide +kernel
theorem d_M_put_42 : decode b_M_put 42 = .ok (.aload_n 0, 1) := by decide +kernel
theorem d_M_put_43 : decode b_M_put 43 = .ok (.iconst 2, 1) := by decide +kernel
theorem d_M_put_44 : decode b_M_put 44 = .ok (.invokevirtual 110, 3) := by decide +kernel
theorem d_M_put_47 : decode b_M_put 47 = .ok (.ireturn, 1) := by decide +kernel
theorem d_M_put_48 : decode b_M_put 48 = .ok (.aload_n 0, 1) := by decide +kernel
theorem d_M_put_49 : decode b_M_put 49 = .ok (.getfield 19, 3) := by decide +kernel
theorem d_M_put_52 : decode b_M_put 52 = .ok (.bipush 80, 2) := by decide +kernel
theorem d_M_put_54 : decode b_M_put 54 = .ok (.iload_n 1, 1) := by decide +kernel
theorem d_M_put_55 : decode b_M_put 55 = .ok (.imul, 1) := by decide +kernel
theorem d_M_put_56 : decode b_M_put 56 = .ok (.iload_n 2, 1) := by decide +kernel
theorem d_M_put_57 : decode b_M_put 57 = .ok (.iadd, 1) := by decide +kernel
theorem d_M_put_58 : decode b_M_put 58 = .ok (.iaload, 1) := by decide +kernel
theorem d_M_put_59 : decode b_M_put 59 = .ok (.istore 4, 2) := by decide +kernel
theorem d_M_put_61 : decode b_M_put 61 = .ok (.aload_n 0, 1) := by decide +kernel
theorem d_M_put_62 : decode b_M_put 62 = .ok (.getfield 19, 3) := by decide +kernel
theorem d_M_put_65 : decode b_M_put 65 = .ok (.bipush 80, 2) := by decide +kernel
theorem d_M_put_67 : decode b_M_put 67 = .ok (.iload_n 1, 1) := by decide +kernel
theorem d_M_put_68 : decode b_M_put 68 = .ok (.imul, 1) := by decide +kernel
theorem d_M_put_69 : decode b_M_put 69 = .ok (.iload_n 2, 1) := by decide +kernel
theorem d_M_put_70 : decode b_M_put 70 = .ok (.iadd, 1) := by decide +kernel
theorem d_M_put_71 : decode b_M_put 71 = .ok (.iload_n 3, 1) := by decide +kernel
theorem d_M_put_72 : decode b_M_put 72 = .ok (.i2b, 1) := by decide +kernel
theorem d_M_put_73 : decode b_M_put 73 = .ok (.iastore, 1) := by decide +kernel
theorem d_M_put_74 : decode b_M_put 74 = .ok (.iload 4, 2) := by decide +kernel
theorem d_M_put_76 : decode b_M_put 76 = .ok (.sipush 1000, 3) := by decide +kernel
theorem d_M_put_79 : decode b_M_put 79 = .ok (.iadd, 1) := by decide +kernel
theorem d_M_put_80 : decode b_M_put 80 = .ok (.ireturn, 1) := by decide +kernel
theorem d_M_kindOf_0 : decode b_M_kindOf 0 = .ok (.iload_n 0, 1) := by decide +kernel
theorem d_M_kindOf_1 : decode b_M_kindOf 1 = .ok (.bipush 119, 2) := by decide +kernel
theorem d_M_kindOf_3 : decode b_M_kindOf 3 = .ok (.if_icmp .ne 7, 3) := by decide +kernel
theorem d_M_kindOf_6 : decode b_M_kindOf 6 = .ok (.iconst 0, 1) := by decide +kernel
theorem d_M_kindOf_7 : decode b_M_kindOf 7 = .ok (.goto 54, 3) := by decide +kernel
theorem d_M_kindOf_10 : decode b_M_kindOf 10 = .ok (.iload_n 0, 1) := by decide +kernel
theorem d_M_kindOf_11 : decode b_M_kindOf 11 = .ok (.bipush 115, 2) := by decide +kernel
theorem d_M_kindOf_13 : decode b_M_kindOf 13 = .ok (.if_icmp .ne 7, 3) := by decide +kernel
theorem d_M_kindOf_16 : decode b_M_kindOf 16 = .ok (.iconst 1, 1) := by decide +kernel
theorem d_M_kindOf_17 : decode b_M_kindOf 17 = .ok (.goto 44, 3) := by decide +kernel
theorem d_M_kindOf_20 : decode b_M_kindOf 20 = .ok (.iload_n 0, 1) := by decide +kernel
theorem d_M_kindOf_21 : decode b_M_kindOf 21 = .ok (.bipush 99, 2) := by decide +kernel
theorem d_M_kindOf_23 : decode b_M_kindOf 23 = .ok (.if_icmp .ne 7, 3) := by decide +kernel
theorem d_M_kindOf_26 : decode b_M_kindOf 26 = .ok (.iconst 2, 1) := by decide +kernel
theorem d_M_kindOf_27 : decode b_M_kindOf 27 = .ok (.goto 34, 3) := by decide +kernel
theorem d_M_kindOf_30 : decode b_M_kindOf 30 = .ok (.iload_n 0, 1) := by decide +kernel
theorem d_M_kindOf_31 : decode b_M_kindOf 31 = .ok (.bipush 104, 2) := by decide +kernel
theorem d_M_kindOf_33 : decode b_M_kindOf 33 = .ok (.if_icmp .ne 7, 3) := by decide +kernel
theorem d_M_kindOf_36 : decode b_M_kindOf 36 = .ok (.iconst 3, 1) := by decide +kernel
theorem d_M_kindOf_37 : decode b_M_kindOf 37 = .ok (.goto 24, 3) := by decide +kernel
theorem d_M_kindOf_40 : decode b_M_kindOf 40 = .ok (.iload_n 0, 1) := by decide +kernel
theorem d_M_kindOf_41 : decode b_M_kindOf 41 = .ok (.bipush 114, 2) := by decide +kernel
theorem d_M_kindOf_43 : decode b_M_kindOf 43 = .ok (.if_icmp .ne 7, 3) := by decide +kernel
theorem d_M_kindOf_46 : decode b_M_kindOf 46 = .ok (.iconst 4, 1) := by decide +kernel
theorem d_M_kindOf_47 : decode b_M_kindOf 47 = .ok (.goto 14, 3) := by decide +kernel
theorem d_M_kindOf_50 : decode b_M_kindOf 50 = .ok (.iload_n 0, 1) := by decide +kernel
theorem d_M_kindOf_51 : decode b_M_kindOf 51 = .ok (.bipush 111, 2) := by decide +kernel
theorem d_M_kindOf_53 : decode b_M_kindOf 53 = .ok (.if_icmp .ne 7, 3) := by decide +kernel
theorem d_M_kindOf_56 : decode b_M_kindOf 56 = .ok (.iconst 5, 1) := by decide +kernel
theorem d_M_kindOf_57 : decode b_M_kindOf 57 = .ok (.goto 4, 3) := by decide +kernel
theorem d_M_kindOf_60 : decode b_M_kindOf 60 = .ok (.iconst (-1), 1) := by decide +kernel
theorem d_M_kindOf_61 : decode b_M_kindOf 61 = .ok (.ireturn, 1) := by decide +kernel
theorem d_M_isStreet_0 : decode b_M_isStreet 0 = .ok (.iload_n 0, 1) := by decide +kernel
theorem d_M_isStreet_1 : decode b_M_isStreet 1 = .ok (.i2l, 1) := by decide +kernel
theorem d_M_isStreet_2 : decode b_M_isStreet 2 = .ok (.lconst 0, 1) := by decide +kernel
theorem d_M_isStreet_3 : decode b_M_isStreet 3 = .ok (.ldc2_w 120, 3) := by decide +kernel
theorem d_M_isStreet_6 : decode b_M_isStreet 6 = .ok (.invokestatic 100, 3) := by decide +kernel
theorem d_M_isStreet_9 : decode b_M_isStreet 9 = .ok (.ireturn, 1) := by decide +kernel
theorem d_M_byteAt_0 : decode b_M_byteAt 0 = .ok (.aload_n 0, 1) := by decide +kernel
theorem d_M_byteAt_1 : decode b_M_byteAt 1 = .ok (.getfield 122, 3) := by decide +kernel
theorem d_M_byteAt_4 : decode b_M_byteAt 4 = .ok (.aload_n 0, 1) := by decide +kernel
theorem d_M_byteAt_5 : decode b_M_byteAt 5 = .ok (.getfield 16, 3) := by decide +kernel
theorem d_M_byteAt_8 : decode b_M_byteAt 8 = .ok (.iload_n 1, 1) := by decide +kernel
theorem d_M_byteAt_9 : decode b_M_byteAt 9 = .ok (.iaload, 1) := by decide +kernel
theorem d_M_byteAt_10 : decode b_M_byteAt 10 = .ok (.if_icmp .ge 20, 3) := by decide +kernel
theorem d_M_byteAt_13 : decode b_M_byteAt 13 = .ok (.aload_n 0, 1) := by decide +kernel
theorem d_M_byteAt_14 : decode b_M_byteAt 14 = .ok (.getfield 19, 3) := by decide +kernel
theorem d_M_byteAt_17 : decode b_M_byteAt 17 = .ok (.bipush 80, 2) := by decide +kernel
theorem d_M_byteAt_19 : decode b_M_byteAt 19 = .ok (.iload_n 1, 1) := by decide +kernel
theorem d_M_byteAt_20 : decode b_M_byteAt 20 = .ok (.imul, 1) := by decide +kernel
theorem d_M_byteAt_21 : decode b_M_byteAt 21 = .ok (.aload_n 0, 1) := by decide +kernel
theorem d_M_byteAt_22 : decode b_M_byteAt 22 = .ok (.getfield 122, 3) := by decide +kernel
theorem d_M_byteAt_25 : decode b_M_byteAt 25 = .ok (.iadd, 1) := by decide +kernel
theorem d_M_byteAt_26 : decode b_M_byteAt 26 = .ok (.iaload, 1) := by decide +kernel
theorem d_M_byteAt_27 : decode b_M_byteAt 27 = .ok (.goto 6, 3) := by decide +kernel
theorem d_M_byteAt_30 : decode b_M_byteAt 30 = .ok (.sipush (-1000), 3) := by decide +kernel
theorem d_M_byteAt_33 : decode b_M_byteAt 33 = .ok (.ireturn, 1) := by decide +kernel
theorem d_M_takesWalker_0 : decode b_M_takesWalker 0 = .ok (.aload_n 0, 1) := by decide +kernel
theorem d_M_takesWalker_1 : decode b_M_takesWalker 1 = .ok (.getfield 45, 3) := by decide +kernel
theorem d_M_takesWalker_4 : decode b_M_takesWalker 4 = .ok (.iconst 0, 1) := by decide +kernel
theorem d_M_takesWalker_5 : decode b_M_takesWalker 5 = .ok (.iaload, 1) := by decide +kernel
theorem d_M_takesWalker_6 : decode b_M_takesWalker 6 = .ok (.istore_n 2, 1) := by decide +kernel
theorem d_M_takesWalker_7 : decode b_M_takesWalker 7 = .ok (.aload_n 0, 1) := by decide +kernel
theorem d_M_takesWalker_8 : decode b_M_takesWalker 8 = .ok (.iload_n 1, 1) := by decide +kernel
theorem d_M_takesWalker_9 : decode b_M_takesWalker 9 = .ok (.invokevirtual 125, 3) := by decide +kernel
theorem d_M_takesWalker_12 : decode b_M_takesWalker 12 = .ok (.invokestatic 128, 3) := by decide +kernel
theorem d_M_takesWalker_15 : decode b_M_takesWalker 15 = .ok (.istore_n 3, 1) := by decide +kernel
theorem d_M_takesWalker_16 : decode b_M_takesWalker 16 = .ok (.iload_n 3, 1) := by decide +kernel
theorem d_M_takesWalker_17 : decode b_M_takesWalker 17 = .ok (.ifCond .lt 8, 3) := by decide +kernel
theorem d_M_takesWalker_20 : decode b_M_takesWalker 20 = .ok (.iload_n 2, 1) := by decide +kernel
theorem d_M_takesWalker_21 : decode b_M_takesWalker 21 = .ok (.iconst 5, 1) := by decide +kernel
theorem d_M_takesWalker_22 : decode b_M_takesWalker 22 = .ok (.if_icmp .ne 5, 3) := by decide +kernel
theorem d_M_takesWalker_25 : decode b_M_takesWalker 25 = .ok (.iconst 0, 1) := by decide +kernel
theorem d_M_takesWalker_26 : decode b_M_takesWalker 26 = .ok (.ireturn, 1) := by decide +kernel
theorem d_M_takesWalker_27 : decode b_M_takesWalker 27 = .ok (.aload_n 0, 1) := by decide +kernel
theorem d_M_takesWalker_28 : decode b_M_takesWalker 28 = .ok (.dup, 1) := by decide +kernel
theorem d_M_takesWalker_29 : decode b_M_takesWalker 29 = .ok (.getfield 122, 3) := by decide +kernel
theorem d_M_takesWalker_32 : decode b_M_takesWalker 32 = .ok (.iconst 1, 1) := by decide +kernel
theorem d_M_takesWalker_33 : decode b_M_takesWalker 33 = .ok (.iadd, 1) := by decide +kernel
theorem d_M_takesWalker_34 : decode b_M_takesWalker 34 = .ok (.putfield 122, 3) := by decide +kernel
theorem d_M_takesWalker_37 : decode b_M_takesWalker 37 = .ok (.aload_n 0, 1) := by decide +kernel
theorem d_M_takesWalker_38 : decode b_M_takesWalker 38 = .ok (.iload_n 1, 1) := by decide +kernel
theorem d_M_takesWalker_39 : decode b_M_takesWalker 39 = .ok (.invokevirtual 125, 3) := by decide +kernel
theorem d_M_takesWalker_42 : decode b_M_takesWalker 42 = .ok (.bipush 48, 2) := by decide +kernel
theorem d_M_takesWalker_44 : decode b_M_takesWalker 44 = .ok (.isub, 1) := by decide +kernel
theorem d_M_takesWalker_45 : decode b_M_takesWalker 45 = .ok (.invokestatic 131, 3) := by decide +kernel
theorem d_M_takesWalker_48 : decode b_M_takesWalker 48 = .ok (.ifCond .ne 5, 3) := by decide +kernel
theorem d_M_takesWalker_51 : decode b_M_takesWalker 51 = .ok (.iconst 0, 1) := by decide +kernel
theorem d_M_takesWalker_52 : decode b_M_takesWalker 52 = .ok (.ireturn, 1) := by decide +kernel
theorem d_M_takesWalker_53 : decode b_M_takesWalker 53 = .ok (.aload_n 0, 1) := by decide +kernel
theorem d_M_takesWalker_54 : decode b_M_takesWalker 54 = .ok (.getfield 45, 3) := by decide +kernel
theorem d_M_takesWalker_57 : decode b_M_takesWalker 57 = .ok (.iconst 2, 1) := by decide +kernel
theorem d_M_takesWalker_58 : decode b_M_takesWalker 58 = .ok (.iload_n 2, 1) := by decide +kernel
theorem d_M_takesWalker_59 : decode b_M_takesWalker 59 = .ok (.iadd, 1) := by decide +kernel
theorem d_M_takesWalker_60 : decode b_M_takesWalker 60 = .ok (.iload_n 3, 1) := by decide +kernel
theorem d_M_takesWalker_61 : decode b_M_takesWalker 61 = .ok (.iastore, 1) := by decide +kernel
theorem d_M_takesWalker_62 : decode b_M_takesWalker 62 = .ok (.aload_n 0, 1) := by decide +kernel
theorem d_M_takesWalker_63 : decode b_M_takesWalker 63 = .ok (.getfield 45, 3) := by decide +kernel
theorem d_M_takesWalker_66 : decode b_M_takesWalker 66 = .ok (.bipush 12, 2) := by decide +kernel
theorem d_M_takesWalker_68 : decode b_M_takesWalker 68 = .ok (.iload_n 2, 1) := by decide +kernel
theorem d_M_takesWalker_69 : decode b_M_takesWalker 69 = .ok (.iadd, 1) := by decide +kernel
theorem d_M_takesWalker_70 : decode b_M_takesWalker 70 = .ok (.aload_n 0, 1) := by decide +kernel
theorem d_M_takesWalker_71 : decode b_M_takesWalker 71 = .ok (.iload_n 1, 1) := by decide +kernel
theorem d_M_takesWalker_72 : decode b_M_takesWalker 72 = .ok (.invokevirtual 125, 3) := by decide +kernel
theorem d_M_takesWalker_75 : decode b_M_takesWalker 75 = .ok (.bipush 48, 2) := by decide +kernel
theorem d_M_takesWalker_77 : decode b_M_takesWalker 77 = .ok (.isub, 1) := by decide +kernel
theorem d_M_takesWalker_78 : decode b_M_takesWalker 78 = .ok (.iastore, 1) := by decide +kernel
theorem d_M_takesWalker_79 : decode b_M_takesWalker 79 = .ok (.aload_n 0, 1) := by decide +kernel
theorem d_M_takesWalker_80 : decode b_M_takesWalker 80 = .ok (.dup, 1) := by decide +kernel
theorem d_M_takesWalker_81 : decode b_M_takesWalker 81 = .ok (.getfield 122, 3) := by decide +kernel
theorem d_M_takesWalker_84 : decode b_M_takesWalker 84 = .ok (.iconst 1, 1) := by decide +kernel
theorem d_M_takesWalker_85 : decode b_M_takesWalker 85 = .ok (.iadd, 1) := by decide +kernel
theorem d_M_takesWalker_86 : decode b_M_takesWalker 86 = .ok (.putfield 122, 3) := by decide +kernel
theorem d_M_takesWalker_89 : decode b_M_takesWalker 89 = .ok (.iconst 0, 1) := by decide +kernel
theorem d_M_takesWalker_90 : decode b_M_takesWalker 90 = .ok (.istore 4, 2) := by decide +kernel
theorem d_M_takesWalker_92 : decode b_M_takesWalker 92 = .ok (.iconst 0, 1) := by decide +kernel
theorem d_M_takesWalker_93 : decode b_M_takesWalker 93 = .ok (.istore 5, 2) := by decide +kernel
theorem d_M_takesWalker_95 : decode b_M_takesWalker 95 = .ok (.iload 5, 2) := by decide +kernel
theorem d_M_takesWalker_97 : decode b_M_takesWalker 97 = .ok (.iconst 4, 1) := by decide +kernel
theorem d_M_takesWalker_98 : decode b_M_takesWalker 98 = .ok (.if_icmp .ge 52, 3) := by decide +kernel
theorem d_M_takesWalker_101 : decode b_M_takesWalker 101 = .ok (.aload_n 0, 1) := by decide +kernel
theorem d_M_takesWalker_102 : decode b_M_takesWalker 102 = .ok (.iload_n 1, 1) := by decide +kernel
theorem d_M_takesWalker_103 : decode b_M_takesWalker 103 = .ok (.invokevirtual 125, 3) := by decide +kernel
theorem d_M_takesWalker_106 : decode b_M_takesWalker 106 = .ok (.bipush 48, 2) := by decide +kernel
theorem d_M_takesWalker_108 : decode b_M_takesWalker 108 = .ok (.isub, 1) := by decide +kernel
theorem d_M_takesWalker_109 : decode b_M_takesWalker 109 = .ok (.invokestatic 131, 3) := by decide +kernel
theorem d_M_takesWalker_112 : decode b_M_takesWalker 112 = .ok (.ifCond .eq 38, 3) := by decide +kernel
theorem d_M_takesWalker_115 : decode b_M_takesWalker 115 = .ok (.aload_n 0, 1) := by decide +kernel
theorem d_M_takesWalker_116 : decode b_M_takesWalker 116 = .ok (.getfield 48, 3) := by decide +kernel
theorem d_M_takesWalker_119 : decode b_M_takesWalker 119 = .ok (.iload 4, 2) := by decide +kernel
theorem d_M_takesWalker_121 : decode b_M_takesWalker 121 = .ok (.aload_n 0, 1) := by decide +kernel
theorem d_M_takesWalker_122 : decode b_M_takesWalker 122 = .ok (.iload_n 1, 1) := by decide +kernel
theorem d_M_takesWalker_123 : decode b_M_takesWalker 123 = .ok (.invokevirtual 125, 3) := by decide +kernel
theorem d_M_takesWalker_126 : decode b_M_takesWalker 126 = .ok (.bipush 48, 2) := by decide +kernel
theorem d_M_takesWalker_128 : decode b_M_takesWalker 128 = .ok (.isub, 1) := by decide +kernel
theorem d_M_takesWalker_129 : decode b_M_takesWalker 129 = .ok (.invokestatic 134, 3) := by decide +kernel
theorem d_M_takesWalker_132 : decode b_M_takesWalker 132 = .ok (.istore 4, 2) := by decide +kernel
theorem d_M_takesWalker_134 : decode b_M_takesWalker 134 = .ok (.aload_n 0, 1) := by decide +kernel
theorem d_M_takesWalker_135 : decode b_M_takesWalker 135 = .ok (.dup, 1) := by decide +kernel
theorem d_M_takesWalker_136 : decode b_M_takesWalker 136 = .ok (.getfield 122, 3) := by decide +kernel
theorem d_M_takesWalker_139 : decode b_M_takesWalker 139 = .ok (.iconst 1, 1) := by decide +kernel
theorem d_M_takesWalker_140 : decode b_M_takesWalker 140 = .ok (.iadd, 1) := by decide +kernel
theorem d_M_takesWalker_141 : decode b_M_takesWalker 141 = .ok (.putfield 122, 3) := by decide +kernel
theorem d_M_takesWalker_144 : decode b_M_takesWalker 144 = .ok (.iinc 5 1, 3) := by decide +kernel
theorem d_M_takesWalker_147 : decode b_M_takesWalker 147 = .ok (.goto (-52), 3) := by decide +kernel
theorem d_M_takesWalker_150 : decode b_M_takesWalker 150 = .ok (.aload_n 0, 1) := by decide +kernel
theorem d_M_takesWalker_151 : decode b_M_takesWalker 151 = .ok (.getfield 45, 3) := by decide +kernel
theorem d_M_takesWalker_154 : decode b_M_takesWalker 154 = .ok (.bipush 7, 2) := by decide +kernel
theorem d_M_takesWalker_156 : decode b_M_takesWalker 156 = .ok (.iload_n 2, 1) := by decide +kernel
theorem d_M_takesWalker_157 : decode b_M_takesWalker 157 = .ok (.iadd, 1) := by decide +kernel
theorem d_M_takesWalker_158 : decode b_M_takesWalker 158 = .ok (.aload_n 0, 1) := by decide +kernel
theorem d_M_takesWalker_159 : decode b_M_takesWalker 159 = .ok (.aload_n 0, 1) := by decide +kernel
theorem d_M_takesWalker_160 : decode b_M_takesWalker 160 = .ok (.getfield 48, 3) := by decide +kernel
theorem d_M_takesWalker_163 : decode b_M_takesWalker 163 = .ok (.iload 4, 2) := by decide +kernel
theorem d_M_takesWalker_165 : decode b_M_takesWalker 165 = .ok (.invokevirtual 138, 3) := by decide +kernel
theorem d_M_takesWalker_168 : decode b_M_takesWalker 168 = .ok (.iastore, 1) := by decide +kernel
theorem d_M_takesWalker_169 : decode b_M_takesWalker 169 = .ok (.aload_n 0, 1) := by decide +kernel
theorem d_M_takesWalker_170 : decode b_M_takesWalker 170 = .ok (.getfield 45, 3) := by decide +kernel
theorem d_M_takesWalker_173 : decode b_M_takesWalker 173 = .ok (.iconst 0, 1) := by decide +kernel
theorem d_M_takesWalker_174 : decode b_M_takesWalker 174 = .ok (.dup2, 1) := by decide +kernel
theorem d_M_takesWalker_175 : decode b_M_takesWalker 175 = .ok (.iaload, 1) := by decide +kernel
theorem d_M_takesWalker_176 : decode b_M_takesWalker 176 = .ok (.iconst 1, 1) := by decide +kernel
theorem d_M_takesWalker_177 : decode b_M_takesWalker 177 = .ok (.iadd, 1) := by decide +kernel
theorem d_M_takesWalker_178 : decode b_M_takesWalker 178 = .ok (.iastore, 1) := by decide +kernel
theorem d_M_takesWalker_179 : decode b_M_takesWalker 179 = .ok (.aload_n 0, 1) := by decide +kernel
theorem d_M_takesWalker_180 : decode b_M_takesWalker 180 = .ok (.getfield 122, 3) := by decide +kernel
theorem d_M_takesWalker_183 : decode b_M_takesWalker 183 = .ok (.aload_n 0, 1) := by decide +kernel
theorem d_M_takesWalker_184 : decode b_M_takesWalker 184 = .ok (.getfield 16, 3) := by decide +kernel
theorem d_M_takesWalker_187 : decode b_M_takesWalker 187 = .ok (.iload_n 1, 1) := by decide +kernel
theorem d_M_takesWalker_188 : decode b_M_takesWalker 188 = .ok (.iaload, 1) := by decide +kernel
theorem d_M_takesWalker_189 : decode b_M_takesWalker 189 = .ok (.if_icmp .eq 24, 3) := by decide +kernel
theorem d_M_takesWalker_192 : decode b_M_takesWalker 192 = .ok (.aload_n 0, 1) := by decide +kernel
theorem d_M_takesWalker_193 : decode b_M_takesWalker 193 = .ok (.iload_n 1, 1) := by decide +kernel
theorem d_M_takesWalker_194 : decode b_M_takesWalker 194 = .ok (.invokevirtual 125, 3) := by decide +kernel
theorem d_M_takesWalker_197 : decode b_M_takesWalker 197 = .ok (.bipush 32, 2) := by decide +kernel
theorem d_M_takesWalker_199 : decode b_M_takesWalker 199 = .ok (.if_icmp .eq 14, 3) := by decide +kernel
theorem d_M_takesWalker_202 : decode b_M_takesWalker 202 = .ok (.aload_n 0, 1) := by decide +kernel
theorem d_M_takesWalker_203 : decode b_M_takesWalker 203 = .ok (.iload_n 1, 1) := by decide +kernel
theorem d_M_takesWalker_204 : decode b_M_takesWalker 204 = .ok (.invokevirtual 125, 3) := by decide +kernel
theorem d_M_takesWalker_207 : decode b_M_takesWalker 207 = .ok (.invokestatic 128, 3) := by decide +kernel
theorem d_M_takesWalker_210 : decode b_M_takesWalker 210 = .ok (.ifCond .lt 7, 3) := by decide +kernel
theorem d_M_takesWalker_213 : decode b_M_takesWalker 213 = .ok (.iconst 1, 1) := by decide +kernel
theorem d_M_takesWalker_214 : decode b_M_takesWalker 214 = .ok (.goto 4, 3) := by decide +kernel
theorem d_M_takesWalker_217 : decode b_M_takesWalker 217 = .ok (.iconst 0, 1) := by decide +kernel
theorem d_M_takesWalker_218 : decode b_M_takesWalker 218 = .ok (.ireturn, 1) := by decide +kernel
theorem d_M_reads_0 : decode b_M_reads 0 = .ok (.iconst 0, 1) := by decide +kernel
theorem d_M_reads_1 : decode b_M_reads 1 = .ok (.istore_n 2, 1) := by decide +kernel
theorem d_M_reads_2 : decode b_M_reads 2 = .ok (.iload_n 2, 1) := by decide +kernel
theorem d_M_reads_3 : decode b_M_reads 3 = .ok (.bipush 27, 2) := by decide +kernel
theorem d_M_reads_5 : decode b_M_reads 5 = .ok (.if_icmp .ge 16, 3) := by decide +kernel
theorem d_M_reads_8 : decode b_M_reads 8 = .ok (.aload_n 0, 1) := by decide +kernel
theorem d_M_reads_9 : decode b_M_reads 9 = .ok (.getfield 45, 3) := by decide +kernel
theorem d_M_reads_12 : decode b_M_reads 12 = .ok (.iload_n 2, 1) := by decide +kernel
theorem d_M_reads_13 : decode b_M_reads 13 = .ok (.iconst 0, 1) := by decide +kernel
theorem d_M_reads_14 : decode b_M_reads 14 = .ok (.iastore, 1) := by decide +kernel
theorem d_M_reads_15 : decode b_M_reads 15 = .ok (.iinc 2 1, 3) := by decide +kernel
theorem d_M_reads_18 : decode b_M_reads 18 = .ok (.goto (-16), 3) := by decide +kernel
theorem d_M_reads_21 : decode b_M_reads 21 = .ok (.aload_n 0, 1) := by decide +kernel
theorem d_M_reads_22 : decode b_M_reads 22 = .ok (.iconst 0, 1) := by decide +kernel
theorem d_M_reads_23 : decode b_M_reads 23 = .ok (.putfield 122, 3) := by decide +kernel
theorem d_M_reads_26 : decode b_M_reads 26 = .ok (.aload_n 0, 1) := by decide +kernel
theorem d_M_reads_27 : decode b_M_reads 27 = .ok (.getfield 122, 3) := by decide +kernel
theorem d_M_reads_30 : decode b_M_reads 30 = .ok (.aload_n 0, 1) := by decide +kernel
theorem d_M_reads_31 : decode b_M_reads 31 = .ok (.getfield 16, 3) := by decide +kernel
theorem d_M_reads_34 : decode b_M_reads 34 = .ok (.iload_n 1, 1) := by decide +kernel
theorem d_M_reads_35 : decode b_M_reads 35 = .ok (.iaload, 1) := by decide +kernel
theorem d_M_reads_36 : decode b_M_reads 36 = .ok (.if_icmp .ge 39, 3) := by decide +kernel
theorem d_M_reads_39 : decode b_M_reads 39 = .ok (.aload_n 0, 1) := by decide +kernel
theorem d_M_reads_40 : decode b_M_reads 40 = .ok (.iload_n 1, 1) := by decide +kernel
theorem d_M_reads_41 : decode b_M_reads 41 = .ok (.invokevirtual 125, 3) := by decide +kernel
theorem d_M_reads_44 : decode b_M_reads 44 = .ok (.bipush 32, 2) := by decide +kernel
theorem d_M_reads_46 : decode b_M_reads 46 = .ok (.if_icmp .ne 16, 3) := by decide +kernel
theorem d_M_reads_49 : decode b_M_reads 49 = .ok (.aload_n 0, 1) := by decide +kernel
theorem d_M_reads_50 : decode b_M_reads 50 = .ok (.dup, 1) := by decide +kernel
theorem d_M_reads_51 : decode b_M_reads 51 = .ok (.getfield 122, 3) := by decide +kernel
theorem d_M_reads_54 : decode b_M_reads 54 = .ok (.iconst 1, 1) := by decide +kernel
theorem d_M_reads_55 : decode b_M_reads 55 = .ok (.iadd, 1) := by decide +kernel
theorem d_M_reads_56 : decode b_M_reads 56 = .ok (.putfield 122, 3) := by decide +kernel
theorem d_M_reads_59 : decode b_M_reads 59 = .ok (.goto (-33), 3) := by decide +kernel
theorem d_M_reads_62 : decode b_M_reads 62 = .ok (.aload_n 0, 1) := by decide +kernel
theorem d_M_reads_63 : decode b_M_reads 63 = .ok (.iload_n 1, 1) := by decide +kernel
theorem d_M_reads_64 : decode b_M_reads 64 = .ok (.invokevirtual 142, 3) := by decide +kernel
theorem d_M_reads_67 : decode b_M_reads 67 = .ok (.ifCond .ne (-41), 3) := by decide +kernel
theorem d_M_reads_70 : decode b_M_reads 70 = .ok (.aload_n 0, 1) := by decide +kernel
theorem d_M_reads_71 : decode b_M_reads 71 = .ok (.getfield 122, 3) := by decide +kernel
theorem d_M_reads_74 : decode b_M_reads 74 = .ok (.ireturn, 1) := by decide +kernel
theorem d_M_reads_75 : decode b_M_reads 75 = .ok (.bipush (-9), 2) := by decide +kernel
theorem d_M_reads_77 : decode b_M_reads 77 = .ok (.ireturn, 1) := by decide +kernel
theorem d_M_fault_0 : decode b_M_fault 0 = .ok (.iload_n 1, 1) := by decide +kernel
theorem d_M_fault_1 : decode b_M_fault 1 = .ok (.invokestatic 117, 3) := by decide +kernel
theorem d_M_fault_4 : decode b_M_fault 4 = .ok (.ifCond .ne 5, 3) := by decide +kernel
theorem d_M_fault_7 : decode b_M_fault 7 = .ok (.iconst (-1), 1) := by decide +kernel
theorem d_M_fault_8 : decode b_M_fault 8 = .ok (.ireturn, 1) := by decide +kernel
theorem d_M_fault_9 : decode b_M_fault 9 = .ok (.aload_n 0, 1) := by decide +kernel
theorem d_M_fault_10 : decode b_M_fault 10 = .ok (.getfield 16, 3) := by decide +kernel
theorem d_M_fault_13 : decode b_M_fault 13 = .ok (.iload_n 1, 1) := by decide +kernel
theorem d_M_fault_14 : decode b_M_fault 14 = .ok (.iaload, 1) := by decide +kernel
theorem d_M_fault_15 : decode b_M_fault 15 = .ok (.ifCond .ge 11, 3) := by decide +kernel
theorem d_M_fault_18 : decode b_M_fault 18 = .ok (.aload_n 0, 1) := by decide +kernel
theorem d_M_fault_19 : decode b_M_fault 19 = .ok (.iconst 1, 1) := by decide +kernel
theorem d_M_fault_20 : decode b_M_fault 20 = .ok (.invokevirtual 110, 3) := by decide +kernel
theorem d_M_fault_23 : decode b_M_fault 23 = .ok (.goto 8, 3) := by decide +kernel
theorem d_M_fault_26 : decode b_M_fault 26 = .ok (.aload_n 0, 1) := by decide +kernel
theorem d_M_fault_27 : decode b_M_fault 27 = .ok (.iload_n 1, 1) := by decide +kernel
theorem d_M_fault_28 : decode b_M_fault 28 = .ok (.invokevirtual 145, 3) := by decide +kernel
theorem d_M_fault_31 : decode b_M_fault 31 = .ok (.ireturn, 1) := by decide +kernel
theorem d_M_town_0 : decode b_M_town 0 = .ok (.iload_n 1, 1) := by decide +kernel
theorem d_M_town_1 : decode b_M_town 1 = .ok (.invokestatic 117, 3) := by decide +kernel
theorem d_M_town_4 : decode b_M_town 4 = .ok (.ifCond .ne 5, 3) := by decide +kernel
theorem d_M_town_7 : decode b_M_town 7 = .ok (.iconst (-1), 1) := by decide +kernel
theorem d_M_town_8 : decode b_M_town 8 = .ok (.ireturn, 1) := by decide +kernel
theorem d_M_town_9 : decode b_M_town 9 = .ok (.aload_n 0, 1) := by decide +kernel
theorem d_M_town_10 : decode b_M_town 10 = .ok (.getfield 16, 3) := by decide +kernel
theorem d_M_town_13 : decode b_M_town 13 = .ok (.iload_n 1, 1) := by decide +kernel
theorem d_M_town_14 : decode b_M_town 14 = .ok (.iaload, 1) := by decide +kernel
theorem d_M_town_15 : decode b_M_town 15 = .ok (.ifCond .ge 9, 3) := by decide +kernel
theorem d_M_town_18 : decode b_M_town 18 = .ok (.aload_n 0, 1) := by decide +kernel
theorem d_M_town_19 : decode b_M_town 19 = .ok (.iconst 1, 1) := by decide +kernel
theorem d_M_town_20 : decode b_M_town 20 = .ok (.invokevirtual 110, 3) := by decide +kernel
theorem d_M_town_23 : decode b_M_town 23 = .ok (.ireturn, 1) := by decide +kernel
theorem d_M_town_24 : decode b_M_town 24 = .ok (.aload_n 0, 1) := by decide +kernel
theorem d_M_town_25 : decode b_M_town 25 = .ok (.iload_n 1, 1) := by decide +kernel
theorem d_M_town_26 : decode b_M_town 26 = .ok (.invokevirtual 145, 3) := by decide +kernel
theorem d_M_town_29 : decode b_M_town 29 = .ok (.bipush (-9), 2) := by decide +kernel
theorem d_M_town_31 : decode b_M_town 31 = .ok (.if_icmp .eq 6, 3) := by decide +kernel
theorem d_M_town_34 : decode b_M_town 34 = .ok (.bipush (-4), 2) := by decide +kernel
theorem d_M_town_36 : decode b_M_town 36 = .ok (.ireturn, 1) := by decide +kernel
theorem d_M_town_37 : decode b_M_town 37 = .ok (.iconst 0, 1) := by decide +kernel
theorem d_M_town_38 : decode b_M_town 38 = .ok (.istore_n 2, 1) := by decide +kernel
theorem d_M_town_39 : decode b_M_town 39 = .ok (.iload_n 2, 1) := by decide +kernel
theorem d_M_town_40 : decode b_M_town 40 = .ok (.bipush 27, 2) := by decide +kernel
theorem d_M_town_42 : decode b_M_town 42 = .ok (.if_icmp .ge 21, 3) := by decide +kernel
theorem d_M_town_45 : decode b_M_town 45 = .ok (.aload_n 0, 1) := by decide +kernel
theorem d_M_town_46 : decode b_M_town 46 = .ok (.getfield 22, 3) := by decide +kernel
theorem d_M_town_49 : decode b_M_town 49 = .ok (.iload_n 2, 1) := by decide +kernel
theorem d_M_town_50 : decode b_M_town 50 = .ok (.aload_n 0, 1) := by decide +kernel
theorem d_M_town_51 : decode b_M_town 51 = .ok (.getfield 45, 3) := by decide +kernel
theorem d_M_town_54 : decode b_M_town 54 = .ok (.iload_n 2, 1) := by decide +kernel
theorem d_M_town_55 : decode b_M_town 55 = .ok (.iaload, 1) := by decide +kernel
theorem d_M_town_56 : decode b_M_town 56 = .ok (.iastore, 1) := by decide +kernel
theorem d_M_town_57 : decode b_M_town 57 = .ok (.iinc 2 1, 3) := by decide +kernel
theorem d_M_town_60 : decode b_M_town 60 = .ok (.goto (-21), 3) := by decide +kernel
theorem d_M_town_63 : decode b_M_town 63 = .ok (.iconst 0, 1) := by decide +kernel
theorem d_M_town_64 : decode b_M_town 64 = .ok (.istore_n 2, 1) := by decide +kernel
theorem d_M_town_65 : decode b_M_town 65 = .ok (.iload_n 2, 1) := by decide +kernel
theorem d_M_town_66 : decode b_M_town 66 = .ok (.iconst 3, 1) := by decide +kernel
theorem d_M_town_67 : decode b_M_town 67 = .ok (.if_icmp .ge 16, 3) := by decide +kernel
theorem d_M_town_70 : decode b_M_town 70 = .ok (.aload_n 0, 1) := by decide +kernel
theorem d_M_town_71 : decode b_M_town 71 = .ok (.getfield 34, 3) := by decide +kernel
theorem d_M_town_74 : decode b_M_town 74 = .ok (.iload_n 2, 1) := by decide +kernel
theorem d_M_town_75 : decode b_M_town 75 = .ok (.iconst 0, 1) := by decide +kernel
theorem d_M_town_76 : decode b_M_town 76 = .ok (.bastore, 1) := by decide +kernel
theorem d_M_town_77 : decode b_M_town 77 = .ok (.iinc 2 1, 3) := by decide +kernel
theorem d_M_town_80 : decode b_M_town 80 = .ok (.goto (-15), 3) := by decide +kernel
theorem d_M_town_83 : decode b_M_town 83 = .ok (.aload_n 0, 1) := by decide +kernel
theorem d_M_town_84 : decode b_M_town 84 = .ok (.getfield 22, 3) := by decide +kernel
theorem d_M_town_87 : decode b_M_town 87 = .ok (.iconst 0, 1) := by decide +kernel
theorem d_M_town_88 : decode b_M_town 88 = .ok (.iaload, 1) := by decide +kernel
theorem d_M_town_89 : decode b_M_town 89 = .ok (.ireturn, 1) := by decide +kernel
theorem d_M_areNeighbours_0 : decode b_M_areNeighbours 0 = .ok (.iload_n 0, 1) := by decide +kernel
theorem d_M_areNeighbours_1 : decode b_M_areNeighbours 1 = .ok (.iload_n 1, 1) := by decide +kernel
theorem d_M_areNeighbours_2 : decode b_M_areNeighbours 2 = .ok (.isub, 1) := by decide +kernel
theorem d_M_areNeighbours_3 : decode b_M_areNeighbours 3 = .ok (.iconst 5, 1) := by decide +kernel
theorem d_M_areNeighbours_4 : decode b_M_areNeighbours 4 = .ok (.iadd, 1) := by decide +kernel
theorem d_M_areNeighbours_5 : decode b_M_areNeighbours 5 = .ok (.iconst 5, 1) := by decide +kernel
theorem d_M_areNeighbours_6 : decode b_M_areNeighbours 6 = .ok (.irem, 1) := by decide +kernel
theorem d_M_areNeighbours_7 : decode b_M_areNeighbours 7 = .ok (.istore_n 2, 1) := by decide +kernel
theorem d_M_areNeighbours_8 : decode b_M_areNeighbours 8 = .ok (.iload_n 2, 1) := by decide +kernel
theorem d_M_areNeighbours_9 : decode b_M_areNeighbours 9 = .ok (.iconst 1, 1) := by decide +kernel
theorem d_M_areNeighbours_10 : decode b_M_areNeighbours 10 = .ok (.if_icmp .eq 8, 3) := by decide +kernel
theorem d_M_areNeighbours_13 : decode b_M_areNeighbours 13 = .ok (.iload_n 2, 1) := by decide +kernel
theorem d_M_areNeighbours_14 : decode b_M_areNeighbours 14 = .ok (.iconst 4, 1) := by decide +kernel
theorem d_M_areNeighbours_15 : decode b_M_areNeighbours 15 = .ok (.if_icmp .ne 7, 3) := by decide +kernel
theorem d_M_areNeighbours_18 : decode b_M_areNeighbours 18 = .ok (.iconst 1, 1) := by decide +kernel
theorem d_M_areNeighbours_19 : decode b_M_areNeighbours 19 = .ok (.goto 4, 3) := by decide +kernel
theorem d_M_areNeighbours_22 : decode b_M_areNeighbours 22 = .ok (.iconst 0, 1) := by decide +kernel
theorem d_M_areNeighbours_23 : decode b_M_areNeighbours 23 = .ok (.ireturn, 1) := by decide +kernel
theorem d_M_times_0 : decode b_M_times 0 = .ok (.iload_n 1, 1) := by decide +kernel
theorem d_M_times_1 : decode b_M_times 1 = .ok (.iconst 1, 1) := by decide +kernel
theorem d_M_times_2 : decode b_M_times 2 = .ok (.isub, 1) := by decide +kernel
theorem d_M_times_3 : decode b_M_times 3 = .ok (.istore_n 3, 1) := by decide +kernel
theorem d_M_times_4 : decode b_M_times 4 = .ok (.iload_n 3, 1) := by decide +kernel
theorem d_M_times_5 : decode b_M_times 5 = .ok (.ifCond .lt 19, 3) := by decide +kernel
theorem d_M_times_8 : decode b_M_times 8 = .ok (.aload_n 0, 1) := by decide +kernel
theorem d_M_times_9 : decode b_M_times 9 = .ok (.iload_n 3, 1) := by decide +kernel
theorem d_M_times_10 : decode b_M_times 10 = .ok (.iaload, 1) := by decide +kernel
theorem d_M_times_11 : decode b_M_times 11 = .ok (.iload_n 2, 1) := by decide +kernel
theorem d_M_times_12 : decode b_M_times 12 = .ok (.invokestatic 148, 3) := by decide +kernel
theorem d_M_times_15 : decode b_M_times 15 = .ok (.ifCond .eq 9, 3) := by decide +kernel
theorem d_M_times_18 : decode b_M_times 18 = .ok (.iinc 3 (-1), 3) := by decide +kernel
theorem d_M_times_21 : decode b_M_times 21 = .ok (.goto (-17), 3) := by decide +kernel
theorem d_M_times_24 : decode b_M_times 24 = .ok (.iload_n 3, 1) := by decide +kernel
theorem d_M_times_25 : decode b_M_times 25 = .ok (.ifCond .lt 10, 3) := by decide +kernel
theorem d_M_times_28 : decode b_M_times 28 = .ok (.aload_n 0, 1) := by decide +kernel
theorem d_M_times_29 : decode b_M_times 29 = .ok (.iload_n 3, 1) := by decide +kernel
theorem d_M_times_30 : decode b_M_times 30 = .ok (.iaload, 1) := by decide +kernel
theorem d_M_times_31 : decode b_M_times 31 = .ok (.iload_n 2, 1) := by decide +kernel
theorem d_M_times_32 : decode b_M_times 32 = .ok (.if_icmp .eq 11, 3) := by decide +kernel
theorem d_M_times_35 : decode b_M_times 35 = .ok (.aload_n 0, 1) := by decide +kernel
theorem d_M_times_36 : decode b_M_times 36 = .ok (.iload_n 1, 1) := by decide +kernel
theorem d_M_times_37 : decode b_M_times 37 = .ok (.iload_n 2, 1) := by decide +kernel
theorem d_M_times_38 : decode b_M_times 38 = .ok (.iastore, 1) := by decide +kernel
theorem d_M_times_39 : decode b_M_times 39 = .ok (.iload_n 1, 1) := by decide +kernel
theorem d_M_times_40 : decode b_M_times 40 = .ok (.iconst 1, 1) := by decide +kernel
theorem d_M_times_41 : decode b_M_times 41 = .ok (.iadd, 1) := by decide +kernel
theorem d_M_times_42 : decode b_M_times 42 = .ok (.ireturn, 1) := by decide +kernel
theorem d_M_times_43 : decode b_M_times 43 = .ok (.iload_n 3, 1) := by decide +kernel
theorem d_M_times_44 : decode b_M_times 44 = .ok (.istore 4, 2) := by decide +kernel
theorem d_M_times_46 : decode b_M_times 46 = .ok (.iload 4, 2) := by decide +kernel
theorem d_M_times_48 : decode b_M_times 48 = .ok (.iload_n 1, 1) := by decide +kernel
theorem d_M_times_49 : decode b_M_times 49 = .ok (.iconst 1, 1) := by decide +kernel
theorem d_M_times_50 : decode b_M_times 50 = .ok (.isub, 1) := by decide +kernel
theorem d_M_times_51 : decode b_M_times 51 = .ok (.if_icmp .ge 19, 3) := by decide +kernel
theorem d_M_times_54 : decode b_M_times 54 = .ok (.aload_n 0, 1) := by decide +kernel
theorem d_M_times_55 : decode b_M_times 55 = .ok (.iload 4, 2) := by decide +kernel
theorem d_M_times_57 : decode b_M_times 57 = .ok (.aload_n 0, 1) := by decide +kernel
theorem d_M_times_58 : decode b_M_times 58 = .ok (.iload 4, 2) := by decide +kernel
theorem d_M_times_60 : decode b_M_times 60 = .ok (.iconst 1, 1) := by decide +kernel
theorem d_M_times_61 : decode b_M_times 61 = .ok (.iadd, 1) := by decide +kernel
theorem d_M_times_62 : decode b_M_times 62 = .ok (.iaload, 1) := by decide +kernel
theorem d_M_times_63 : decode b_M_times 63 = .ok (.iastore, 1) := by decide +kernel
theorem d_M_times_64 : decode b_M_times 64 = .ok (.iinc 4 1, 3) := by decide +kernel
theorem d_M_times_67 : decode b_M_times 67 = .ok (.goto (-21), 3) := by decide +kernel
theorem d_M_times_70 : decode b_M_times 70 = .ok (.iload_n 1, 1) := by decide +kernel
theorem d_M_times_71 : decode b_M_times 71 = .ok (.iconst 1, 1) := by decide +kernel
theorem d_M_times_72 : decode b_M_times 72 = .ok (.isub, 1) := by decide +kernel
theorem d_M_times_73 : decode b_M_times 73 = .ok (.ireturn, 1) := by decide +kernel
theorem d_M_isFirst_0 : decode b_M_isFirst 0 = .ok (.iconst 1, 1) := by decide +kernel
theorem d_M_isFirst_1 : decode b_M_isFirst 1 = .ok (.istore_n 2, 1) := by decide +kernel
theorem d_M_isFirst_2 : decode b_M_isFirst 2 = .ok (.iconst 0, 1) := by decide +kernel
theorem d_M_isFirst_3 : decode b_M_isFirst 3 = .ok (.istore_n 3, 1) := by decide +kernel
theorem d_M_isFirst_4 : decode b_M_isFirst 4 = .ok (.iload_n 3, 1) := by decide +kernel
theorem d_M_isFirst_5 : decode b_M_isFirst 5 = .ok (.iload_n 1, 1) := by decide +kernel
theorem d_M_isFirst_6 : decode b_M_isFirst 6 = .ok (.if_icmp .ge 31, 3) := by decide +kernel
theorem d_M_isFirst_9 : decode b_M_isFirst 9 = .ok (.iload_n 2, 1) := by decide +kernel
theorem d_M_isFirst_10 : decode b_M_isFirst 10 = .ok (.ifCond .eq 19, 3) := by decide +kernel
theorem d_M_isFirst_13 : decode b_M_isFirst 13 = .ok (.aload_n 0, 1) := by decide +kernel
theorem d_M_isFirst_14 : decode b_M_isFirst 14 = .ok (.iload_n 3, 1) := by decide +kernel
theorem d_M_isFirst_15 : decode b_M_isFirst 15 = .ok (.iaload, 1) := by decide +kernel
theorem d_M_isFirst_16 : decode b_M_isFirst 16 = .ok (.aload_n 0, 1) := by decide +kernel
theorem d_M_isFirst_17 : decode b_M_isFirst 17 = .ok (.iload_n 1, 1) := by decide +kernel
theorem d_M_isFirst_18 : decode b_M_isFirst 18 = .ok (.iaload, 1) := by decide +kernel
theorem d_M_isFirst_19 : decode b_M_isFirst 19 = .ok (.invokestatic 148, 3) := by decide +kernel
theorem d_M_isFirst_22 : decode b_M_isFirst 22 = .ok (.ifCond .eq 7, 3) := by decide +kernel
theorem d_M_isFirst_25 : decode b_M_isFirst 25 = .ok (.iconst 1, 1) := by decide +kernel
theorem d_M_isFirst_26 : decode b_M_isFirst 26 = .ok (.goto 4, 3) := by decide +kernel
theorem d_M_isFirst_29 : decode b_M_isFirst 29 = .ok (.iconst 0, 1) := by decide +kernel
theorem d_M_isFirst_30 : decode b_M_isFirst 30 = .ok (.istore_n 2, 1) := by decide +kernel
theorem d_M_isFirst_31 : decode b_M_isFirst 31 = .ok (.iinc 3 1, 3) := by decide +kernel
theorem d_M_isFirst_34 : decode b_M_isFirst 34 = .ok (.goto (-30), 3) := by decide +kernel
theorem d_M_isFirst_37 : decode b_M_isFirst 37 = .ok (.iload_n 2, 1) := by decide +kernel
theorem d_M_isFirst_38 : decode b_M_isFirst 38 = .ok (.ireturn, 1) := by decide +kernel
theorem d_M_isLast_0 : decode b_M_isLast 0 = .ok (.iconst 1, 1) := by decide +kernel
theorem d_M_isLast_1 : decode b_M_isLast 1 = .ok (.istore_n 3, 1) := by decide +kernel
theorem d_M_isLast_2 : decode b_M_isLast 2 = .ok (.iload_n 2, 1) := by decide +kernel
theorem d_M_isLast_3 : decode b_M_isLast 3 = .ok (.iconst 1, 1) := by decide +kernel
theorem d_M_isLast_4 : decode b_M_isLast 4 = .ok (.iadd, 1) := by decide +kernel
theorem d_M_isLast_5 : decode b_M_isLast 5 = .ok (.istore 4, 2) := by decide +kernel
theorem d_M_isLast_7 : decode b_M_isLast 7 = .ok (.iload 4, 2) := by decide +kernel
theorem d_M_isLast_9 : decode b_M_isLast 9 = .ok (.iload_n 1, 1) := by decide +kernel
theorem d_M_isLast_10 : decode b_M_isLast 10 = .ok (.if_icmp .ge 32, 3) := by decide +kernel
theorem d_M_isLast_13 : decode b_M_isLast 13 = .ok (.iload_n 3, 1) := by decide +kernel
theorem d_M_isLast_14 : decode b_M_isLast 14 = .ok (.ifCond .eq 20, 3) := by decide +kernel
theorem d_M_isLast_17 : decode b_M_isLast 17 = .ok (.aload_n 0, 1) := by decide +kernel
theorem d_M_isLast_18 : decode b_M_isLast 18 = .ok (.iload 4, 2) := by decide +kernel
theorem d_M_isLast_20 : decode b_M_isLast 20 = .ok (.iaload, 1) := by decide +kernel
theorem d_M_isLast_21 : decode b_M_isLast 21 = .ok (.aload_n 0, 1) := by decide +kernel
theorem d_M_isLast_22 : decode b_M_isLast 22 = .ok (.iload_n 2, 1) := by decide +kernel
theorem d_M_isLast_23 : decode b_M_isLast 23 = .ok (.iaload, 1) := by decide +kernel
theorem d_M_isLast_24 : decode b_M_isLast 24 = .ok (.invokestatic 148, 3) := by decide +kernel
theorem d_M_isLast_27 : decode b_M_isLast 27 = .ok (.ifCond .eq 7, 3) := by decide +kernel
theorem d_M_isLast_30 : decode b_M_isLast 30 = .ok (.iconst 1, 1) := by decide +kernel
theorem d_M_isLast_31 : decode b_M_isLast 31 = .ok (.goto 4, 3) := by decide +kernel
theorem d_M_isLast_34 : decode b_M_isLast 34 = .ok (.iconst 0, 1) := by decide +kernel
theorem d_M_isLast_35 : decode b_M_isLast 35 = .ok (.istore_n 3, 1) := by decide +kernel
theorem d_M_isLast_36 : decode b_M_isLast 36 = .ok (.iinc 4 1, 3) := by decide +kernel
theorem d_M_isLast_39 : decode b_M_isLast 39 = .ok (.goto (-32), 3) := by decide +kernel
theorem d_M_isLast_42 : decode b_M_isLast 42 = .ok (.iload_n 3, 1) := by decide +kernel
theorem d_M_isLast_43 : decode b_M_isLast 43 = .ok (.ireturn, 1) := by decide +kernel
theorem d_M_layPlain_0 : decode b_M_layPlain 0 = .ok (.iconst 0, 1) := by decide +kernel
theorem d_M_layPlain_1 : decode b_M_layPlain 1 = .ok (.istore 4, 2) := by decide +kernel
theorem d_M_layPlain_3 : decode b_M_layPlain 3 = .ok (.iload 4, 2) := by decide +kernel
theorem d_M_layPlain_5 : decode b_M_layPlain 5 = .ok (.iload_n 2, 1) := by decide +kernel
theorem d_M_layPlain_6 : decode b_M_layPlain 6 = .ok (.if_icmp .ge 20, 3) := by decide +kernel
theorem d_M_layPlain_9 : decode b_M_layPlain 9 = .ok (.aload_n 0, 1) := by decide +kernel
theorem d_M_layPlain_10 : decode b_M_layPlain 10 = .ok (.getfield 57, 3) := by decide +kernel
theorem d_M_layPlain_13 : decode b_M_layPlain 13 = .ok (.iload 4, 2) := by decide +kernel
theorem d_M_layPlain_15 : decode b_M_layPlain 15 = .ok (.aload_n 1, 1) := by decide +kernel
theorem d_M_layPlain_16 : decode b_M_layPlain 16 = .ok (.iload 4, 2) := by decide +kernel
theorem d_M_layPlain_18 : decode b_M_layPlain 18 = .ok (.iaload, 1) := by decide +kernel
theorem d_M_layPlain_19 : decode b_M_layPlain 19 = .ok (.iastore, 1) := by decide +kernel
theorem d_M_layPlain_20 : decode b_M_layPlain 20 = .ok (.iinc 4 1, 3) := by decide +kernel
theorem d_M_layPlain_23 : decode b_M_layPlain 23 = .ok (.goto (-20), 3) := by decide +kernel
theorem d_M_layPlain_26 : decode b_M_layPlain 26 = .ok (.iconst 0, 1) := by decide +kernel
theorem d_M_layPlain_27 : decode b_M_layPlain 27 = .ok (.istore 4, 2) := by decide +kernel
theorem d_M_layPlain_29 : decode b_M_layPlain 29 = .ok (.iload 4, 2) := by decide +kernel
theorem d_M_layPlain_31 : decode b_M_layPlain 31 = .ok (.iload_n 2, 1) := by decide +kernel
theorem d_M_layPlain_32 : decode b_M_layPlain 32 = .ok (.if_icmp .ge 121, 3) := by decide +kernel
theorem d_M_layPlain_35 : decode b_M_layPlain 35 = .ok (.iconst (-1), 1) := by decide +kernel
theorem d_M_layPlain_36 : decode b_M_layPlain 36 = .ok (.istore 5, 2) := by decide +kernel
theorem d_M_layPlain_38 : decode b_M_layPlain 38 = .ok (.iconst 0, 1) := by decide +kernel
theorem d_M_layPlain_39 : decode b_M_layPlain 39 = .ok (.istore 6, 2) := by decide +kernel
theorem d_M_layPlain_41 : decode b_M_layPlain 41 = .ok (.iload 6, 2) := by decide +kernel
theorem d_M_layPlain_43 : decode b_M_layPlain 43 = .ok (.iload_n 2, 1) := by decide +kernel
theorem d_M_layPlain_44 : decode b_M_layPlain 44 = .ok (.iload 4, 2) := by decide +kernel
theorem d_M_layPlain_46 : decode b_M_layPlain 46 = .ok (.isub, 1) := by decide +kernel
theorem d_M_layPlain_47 : decode b_M_layPlain 47 = .ok (.if_icmp .ge 52, 3) := by decide +kernel
theorem d_M_layPlain_50 : decode b_M_layPlain 50 = .ok (.aload_n 0, 1) := by decide +kernel
theorem d_M_layPlain_51 : decode b_M_layPlain 51 = .ok (.getfield 57, 3) := by decide +kernel
theorem d_M_layPlain_54 : decode b_M_layPlain 54 = .ok (.iload 6, 2) := by decide +kernel
theorem d_M_layPlain_56 : decode b_M_layPlain 56 = .ok (.invokestatic 152, 3) := by decide +kernel
theorem d_M_layPlain_59 : decode b_M_layPlain 59 = .ok (.ifCond .eq 30, 3) := by decide +kernel
theorem d_M_layPlain_62 : decode b_M_layPlain 62 = .ok (.iload 5, 2) := by decide +kernel
theorem d_M_layPlain_64 : decode b_M_layPlain 64 = .ok (.ifCond .lt 20, 3) := by decide +kernel
theorem d_M_layPlain_67 : decode b_M_layPlain 67 = .ok (.aload_n 0, 1) := by decide +kernel
theorem d_M_layPlain_68 : decode b_M_layPlain 68 = .ok (.getfield 57, 3) := by decide +kernel
theorem d_M_layPlain_71 : decode b_M_layPlain 71 = .ok (.iload 6, 2) := by decide +kernel
theorem d_M_layPlain_73 : decode b_M_layPlain 73 = .ok (.iaload, 1) := by decide +kernel
theorem d_M_layPlain_74 : decode b_M_layPlain 74 = .ok (.aload_n 0, 1) := by decide +kernel
theorem d_M_layPlain_75 : decode b_M_layPlain 75 = .ok (.getfield 57, 3) := by decide +kernel
theorem d_M_layPlain_78 : decode b_M_layPlain 78 = .ok (.iload 5, 2) := by decide +kernel
theorem d_M_layPlain_80 : decode b_M_layPlain 80 = .ok (.iaload, 1) := by decide +kernel
theorem d_M_layPlain_81 : decode b_M_layPlain 81 = .ok (.if_icmp .ge 8, 3) := by decide +kernel
theorem d_M_layPlain_84 : decode b_M_layPlain 84 = .ok (.iload 6, 2) := by decide +kernel
theorem d_M_layPlain_86 : decode b_M_layPlain 86 = .ok (.goto 5, 3) := by decide +kernel
theorem d_M_layPlain_89 : decode b_M_layPlain 89 = .ok (.iload 5, 2) := by decide +kernel
theorem d_M_layPlain_91 : decode b_M_layPlain 91 = .ok (.istore 5, 2) := by decide +kernel
theorem d_M_layPlain_93 : decode b_M_layPlain 93 = .ok (.iinc 6 1, 3) := by decide +kernel
theorem d_M_layPlain_96 : decode b_M_layPlain 96 = .ok (.goto (-55), 3) := by decide +kernel
theorem d_M_layPlain_99 : decode b_M_layPlain 99 = .ok (.aload_n 3, 1) := by decide +kernel
theorem d_M_layPlain_100 : decode b_M_layPlain 100 = .ok (.iload 4, 2) := by decide +kernel
theorem d_M_layPlain_102 : decode b_M_layPlain 102 = .ok (.aload_n 0, 1) := by decide +kernel
theorem d_M_layPlain_103 : decode b_M_layPlain 103 = .ok (.getfield 57, 3) := by decide +kernel
theorem d_M_layPlain_106 : decode b_M_layPlain 106 = .ok (.iload 5, 2) := by decide +kernel
theorem d_M_layPlain_108 : decode b_M_layPlain 108 = .ok (.iaload, 1) := by decide +kernel
theorem d_M_layPlain_109 : decode b_M_layPlain 109 = .ok (.iastore, 1) := by decide +kernel
theorem d_M_layPlain_110 : decode b_M_layPlain 110 = .ok (.iload 5, 2) := by decide +kernel
theorem d_M_layPlain_112 : decode b_M_layPlain 112 = .ok (.istore 6, 2) := by decide +kernel
theorem d_M_layPlain_114 : decode b_M_layPlain 114 = .ok (.iload 6, 2) := by decide +kernel
theorem d_M_layPlain_116 : decode b_M_layPlain 116 = .ok (.iload_n 2, 1) := by decide +kernel
theorem d_M_layPlain_117 : decode b_M_layPlain 117 = .ok (.iload 4, 2) := by decide +kernel
theorem d_M_layPlain_119 : decode b_M_layPlain 119 = .ok (.isub, 1) := by decide +kernel
theorem d_M_layPlain_120 : decode b_M_layPlain 120 = .ok (.iconst 1, 1) := by decide +kernel
theorem d_M_layPlain_121 : decode b_M_layPlain 121 = .ok (.isub, 1) := by decide +kernel
theorem d_M_layPlain_122 : decode b_M_layPlain 122 = .ok (.if_icmp .ge 25, 3) := by decide +kernel
theorem d_M_layPlain_125 : decode b_M_layPlain 125 = .ok (.aload_n 0, 1) := by decide +kernel
theorem d_M_layPlain_126 : decode b_M_layPlain 126 = .ok (.getfield 57, 3) := by decide +kernel
theorem d_M_layPlain_129 : decode b_M_layPlain 129 = .ok (.iload 6, 2) := by decide +kernel
theorem d_M_layPlain_131 : decode b_M_layPlain 131 = .ok (.aload_n 0, 1) := by decide +kernel
theorem d_M_layPlain_132 : decode b_M_layPlain 132 = .ok (.getfield 57, 3) := by decide +kernel
theorem d_M_layPlain_135 : decode b_M_layPlain 135 = .ok (.iload 6, 2) := by decide +kernel
theorem d_M_layPlain_137 : decode b_M_layPlain 137 = .ok (.iconst 1, 1) := by decide +kernel
theorem d_M_layPlain_138 : decode b_M_layPlain 138 = .ok (.iadd, 1) := by decide +kernel
theorem d_M_layPlain_139 : decode b_M_layPlain 139 = .ok (.iaload, 1) := by decide +kernel
theorem d_M_layPlain_140 : decode b_M_layPlain 140 = .ok (.iastore, 1) := by decide +kernel
theorem d_M_layPlain_141 : decode b_M_layPlain 141 = .ok (.iinc 6 1, 3) := by decide +kernel
theorem d_M_layPlain_144 : decode b_M_layPlain 144 = .ok (.goto (-30), 3) := by decide +kernel
theorem d_M_layPlain_147 : decode b_M_layPlain 147 = .ok (.iinc 4 1, 3) := by decide +kernel
theorem d_M_layPlain_150 : decode b_M_layPlain 150 = .ok (.goto (-121), 3) := by decide +kernel
theorem d_M_layPlain_153 : decode b_M_layPlain 153 = .ok (.return_, 1) := by decide +kernel
theorem d_M_codeOf_0 : decode b_M_codeOf 0 = .ok (.aload_n 0, 1) := by decide +kernel
theorem d_M_codeOf_1 : decode b_M_codeOf 1 = .ok (.aload_n 1, 1) := by decide +kernel
theorem d_M_codeOf_2 : decode b_M_codeOf 2 = .ok (.iload_n 2, 1) := by decide +kernel
theorem d_M_codeOf_3 : decode b_M_codeOf 3 = .ok (.aload_n 0, 1) := by decide +kernel
theorem d_M_codeOf_4 : decode b_M_codeOf 4 = .ok (.getfield 60, 3) := by decide +kernel
theorem d_M_codeOf_7 : decode b_M_codeOf 7 = .ok (.invokevirtual 156, 3) := by decide +kernel
theorem d_M_codeOf_10 : decode b_M_codeOf 10 = .ok (.iconst 0, 1) := by decide +kernel
theorem d_M_codeOf_11 : decode b_M_codeOf 11 = .ok (.istore_n 3, 1) := by decide +kernel
theorem d_M_codeOf_12 : decode b_M_codeOf 12 = .ok (.iconst 0, 1) := by decide +kernel
theorem d_M_codeOf_13 : decode b_M_codeOf 13 = .ok (.istore 4, 2) := by decide +kernel
theorem d_M_codeOf_15 : decode b_M_codeOf 15 = .ok (.iload 4, 2) := by decide +kernel
theorem d_M_codeOf_17 : decode b_M_codeOf 17 = .ok (.iload_n 2, 1) := by decide +kernel
theorem d_M_codeOf_18 : decode b_M_codeOf 18 = .ok (.if_icmp .ge 24, 3) := by decide +kernel
theorem d_M_codeOf_21 : decode b_M_codeOf 21 = .ok (.bipush 10, 2) := by decide +kernel
theorem d_M_codeOf_23 : decode b_M_codeOf 23 = .ok (.iload_n 3, 1) := by decide +kernel
theorem d_M_codeOf_24 : decode b_M_codeOf 24 = .ok (.imul, 1) := by decide +kernel
theorem d_M_codeOf_25 : decode b_M_codeOf 25 = .ok (.aload_n 0, 1) := by decide +kernel
theorem d_M_codeOf_26 : decode b_M_codeOf 26 = .ok (.getfield 60, 3) := by decide +kernel
theorem d_M_codeOf_29 : decode b_M_codeOf 29 = .ok (.iload 4, 2) := by decide +kernel
theorem d_M_codeOf_31 : decode b_M_codeOf 31 = .ok (.iaload, 1) := by decide +kernel
theorem d_M_codeOf_32 : decode b_M_codeOf 32 = .ok (.iadd, 1) := by decide +kernel
theorem d_M_codeOf_33 : decode b_M_codeOf 33 = .ok (.iconst 1, 1) := by decide +kernel
theorem d_M_codeOf_34 : decode b_M_codeOf 34 = .ok (.iadd, 1) := by decide +kernel
theorem d_M_codeOf_35 : decode b_M_codeOf 35 = .ok (.istore_n 3, 1) := by decide +kernel
theorem d_M_codeOf_36 : decode b_M_codeOf 36 = .ok (.iinc 4 1, 3) := by decide +kernel
theorem d_M_codeOf_39 : decode b_M_codeOf 39 = .ok (.goto (-24), 3) := by decide +kernel
theorem d_M_codeOf_42 : decode b_M_codeOf 42 = .ok (.iload_n 3, 1) := by decide +kernel
theorem d_M_codeOf_43 : decode b_M_codeOf 43 = .ok (.ireturn, 1) := by decide +kernel
theorem d_M_isCode_0 : decode b_M_isCode 0 = .ok (.iload_n 0, 1) := by decide +kernel
theorem d_M_isCode_1 : decode b_M_isCode 1 = .ok (.i2l, 1) := by decide +kernel
theorem d_M_isCode_2 : decode b_M_isCode 2 = .ok (.lconst 0, 1) := by decide +kernel
theorem d_M_isCode_3 : decode b_M_isCode 3 = .ok (.ldc2_w 160, 3) := by decide +kernel
theorem d_M_isCode_6 : decode b_M_isCode 6 = .ok (.invokestatic 100, 3) := by decide +kernel
theorem d_M_isCode_9 : decode b_M_isCode 9 = .ok (.istore_n 1, 1) := by decide +kernel
theorem d_M_isCode_10 : decode b_M_isCode 10 = .ok (.iload_n 0, 1) := by decide +kernel
theorem d_M_isCode_11 : decode b_M_isCode 11 = .ok (.istore_n 2, 1) := by decide +kernel
theorem d_M_isCode_12 : decode b_M_isCode 12 = .ok (.iload_n 2, 1) := by decide +kernel
theorem d_M_isCode_13 : decode b_M_isCode 13 = .ok (.ifCond .le 36, 3) := by decide +kernel
theorem d_M_isCode_16 : decode b_M_isCode 16 = .ok (.iload_n 1, 1) := by decide +kernel
theorem d_M_isCode_17 : decode b_M_isCode 17 = .ok (.ifCond .eq 22, 3) := by decide +kernel
theorem d_M_isCode_20 : decode b_M_isCode 20 = .ok (.iload_n 2, 1) := by decide +kernel
theorem d_M_isCode_21 : decode b_M_isCode 21 = .ok (.bipush 10, 2) := by decide +kernel
theorem d_M_isCode_23 : decode b_M_isCode 23 = .ok (.irem, 1) := by decide +kernel
theorem d_M_isCode_24 : decode b_M_isCode 24 = .ok (.i2l, 1) := by decide +kernel
theorem d_M_isCode_25 : decode b_M_isCode 25 = .ok (.lconst 1, 1) := by decide +kernel
theorem d_M_isCode_26 : decode b_M_isCode 26 = .ok (.ldc2_w 98, 3) := by decide +kernel
theorem d_M_isCode_29 : decode b_M_isCode 29 = .ok (.invokestatic 100, 3) := by decide +kernel
theorem d_M_isCode_32 : decode b_M_isCode 32 = .ok (.ifCond .eq 7, 3) := by decide +kernel
theorem d_M_isCode_35 : decode b_M_isCode 35 = .ok (.iconst 1, 1) := by decide +kernel
theorem d_M_isCode_36 : decode b_M_isCode 36 = .ok (.goto 4, 3) := by decide +kernel
theorem d_M_isCode_39 : decode b_M_isCode 39 = .ok (.iconst 0, 1) := by decide +kernel
theorem d_M_isCode_40 : decode b_M_isCode 40 = .ok (.istore_n 1, 1) := by decide +kernel
theorem d_M_isCode_41 : decode b_M_isCode 41 = .ok (.iload_n 2, 1) := by decide +kernel
theorem d_M_isCode_42 : decode b_M_isCode 42 = .ok (.bipush 10, 2) := by decide +kernel
theorem d_M_isCode_44 : decode b_M_isCode 44 = .ok (.idiv, 1) := by decide +kernel
theorem d_M_isCode_45 : decode b_M_isCode 45 = .ok (.istore_n 2, 1) := by decide +kernel
theorem d_M_isCode_46 : decode b_M_isCode 46 = .ok (.goto (-34), 3) := by decide +kernel
theorem d_M_isCode_49 : decode b_M_isCode 49 = .ok (.iload_n 1, 1) := by decide +kernel
theorem d_M_isCode_50 : decode b_M_isCode 50 = .ok (.ireturn, 1) := by decide +kernel
theorem d_M_figures_0 : decode b_M_figures 0 = .ok (.iconst 0, 1) := by decide +kernel
theorem d_M_figures_1 : decode b_M_figures 1 = .ok (.istore_n 1, 1) := by decide +kernel
theorem d_M_figures_2 : decode b_M_figures 2 = .ok (.iload_n 0, 1) := by decide +kernel
theorem d_M_figures_3 : decode b_M_figures 3 = .ok (.istore_n 2, 1) := by decide +kernel
theorem d_M_figures_4 : decode b_M_figures 4 = .ok (.iload_n 2, 1) := by decide +kernel
theorem d_M_figures_5 : decode b_M_figures 5 = .ok (.ifCond .le 14, 3) := by decide +kernel
theorem d_M_figures_8 : decode b_M_figures 8 = .ok (.iinc 1 1, 3) := by decide +kernel
theorem d_M_figures_11 : decode b_M_figures 11 = .ok (.iload_n 2, 1) := by decide +kernel
theorem d_M_figures_12 : decode b_M_figures 12 = .ok (.bipush 10, 2) := by decide +kernel
theorem d_M_figures_14 : decode b_M_figures 14 = .ok (.idiv, 1) := by decide +kernel
theorem d_M_figures_15 : decode b_M_figures 15 = .ok (.istore_n 2, 1) := by decide +kernel
theorem d_M_figures_16 : decode b_M_figures 16 = .ok (.goto (-12), 3) := by decide +kernel
theorem d_M_figures_19 : decode b_M_figures 19 = .ok (.iload_n 1, 1) := by decide +kernel
theorem d_M_figures_20 : decode b_M_figures 20 = .ok (.ireturn, 1) := by decide +kernel
theorem d_M_follow_0 : decode b_M_follow 0 = .ok (.iconst 1, 1) := by decide +kernel
theorem d_M_follow_1 : decode b_M_follow 1 = .ok (.istore_n 3, 1) := by decide +kernel
theorem d_M_follow_2 : decode b_M_follow 2 = .ok (.iconst 1, 1) := by decide +kernel
theorem d_M_follow_3 : decode b_M_follow 3 = .ok (.istore 4, 2) := by decide +kernel
theorem d_M_follow_5 : decode b_M_follow 5 = .ok (.iload 4, 2) := by decide +kernel
theorem d_M_follow_7 : decode b_M_follow 7 = .ok (.iload_n 2, 1) := by decide +kernel
theorem d_M_follow_8 : decode b_M_follow 8 = .ok (.invokestatic 162, 3) := by decide +kernel
theorem d_M_follow_11 : decode b_M_follow 11 = .ok (.if_icmp .ge 14, 3) := by decide +kernel
theorem d_M_follow_14 : decode b_M_follow 14 = .ok (.iload_n 3, 1) := by decide +kernel
theorem d_M_follow_15 : decode b_M_follow 15 = .ok (.bipush 10, 2) := by decide +kernel
theorem d_M_follow_17 : decode b_M_follow 17 = .ok (.imul, 1) := by decide +kernel
theorem d_M_follow_18 : decode b_M_follow 18 = .ok (.istore_n 3, 1) := by decide +kernel
theorem d_M_follow_19 : decode b_M_follow 19 = .ok (.iinc 4 1, 3) := by decide +kernel
theorem d_M_follow_22 : decode b_M_follow 22 = .ok (.goto (-17), 3) := by decide +kernel
theorem d_M_follow_25 : decode b_M_follow 25 = .ok (.iload_n 1, 1) := by decide +kernel
theorem d_M_follow_26 : decode b_M_follow 26 = .ok (.istore 4, 2) := by decide +kernel
theorem d_M_follow_28 : decode b_M_follow 28 = .ok (.iload_n 2, 1) := by decide +kernel
theorem d_M_follow_29 : decode b_M_follow 29 = .ok (.istore 5, 2) := by decide +kernel
theorem d_M_follow_31 : decode b_M_follow 31 = .ok (.iload 5, 2) := by decide +kernel
theorem d_M_follow_33 : decode b_M_follow 33 = .ok (.ifCond .le 32, 3) := by decide +kernel
theorem d_M_follow_36 : decode b_M_follow 36 = .ok (.iload_n 3, 1) := by decide +kernel
theorem d_M_follow_37 : decode b_M_follow 37 = .ok (.ifCond .le 28, 3) := by decide +kernel
theorem d_M_follow_40 : decode b_M_follow 40 = .ok (.aload_n 0, 1) := by decide +kernel
theorem d_M_follow_41 : decode b_M_follow 41 = .ok (.iload 4, 2) := by decide +kernel
theorem d_M_follow_43 : decode b_M_follow 43 = .ok (.iload 5, 2) := by decide +kernel
theorem d_M_follow_45 : decode b_M_follow 45 = .ok (.iload_n 3, 1) := by decide +kernel
theorem d_M_follow_46 : decode b_M_follow 46 = .ok (.idiv, 1) := by decide +kernel
theorem d_M_follow_47 : decode b_M_follow 47 = .ok (.bipush 10, 2) := by decide +kernel
theorem d_M_follow_49 : decode b_M_follow 49 = .ok (.irem, 1) := by decide +kernel
theorem d_M_follow_50 : decode b_M_follow 50 = .ok (.iconst 1, 1) := by decide +kernel
theorem d_M_follow_51 : decode b_M_follow 51 = .ok (.isub, 1) := by decide +kernel
theorem d_M_follow_52 : decode b_M_follow 52 = .ok (.invokestatic 134, 3) := by decide +kernel
theorem d_M_follow_55 : decode b_M_follow 55 = .ok (.istore 4, 2) := by decide +kernel
theorem d_M_follow_57 : decode b_M_follow 57 = .ok (.iload_n 3, 1) := by decide +kernel
theorem d_M_follow_58 : decode b_M_follow 58 = .ok (.bipush 10, 2) := by decide +kernel
theorem d_M_follow_60 : decode b_M_follow 60 = .ok (.idiv, 1) := by decide +kernel
theorem d_M_follow_61 : decode b_M_follow 61 = .ok (.istore_n 3, 1) := by decide +kernel
theorem d_M_follow_62 : decode b_M_follow 62 = .ok (.goto (-31), 3) := by decide +kernel
theorem d_M_follow_65 : decode b_M_follow 65 = .ok (.iload 4, 2) := by decide +kernel
theorem d_M_follow_67 : decode b_M_follow 67 = .ok (.ireturn, 1) := by decide +kernel
theorem d_M_followBack_0 : decode b_M_followBack 0 = .ok (.iload_n 1, 1) := by decide +kernel
theorem d_M_followBack_1 : decode b_M_followBack 1 = .ok (.istore_n 3, 1) := by decide +kernel
theorem d_M_followBack_2 : decode b_M_followBack 2 = .ok (.iload_n 2, 1) := by decide +kernel
theorem d_M_followBack_3 : decode b_M_followBack 3 = .ok (.istore 4, 2) := by decide +kernel
theorem d_M_followBack_5 : decode b_M_followBack 5 = .ok (.iload 4, 2) := by decide +kernel
theorem d_M_followBack_7 : decode b_M_followBack 7 = .ok (.ifCond .le 26, 3) := by decide +kernel
theorem d_M_followBack_10 : decode b_M_followBack 10 = .ok (.aload_n 0, 1) := by decide +kernel
theorem d_M_followBack_11 : decode b_M_followBack 11 = .ok (.iload_n 3, 1) := by decide +kernel
theorem d_M_followBack_12 : decode b_M_followBack 12 = .ok (.iload 4, 2) := by decide +kernel
theorem d_M_followBack_14 : decode b_M_followBack 14 = .ok (.bipush 10, 2) := by decide +kernel
theorem d_M_followBack_16 : decode b_M_followBack 16 = .ok (.irem, 1) := by decide +kernel
theorem d_M_followBack_17 : decode b_M_followBack 17 = .ok (.iconst 1, 1) := by decide +kernel
theorem d_M_followBack_18 : decode b_M_followBack 18 = .ok (.isub, 1) := by decide +kernel
theorem d_M_followBack_19 : decode b_M_followBack 19 = .ok (.invokestatic 134, 3) := by decide +kernel
theorem d_M_followBack_22 : decode b_M_followBack 22 = .ok (.istore_n 3, 1) := by decide +kernel
theorem d_M_followBack_23 : decode b_M_followBack 23 = .ok (.iload 4, 2) := by decide +kernel
theorem d_M_followBack_25 : decode b_M_followBack 25 = .ok (.bipush 10, 2) := by decide +kernel
theorem d_M_followBack_27 : decode b_M_followBack 27 = .ok (.idiv, 1) := by decide +kernel
theorem d_M_followBack_28 : decode b_M_followBack 28 = .ok (.istore 4, 2) := by decide +kernel
theorem d_M_followBack_30 : decode b_M_followBack 30 = .ok (.goto (-25), 3) := by decide +kernel
theorem d_M_followBack_33 : decode b_M_followBack 33 = .ok (.iload_n 3, 1) := by decide +kernel
theorem d_M_followBack_34 : decode b_M_followBack 34 = .ok (.ireturn, 1) := by decide +kernel
theorem d_M_farOf_0 : decode b_M_farOf 0 = .ok (.aload_n 0, 1) := by decide +kernel
theorem d_M_farOf_1 : decode b_M_farOf 1 = .ok (.getfield 48, 3) := by decide +kernel
theorem d_M_farOf_4 : decode b_M_farOf 4 = .ok (.iload_n 1, 1) := by decide +kernel
theorem d_M_farOf_5 : decode b_M_farOf 5 = .ok (.iload_n 2, 1) := by decide +kernel
theorem d_M_farOf_6 : decode b_M_farOf 6 = .ok (.invokestatic 165, 3) := by decide +kernel
theorem d_M_farOf_9 : decode b_M_farOf 9 = .ok (.ireturn, 1) := by decide +kernel
theorem d_M_wordFrom_0 : decode b_M_wordFrom 0 = .ok (.aload_n 0, 1) := by decide +kernel
theorem d_M_wordFrom_1 : decode b_M_wordFrom 1 = .ok (.aload_n 0, 1) := by decide +kernel
theorem d_M_wordFrom_2 : decode b_M_wordFrom 2 = .ok (.iconst 0, 1) := by decide +kernel
theorem d_M_wordFrom_3 : decode b_M_wordFrom 3 = .ok (.iload_n 1, 1) := by decide +kernel
theorem d_M_wordFrom_4 : decode b_M_wordFrom 4 = .ok (.invokestatic 168, 3) := by decide +kernel
theorem d_M_wordFrom_7 : decode b_M_wordFrom 7 = .ok (.iload_n 2, 1) := by decide +kernel
theorem d_M_wordFrom_8 : decode b_M_wordFrom 8 = .ok (.invokestatic 171, 3) := by decide +kernel
theorem d_M_wordFrom_11 : decode b_M_wordFrom 11 = .ok (.ireturn, 1) := by decide +kernel
theorem d_M_plainOf_0 : decode b_M_plainOf 0 = .ok (.aload_n 0, 1) := by decide +kernel
theorem d_M_plainOf_1 : decode b_M_plainOf 1 = .ok (.aload_n 0, 1) := by decide +kernel
theorem d_M_plainOf_2 : decode b_M_plainOf 2 = .ok (.getfield 48, 3) := by decide +kernel
theorem d_M_plainOf_5 : decode b_M_plainOf 5 = .ok (.aload_n 0, 1) := by decide +kernel
theorem d_M_plainOf_6 : decode b_M_plainOf 6 = .ok (.getfield 48, 3) := by decide +kernel
theorem d_M_plainOf_9 : decode b_M_plainOf 9 = .ok (.iconst 0, 1) := by decide +kernel
theorem d_M_plainOf_10 : decode b_M_plainOf 10 = .ok (.iload_n 1, 1) := by decide +kernel
theorem d_M_plainOf_11 : decode b_M_plainOf 11 = .ok (.invokestatic 171, 3) := by decide +kernel
theorem d_M_plainOf_14 : decode b_M_plainOf 14 = .ok (.invokevirtual 138, 3) := by decide +kernel
theorem d_M_plainOf_17 : decode b_M_plainOf 17 = .ok (.ireturn, 1) := by decide +kernel
theorem d_M_lengthOf_0 : decode b_M_lengthOf 0 = .ok (.aload_n 0, 1) := by decide +kernel
theorem d_M_lengthOf_1 : decode b_M_lengthOf 1 = .ok (.getfield 48, 3) := by decide +kernel
theorem d_M_lengthOf_4 : decode b_M_lengthOf 4 = .ok (.iconst 0, 1) := by decide +kernel
theorem d_M_lengthOf_5 : decode b_M_lengthOf 5 = .ok (.iload_n 1, 1) := by decide +kernel
theorem d_M_lengthOf_6 : decode b_M_lengthOf 6 = .ok (.invokestatic 171, 3) := by decide +kernel
theorem d_M_lengthOf_9 : decode b_M_lengthOf 9 = .ok (.ireturn, 1) := by decide +kernel
theorem d_M_endsOf_0 : decode b_M_endsOf 0 = .ok (.aload_n 0, 1) := by decide +kernel
theorem d_M_endsOf_1 : decode b_M_endsOf 1 = .ok (.getfield 48, 3) := by decide +kernel
theorem d_M_endsOf_4 : decode b_M_endsOf 4 = .ok (.iconst 0, 1) := by decide +kernel
theorem d_M_endsOf_5 : decode b_M_endsOf 5 = .ok (.iload_n 1, 1) := by decide +kernel
theorem d_M_endsOf_6 : decode b_M_endsOf 6 = .ok (.invokestatic 171, 3) := by decide +kernel
theorem d_M_endsOf_9 : decode b_M_endsOf 9 = .ok (.istore_n 2, 1) := by decide +kernel
theorem d_M_endsOf_10 : decode b_M_endsOf 10 = .ok (.iconst 0, 1) := by decide +kernel
theorem d_M_endsOf_11 : decode b_M_endsOf 11 = .ok (.istore_n 3, 1) := by decide +kernel
theorem d_M_endsOf_12 : decode b_M_endsOf 12 = .ok (.iconst 0, 1) := by decide +kernel
theorem d_M_endsOf_13 : decode b_M_endsOf 13 = .ok (.istore 4, 2) := by decide +kernel
theorem d_M_endsOf_15 : decode b_M_endsOf 15 = .ok (.iload 4, 2) := by decide +kernel
theorem d_M_endsOf_17 : decode b_M_endsOf 17 = .ok (.iload_n 2, 1) := by decide +kernel
theorem d_M_endsOf_18 : decode b_M_endsOf 18 = .ok (.if_icmp .ge 38, 3) := by decide +kernel
theorem d_M_endsOf_21 : decode b_M_endsOf 21 = .ok (.iload_n 3, 1) := by decide +kernel
theorem d_M_endsOf_22 : decode b_M_endsOf 22 = .ok (.aload_n 0, 1) := by decide +kernel
theorem d_M_endsOf_23 : decode b_M_endsOf 23 = .ok (.getfield 48, 3) := by decide +kernel
theorem d_M_endsOf_26 : decode b_M_endsOf 26 = .ok (.iload_n 2, 1) := by decide +kernel
theorem d_M_endsOf_27 : decode b_M_endsOf 27 = .ok (.iload 4, 2) := by decide +kernel
theorem d_M_endsOf_29 : decode b_M_endsOf 29 = .ok (.invokestatic 174, 3) := by decide +kernel
theorem d_M_endsOf_32 : decode b_M_endsOf 32 = .ok (.ifCond .eq 15, 3) := by decide +kernel
theorem d_M_endsOf_35 : decode b_M_endsOf 35 = .ok (.iconst 1, 1) := by decide +kernel
theorem d_M_endsOf_36 : decode b_M_endsOf 36 = .ok (.aload_n 0, 1) := by decide +kernel
theorem d_M_endsOf_37 : decode b_M_endsOf 37 = .ok (.getfield 48, 3) := by decide +kernel
theorem d_M_endsOf_40 : decode b_M_endsOf 40 = .ok (.iload 4, 2) := by decide +kernel
theorem d_M_endsOf_42 : decode b_M_endsOf 42 = .ok (.iaload, 1) := by decide +kernel
theorem d_M_endsOf_43 : decode b_M_endsOf 43 = .ok (.ishl, 1) := by decide +kernel
theorem d_M_endsOf_44 : decode b_M_endsOf 44 = .ok (.goto 4, 3) := by decide +kernel
theorem d_M_endsOf_47 : decode b_M_endsOf 47 = .ok (.iconst 0, 1) := by decide +kernel
theorem d_M_endsOf_48 : decode b_M_endsOf 48 = .ok (.ior, 1) := by decide +kernel
theorem d_M_endsOf_49 : decode b_M_endsOf 49 = .ok (.istore_n 3, 1) := by decide +kernel
theorem d_M_endsOf_50 : decode b_M_endsOf 50 = .ok (.iinc 4 1, 3) := by decide +kernel
theorem d_M_endsOf_53 : decode b_M_endsOf 53 = .ok (.goto (-38), 3) := by decide +kernel
theorem d_M_endsOf_56 : decode b_M_endsOf 56 = .ok (.iload_n 3, 1) := by decide +kernel
theorem d_M_endsOf_57 : decode b_M_endsOf 57 = .ok (.ireturn, 1) := by decide +kernel
theorem d_M_bits_0 : decode b_M_bits 0 = .ok (.iconst 0, 1) := by decide +kernel
theorem d_M_bits_1 : decode b_M_bits 1 = .ok (.istore_n 1, 1) := by decide +kernel
theorem d_M_bits_2 : decode b_M_bits 2 = .ok (.iload_n 0, 1) := by decide +kernel
theorem d_M_bits_3 : decode b_M_bits 3 = .ok (.istore_n 2, 1) := by decide +kernel
theorem d_M_bits_4 : decode b_M_bits 4 = .ok (.iload_n 2, 1) := by decide +kernel
theorem d_M_bits_5 : decode b_M_bits 5 = .ok (.ifCond .eq 15, 3) := by decide +kernel
theorem d_M_bits_8 : decode b_M_bits 8 = .ok (.iinc 1 1, 3) := by decide +kernel
theorem d_M_bits_11 : decode b_M_bits 11 = .ok (.iload_n 2, 1) := by decide +kernel
theorem d_M_bits_12 : decode b_M_bits 12 = .ok (.iload_n 2, 1) := by decide +kernel
theorem d_M_bits_13 : decode b_M_bits 13 = .ok (.iconst 1, 1) := by decide +kernel
theorem d_M_bits_14 : decode b_M_bits 14 = .ok (.isub, 1) := by decide +kernel
theorem d_M_bits_15 : decode b_M_bits 15 = .ok (.iand, 1) := by decide +kernel
theorem d_M_bits_16 : decode b_M_bits 16 = .ok (.istore_n 2, 1) := by decide +kernel
theorem d_M_bits_17 : decode b_M_bits 17 = .ok (.goto (-13), 3) := by decide +kernel
theorem d_M_bits_20 : decode b_M_bits 20 = .ok (.iload_n 1, 1) := by decide +kernel
theorem d_M_bits_21 : decode b_M_bits 21 = .ok (.ireturn, 1) := by decide +kernel
theorem d_M_lowest_0 : decode b_M_lowest 0 = .ok (.iconst 0, 1) := by decide +kernel
theorem d_M_lowest_1 : decode b_M_lowest 1 = .ok (.istore_n 1, 1) := by decide +kernel
theorem d_M_lowest_2 : decode b_M_lowest 2 = .ok (.iload_n 0, 1) := by decide +kernel
theorem d_M_lowest_3 : decode b_M_lowest 3 = .ok (.iload_n 1, 1) := by decide +kernel
theorem d_M_lowest_4 : decode b_M_lowest 4 = .ok (.ishr, 1) := by decide +kernel
theorem d_M_lowest_5 : decode b_M_lowest 5 = .ok (.iconst 1, 1) := by decide +kernel
theorem d_M_lowest_6 : decode b_M_lowest 6 = .ok (.iand, 1) := by decide +kernel
theorem d_M_lowest_7 : decode b_M_lowest 7 = .ok (.ifCond .ne 9, 3) := by decide +kernel
theorem d_M_lowest_10 : decode b_M_lowest 10 = .ok (.iinc 1 1, 3) := by decide +kernel
theorem d_M_lowest_13 : decode b_M_lowest 13 = .ok (.goto (-11), 3) := by decide +kernel
theorem d_M_lowest_16 : decode b_M_lowest 16 = .ok (.iload_n 1, 1) := by decide +kernel
theorem d_M_lowest_17 : decode b_M_lowest 17 = .ok (.ireturn, 1) := by decide +kernel
theorem d_M_goes_0 : decode b_M_goes 0 = .ok (.aload_n 1, 1) := by decide +kernel
theorem d_M_goes_1 : decode b_M_goes 1 = .ok (.iconst 2, 1) := by decide +kernel
theorem d_M_goes_2 : decode b_M_goes 2 = .ok (.iload_n 2, 1) := by decide +kernel
theorem d_M_goes_3 : decode b_M_goes 3 = .ok (.iadd, 1) := by decide +kernel
theorem d_M_goes_4 : decode b_M_goes 4 = .ok (.iaload, 1) := by decide +kernel
theorem d_M_goes_5 : decode b_M_goes 5 = .ok (.istore_n 3, 1) := by decide +kernel
theorem d_M_goes_6 : decode b_M_goes 6 = .ok (.aload_n 0, 1) := by decide +kernel
theorem d_M_goes_7 : decode b_M_goes 7 = .ok (.aload_n 1, 1) := by decide +kernel
theorem d_M_goes_8 : decode b_M_goes 8 = .ok (.bipush 7, 2) := by decide +kernel
theorem d_M_goes_10 : decode b_M_goes 10 = .ok (.iload_n 2, 1) := by decide +kernel
theorem d_M_goes_11 : decode b_M_goes 11 = .ok (.iadd, 1) := by decide +kernel
theorem d_M_goes_12 : decode b_M_goes 12 = .ok (.iaload, 1) := by decide +kernel
theorem d_M_goes_13 : decode b_M_goes 13 = .ok (.invokevirtual 178, 3) := by decide +kernel
theorem d_M_goes_16 : decode b_M_goes 16 = .ok (.istore 4, 2) := by decide +kernel
theorem d_M_goes_18 : decode b_M_goes 18 = .ok (.iload_n 3, 1) := by decide +kernel
theorem d_M_goes_19 : decode b_M_goes 19 = .ok (.iconst 3, 1) := by decide +kernel
theorem d_M_goes_20 : decode b_M_goes 20 = .ok (.if_icmp .ne 9, 3) := by decide +kernel
theorem d_M_goes_23 : decode b_M_goes 23 = .ok (.iload 4, 2) := by decide +kernel
theorem d_M_goes_25 : decode b_M_goes 25 = .ok (.ifCond .ne 4, 3) := by decide +kernel
theorem d_M_goes_28 : decode b_M_goes 28 = .ok (.return_, 1) := by decide +kernel
theorem d_M_goes_29 : decode b_M_goes 29 = .ok (.iload_n 3, 1) := by decide +kernel
theorem d_M_goes_30 : decode b_M_goes 30 = .ok (.iconst 3, 1) := by decide +kernel
theorem d_M_goes_31 : decode b_M_goes 31 = .ok (.if_icmp .ne 11, 3) := by decide +kernel
theorem d_M_goes_34 : decode b_M_goes 34 = .ok (.iload 4, 2) := by decide +kernel
theorem d_M_goes_36 : decode b_M_goes 36 = .ok (.invokestatic 181, 3) := by decide +kernel
theorem d_M_goes_39 : decode b_M_goes 39 = .ok (.goto 9, 3) := by decide +kernel
theorem d_M_goes_42 : decode b_M_goes 42 = .ok (.aload_n 1, 1) := by decide +kernel
theorem d_M_goes_43 : decode b_M_goes 43 = .ok (.bipush 12, 2) := by decide +kernel
theorem d_M_goes_45 : decode b_M_goes 45 = .ok (.iload_n 2, 1) := by decide +kernel
theorem d_M_goes_46 : decode b_M_goes 46 = .ok (.iadd, 1) := by decide +kernel
theorem d_M_goes_47 : decode b_M_goes 47 = .ok (.iaload, 1) := by decide +kernel
theorem d_M_goes_48 : decode b_M_goes 48 = .ok (.istore 5, 2) := by decide +kernel
theorem d_M_goes_50 : decode b_M_goes 50 = .ok (.aload_n 0, 1) := by decide +kernel
theorem d_M_goes_51 : decode b_M_goes 51 = .ok (.getfield 48, 3) := by decide +kernel
theorem d_M_goes_54 : decode b_M_goes 54 = .ok (.aload_n 0, 1) := by decide +kernel
theorem d_M_goes_55 : decode b_M_goes 55 = .ok (.getfield 48, 3) := by decide +kernel
theorem d_M_goes_58 : decode b_M_goes 58 = .ok (.iconst 0, 1) := by decide +kernel
theorem d_M_goes_59 : decode b_M_goes 59 = .ok (.aload_n 1, 1) := by decide +kernel
theorem d_M_goes_60 : decode b_M_goes 60 = .ok (.bipush 7, 2) := by decide +kernel
theorem d_M_goes_62 : decode b_M_goes 62 = .ok (.iload_n 2, 1) := by decide +kernel
theorem d_M_goes_63 : decode b_M_goes 63 = .ok (.iadd, 1) := by decide +kernel
theorem d_M_goes_64 : decode b_M_goes 64 = .ok (.iaload, 1) := by decide +kernel
theorem d_M_goes_65 : decode b_M_goes 65 = .ok (.invokestatic 171, 3) := by decide +kernel
theorem d_M_goes_68 : decode b_M_goes 68 = .ok (.iload 5, 2) := by decide +kernel
theorem d_M_goes_70 : decode b_M_goes 70 = .ok (.invokestatic 134, 3) := by decide +kernel
theorem d_M_goes_73 : decode b_M_goes 73 = .ok (.istore 6, 2) := by decide +kernel
theorem d_M_goes_75 : decode b_M_goes 75 = .ok (.iload 6, 2) := by decide +kernel
theorem d_M_goes_77 : decode b_M_goes 77 = .ok (.bipush 9, 2) := by decide +kernel
theorem d_M_goes_79 : decode b_M_goes 79 = .ok (.if_icmp .gt 29, 3) := by decide +kernel
theorem d_M_goes_82 : decode b_M_goes 82 = .ok (.aload_n 1, 1) := by decide +kernel
theorem d_M_goes_83 : decode b_M_goes 83 = .ok (.bipush 7, 2) := by decide +kernel
theorem d_M_goes_85 : decode b_M_goes 85 = .ok (.iload_n 2, 1) := by decide +kernel
theorem d_M_goes_86 : decode b_M_goes 86 = .ok (.iadd, 1) := by decide +kernel
theorem d_M_goes_87 : decode b_M_goes 87 = .ok (.aload_n 0, 1) := by decide +kernel
theorem d_M_goes_88 : decode b_M_goes 88 = .ok (.aload_n 0, 1) := by decide +kernel
theorem d_M_goes_89 : decode b_M_goes 89 = .ok (.getfield 48, 3) := by decide +kernel
theorem d_M_goes_92 : decode b_M_goes 92 = .ok (.iload 6, 2) := by decide +kernel
theorem d_M_goes_94 : decode b_M_goes 94 = .ok (.invokevirtual 138, 3) := by decide +kernel
theorem d_M_goes_97 : decode b_M_goes 97 = .ok (.iastore, 1) := by decide +kernel
theorem d_M_goes_98 : decode b_M_goes 98 = .ok (.aload_n 1, 1) := by decide +kernel
theorem d_M_goes_99 : decode b_M_goes 99 = .ok (.bipush 22, 2) := by decide +kernel
theorem d_M_goes_101 : decode b_M_goes 101 = .ok (.iload_n 2, 1) := by decide +kernel
theorem d_M_goes_102 : decode b_M_goes 102 = .ok (.iadd, 1) := by decide +kernel
theorem d_M_goes_103 : decode b_M_goes 103 = .ok (.dup2, 1) := by decide +kernel
theorem d_M_goes_104 : decode b_M_goes 104 = .ok (.iaload, 1) := by decide +kernel
theorem d_M_goes_105 : decode b_M_goes 105 = .ok (.iconst 1, 1) := by decide +kernel
theorem d_M_goes_106 : decode b_M_goes 106 = .ok (.iadd, 1) := by decide +kernel
theorem d_M_goes_107 : decode b_M_goes 107 = .ok (.iastore, 1) := by decide +kernel
theorem d_M_goes_108 : decode b_M_goes 108 = .ok (.aload_n 1, 1) := by decide +kernel
theorem d_M_goes_109 : decode b_M_goes 109 = .ok (.iload_n 2, 1) := by decide +kernel
theorem d_M_goes_110 : decode b_M_goes 110 = .ok (.invokestatic 184, 3) := by decide +kernel
theorem d_M_goes_113 : decode b_M_goes 113 = .ok (.return_, 1) := by decide +kernel
theorem d_M_turns_0 : decode b_M_turns 0 = .ok (.aload_n 0, 1) := by decide +kernel
theorem d_M_turns_1 : decode b_M_turns 1 = .ok (.iconst 2, 1) := by decide +kernel
theorem d_M_turns_2 : decode b_M_turns 2 = .ok (.iload_n 1, 1) := by decide +kernel
theorem d_M_turns_3 : decode b_M_turns 3 = .ok (.iadd, 1) := by decide +kernel
theorem d_M_turns_4 : decode b_M_turns 4 = .ok (.iaload, 1) := by decide +kernel
theorem d_M_turns_5 : decode b_M_turns 5 = .ok (.istore_n 2, 1) := by decide +kernel
theorem d_M_turns_6 : decode b_M_turns 6 = .ok (.iload_n 2, 1) := by decide +kernel
theorem d_M_turns_7 : decode b_M_turns 7 = .ok (.iconst 1, 1) := by decide +kernel
theorem d_M_turns_8 : decode b_M_turns 8 = .ok (.if_icmp .eq 8, 3) := by decide +kernel
theorem d_M_turns_11 : decode b_M_turns 11 = .ok (.iload_n 2, 1) := by decide +kernel
theorem d_M_turns_12 : decode b_M_turns 12 = .ok (.iconst 4, 1) := by decide +kernel
theorem d_M_turns_13 : decode b_M_turns 13 = .ok (.if_icmp .ne 7, 3) := by decide +kernel
theorem d_M_turns_16 : decode b_M_turns 16 = .ok (.iconst 2, 1) := by decide +kernel
theorem d_M_turns_17 : decode b_M_turns 17 = .ok (.goto 18, 3) := by decide +kernel
theorem d_M_turns_20 : decode b_M_turns 20 = .ok (.iload_n 2, 1) := by decide +kernel
theorem d_M_turns_21 : decode b_M_turns 21 = .ok (.iconst 2, 1) := by decide +kernel
theorem d_M_turns_22 : decode b_M_turns 22 = .ok (.if_icmp .eq 8, 3) := by decide +kernel
theorem d_M_turns_25 : decode b_M_turns 25 = .ok (.iload_n 2, 1) := by decide +kernel
theorem d_M_turns_26 : decode b_M_turns 26 = .ok (.iconst 5, 1) := by decide +kernel
theorem d_M_turns_27 : decode b_M_turns 27 = .ok (.if_icmp .ne 7, 3) := by decide +kernel
theorem d_M_turns_30 : decode b_M_turns 30 = .ok (.iconst 1, 1) := by decide +kernel
theorem d_M_turns_31 : decode b_M_turns 31 = .ok (.goto 4, 3) := by decide +kernel
theorem d_M_turns_34 : decode b_M_turns 34 = .ok (.iconst 0, 1) := by decide +kernel
theorem d_M_turns_35 : decode b_M_turns 35 = .ok (.istore_n 3, 1) := by decide +kernel
theorem d_M_turns_36 : decode b_M_turns 36 = .ok (.iload_n 2, 1) := by decide +kernel
theorem d_M_turns_37 : decode b_M_turns 37 = .ok (.iconst 5, 1) := by decide +kernel
theorem d_M_turns_38 : decode b_M_turns 38 = .ok (.if_icmp .eq 17, 3) := by decide +kernel
theorem d_M_turns_41 : decode b_M_turns 41 = .ok (.aload_n 0, 1) := by decide +kernel
theorem d_M_turns_42 : decode b_M_turns 42 = .ok (.bipush 17, 2) := by decide +kernel
theorem d_M_turns_44 : decode b_M_turns 44 = .ok (.iload_n 1, 1) := by decide +kernel
theorem d_M_turns_45 : decode b_M_turns 45 = .ok (.iadd, 1) := by decide +kernel
theorem d_M_turns_46 : decode b_M_turns 46 = .ok (.iaload, 1) := by decide +kernel
theorem d_M_turns_47 : decode b_M_turns 47 = .ok (.iconst 1, 1) := by decide +kernel
theorem d_M_turns_48 : decode b_M_turns 48 = .ok (.if_icmp .ne 7, 3) := by decide +kernel
theorem d_M_turns_51 : decode b_M_turns 51 = .ok (.iconst 1, 1) := by decide +kernel
theorem d_M_turns_52 : decode b_M_turns 52 = .ok (.goto 4, 3) := by decide +kernel
theorem d_M_turns_55 : decode b_M_turns 55 = .ok (.iconst 0, 1) := by decide +kernel
theorem d_M_turns_56 : decode b_M_turns 56 = .ok (.istore 4, 2) := by decide +kernel
theorem d_M_turns_58 : decode b_M_turns 58 = .ok (.aload_n 0, 1) := by decide +kernel
theorem d_M_turns_59 : decode b_M_turns 59 = .ok (.bipush 12, 2) := by decide +kernel
theorem d_M_turns_61 : decode b_M_turns 61 = .ok (.iload_n 1, 1) := by decide +kernel
theorem d_M_turns_62 : decode b_M_turns 62 = .ok (.iadd, 1) := by decide +kernel
theorem d_M_turns_63 : decode b_M_turns 63 = .ok (.aload_n 0, 1) := by decide +kernel
theorem d_M_turns_64 : decode b_M_turns 64 = .ok (.bipush 12, 2) := by decide +kernel
theorem d_M_turns_66 : decode b_M_turns 66 = .ok (.iload_n 1, 1) := by decide +kernel
theorem d_M_turns_67 : decode b_M_turns 67 = .ok (.iadd, 1) := by decide +kernel
theorem d_M_turns_68 : decode b_M_turns 68 = .ok (.iaload, 1) := by decide +kernel
theorem d_M_turns_69 : decode b_M_turns 69 = .ok (.iload 4, 2) := by decide +kernel
theorem d_M_turns_71 : decode b_M_turns 71 = .ok (.ifCond .eq 9, 3) := by decide +kernel
theorem d_M_turns_74 : decode b_M_turns 74 = .ok (.iconst 5, 1) := by decide +kernel
theorem d_M_turns_75 : decode b_M_turns 75 = .ok (.iload_n 3, 1) := by decide +kernel
theorem d_M_turns_76 : decode b_M_turns 76 = .ok (.isub, 1) := by decide +kernel
theorem d_M_turns_77 : decode b_M_turns 77 = .ok (.goto 4, 3) := by decide +kernel
theorem d_M_turns_80 : decode b_M_turns 80 = .ok (.iload_n 3, 1) := by decide +kernel
theorem d_M_turns_81 : decode b_M_turns 81 = .ok (.iadd, 1) := by decide +kernel
theorem d_M_turns_82 : decode b_M_turns 82 = .ok (.iconst 5, 1) := by decide +kernel
theorem d_M_turns_83 : decode b_M_turns 83 = .ok (.irem, 1) := by decide +kernel
theorem d_M_turns_84 : decode b_M_turns 84 = .ok (.iastore, 1) := by decide +kernel
theorem d_M_turns_85 : decode b_M_turns 85 = .ok (.aload_n 0, 1) := by decide +kernel
theorem d_M_turns_86 : decode b_M_turns 86 = .ok (.bipush 17, 2) := by decide +kernel
theorem d_M_turns_88 : decode b_M_turns 88 = .ok (.iload_n 1, 1) := by decide +kernel
theorem d_M_turns_89 : decode b_M_turns 89 = .ok (.iadd, 1) := by decide +kernel
theorem d_M_turns_90 : decode b_M_turns 90 = .ok (.iload_n 3, 1) := by decide +kernel
theorem d_M_turns_91 : decode b_M_turns 91 = .ok (.ifCond .le 19, 3) := by decide +kernel
theorem d_M_turns_94 : decode b_M_turns 94 = .ok (.iload_n 2, 1) := by decide +kernel
theorem d_M_turns_95 : decode b_M_turns 95 = .ok (.iconst 5, 1) := by decide +kernel
theorem d_M_turns_96 : decode b_M_turns 96 = .ok (.if_icmp .eq 14, 3) := by decide +kernel
theorem d_M_turns_99 : decode b_M_turns 99 = .ok (.iconst 1, 1) := by decide +kernel
theorem d_M_turns_100 : decode b_M_turns 100 = .ok (.aload_n 0, 1) := by decide +kernel
theorem d_M_turns_101 : decode b_M_turns 101 = .ok (.bipush 17, 2) := by decide +kernel
theorem d_M_turns_103 : decode b_M_turns 103 = .ok (.iload_n 1, 1) := by decide +kernel
theorem d_M_turns_104 : decode b_M_turns 104 = .ok (.iadd, 1) := by decide +kernel
theorem d_M_turns_105 : decode b_M_turns 105 = .ok (.iaload, 1) := by decide +kernel
theorem d_M_turns_106 : decode b_M_turns 106 = .ok (.isub, 1) := by decide +kernel
theorem d_M_turns_107 : decode b_M_turns 107 = .ok (.goto 4, 3) := by decide +kernel
theorem d_M_turns_110 : decode b_M_turns 110 = .ok (.iconst 0, 1) := by decide +kernel
theorem d_M_turns_111 : decode b_M_turns 111 = .ok (.iastore, 1) := by decide +kernel
theorem d_M_turns_112 : decode b_M_turns 112 = .ok (.return_, 1) := by decide +kernel
theorem d_M_hourOf_0 : decode b_M_hourOf 0 = .ok (.aload_n 0, 1) := by decide +kernel
theorem d_M_hourOf_1 : decode b_M_hourOf 1 = .ok (.aload_n 1, 1) := by decide +kernel
theorem d_M_hourOf_2 : decode b_M_hourOf 2 = .ok (.iload_n 2, 1) := by decide +kernel
theorem d_M_hourOf_3 : decode b_M_hourOf 3 = .ok (.invokevirtual 188, 3) := by decide +kernel
theorem d_M_hourOf_6 : decode b_M_hourOf 6 = .ok (.aload_n 1, 1) := by decide +kernel
theorem d_M_hourOf_7 : decode b_M_hourOf 7 = .ok (.iconst 2, 1) := by decide +kernel
theorem d_M_hourOf_8 : decode b_M_hourOf 8 = .ok (.iload_n 2, 1) := by decide +kernel
theorem d_M_hourOf_9 : decode b_M_hourOf 9 = .ok (.iadd, 1) := by decide +kernel
theorem d_M_hourOf_10 : decode b_M_hourOf 10 = .ok (.iaload, 1) := by decide +kernel
theorem d_M_hourOf_11 : decode b_M_hourOf 11 = .ok (.iconst 4, 1) := by decide +kernel
theorem d_M_hourOf_12 : decode b_M_hourOf 12 = .ok (.if_icmp .ne 9, 3) := by decide +kernel
theorem d_M_hourOf_15 : decode b_M_hourOf 15 = .ok (.aload_n 0, 1) := by decide +kernel
theorem d_M_hourOf_16 : decode b_M_hourOf 16 = .ok (.aload_n 1, 1) := by decide +kernel
theorem d_M_hourOf_17 : decode b_M_hourOf 17 = .ok (.iload_n 2, 1) := by decide +kernel
theorem d_M_hourOf_18 : decode b_M_hourOf 18 = .ok (.invokevirtual 188, 3) := by decide +kernel
theorem d_M_hourOf_21 : decode b_M_hourOf 21 = .ok (.return_, 1) := by decide +kernel
theorem d_M_isWalker_0 : decode b_M_isWalker 0 = .ok (.iload_n 1, 1) := by decide +kernel
theorem d_M_isWalker_1 : decode b_M_isWalker 1 = .ok (.i2l, 1) := by decide +kernel
theorem d_M_isWalker_2 : decode b_M_isWalker 2 = .ok (.lconst 0, 1) := by decide +kernel
theorem d_M_isWalker_3 : decode b_M_isWalker 3 = .ok (.aload_n 0, 1) := by decide +kernel
theorem d_M_isWalker_4 : decode b_M_isWalker 4 = .ok (.getfield 22, 3) := by decide +kernel
theorem d_M_isWalker_7 : decode b_M_isWalker 7 = .ok (.iconst 0, 1) := by decide +kernel
theorem d_M_isWalker_8 : decode b_M_isWalker 8 = .ok (.iaload, 1) := by decide +kernel
theorem d_M_isWalker_9 : decode b_M_isWalker 9 = .ok (.iconst 1, 1) := by decide +kernel
theorem d_M_isWalker_10 : decode b_M_isWalker 10 = .ok (.isub, 1) := by decide +kernel
theorem d_M_isWalker_11 : decode b_M_isWalker 11 = .ok (.i2l, 1) := by decide +kernel
theorem d_M_isWalker_12 : decode b_M_isWalker 12 = .ok (.invokestatic 100, 3) := by decide +kernel
theorem d_M_isWalker_15 : decode b_M_isWalker 15 = .ok (.ireturn, 1) := by decide +kernel
theorem d_M_isOf_0 : decode b_M_isOf 0 = .ok (.iload_n 1, 1) := by decide +kernel
theorem d_M_isOf_1 : decode b_M_isOf 1 = .ok (.ifCond .eq 28, 3) := by decide +kernel
theorem d_M_isOf_4 : decode b_M_isOf 4 = .ok (.iload_n 0, 1) := by decide +kernel
theorem d_M_isOf_5 : decode b_M_isOf 5 = .ok (.iload_n 1, 1) := by decide +kernel
theorem d_M_isOf_6 : decode b_M_isOf 6 = .ok (.if_icmp .eq 23, 3) := by decide +kernel
theorem d_M_isOf_9 : decode b_M_isOf 9 = .ok (.iload_n 1, 1) := by decide +kernel
theorem d_M_isOf_10 : decode b_M_isOf 10 = .ok (.iconst 1, 1) := by decide +kernel
theorem d_M_isOf_11 : decode b_M_isOf 11 = .ok (.if_icmp .ne 8, 3) := by decide +kernel
theorem d_M_isOf_14 : decode b_M_isOf 14 = .ok (.iload_n 0, 1) := by decide +kernel
theorem d_M_isOf_15 : decode b_M_isOf 15 = .ok (.iconst 4, 1) := by decide +kernel
theorem d_M_isOf_16 : decode b_M_isOf 16 = .ok (.if_icmp .eq 13, 3) := by decide +kernel
theorem d_M_isOf_19 : decode b_M_isOf 19 = .ok (.iload_n 1, 1) := by decide +kernel
theorem d_M_isOf_20 : decode b_M_isOf 20 = .ok (.iconst 2, 1) := by decide +kernel
theorem d_M_isOf_21 : decode b_M_isOf 21 = .ok (.if_icmp .ne 12, 3) := by decide +kernel
theorem d_M_isOf_24 : decode b_M_isOf 24 = .ok (.iload_n 0, 1) := by decide +kernel
theorem d_M_isOf_25 : decode b_M_isOf 25 = .ok (.iconst 5, 1) := by decide +kernel
theorem d_M_isOf_26 : decode b_M_isOf 26 = .ok (.if_icmp .ne 7, 3) := by decide +kernel
theorem d_M_isOf_29 : decode b_M_isOf 29 = .ok (.iconst 1, 1) := by decide +kernel
theorem d_M_isOf_30 : decode b_M_isOf 30 = .ok (.goto 4, 3) := by decide +kernel
theorem d_M_isOf_33 : decode b_M_isOf 33 = .ok (.iconst 0, 1) := by decide +kernel
theorem d_M_isOf_34 : decode b_M_isOf 34 = .ok (.ireturn, 1) := by decide +kernel
theorem d_M_told_0 : decode b_M_told 0 = .ok (.iload_n 2, 1) := by decide +kernel
theorem d_M_told_1 : decode b_M_told 1 = .ok (.ifCond .ne 14, 3) := by decide +kernel
theorem d_M_told_4 : decode b_M_told 4 = .ok (.aload_n 0, 1) := by decide +kernel
theorem d_M_told_5 : decode b_M_told 5 = .ok (.getfield 22, 3) := by decide +kernel
theorem d_M_told_8 : decode b_M_told 8 = .ok (.iconst 2, 1) := by decide +kernel
theorem d_M_told_9 : decode b_M_told 9 = .ok (.iload_n 1, 1) := by decide +kernel
theorem d_M_told_10 : decode b_M_told 10 = .ok (.iadd, 1) := by decide +kernel
theorem d_M_told_11 : decode b_M_told 11 = .ok (.iaload, 1) := by decide +kernel
theorem d_M_told_12 : decode b_M_told 12 = .ok (.goto 66, 3) := by decide +kernel
theorem d_M_told_15 : decode b_M_told 15 = .ok (.iload_n 2, 1) := by decide +kernel
theorem d_M_told_16 : decode b_M_told 16 = .ok (.iconst 1, 1) := by decide +kernel
theorem d_M_told_17 : decode b_M_told 17 = .ok (.if_icmp .ne 15, 3) := by decide +kernel
theorem d_M_told_20 : decode b_M_told 20 = .ok (.aload_n 0, 1) := by decide +kernel
theorem d_M_told_21 : decode b_M_told 21 = .ok (.getfield 22, 3) := by decide +kernel
theorem d_M_told_24 : decode b_M_told 24 = .ok (.bipush 7, 2) := by decide +kernel
theorem d_M_told_26 : decode b_M_told 26 = .ok (.iload_n 1, 1) := by decide +kernel
theorem d_M_told_27 : decode b_M_told 27 = .ok (.iadd, 1) := by decide +kernel
theorem d_M_told_28 : decode b_M_told 28 = .ok (.iaload, 1) := by decide +kernel
theorem d_M_told_29 : decode b_M_told 29 = .ok (.goto 49, 3) := by decide +kernel
theorem d_M_told_32 : decode b_M_told 32 = .ok (.iload_n 2, 1) := by decide +kernel
theorem d_M_told_33 : decode b_M_told 33 = .ok (.iconst 2, 1) := by decide +kernel
theorem d_M_told_34 : decode b_M_told 34 = .ok (.if_icmp .ne 15, 3) := by decide +kernel
theorem d_M_told_37 : decode b_M_told 37 = .ok (.aload_n 0, 1) := by decide +kernel
theorem d_M_told_38 : decode b_M_told 38 = .ok (.getfield 22, 3) := by decide +kernel
theorem d_M_told_41 : decode b_M_told 41 = .ok (.bipush 12, 2) := by decide +kernel
theorem d_M_told_43 : decode b_M_told 43 = .ok (.iload_n 1, 1) := by decide +kernel
theorem d_M_told_44 : decode b_M_told 44 = .ok (.iadd, 1) := by decide +kernel
theorem d_M_told_45 : decode b_M_told 45 = .ok (.iaload, 1) := by decide +kernel
theorem d_M_told_46 : decode b_M_told 46 = .ok (.goto 32, 3) := by decide +kernel
theorem d_M_told_49 : decode b_M_told 49 = .ok (.iload_n 2, 1) := by decide +kernel
theorem d_M_told_50 : decode b_M_told 50 = .ok (.iconst 3, 1) := by decide +kernel
theorem d_M_told_51 : decode b_M_told 51 = .ok (.if_icmp .ne 15, 3) := by decide +kernel
theorem d_M_told_54 : decode b_M_told 54 = .ok (.aload_n 0, 1) := by decide +kernel
theorem d_M_told_55 : decode b_M_told 55 = .ok (.getfield 22, 3) := by decide +kernel
theorem d_M_told_58 : decode b_M_told 58 = .ok (.bipush 22, 2) := by decide +kernel
theorem d_M_told_60 : decode b_M_told 60 = .ok (.iload_n 1, 1) := by decide +kernel
theorem d_M_told_61 : decode b_M_told 61 = .ok (.iadd, 1) := by decide +kernel
theorem d_M_told_62 : decode b_M_told 62 = .ok (.iaload, 1) := by decide +kernel
theorem d_M_told_63 : decode b_M_told 63 = .ok (.goto 15, 3) := by decide +kernel
theorem d_M_told_66 : decode b_M_told 66 = .ok (.aload_n 0, 1) := by decide +kernel
theorem d_M_told_67 : decode b_M_told 67 = .ok (.getfield 22, 3) := by decide +kernel
theorem d_M_told_70 : decode b_M_told 70 = .ok (.bipush 7, 2) := by decide +kernel
theorem d_M_told_72 : decode b_M_told 72 = .ok (.iload_n 1, 1) := by decide +kernel
theorem d_M_told_73 : decode b_M_told 73 = .ok (.iadd, 1) := by decide +kernel
theorem d_M_told_74 : decode b_M_told 74 = .ok (.iaload, 1) := by decide +kernel
theorem d_M_told_75 : decode b_M_told 75 = .ok (.invokestatic 162, 3) := by decide +kernel
theorem d_M_told_78 : decode b_M_told 78 = .ok (.ireturn, 1) := by decide +kernel
theorem d_M_walker_0 : decode b_M_walker 0 = .ok (.aload_n 0, 1) := by decide +kernel
theorem d_M_walker_1 : decode b_M_walker 1 = .ok (.iload_n 1, 1) := by decide +kernel
theorem d_M_walker_2 : decode b_M_walker 2 = .ok (.invokevirtual 191, 3) := by decide +kernel
theorem d_M_walker_5 : decode b_M_walker 5 = .ok (.ifCond .eq 28, 3) := by decide +kernel
theorem d_M_walker_8 : decode b_M_walker 8 = .ok (.iload_n 2, 1) := by decide +kernel
theorem d_M_walker_9 : decode b_M_walker 9 = .ok (.i2l, 1) := by decide +kernel
theorem d_M_walker_10 : decode b_M_walker 10 = .ok (.lconst 0, 1) := by decide +kernel
theorem d_M_walker_11 : decode b_M_walker 11 = .ok (.ldc2_w 120, 3) := by decide +kernel
theorem d_M_walker_14 : decode b_M_walker 14 = .ok (.invokestatic 100, 3) := by decide +kernel
theorem d_M_walker_17 : decode b_M_walker 17 = .ok (.ifCond .eq 16, 3) := by decide +kernel
theorem d_M_walker_20 : decode b_M_walker 20 = .ok (.aload_n 0, 1) := by decide +kernel
theorem d_M_walker_21 : decode b_M_walker 21 = .ok (.aload_n 0, 1) := by decide +kernel
theorem d_M_walker_22 : decode b_M_walker 22 = .ok (.iload_n 1, 1) := by decide +kernel
theorem d_M_walker_23 : decode b_M_walker 23 = .ok (.iload_n 2, 1) := by decide +kernel
theorem d_M_walker_24 : decode b_M_walker 24 = .ok (.invokevirtual 194, 3) := by decide +kernel
theorem d_M_walker_27 : decode b_M_walker 27 = .ok (.invokevirtual 114, 3) := by decide +kernel
theorem d_M_walker_30 : decode b_M_walker 30 = .ok (.goto 4, 3) := by decide +kernel
theorem d_M_walker_33 : decode b_M_walker 33 = .ok (.iconst (-1), 1) := by decide +kernel
theorem d_M_walker_34 : decode b_M_walker 34 = .ok (.ireturn, 1) := by decide +kernel
theorem d_M_tries_0 : decode b_M_tries 0 = .ok (.iconst 0, 1) := by decide +kernel
theorem d_M_tries_1 : decode b_M_tries 1 = .ok (.istore_n 1, 1) := by decide +kernel
theorem d_M_tries_2 : decode b_M_tries 2 = .ok (.iload_n 1, 1) := by decide +kernel
theorem d_M_tries_3 : decode b_M_tries 3 = .ok (.bipush 27, 2) := by decide +kernel
theorem d_M_tries_5 : decode b_M_tries 5 = .ok (.if_icmp .ge 21, 3) := by decide +kernel
theorem d_M_tries_8 : decode b_M_tries 8 = .ok (.aload_n 0, 1) := by decide +kernel
theorem d_M_tries_9 : decode b_M_tries 9 = .ok (.getfield 63, 3) := by decide +kernel
theorem d_M_tries_12 : decode b_M_tries 12 = .ok (.iload_n 1, 1) := by decide +kernel
theorem d_M_tries_13 : decode b_M_tries 13 = .ok (.aload_n 0, 1) := by decide +kernel
theorem d_M_tries_14 : decode b_M_tries 14 = .ok (.getfield 22, 3) := by decide +kernel
theorem d_M_tries_17 : decode b_M_tries 17 = .ok (.iload_n 1, 1) := by decide +kernel
theorem d_M_tries_18 : decode b_M_tries 18 = .ok (.iaload, 1) := by decide +kernel
theorem d_M_tries_19 : decode b_M_tries 19 = .ok (.iastore, 1) := by decide +kernel
theorem d_M_tries_20 : decode b_M_tries 20 = .ok (.iinc 1 1, 3) := by decide +kernel
theorem d_M_tries_23 : decode b_M_tries 23 = .ok (.goto (-21), 3) := by decide +kernel
theorem d_M_tries_26 : decode b_M_tries 26 = .ok (.return_, 1) := by decide +kernel
theorem d_M_mark_0 : decode b_M_mark 0 = .ok (.aload_n 0, 1) := by decide +kernel
theorem d_M_mark_1 : decode b_M_mark 1 = .ok (.iload_n 1, 1) := by decide +kernel
theorem d_M_mark_2 : decode b_M_mark 2 = .ok (.invokevirtual 191, 3) := by decide +kernel
theorem d_M_mark_5 : decode b_M_mark 5 = .ok (.ifCond .eq 15, 3) := by decide +kernel
theorem d_M_mark_8 : decode b_M_mark 8 = .ok (.iload_n 2, 1) := by decide +kernel
theorem d_M_mark_9 : decode b_M_mark 9 = .ok (.i2l, 1) := by decide +kernel
theorem d_M_mark_10 : decode b_M_mark 10 = .ok (.lconst 1, 1) := by decide +kernel
theorem d_M_mark_11 : decode b_M_mark 11 = .ok (.ldc2_w 98, 3) := by decide +kernel
theorem d_M_mark_14 : decode b_M_mark 14 = .ok (.invokestatic 100, 3) := by decide +kernel
theorem d_M_mark_17 : decode b_M_mark 17 = .ok (.ifCond .ne 5, 3) := by decide +kernel
theorem d_M_mark_20 : decode b_M_mark 20 = .ok (.iconst (-1), 1) := by decide +kernel
theorem d_M_mark_21 : decode b_M_mark 21 = .ok (.ireturn, 1) := by decide +kernel
theorem d_M_mark_22 : decode b_M_mark 22 = .ok (.aload_n 0, 1) := by decide +kernel
theorem d_M_mark_23 : decode b_M_mark 23 = .ok (.getfield 22, 3) := by decide +kernel
theorem d_M_mark_26 : decode b_M_mark 26 = .ok (.iconst 2, 1) := by decide +kernel
theorem d_M_mark_27 : decode b_M_mark 27 = .ok (.iload_n 1, 1) := by decide +kernel
theorem d_M_mark_28 : decode b_M_mark 28 = .ok (.iadd, 1) := by decide +kernel
theorem d_M_mark_29 : decode b_M_mark 29 = .ok (.iaload, 1) := by decide +kernel
theorem d_M_mark_30 : decode b_M_mark 30 = .ok (.iload_n 2, 1) := by decide +kernel
theorem d_M_mark_31 : decode b_M_mark 31 = .ok (.invokestatic 198, 3) := by decide +kernel
theorem d_M_mark_34 : decode b_M_mark 34 = .ok (.ifCond .ne 9, 3) := by decide +kernel
theorem d_M_mark_37 : decode b_M_mark 37 = .ok (.aload_n 0, 1) := by decide +kernel
theorem d_M_mark_38 : decode b_M_mark 38 = .ok (.iconst 3, 1) := by decide +kernel
theorem d_M_mark_39 : decode b_M_mark 39 = .ok (.invokevirtual 110, 3) := by decide +kernel
theorem d_M_mark_42 : decode b_M_mark 42 = .ok (.ireturn, 1) := by decide +kernel
theorem d_M_mark_43 : decode b_M_mark 43 = .ok (.aload_n 0, 1) := by decide +kernel
theorem d_M_mark_44 : decode b_M_mark 44 = .ok (.invokevirtual 201, 3) := by decide +kernel
theorem d_M_mark_47 : decode b_M_mark 47 = .ok (.iload_n 2, 1) := by decide +kernel
theorem d_M_mark_48 : decode b_M_mark 48 = .ok (.iconst 1, 1) := by decide +kernel
theorem d_M_mark_49 : decode b_M_mark 49 = .ok (.if_icmp .ne 21, 3) := by decide +kernel
theorem d_M_mark_52 : decode b_M_mark 52 = .ok (.aload_n 0, 1) := by decide +kernel
theorem d_M_mark_53 : decode b_M_mark 53 = .ok (.getfield 63, 3) := by decide +kernel
theorem d_M_mark_56 : decode b_M_mark 56 = .ok (.iload_n 1, 1) := by decide +kernel
theorem d_M_mark_57 : decode b_M_mark 57 = .ok (.invokestatic 184, 3) := by decide +kernel
theorem d_M_mark_60 : decode b_M_mark 60 = .ok (.aload_n 0, 1) := by decide +kernel
theorem d_M_mark_61 : decode b_M_mark 61 = .ok (.getfield 63, 3) := by decide +kernel
theorem d_M_mark_64 : decode b_M_mark 64 = .ok (.bipush 12, 2) := by decide +kernel
theorem d_M_mark_66 : decode b_M_mark 66 = .ok (.iload_n 1, 1) := by decide +kernel
theorem d_M_mark_67 : decode b_M_mark 67 = .ok (.iadd, 1) := by decide +kernel
theorem d_M_mark_68 : decode b_M_mark 68 = .ok (.iaload, 1) := by decide +kernel
theorem d_M_mark_69 : decode b_M_mark 69 = .ok (.ireturn, 1) := by decide +kernel
theorem d_M_mark_70 : decode b_M_mark 70 = .ok (.iload_n 2, 1) := by decide +kernel
theorem d_M_mark_71 : decode b_M_mark 71 = .ok (.iconst 2, 1) := by decide +kernel
theorem d_M_mark_72 : decode b_M_mark 72 = .ok (.if_icmp .ne 48, 3) := by decide +kernel
theorem d_M_mark_75 : decode b_M_mark 75 = .ok (.iconst 0, 1) := by decide +kernel
theorem d_M_mark_76 : decode b_M_mark 76 = .ok (.istore_n 3, 1) := by decide +kernel
theorem d_M_mark_77 : decode b_M_mark 77 = .ok (.iload_n 3, 1) := by decide +kernel
theorem d_M_mark_78 : decode b_M_mark 78 = .ok (.iconst 4, 1) := by decide +kernel
theorem d_M_mark_79 : decode b_M_mark 79 = .ok (.if_icmp .ge 18, 3) := by decide +kernel
theorem d_M_mark_82 : decode b_M_mark 82 = .ok (.aload_n 0, 1) := by decide +kernel
theorem d_M_mark_83 : decode b_M_mark 83 = .ok (.aload_n 0, 1) := by decide +kernel
theorem d_M_mark_84 : decode b_M_mark 84 = .ok (.getfield 63, 3) := by decide +kernel
theorem d_M_mark_87 : decode b_M_mark 87 = .ok (.iload_n 1, 1) := by decide +kernel
theorem d_M_mark_88 : decode b_M_mark 88 = .ok (.invokevirtual 188, 3) := by decide +kernel
theorem d_M_mark_91 : decode b_M_mark 91 = .ok (.iinc 3 1, 3) := by decide +kernel
theorem d_M_mark_94 : decode b_M_mark 94 = .ok (.goto (-17), 3) := by decide +kernel
theorem d_M_mark_97 : decode b_M_mark 97 = .ok (.aload_n 0, 1) := by decide +kernel
theorem d_M_mark_98 : decode b_M_mark 98 = .ok (.aload_n 0, 1) := by decide +kernel
theorem d_M_mark_99 : decode b_M_mark 99 = .ok (.getfield 22, 3) := by decide +kernel
theorem d_M_mark_102 : decode b_M_mark 102 = .ok (.bipush 7, 2) := by decide +kernel
theorem d_M_mark_104 : decode b_M_mark 104 = .ok (.iload_n 1, 1) := by decide +kernel
theorem d_M_mark_105 : decode b_M_mark 105 = .ok (.iadd, 1) := by decide +kernel
theorem d_M_mark_106 : decode b_M_mark 106 = .ok (.iaload, 1) := by decide +kernel
theorem d_M_mark_107 : decode b_M_mark 107 = .ok (.aload_n 0, 1) := by decide +kernel
theorem d_M_mark_108 : decode b_M_mark 108 = .ok (.getfield 63, 3) := by decide +kernel
theorem d_M_mark_111 : decode b_M_mark 111 = .ok (.bipush 7, 2) := by decide +kernel
theorem d_M_mark_113 : decode b_M_mark 113 = .ok (.iload_n 1, 1) := by decide +kernel
theorem d_M_mark_114 : decode b_M_mark 114 = .ok (.iadd, 1) := by decide +kernel
theorem d_M_mark_115 : decode b_M_mark 115 = .ok (.iaload, 1) := by decide +kernel
theorem d_M_mark_116 : decode b_M_mark 116 = .ok (.invokevirtual 204, 3) := by decide +kernel
theorem d_M_mark_119 : decode b_M_mark 119 = .ok (.ireturn, 1) := by decide +kernel
theorem d_M_mark_120 : decode b_M_mark 120 = .ok (.iload_n 2, 1) := by decide +kernel
theorem d_M_mark_121 : decode b_M_mark 121 = .ok (.iconst 3, 1) := by decide +kernel
theorem d_M_mark_122 : decode b_M_mark 122 = .ok (.if_icmp .ne 20, 3) := by decide +kernel
theorem d_M_mark_125 : decode b_M_mark 125 = .ok (.aload_n 0, 1) := by decide +kernel
theorem d_M_mark_126 : decode b_M_mark 126 = .ok (.aload_n 0, 1) := by decide +kernel
theorem d_M_mark_127 : decode b_M_mark 127 = .ok (.getfield 22, 3) := by decide +kernel
theorem d_M_mark_130 : decode b_M_mark 130 = .ok (.bipush 7, 2) := by decide +kernel
theorem d_M_mark_132 : decode b_M_mark 132 = .ok (.iload_n 1, 1) := by decide +kernel
theorem d_M_mark_133 : decode b_M_mark 133 = .ok (.iadd, 1) := by decide +kernel
theorem d_M_mark_134 : decode b_M_mark 134 = .ok (.iaload, 1) := by decide +kernel
theorem d_M_mark_135 : decode b_M_mark 135 = .ok (.invokevirtual 178, 3) := by decide +kernel
theorem d_M_mark_138 : decode b_M_mark 138 = .ok (.invokestatic 207, 3) := by decide +kernel
theorem d_M_mark_141 : decode b_M_mark 141 = .ok (.ireturn, 1) := by decide +kernel
theorem d_M_mark_142 : decode b_M_mark 142 = .ok (.iload_n 2, 1) := by decide +kernel
theorem d_M_mark_143 : decode b_M_mark 143 = .ok (.iconst 4, 1) := by decide +kernel
theorem d_M_mark_144 : decode b_M_mark 144 = .ok (.if_icmp .ne 25, 3) := by decide +kernel
theorem d_M_mark_147 : decode b_M_mark 147 = .ok (.aload_n 0, 1) := by decide +kernel
theorem d_M_mark_148 : decode b_M_mark 148 = .ok (.aload_n 0, 1) := by decide +kernel
theorem d_M_mark_149 : decode b_M_mark 149 = .ok (.getfield 63, 3) := by decide +kernel
theorem d_M_mark_152 : decode b_M_mark 152 = .ok (.iload_n 1, 1) := by decide +kernel
theorem d_M_mark_153 : decode b_M_mark 153 = .ok (.invokevirtual 210, 3) := by decide +kernel
theorem d_M_mark_156 : decode b_M_mark 156 = .ok (.aload_n 0, 1) := by decide +kernel
theorem d_M_mark_157 : decode b_M_mark 157 = .ok (.getfield 63, 3) := by decide +kernel
theorem d_M_mark_160 : decode b_M_mark 160 = .ok (.bipush 7, 2) := by decide +kernel
theorem d_M_mark_162 : decode b_M_mark 162 = .ok (.iload_n 1, 1) := by decide +kernel
theorem d_M_mark_163 : decode b_M_mark 163 = .ok (.iadd, 1) := by decide +kernel
theorem d_M_mark_164 : decode b_M_mark 164 = .ok (.iaload, 1) := by decide +kernel
theorem d_M_mark_165 : decode b_M_mark 165 = .ok (.invokestatic 162, 3) := by decide +kernel
theorem d_M_mark_168 : decode b_M_mark 168 = .ok (.ireturn, 1) := by decide +kernel
theorem d_M_mark_169 : decode b_M_mark 169 = .ok (.iconst 0, 1) := by decide +kernel
theorem d_M_mark_170 : decode b_M_mark 170 = .ok (.istore_n 3, 1) := by decide +kernel
theorem d_M_mark_171 : decode b_M_mark 171 = .ok (.iconst 0, 1) := by decide +kernel
theorem d_M_mark_172 : decode b_M_mark 172 = .ok (.istore 4, 2) := by decide +kernel
theorem d_M_mark_174 : decode b_M_mark 174 = .ok (.iload 4, 2) := by decide +kernel
theorem d_M_mark_176 : decode b_M_mark 176 = .ok (.aload_n 0, 1) := by decide +kernel
theorem d_M_mark_177 : decode b_M_mark 177 = .ok (.getfield 22, 3) := by decide +kernel
theorem d_M_mark_180 : decode b_M_mark 180 = .ok (.iconst 0, 1) := by decide +kernel
theorem d_M_mark_181 : decode b_M_mark 181 = .ok (.iaload, 1) := by decide +kernel
theorem d_M_mark_182 : decode b_M_mark 182 = .ok (.if_icmp .ge 45, 3) := by decide +kernel
theorem d_M_mark_185 : decode b_M_mark 185 = .ok (.iload_n 3, 1) := by decide +kernel
theorem d_M_mark_186 : decode b_M_mark 186 = .ok (.iload 4, 2) := by decide +kernel
theorem d_M_mark_188 : decode b_M_mark 188 = .ok (.iload_n 1, 1) := by decide +kernel
theorem d_M_mark_189 : decode b_M_mark 189 = .ok (.if_icmp .eq 29, 3) := by decide +kernel
theorem d_M_mark_192 : decode b_M_mark 192 = .ok (.aload_n 0, 1) := by decide +kernel
theorem d_M_mark_193 : decode b_M_mark 193 = .ok (.getfield 22, 3) := by decide +kernel
theorem d_M_mark_196 : decode b_M_mark 196 = .ok (.bipush 7, 2) := by decide +kernel
theorem d_M_mark_198 : decode b_M_mark 198 = .ok (.iload 4, 2) := by decide +kernel
theorem d_M_mark_200 : decode b_M_mark 200 = .ok (.iadd, 1) := by decide +kernel
theorem d_M_mark_201 : decode b_M_mark 201 = .ok (.iaload, 1) := by decide +kernel
theorem d_M_mark_202 : decode b_M_mark 202 = .ok (.aload_n 0, 1) := by decide +kernel
theorem d_M_mark_203 : decode b_M_mark 203 = .ok (.getfield 22, 3) := by decide +kernel
theorem d_M_mark_206 : decode b_M_mark 206 = .ok (.bipush 7, 2) := by decide +kernel
theorem d_M_mark_208 : decode b_M_mark 208 = .ok (.iload_n 1, 1) := by decide +kernel
theorem d_M_mark_209 : decode b_M_mark 209 = .ok (.iadd, 1) := by decide +kernel
theorem d_M_mark_210 : decode b_M_mark 210 = .ok (.iaload, 1) := by decide +kernel
theorem d_M_mark_211 : decode b_M_mark 211 = .ok (.if_icmp .ne 7, 3) := by decide +kernel
theorem d_M_mark_214 : decode b_M_mark 214 = .ok (.iconst 1, 1) := by decide +kernel
theorem d_M_mark_215 : decode b_M_mark 215 = .ok (.goto 4, 3) := by decide +kernel
theorem d_M_mark_218 : decode b_M_mark 218 = .ok (.iconst 0, 1) := by decide +kernel
theorem d_M_mark_219 : decode b_M_mark 219 = .ok (.iadd, 1) := by decide +kernel
theorem d_M_mark_220 : decode b_M_mark 220 = .ok (.istore_n 3, 1) := by decide +kernel
theorem d_M_mark_221 : decode b_M_mark 221 = .ok (.iinc 4 1, 3) := by decide +kernel
theorem d_M_mark_224 : decode b_M_mark 224 = .ok (.goto (-50), 3) := by decide +kernel
theorem d_M_mark_227 : decode b_M_mark 227 = .ok (.iload_n 3, 1) := by decide +kernel
theorem d_M_mark_228 : decode b_M_mark 228 = .ok (.ireturn, 1) := by decide +kernel
theorem d_M_stand_0 : decode b_M_stand 0 = .ok (.aload_n 0, 1) := by decide +kernel
theorem d_M_stand_1 : decode b_M_stand 1 = .ok (.iload_n 1, 1) := by decide +kernel
theorem d_M_stand_2 : decode b_M_stand 2 = .ok (.invokevirtual 191, 3) := by decide +kernel
theorem d_M_stand_5 : decode b_M_stand 5 = .ok (.ifCond .eq 10, 3) := by decide +kernel
theorem d_M_stand_8 : decode b_M_stand 8 = .ok (.iload_n 2, 1) := by decide +kernel
theorem d_M_stand_9 : decode b_M_stand 9 = .ok (.invokestatic 213, 3) := by decide +kernel
theorem d_M_stand_12 : decode b_M_stand 12 = .ok (.ifCond .ne 5, 3) := by decide +kernel
theorem d_M_stand_15 : decode b_M_stand 15 = .ok (.iconst (-1), 1) := by decide +kernel
theorem d_M_stand_16 : decode b_M_stand 16 = .ok (.ireturn, 1) := by decide +kernel
theorem d_M_stand_17 : decode b_M_stand 17 = .ok (.aload_n 0, 1) := by decide +kernel
theorem d_M_stand_18 : decode b_M_stand 18 = .ok (.getfield 22, 3) := by decide +kernel
theorem d_M_stand_21 : decode b_M_stand 21 = .ok (.bipush 7, 2) := by decide +kernel
theorem d_M_stand_23 : decode b_M_stand 23 = .ok (.iload_n 1, 1) := by decide +kernel
theorem d_M_stand_24 : decode b_M_stand 24 = .ok (.iadd, 1) := by decide +kernel
theorem d_M_stand_25 : decode b_M_stand 25 = .ok (.iaload, 1) := by decide +kernel
theorem d_M_stand_26 : decode b_M_stand 26 = .ok (.istore_n 3, 1) := by decide +kernel
theorem d_M_stand_27 : decode b_M_stand 27 = .ok (.aload_n 0, 1) := by decide +kernel
theorem d_M_stand_28 : decode b_M_stand 28 = .ok (.getfield 22, 3) := by decide +kernel
theorem d_M_stand_31 : decode b_M_stand 31 = .ok (.bipush 7, 2) := by decide +kernel
theorem d_M_stand_33 : decode b_M_stand 33 = .ok (.iload_n 1, 1) := by decide +kernel
theorem d_M_stand_34 : decode b_M_stand 34 = .ok (.iadd, 1) := by decide +kernel
theorem d_M_stand_35 : decode b_M_stand 35 = .ok (.aload_n 0, 1) := by decide +kernel
theorem d_M_stand_36 : decode b_M_stand 36 = .ok (.iload_n 2, 1) := by decide +kernel
theorem d_M_stand_37 : decode b_M_stand 37 = .ok (.invokevirtual 216, 3) := by decide +kernel
theorem d_M_stand_40 : decode b_M_stand 40 = .ok (.iastore, 1) := by decide +kernel
theorem d_M_stand_41 : decode b_M_stand 41 = .ok (.iload_n 3, 1) := by decide +kernel
theorem d_M_stand_42 : decode b_M_stand 42 = .ok (.ireturn, 1) := by decide +kernel
theorem d_M_head_0 : decode b_M_head 0 = .ok (.aload_n 0, 1) := by decide +kernel
theorem d_M_head_1 : decode b_M_head 1 = .ok (.iload_n 1, 1) := by decide +kernel
theorem d_M_head_2 : decode b_M_head 2 = .ok (.invokevirtual 191, 3) := by decide +kernel
theorem d_M_head_5 : decode b_M_head 5 = .ok (.ifCond .eq 10, 3) := by decide +kernel
theorem d_M_head_8 : decode b_M_head 8 = .ok (.iload_n 2, 1) := by decide +kernel
theorem d_M_head_9 : decode b_M_head 9 = .ok (.invokestatic 131, 3) := by decide +kernel
theorem d_M_head_12 : decode b_M_head 12 = .ok (.ifCond .ne 5, 3) := by decide +kernel
theorem d_M_head_15 : decode b_M_head 15 = .ok (.iconst (-1), 1) := by decide +kernel
theorem d_M_head_16 : decode b_M_head 16 = .ok (.ireturn, 1) := by decide +kernel
theorem d_M_head_17 : decode b_M_head 17 = .ok (.aload_n 0, 1) := by decide +kernel
theorem d_M_head_18 : decode b_M_head 18 = .ok (.getfield 22, 3) := by decide +kernel
theorem d_M_head_21 : decode b_M_head 21 = .ok (.bipush 12, 2) := by decide +kernel
theorem d_M_head_23 : decode b_M_head 23 = .ok (.iload_n 1, 1) := by decide +kernel
theorem d_M_head_24 : decode b_M_head 24 = .ok (.iadd, 1) := by decide +kernel
theorem d_M_head_25 : decode b_M_head 25 = .ok (.iaload, 1) := by decide +kernel
theorem d_M_head_26 : decode b_M_head 26 = .ok (.istore_n 3, 1) := by decide +kernel
theorem d_M_head_27 : decode b_M_head 27 = .ok (.aload_n 0, 1) := by decide +kernel
theorem d_M_head_28 : decode b_M_head 28 = .ok (.getfield 22, 3) := by decide +kernel
theorem d_M_head_31 : decode b_M_head 31 = .ok (.bipush 12, 2) := by decide +kernel
theorem d_M_head_33 : decode b_M_head 33 = .ok (.iload_n 1, 1) := by decide +kernel
theorem d_M_head_34 : decode b_M_head 34 = .ok (.iadd, 1) := by decide +kernel
theorem d_M_head_35 : decode b_M_head 35 = .ok (.iload_n 2, 1) := by decide +kernel
theorem d_M_head_36 : decode b_M_head 36 = .ok (.iastore, 1) := by decide +kernel
theorem d_M_head_37 : decode b_M_head 37 = .ok (.aload_n 0, 1) := by decide +kernel
theorem d_M_head_38 : decode b_M_head 38 = .ok (.getfield 22, 3) := by decide +kernel
theorem d_M_head_41 : decode b_M_head 41 = .ok (.bipush 17, 2) := by decide +kernel
theorem d_M_head_43 : decode b_M_head 43 = .ok (.iload_n 1, 1) := by decide +kernel
theorem d_M_head_44 : decode b_M_head 44 = .ok (.iadd, 1) := by decide +kernel
theorem d_M_head_45 : decode b_M_head 45 = .ok (.iconst 0, 1) := by decide +kernel
theorem d_M_head_46 : decode b_M_head 46 = .ok (.iastore, 1) := by decide +kernel
theorem d_M_head_47 : decode b_M_head 47 = .ok (.iload_n 3, 1) := by decide +kernel
theorem d_M_head_48 : decode b_M_head 48 = .ok (.ireturn, 1) := by decide +kernel
theorem d_M_hours_0 : decode b_M_hours 0 = .ok (.iload_n 1, 1) := by decide +kernel
theorem d_M_hours_1 : decode b_M_hours 1 = .ok (.i2l, 1) := by decide +kernel
theorem d_M_hours_2 : decode b_M_hours 2 = .ok (.lconst 0, 1) := by decide +kernel
theorem d_M_hours_3 : decode b_M_hours 3 = .ok (.ldc2_w 219, 3) := by decide +kernel
theorem d_M_hours_6 : decode b_M_hours 6 = .ok (.invokestatic 100, 3) := by decide +kernel
theorem d_M_hours_9 : decode b_M_hours 9 = .ok (.ifCond .ne 5, 3) := by decide +kernel
theorem d_M_hours_12 : decode b_M_hours 12 = .ok (.iconst (-1), 1) := by decide +kernel
theorem d_M_hours_13 : decode b_M_hours 13 = .ok (.ireturn, 1) := by decide +kernel
theorem d_M_hours_14 : decode b_M_hours 14 = .ok (.aload_n 0, 1) := by decide +kernel
theorem d_M_hours_15 : decode b_M_hours 15 = .ok (.getfield 22, 3) := by decide +kernel
theorem d_M_hours_18 : decode b_M_hours 18 = .ok (.iconst 0, 1) := by decide +kernel
theorem d_M_hours_19 : decode b_M_hours 19 = .ok (.iaload, 1) := by decide +kernel
theorem d_M_hours_20 : decode b_M_hours 20 = .ok (.ifCond .ne 6, 3) := by decide +kernel
theorem d_M_hours_23 : decode b_M_hours 23 = .ok (.bipush (-4), 2) := by decide +kernel
theorem d_M_hours_25 : decode b_M_hours 25 = .ok (.ireturn, 1) := by decide +kernel
theorem d_M_hours_26 : decode b_M_hours 26 = .ok (.aload_n 0, 1) := by decide +kernel
theorem d_M_hours_27 : decode b_M_hours 27 = .ok (.getfield 22, 3) := by decide +kernel
theorem d_M_hours_30 : decode b_M_hours 30 = .ok (.iconst 1, 1) := by decide +kernel
theorem d_M_hours_31 : decode b_M_hours 31 = .ok (.iaload, 1) := by decide +kernel
theorem d_M_hours_32 : decode b_M_hours 32 = .ok (.iload_n 1, 1) := by decide +kernel
theorem d_M_hours_33 : decode b_M_hours 33 = .ok (.iadd, 1) := by decide +kernel
theorem d_M_hours_34 : decode b_M_hours 34 = .ok (.bipush 60, 2) := by decide +kernel
theorem d_M_hours_36 : decode b_M_hours 36 = .ok (.if_icmp .le 6, 3) := by decide +kernel
theorem d_M_hours_39 : decode b_M_hours 39 = .ok (.bipush (-2), 2) := by decide +kernel
theorem d_M_hours_41 : decode b_M_hours 41 = .ok (.ireturn, 1) := by decide +kernel
theorem d_M_hours_42 : decode b_M_hours 42 = .ok (.iconst 0, 1) := by decide +kernel
theorem d_M_hours_43 : decode b_M_hours 43 = .ok (.istore_n 2, 1) := by decide +kernel
theorem d_M_hours_44 : decode b_M_hours 44 = .ok (.iload_n 2, 1) := by decide +kernel
theorem d_M_hours_45 : decode b_M_hours 45 = .ok (.iload_n 1, 1) := by decide +kernel
theorem d_M_hours_46 : decode b_M_hours 46 = .ok (.if_icmp .ge 82, 3) := by decide +kernel
theorem d_M_hours_49 : decode b_M_hours 49 = .ok (.iconst 0, 1) := by decide +kernel
theorem d_M_hours_50 : decode b_M_hours 50 = .ok (.istore_n 3, 1) := by decide +kernel
theorem d_M_hours_51 : decode b_M_hours 51 = .ok (.iload_n 3, 1) := by decide +kernel
theorem d_M_hours_52 : decode b_M_hours 52 = .ok (.bipush 27, 2) := by decide +kernel
theorem d_M_hours_54 : decode b_M_hours 54 = .ok (.if_icmp .ge 31, 3) := by decide +kernel
theorem d_M_hours_57 : decode b_M_hours 57 = .ok (.aload_n 0, 1) := by decide +kernel
theorem d_M_hours_58 : decode b_M_hours 58 = .ok (.getfield 25, 3) := by decide +kernel
theorem d_M_hours_61 : decode b_M_hours 61 = .ok (.bipush 27, 2) := by decide +kernel
theorem d_M_hours_63 : decode b_M_hours 63 = .ok (.aload_n 0, 1) := by decide +kernel
theorem d_M_hours_64 : decode b_M_hours 64 = .ok (.getfield 22, 3) := by decide +kernel
theorem d_M_hours_67 : decode b_M_hours 67 = .ok (.iconst 1, 1) := by decide +kernel
theorem d_M_hours_68 : decode b_M_hours 68 = .ok (.iaload, 1) := by decide +kernel
theorem d_M_hours_69 : decode b_M_hours 69 = .ok (.imul, 1) := by decide +kernel
theorem d_M_hours_70 : decode b_M_hours 70 = .ok (.iload_n 3, 1) := by decide +kernel
theorem d_M_hours_71 : decode b_M_hours 71 = .ok (.iadd, 1) := by decide +kernel
theorem d_M_hours_72 : decode b_M_hours 72 = .ok (.aload_n 0, 1) := by decide +kernel
theorem d_M_hours_73 : decode b_M_hours 73 = .ok (.getfield 22, 3) := by decide +kernel
theorem d_M_hours_76 : decode b_M_hours 76 = .ok (.iload_n 3, 1) := by decide +kernel
theorem d_M_hours_77 : decode b_M_hours 77 = .ok (.iaload, 1) := by decide +kernel
theorem d_M_hours_78 : decode b_M_hours 78 = .ok (.iastore, 1) := by decide +kernel
theorem d_M_hours_79 : decode b_M_hours 79 = .ok (.iinc 3 1, 3) := by decide +kernel
theorem d_M_hours_82 : decode b_M_hours 82 = .ok (.goto (-31), 3) := by decide +kernel
theorem d_M_hours_85 : decode b_M_hours 85 = .ok (.iconst 0, 1) := by decide +kernel
theorem d_M_hours_86 : decode b_M_hours 86 = .ok (.istore_n 3, 1) := by decide +kernel
theorem d_M_hours_87 : decode b_M_hours 87 = .ok (.iload_n 3, 1) := by decide +kernel
theorem d_M_hours_88 : decode b_M_hours 88 = .ok (.aload_n 0, 1) := by decide +kernel
theorem d_M_hours_89 : decode b_M_hours 89 = .ok (.getfield 22, 3) := by decide +kernel
theorem d_M_hours_92 : decode b_M_hours 92 = .ok (.iconst 0, 1) := by decide +kernel
theorem d_M_hours_93 : decode b_M_hours 93 = .ok (.iaload, 1) := by decide +kernel
theorem d_M_hours_94 : decode b_M_hours 94 = .ok (.if_icmp .ge 18, 3) := by decide +kernel
theorem d_M_hours_97 : decode b_M_hours 97 = .ok (.aload_n 0, 1) := by decide +kernel
theorem d_M_hours_98 : decode b_M_hours 98 = .ok (.aload_n 0, 1) := by decide +kernel
theorem d_M_hours_99 : decode b_M_hours 99 = .ok (.getfield 22, 3) := by decide +kernel
theorem d_M_hours_102 : decode b_M_hours 102 = .ok (.iload_n 3, 1) := by decide +kernel
theorem d_M_hours_103 : decode b_M_hours 103 = .ok (.invokevirtual 210, 3) := by decide +kernel
theorem d_M_hours_106 : decode b_M_hours 106 = .ok (.iinc 3 1, 3) := by decide +kernel
theorem d_M_hours_109 : decode b_M_hours 109 = .ok (.goto (-22), 3) := by decide +kernel
theorem d_M_hours_112 : decode b_M_hours 112 = .ok (.aload_n 0, 1) := by decide +kernel
theorem d_M_hours_113 : decode b_M_hours 113 = .ok (.getfield 22, 3) := by decide +kernel
theorem d_M_hours_116 : decode b_M_hours 116 = .ok (.iconst 1, 1) := by decide +kernel
theorem d_M_hours_117 : decode b_M_hours 117 = .ok (.dup2, 1) := by decide +kernel
theorem d_M_hours_118 : decode b_M_hours 118 = .ok (.iaload, 1) := by decide +kernel
theorem d_M_hours_119 : decode b_M_hours 119 = .ok (.iconst 1, 1) := by decide +kernel
theorem d_M_hours_120 : decode b_M_hours 120 = .ok (.iadd, 1) := by decide +kernel
theorem d_M_hours_121 : decode b_M_hours 121 = .ok (.iastore, 1) := by decide +kernel
theorem d_M_hours_122 : decode b_M_hours 122 = .ok (.iinc 2 1, 3) := by decide +kernel
theorem d_M_hours_125 : decode b_M_hours 125 = .ok (.goto (-81), 3) := by decide +kernel
theorem d_M_hours_128 : decode b_M_hours 128 = .ok (.aload_n 0, 1) := by decide +kernel
theorem d_M_hours_129 : decode b_M_hours 129 = .ok (.getfield 22, 3) := by decide +kernel
theorem d_M_hours_132 : decode b_M_hours 132 = .ok (.iconst 1, 1) := by decide +kernel
theorem d_M_hours_133 : decode b_M_hours 133 = .ok (.iaload, 1) := by decide +kernel
theorem d_M_hours_134 : decode b_M_hours 134 = .ok (.ireturn, 1) := by decide +kernel
theorem d_M_undo_0 : decode b_M_undo 0 = .ok (.iload_n 1, 1) := by decide +kernel
theorem d_M_undo_1 : decode b_M_undo 1 = .ok (.i2l, 1) := by decide +kernel
theorem d_M_undo_2 : decode b_M_undo 2 = .ok (.lconst 0, 1) := by decide +kernel
theorem d_M_undo_3 : decode b_M_undo 3 = .ok (.aload_n 0, 1) := by decide +kernel
theorem d_M_undo_4 : decode b_M_undo 4 = .ok (.getfield 22, 3) := by decide +kernel
theorem d_M_undo_7 : decode b_M_undo 7 = .ok (.iconst 1, 1) := by decide +kernel
theorem d_M_undo_8 : decode b_M_undo 8 = .ok (.iaload, 1) := by decide +kernel
theorem d_M_undo_9 : decode b_M_undo 9 = .ok (.i2l, 1) := by decide +kernel
theorem d_M_undo_10 : decode b_M_undo 10 = .ok (.invokestatic 100, 3) := by decide +kernel
theorem d_M_undo_13 : decode b_M_undo 13 = .ok (.ifCond .ne 5, 3) := by decide +kernel
theorem d_M_undo_16 : decode b_M_undo 16 = .ok (.iconst (-1), 1) := by decide +kernel
theorem d_M_undo_17 : decode b_M_undo 17 = .ok (.ireturn, 1) := by decide +kernel
theorem d_M_undo_18 : decode b_M_undo 18 = .ok (.aload_n 0, 1) := by decide +kernel
theorem d_M_undo_19 : decode b_M_undo 19 = .ok (.getfield 22, 3) := by decide +kernel
theorem d_M_undo_22 : decode b_M_undo 22 = .ok (.iconst 1, 1) := by decide +kernel
theorem d_M_undo_23 : decode b_M_undo 23 = .ok (.iaload, 1) := by decide +kernel
theorem d_M_undo_24 : decode b_M_undo 24 = .ok (.iload_n 1, 1) := by decide +kernel
theorem d_M_undo_25 : decode b_M_undo 25 = .ok (.isub, 1) := by decide +kernel
theorem d_M_undo_26 : decode b_M_undo 26 = .ok (.istore_n 2, 1) := by decide +kernel
theorem d_M_undo_27 : decode b_M_undo 27 = .ok (.iconst 0, 1) := by decide +kernel
theorem d_M_undo_28 : decode b_M_undo 28 = .ok (.istore_n 3, 1) := by decide +kernel
theorem d_M_undo_29 : decode b_M_undo 29 = .ok (.iload_n 3, 1) := by decide +kernel
theorem d_M_undo_30 : decode b_M_undo 30 = .ok (.bipush 27, 2) := by decide +kernel
theorem d_M_undo_32 : decode b_M_undo 32 = .ok (.if_icmp .ge 30, 3) := by decide +kernel
theorem d_M_undo_35 : decode b_M_undo 35 = .ok (.iload_n 2, 1) := by decide +kernel
theorem d_M_undo_36 : decode b_M_undo 36 = .ok (.ifCond .le 26, 3) := by decide +kernel
theorem d_M_undo_39 : decode b_M_undo 39 = .ok (.aload_n 0, 1) := by decide +kernel
theorem d_M_undo_40 : decode b_M_undo 40 = .ok (.getfield 22, 3) := by decide +kernel
theorem d_M_undo_43 : decode b_M_undo 43 = .ok (.iload_n 3, 1) := by decide +kernel
theorem d_M_undo_44 : decode b_M_undo 44 = .ok (.aload_n 0, 1) := by decide +kernel
theorem d_M_undo_45 : decode b_M_undo 45 = .ok (.getfield 25, 3) := by decide +kernel
theorem d_M_undo_48 : decode b_M_undo 48 = .ok (.bipush 27, 2) := by decide +kernel
theorem d_M_undo_50 : decode b_M_undo 50 = .ok (.iload_n 1, 1) := by decide +kernel
theorem d_M_undo_51 : decode b_M_undo 51 = .ok (.imul, 1) := by decide +kernel
theorem d_M_undo_52 : decode b_M_undo 52 = .ok (.iload_n 3, 1) := by decide +kernel
theorem d_M_undo_53 : decode b_M_undo 53 = .ok (.iadd, 1) := by decide +kernel
theorem d_M_undo_54 : decode b_M_undo 54 = .ok (.iaload, 1) := by decide +kernel
theorem d_M_undo_55 : decode b_M_undo 55 = .ok (.iastore, 1) := by decide +kernel
theorem d_M_undo_56 : decode b_M_undo 56 = .ok (.iinc 3 1, 3) := by decide +kernel
theorem d_M_undo_59 : decode b_M_undo 59 = .ok (.goto (-30), 3) := by decide +kernel
theorem d_M_undo_62 : decode b_M_undo 62 = .ok (.iload_n 2, 1) := by decide +kernel
theorem d_M_undo_63 : decode b_M_undo 63 = .ok (.ireturn, 1) := by decide +kernel
theorem d_M_keep_0 : decode b_M_keep 0 = .ok (.iload_n 1, 1) := by decide +kernel
theorem d_M_keep_1 : decode b_M_keep 1 = .ok (.i2l, 1) := by decide +kernel
theorem d_M_keep_2 : decode b_M_keep 2 = .ok (.lconst 0, 1) := by decide +kernel
theorem d_M_keep_3 : decode b_M_keep 3 = .ok (.ldc2_w 221, 3) := by decide +kernel
theorem d_M_keep_6 : decode b_M_keep 6 = .ok (.invokestatic 100, 3) := by decide +kernel
theorem d_M_keep_9 : decode b_M_keep 9 = .ok (.ifCond .ne 5, 3) := by decide +kernel
theorem d_M_keep_12 : decode b_M_keep 12 = .ok (.iconst (-1), 1) := by decide +kernel
theorem d_M_keep_13 : decode b_M_keep 13 = .ok (.ireturn, 1) := by decide +kernel
theorem d_M_keep_14 : decode b_M_keep 14 = .ok (.aload_n 0, 1) := by decide +kernel
theorem d_M_keep_15 : decode b_M_keep 15 = .ok (.getfield 22, 3) := by decide +kernel
theorem d_M_keep_18 : decode b_M_keep 18 = .ok (.iconst 0, 1) := by decide +kernel
theorem d_M_keep_19 : decode b_M_keep 19 = .ok (.iaload, 1) := by decide +kernel
theorem d_M_keep_20 : decode b_M_keep 20 = .ok (.ifCond .ne 6, 3) := by decide +kernel
theorem d_M_keep_23 : decode b_M_keep 23 = .ok (.bipush (-4), 2) := by decide +kernel
theorem d_M_keep_25 : decode b_M_keep 25 = .ok (.ireturn, 1) := by decide +kernel
theorem d_M_keep_26 : decode b_M_keep 26 = .ok (.iconst 0, 1) := by decide +kernel
theorem d_M_keep_27 : decode b_M_keep 27 = .ok (.istore_n 2, 1) := by decide +kernel
theorem d_M_keep_28 : decode b_M_keep 28 = .ok (.iload_n 2, 1) := by decide +kernel
theorem d_M_keep_29 : decode b_M_keep 29 = .ok (.bipush 27, 2) := by decide +kernel
theorem d_M_keep_31 : decode b_M_keep 31 = .ok (.if_icmp .ge 26, 3) := by decide +kernel
theorem d_M_keep_34 : decode b_M_keep 34 = .ok (.aload_n 0, 1) := by decide +kernel
theorem d_M_keep_35 : decode b_M_keep 35 = .ok (.getfield 28, 3) := by decide +kernel
theorem d_M_keep_38 : decode b_M_keep 38 = .ok (.bipush 27, 2) := by decide +kernel
theorem d_M_keep_40 : decode b_M_keep 40 = .ok (.iload_n 1, 1) := by decide +kernel
theorem d_M_keep_41 : decode b_M_keep 41 = .ok (.imul, 1) := by decide +kernel
theorem d_M_keep_42 : decode b_M_keep 42 = .ok (.iload_n 2, 1) := by decide +kernel
theorem d_M_keep_43 : decode b_M_keep 43 = .ok (.iadd, 1) := by decide +kernel
theorem d_M_keep_44 : decode b_M_keep 44 = .ok (.aload_n 0, 1) := by decide +kernel
theorem d_M_keep_45 : decode b_M_keep 45 = .ok (.getfield 22, 3) := by decide +kernel
theorem d_M_keep_48 : decode b_M_keep 48 = .ok (.iload_n 2, 1) := by decide +kernel
theorem d_M_keep_49 : decode b_M_keep 49 = .ok (.iaload, 1) := by decide +kernel
theorem d_M_keep_50 : decode b_M_keep 50 = .ok (.iastore, 1) := by decide +kernel
theorem d_M_keep_51 : decode b_M_keep 51 = .ok (.iinc 2 1, 3) := by decide +kernel
theorem d_M_keep_54 : decode b_M_keep 54 = .ok (.goto (-26), 3) := by decide +kernel
theorem d_M_keep_57 : decode b_M_keep 57 = .ok (.iconst 0, 1) := by decide +kernel
theorem d_M_keep_58 : decode b_M_keep 58 = .ok (.istore_n 2, 1) := by decide +kernel
theorem d_M_keep_59 : decode b_M_keep 59 = .ok (.iload_n 2, 1) := by decide +kernel
theorem d_M_keep_60 : decode b_M_keep 60 = .ok (.sipush 1620, 3) := by decide +kernel
theorem d_M_keep_63 : decode b_M_keep 63 = .ok (.if_icmp .ge 27, 3) := by decide +kernel
theorem d_M_keep_66 : decode b_M_keep 66 = .ok (.aload_n 0, 1) := by decide +kernel
theorem d_M_keep_67 : decode b_M_keep 67 = .ok (.getfield 31, 3) := by decide +kernel
theorem d_M_keep_70 : decode b_M_keep 70 = .ok (.sipush 1620, 3) := by decide +kernel
theorem d_M_keep_73 : decode b_M_keep 73 = .ok (.iload_n 1, 1) := by decide +kernel
theorem d_M_keep_74 : decode b_M_keep 74 = .ok (.imul, 1) := by decide +kernel
theorem d_M_keep_75 : decode b_M_keep 75 = .ok (.iload_n 2, 1) := by decide +kernel
theorem d_M_keep_76 : decode b_M_keep 76 = .ok (.iadd, 1) := by decide +kernel
theorem d_M_keep_77 : decode b_M_keep 77 = .ok (.aload_n 0, 1) := by decide +kernel
theorem d_M_keep_78 : decode b_M_keep 78 = .ok (.getfield 25, 3) := by decide +kernel
theorem d_M_keep_81 : decode b_M_keep 81 = .ok (.iload_n 2, 1) := by decide +kernel
theorem d_M_keep_82 : decode b_M_keep 82 = .ok (.iaload, 1) := by decide +kernel
theorem d_M_keep_83 : decode b_M_keep 83 = .ok (.iastore, 1) := by decide +kernel
theorem d_M_keep_84 : decode b_M_keep 84 = .ok (.iinc 2 1, 3) := by decide +kernel
theorem d_M_keep_87 : decode b_M_keep 87 = .ok (.goto (-28), 3) := by decide +kernel
theorem d_M_keep_90 : decode b_M_keep 90 = .ok (.aload_n 0, 1) := by decide +kernel
theorem d_M_keep_91 : decode b_M_keep 91 = .ok (.getfield 34, 3) := by decide +kernel
theorem d_M_keep_94 : decode b_M_keep 94 = .ok (.iload_n 1, 1) := by decide +kernel
theorem d_M_keep_95 : decode b_M_keep 95 = .ok (.iconst 1, 1) := by decide +kernel
theorem d_M_keep_96 : decode b_M_keep 96 = .ok (.bastore, 1) := by decide +kernel
theorem d_M_keep_97 : decode b_M_keep 97 = .ok (.aload_n 0, 1) := by decide +kernel
theorem d_M_keep_98 : decode b_M_keep 98 = .ok (.getfield 22, 3) := by decide +kernel
theorem d_M_keep_101 : decode b_M_keep 101 = .ok (.iconst 1, 1) := by decide +kernel
theorem d_M_keep_102 : decode b_M_keep 102 = .ok (.iaload, 1) := by decide +kernel
theorem d_M_keep_103 : decode b_M_keep 103 = .ok (.ireturn, 1) := by decide +kernel
theorem d_M_on_0 : decode b_M_on 0 = .ok (.iload_n 1, 1) := by decide +kernel
theorem d_M_on_1 : decode b_M_on 1 = .ok (.i2l, 1) := by decide +kernel
theorem d_M_on_2 : decode b_M_on 2 = .ok (.lconst 0, 1) := by decide +kernel
theorem d_M_on_3 : decode b_M_on 3 = .ok (.ldc2_w 221, 3) := by decide +kernel
theorem d_M_on_6 : decode b_M_on 6 = .ok (.invokestatic 100, 3) := by decide +kernel
theorem d_M_on_9 : decode b_M_on 9 = .ok (.ifCond .ne 5, 3) := by decide +kernel
theorem d_M_on_12 : decode b_M_on 12 = .ok (.iconst (-1), 1) := by decide +kernel
theorem d_M_on_13 : decode b_M_on 13 = .ok (.ireturn, 1) := by decide +kernel
theorem d_M_on_14 : decode b_M_on 14 = .ok (.aload_n 0, 1) := by decide +kernel
theorem d_M_on_15 : decode b_M_on 15 = .ok (.getfield 34, 3) := by decide +kernel
theorem d_M_on_18 : decode b_M_on 18 = .ok (.iload_n 1, 1) := by decide +kernel
theorem d_M_on_19 : decode b_M_on 19 = .ok (.baload, 1) := by decide +kernel
theorem d_M_on_20 : decode b_M_on 20 = .ok (.ifCond .ne 9, 3) := by decide +kernel
theorem d_M_on_23 : decode b_M_on 23 = .ok (.aload_n 0, 1) := by decide +kernel
theorem d_M_on_24 : decode b_M_on 24 = .ok (.iconst 1, 1) := by decide +kernel
theorem d_M_on_25 : decode b_M_on 25 = .ok (.invokevirtual 110, 3) := by decide +kernel
theorem d_M_on_28 : decode b_M_on 28 = .ok (.ireturn, 1) := by decide +kernel
theorem d_M_on_29 : decode b_M_on 29 = .ok (.iconst 0, 1) := by decide +kernel
theorem d_M_on_30 : decode b_M_on 30 = .ok (.istore_n 2, 1) := by decide +kernel
theorem d_M_on_31 : decode b_M_on 31 = .ok (.iload_n 2, 1) := by decide +kernel
theorem d_M_on_32 : decode b_M_on 32 = .ok (.bipush 27, 2) := by decide +kernel
theorem d_M_on_34 : decode b_M_on 34 = .ok (.if_icmp .ge 26, 3) := by decide +kernel
theorem d_M_on_37 : decode b_M_on 37 = .ok (.aload_n 0, 1) := by decide +kernel
theorem d_M_on_38 : decode b_M_on 38 = .ok (.getfield 22, 3) := by decide +kernel
theorem d_M_on_41 : decode b_M_on 41 = .ok (.iload_n 2, 1) := by decide +kernel
theorem d_M_on_42 : decode b_M_on 42 = .ok (.aload_n 0, 1) := by decide +kernel
theorem d_M_on_43 : decode b_M_on 43 = .ok (.getfield 28, 3) := by decide +kernel
theorem d_M_on_46 : decode b_M_on 46 = .ok (.bipush 27, 2) := by decide +kernel
theorem d_M_on_48 : decode b_M_on 48 = .ok (.iload_n 1, 1) := by decide +kernel
theorem d_M_on_49 : decode b_M_on 49 = .ok (.imul, 1) := by decide +kernel
theorem d_M_on_50 : decode b_M_on 50 = .ok (.iload_n 2, 1) := by decide +kernel
theorem d_M_on_51 : decode b_M_on 51 = .ok (.iadd, 1) := by decide +kernel
theorem d_M_on_52 : decode b_M_on 52 = .ok (.iaload, 1) := by decide +kernel
theorem d_M_on_53 : decode b_M_on 53 = .ok (.iastore, 1) := by decide +kernel
theorem d_M_on_54 : decode b_M_on 54 = .ok (.iinc 2 1, 3) := by decide +kernel
theorem d_M_on_57 : decode b_M_on 57 = .ok (.goto (-26), 3) := by decide +kernel
theorem d_M_on_60 : decode b_M_on 60 = .ok (.iconst 0, 1) := by decide +kernel
theorem d_M_on_61 : decode b_M_on 61 = .ok (.istore_n 2, 1) := by decide +kernel
theorem d_M_on_62 : decode b_M_on 62 = .ok (.iload_n 2, 1) := by decide +kernel
theorem d_M_on_63 : decode b_M_on 63 = .ok (.sipush 1620, 3) := by decide +kernel
theorem d_M_on_66 : decode b_M_on 66 = .ok (.if_icmp .ge 27, 3) := by decide +kernel
theorem d_M_on_69 : decode b_M_on 69 = .ok (.aload_n 0, 1) := by decide +kernel
theorem d_M_on_70 : decode b_M_on 70 = .ok (.getfield 25, 3) := by decide +kernel
theorem d_M_on_73 : decode b_M_on 73 = .ok (.iload_n 2, 1) := by decide +kernel
theorem d_M_on_74 : decode b_M_on 74 = .ok (.aload_n 0, 1) := by decide +kernel
theorem d_M_on_75 : decode b_M_on 75 = .ok (.getfield 31, 3) := by decide +kernel
theorem d_M_on_78 : decode b_M_on 78 = .ok (.sipush 1620, 3) := by decide +kernel
theorem d_M_on_81 : decode b_M_on 81 = .ok (.iload_n 1, 1) := by decide +kernel
theorem d_M_on_82 : decode b_M_on 82 = .ok (.imul, 1) := by decide +kernel
theorem d_M_on_83 : decode b_M_on 83 = .ok (.iload_n 2, 1) := by decide +kernel
theorem d_M_on_84 : decode b_M_on 84 = .ok (.iadd, 1) := by decide +kernel
theorem d_M_on_85 : decode b_M_on 85 = .ok (.iaload, 1) := by decide +kernel
theorem d_M_on_86 : decode b_M_on 86 = .ok (.iastore, 1) := by decide +kernel
theorem d_M_on_87 : decode b_M_on 87 = .ok (.iinc 2 1, 3) := by decide +kernel
theorem d_M_on_90 : decode b_M_on 90 = .ok (.goto (-28), 3) := by decide +kernel
theorem d_M_on_93 : decode b_M_on 93 = .ok (.aload_n 0, 1) := by decide +kernel
theorem d_M_on_94 : decode b_M_on 94 = .ok (.getfield 22, 3) := by decide +kernel
theorem d_M_on_97 : decode b_M_on 97 = .ok (.iconst 1, 1) := by decide +kernel
theorem d_M_on_98 : decode b_M_on 98 = .ok (.iaload, 1) := by decide +kernel
theorem d_M_on_99 : decode b_M_on 99 = .ok (.ireturn, 1) := by decide +kernel
theorem d_M_areCodes_0 : decode b_M_areCodes 0 = .ok (.iload_n 0, 1) := by decide +kernel
theorem d_M_areCodes_1 : decode b_M_areCodes 1 = .ok (.invokestatic 213, 3) := by decide +kernel
theorem d_M_areCodes_4 : decode b_M_areCodes 4 = .ok (.ifCond .eq 14, 3) := by decide +kernel
theorem d_M_areCodes_7 : decode b_M_areCodes 7 = .ok (.iload_n 1, 1) := by decide +kernel
theorem d_M_areCodes_8 : decode b_M_areCodes 8 = .ok (.invokestatic 213, 3) := by decide +kernel
theorem d_M_areCodes_11 : decode b_M_areCodes 11 = .ok (.ifCond .eq 7, 3) := by decide +kernel
theorem d_M_areCodes_14 : decode b_M_areCodes 14 = .ok (.iconst 1, 1) := by decide +kernel
theorem d_M_areCodes_15 : decode b_M_areCodes 15 = .ok (.goto 4, 3) := by decide +kernel
theorem d_M_areCodes_18 : decode b_M_areCodes 18 = .ok (.iconst 0, 1) := by decide +kernel
theorem d_M_areCodes_19 : decode b_M_areCodes 19 = .ok (.ireturn, 1) := by decide +kernel
theorem d_M_plain_0 : decode b_M_plain 0 = .ok (.iload_n 1, 1) := by decide +kernel
theorem d_M_plain_1 : decode b_M_plain 1 = .ok (.invokestatic 213, 3) := by decide +kernel
theorem d_M_plain_4 : decode b_M_plain 4 = .ok (.ifCond .eq 11, 3) := by decide +kernel
theorem d_M_plain_7 : decode b_M_plain 7 = .ok (.aload_n 0, 1) := by decide +kernel
theorem d_M_plain_8 : decode b_M_plain 8 = .ok (.iload_n 1, 1) := by decide +kernel
theorem d_M_plain_9 : decode b_M_plain 9 = .ok (.invokevirtual 216, 3) := by decide +kernel
theorem d_M_plain_12 : decode b_M_plain 12 = .ok (.goto 4, 3) := by decide +kernel
theorem d_M_plain_15 : decode b_M_plain 15 = .ok (.iconst (-1), 1) := by decide +kernel
theorem d_M_plain_16 : decode b_M_plain 16 = .ok (.ireturn, 1) := by decide +kernel
theorem d_M_join_0 : decode b_M_join 0 = .ok (.iload_n 1, 1) := by decide +kernel
theorem d_M_join_1 : decode b_M_join 1 = .ok (.iload_n 2, 1) := by decide +kernel
theorem d_M_join_2 : decode b_M_join 2 = .ok (.invokestatic 223, 3) := by decide +kernel
theorem d_M_join_5 : decode b_M_join 5 = .ok (.ifCond .ne 5, 3) := by decide +kernel
theorem d_M_join_8 : decode b_M_join 8 = .ok (.iconst (-1), 1) := by decide +kernel
theorem d_M_join_9 : decode b_M_join 9 = .ok (.ireturn, 1) := by decide +kernel
theorem d_M_join_10 : decode b_M_join 10 = .ok (.aload_n 0, 1) := by decide +kernel
theorem d_M_join_11 : decode b_M_join 11 = .ok (.getfield 48, 3) := by decide +kernel
theorem d_M_join_14 : decode b_M_join 14 = .ok (.aload_n 0, 1) := by decide +kernel
theorem d_M_join_15 : decode b_M_join 15 = .ok (.getfield 48, 3) := by decide +kernel
theorem d_M_join_18 : decode b_M_join 18 = .ok (.iconst 0, 1) := by decide +kernel
theorem d_M_join_19 : decode b_M_join 19 = .ok (.iload_n 1, 1) := by decide +kernel
theorem d_M_join_20 : decode b_M_join 20 = .ok (.invokestatic 171, 3) := by decide +kernel
theorem d_M_join_23 : decode b_M_join 23 = .ok (.iload_n 2, 1) := by decide +kernel
theorem d_M_join_24 : decode b_M_join 24 = .ok (.invokestatic 171, 3) := by decide +kernel
theorem d_M_join_27 : decode b_M_join 27 = .ok (.istore_n 3, 1) := by decide +kernel
theorem d_M_join_28 : decode b_M_join 28 = .ok (.iload_n 3, 1) := by decide +kernel
theorem d_M_join_29 : decode b_M_join 29 = .ok (.bipush 9, 2) := by decide +kernel
theorem d_M_join_31 : decode b_M_join 31 = .ok (.if_icmp .le 8, 3) := by decide +kernel
theorem d_M_join_34 : decode b_M_join 34 = .ok (.bipush (-6), 2) := by decide +kernel
theorem d_M_join_36 : decode b_M_join 36 = .ok (.goto 12, 3) := by decide +kernel
theorem d_M_join_39 : decode b_M_join 39 = .ok (.aload_n 0, 1) := by decide +kernel
theorem d_M_join_40 : decode b_M_join 40 = .ok (.aload_n 0, 1) := by decide +kernel
theorem d_M_join_41 : decode b_M_join 41 = .ok (.getfield 48, 3) := by decide +kernel
theorem d_M_join_44 : decode b_M_join 44 = .ok (.iload_n 3, 1) := by decide +kernel
theorem d_M_join_45 : decode b_M_join 45 = .ok (.invokevirtual 138, 3) := by decide +kernel
theorem d_M_join_48 : decode b_M_join 48 = .ok (.ireturn, 1) := by decide +kernel
theorem d_M_back_0 : decode b_M_back 0 = .ok (.iload_n 1, 1) := by decide +kernel
theorem d_M_back_1 : decode b_M_back 1 = .ok (.invokestatic 213, 3) := by decide +kernel
theorem d_M_back_4 : decode b_M_back 4 = .ok (.ifCond .eq 23, 3) := by decide +kernel
theorem d_M_back_7 : decode b_M_back 7 = .ok (.aload_n 0, 1) := by decide +kernel
theorem d_M_back_8 : decode b_M_back 8 = .ok (.aload_n 0, 1) := by decide +kernel
theorem d_M_back_9 : decode b_M_back 9 = .ok (.getfield 48, 3) := by decide +kernel
theorem d_M_back_12 : decode b_M_back 12 = .ok (.aload_n 0, 1) := by decide +kernel
theorem d_M_back_13 : decode b_M_back 13 = .ok (.getfield 48, 3) := by decide +kernel
theorem d_M_back_16 : decode b_M_back 16 = .ok (.iconst 0, 1) := by decide +kernel
theorem d_M_back_17 : decode b_M_back 17 = .ok (.iload_n 1, 1) := by decide +kernel
theorem d_M_back_18 : decode b_M_back 18 = .ok (.invokestatic 168, 3) := by decide +kernel
theorem d_M_back_21 : decode b_M_back 21 = .ok (.invokevirtual 138, 3) := by decide +kernel
theorem d_M_back_24 : decode b_M_back 24 = .ok (.goto 4, 3) := by decide +kernel
theorem d_M_back_27 : decode b_M_back 27 = .ok (.iconst (-1), 1) := by decide +kernel
theorem d_M_back_28 : decode b_M_back 28 = .ok (.ireturn, 1) := by decide +kernel
theorem d_M_far_0 : decode b_M_far 0 = .ok (.iload_n 1, 1) := by decide +kernel
theorem d_M_far_1 : decode b_M_far 1 = .ok (.iload_n 2, 1) := by decide +kernel
theorem d_M_far_2 : decode b_M_far 2 = .ok (.invokestatic 223, 3) := by decide +kernel
theorem d_M_far_5 : decode b_M_far 5 = .ok (.ifCond .eq 12, 3) := by decide +kernel
theorem d_M_far_8 : decode b_M_far 8 = .ok (.aload_n 0, 1) := by decide +kernel
theorem d_M_far_9 : decode b_M_far 9 = .ok (.iload_n 1, 1) := by decide +kernel
theorem d_M_far_10 : decode b_M_far 10 = .ok (.iload_n 2, 1) := by decide +kernel
theorem d_M_far_11 : decode b_M_far 11 = .ok (.invokevirtual 204, 3) := by decide +kernel
theorem d_M_far_14 : decode b_M_far 14 = .ok (.goto 4, 3) := by decide +kernel
theorem d_M_far_17 : decode b_M_far 17 = .ok (.iconst (-1), 1) := by decide +kernel
theorem d_M_far_18 : decode b_M_far 18 = .ok (.ireturn, 1) := by decide +kernel
theorem d_M_ends_0 : decode b_M_ends 0 = .ok (.iload_n 1, 1) := by decide +kernel
theorem d_M_ends_1 : decode b_M_ends 1 = .ok (.invokestatic 213, 3) := by decide +kernel
theorem d_M_ends_4 : decode b_M_ends 4 = .ok (.ifCond .eq 11, 3) := by decide +kernel
theorem d_M_ends_7 : decode b_M_ends 7 = .ok (.aload_n 0, 1) := by decide +kernel
theorem d_M_ends_8 : decode b_M_ends 8 = .ok (.iload_n 1, 1) := by decide +kernel
theorem d_M_ends_9 : decode b_M_ends 9 = .ok (.invokevirtual 178, 3) := by decide +kernel
theorem d_M_ends_12 : decode b_M_ends 12 = .ok (.goto 4, 3) := by decide +kernel
theorem d_M_ends_15 : decode b_M_ends 15 = .ok (.iconst (-1), 1) := by decide +kernel
theorem d_M_ends_16 : decode b_M_ends 16 = .ok (.ireturn, 1) := by decide +kernel
theorem d_M_begins_0 : decode b_M_begins 0 = .ok (.iload_n 1, 1) := by decide +kernel
theorem d_M_begins_1 : decode b_M_begins 1 = .ok (.invokestatic 213, 3) := by decide +kernel
theorem d_M_begins_4 : decode b_M_begins 4 = .ok (.ifCond .ne 5, 3) := by decide +kernel
theorem d_M_begins_7 : decode b_M_begins 7 = .ok (.iconst (-1), 1) := by decide +kernel
theorem d_M_begins_8 : decode b_M_begins 8 = .ok (.ireturn, 1) := by decide +kernel
theorem d_M_begins_9 : decode b_M_begins 9 = .ok (.aload_n 0, 1) := by decide +kernel
theorem d_M_begins_10 : decode b_M_begins 10 = .ok (.getfield 48, 3) := by decide +kernel
theorem d_M_begins_13 : decode b_M_begins 13 = .ok (.iconst 0, 1) := by decide +kernel
theorem d_M_begins_14 : decode b_M_begins 14 = .ok (.iload_n 1, 1) := by decide +kernel
theorem d_M_begins_15 : decode b_M_begins 15 = .ok (.invokestatic 171, 3) := by decide +kernel
theorem d_M_begins_18 : decode b_M_begins 18 = .ok (.istore_n 2, 1) := by decide +kernel
theorem d_M_begins_19 : decode b_M_begins 19 = .ok (.iconst 0, 1) := by decide +kernel
theorem d_M_begins_20 : decode b_M_begins 20 = .ok (.istore_n 3, 1) := by decide +kernel
theorem d_M_begins_21 : decode b_M_begins 21 = .ok (.iconst 0, 1) := by decide +kernel
theorem d_M_begins_22 : decode b_M_begins 22 = .ok (.istore 4, 2) := by decide +kernel
theorem d_M_begins_24 : decode b_M_begins 24 = .ok (.iload 4, 2) := by decide +kernel
theorem d_M_begins_26 : decode b_M_begins 26 = .ok (.iload_n 2, 1) := by decide +kernel
theorem d_M_begins_27 : decode b_M_begins 27 = .ok (.if_icmp .ge 37, 3) := by decide +kernel
theorem d_M_begins_30 : decode b_M_begins 30 = .ok (.iload_n 3, 1) := by decide +kernel
theorem d_M_begins_31 : decode b_M_begins 31 = .ok (.aload_n 0, 1) := by decide +kernel
theorem d_M_begins_32 : decode b_M_begins 32 = .ok (.getfield 48, 3) := by decide +kernel
theorem d_M_begins_35 : decode b_M_begins 35 = .ok (.iload 4, 2) := by decide +kernel
theorem d_M_begins_37 : decode b_M_begins 37 = .ok (.invokestatic 152, 3) := by decide +kernel
theorem d_M_begins_40 : decode b_M_begins 40 = .ok (.ifCond .eq 15, 3) := by decide +kernel
theorem d_M_begins_43 : decode b_M_begins 43 = .ok (.iconst 1, 1) := by decide +kernel
theorem d_M_begins_44 : decode b_M_begins 44 = .ok (.aload_n 0, 1) := by decide +kernel
theorem d_M_begins_45 : decode b_M_begins 45 = .ok (.getfield 48, 3) := by decide +kernel
theorem d_M_begins_48 : decode b_M_begins 48 = .ok (.iload 4, 2) := by decide +kernel
theorem d_M_begins_50 : decode b_M_begins 50 = .ok (.iaload, 1) := by decide +kernel
theorem d_M_begins_51 : decode b_M_begins 51 = .ok (.ishl, 1) := by decide +kernel
theorem d_M_begins_52 : decode b_M_begins 52 = .ok (.goto 4, 3) := by decide +kernel
theorem d_M_begins_55 : decode b_M_begins 55 = .ok (.iconst 0, 1) := by decide +kernel
theorem d_M_begins_56 : decode b_M_begins 56 = .ok (.ior, 1) := by decide +kernel
theorem d_M_begins_57 : decode b_M_begins 57 = .ok (.istore_n 3, 1) := by decide +kernel
theorem d_M_begins_58 : decode b_M_begins 58 = .ok (.iinc 4 1, 3) := by decide +kernel
theorem d_M_begins_61 : decode b_M_begins 61 = .ok (.goto (-37), 3) := by decide +kernel
theorem d_M_begins_64 : decode b_M_begins 64 = .ok (.iload_n 3, 1) := by decide +kernel
theorem d_M_begins_65 : decode b_M_begins 65 = .ok (.ireturn, 1) := by decide +kernel
theorem d_M_laySets_0 : decode b_M_laySets 0 = .ok (.aload_n 0, 1) := by decide +kernel
theorem d_M_laySets_1 : decode b_M_laySets 1 = .ok (.getfield 66, 3) := by decide +kernel
theorem d_M_laySets_4 : decode b_M_laySets 4 = .ok (.iconst 0, 1) := by decide +kernel
theorem d_M_laySets_5 : decode b_M_laySets 5 = .ok (.iconst 0, 1) := by decide +kernel
theorem d_M_laySets_6 : decode b_M_laySets 6 = .ok (.iastore, 1) := by decide +kernel
theorem d_M_laySets_7 : decode b_M_laySets 7 = .ok (.aload_n 0, 1) := by decide +kernel
theorem d_M_laySets_8 : decode b_M_laySets 8 = .ok (.getfield 69, 3) := by decide +kernel
theorem d_M_laySets_11 : decode b_M_laySets 11 = .ok (.iconst 0, 1) := by decide +kernel
theorem d_M_laySets_12 : decode b_M_laySets 12 = .ok (.lconst 1, 1) := by decide +kernel
theorem d_M_laySets_13 : decode b_M_laySets 13 = .ok (.lastore, 1) := by decide +kernel
theorem d_M_laySets_14 : decode b_M_laySets 14 = .ok (.aload_n 0, 1) := by decide +kernel
theorem d_M_laySets_15 : decode b_M_laySets 15 = .ok (.iconst 1, 1) := by decide +kernel
theorem d_M_laySets_16 : decode b_M_laySets 16 = .ok (.putfield 226, 3) := by decide +kernel
theorem d_M_laySets_19 : decode b_M_laySets 19 = .ok (.iconst 0, 1) := by decide +kernel
theorem d_M_laySets_20 : decode b_M_laySets 20 = .ok (.istore_n 3, 1) := by decide +kernel
theorem d_M_laySets_21 : decode b_M_laySets 21 = .ok (.iload_n 3, 1) := by decide +kernel
theorem d_M_laySets_22 : decode b_M_laySets 22 = .ok (.aload_n 0, 1) := by decide +kernel
theorem d_M_laySets_23 : decode b_M_laySets 23 = .ok (.getfield 226, 3) := by decide +kernel
theorem d_M_laySets_26 : decode b_M_laySets 26 = .ok (.if_icmp .ge 128, 3) := by decide +kernel
theorem d_M_laySets_29 : decode b_M_laySets 29 = .ok (.iconst 0, 1) := by decide +kernel
theorem d_M_laySets_30 : decode b_M_laySets 30 = .ok (.istore 4, 2) := by decide +kernel
theorem d_M_laySets_32 : decode b_M_laySets 32 = .ok (.iload 4, 2) := by decide +kernel
theorem d_M_laySets_34 : decode b_M_laySets 34 = .ok (.iload_n 2, 1) := by decide +kernel
theorem d_M_laySets_35 : decode b_M_laySets 35 = .ok (.if_icmp .ge 113, 3) := by decide +kernel
theorem d_M_laySets_38 : decode b_M_laySets 38 = .ok (.aload_n 0, 1) := by decide +kernel
theorem d_M_laySets_39 : decode b_M_laySets 39 = .ok (.getfield 66, 3) := by decide +kernel
theorem d_M_laySets_42 : decode b_M_laySets 42 = .ok (.iload_n 3, 1) := by decide +kernel
theorem d_M_laySets_43 : decode b_M_laySets 43 = .ok (.iaload, 1) := by decide +kernel
theorem d_M_laySets_44 : decode b_M_laySets 44 = .ok (.iload 4, 2) := by decide +kernel
theorem d_M_laySets_46 : decode b_M_laySets 46 = .ok (.ishr, 1) := by decide +kernel
theorem d_M_laySets_47 : decode b_M_laySets 47 = .ok (.iconst 1, 1) := by decide +kernel
theorem d_M_laySets_48 : decode b_M_laySets 48 = .ok (.iand, 1) := by decide +kernel
theorem d_M_laySets_49 : decode b_M_laySets 49 = .ok (.ifCond .ne 7, 3) := by decide +kernel
theorem d_M_laySets_52 : decode b_M_laySets 52 = .ok (.iconst 1, 1) := by decide +kernel
theorem d_M_laySets_53 : decode b_M_laySets 53 = .ok (.goto 4, 3) := by decide +kernel
theorem d_M_laySets_56 : decode b_M_laySets 56 = .ok (.iconst 0, 1) := by decide +kernel
theorem d_M_laySets_57 : decode b_M_laySets 57 = .ok (.istore 5, 2) := by decide +kernel
theorem d_M_laySets_59 : decode b_M_laySets 59 = .ok (.iconst 0, 1) := by decide +kernel
theorem d_M_laySets_60 : decode b_M_laySets 60 = .ok (.istore 6, 2) := by decide +kernel
theorem d_M_laySets_62 : decode b_M_laySets 62 = .ok (.iload 6, 2) := by decide +kernel
theorem d_M_laySets_64 : decode b_M_laySets 64 = .ok (.iload 4, 2) := by decide +kernel
theorem d_M_laySets_66 : decode b_M_laySets 66 = .ok (.if_icmp .ge 50, 3) := by decide +kernel
theorem d_M_laySets_69 : decode b_M_laySets 69 = .ok (.iload 5, 2) := by decide +kernel
theorem d_M_laySets_71 : decode b_M_laySets 71 = .ok (.ifCond .eq 36, 3) := by decide +kernel
theorem d_M_laySets_74 : decode b_M_laySets 74 = .ok (.aload_n 0, 1) := by decide +kernel
theorem d_M_laySets_75 : decode b_M_laySets 75 = .ok (.getfield 66, 3) := by decide +kernel
theorem d_M_laySets_78 : decode b_M_laySets 78 = .ok (.iload_n 3, 1) := by decide +kernel
theorem d_M_laySets_79 : decode b_M_laySets 79 = .ok (.iaload, 1) := by decide +kernel
theorem d_M_laySets_80 : decode b_M_laySets 80 = .ok (.iload 6, 2) := by decide +kernel
theorem d_M_laySets_82 : decode b_M_laySets 82 = .ok (.ishr, 1) := by decide +kernel
theorem d_M_laySets_83 : decode b_M_laySets 83 = .ok (.iconst 1, 1) := by decide +kernel
theorem d_M_laySets_84 : decode b_M_laySets 84 = .ok (.iand, 1) := by decide +kernel
theorem d_M_laySets_85 : decode b_M_laySets 85 = .ok (.iconst 1, 1) := by decide +kernel
theorem d_M_laySets_86 : decode b_M_laySets 86 = .ok (.if_icmp .eq 17, 3) := by decide +kernel
theorem d_M_laySets_89 : decode b_M_laySets 89 = .ok (.aload_n 1, 1) := by decide +kernel
theorem d_M_laySets_90 : decode b_M_laySets 90 = .ok (.iload 6, 2) := by decide +kernel
theorem d_M_laySets_92 : decode b_M_laySets 92 = .ok (.iaload, 1) := by decide +kernel
theorem d_M_laySets_93 : decode b_M_laySets 93 = .ok (.aload_n 1, 1) := by decide +kernel
theorem d_M_laySets_94 : decode b_M_laySets 94 = .ok (.iload 4, 2) := by decide +kernel
theorem d_M_laySets_96 : decode b_M_laySets 96 = .ok (.iaload, 1) := by decide +kernel
theorem d_M_laySets_97 : decode b_M_laySets 97 = .ok (.invokestatic 148, 3) := by decide +kernel
theorem d_M_laySets_100 : decode b_M_laySets 100 = .ok (.ifCond .eq 7, 3) := by decide +kernel
theorem d_M_laySets_103 : decode b_M_laySets 103 = .ok (.iconst 1, 1) := by decide +kernel
theorem d_M_laySets_104 : decode b_M_laySets 104 = .ok (.goto 4, 3) := by decide +kernel
theorem d_M_laySets_107 : decode b_M_laySets 107 = .ok (.iconst 0, 1) := by decide +kernel
theorem d_M_laySets_108 : decode b_M_laySets 108 = .ok (.istore 5, 2) := by decide +kernel
theorem d_M_laySets_110 : decode b_M_laySets 110 = .ok (.iinc 6 1, 3) := by decide +kernel
theorem d_M_laySets_113 : decode b_M_laySets 113 = .ok (.goto (-51), 3) := by decide +kernel
theorem d_M_laySets_116 : decode b_M_laySets 116 = .ok (.iload 5, 2) := by decide +kernel
theorem d_M_laySets_118 : decode b_M_laySets 118 = .ok (.ifCond .eq 24, 3) := by decide +kernel
theorem d_M_laySets_121 : decode b_M_laySets 121 = .ok (.aload_n 0, 1) := by decide +kernel
theorem d_M_laySets_122 : decode b_M_laySets 122 = .ok (.aload_n 0, 1) := by decide +kernel
theorem d_M_laySets_123 : decode b_M_laySets 123 = .ok (.getfield 66, 3) := by decide +kernel
theorem d_M_laySets_126 : decode b_M_laySets 126 = .ok (.iload_n 3, 1) := by decide +kernel
theorem d_M_laySets_127 : decode b_M_laySets 127 = .ok (.iaload, 1) := by decide +kernel
theorem d_M_laySets_128 : decode b_M_laySets 128 = .ok (.iconst 1, 1) := by decide +kernel
theorem d_M_laySets_129 : decode b_M_laySets 129 = .ok (.iload 4, 2) := by decide +kernel
theorem d_M_laySets_131 : decode b_M_laySets 131 = .ok (.ishl, 1) := by decide +kernel
theorem d_M_laySets_132 : decode b_M_laySets 132 = .ok (.ior, 1) := by decide +kernel
theorem d_M_laySets_133 : decode b_M_laySets 133 = .ok (.aload_n 0, 1) := by decide +kernel
theorem d_M_laySets_134 : decode b_M_laySets 134 = .ok (.getfield 69, 3) := by decide +kernel
theorem d_M_laySets_137 : decode b_M_laySets 137 = .ok (.iload_n 3, 1) := by decide +kernel
theorem d_M_laySets_138 : decode b_M_laySets 138 = .ok (.laload, 1) := by decide +kernel
theorem d_M_laySets_139 : decode b_M_laySets 139 = .ok (.invokevirtual 229, 3) := by decide +kernel
theorem d_M_laySets_142 : decode b_M_laySets 142 = .ok (.iinc 4 1, 3) := by decide +kernel
theorem d_M_laySets_145 : decode b_M_laySets 145 = .ok (.goto (-113), 3) := by decide +kernel
theorem d_M_laySets_148 : decode b_M_laySets 148 = .ok (.iinc 3 1, 3) := by decide +kernel
theorem d_M_laySets_151 : decode b_M_laySets 151 = .ok (.goto (-130), 3) := by decide +kernel
theorem d_M_laySets_154 : decode b_M_laySets 154 = .ok (.return_, 1) := by decide +kernel
theorem d_M_adds_0 : decode b_M_adds 0 = .ok (.iconst 0, 1) := by decide +kernel
theorem d_M_adds_1 : decode b_M_adds 1 = .ok (.istore 4, 2) := by decide +kernel
theorem d_M_adds_3 : decode b_M_adds 3 = .ok (.iload 4, 2) := by decide +kernel
theorem d_M_adds_5 : decode b_M_adds 5 = .ok (.aload_n 0, 1) := by decide +kernel
theorem d_M_adds_6 : decode b_M_adds 6 = .ok (.getfield 226, 3) := by decide +kernel
theorem d_M_adds_9 : decode b_M_adds 9 = .ok (.if_icmp .ge 20, 3) := by decide +kernel
theorem d_M_adds_12 : decode b_M_adds 12 = .ok (.aload_n 0, 1) := by decide +kernel
theorem d_M_adds_13 : decode b_M_adds 13 = .ok (.getfield 66, 3) := by decide +kernel
theorem d_M_adds_16 : decode b_M_adds 16 = .ok (.iload 4, 2) := by decide +kernel
theorem d_M_adds_18 : decode b_M_adds 18 = .ok (.iaload, 1) := by decide +kernel
theorem d_M_adds_19 : decode b_M_adds 19 = .ok (.iload_n 1, 1) := by decide +kernel
theorem d_M_adds_20 : decode b_M_adds 20 = .ok (.if_icmp .eq 9, 3) := by decide +kernel
theorem d_M_adds_23 : decode b_M_adds 23 = .ok (.iinc 4 1, 3) := by decide +kernel
theorem d_M_adds_26 : decode b_M_adds 26 = .ok (.goto (-23), 3) := by decide +kernel
theorem d_M_adds_29 : decode b_M_adds 29 = .ok (.iload 4, 2) := by decide +kernel
theorem d_M_adds_31 : decode b_M_adds 31 = .ok (.aload_n 0, 1) := by decide +kernel
theorem d_M_adds_32 : decode b_M_adds 32 = .ok (.getfield 226, 3) := by decide +kernel
theorem d_M_adds_35 : decode b_M_adds 35 = .ok (.if_icmp .ne 29, 3) := by decide +kernel
theorem d_M_adds_38 : decode b_M_adds 38 = .ok (.aload_n 0, 1) := by decide +kernel
theorem d_M_adds_39 : decode b_M_adds 39 = .ok (.getfield 66, 3) := by decide +kernel
theorem d_M_adds_42 : decode b_M_adds 42 = .ok (.iload 4, 2) := by decide +kernel
theorem d_M_adds_44 : decode b_M_adds 44 = .ok (.iload_n 1, 1) := by decide +kernel
theorem d_M_adds_45 : decode b_M_adds 45 = .ok (.iastore, 1) := by decide +kernel
theorem d_M_adds_46 : decode b_M_adds 46 = .ok (.aload_n 0, 1) := by decide +kernel
theorem d_M_adds_47 : decode b_M_adds 47 = .ok (.getfield 69, 3) := by decide +kernel
theorem d_M_adds_50 : decode b_M_adds 50 = .ok (.iload 4, 2) := by decide +kernel
theorem d_M_adds_52 : decode b_M_adds 52 = .ok (.lconst 0, 1) := by decide +kernel
theorem d_M_adds_53 : decode b_M_adds 53 = .ok (.lastore, 1) := by decide +kernel
theorem d_M_adds_54 : decode b_M_adds 54 = .ok (.aload_n 0, 1) := by decide +kernel
theorem d_M_adds_55 : decode b_M_adds 55 = .ok (.dup, 1) := by decide +kernel
theorem d_M_adds_56 : decode b_M_adds 56 = .ok (.getfield 226, 3) := by decide +kernel
theorem d_M_adds_59 : decode b_M_adds 59 = .ok (.iconst 1, 1) := by decide +kernel
theorem d_M_adds_60 : decode b_M_adds 60 = .ok (.iadd, 1) := by decide +kernel
theorem d_M_adds_61 : decode b_M_adds 61 = .ok (.putfield 226, 3) := by decide +kernel
theorem d_M_adds_64 : decode b_M_adds 64 = .ok (.aload_n 0, 1) := by decide +kernel
theorem d_M_adds_65 : decode b_M_adds 65 = .ok (.getfield 69, 3) := by decide +kernel
theorem d_M_adds_68 : decode b_M_adds 68 = .ok (.iload 4, 2) := by decide +kernel
theorem d_M_adds_70 : decode b_M_adds 70 = .ok (.dup2, 1) := by decide +kernel
theorem d_M_adds_71 : decode b_M_adds 71 = .ok (.laload, 1) := by decide +kernel
theorem d_M_adds_72 : decode b_M_adds 72 = .ok (.lload_n 2, 1) := by decide +kernel
theorem d_M_adds_73 : decode b_M_adds 73 = .ok (.ladd, 1) := by decide +kernel
theorem d_M_adds_74 : decode b_M_adds 74 = .ok (.lastore, 1) := by decide +kernel
theorem d_M_adds_75 : decode b_M_adds 75 = .ok (.return_, 1) := by decide +kernel
theorem d_M_ways_0 : decode b_M_ways 0 = .ok (.iload_n 1, 1) := by decide +kernel
theorem d_M_ways_1 : decode b_M_ways 1 = .ok (.iload_n 2, 1) := by decide +kernel
theorem d_M_ways_2 : decode b_M_ways 2 = .ok (.invokestatic 223, 3) := by decide +kernel
theorem d_M_ways_5 : decode b_M_ways 5 = .ok (.ifCond .ne 5, 3) := by decide +kernel
theorem d_M_ways_8 : decode b_M_ways 8 = .ok (.iconst (-1), 1) := by decide +kernel
theorem d_M_ways_9 : decode b_M_ways 9 = .ok (.ireturn, 1) := by decide +kernel
theorem d_M_ways_10 : decode b_M_ways 10 = .ok (.aload_n 0, 1) := by decide +kernel
theorem d_M_ways_11 : decode b_M_ways 11 = .ok (.aload_n 0, 1) := by decide +kernel
theorem d_M_ways_12 : decode b_M_ways 12 = .ok (.getfield 48, 3) := by decide +kernel
theorem d_M_ways_15 : decode b_M_ways 15 = .ok (.aload_n 0, 1) := by decide +kernel
theorem d_M_ways_16 : decode b_M_ways 16 = .ok (.iload_n 1, 1) := by decide +kernel
theorem d_M_ways_17 : decode b_M_ways 17 = .ok (.iload_n 2, 1) := by decide +kernel
theorem d_M_ways_18 : decode b_M_ways 18 = .ok (.invokevirtual 204, 3) := by decide +kernel
theorem d_M_ways_21 : decode b_M_ways 21 = .ok (.invokevirtual 233, 3) := by decide +kernel
theorem d_M_ways_24 : decode b_M_ways 24 = .ok (.aload_n 0, 1) := by decide +kernel
theorem d_M_ways_25 : decode b_M_ways 25 = .ok (.aload_n 0, 1) := by decide +kernel
theorem d_M_ways_26 : decode b_M_ways 26 = .ok (.getfield 69, 3) := by decide +kernel
theorem d_M_ways_29 : decode b_M_ways 29 = .ok (.aload_n 0, 1) := by decide +kernel
theorem d_M_ways_30 : decode b_M_ways 30 = .ok (.getfield 226, 3) := by decide +kernel
theorem d_M_ways_33 : decode b_M_ways 33 = .ok (.iconst 1, 1) := by decide +kernel
theorem d_M_ways_34 : decode b_M_ways 34 = .ok (.isub, 1) := by decide +kernel
theorem d_M_ways_35 : decode b_M_ways 35 = .ok (.laload, 1) := by decide +kernel
theorem d_M_ways_36 : decode b_M_ways 36 = .ok (.lconst 1, 1) := by decide +kernel
theorem d_M_ways_37 : decode b_M_ways 37 = .ok (.invokevirtual 236, 3) := by decide +kernel
theorem d_M_ways_40 : decode b_M_ways 40 = .ok (.ireturn, 1) := by decide +kernel
theorem d_M_between_0 : decode b_M_between 0 = .ok (.iload_n 1, 1) := by decide +kernel
theorem d_M_between_1 : decode b_M_between 1 = .ok (.iload_n 2, 1) := by decide +kernel
theorem d_M_between_2 : decode b_M_between 2 = .ok (.invokestatic 223, 3) := by decide +kernel
theorem d_M_between_5 : decode b_M_between 5 = .ok (.ifCond .ne 5, 3) := by decide +kernel
theorem d_M_between_8 : decode b_M_between 8 = .ok (.iconst (-1), 1) := by decide +kernel
theorem d_M_between_9 : decode b_M_between 9 = .ok (.ireturn, 1) := by decide +kernel
theorem d_M_between_10 : decode b_M_between 10 = .ok (.aload_n 0, 1) := by decide +kernel
theorem d_M_between_11 : decode b_M_between 11 = .ok (.aload_n 0, 1) := by decide +kernel
theorem d_M_between_12 : decode b_M_between 12 = .ok (.getfield 48, 3) := by decide +kernel
theorem d_M_between_15 : decode b_M_between 15 = .ok (.aload_n 0, 1) := by decide +kernel
theorem d_M_between_16 : decode b_M_between 16 = .ok (.iload_n 1, 1) := by decide +kernel
theorem d_M_between_17 : decode b_M_between 17 = .ok (.iload_n 2, 1) := by decide +kernel
theorem d_M_between_18 : decode b_M_between 18 = .ok (.invokevirtual 204, 3) := by decide +kernel
theorem d_M_between_21 : decode b_M_between 21 = .ok (.invokevirtual 233, 3) := by decide +kernel
theorem d_M_between_24 : decode b_M_between 24 = .ok (.aload_n 0, 1) := by decide +kernel
theorem d_M_between_25 : decode b_M_between 25 = .ok (.getfield 226, 3) := by decide +kernel
theorem d_M_between_28 : decode b_M_between 28 = .ok (.ireturn, 1) := by decide +kernel
theorem d_M_lies_0 : decode b_M_lies 0 = .ok (.iload_n 1, 1) := by decide +kernel
theorem d_M_lies_1 : decode b_M_lies 1 = .ok (.iload_n 2, 1) := by decide +kernel
theorem d_M_lies_2 : decode b_M_lies 2 = .ok (.invokestatic 223, 3) := by decide +kernel
theorem d_M_lies_5 : decode b_M_lies 5 = .ok (.ifCond .eq 10, 3) := by decide +kernel
theorem d_M_lies_8 : decode b_M_lies 8 = .ok (.iload_n 3, 1) := by decide +kernel
theorem d_M_lies_9 : decode b_M_lies 9 = .ok (.invokestatic 213, 3) := by decide +kernel
theorem d_M_lies_12 : decode b_M_lies 12 = .ok (.ifCond .ne 5, 3) := by decide +kernel
theorem d_M_lies_15 : decode b_M_lies 15 = .ok (.iconst (-1), 1) := by decide +kernel
theorem d_M_lies_16 : decode b_M_lies 16 = .ok (.ireturn, 1) := by decide +kernel
theorem d_M_lies_17 : decode b_M_lies 17 = .ok (.aload_n 0, 1) := by decide +kernel
theorem d_M_lies_18 : decode b_M_lies 18 = .ok (.iload_n 1, 1) := by decide +kernel
theorem d_M_lies_19 : decode b_M_lies 19 = .ok (.iload_n 3, 1) := by decide +kernel
theorem d_M_lies_20 : decode b_M_lies 20 = .ok (.invokevirtual 204, 3) := by decide +kernel
theorem d_M_lies_23 : decode b_M_lies 23 = .ok (.aload_n 0, 1) := by decide +kernel
theorem d_M_lies_24 : decode b_M_lies 24 = .ok (.iload_n 3, 1) := by decide +kernel
theorem d_M_lies_25 : decode b_M_lies 25 = .ok (.iload_n 2, 1) := by decide +kernel
theorem d_M_lies_26 : decode b_M_lies 26 = .ok (.invokevirtual 204, 3) := by decide +kernel
theorem d_M_lies_29 : decode b_M_lies 29 = .ok (.iadd, 1) := by decide +kernel
theorem d_M_lies_30 : decode b_M_lies 30 = .ok (.aload_n 0, 1) := by decide +kernel
theorem d_M_lies_31 : decode b_M_lies 31 = .ok (.iload_n 1, 1) := by decide +kernel
theorem d_M_lies_32 : decode b_M_lies 32 = .ok (.iload_n 2, 1) := by decide +kernel
theorem d_M_lies_33 : decode b_M_lies 33 = .ok (.invokevirtual 204, 3) := by decide +kernel
theorem d_M_lies_36 : decode b_M_lies 36 = .ok (.if_icmp .ne 7, 3) := by decide +kernel
theorem d_M_lies_39 : decode b_M_lies 39 = .ok (.iconst 1, 1) := by decide +kernel
theorem d_M_lies_40 : decode b_M_lies 40 = .ok (.goto 4, 3) := by decide +kernel
theorem d_M_lies_43 : decode b_M_lies 43 = .ok (.iconst 0, 1) := by decide +kernel
theorem d_M_lies_44 : decode b_M_lies 44 = .ok (.ireturn, 1) := by decide +kernel
theorem d_M_path_0 : decode b_M_path 0 = .ok (.iload_n 1, 1) := by decide +kernel
theorem d_M_path_1 : decode b_M_path 1 = .ok (.iload_n 2, 1) := by decide +kernel
theorem d_M_path_2 : decode b_M_path 2 = .ok (.invokestatic 223, 3) := by decide +kernel
theorem d_M_path_5 : decode b_M_path 5 = .ok (.ifCond .eq 10, 3) := by decide +kernel
theorem d_M_path_8 : decode b_M_path 8 = .ok (.iload_n 3, 1) := by decide +kernel
theorem d_M_path_9 : decode b_M_path 9 = .ok (.invokestatic 106, 3) := by decide +kernel
theorem d_M_path_12 : decode b_M_path 12 = .ok (.ifCond .ne 5, 3) := by decide +kernel
theorem d_M_path_15 : decode b_M_path 15 = .ok (.iconst (-1), 1) := by decide +kernel
theorem d_M_path_16 : decode b_M_path 16 = .ok (.ireturn, 1) := by decide +kernel
theorem d_M_path_17 : decode b_M_path 17 = .ok (.aload_n 0, 1) := by decide +kernel
theorem d_M_path_18 : decode b_M_path 18 = .ok (.iload_n 1, 1) := by decide +kernel
theorem d_M_path_19 : decode b_M_path 19 = .ok (.iload_n 2, 1) := by decide +kernel
theorem d_M_path_20 : decode b_M_path 20 = .ok (.invokevirtual 204, 3) := by decide +kernel
theorem d_M_path_23 : decode b_M_path 23 = .ok (.istore 4, 2) := by decide +kernel
theorem d_M_path_25 : decode b_M_path 25 = .ok (.aload_n 0, 1) := by decide +kernel
theorem d_M_path_26 : decode b_M_path 26 = .ok (.aload_n 0, 1) := by decide +kernel
theorem d_M_path_27 : decode b_M_path 27 = .ok (.getfield 48, 3) := by decide +kernel
theorem d_M_path_30 : decode b_M_path 30 = .ok (.iload 4, 2) := by decide +kernel
theorem d_M_path_32 : decode b_M_path 32 = .ok (.aload_n 0, 1) := by decide +kernel
theorem d_M_path_33 : decode b_M_path 33 = .ok (.getfield 60, 3) := by decide +kernel
theorem d_M_path_36 : decode b_M_path 36 = .ok (.invokevirtual 156, 3) := by decide +kernel
theorem d_M_path_39 : decode b_M_path 39 = .ok (.aload_n 0, 1) := by decide +kernel
theorem d_M_path_40 : decode b_M_path 40 = .ok (.iload_n 3, 1) := by decide +kernel
theorem d_M_path_41 : decode b_M_path 41 = .ok (.iload 4, 2) := by decide +kernel
theorem d_M_path_43 : decode b_M_path 43 = .ok (.invokevirtual 240, 3) := by decide +kernel
theorem d_M_path_46 : decode b_M_path 46 = .ok (.istore 5, 2) := by decide +kernel
theorem d_M_path_48 : decode b_M_path 48 = .ok (.iconst 0, 1) := by decide +kernel
theorem d_M_path_49 : decode b_M_path 49 = .ok (.istore 6, 2) := by decide +kernel
theorem d_M_path_51 : decode b_M_path 51 = .ok (.iload 6, 2) := by decide +kernel
theorem d_M_path_53 : decode b_M_path 53 = .ok (.iload 4, 2) := by decide +kernel
theorem d_M_path_55 : decode b_M_path 55 = .ok (.if_icmp .ge 28, 3) := by decide +kernel
theorem d_M_path_58 : decode b_M_path 58 = .ok (.aload_n 0, 1) := by decide +kernel
theorem d_M_path_59 : decode b_M_path 59 = .ok (.getfield 13, 3) := by decide +kernel
theorem d_M_path_62 : decode b_M_path 62 = .ok (.bipush 40, 2) := by decide +kernel
theorem d_M_path_64 : decode b_M_path 64 = .ok (.iload_n 3, 1) := by decide +kernel
theorem d_M_path_65 : decode b_M_path 65 = .ok (.imul, 1) := by decide +kernel
theorem d_M_path_66 : decode b_M_path 66 = .ok (.iload 6, 2) := by decide +kernel
theorem d_M_path_68 : decode b_M_path 68 = .ok (.iadd, 1) := by decide +kernel
theorem d_M_path_69 : decode b_M_path 69 = .ok (.aload_n 0, 1) := by decide +kernel
theorem d_M_path_70 : decode b_M_path 70 = .ok (.getfield 60, 3) := by decide +kernel
theorem d_M_path_73 : decode b_M_path 73 = .ok (.iload 6, 2) := by decide +kernel
theorem d_M_path_75 : decode b_M_path 75 = .ok (.iaload, 1) := by decide +kernel
theorem d_M_path_76 : decode b_M_path 76 = .ok (.iastore, 1) := by decide +kernel
theorem d_M_path_77 : decode b_M_path 77 = .ok (.iinc 6 1, 3) := by decide +kernel
theorem d_M_path_80 : decode b_M_path 80 = .ok (.goto (-29), 3) := by decide +kernel
theorem d_M_path_83 : decode b_M_path 83 = .ok (.iload 5, 2) := by decide +kernel
theorem d_M_path_85 : decode b_M_path 85 = .ok (.ireturn, 1) := by decide +kernel
theorem d_M_nearest_0 : decode b_M_nearest 0 = .ok (.bipush 99, 2) := by decide +kernel
theorem d_M_nearest_2 : decode b_M_nearest 2 = .ok (.istore 5, 2) := by decide +kernel
theorem d_M_nearest_4 : decode b_M_nearest 4 = .ok (.aload_n 0, 1) := by decide +kernel
theorem d_M_nearest_5 : decode b_M_nearest 5 = .ok (.iload_n 3, 1) := by decide +kernel
theorem d_M_nearest_6 : decode b_M_nearest 6 = .ok (.iload 4, 2) := by decide +kernel
theorem d_M_nearest_8 : decode b_M_nearest 8 = .ok (.invokevirtual 204, 3) := by decide +kernel
theorem d_M_nearest_11 : decode b_M_nearest 11 = .ok (.istore 6, 2) := by decide +kernel
theorem d_M_nearest_13 : decode b_M_nearest 13 = .ok (.aload_n 0, 1) := by decide +kernel
theorem d_M_nearest_14 : decode b_M_nearest 14 = .ok (.aload_n 0, 1) := by decide +kernel
theorem d_M_nearest_15 : decode b_M_nearest 15 = .ok (.getfield 48, 3) := by decide +kernel
theorem d_M_nearest_18 : decode b_M_nearest 18 = .ok (.iload 6, 2) := by decide +kernel
theorem d_M_nearest_20 : decode b_M_nearest 20 = .ok (.aload_n 0, 1) := by decide +kernel
theorem d_M_nearest_21 : decode b_M_nearest 21 = .ok (.getfield 73, 3) := by decide +kernel
theorem d_M_nearest_24 : decode b_M_nearest 24 = .ok (.invokevirtual 156, 3) := by decide +kernel
theorem d_M_nearest_27 : decode b_M_nearest 27 = .ok (.iconst 0, 1) := by decide +kernel
theorem d_M_nearest_28 : decode b_M_nearest 28 = .ok (.istore 7, 2) := by decide +kernel
theorem d_M_nearest_30 : decode b_M_nearest 30 = .ok (.iload 7, 2) := by decide +kernel
theorem d_M_nearest_32 : decode b_M_nearest 32 = .ok (.iload 6, 2) := by decide +kernel
theorem d_M_nearest_34 : decode b_M_nearest 34 = .ok (.if_icmp .gt 116, 3) := by decide +kernel
theorem d_M_nearest_37 : decode b_M_nearest 37 = .ok (.iconst 0, 1) := by decide +kernel
theorem d_M_nearest_38 : decode b_M_nearest 38 = .ok (.istore 8, 2) := by decide +kernel
theorem d_M_nearest_40 : decode b_M_nearest 40 = .ok (.iload_n 1, 1) := by decide +kernel
theorem d_M_nearest_41 : decode b_M_nearest 41 = .ok (.iconst 1, 1) := by decide +kernel
theorem d_M_nearest_42 : decode b_M_nearest 42 = .ok (.isub, 1) := by decide +kernel
theorem d_M_nearest_43 : decode b_M_nearest 43 = .ok (.istore 9, 2) := by decide +kernel
theorem d_M_nearest_45 : decode b_M_nearest 45 = .ok (.iload 9, 2) := by decide +kernel
theorem d_M_nearest_47 : decode b_M_nearest 47 = .ok (.ifCond .lt 27, 3) := by decide +kernel
theorem d_M_nearest_50 : decode b_M_nearest 50 = .ok (.aload_n 0, 1) := by decide +kernel
theorem d_M_nearest_51 : decode b_M_nearest 51 = .ok (.getfield 54, 3) := by decide +kernel
theorem d_M_nearest_54 : decode b_M_nearest 54 = .ok (.iload 8, 2) := by decide +kernel
theorem d_M_nearest_56 : decode b_M_nearest 56 = .ok (.aload_n 0, 1) := by decide +kernel
theorem d_M_nearest_57 : decode b_M_nearest 57 = .ok (.getfield 51, 3) := by decide +kernel
theorem d_M_nearest_60 : decode b_M_nearest 60 = .ok (.iload 9, 2) := by decide +kernel
theorem d_M_nearest_62 : decode b_M_nearest 62 = .ok (.iaload, 1) := by decide +kernel
theorem d_M_nearest_63 : decode b_M_nearest 63 = .ok (.invokestatic 134, 3) := by decide +kernel
theorem d_M_nearest_66 : decode b_M_nearest 66 = .ok (.istore 8, 2) := by decide +kernel
theorem d_M_nearest_68 : decode b_M_nearest 68 = .ok (.iinc 9 (-1), 3) := by decide +kernel
theorem d_M_nearest_71 : decode b_M_nearest 71 = .ok (.goto (-26), 3) := by decide +kernel
theorem d_M_nearest_74 : decode b_M_nearest 74 = .ok (.aload_n 0, 1) := by decide +kernel
theorem d_M_nearest_75 : decode b_M_nearest 75 = .ok (.getfield 54, 3) := by decide +kernel
theorem d_M_nearest_78 : decode b_M_nearest 78 = .ok (.aload_n 0, 1) := by decide +kernel
theorem d_M_nearest_79 : decode b_M_nearest 79 = .ok (.getfield 54, 3) := by decide +kernel
theorem d_M_nearest_82 : decode b_M_nearest 82 = .ok (.iload 8, 2) := by decide +kernel
theorem d_M_nearest_84 : decode b_M_nearest 84 = .ok (.iload_n 2, 1) := by decide +kernel
theorem d_M_nearest_85 : decode b_M_nearest 85 = .ok (.invokestatic 168, 3) := by decide +kernel
theorem d_M_nearest_88 : decode b_M_nearest 88 = .ok (.iload_n 3, 1) := by decide +kernel
theorem d_M_nearest_89 : decode b_M_nearest 89 = .ok (.invokestatic 171, 3) := by decide +kernel
theorem d_M_nearest_92 : decode b_M_nearest 92 = .ok (.istore 8, 2) := by decide +kernel
theorem d_M_nearest_94 : decode b_M_nearest 94 = .ok (.iconst 0, 1) := by decide +kernel
theorem d_M_nearest_95 : decode b_M_nearest 95 = .ok (.istore 9, 2) := by decide +kernel
theorem d_M_nearest_97 : decode b_M_nearest 97 = .ok (.iload 9, 2) := by decide +kernel
theorem d_M_nearest_99 : decode b_M_nearest 99 = .ok (.iload 7, 2) := by decide +kernel
theorem d_M_nearest_101 : decode b_M_nearest 101 = .ok (.if_icmp .ge 27, 3) := by decide +kernel
theorem d_M_nearest_104 : decode b_M_nearest 104 = .ok (.aload_n 0, 1) := by decide +kernel
theorem d_M_nearest_105 : decode b_M_nearest 105 = .ok (.getfield 54, 3) := by decide +kernel
theorem d_M_nearest_108 : decode b_M_nearest 108 = .ok (.iload 8, 2) := by decide +kernel
theorem d_M_nearest_110 : decode b_M_nearest 110 = .ok (.aload_n 0, 1) := by decide +kernel
theorem d_M_nearest_111 : decode b_M_nearest 111 = .ok (.getfield 73, 3) := by decide +kernel
theorem d_M_nearest_114 : decode b_M_nearest 114 = .ok (.iload 9, 2) := by decide +kernel
theorem d_M_nearest_116 : decode b_M_nearest 116 = .ok (.iaload, 1) := by decide +kernel
theorem d_M_nearest_117 : decode b_M_nearest 117 = .ok (.invokestatic 134, 3) := by decide +kernel
theorem d_M_nearest_120 : decode b_M_nearest 120 = .ok (.istore 8, 2) := by decide +kernel
theorem d_M_nearest_122 : decode b_M_nearest 122 = .ok (.iinc 9 1, 3) := by decide +kernel
theorem d_M_nearest_125 : decode b_M_nearest 125 = .ok (.goto (-28), 3) := by decide +kernel
theorem d_M_nearest_128 : decode b_M_nearest 128 = .ok (.iload 8, 2) := by decide +kernel
theorem d_M_nearest_130 : decode b_M_nearest 130 = .ok (.iload 5, 2) := by decide +kernel
theorem d_M_nearest_132 : decode b_M_nearest 132 = .ok (.if_icmp .ge 8, 3) := by decide +kernel
theorem d_M_nearest_135 : decode b_M_nearest 135 = .ok (.iload 8, 2) := by decide +kernel
theorem d_M_nearest_137 : decode b_M_nearest 137 = .ok (.goto 5, 3) := by decide +kernel
theorem d_M_nearest_140 : decode b_M_nearest 140 = .ok (.iload 5, 2) := by decide +kernel
theorem d_M_nearest_142 : decode b_M_nearest 142 = .ok (.istore 5, 2) := by decide +kernel
theorem d_M_nearest_144 : decode b_M_nearest 144 = .ok (.iinc 7 1, 3) := by decide +kernel
theorem d_M_nearest_147 : decode b_M_nearest 147 = .ok (.goto (-117), 3) := by decide +kernel
theorem d_M_nearest_150 : decode b_M_nearest 150 = .ok (.iload 5, 2) := by decide +kernel
theorem d_M_nearest_152 : decode b_M_nearest 152 = .ok (.ireturn, 1) := by decide +kernel
theorem d_M_thin_0 : decode b_M_thin 0 = .ok (.iload_n 1, 1) := by decide +kernel
theorem d_M_thin_1 : decode b_M_thin 1 = .ok (.iload_n 2, 1) := by decide +kernel
theorem d_M_thin_2 : decode b_M_thin 2 = .ok (.invokestatic 223, 3) := by decide +kernel
theorem d_M_thin_5 : decode b_M_thin 5 = .ok (.ifCond .eq 10, 3) := by decide +kernel
theorem d_M_thin_8 : decode b_M_thin 8 = .ok (.iload_n 3, 1) := by decide +kernel
theorem d_M_thin_9 : decode b_M_thin 9 = .ok (.invokestatic 213, 3) := by decide +kernel
theorem d_M_thin_12 : decode b_M_thin 12 = .ok (.ifCond .ne 5, 3) := by decide +kernel
theorem d_M_thin_15 : decode b_M_thin 15 = .ok (.iconst (-1), 1) := by decide +kernel
theorem d_M_thin_16 : decode b_M_thin 16 = .ok (.ireturn, 1) := by decide +kernel
theorem d_M_thin_17 : decode b_M_thin 17 = .ok (.aload_n 0, 1) := by decide +kernel
theorem d_M_thin_18 : decode b_M_thin 18 = .ok (.iload_n 1, 1) := by decide +kernel
theorem d_M_thin_19 : decode b_M_thin 19 = .ok (.iload_n 2, 1) := by decide +kernel
theorem d_M_thin_20 : decode b_M_thin 20 = .ok (.invokevirtual 204, 3) := by decide +kernel
theorem d_M_thin_23 : decode b_M_thin 23 = .ok (.istore 4, 2) := by decide +kernel
theorem d_M_thin_25 : decode b_M_thin 25 = .ok (.aload_n 0, 1) := by decide +kernel
theorem d_M_thin_26 : decode b_M_thin 26 = .ok (.aload_n 0, 1) := by decide +kernel
theorem d_M_thin_27 : decode b_M_thin 27 = .ok (.getfield 48, 3) := by decide +kernel
theorem d_M_thin_30 : decode b_M_thin 30 = .ok (.iload 4, 2) := by decide +kernel
theorem d_M_thin_32 : decode b_M_thin 32 = .ok (.aload_n 0, 1) := by decide +kernel
theorem d_M_thin_33 : decode b_M_thin 33 = .ok (.getfield 51, 3) := by decide +kernel
theorem d_M_thin_36 : decode b_M_thin 36 = .ok (.invokevirtual 156, 3) := by decide +kernel
theorem d_M_thin_39 : decode b_M_thin 39 = .ok (.iconst 0, 1) := by decide +kernel
theorem d_M_thin_40 : decode b_M_thin 40 = .ok (.istore 5, 2) := by decide +kernel
theorem d_M_thin_42 : decode b_M_thin 42 = .ok (.iconst 0, 1) := by decide +kernel
theorem d_M_thin_43 : decode b_M_thin 43 = .ok (.istore 6, 2) := by decide +kernel
theorem d_M_thin_45 : decode b_M_thin 45 = .ok (.iload 6, 2) := by decide +kernel
theorem d_M_thin_47 : decode b_M_thin 47 = .ok (.iload 4, 2) := by decide +kernel
theorem d_M_thin_49 : decode b_M_thin 49 = .ok (.if_icmp .gt 63, 3) := by decide +kernel
theorem d_M_thin_52 : decode b_M_thin 52 = .ok (.aload_n 0, 1) := by decide +kernel
theorem d_M_thin_53 : decode b_M_thin 53 = .ok (.iload 6, 2) := by decide +kernel
theorem d_M_thin_55 : decode b_M_thin 55 = .ok (.iload_n 1, 1) := by decide +kernel
theorem d_M_thin_56 : decode b_M_thin 56 = .ok (.iload_n 1, 1) := by decide +kernel
theorem d_M_thin_57 : decode b_M_thin 57 = .ok (.iload_n 3, 1) := by decide +kernel
theorem d_M_thin_58 : decode b_M_thin 58 = .ok (.invokevirtual 243, 3) := by decide +kernel
theorem d_M_thin_61 : decode b_M_thin 61 = .ok (.istore 7, 2) := by decide +kernel
theorem d_M_thin_63 : decode b_M_thin 63 = .ok (.aload_n 0, 1) := by decide +kernel
theorem d_M_thin_64 : decode b_M_thin 64 = .ok (.iload 6, 2) := by decide +kernel
theorem d_M_thin_66 : decode b_M_thin 66 = .ok (.iload_n 1, 1) := by decide +kernel
theorem d_M_thin_67 : decode b_M_thin 67 = .ok (.iload_n 2, 1) := by decide +kernel
theorem d_M_thin_68 : decode b_M_thin 68 = .ok (.iload_n 3, 1) := by decide +kernel
theorem d_M_thin_69 : decode b_M_thin 69 = .ok (.invokevirtual 243, 3) := by decide +kernel
theorem d_M_thin_72 : decode b_M_thin 72 = .ok (.istore 8, 2) := by decide +kernel
theorem d_M_thin_74 : decode b_M_thin 74 = .ok (.iload 7, 2) := by decide +kernel
theorem d_M_thin_76 : decode b_M_thin 76 = .ok (.iload 8, 2) := by decide +kernel
theorem d_M_thin_78 : decode b_M_thin 78 = .ok (.if_icmp .ge 8, 3) := by decide +kernel
theorem d_M_thin_81 : decode b_M_thin 81 = .ok (.iload 7, 2) := by decide +kernel
theorem d_M_thin_83 : decode b_M_thin 83 = .ok (.goto 5, 3) := by decide +kernel
theorem d_M_thin_86 : decode b_M_thin 86 = .ok (.iload 8, 2) := by decide +kernel
theorem d_M_thin_88 : decode b_M_thin 88 = .ok (.istore 9, 2) := by decide +kernel
theorem d_M_thin_90 : decode b_M_thin 90 = .ok (.iload 9, 2) := by decide +kernel
theorem d_M_thin_92 : decode b_M_thin 92 = .ok (.iload 5, 2) := by decide +kernel
theorem d_M_thin_94 : decode b_M_thin 94 = .ok (.if_icmp .le 8, 3) := by decide +kernel
theorem d_M_thin_97 : decode b_M_thin 97 = .ok (.iload 9, 2) := by decide +kernel
theorem d_M_thin_99 : decode b_M_thin 99 = .ok (.goto 5, 3) := by decide +kernel
theorem d_M_thin_102 : decode b_M_thin 102 = .ok (.iload 5, 2) := by decide +kernel
theorem d_M_thin_104 : decode b_M_thin 104 = .ok (.istore 5, 2) := by decide +kernel
theorem d_M_thin_106 : decode b_M_thin 106 = .ok (.iinc 6 1, 3) := by decide +kernel
theorem d_M_thin_109 : decode b_M_thin 109 = .ok (.goto (-64), 3) := by decide +kernel
theorem d_M_thin_112 : decode b_M_thin 112 = .ok (.iload 5, 2) := by decide +kernel
theorem d_M_thin_114 : decode b_M_thin 114 = .ok (.ireturn, 1) := by decide +kernel
theorem d_M_without_0 : decode b_M_without 0 = .ok (.lconst 0, 1) := by decide +kernel
theorem d_M_without_1 : decode b_M_without 1 = .ok (.lstore_n 2, 1) := by decide +kernel
theorem d_M_without_2 : decode b_M_without 2 = .ok (.lconst 0, 1) := by decide +kernel
theorem d_M_without_3 : decode b_M_without 3 = .ok (.lstore 4, 2) := by decide +kernel
theorem d_M_without_5 : decode b_M_without 5 = .ok (.lconst 0, 1) := by decide +kernel
theorem d_M_without_6 : decode b_M_without 6 = .ok (.lstore 6, 2) := by decide +kernel
theorem d_M_without_8 : decode b_M_without 8 = .ok (.lconst 0, 1) := by decide +kernel
theorem d_M_without_9 : decode b_M_without 9 = .ok (.lstore 8, 2) := by decide +kernel
theorem d_M_without_11 : decode b_M_without 11 = .ok (.iconst 0, 1) := by decide +kernel
theorem d_M_without_12 : decode b_M_without 12 = .ok (.istore 10, 2) := by decide +kernel
theorem d_M_without_14 : decode b_M_without 14 = .ok (.iload 10, 2) := by decide +kernel
theorem d_M_without_16 : decode b_M_without 16 = .ok (.iload_n 1, 1) := by decide +kernel
theorem d_M_without_17 : decode b_M_without 17 = .ok (.if_icmp .gt 103, 3) := by decide +kernel
theorem d_M_without_20 : decode b_M_without 20 = .ok (.iload 10, 2) := by decide +kernel
theorem d_M_without_22 : decode b_M_without 22 = .ok (.ifCond .ne 7, 3) := by decide +kernel
theorem d_M_without_25 : decode b_M_without 25 = .ok (.lconst 1, 1) := by decide +kernel
theorem d_M_without_26 : decode b_M_without 26 = .ok (.goto 36, 3) := by decide +kernel
theorem d_M_without_29 : decode b_M_without 29 = .ok (.iload 10, 2) := by decide +kernel
theorem d_M_without_31 : decode b_M_without 31 = .ok (.iconst 1, 1) := by decide +kernel
theorem d_M_without_32 : decode b_M_without 32 = .ok (.if_icmp .ne 9, 3) := by decide +kernel
theorem d_M_without_35 : decode b_M_without 35 = .ok (.ldc2_w 98, 3) := by decide +kernel
theorem d_M_without_38 : decode b_M_without 38 = .ok (.goto 24, 3) := by decide +kernel
theorem d_M_without_41 : decode b_M_without 41 = .ok (.iload 10, 2) := by decide +kernel
theorem d_M_without_43 : decode b_M_without 43 = .ok (.iconst 2, 1) := by decide +kernel
theorem d_M_without_44 : decode b_M_without 44 = .ok (.if_icmp .ne 9, 3) := by decide +kernel
theorem d_M_without_47 : decode b_M_without 47 = .ok (.ldc2_w 247, 3) := by decide +kernel
theorem d_M_without_50 : decode b_M_without 50 = .ok (.goto 12, 3) := by decide +kernel
theorem d_M_without_53 : decode b_M_without 53 = .ok (.ldc2_w 104, 3) := by decide +kernel
theorem d_M_without_56 : decode b_M_without 56 = .ok (.lload 8, 2) := by decide +kernel
theorem d_M_without_58 : decode b_M_without 58 = .ok (.lmul, 1) := by decide +kernel
theorem d_M_without_59 : decode b_M_without 59 = .ok (.lload 6, 2) := by decide +kernel
theorem d_M_without_61 : decode b_M_without 61 = .ok (.lsub, 1) := by decide +kernel
theorem d_M_without_62 : decode b_M_without 62 = .ok (.lstore 11, 2) := by decide +kernel
theorem d_M_without_64 : decode b_M_without 64 = .ok (.lload 8, 2) := by decide +kernel
theorem d_M_without_66 : decode b_M_without 66 = .ok (.lstore 6, 2) := by decide +kernel
theorem d_M_without_68 : decode b_M_without 68 = .ok (.lload 11, 2) := by decide +kernel
theorem d_M_without_70 : decode b_M_without 70 = .ok (.lstore 8, 2) := by decide +kernel
theorem d_M_without_72 : decode b_M_without 72 = .ok (.iload_n 0, 1) := by decide +kernel
theorem d_M_without_73 : decode b_M_without 73 = .ok (.ifCond .ne 8, 3) := by decide +kernel
theorem d_M_without_76 : decode b_M_without 76 = .ok (.lload 8, 2) := by decide +kernel
theorem d_M_without_78 : decode b_M_without 78 = .ok (.goto 27, 3) := by decide +kernel
theorem d_M_without_81 : decode b_M_without 81 = .ok (.iload_n 0, 1) := by decide +kernel
theorem d_M_without_82 : decode b_M_without 82 = .ok (.iconst 1, 1) := by decide +kernel
theorem d_M_without_83 : decode b_M_without 83 = .ok (.if_icmp .ne 11, 3) := by decide +kernel
theorem d_M_without_86 : decode b_M_without 86 = .ok (.lload 8, 2) := by decide +kernel
theorem d_M_without_88 : decode b_M_without 88 = .ok (.lload 4, 2) := by decide +kernel
theorem d_M_without_90 : decode b_M_without 90 = .ok (.lsub, 1) := by decide +kernel
theorem d_M_without_91 : decode b_M_without 91 = .ok (.goto 14, 3) := by decide +kernel
theorem d_M_without_94 : decode b_M_without 94 = .ok (.lload 8, 2) := by decide +kernel
theorem d_M_without_96 : decode b_M_without 96 = .ok (.ldc2_w 221, 3) := by decide +kernel
theorem d_M_without_99 : decode b_M_without 99 = .ok (.lload 4, 2) := by decide +kernel
theorem d_M_without_101 : decode b_M_without 101 = .ok (.lmul, 1) := by decide +kernel
theorem d_M_without_102 : decode b_M_without 102 = .ok (.lsub, 1) := by decide +kernel
theorem d_M_without_103 : decode b_M_without 103 = .ok (.lload_n 2, 1) := by decide +kernel
theorem d_M_without_104 : decode b_M_without 104 = .ok (.lsub, 1) := by decide +kernel
theorem d_M_without_105 : decode b_M_without 105 = .ok (.lstore 13, 2) := by decide +kernel
theorem d_M_without_107 : decode b_M_without 107 = .ok (.lload 4, 2) := by decide +kernel
theorem d_M_without_109 : decode b_M_without 109 = .ok (.lstore_n 2, 1) := by decide +kernel
theorem d_M_without_110 : decode b_M_without 110 = .ok (.lload 13, 2) := by decide +kernel
theorem d_M_without_112 : decode b_M_without 112 = .ok (.lstore 4, 2) := by decide +kernel
theorem d_M_without_114 : decode b_M_without 114 = .ok (.iinc 10 1, 3) := by decide +kernel
theorem d_M_without_117 : decode b_M_without 117 = .ok (.goto (-103), 3) := by decide +kernel
theorem d_M_without_120 : decode b_M_without 120 = .ok (.lload 4, 2) := by decide +kernel
theorem d_M_without_122 : decode b_M_without 122 = .ok (.lreturn, 1) := by decide +kernel
theorem d_M_ring_0 : decode b_M_ring 0 = .ok (.iload_n 1, 1) := by decide +kernel
theorem d_M_ring_1 : decode b_M_ring 1 = .ok (.i2l, 1) := by decide +kernel
theorem d_M_ring_2 : decode b_M_ring 2 = .ok (.lconst 0, 1) := by decide +kernel
theorem d_M_ring_3 : decode b_M_ring 3 = .ok (.ldc2_w 249, 3) := by decide +kernel
theorem d_M_ring_6 : decode b_M_ring 6 = .ok (.invokestatic 100, 3) := by decide +kernel
theorem d_M_ring_9 : decode b_M_ring 9 = .ok (.ifCond .eq 16, 3) := by decide +kernel
theorem d_M_ring_12 : decode b_M_ring 12 = .ok (.aload_n 0, 1) := by decide +kernel
theorem d_M_ring_13 : decode b_M_ring 13 = .ok (.iconst 0, 1) := by decide +kernel
theorem d_M_ring_14 : decode b_M_ring 14 = .ok (.iload_n 1, 1) := by decide +kernel
theorem d_M_ring_15 : decode b_M_ring 15 = .ok (.invokestatic 251, 3) := by decide +kernel
theorem d_M_ring_18 : decode b_M_ring 18 = .ok (.lconst 1, 1) := by decide +kernel
theorem d_M_ring_19 : decode b_M_ring 19 = .ok (.invokevirtual 236, 3) := by decide +kernel
theorem d_M_ring_22 : decode b_M_ring 22 = .ok (.goto 4, 3) := by decide +kernel
theorem d_M_ring_25 : decode b_M_ring 25 = .ok (.iconst (-1), 1) := by decide +kernel
theorem d_M_ring_26 : decode b_M_ring 26 = .ok (.ireturn, 1) := by decide +kernel
theorem d_M_withinOf_0 : decode b_M_withinOf 0 = .ok (.lconst 0, 1) := by decide +kernel
theorem d_M_withinOf_1 : decode b_M_withinOf 1 = .ok (.lstore_n 1, 1) := by decide +kernel
theorem d_M_withinOf_2 : decode b_M_withinOf 2 = .ok (.iconst 0, 1) := by decide +kernel
theorem d_M_withinOf_3 : decode b_M_withinOf 3 = .ok (.istore_n 3, 1) := by decide +kernel
theorem d_M_withinOf_4 : decode b_M_withinOf 4 = .ok (.iload_n 3, 1) := by decide +kernel
theorem d_M_withinOf_5 : decode b_M_withinOf 5 = .ok (.iload_n 0, 1) := by decide +kernel
theorem d_M_withinOf_6 : decode b_M_withinOf 6 = .ok (.if_icmp .gt 17, 3) := by decide +kernel
theorem d_M_withinOf_9 : decode b_M_withinOf 9 = .ok (.lload_n 1, 1) := by decide +kernel
theorem d_M_withinOf_10 : decode b_M_withinOf 10 = .ok (.iconst 0, 1) := by decide +kernel
theorem d_M_withinOf_11 : decode b_M_withinOf 11 = .ok (.iload_n 3, 1) := by decide +kernel
theorem d_M_withinOf_12 : decode b_M_withinOf 12 = .ok (.invokestatic 251, 3) := by decide +kernel
theorem d_M_withinOf_15 : decode b_M_withinOf 15 = .ok (.ladd, 1) := by decide +kernel
theorem d_M_withinOf_16 : decode b_M_withinOf 16 = .ok (.lstore_n 1, 1) := by decide +kernel
theorem d_M_withinOf_17 : decode b_M_withinOf 17 = .ok (.iinc 3 1, 3) := by decide +kernel
theorem d_M_withinOf_20 : decode b_M_withinOf 20 = .ok (.goto (-16), 3) := by decide +kernel
theorem d_M_withinOf_23 : decode b_M_withinOf 23 = .ok (.lload_n 1, 1) := by decide +kernel
theorem d_M_withinOf_24 : decode b_M_withinOf 24 = .ok (.lreturn, 1) := by decide +kernel
theorem d_M_within_0 : decode b_M_within 0 = .ok (.iload_n 1, 1) := by decide +kernel
theorem d_M_within_1 : decode b_M_within 1 = .ok (.i2l, 1) := by decide +kernel
theorem d_M_within_2 : decode b_M_within 2 = .ok (.lconst 0, 1) := by decide +kernel
theorem d_M_within_3 : decode b_M_within 3 = .ok (.ldc2_w 249, 3) := by decide +kernel
theorem d_M_within_6 : decode b_M_within 6 = .ok (.invokestatic 100, 3) := by decide +kernel
theorem d_M_within_9 : decode b_M_within 9 = .ok (.ifCond .eq 15, 3) := by decide +kernel
theorem d_M_within_12 : decode b_M_within 12 = .ok (.aload_n 0, 1) := by decide +kernel
theorem d_M_within_13 : decode b_M_within 13 = .ok (.iload_n 1, 1) := by decide +kernel
theorem d_M_within_14 : decode b_M_within 14 = .ok (.invokestatic 255, 3) := by decide +kernel
theorem d_M_within_17 : decode b_M_within 17 = .ok (.lconst 1, 1) := by decide +kernel
theorem d_M_within_18 : decode b_M_within 18 = .ok (.invokevirtual 236, 3) := by decide +kernel
theorem d_M_within_21 : decode b_M_within 21 = .ok (.goto 4, 3) := by decide +kernel
theorem d_M_within_24 : decode b_M_within 24 = .ok (.iconst (-1), 1) := by decide +kernel
theorem d_M_within_25 : decode b_M_within 25 = .ok (.ireturn, 1) := by decide +kernel
theorem d_M_edge_0 : decode b_M_edge 0 = .ok (.iload_n 1, 1) := by decide +kernel
theorem d_M_edge_1 : decode b_M_edge 1 = .ok (.i2l, 1) := by decide +kernel
theorem d_M_edge_2 : decode b_M_edge 2 = .ok (.lconst 0, 1) := by decide +kernel
theorem d_M_edge_3 : decode b_M_edge 3 = .ok (.ldc2_w 249, 3) := by decide +kernel
theorem d_M_edge_6 : decode b_M_edge 6 = .ok (.invokestatic 100, 3) := by decide +kernel
theorem d_M_edge_9 : decode b_M_edge 9 = .ok (.ifCond .eq 19, 3) := by decide +kernel
theorem d_M_edge_12 : decode b_M_edge 12 = .ok (.aload_n 0, 1) := by decide +kernel
theorem d_M_edge_13 : decode b_M_edge 13 = .ok (.iconst 0, 1) := by decide +kernel
theorem d_M_edge_14 : decode b_M_edge 14 = .ok (.iload_n 1, 1) := by decide +kernel
theorem d_M_edge_15 : decode b_M_edge 15 = .ok (.invokestatic 251, 3) := by decide +kernel
theorem d_M_edge_18 : decode b_M_edge 18 = .ok (.iload_n 1, 1) := by decide +kernel
theorem d_M_edge_19 : decode b_M_edge 19 = .ok (.invokestatic 255, 3) := by decide +kernel
theorem d_M_edge_22 : decode b_M_edge 22 = .ok (.invokevirtual 236, 3) := by decide +kernel
theorem d_M_edge_25 : decode b_M_edge 25 = .ok (.goto 4, 3) := by decide +kernel
theorem d_M_edge_28 : decode b_M_edge 28 = .ok (.iconst (-1), 1) := by decide +kernel
theorem d_M_edge_29 : decode b_M_edge 29 = .ok (.ireturn, 1) := by decide +kernel
theorem d_M_beyond_0 : decode b_M_beyond 0 = .ok (.iload_n 1, 1) := by decide +kernel
theorem d_M_beyond_1 : decode b_M_beyond 1 = .ok (.invokestatic 213, 3) := by decide +kernel
theorem d_M_beyond_4 : decode b_M_beyond 4 = .ok (.ifCond .eq 35, 3) := by decide +kernel
theorem d_M_beyond_7 : decode b_M_beyond 7 = .ok (.iload_n 2, 1) := by decide +kernel
theorem d_M_beyond_8 : decode b_M_beyond 8 = .ok (.i2l, 1) := by decide +kernel
theorem d_M_beyond_9 : decode b_M_beyond 9 = .ok (.lconst 0, 1) := by decide +kernel
theorem d_M_beyond_10 : decode b_M_beyond 10 = .ok (.ldc2_w 219, 3) := by decide +kernel
theorem d_M_beyond_13 : decode b_M_beyond 13 = .ok (.invokestatic 100, 3) := by decide +kernel
theorem d_M_beyond_16 : decode b_M_beyond 16 = .ok (.ifCond .eq 23, 3) := by decide +kernel
theorem d_M_beyond_19 : decode b_M_beyond 19 = .ok (.aload_n 0, 1) := by decide +kernel
theorem d_M_beyond_20 : decode b_M_beyond 20 = .ok (.aload_n 0, 1) := by decide +kernel
theorem d_M_beyond_21 : decode b_M_beyond 21 = .ok (.iload_n 1, 1) := by decide +kernel
theorem d_M_beyond_22 : decode b_M_beyond 22 = .ok (.invokevirtual 178, 3) := by decide +kernel
theorem d_M_beyond_25 : decode b_M_beyond 25 = .ok (.invokestatic 207, 3) := by decide +kernel
theorem d_M_beyond_28 : decode b_M_beyond 28 = .ok (.iload_n 2, 1) := by decide +kernel
theorem d_M_beyond_29 : decode b_M_beyond 29 = .ok (.invokestatic 251, 3) := by decide +kernel
theorem d_M_beyond_32 : decode b_M_beyond 32 = .ok (.lconst 1, 1) := by decide +kernel
theorem d_M_beyond_33 : decode b_M_beyond 33 = .ok (.invokevirtual 236, 3) := by decide +kernel
theorem d_M_beyond_36 : decode b_M_beyond 36 = .ok (.goto 4, 3) := by decide +kernel
theorem d_M_beyond_39 : decode b_M_beyond 39 = .ok (.iconst (-1), 1) := by decide +kernel
theorem d_M_beyond_40 : decode b_M_beyond 40 = .ok (.ireturn, 1) := by decide +kernel
theorem d_M_houses_0 : decode b_M_houses 0 = .ok (.iload_n 1, 1) := by decide +kernel
theorem d_M_houses_1 : decode b_M_houses 1 = .ok (.i2l, 1) := by decide +kernel
theorem d_M_houses_2 : decode b_M_houses 2 = .ok (.lconst 0, 1) := by decide +kernel
theorem d_M_houses_3 : decode b_M_houses 3 = .ok (.ldc2_w 219, 3) := by decide +kernel
theorem d_M_houses_6 : decode b_M_houses 6 = .ok (.invokestatic 100, 3) := by decide +kernel
theorem d_M_houses_9 : decode b_M_houses 9 = .ok (.ifCond .ne 5, 3) := by decide +kernel
theorem d_M_houses_12 : decode b_M_houses 12 = .ok (.iconst (-1), 1) := by decide +kernel
theorem d_M_houses_13 : decode b_M_houses 13 = .ok (.ireturn, 1) := by decide +kernel
theorem d_M_houses_14 : decode b_M_houses 14 = .ok (.lconst 0, 1) := by decide +kernel
theorem d_M_houses_15 : decode b_M_houses 15 = .ok (.lstore_n 2, 1) := by decide +kernel
theorem d_M_houses_16 : decode b_M_houses 16 = .ok (.iconst 0, 1) := by decide +kernel
theorem d_M_houses_17 : decode b_M_houses 17 = .ok (.istore 4, 2) := by decide +kernel
theorem d_M_houses_19 : decode b_M_houses 19 = .ok (.iload 4, 2) := by decide +kernel
theorem d_M_houses_21 : decode b_M_houses 21 = .ok (.iload_n 1, 1) := by decide +kernel
theorem d_M_houses_22 : decode b_M_houses 22 = .ok (.if_icmp .gt 22, 3) := by decide +kernel
theorem d_M_houses_25 : decode b_M_houses 25 = .ok (.lload_n 2, 1) := by decide +kernel
theorem d_M_houses_26 : decode b_M_houses 26 = .ok (.ldc2_w 98, 3) := by decide +kernel
theorem d_M_houses_29 : decode b_M_houses 29 = .ok (.iconst 2, 1) := by decide +kernel
theorem d_M_houses_30 : decode b_M_houses 30 = .ok (.iload 4, 2) := by decide +kernel
theorem d_M_houses_32 : decode b_M_houses 32 = .ok (.invokestatic 251, 3) := by decide +kernel
theorem d_M_houses_35 : decode b_M_houses 35 = .ok (.lmul, 1) := by decide +kernel
theorem d_M_houses_36 : decode b_M_houses 36 = .ok (.ladd, 1) := by decide +kernel
theorem d_M_houses_37 : decode b_M_houses 37 = .ok (.lstore_n 2, 1) := by decide +kernel
theorem d_M_houses_38 : decode b_M_houses 38 = .ok (.iinc 4 1, 3) := by decide +kernel
theorem d_M_houses_41 : decode b_M_houses 41 = .ok (.goto (-22), 3) := by decide +kernel
theorem d_M_houses_44 : decode b_M_houses 44 = .ok (.aload_n 0, 1) := by decide +kernel
theorem d_M_houses_45 : decode b_M_houses 45 = .ok (.lload_n 2, 1) := by decide +kernel
theorem d_M_houses_46 : decode b_M_houses 46 = .ok (.lconst 1, 1) := by decide +kernel
theorem d_M_houses_47 : decode b_M_houses 47 = .ok (.invokevirtual 236, 3) := by decide +kernel
theorem d_M_houses_50 : decode b_M_houses 50 = .ok (.ireturn, 1) := by decide +kernel
theorem d_M_noStreets_0 : decode b_M_noStreets 0 = .ok (.iload_n 1, 1) := by decide +kernel
theorem d_M_noStreets_1 : decode b_M_noStreets 1 = .ok (.invokestatic 106, 3) := by decide +kernel
theorem d_M_noStreets_4 : decode b_M_noStreets 4 = .ok (.ifCond .ne 5, 3) := by decide +kernel
theorem d_M_noStreets_7 : decode b_M_noStreets 7 = .ok (.iconst (-1), 1) := by decide +kernel
theorem d_M_noStreets_8 : decode b_M_noStreets 8 = .ok (.ireturn, 1) := by decide +kernel
theorem d_M_noStreets_9 : decode b_M_noStreets 9 = .ok (.aload_n 0, 1) := by decide +kernel
theorem d_M_noStreets_10 : decode b_M_noStreets 10 = .ok (.getfield 7, 3) := by decide +kernel
theorem d_M_noStreets_13 : decode b_M_noStreets 13 = .ok (.iload_n 1, 1) := by decide +kernel
theorem d_M_noStreets_14 : decode b_M_noStreets 14 = .ok (.iaload, 1) := by decide +kernel
theorem d_M_noStreets_15 : decode b_M_noStreets 15 = .ok (.ifCond .ge 9, 3) := by decide +kernel
theorem d_M_noStreets_18 : decode b_M_noStreets 18 = .ok (.aload_n 0, 1) := by decide +kernel
theorem d_M_noStreets_19 : decode b_M_noStreets 19 = .ok (.iconst 1, 1) := by decide +kernel
theorem d_M_noStreets_20 : decode b_M_noStreets 20 = .ok (.invokevirtual 110, 3) := by decide +kernel
theorem d_M_noStreets_23 : decode b_M_noStreets 23 = .ok (.ireturn, 1) := by decide +kernel
theorem d_M_noStreets_24 : decode b_M_noStreets 24 = .ok (.iconst 1, 1) := by decide +kernel
theorem d_M_noStreets_25 : decode b_M_noStreets 25 = .ok (.istore_n 2, 1) := by decide +kernel
theorem d_M_noStreets_26 : decode b_M_noStreets 26 = .ok (.iconst 0, 1) := by decide +kernel
theorem d_M_noStreets_27 : decode b_M_noStreets 27 = .ok (.istore_n 3, 1) := by decide +kernel
theorem d_M_noStreets_28 : decode b_M_noStreets 28 = .ok (.iload_n 3, 1) := by decide +kernel
theorem d_M_noStreets_29 : decode b_M_noStreets 29 = .ok (.aload_n 0, 1) := by decide +kernel
theorem d_M_noStreets_30 : decode b_M_noStreets 30 = .ok (.getfield 7, 3) := by decide +kernel
theorem d_M_noStreets_33 : decode b_M_noStreets 33 = .ok (.iload_n 1, 1) := by decide +kernel
theorem d_M_noStreets_34 : decode b_M_noStreets 34 = .ok (.iaload, 1) := by decide +kernel
theorem d_M_noStreets_35 : decode b_M_noStreets 35 = .ok (.if_icmp .ge 36, 3) := by decide +kernel
theorem d_M_noStreets_38 : decode b_M_noStreets 38 = .ok (.iload_n 2, 1) := by decide +kernel
theorem d_M_noStreets_39 : decode b_M_noStreets 39 = .ok (.ifCond .eq 24, 3) := by decide +kernel
theorem d_M_noStreets_42 : decode b_M_noStreets 42 = .ok (.aload_n 0, 1) := by decide +kernel
theorem d_M_noStreets_43 : decode b_M_noStreets 43 = .ok (.getfield 13, 3) := by decide +kernel
theorem d_M_noStreets_46 : decode b_M_noStreets 46 = .ok (.bipush 40, 2) := by decide +kernel
theorem d_M_noStreets_48 : decode b_M_noStreets 48 = .ok (.iload_n 1, 1) := by decide +kernel
theorem d_M_noStreets_49 : decode b_M_noStreets 49 = .ok (.imul, 1) := by decide +kernel
theorem d_M_noStreets_50 : decode b_M_noStreets 50 = .ok (.iload_n 3, 1) := by decide +kernel
theorem d_M_noStreets_51 : decode b_M_noStreets 51 = .ok (.iadd, 1) := by decide +kernel
theorem d_M_noStreets_52 : decode b_M_noStreets 52 = .ok (.iaload, 1) := by decide +kernel
theorem d_M_noStreets_53 : decode b_M_noStreets 53 = .ok (.invokestatic 131, 3) := by decide +kernel
theorem d_M_noStreets_56 : decode b_M_noStreets 56 = .ok (.ifCond .eq 7, 3) := by decide +kernel
theorem d_M_noStreets_59 : decode b_M_noStreets 59 = .ok (.iconst 1, 1) := by decide +kernel
theorem d_M_noStreets_60 : decode b_M_noStreets 60 = .ok (.goto 4, 3) := by decide +kernel
theorem d_M_noStreets_63 : decode b_M_noStreets 63 = .ok (.iconst 0, 1) := by decide +kernel
theorem d_M_noStreets_64 : decode b_M_noStreets 64 = .ok (.istore_n 2, 1) := by decide +kernel
theorem d_M_noStreets_65 : decode b_M_noStreets 65 = .ok (.iinc 3 1, 3) := by decide +kernel
theorem d_M_noStreets_68 : decode b_M_noStreets 68 = .ok (.goto (-40), 3) := by decide +kernel
theorem d_M_noStreets_71 : decode b_M_noStreets 71 = .ok (.iload_n 2, 1) := by decide +kernel
theorem d_M_noStreets_72 : decode b_M_noStreets 72 = .ok (.ifCond .eq 7, 3) := by decide +kernel
theorem d_M_noStreets_75 : decode b_M_noStreets 75 = .ok (.iconst 0, 1) := by decide +kernel
theorem d_M_noStreets_76 : decode b_M_noStreets 76 = .ok (.goto 8, 3) := by decide +kernel
theorem d_M_noStreets_79 : decode b_M_noStreets 79 = .ok (.aload_n 0, 1) := by decide +kernel
theorem d_M_noStreets_80 : decode b_M_noStreets 80 = .ok (.iconst 3, 1) := by decide +kernel
theorem d_M_noStreets_81 : decode b_M_noStreets 81 = .ok (.invokevirtual 110, 3) := by decide +kernel
theorem d_M_noStreets_84 : decode b_M_noStreets 84 = .ok (.ireturn, 1) := by decide +kernel
theorem d_M_walk_0 : decode b_M_walk 0 = .ok (.aload_n 0, 1) := by decide +kernel
theorem d_M_walk_1 : decode b_M_walk 1 = .ok (.iload_n 1, 1) := by decide +kernel
theorem d_M_walk_2 : decode b_M_walk 2 = .ok (.invokevirtual 259, 3) := by decide +kernel
theorem d_M_walk_5 : decode b_M_walk 5 = .ok (.istore_n 2, 1) := by decide +kernel
theorem d_M_walk_6 : decode b_M_walk 6 = .ok (.iload_n 2, 1) := by decide +kernel
theorem d_M_walk_7 : decode b_M_walk 7 = .ok (.ifCond .ge 5, 3) := by decide +kernel
theorem d_M_walk_10 : decode b_M_walk 10 = .ok (.iload_n 2, 1) := by decide +kernel
theorem d_M_walk_11 : decode b_M_walk 11 = .ok (.ireturn, 1) := by decide +kernel
theorem d_M_walk_12 : decode b_M_walk 12 = .ok (.iconst 0, 1) := by decide +kernel
theorem d_M_walk_13 : decode b_M_walk 13 = .ok (.istore_n 3, 1) := by decide +kernel
theorem d_M_walk_14 : decode b_M_walk 14 = .ok (.iconst 0, 1) := by decide +kernel
theorem d_M_walk_15 : decode b_M_walk 15 = .ok (.istore 4, 2) := by decide +kernel
theorem d_M_walk_17 : decode b_M_walk 17 = .ok (.iload 4, 2) := by decide +kernel
theorem d_M_walk_19 : decode b_M_walk 19 = .ok (.aload_n 0, 1) := by decide +kernel
theorem d_M_walk_20 : decode b_M_walk 20 = .ok (.getfield 7, 3) := by decide +kernel
theorem d_M_walk_23 : decode b_M_walk 23 = .ok (.iload_n 1, 1) := by decide +kernel
theorem d_M_walk_24 : decode b_M_walk 24 = .ok (.iaload, 1) := by decide +kernel
theorem d_M_walk_25 : decode b_M_walk 25 = .ok (.if_icmp .ge 30, 3) := by decide +kernel
theorem d_M_walk_28 : decode b_M_walk 28 = .ok (.aload_n 0, 1) := by decide +kernel
theorem d_M_walk_29 : decode b_M_walk 29 = .ok (.getfield 48, 3) := by decide +kernel
theorem d_M_walk_32 : decode b_M_walk 32 = .ok (.iload_n 3, 1) := by decide +kernel
theorem d_M_walk_33 : decode b_M_walk 33 = .ok (.aload_n 0, 1) := by decide +kernel
theorem d_M_walk_34 : decode b_M_walk 34 = .ok (.getfield 13, 3) := by decide +kernel
theorem d_M_walk_37 : decode b_M_walk 37 = .ok (.bipush 40, 2) := by decide +kernel
theorem d_M_walk_39 : decode b_M_walk 39 = .ok (.iload_n 1, 1) := by decide +kernel
theorem d_M_walk_40 : decode b_M_walk 40 = .ok (.imul, 1) := by decide +kernel
theorem d_M_walk_41 : decode b_M_walk 41 = .ok (.iload 4, 2) := by decide +kernel
theorem d_M_walk_43 : decode b_M_walk 43 = .ok (.iadd, 1) := by decide +kernel
theorem d_M_walk_44 : decode b_M_walk 44 = .ok (.iaload, 1) := by decide +kernel
theorem d_M_walk_45 : decode b_M_walk 45 = .ok (.invokestatic 134, 3) := by decide +kernel
theorem d_M_walk_48 : decode b_M_walk 48 = .ok (.istore_n 3, 1) := by decide +kernel
theorem d_M_walk_49 : decode b_M_walk 49 = .ok (.iinc 4 1, 3) := by decide +kernel
theorem d_M_walk_52 : decode b_M_walk 52 = .ok (.goto (-35), 3) := by decide +kernel
theorem d_M_walk_55 : decode b_M_walk 55 = .ok (.iload_n 3, 1) := by decide +kernel
theorem d_M_walk_56 : decode b_M_walk 56 = .ok (.bipush 9, 2) := by decide +kernel
theorem d_M_walk_58 : decode b_M_walk 58 = .ok (.if_icmp .le 6, 3) := by decide +kernel
theorem d_M_walk_61 : decode b_M_walk 61 = .ok (.bipush (-6), 2) := by decide +kernel
theorem d_M_walk_63 : decode b_M_walk 63 = .ok (.ireturn, 1) := by decide +kernel
theorem d_M_walk_64 : decode b_M_walk 64 = .ok (.aload_n 0, 1) := by decide +kernel
theorem d_M_walk_65 : decode b_M_walk 65 = .ok (.aload_n 0, 1) := by decide +kernel
theorem d_M_walk_66 : decode b_M_walk 66 = .ok (.getfield 7, 3) := by decide +kernel
theorem d_M_walk_69 : decode b_M_walk 69 = .ok (.iload_n 1, 1) := by decide +kernel
theorem d_M_walk_70 : decode b_M_walk 70 = .ok (.iaload, 1) := by decide +kernel
theorem d_M_walk_71 : decode b_M_walk 71 = .ok (.iload_n 3, 1) := by decide +kernel
theorem d_M_walk_72 : decode b_M_walk 72 = .ok (.isub, 1) := by decide +kernel
theorem d_M_walk_73 : decode b_M_walk 73 = .ok (.invokevirtual 114, 3) := by decide +kernel
theorem d_M_walk_76 : decode b_M_walk 76 = .ok (.istore 4, 2) := by decide +kernel
theorem d_M_walk_78 : decode b_M_walk 78 = .ok (.aload_n 0, 1) := by decide +kernel
theorem d_M_walk_79 : decode b_M_walk 79 = .ok (.aload_n 0, 1) := by decide +kernel
theorem d_M_walk_80 : decode b_M_walk 80 = .ok (.getfield 48, 3) := by decide +kernel
theorem d_M_walk_83 : decode b_M_walk 83 = .ok (.iload_n 3, 1) := by decide +kernel
theorem d_M_walk_84 : decode b_M_walk 84 = .ok (.invokevirtual 138, 3) := by decide +kernel
theorem d_M_walk_87 : decode b_M_walk 87 = .ok (.ireturn, 1) := by decide +kernel
theorem d_M_reaches_0 : decode b_M_reaches 0 = .ok (.aload_n 0, 1) := by decide +kernel
theorem d_M_reaches_1 : decode b_M_reaches 1 = .ok (.iload_n 1, 1) := by decide +kernel
theorem d_M_reaches_2 : decode b_M_reaches 2 = .ok (.invokevirtual 259, 3) := by decide +kernel
theorem d_M_reaches_5 : decode b_M_reaches 5 = .ok (.istore_n 2, 1) := by decide +kernel
theorem d_M_reaches_6 : decode b_M_reaches 6 = .ok (.iload_n 2, 1) := by decide +kernel
theorem d_M_reaches_7 : decode b_M_reaches 7 = .ok (.ifCond .ge 5, 3) := by decide +kernel
theorem d_M_reaches_10 : decode b_M_reaches 10 = .ok (.iload_n 2, 1) := by decide +kernel
theorem d_M_reaches_11 : decode b_M_reaches 11 = .ok (.ireturn, 1) := by decide +kernel
theorem d_M_reaches_12 : decode b_M_reaches 12 = .ok (.iconst 0, 1) := by decide +kernel
theorem d_M_reaches_13 : decode b_M_reaches 13 = .ok (.istore_n 3, 1) := by decide +kernel
theorem d_M_reaches_14 : decode b_M_reaches 14 = .ok (.iconst 0, 1) := by decide +kernel
theorem d_M_reaches_15 : decode b_M_reaches 15 = .ok (.istore 4, 2) := by decide +kernel
theorem d_M_reaches_17 : decode b_M_reaches 17 = .ok (.iconst 0, 1) := by decide +kernel
theorem d_M_reaches_18 : decode b_M_reaches 18 = .ok (.istore 5, 2) := by decide +kernel
theorem d_M_reaches_20 : decode b_M_reaches 20 = .ok (.iconst 0, 1) := by decide +kernel
theorem d_M_reaches_21 : decode b_M_reaches 21 = .ok (.istore 6, 2) := by decide +kernel
theorem d_M_reaches_23 : decode b_M_reaches 23 = .ok (.iload 6, 2) := by decide +kernel
theorem d_M_reaches_25 : decode b_M_reaches 25 = .ok (.aload_n 0, 1) := by decide +kernel
theorem d_M_reaches_26 : decode b_M_reaches 26 = .ok (.getfield 7, 3) := by decide +kernel
theorem d_M_reaches_29 : decode b_M_reaches 29 = .ok (.iload_n 1, 1) := by decide +kernel
theorem d_M_reaches_30 : decode b_M_reaches 30 = .ok (.iaload, 1) := by decide +kernel
theorem d_M_reaches_31 : decode b_M_reaches 31 = .ok (.if_icmp .ge 45, 3) := by decide +kernel
theorem d_M_reaches_34 : decode b_M_reaches 34 = .ok (.aload_n 0, 1) := by decide +kernel
theorem d_M_reaches_35 : decode b_M_reaches 35 = .ok (.getfield 48, 3) := by decide +kernel
theorem d_M_reaches_38 : decode b_M_reaches 38 = .ok (.iload_n 3, 1) := by decide +kernel
theorem d_M_reaches_39 : decode b_M_reaches 39 = .ok (.aload_n 0, 1) := by decide +kernel
theorem d_M_reaches_40 : decode b_M_reaches 40 = .ok (.getfield 13, 3) := by decide +kernel
theorem d_M_reaches_43 : decode b_M_reaches 43 = .ok (.bipush 40, 2) := by decide +kernel
theorem d_M_reaches_45 : decode b_M_reaches 45 = .ok (.iload_n 1, 1) := by decide +kernel
theorem d_M_reaches_46 : decode b_M_reaches 46 = .ok (.imul, 1) := by decide +kernel
theorem d_M_reaches_47 : decode b_M_reaches 47 = .ok (.iload 6, 2) := by decide +kernel
theorem d_M_reaches_49 : decode b_M_reaches 49 = .ok (.iadd, 1) := by decide +kernel
theorem d_M_reaches_50 : decode b_M_reaches 50 = .ok (.iaload, 1) := by decide +kernel
theorem d_M_reaches_51 : decode b_M_reaches 51 = .ok (.invokestatic 134, 3) := by decide +kernel
theorem d_M_reaches_54 : decode b_M_reaches 54 = .ok (.istore_n 3, 1) := by decide +kernel
theorem d_M_reaches_55 : decode b_M_reaches 55 = .ok (.iload_n 3, 1) := by decide +kernel
theorem d_M_reaches_56 : decode b_M_reaches 56 = .ok (.iload 4, 2) := by decide +kernel
theorem d_M_reaches_58 : decode b_M_reaches 58 = .ok (.if_icmp .le 12, 3) := by decide +kernel
theorem d_M_reaches_61 : decode b_M_reaches 61 = .ok (.iload_n 3, 1) := by decide +kernel
theorem d_M_reaches_62 : decode b_M_reaches 62 = .ok (.istore 4, 2) := by decide +kernel
theorem d_M_reaches_64 : decode b_M_reaches 64 = .ok (.iload 6, 2) := by decide +kernel
theorem d_M_reaches_66 : decode b_M_reaches 66 = .ok (.iconst 1, 1) := by decide +kernel
theorem d_M_reaches_67 : decode b_M_reaches 67 = .ok (.iadd, 1) := by decide +kernel
theorem d_M_reaches_68 : decode b_M_reaches 68 = .ok (.istore 5, 2) := by decide +kernel
theorem d_M_reaches_70 : decode b_M_reaches 70 = .ok (.iinc 6 1, 3) := by decide +kernel
theorem d_M_reaches_73 : decode b_M_reaches 73 = .ok (.goto (-50), 3) := by decide +kernel
theorem d_M_reaches_76 : decode b_M_reaches 76 = .ok (.aload_n 0, 1) := by decide +kernel
theorem d_M_reaches_77 : decode b_M_reaches 77 = .ok (.iload 5, 2) := by decide +kernel
theorem d_M_reaches_79 : decode b_M_reaches 79 = .ok (.invokevirtual 114, 3) := by decide +kernel
theorem d_M_reaches_82 : decode b_M_reaches 82 = .ok (.istore 6, 2) := by decide +kernel
theorem d_M_reaches_84 : decode b_M_reaches 84 = .ok (.iload 4, 2) := by decide +kernel
theorem d_M_reaches_86 : decode b_M_reaches 86 = .ok (.ireturn, 1) := by decide +kernel
theorem d_M_sees_0 : decode b_M_sees 0 = .ok (.aload_n 0, 1) := by decide +kernel
theorem d_M_sees_1 : decode b_M_sees 1 = .ok (.iload_n 1, 1) := by decide +kernel
theorem d_M_sees_2 : decode b_M_sees 2 = .ok (.invokevirtual 259, 3) := by decide +kernel
theorem d_M_sees_5 : decode b_M_sees 5 = .ok (.istore_n 2, 1) := by decide +kernel
theorem d_M_sees_6 : decode b_M_sees 6 = .ok (.iload_n 2, 1) := by decide +kernel
theorem d_M_sees_7 : decode b_M_sees 7 = .ok (.ifCond .ge 5, 3) := by decide +kernel
theorem d_M_sees_10 : decode b_M_sees 10 = .ok (.iload_n 2, 1) := by decide +kernel
theorem d_M_sees_11 : decode b_M_sees 11 = .ok (.ireturn, 1) := by decide +kernel
theorem d_M_sees_12 : decode b_M_sees 12 = .ok (.iconst 0, 1) := by decide +kernel
theorem d_M_sees_13 : decode b_M_sees 13 = .ok (.istore_n 3, 1) := by decide +kernel
theorem d_M_sees_14 : decode b_M_sees 14 = .ok (.iconst 0, 1) := by decide +kernel
theorem d_M_sees_15 : decode b_M_sees 15 = .ok (.istore 4, 2) := by decide +kernel
theorem d_M_sees_17 : decode b_M_sees 17 = .ok (.iload 4, 2) := by decide +kernel
theorem d_M_sees_19 : decode b_M_sees 19 = .ok (.aload_n 0, 1) := by decide +kernel
theorem d_M_sees_20 : decode b_M_sees 20 = .ok (.getfield 7, 3) := by decide +kernel
theorem d_M_sees_23 : decode b_M_sees 23 = .ok (.iload_n 1, 1) := by decide +kernel
theorem d_M_sees_24 : decode b_M_sees 24 = .ok (.iaload, 1) := by decide +kernel
theorem d_M_sees_25 : decode b_M_sees 25 = .ok (.if_icmp .gt 85, 3) := by decide +kernel
theorem d_M_sees_28 : decode b_M_sees 28 = .ok (.iconst 1, 1) := by decide +kernel
theorem d_M_sees_29 : decode b_M_sees 29 = .ok (.istore 5, 2) := by decide +kernel
theorem d_M_sees_31 : decode b_M_sees 31 = .ok (.iconst 0, 1) := by decide +kernel
theorem d_M_sees_32 : decode b_M_sees 32 = .ok (.istore 6, 2) := by decide +kernel
theorem d_M_sees_34 : decode b_M_sees 34 = .ok (.iload 4, 2) := by decide +kernel
theorem d_M_sees_36 : decode b_M_sees 36 = .ok (.iconst 1, 1) := by decide +kernel
theorem d_M_sees_37 : decode b_M_sees 37 = .ok (.isub, 1) := by decide +kernel
theorem d_M_sees_38 : decode b_M_sees 38 = .ok (.istore 7, 2) := by decide +kernel
theorem d_M_sees_40 : decode b_M_sees 40 = .ok (.iload 7, 2) := by decide +kernel
